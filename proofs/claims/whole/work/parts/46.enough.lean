section EN
variable {g : mg} {l : Launch} {s : ST}
def tp : Nat → Int64
  | 0 => 1
  | n + 1 => tp n * 10
def th (t : Int64) : Nat → Int64
  | 0 => 1
  | n + 1 => th t n * t
def od (f : Int64) : Nat → Int64
  | 0 => 1000000
  | k + 1 => (od f k * f) / 1000000
def fdn (t : Int64) (n : Nat) : Int64 := (1000000 * (tp n - th t n)) / tp n
/-- from n on, m more -/
def enR (t : Int64) (k : Nat) (z : Int64) : Nat → Nat → Int32
  | 0, _ => I (-9)
  | m + 1, n => if lg_cmp (od (fdn t n) k) z < 0 then enR t k z m (n + 1) else I (n : Int)
theorem tp_ok : ∀ n, n < 10 → ¬ (lg_cmp (tp n) 0 ≤ 0) ∧ ¬ tp n = 0 := by decide
theorem wp_odds {h : AH} {Q : Int64 → AH → Prop} {k : Nat} (hk : k ≤ 10) (f : Int64) (q : Q (od f k) h) : SpL g l mX7_oddsOfAll h [.int (I (k : Int)), .long f] Q := by
  refine sX7_oddsOfAll (fun X O => ?_)
  have lp : ∀ (m i : Nat), i + m = k → GL g l X Q h 7 [(0, .int (I (k : Int))), (1, .long f), (3, .long (od f i)), (5, .int (I (i : Int)))] [] := by
    intro m
    induction m with
    | zero =>
      intro i hi
      refine bX7_oddsOfAll_7 O (br_t ((I_le (by omega) (by omega) (by omega) (by omega)).mpr (by omega)) ?_)
      rw [show i = k by omega]
      exact q
    | succ m ih =>
      intro i hi
      refine bX7_oddsOfAll_7 O (br_f (fun e => absurd ((I_le (by omega) (by omega) (by omega) (by omega)).mp e) (by omega)) ?_)
      rw [I_add]
      exact ih (i + 1) (by omega)
  exact lp k 0 (by omega)
theorem lp_enough {X : XT} {h : AH} {Q : Int32 → AH → Prop} (O : Ok (FF g l X) RX7 cX7_enough 10 mX7_enough.2.2.2.2 (some .int)) {k : Nat} (hk : k ≤ 10) (z : Int32) (q : Q (enR (h.1 21 4).toInt64 k (z.toInt64 * 10000) 9 1) h) : ∀ (m n : Nat), n + m = 9 → enR (h.1 21 4).toInt64 k (z.toInt64 * 10000) 9 1 = enR (h.1 21 4).toInt64 k (z.toInt64 * 10000) m (n + 1) → GI g l X Q h 31 [(0, .ref 0), (1, .int (I (k : Int))), (2, .int z), (3, .long (tp n)), (5, .long (th (h.1 21 4).toInt64 n)), (7, .int (I ((n + 1 : Nat) : Int)))] [] := by
  intro m
  induction m with
  | zero =>
    intro n hn e
    refine bX7_enough_31 O (br_t ((I_lt (by omega) (by omega) (by omega) (by omega)).mpr (by omega)) ?_)
    rw [e] at q
    exact q
  | succ m ih =>
    intro n hn e
    have t := tp_ok (n + 1) (by omega)
    refine bX7_enough_31 O (br_f (fun e => absurd ((I_lt (by omega) (by omega) (by omega) (by omega)).mp e) (by omega)) ?_)
    show ((lg_cmp (tp (n + 1)) 0 ≤ 0) → _) ∧ _
    refine br_f t.1 ⟨t.2, wp_odds hk _ ?_⟩
    show (lg_cmp (od (fdn (h.1 21 4).toInt64 (n + 1)) k) (z.toInt64 * 10000) < 0 → _) ∧ (¬ lg_cmp (od (fdn (h.1 21 4).toInt64 (n + 1)) k) (z.toInt64 * 10000) < 0 → _)
    have e2 : enR (h.1 21 4).toInt64 k (z.toInt64 * 10000) (m + 1) (n + 1) = if lg_cmp (od (fdn (h.1 21 4).toInt64 (n + 1)) k) (z.toInt64 * 10000) < 0 then enR (h.1 21 4).toInt64 k (z.toInt64 * 10000) m (n + 1 + 1) else I ((n + 1 : Nat) : Int) := rfl
    refine ⟨fun c => ?_, fun c => ?_⟩
    · rw [I_add]
      refine ih (n + 1) (by omega) ?_
      rw [e, e2, if_pos c]
    · rw [e, e2, if_neg c] at q
      exact q
theorem lp_menough {X : XT} {h : AH} {Q : Int32 → AH → Prop} (O : Ok (FF g l X) RX8 cX8_enough 13 mX8_enough.2.2.2.2 (some .int)) {k : Nat} (hk : k ≤ 10) (z : Int32) (q : Q (enR (h.1 101 4).toInt64 k (z.toInt64 * 10000) 9 1) h) : ∀ (m n : Nat), n + m = 9 → enR (h.1 101 4).toInt64 k (z.toInt64 * 10000) 9 1 = enR (h.1 101 4).toInt64 k (z.toInt64 * 10000) m (n + 1) → GI g l X Q h 30 [(0, .ref 82), (1, .int (I (k : Int))), (2, .int z), (3, .long (tp n)), (5, .long (th (h.1 101 4).toInt64 n)), (7, .int (I ((n + 1 : Nat) : Int)))] [] := by
  intro m
  induction m with
  | zero =>
    intro n hn e
    refine bX8_enough_30 O (br_t ((I_lt (by omega) (by omega) (by omega) (by omega)).mpr (by omega)) ?_)
    rw [e] at q
    exact q
  | succ m ih =>
    intro n hn e
    have t := tp_ok (n + 1) (by omega)
    have c1 : 10 * tp n = tp (n + 1) := Int64.mul_comm _ _
    have c2 : (h.1 101 4).toInt64 * th (h.1 101 4).toInt64 n = th (h.1 101 4).toInt64 (n + 1) := Int64.mul_comm _ _
    refine bX8_enough_30 O (br_f (fun e => absurd ((I_lt (by omega) (by omega) (by omega) (by omega)).mp e) (by omega)) ?_)
    rw [c1, c2]
    refine ⟨t.2, ?_⟩
    have e2 : enR (h.1 101 4).toInt64 k (z.toInt64 * 10000) (m + 1) (n + 1) = if lg_cmp (od (fdn (h.1 101 4).toInt64 (n + 1)) k) (z.toInt64 * 10000) < 0 then enR (h.1 101 4).toInt64 k (z.toInt64 * 10000) m (n + 1 + 1) else I ((n + 1 : Nat) : Int) := rfl
    have lp : ∀ (m' i : Nat), i + m' = k → GI g l X Q h 75 [(0, .ref 82), (1, .int (I (k : Int))), (2, .int z), (3, .long (tp (n + 1))), (5, .long (th (h.1 101 4).toInt64 (n + 1))), (7, .int (I ((n + 1 : Nat) : Int))), (8, .long (fdn (h.1 101 4).toInt64 (n + 1))), (10, .long (od (fdn (h.1 101 4).toInt64 (n + 1)) i)), (12, .int (I (i : Int)))] [] := by
      intro m'
      induction m' with
      | zero =>
        intro i hi
        refine bX8_enough_75 O (br_t ((I_le (by omega) (by omega) (by omega) (by omega)).mpr (by omega)) ?_)
        rw [show i = k by omega, show (10000 : Int64) * z.toInt64 = z.toInt64 * 10000 from Int64.mul_comm _ _]
        refine ⟨fun c => ?_, fun c => ?_⟩
        · rw [I_add]
          refine ih (n + 1) (by omega) ?_
          rw [e, e2, if_pos c]
        · rw [e, e2, if_neg c] at q
          exact q
      | succ m' ih' =>
        intro i hi
        refine bX8_enough_75 O (br_f (fun e => absurd ((I_le (by omega) (by omega) (by omega) (by omega)).mp e) (by omega)) ?_)
        rw [I_add]
        exact ih' (i + 1) (by omega)
    exact lp k 0 (by omega)
theorem J_enough {h : AH} (hI : Inv h) (x1 x2 : Int32) : JI g l mX7_enough mX8_enough h [.ref 0, .int x1, .int x2] [.ref 82, .int x1, .int x2] := by
  have hI2 := hI
  obtain ⟨s, v, R, M⟩ := hI
  obtain ⟨z1, a1, a2, rfl⟩ := I_any x1
  obtain ⟨z2, b1, b2, rfl⟩ := I_any x2
  have out : (z1 < 1 ∨ 10 < z1 ∨ z2 < 0 ∨ 100 < z2) → SpI g l mX8_enough h [.ref 82, .int (I z1), .int (I z2)] (fun u h2 => u = I (-1) ∧ Inv h2) := fun c => sX8_enough (fun X O => wp_in ⟨a1, a2⟩ ⟨by omega, by omega⟩ ⟨by omega, by omega⟩ (fun _ _ => br_f n10 (wp_in ⟨b1, b2⟩ ⟨by omega, by omega⟩ ⟨by omega, by omega⟩ (fun _ _ => by omega) (fun _ => nb_f y00 ⟨rfl, hI2⟩))) (fun _ => br_t y00 ⟨rfl, hI2⟩))
  refine sX7_enough (fun X O => ?_)
  simp (disch := omega) only [I_lt, I_lt0, I_le]
  refine ⟨fun q => out (by omega), fun q => ⟨fun q2 => out (by omega), fun q2 => ⟨fun q3 => out (by omega), fun q3 => ⟨fun q4 => ?_, fun q4 => out (by omega)⟩⟩⟩⟩
  obtain ⟨k, rfl⟩ : ∃ n : Nat, z1 = n := ⟨z1.toNat, by omega⟩
  refine lp_enough O (by omega) (I z2) ?_ 9 0 (by omega) rfl
  refine sX8_enough (fun X O => wp_in ⟨a1, a2⟩ ⟨by omega, by omega⟩ ⟨by omega, by omega⟩ (fun _ _ => br_f n10 (wp_in ⟨b1, b2⟩ ⟨by omega, by omega⟩ ⟨by omega, by omega⟩ (fun _ _ => nb_t n10 ?_) (fun _ => by omega))) (fun _ => by omega))
  refine lp_menough O (by omega) (I z2) ⟨?_, hI2⟩ 9 0 (by omega) rfl
  rw [R.1.2.2.2.1 4 (by omega), M.1.2.2.2.1 4 (by omega)]
end EN
