/-! where to chip next -/
def orB (f : Nat → Bool) : Nat → Nat
  | 0 => 0
  | c + 1 => if f c then orB f c ||| 2 ^ c else orB f c
def anB (f : Nat → Bool) : Nat → Bool
  | 0 => false
  | c + 1 => anB f c || f c
theorem anB_f {f : Nat → Bool} : ∀ n, anB f n = false ↔ ∀ i, i < n → f i = false
  | 0 => ⟨fun _ i h => absurd h (by omega), fun _ => rfl⟩
  | n + 1 => by
    have ih := anB_f (f := f) n
    unfold anB
    rw [Bool.or_eq_false_iff, ih]
    constructor
    · rintro ⟨a, b⟩ i hi
      by_cases e : i = n
      · rw [e]; exact b
      · exact a i (by omega)
    · intro a
      exact ⟨fun i hi => a i (by omega), a n (by omega)⟩
theorem orB_bit {f : Nat → Bool} : ∀ n i, (orB f n).testBit i = (decide (i < n) && f i)
  | 0, i => by
    unfold orB
    rw [Nat.zero_testBit, decide_eq_false (by omega)]
    rfl
  | n + 1, i => by
    have ih := orB_bit (f := f) n i
    unfold orB
    by_cases e : i = n
    · subst e
      rw [decide_eq_false (Nat.lt_irrefl i), Bool.false_and] at ih
      rw [decide_eq_true (Nat.lt_succ_self i), Bool.true_and]
      split
      · rename_i h
        rw [Nat.testBit_or, Nat.testBit_two_pow_self, h, Bool.or_true]
      · rename_i h
        rw [ih]
        simpa using h
    · have d : decide (i < n + 1) = decide (i < n) := by
        by_cases z : i < n
        · rw [decide_eq_true z, decide_eq_true (by omega)]
        · rw [decide_eq_false z, decide_eq_false (by omega)]
      rw [d]
      split
      · rw [Nat.testBit_or, Nat.testBit_two_pow_of_ne (Ne.symm e), Bool.or_false, ih]
      · exact ih
theorem orB_and {f k : Nat → Bool} {n : Nat} : orB f n &&& orB k n = 0 ↔ anB (fun i => k i && f i) n = false := by
  rw [anB_f]
  constructor
  · intro h i hi
    have : (orB f n &&& orB k n).testBit i = false := by rw [h]; exact Nat.zero_testBit i
    rw [Nat.testBit_and, orB_bit, orB_bit, decide_eq_true hi, Bool.true_and, Bool.true_and] at this
    rw [Bool.and_comm]
    exact this
  · intro h
    apply Nat.eq_of_testBit_eq
    intro i
    rw [Nat.testBit_and, orB_bit, orB_bit, Nat.zero_testBit]
    by_cases z : i < n
    · rw [decide_eq_true z, Bool.true_and, Bool.true_and, Bool.and_comm]
      exact h i z
    · rw [decide_eq_false z]
      rfl
theorem orB_0 {f : Nat → Bool} {n : Nat} : orB f n = 0 ↔ anB f n = false := by
  rw [anB_f]
  constructor
  · intro h i hi
    have : (orB f n).testBit i = false := by rw [h]; exact Nat.zero_testBit i
    rw [orB_bit, decide_eq_true hi, Bool.true_and] at this
    exact this
  · intro h
    apply Nat.eq_of_testBit_eq
    intro i
    rw [orB_bit, Nat.zero_testBit]
    by_cases z : i < n
    · rw [h i z, Bool.and_false]
    · rw [decide_eq_false z]
      rfl
theorem orB_lt {f : Nat → Bool} : ∀ n, orB f n < 2 ^ n
  | 0 => by unfold orB; omega
  | n + 1 => by
    have ih := orB_lt (f := f) n
    unfold orB
    rw [Nat.pow_succ]
    split
    · have : orB f n ||| 2 ^ n < 2 ^ (n + 1) := Nat.or_lt_two_pow (by rw [Nat.pow_succ]; omega) (by rw [Nat.pow_succ]; omega)
      rw [Nat.pow_succ] at this
      exact this
    · omega
theorem hbt_or {e : PE} {k : Nat} : ∀ n, hbt e k n = orB (fun c => hdb e k c) n
  | 0 => rfl
  | n + 1 => by
    have ih := hbt_or (e := e) (k := k) n
    have hb := hbt_lt (e := e) (k := k) n
    unfold hbt orB
    rw [← ih]
    split
    · have := Nat.two_pow_add_eq_or_of_lt hb 1
      rw [Nat.mul_one] at this
      rw [Nat.or_comm, ← this, Nat.add_comm]
    · rfl
def thR (s : ST) (r : Nat) (c : Nat) : Bool := mRo s c == r
/-- a chip of room r has painting p -/
def hsR (s : ST) (r p : Nat) : Bool := anB (fun c => thR s r c && hdb (pE s) p c) s.2.1.1
def unS (s : ST) (r : Nat) : Nat → Nat
  | 0 => 0
  | p + 1 => if hsR s r p then unS s r p else unS s r p + 1
def unV (s : ST) (r : Nat) : Int := if anB (thR s r) s.2.1.1 then (unS s r (np (pE s)) : Int) else -1
def nxS (s : ST) : Nat → Int × Int
  | 0 => (-9, -1)
  | r + 1 => if unV s r ≤ (nxS s r).2 then nxS s r else ((r : Int), unV s r)
theorem unS_le {s : ST} {r : Nat} : ∀ p, unS s r p ≤ p
  | 0 => Nat.le_refl _
  | p + 1 => by
    have := unS_le (s := s) (r := r) p
    unfold unS
    split <;> omega
theorem unV_in {s : ST} (v : vS s) {r : Nat} : -1 ≤ unV s r ∧ unV s r ≤ 40 := by
  have n40 : np (pE s) ≤ 40 := np_le v.2.1
  have := unS_le (s := s) (r := r) (np (pE s))
  unfold unV
  split <;> omega
theorem nxS_in {s : ST} (v : vS s) : ∀ r, -1 ≤ (nxS s r).2 ∧ (nxS s r).2 ≤ 40
  | 0 => by unfold nxS; omega
  | r + 1 => by
    have ih := nxS_in v r
    have := unV_in v (r := r)
    unfold nxS
    split
    · exact ih
    · exact this
section JN
variable {g : mg} {l : Launch} {h : AH} {s : ST}
theorem wp_inRoom {Q : Int32 → AH → Prop} (v : vS s) (R : RC s h) {r : Nat} (hr : r < 6) (k : Q (I (orB (thR s r) s.2.1.1 : Int)) h) : SpI g l mX4_inRoom h [.ref 6, .int (I (r : Int))] Q := by
  have h4 := v.2.1.1
  obtain ⟨p, hp⟩ := R.1.2.1
  have l6 : lay 6 = (4, 3) := rfl
  refine sX4_inRoom l6 (fun X O => ?_)
  have lp : ∀ m c, c + m = s.2.1.1 → GI g l X Q h 4 [(0, .ref 6), (1, .int (I (r : Int))), (2, .int (I (orB (thR s r) c : Int))), (3, .int (I (c : Int)))] [] := by
    intro m
    induction m with
    | zero =>
      intro c hc
      have ce : c = s.2.1.1 := by omega
      refine bX4_inRoom_4 O l6 ?_
      rw [hp.2.2.1, ce]
      exact br_t ((I_le (by omega) (by omega) (by omega) (by omega)).mpr (by omega)) k
    | succ m ih =>
      intro c hc
      have r5 : mRo s c ≤ 5 := (v.2.1.2 c (by omega)).1
      have er : h.1 (p c) 2 = I (mRo s c : Int) := (hp.2.2.2 c (by omega)).1
      have os : orB (thR s r) (c + 1) = if thR s r c then orB (thR s r) c ||| 2 ^ c else orB (thR s r) c := rfl
      refine bX4_inRoom_4 O l6 ?_
      rw [hp.2.2.1]
      refine br_f (fun q => absurd ((I_le (by omega) (by omega) (by omega) (by omega)).mp q) (by omega)) ⟨c, rfl, by omega, p c, hp.2.1 c (by omega), lay_pm (Or.inl rfl) hp.1 (by omega), ?_⟩
      rw [er, I_eq (by omega) (by omega) (by omega) (by omega), I_add, I_shl (by omega), I_or]
      have := ih (c + 1) (by omega)
      rw [os] at this
      refine ⟨fun y => ?_, fun y => ?_⟩
      · rw [if_neg (by unfold thR; simp; omega)] at this
        exact this
      · rw [if_pos (by unfold thR; simp; omega)] at this
        exact this
  exact lp s.2.1.1 0 (by omega)
theorem wp_notIn {Q : Int32 → AH → Prop} (v : vS s) (P : pcE (pE s) h) {r : Nat} (k : Q (I (unS s r (np (pE s)) : Int)) h) : SpI g l mX3_notIn h [.ref 26, .int (I (orB (thR s r) s.2.1.1 : Int))] Q := by
  have n40 : np (pE s) ≤ 40 := np_le v.2.1
  have h4 := v.2.1.1
  refine sX3_notIn (fun X O => ?_)
  have lp : ∀ m p, p + m = np (pE s) → GI g l X Q h 4 [(0, .ref 26), (1, .int (I (orB (thR s r) s.2.1.1 : Int))), (2, .int (I (unS s r p : Int))), (3, .int (I (p : Int)))] [] := by
    intro m
    induction m with
    | zero =>
      intro p hp
      have pe : p = np (pE s) := by omega
      refine bX3_notIn_4 O ?_
      rw [P.1, pe]
      exact br_t ((I_le (by omega) (by omega) (by omega) (by omega)).mpr (by omega)) k
    | succ m ih =>
      intro p hp
      have hb : hbt (pE s) p s.2.1.1 < 2 ^ s.2.1.1 := hbt_lt _
      have p4 : 2 ^ s.2.1.1 ≤ 2 ^ 4 := Nat.pow_le_pow_right (by omega) h4
      have al : hbt (pE s) p s.2.1.1 &&& orB (thR s r) s.2.1.1 ≤ hbt (pE s) p s.2.1.1 := Nat.and_le_left
      have us : unS s r (p + 1) = if hsR s r p then unS s r p else unS s r p + 1 := rfl
      have ul := unS_le (s := s) (r := r) p
      have iff : hbt (pE s) p s.2.1.1 &&& orB (thR s r) s.2.1.1 = 0 ↔ hsR s r p = false := by
        rw [hbt_or]
        exact orB_and
      have e28 : h.1 28 p = I (hbt (pE s) p s.2.1.1 : Int) := (P.2.1 p (by omega)).2.1
      refine bX3_notIn_4 O ?_
      rw [P.1]
      refine br_f (fun q => absurd ((I_le (by omega) (by omega) (by omega) (by omega)).mp q) (by omega)) ⟨p, rfl, by omega, ?_⟩
      rw [e28, I_and, I_eq0 (by omega) (by omega), I_add, I_add]
      have := ih (p + 1) (by omega)
      rw [us] at this
      refine ⟨fun y => ?_, fun y => ?_⟩
      · have yt : hsR s r p = true := by
          cases z : hsR s r p with
          | true => rfl
          | false => exact absurd (iff.mpr z) (by omega)
        rw [if_pos yt] at this
        exact this
      · have yf : hsR s r p = false := iff.mp (by omega)
        rw [yf] at this
        exact this
  exact lp (np (pE s)) 0 (by omega)
theorem J_next (hI : Inv h) : JI g l mX7_next mX8_next h [.ref 0] [.ref 82] := by
  obtain ⟨s, v, R, M⟩ := hI
  have ok : okPE (pE s) := v.2.1
  have h4 : s.2.1.1 ≤ 4 := ok.1
  have n40 := np_le ok
  have key : ∀ h1, RC s h1 → RM s h1 → SpI g l mX8_next h1 [.ref 82] (fun u h2 => u = I (nxS s 6).1 ∧ Inv h2) := by
    intro h1 R1 M1
    refine sX8_next (fun X O => wp_make v R1 M1 (fun h2 R2 M2 _ P2 => ?_))
    have e6 : h2.1 82 6 = I (s.2.1.1 : Int) := M2.1.2.1.1
    have e38 : h2.1 82 38 = I (np (pE s) : Int) := P2.1
    have lp : ∀ m r, r + m = 6 → GI g l X (fun u h2 => u = I (nxS s 6).1 ∧ Inv h2) h2 11 [(0, .ref 82), (1, .int (I (nxS s r).1)), (2, .int (I (nxS s r).2)), (3, .int (I (r : Int)))] [] := by
      intro m
      induction m with
      | zero =>
        intro r hr
        have re : r = 6 := by omega
        rw [re]
        exact bX8_next_11 O (br_t (by decide) ⟨rfl, s, v, R2, M2⟩)
      | succ m ih =>
        intro r hr
        have ns : nxS s (r + 1) = if unV s r ≤ (nxS s r).2 then nxS s r else ((r : Int), unV s r) := rfl
        have uv := unV_in v (r := r)
        have nv := nxS_in v r
        -- the comparison at the end of a room
        have fin : ((I (unV s r) ≤ I (nxS s r).2 → GI g l X (fun u h2 => u = I (nxS s 6).1 ∧ Inv h2) h2 11 [(0, .ref 82), (1, .int (I (nxS s r).1)), (2, .int (I (nxS s r).2)), (3, .int (I (r : Int) + I 1))] []) ∧ (¬ I (unV s r) ≤ I (nxS s r).2 → GI g l X (fun u h2 => u = I (nxS s 6).1 ∧ Inv h2) h2 11 [(0, .ref 82), (1, .int (I (r : Int))), (2, .int (I (unV s r))), (3, .int (I (r : Int) + I 1))] [])) := by
          rw [I_le (by omega) (by omega) (by omega) (by omega), I_add]
          have := ih (r + 1) (by omega)
          rw [ns] at this
          refine ⟨fun y => ?_, fun y => ?_⟩
          · rw [if_pos y] at this
            exact this
          · rw [if_neg y] at this
            exact this
        -- paintings
        have lpP : anB (thR s r) s.2.1.1 = true → ∀ m p, p + m = np (pE s) → GI g l X (fun u h2 => u = I (nxS s 6).1 ∧ Inv h2) h2 76 [(0, .ref 82), (1, .int (I (nxS s r).1)), (2, .int (I (nxS s r).2)), (3, .int (I (r : Int))), (4, .int (I 1)), (5, .int (I (unS s r p : Int))), (6, .int (I (p : Int)))] [] := by
          intro ht m
          induction m with
          | zero =>
            intro p hp
            have pe : p = np (pE s) := by omega
            have eu : unV s r = (unS s r (np (pE s)) : Int) := by unfold unV; rw [if_pos ht]
            refine bX8_next_76 O ?_
            rw [e38, pe, ← eu]
            exact br_t ((I_le (by omega) (by omega) (by omega) (by omega)).mpr (by omega)) fin
          | succ m ih2 =>
            intro p hp
            have hpn : p < np (pE s) := by omega
            have us : unS s r (p + 1) = if hsR s r p then unS s r p else unS s r p + 1 := rfl
            have lpC : ∀ m c, c + m = s.2.1.1 → GI g l X (fun u h2 => u = I (nxS s 6).1 ∧ Inv h2) h2 96 [(0, .ref 82), (1, .int (I (nxS s r).1)), (2, .int (I (nxS s r).2)), (3, .int (I (r : Int))), (4, .int (I 1)), (5, .int (I (unS s r p : Int))), (6, .int (I (p : Int))), (7, .int (I (if anB (fun c => thR s r c && hdb (pE s) p c) c then 1 else 0))), (8, .int (I (c : Int)))] [] := by
              intro m
              induction m with
              | zero =>
                intro c hc
                have ce : c = s.2.1.1 := by omega
                have I2 := ih2 (p + 1) (by omega)
                rw [us] at I2
                refine bX8_next_96 O ?_
                rw [e6, ce, I_add, I_add]
                refine br_t ((I_le (by omega) (by omega) (by omega) (by omega)).mpr (by omega)) ?_
                show ((I (if hsR s r p = true then 1 else 0) = 0) → _) ∧ (¬ (I (if hsR s r p = true then 1 else 0) = 0) → _)
                cases hh : hsR s r p with
                | false =>
                  rw [hh] at I2
                  exact br_t y00 I2
                | true =>
                  rw [hh] at I2
                  exact br_f n10 I2
              | succ m ih3 =>
                intro c hc
                have hcn : c < s.2.1.1 := by omega
                have r5 : mRo s c ≤ 5 := (v.2.1.2 c hcn).1
                have as : anB (fun c => thR s r c && hdb (pE s) p c) (c + 1) = (anB (fun c => thR s r c && hdb (pE s) p c) c || (thR s r c && hdb (pE s) p c)) := rfl
                have IH : ∀ t : Bool, anB (fun c => thR s r c && hdb (pE s) p c) (c + 1) = t → GI g l X (fun u h2 => u = I (nxS s 6).1 ∧ Inv h2) h2 96 [(0, .ref 82), (1, .int (I (nxS s r).1)), (2, .int (I (nxS s r).2)), (3, .int (I (r : Int))), (4, .int (I 1)), (5, .int (I (unS s r p : Int))), (6, .int (I (p : Int))), (7, .int (I (if t then 1 else 0))), (8, .int (I (c : Int) + I 1))] [] := fun t et => by
                  rw [I_add, ← et]
                  exact ih3 (c + 1) (by omega)
                refine bX8_next_96 O ?_
                rw [e6]
                refine br_f (fun q => absurd ((I_le (by omega) (by omega) (by omega) (by omega)).mp q) (by omega)) ?_
                cases ha : anB (fun c => thR s r c && hdb (pE s) p c) c with
                | true => exact nb_t n10 (IH true (by rw [as, ha]; rfl))
                | false =>
                  refine nb_f y00 ⟨c, rfl, by omega, ?_⟩
                  rw [e84M M2.1 hcn, I_eq (by omega) (by omega) (by omega) (by omega)]
                  refine ⟨fun y => IH false ?_, fun y => wp_hasPainting v M2.1 P2.2.2.1 hcn hpn ?_⟩
                  · have tf : thR s r c = false := by unfold thR; simp; omega
                    rw [as, ha, tf]
                    rfl
                  · have tt : thR s r c = true := by unfold thR; simp; omega
                    cases hh : hdb (pE s) p c with
                    | false => exact br_t y00 (IH false (by rw [as, ha, tt, hh]; rfl))
                    | true => exact br_f n10 (IH true (by rw [as, ha, tt, hh]; rfl))
            refine bX8_next_76 O ?_
            rw [e38]
            exact br_f (fun q => absurd ((I_le (by omega) (by omega) (by omega) (by omega)).mp q) (by omega)) (br_f n10 (lpC s.2.1.1 0 (by omega)))
        -- whether there are chips
        have lpT : ∀ m c, c + m = s.2.1.1 → GI g l X (fun u h2 => u = I (nxS s 6).1 ∧ Inv h2) h2 23 [(0, .ref 82), (1, .int (I (nxS s r).1)), (2, .int (I (nxS s r).2)), (3, .int (I (r : Int))), (4, .int (I (if anB (thR s r) c then 1 else 0))), (5, .int (I (c : Int)))] [] := by
          intro m
          induction m with
          | zero =>
            intro c hc
            have ce : c = s.2.1.1 := by omega
            refine bX8_next_23 O ?_
            rw [e6, ce]
            refine br_t ((I_le (by omega) (by omega) (by omega) (by omega)).mpr (by omega)) ?_
            cases ht : anB (thR s r) s.2.1.1 with
            | true => exact br_f n10 (lpP ht (np (pE s)) 0 (by omega))
            | false =>
              have eu : unV s r = -1 := by unfold unV; rw [ht]; rfl
              rw [eu] at fin
              exact br_t y00 (bX8_next_76 O ⟨fun _ => fin, fun _ => br_t y00 fin⟩)
          | succ m ih3 =>
            intro c hc
            have hcn : c < s.2.1.1 := by omega
            have r5 : mRo s c ≤ 5 := (v.2.1.2 c hcn).1
            have as : anB (thR s r) (c + 1) = (anB (thR s r) c || thR s r c) := rfl
            have IH : ∀ t : Bool, anB (thR s r) (c + 1) = t → GI g l X (fun u h2 => u = I (nxS s 6).1 ∧ Inv h2) h2 23 [(0, .ref 82), (1, .int (I (nxS s r).1)), (2, .int (I (nxS s r).2)), (3, .int (I (r : Int))), (4, .int (I (if t then 1 else 0))), (5, .int (I (c : Int) + I 1))] [] := fun t et => by
              rw [I_add, ← et]
              exact ih3 (c + 1) (by omega)
            refine bX8_next_23 O ?_
            rw [e6]
            refine br_f (fun q => absurd ((I_le (by omega) (by omega) (by omega) (by omega)).mp q) (by omega)) ?_
            cases ha : anB (thR s r) c with
            | true => exact nb_t n10 (IH true (by rw [as, ha]; rfl))
            | false =>
              refine nb_f y00 ⟨c, rfl, by omega, ?_⟩
              rw [e84M M2.1 hcn, I_eq (by omega) (by omega) (by omega) (by omega)]
              refine ⟨fun y => IH false ?_, fun y => IH true ?_⟩
              · have tf : thR s r c = false := by unfold thR; simp; omega
                rw [as, ha, tf]
                rfl
              · have tt : thR s r c = true := by unfold thR; simp; omega
                rw [as, ha, tt]
                rfl
        exact bX8_next_11 O (br_f (fun q => absurd ((I_le (by omega) (by omega) (by omega) (by omega)).mp q) (by omega)) (lpT s.2.1.1 0 (by omega)))
    exact lp 6 0 (by omega)
  refine sX7_next (fun X O => wp_settle v R M (fun h1 R1 M1 _ P1 => ?_))
  have lp : ∀ m r, r + m = 6 → GI g l X (fun v h1 => SpI g l mX8_next h1 [.ref 82] (fun u h2 => u = v ∧ Inv h2)) h1 11 [(0, .ref 0), (1, .int (I (nxS s r).1)), (2, .int (I (nxS s r).2)), (3, .int (I (r : Int)))] [] := by
    intro m
    induction m with
    | zero =>
      intro r hr
      have re : r = 6 := by omega
      rw [re]
      exact bX7_next_11 O (br_t (by decide) (key h1 R1 M1))
    | succ m ih =>
      intro r hr
      have ns : nxS s (r + 1) = if unV s r ≤ (nxS s r).2 then nxS s r else ((r : Int), unV s r) := rfl
      have uv := unV_in v (r := r)
      have nv := nxS_in v r
      have IH := ih (r + 1) (by omega)
      rw [ns] at IH
      have p4 : 2 ^ s.2.1.1 ≤ 2 ^ 4 := Nat.pow_le_pow_right (by omega) h4
      have ol := orB_lt (f := thR s r) s.2.1.1
      have o0 := orB_0 (f := thR s r) (n := s.2.1.1)
      refine bX7_next_11 O (br_f (fun q => absurd ((I_le (by omega) (by omega) (by omega) (by omega)).mp q) (by omega)) (wp_inRoom v R1 (by omega) ?_))
      rw [I_eq0 (by omega) (by omega)]
      refine ⟨fun y => wp_notIn v P1 ?_, fun y => ?_⟩
      · have ht : anB (thR s r) s.2.1.1 = true := by
          cases z : anB (thR s r) s.2.1.1 with
          | true => rfl
          | false => exact absurd (o0.mpr z) (by omega)
        have eu : unV s r = (unS s r (np (pE s)) : Int) := by unfold unV; rw [if_pos ht]
        rw [← eu, I_le (by omega) (by omega) (by omega) (by omega), I_add]
        refine ⟨fun y => ?_, fun y => ?_⟩
        · rw [if_pos y] at IH
          exact IH
        · rw [if_neg y] at IH
          exact IH
      · have ht : anB (thR s r) s.2.1.1 = false := o0.mp (by omega)
        have eu : unV s r = -1 := by unfold unV; rw [ht]; rfl
        rw [eu, if_pos (by omega)] at IH
        rw [I_le (by omega) (by omega) (by omega) (by omega), I_add]
        exact br_t (by omega) IH
  exact lp 6 0 (by omega)
end JN
