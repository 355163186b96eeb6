/-! a row of the class's table -/
def rwd (e : PE) : Nat := if e.1.1 = 0 then 1 else szP e 0 + 1
theorem std_1 {e : PE} {l : Nat} {q : Nat → Nat} : std e l q 1 = if mvb e l q 0 then 1 else 0 := by
  show 0 + (if mvb e l q 0 then str e 0 else 0) = _
  rw [Nat.zero_add]
  rfl
theorem std_sd1 {e : PE} (h : 0 < e.1.1) {l : Nat} {q : Nat → Nat} : std e l q e.1.1 = sd1 e l q + if mvb e l q 0 then 1 else 0 := by
  have := std_mono (e := e) (l := l) (q := q) (c := 1) (n := e.1.1) (by omega)
  rw [← std_1]
  unfold sd1
  omega
theorem std_cg1 {e : PE} {l : Nat} {q r : Nat → Nat} (h : ∀ c, 1 ≤ c → mvb e l q c = mvb e l r c) : ∀ n, 1 ≤ n → std e l q n + std e l r 1 = std e l r n + std e l q 1
  | 0, h0 => absurd h0 (by omega)
  | n + 1, _ => by
    by_cases h1 : n = 0
    · subst h1
      exact Nat.add_comm _ _
    · have ih := std_cg1 h n (by omega)
      show std e l q n + (if mvb e l q n then str e n else 0) + _ = std e l r n + (if mvb e l r n then str e n else 0) + _
      rw [h n (by omega)]
      omega
theorem sd1_cg {e : PE} {l : Nat} {q r : Nat → Nat} (h : ∀ c, 1 ≤ c → mvb e l q c = mvb e l r c) : sd1 e l q = sd1 e l r := by
  by_cases hn : e.1.1 = 0
  · unfold sd1
    rw [hn]
    show 0 - _ = 0 - _
    omega
  · have a := std_cg1 h e.1.1 (by omega)
    have b := std_mono (e := e) (l := l) (q := q) (c := 1) (n := e.1.1) (by omega)
    have c := std_mono (e := e) (l := l) (q := r) (c := 1) (n := e.1.1) (by omega)
    unfold sd1
    omega
theorem std_pos1 {e : PE} {l : Nat} {q : Nat → Nat} : ∀ n, (std e l q 1 < std e l q n ↔ ∃ c, 1 ≤ c ∧ c < n ∧ mvb e l q c = true)
  | 0 => ⟨fun h => absurd h (by show ¬ _ < 0; omega), fun ⟨c, h1, h2, _⟩ => absurd h1 (by omega)⟩
  | n + 1 => by
    have ih := std_pos1 (e := e) (l := l) (q := q) n
    have sp := str_pos e n
    by_cases h1 : n = 0
    · subst h1
      exact ⟨fun h => absurd h (Nat.lt_irrefl _), fun ⟨c, h1, h2, _⟩ => absurd h1 (by omega)⟩
    · have mo := std_mono (e := e) (l := l) (q := q) (c := 1) (n := n) (by omega)
      show _ < std e l q n + (if mvb e l q n then str e n else 0) ↔ _
      by_cases m : mvb e l q n = true
      · rw [if_pos m]
        exact ⟨fun _ => ⟨n, by omega, by omega, m⟩, fun _ => by omega⟩
      · rw [if_neg m, Nat.add_zero, ih]
        refine ⟨fun ⟨c, a, b, d⟩ => ⟨c, a, by omega, d⟩, fun ⟨c, a, b, d⟩ => ⟨c, a, ?_, d⟩⟩
        have : c ≠ n := fun z => m (by rw [← z]; exact d)
        omega
theorem sd1_pos {e : PE} {l : Nat} {q : Nat → Nat} : 0 < sd1 e l q ↔ ∃ c, 1 ≤ c ∧ mvb e l q c = true := by
  have := std_pos1 (e := e) (l := l) (q := q) e.1.1
  unfold sd1
  rw [Nat.sub_pos_iff_lt, this]
  exact ⟨fun ⟨c, a, _, d⟩ => ⟨c, a, d⟩, fun ⟨c, a, d⟩ => ⟨c, a, (mvb_iff.mp d).1, d⟩⟩
/-- within a row only the first chip differs -/
theorem dgt_row {e : PE} {j x : Nat} (hx : x < rwd e) : (0 < e.1.1 → dgt e (rwd e * j + x) 0 = x) ∧ ∀ c, 1 ≤ c → c < e.1.1 → dgt e (rwd e * j + x) c = dgt e (rwd e * j) c := by
  refine ⟨fun h => ?_, fun c h1 h2 => ?_⟩
  · have ew : rwd e = szP e 0 + 1 := by unfold rwd; rw [if_neg (by omega)]
    unfold dgt
    show (rwd e * j + x) / 1 % (szP e 0 + 1) = x
    rw [Nat.div_one, ← ew, Nat.mul_add_mod, Nat.mod_eq_of_lt hx]
  · have ew : rwd e = str e 1 := by
      unfold rwd
      rw [if_neg (by omega)]
      show _ = 1 * (szP e 0 + 1)
      omega
    obtain ⟨K, hK⟩ := str_dvd e (c - 1) 1
    rw [show 1 + (c - 1) = c by omega] at hK
    have wp : 0 < rwd e := by rw [ew]; exact str_pos e 1
    unfold dgt
    rw [hK, ← ew, ← Nat.div_div_eq_div_mul, ← Nat.div_div_eq_div_mul, Nat.mul_add_div wp, Nat.div_eq_of_lt hx, Nat.mul_div_cancel_left _ wp, Nat.add_zero]
theorem b8 {n : Nat} (h : n < 128) : (I (n : Int)).toInt8.toInt32 = I (n : Int) := by
  have := bI_sb (b := n) (by omega)
  unfold bI at this
  rw [this]
  unfold sb
  rw [if_pos h]
section FL
variable {g : mg} {l : Launch} {h : AH}
/-- the table from s on -/
def lft (e : PE) (h : AH) (s : Nat) : Prop := ∀ u, s ≤ u → u < str e e.1.1 → h.1 31 u = I (Wn e (dgt e u) : Int)
theorem tLn_c {P : Nat → Nat → Prop} {h2 : AH} (d : Chg P nR h h2) : tLn h2 = tLn h := by
  unfold tLn
  rw [d.2.1 _ _ id]
theorem wp_fillRow {Q : AH → Prop} {e : PE} {p : Nat → Nat} {j m : Nat} (ok : okPE e) (K : pk e p h) (hj : rwd e * j + rwd e ≤ str e e.1.1) (L : svL e (dgt e (rwd e * j)) h m 12) (F : lft e h (rwd e * j + rwd e)) (LN : str e e.1.1 ≤ tLn h) (k : ∀ h2, Chg (fun a _ => a = 31) nR h h2 → lft e h2 (rwd e * j) → Q h2) : SpV g l mX3_fillRow h [.ref 26, .int (I ((rwd e * j : Nat) : Int)), .int (I (rwd e : Int))] Q := by
  have h4 := ok.1
  have smax := str_max ok (Nat.le_refl e.1.1)
  have w11 : rwd e ≤ 11 := by
    unfold rwd
    split
    · omega
    · have : szP e 0 ≤ 10 := (ok.2 0 (by omega)).2.2.2.1
      omega
  generalize hB : rwd e * j = B at *
  refine sX3_fillRow (fun X O => ?_)
  rw [I_sub]
  have lp : ∀ n h1, n ≤ rwd e → Chg (fun a _ => a = 31) nR h h1 → lft e h1 (B + n) → GV g l X Q h1 4 [(0, .ref 26), (1, .int (I (B : Int))), (2, .int (I (rwd e : Int))), (3, .int (I ((n : Int) - 1)))] [] := by
    intro n
    induction n with
    | zero =>
      intro h1 _ d F1
      exact bX3_fillRow_4 O (br_t ((I_lt0 (by omega) (by omega)).mpr (by omega)) (k h1 d F1))
    | succ n ih =>
      intro h1 hn d F1
      have K1 := pk_c ok d (fun a k q => by omega) (fun a k q => id) K
      have L1 : svL e (dgt e B) h1 m 12 := ⟨by rw [d.1 _ _ (by omega)]; exact L.1, L.2.1, fun i hi => by rw [d.1 _ _ (by omega), d.1 _ _ (by omega)]; exact L.2.2.1 i hi, fun l' a b => by
        obtain ⟨i, hi, z⟩ := L.2.2.2 l' a b
        exact ⟨i, hi, by rw [d.1 _ _ (by omega), d.1 _ _ (by omega)]; exact z⟩⟩
      have m12 := L.2.1
      have LN1 : str e e.1.1 ≤ tLn h1 := by rw [tLn_c d]; exact LN
      have hs : B + n < str e e.1.1 := by omega
      have R1 := dgt_row (e := e) (j := j) (x := n) (by omega)
      have R0 := dgt_row (e := e) (j := j) (x := 0) (by omega)
      rw [hB] at R1 R0
      generalize hq : dgt e (B + n) = q at *
      have v : vq e q := by rw [← hq]; exact dgt_v
      have mc : ∀ l' c, 1 ≤ c → mvb e l' q c = mvb e l' (dgt e B) c := fun l' c hc => by
        unfold mvb
        by_cases z : c < e.1.1
        · rw [R1.2 c hc z]
        · rw [decide_eq_false z]; rfl
      have sdc : ∀ l', sd1 e l' q = sd1 e l' (dgt e B) := fun l' => sd1_cg (mc l')
      have svn : 0 < m → 0 < e.1.1 := fun hm => by
        obtain ⟨l', _, hp, _⟩ := L1.2.2.1 0 hm
        obtain ⟨c, _, hc⟩ := sd1_pos.mp hp
        have := (mvb_iff.mp hc).1
        omega
      have op : n < rwd e - 1 ↔ (0 < e.1.1 ∧ q 0 < szP e 0) := by
        unfold rwd
        by_cases z : e.1.1 = 0
        · rw [if_pos z]; omega
        · rw [if_neg z]
          have := R1.1 (by omega)
          omega
      have hr : (0 < e.1.1 ∧ q 0 < szP e 0) → vq e (dgt e (B + n + 1)) ∧ dgt e (B + n + 1) 0 = q 0 + 1 ∧ ∀ c, 1 ≤ c → c < e.1.1 → dgt e (B + n + 1) c = q c := fun o => by
        have R2 := dgt_row (e := e) (j := j) (x := n + 1) (by have := op.mpr o; omega)
        rw [hB] at R2
        exact ⟨dgt_v, by rw [R1.1 o.1]; exact R2.1 o.1, fun c a b => by rw [R1.2 c a b]; exact R2.2 c a b⟩
      have W40 : ∀ {r}, vq e r → Wn e r ≤ 40 := fun vr => Nat.le_trans (Wn_le ok vr) (tot_le ok)
      -- the end of a place
      have fin : ∀ z : Nat, z ≤ 40 → z = Wn e q → GV g l X Q (sI h1 31 (B + n) (I (z : Int))) 4 [(0, .ref 26), (1, .int (I (B : Int))), (2, .int (I (rwd e : Int))), (3, .int (I ((n : Int) - 1)))] [] := fun z _ ez => by
        refine ih _ (by omega) (Chg.i d rfl) (fun u hu1 hu2 => ?_)
        rw [sI_1]
        by_cases eu : u = B + n
        · subst eu
          rw [up_s, ez, hq]
        · rw [up_n eu]
          exact F1 u (by omega) hu2
      have dn : dne e q = true → ¬ (n < rwd e - 1) ∧ m = 0 := fun D => by
        have D := dne_iff.mp D
        refine ⟨fun z => ?_, ?_⟩
        · have o := op.mp z
          have := D 0 o.1
          omega
        · apply Classical.byContradiction
          intro z
          obtain ⟨l', _, hp, _⟩ := L1.2.2.1 0 (by omega)
          obtain ⟨c, c1, hc⟩ := sd1_pos.mp hp
          rw [← mc l' c c1] at hc
          have := mvb_iff.mp hc
          have := D c this.1
          omega
      have nd : ¬ (n < rwd e - 1) → m = 0 → dne e q = true := fun z1 z2 => by
        apply Classical.byContradiction
        intro D
        obtain ⟨l', hl', w⟩ := wnt_ex ok v D
        obtain ⟨c, hc⟩ := (wnt_iff ok).mp w
        by_cases c0 : c = 0
        · subst c0
          have := mvb_iff.mp hc
          exact z1 (op.mpr ⟨this.1, this.2.1⟩)
        · obtain ⟨i, hi, _⟩ := L1.2.2.2 l' hl' (by rw [← sdc]; exact sd1_pos.mpr ⟨c, by omega, hc⟩)
          omega
      -- the serving colours
      have lp2 : ∀ u i b, i + u = m → b ≤ 40 → ((0 < e.1.1 ∧ q 0 < szP e 0) → b ≤ Wn e (dgt e (B + n + 1))) → (∀ l' : Nat, l' < 12 → (∃ i', i' < i ∧ h1.1 35 i' = I (l' : Int)) → b ≤ Wn e (nxt e l' q)) → (b = 40 ∨ ((0 < e.1.1 ∧ q 0 < szP e 0) ∧ b = Wn e (dgt e (B + n + 1))) ∨ ∃ l', l' < 12 ∧ (∃ c, 1 ≤ c ∧ mvb e l' q c = true) ∧ b = Wn e (nxt e l' q)) → ∀ w : Nat, (0 < e.1.1 → w = wb e q 0) → GV g l X Q h1 78 [(0, .ref 26), (1, .int (I (B : Int))), (2, .int (I (rwd e : Int))), (3, .int (I (n : Int))), (4, .int (I ((B + n : Nat) : Int))), (5, .int (I (if n < rwd e - 1 then 1 else 0))), (6, .int (I (w : Int))), (7, .int (I (b : Int))), (8, .int (I (i : Int)))] [] := by
        intro u
        induction u with
        | zero =>
          intro i b hi b40 A0 A1 Bb w hw
          refine bX3_fillRow_78 O ?_
          rw [L1.1, I_le (by omega) (by omega) (by omega) (by omega), I_le0 (by omega) (by omega), I_add, I_add]
          refine br_t (by omega) ?_
          have A1' : ∀ l', l' < 12 → (∃ c, 1 ≤ c ∧ mvb e l' q c = true) → b ≤ Wn e (nxt e l' q) := fun l' hl' hc => by
            obtain ⟨i', hi', z, _⟩ := L1.2.2.2 l' hl' (by rw [← sdc]; exact sd1_pos.mpr hc)
            exact A1 l' hl' ⟨i', by omega, z⟩
          have val : ¬ dne e q = true → b + 1 = Wn e q := fun D => (row_best ok v b D hr A0 A1' Bb).symm
          have st : ¬ dne e q = true → GV g l X Q (sI h1 31 (B + n) (((I ((b : Int) + 1)).toInt8.toInt32).toInt8.toInt32)) 4 [(0, .ref 26), (1, .int (I (B : Int))), (2, .int (I (rwd e : Int))), (3, .int (I ((n : Int) + -1)))] [] := fun D => by
            have := val D
            have := W40 v
            rw [show ((b : Int) + 1) = ((b + 1 : Nat) : Int) by omega, b8 (by omega), b8 (by omega)]
            exact fin (b + 1) (by omega) (val D)
          by_cases z : n < rwd e - 1
          · rw [if_pos z]
            exact nb_t n10 ⟨B + n, rfl, by omega, st (fun D => (dn D).1 z)⟩
          · rw [if_neg z]
            refine nb_f y00 ⟨fun m0 => ⟨B + n, rfl, by omega, ?_⟩, fun m0 => ⟨B + n, rfl, by omega, st (fun D => by have := (dn D).2; omega)⟩⟩
            have D := nd z (by omega)
            exact fin 0 (by omega) ((Wn_0 ok v).mpr D).symm
        | succ u ihu =>
          intro i b hi b40 A0 A1 Bb w hw
          obtain ⟨l', hl', hp, z35, z36⟩ := L1.2.2.1 i (by omega)
          have n0 := svn (by omega)
          have hw := hw n0
          subst hw
          have K2 := K1.2.2.2 l' hl'
          have al : smk e l' &&& wb e q 0 < 4096 := Nat.lt_of_le_of_lt Nat.and_le_left K2.2
          have N := nxt_dgt (l := l') hs
          rw [hq] at N
          have es := std_sd1 n0 (l := l') (q := q)
          have mv : ∃ c, 1 ≤ c ∧ mvb e l' q c = true := sd1_pos.mp (by rw [sdc]; exact hp)
          have T : h1.1 31 (B + n + std e l' q e.1.1) = I (Wn e (nxt e l' q) : Int) := by
            rw [F1 _ (by rw [es, sdc]; omega) N.2, Wn_cg N.1]
          have c40 := W40 (nxt_v (l := l') v)
          refine bX3_fillRow_78 O ?_
          rw [L1.1, I_le (by omega) (by omega) (by omega) (by omega)]
          refine br_f (by omega) ⟨i, rfl, by omega, 22, K1.2.2.1, rfl, i, rfl, by omega, l', z35, hl', ?_⟩
          rw [K2.1, I_and, I_eq0 (by omega) (by omega), show (((smk e l' &&& wb e q 0 : Nat) : Int) = 0 ↔ smk e l' &&& wb e q 0 = 0) by omega, wb_mvb n0, z36, I_add, I_add, I_add, I_add, I_add]
          have go : ∀ z : Nat, std e l' q e.1.1 = z → ((I (b : Int) ≤ h1.1 31 (B + n + z)) → GV g l X Q h1 78 [(0, .ref 26), (1, .int (I (B : Int))), (2, .int (I (rwd e : Int))), (3, .int (I (n : Int))), (4, .int (I ((B + n : Nat) : Int))), (5, .int (I (if n < rwd e - 1 then 1 else 0))), (6, .int (I (wb e q 0 : Int))), (7, .int (I (b : Int))), (8, .int (I ((i : Int) + 1)))] []) ∧ ((¬ I (b : Int) ≤ h1.1 31 (B + n + z)) → GV g l X Q h1 78 [(0, .ref 26), (1, .int (I (B : Int))), (2, .int (I (rwd e : Int))), (3, .int (I (n : Int))), (4, .int (I ((B + n : Nat) : Int))), (5, .int (I (if n < rwd e - 1 then 1 else 0))), (6, .int (I (wb e q 0 : Int))), (7, .int (h1.1 31 (B + n + z))), (8, .int (I ((i : Int) + 1)))] []) := fun z ez => by
            rw [← ez, T, I_le (by omega) (by omega) (by omega) (by omega)]
            refine ⟨fun le => ?_, fun gt => ?_⟩
            · refine ihu (i + 1) b (by omega) b40 A0 (fun l2 hl2 ⟨i', hi', y⟩ => ?_) Bb _ (fun _ => rfl)
              by_cases ei : i' = i
              · subst ei
                rw [z35] at y
                have : l' = l2 := by have := (I_eq (by omega) (by omega) (by omega) (by omega)).mp y; omega
                subst this
                omega
              · exact A1 l2 hl2 ⟨i', by omega, y⟩
            · refine ihu (i + 1) (Wn e (nxt e l' q)) (by omega) c40 (fun o => by have := A0 o; omega) (fun l2 hl2 ⟨i', hi', y⟩ => ?_) (Or.inr (Or.inr ⟨l', hl', mv, rfl⟩)) _ (fun _ => rfl)
              by_cases ei : i' = i
              · subst ei
                rw [z35] at y
                have : l' = l2 := by have := (I_eq (by omega) (by omega) (by omega) (by omega)).mp y; omega
                subst this
                omega
              · have := A1 l2 hl2 ⟨i', by omega, y⟩
                omega
          refine ⟨fun z => ?_, fun z => ?_⟩
          · rw [if_neg z, sdc] at es
            have G := go _ es
            exact ⟨B + n + (sd1 e l' (dgt e B) + 0), by congr 1, by have := N.2; omega, G.1, fun y => ⟨B + n + (sd1 e l' (dgt e B) + 0), by congr 1, by have := N.2; omega, G.2 y⟩⟩
          · rw [if_pos (Classical.not_not.mp z), sdc] at es
            have G := go _ es
            exact ⟨B + n + (sd1 e l' (dgt e B) + 1), by congr 1, by have := N.2; omega, G.1, fun y => ⟨B + n + (sd1 e l' (dgt e B) + 1), by congr 1, by have := N.2; omega, G.2 y⟩⟩
      refine bX3_fillRow_4 O ?_
      rw [show (((n + 1 : Nat) : Int) - 1) = (n : Int) by omega, I_lt0 (by omega) (by omega), I_sub, I_le (by omega) (by omega) (by omega) (by omega), I_add]
      refine br_f (by omega) ⟨fun z => ?_, fun z => ?_⟩
      · have z' : ¬ n < rwd e - 1 := by omega
        refine bX3_fillRow_25 O (br_t y00 (br_t y00 ?_))
        have := lp2 m 0 40 (by omega) (Nat.le_refl _) (fun o => absurd (op.mpr o) z') (fun l' _ ⟨i', hi', _⟩ => absurd hi' (by omega)) (Or.inl rfl) 0 (fun n0 => by
          unfold wb
          rw [if_neg (fun y => z' (op.mpr ⟨n0, y⟩))])
        rw [if_neg z'] at this
        exact this
      · have z' : n < rwd e - 1 := by omega
        have o := op.mp z'
        have ww : rwd e = szP e 0 + 1 := by unfold rwd; rw [if_neg (by omega)]
        have s10 : szP e 0 ≤ 10 := (ok.2 0 o.1).2.2.2.1
        have qn := R1.1 o.1
        refine bX3_fillRow_25 O (br_f n10 ⟨6, K1.2.1, rfl, p 0, K1.1.2.1 0 (by omega), lay_pm (Or.inl rfl) K1.1.1 (by omega), n, rfl, by omega, br_f n10 ⟨B + n + 1, by rw [I_add]; rfl, by omega, ?_⟩⟩)
        have A4 : h1.1 (p 0 + 1) n = I (coP e 0 n : Int) := (K1.1.2.2.2 0 o.1).2.2.2.1 n (by show n < szP e 0; omega)
        have c12 : coP e 0 n < 12 := (ok.2 0 o.1).2.2.2.2.1 n (by show n < szP e 0; omega)
        have vr := (hr o).1
        rw [A4, I_shl (by omega), F1 (B + n + 1) (by omega) (by omega)]
        have := lp2 m 0 (Wn e (dgt e (B + n + 1))) (by omega) (W40 vr) (fun _ => Nat.le_refl _) (fun l' _ ⟨i', hi', _⟩ => absurd hi' (by omega)) (Or.inr (Or.inl ⟨o, rfl⟩)) (2 ^ coP e 0 n) (fun _ => by
          unfold wb
          rw [if_pos o.2, qn])
        rw [if_pos z'] at this
        exact this
  exact lp (rwd e) h (Nat.le_refl _) Chg.rf F
end FL
