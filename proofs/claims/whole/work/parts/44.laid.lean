section LD
variable {g : mg} {l : Launch} {s : ST} {a b : Nat}
def nrP (L : LE) (i j e : Nat) : Bool := L.2.2.1 i e && (cB L (ltab L (i + 1)) i j e == (ltab L i j).1)
def nr (L : LE) (i j : Nat) : Nat := fnd (nrP L i j) (L.2.1 - j) j
def vI (L : LE) (e : Nat) : Int32 := if e < L.2.1 then I (e : Int) else I (-9)
def lfree (L : LE) : Nat → Nat
  | 0 => 0
  | i + 1 => if nr L i (lfree L i) < L.2.1 then nr L i (lfree L i) + 1 else lfree L i
theorem fnd_le (p : Nat → Bool) : ∀ n i, fnd p n i ≤ i + n
  | 0, i => Nat.le_refl _
  | n + 1, i => by
    unfold fnd
    split
    · omega
    · have := fnd_le p n (i + 1); omega
theorem fnd_ge (p : Nat → Bool) : ∀ n i, i ≤ fnd p n i
  | 0, i => Nat.le_refl _
  | n + 1, i => by
    unfold fnd
    split
    · omega
    · have := fnd_ge p n (i + 1); omega
theorem fnd_t {p : Nat → Bool} : ∀ {n i}, fnd p n i < i + n → p (fnd p n i) = true
  | 0, i, h => absurd h (by unfold fnd; omega)
  | n + 1, i, h => by
    unfold fnd at h ⊢
    by_cases q : p i = true
    · rw [if_pos q]; exact q
    · rw [if_neg q] at h ⊢
      exact fnd_t (by omega)
theorem fnd_f {p : Nat → Bool} : ∀ {n i j}, i ≤ j → j < fnd p n i → p j = false
  | 0, i, j, h1, h2 => absurd h2 (by unfold fnd; omega)
  | n + 1, i, j, h1, h2 => by
    unfold fnd at h2
    by_cases q : p i = true
    · rw [if_pos q] at h2; omega
    · rw [if_neg q] at h2
      by_cases e : j = i
      · subst e; simpa using q
      · exact fnd_f (n := n) (i := i + 1) (by omega) h2
theorem lfree_le (L : LE) : ∀ i, lfree L i ≤ L.2.1
  | 0 => Nat.zero_le _
  | i + 1 => by
    have := lfree_le L i
    unfold lfree
    split <;> omega
theorem wp_areTwoC {h : AH} {Q : Int32 → AH → Prop} (v : vS s) (R : RC s h) {z1 z2 : Int} (h1 : inr z1) (h2 : inr z2) (k1 : ∀ a b : Nat, z1 = a → z2 = b → a < s.2.1.1 → b < s.2.1.1 → a ≠ b → Q (I 1) h) (k0 : ¬ (0 ≤ z1 ∧ z1 < s.2.1.1 ∧ 0 ≤ z2 ∧ z2 < s.2.1.1 ∧ z1 ≠ z2) → Q (I 0) h) : SpI g l mX7_areTwo h [.ref 0, .int (I z1), .int (I z2)] Q := by
  refine sX7_areTwo (wp_isChip v R h1 (fun a1 a2 => br_f n10 (wp_isChip v R h2 (fun b1 b2 => br_f n10 ?_) (fun b1 => br_t y00 (k0 (by omega))))) (fun a1 => br_t y00 (k0 (by omega))))
  obtain ⟨p1, p2⟩ := h1
  obtain ⟨p3, p4⟩ := h2
  simp (disch := omega) only [I_eq]
  exact ⟨fun q => k0 (by omega), fun q => k1 z1.toNat z2.toNat (by omega) (by omega) (by omega) (by omega) (by omega)⟩
theorem wp_areTwoM {h : AH} {Q : Int32 → AH → Prop} (v : vS s) (R : RM s h) {z1 z2 : Int} (h1 : inr z1) (h2 : inr z2) (k1 : ∀ a b : Nat, z1 = a → z2 = b → a < s.2.1.1 → b < s.2.1.1 → a ≠ b → Q (I 1) h) (k0 : ¬ (0 ≤ z1 ∧ z1 < s.2.1.1 ∧ 0 ≤ z2 ∧ z2 < s.2.1.1 ∧ z1 ≠ z2) → Q (I 0) h) : SpI g l mX8_areTwo h [.ref 82, .int (I z1), .int (I z2)] Q := by
  refine sX8_areTwo (wp_isChipAt v R h1 (fun a1 a2 => br_f n10 (wp_isChipAt v R h2 (fun b1 b2 => br_f n10 ?_) (fun b1 => br_t y00 (k0 (by omega))))) (fun a1 => br_t y00 (k0 (by omega))))
  obtain ⟨p1, p2⟩ := h1
  obtain ⟨p3, p4⟩ := h2
  simp (disch := omega) only [I_eq]
  exact ⟨fun q => k0 (by omega), fun q => k1 z1.toNat z2.toNat (by omega) (by omega) (by omega) (by omega) (by omega)⟩
/-- what both may scribble on -/
theorem Inv_sc {h h2 : AH} {P R : Nat → Nat → Prop} (v : vS s) (C : RC s h) (M : RM s h) (e : Chg P R h h2) (p1 : ∀ a k, P a k → scC a k) (p2 : ∀ a k, P a k → scM a k) (r1 : ∀ a k, R a k → srC' a k) : Inv h2 := ⟨s, v, RC_c (e.up p1 r1) v C, RM_c (e.up p2 (fun _ _ q => q)) M⟩
theorem wp_least {h : AH} {Q : Int32 → AH → Prop} (v : vS s) (R : RC s h) (ha : a < s.2.1.1) (hb : b < s.2.1.1) (hab : a ≠ b) (k : ∀ h2, Chg (fun a _ => 22 ≤ a ∧ a ≤ 24) (fun a _ => a = 23) h h2 → Q (I ((ltab (lyE s a b) 0 0).1 : Int)) h2) : SpI g l mX7_least h [.ref 0, .int (I (a : Int)), .int (I (b : Int))] Q := by
  have h4 := v.2.1.1
  refine sX7_least (wp_areTwoC v R ⟨by omega, by omega⟩ ⟨by omega, by omega⟩ (fun a' b' e1 e2 _ _ _ => nb_t n10 ?_) (fun no => absurd (by omega) no))
  refine wp_lay v R ha hb (fun h2 x1 x2 c1 c2 c3 => sX2_leastCost ?_)
  rw [(c3 0 0 (Nat.zero_le _) (Nat.zero_le _)).1]
  exact k h2 c1
theorem wp_mleast {h : AH} {Q : Int32 → AH → Prop} (v : vS s) (R : RM s h) (ha : a < s.2.1.1) (hb : b < s.2.1.1) (hab : a ≠ b) (k : ∀ h2, Chg (fun a _ => a = 108) nR h h2 → Q (I ((ltab (lyE s a b) 0 0).1 : Int)) h2) : SpI g l mX8_least h [.ref 82, .int (I (a : Int)), .int (I (b : Int))] Q := by
  have h4 := v.2.1.1
  refine sX8_least (wp_areTwoM v R ⟨by omega, by omega⟩ ⟨by omega, by omega⟩ (fun a' b' e1 e2 _ _ _ => nb_t n10 ?_) (fun no => absurd (by omega) no))
  refine wp_mlay v R ha hb (fun h2 c1 c3 => ?_)
  rw [(c3 0 0 (Nat.zero_le _) (Nat.zero_le _)).1]
  exact k h2 c1
theorem J_least {h : AH} (hI : Inv h) (x1 x2 : Int32) : JI g l mX7_least mX8_least h [.ref 0, .int x1, .int x2] [.ref 82, .int x1, .int x2] := by
  have hI2 := hI
  obtain ⟨s, v, R, M⟩ := hI
  obtain ⟨z1, a1, a2, rfl⟩ := I_any x1
  obtain ⟨z2, b1, b2, rfl⟩ := I_any x2
  by_cases ok : 0 ≤ z1 ∧ z1 < s.2.1.1 ∧ 0 ≤ z2 ∧ z2 < s.2.1.1 ∧ z1 ≠ z2
  · obtain ⟨a, rfl⟩ : ∃ n : Nat, z1 = n := ⟨z1.toNat, by omega⟩
    obtain ⟨b, rfl⟩ : ∃ n : Nat, z2 = n := ⟨z2.toNat, by omega⟩
    refine wp_least v R (by omega) (by omega) (by omega) (fun h1 c1 => ?_)
    have M1 : RM s h1 := RM_c (c1.up (fun a k q => by unfold scM; omega) (fun _ _ q => q)) M
    refine wp_mleast v M1 (by omega) (by omega) (by omega) (fun h2 c2 => ⟨rfl, ?_⟩)
    exact Inv_sc v R M ((c1.up (P2 := fun a _ => (22 ≤ a ∧ a ≤ 24) ∨ a = 108) (R2 := fun a _ => a = 23) (fun a k q => by omega) (fun _ _ q => q)).tr (c2.up (fun a k q => by omega) (fun _ _ q => q.elim))) (fun a k q => by unfold scC; omega) (fun a k q => by unfold scM; omega) (fun a k q => by unfold srC'; omega)
  · exact sX7_least (wp_areTwoC v R ⟨a1, a2⟩ ⟨b1, b2⟩ (fun a b e1 e2 e3 e4 e5 => absurd (by omega) ok) (fun _ => nb_f y00 (sX8_least (wp_areTwoM v M ⟨a1, a2⟩ ⟨b1, b2⟩ (fun a b e1 e2 e3 e4 e5 => absurd (by omega) ok) (fun _ => nb_f y00 ⟨rfl, hI2⟩)))))
theorem J_ways {h : AH} (hI : Inv h) (x1 x2 : Int32) : JL g l mX7_ways mX8_ways h [.ref 0, .int x1, .int x2] [.ref 82, .int x1, .int x2] := by
  have hI2 := hI
  obtain ⟨s, v, R, M⟩ := hI
  obtain ⟨z1, a1, a2, rfl⟩ := I_any x1
  obtain ⟨z2, b1, b2, rfl⟩ := I_any x2
  by_cases ok : 0 ≤ z1 ∧ z1 < s.2.1.1 ∧ 0 ≤ z2 ∧ z2 < s.2.1.1 ∧ z1 ≠ z2
  · obtain ⟨a, rfl⟩ : ∃ n : Nat, z1 = n := ⟨z1.toNat, by omega⟩
    obtain ⟨b, rfl⟩ : ∃ n : Nat, z2 = n := ⟨z2.toNat, by omega⟩
    have ha : a < s.2.1.1 := by omega
    have hb : b < s.2.1.1 := by omega
    refine sX7_ways (wp_areTwoC v R ⟨a1, a2⟩ ⟨b1, b2⟩ (fun a' b' e1 e2 _ _ _ => nb_t n10 ?_) (fun no => absurd ok no))
    refine wp_lay v R ha hb (fun h1 x1 x2 c1 c2 c3 => sX2_leastWays ?_)
    have t := (c3 0 0 (Nat.zero_le _) (Nat.zero_le _)).2
    have M1 : RM s h1 := RM_c (c1.up (fun a k q => by unfold scM; omega) (fun _ _ q => q)) M
    refine sX8_ways (wp_areTwoM v M1 ⟨a1, a2⟩ ⟨b1, b2⟩ (fun a' b' e1 e2 _ _ _ => nb_t n10 ?_) (fun no => absurd ok no))
    refine wp_mlay v M1 ha hb (fun h2 d1 d3 => ⟨?_, ?_⟩)
    · have t2 := (d3 0 0 (Nat.zero_le _) (Nat.zero_le _)).2
      exact t2.trans t.symm
    · exact Inv_sc v R M ((c1.up (P2 := fun a _ => (22 ≤ a ∧ a ≤ 24) ∨ a = 108) (R2 := fun a _ => a = 23) (fun a k q => by omega) (fun _ _ q => q)).tr (d1.up (fun a k q => by omega) (fun _ _ q => q.elim))) (fun a k q => by unfold scC; omega) (fun a k q => by unfold scM; omega) (fun a k q => by unfold srC'; omega)
  · exact sX7_ways (wp_areTwoC v R ⟨a1, a2⟩ ⟨b1, b2⟩ (fun a b e1 e2 e3 e4 e5 => absurd (by omega) ok) (fun _ => nb_f y00 (sX8_ways (wp_areTwoM v M ⟨a1, a2⟩ ⟨b1, b2⟩ (fun a b e1 e2 e3 e4 e5 => absurd (by omega) ok) (fun _ => nb_f y00 ⟨rfl, hI2⟩)))))
/-! laid -/
theorem wp_nearest {h : AH} {x1 x2 : Nat} {Q : Int32 → AH → Prop} (v : vS s) (ha : a < s.2.1.1) (hb : b < s.2.1.1) (L : lyC s a b x1 x2 h) (T : ∀ i j, i ≤ (lyE s a b).1 → j ≤ (lyE s a b).2.1 → tabC h (lyE s a b) i j) {i j : Nat} (hi : i < (lyE s a b).1) (hj : j ≤ (lyE s a b).2.1) (k : Q (vI (lyE s a b) (nr (lyE s a b) i j)) h) : SpI g l mX2_nearest h [.ref 23, .int (I (i : Int)), .int (I (j : Int))] Q := by
  have vl := okL_of v ha hb
  have v1 := vl.1
  have v2 := vl.2.1
  have l2 := L.2.2.2.2.1.2
  have sz2 : h.1 x2 3 = I ((lyE s a b).2.1 : Int) := L.2.2.2.1.2.2.1
  refine sX2_nearest (fun X O => ?_)
  have lp : ∀ (m e : Nat), e + m = (lyE s a b).2.1 → j ≤ e → nr (lyE s a b) i j = fnd (nrP (lyE s a b) i j) m e → GI g l X Q h 2 [(0, .ref 23), (1, .int (I (i : Int))), (2, .int (I (j : Int))), (3, .int (I (e : Int)))] [] := by
    intro m
    induction m with
    | zero =>
      intro e he hje hn
      refine bX2_nearest_2 O ⟨x2, L.1.2.1, l2, ?_⟩
      rw [sz2]
      refine br_t ((I_le (by omega) (by omega) (by omega) (by omega)).mpr (by omega)) ?_
      rw [hn] at k
      unfold fnd vI at k
      rw [if_neg (by omega)] at k
      exact k
    | succ m ih =>
      intro e he hje hn
      have hp : (ltab (lyE s a b) (i + 1) (e + 1)).1 ≤ 1000 := lrow_1000 vl (by omega)
      have hp2 : (ltab (lyE s a b) i j).1 ≤ 1000 := lrow_1000 vl (by omega)
      have he2 : e < (lyE s a b).2.1 := by omega
      have hc := (cB_le (j := j) vl hp hi he2).2.2
      refine bX2_nearest_2 O ⟨x2, L.1.2.1, l2, ?_⟩
      rw [sz2]
      refine br_f (fun e => absurd ((I_le (by omega) (by omega) (by omega) (by omega)).mp e) (by omega)) (wp_cSame v ha hb L hi he2 ?_)
      have nx : nrP (lyE s a b) i j e = false → GI g l X Q h 2 [(0, .ref 23), (1, .int (I (i : Int))), (2, .int (I (j : Int))), (3, .int (I (e : Int) + I 1))] [] := by
        intro q
        rw [I_add]
        refine ih (e + 1) (by omega) (by omega) ?_
        rw [hn]
        conv => lhs; unfold fnd
        rw [q]
        rfl
      cases hq : (lyE s a b).2.2.1 i e with
      | false => exact br_t y00 (nx (by unfold nrP; rw [hq]; rfl))
      | true =>
        refine br_f n10 (wp_cCost v ha hb L hi he2 hje (T (i + 1) (e + 1) (by omega) (by omega)) ⟨11 * i + j, by rw [I_mul, I_add]; congr 1; omega, by omega, ?_⟩)
        rw [(T i j (by omega) hj).1]
        simp (disch := omega) only [I_eq]
        refine ⟨fun q2 => nx ?_, fun q2 => ?_⟩
        · unfold nrP
          have : (cB (lyE s a b) (ltab (lyE s a b) (i + 1)) i j e == (ltab (lyE s a b) i j).1) = false := by
            rw [beq_eq_false_iff_ne]; omega
          rw [hq, this]
          rfl
        · have pe : nrP (lyE s a b) i j e = true := by
            unfold nrP
            have : (cB (lyE s a b) (ltab (lyE s a b) (i + 1)) i j e == (ltab (lyE s a b) i j).1) = true := by
              rw [beq_iff_eq]; omega
            rw [hq, this]
            rfl
          rw [hn] at k
          unfold fnd vI at k
          rw [pe, if_pos rfl, if_pos he2] at k
          exact k
  exact lp ((lyE s a b).2.1 - j) j (by omega) (Nat.le_refl _) rfl
theorem wp_beside {h : AH} {x1 x2 : Nat} {Q : Int32 → AH → Prop} (v : vS s) (ha : a < s.2.1.1) (hb : b < s.2.1.1) (L : lyC s a b x1 x2 h) (T : ∀ i j, i ≤ (lyE s a b).1 → j ≤ (lyE s a b).2.1 → tabC h (lyE s a b) i j) {c : Nat} (hc : c < (lyE s a b).1) (k : Q (vI (lyE s a b) (nr (lyE s a b) c (lfree (lyE s a b) c))) h) : SpI g l mX2_beside h [.ref 23, .int (I (c : Int))] Q := by
  have vl := okL_of v ha hb
  have v1 := vl.1
  have v2 := vl.2.1
  refine sX2_beside (fun X O => ?_)
  have lp : ∀ (m i : Nat) (w : Int32), i + m = c + 1 → (i = c + 1 → w = vI (lyE s a b) (nr (lyE s a b) c (lfree (lyE s a b) c))) → GI g l X Q h 8 [(0, .ref 23), (1, .int (I (c : Int))), (2, .int (I (lfree (lyE s a b) i : Int))), (3, .int w), (4, .int (I (i : Int)))] [] := by
    intro m
    induction m with
    | zero =>
      intro i w hi hw
      refine bX2_beside_8 O (br_t ((I_lt (by omega) (by omega) (by omega) (by omega)).mpr (by omega)) ?_)
      rw [hw (by omega)]
      exact k
    | succ m ih =>
      intro i w hi hw
      have hf := lfree_le (lyE s a b) i
      refine bX2_beside_8 O (br_f (fun e => absurd ((I_lt (by omega) (by omega) (by omega) (by omega)).mp e) (by omega)) (wp_nearest v ha hb L T (by omega) hf ?_))
      rw [I_add]
      have ff : lfree (lyE s a b) (i + 1) = if nr (lyE s a b) i (lfree (lyE s a b) i) < (lyE s a b).2.1 then nr (lyE s a b) i (lfree (lyE s a b) i) + 1 else lfree (lyE s a b) i := rfl
      have lst : i + 1 = c + 1 → vI (lyE s a b) (nr (lyE s a b) i (lfree (lyE s a b) i)) = vI (lyE s a b) (nr (lyE s a b) c (lfree (lyE s a b) c)) := fun q => by rw [show i = c by omega]
      by_cases hn : nr (lyE s a b) i (lfree (lyE s a b) i) < (lyE s a b).2.1
      · have e1 : vI (lyE s a b) (nr (lyE s a b) i (lfree (lyE s a b) i)) = I (nr (lyE s a b) i (lfree (lyE s a b) i) : Int) := by unfold vI; rw [if_pos hn]
        rw [e1] at lst ⊢
        refine br_f (fun e => absurd ((I_eq (by omega) (by omega) (by omega) (by omega)).mp e) (by omega)) ?_
        rw [I_add]
        have := ih (i + 1) _ (by omega) lst
        rw [ff, if_pos hn] at this
        exact this
      · have e1 : vI (lyE s a b) (nr (lyE s a b) i (lfree (lyE s a b) i)) = I (-9) := by unfold vI; rw [if_neg hn]
        rw [e1] at lst ⊢
        refine br_t rfl ?_
        have := ih (i + 1) _ (by omega) lst
        rw [ff, if_neg hn] at this
        exact this
  exact lp (c + 1) 0 (I (-9)) (by omega) (fun e => absurd e (by omega))
theorem wp_mlaid {h : AH} {Q : Int32 → AH → Prop} (v : vS s) (M : RM s h) (ha : a < s.2.1.1) (hb : b < s.2.1.1) (hab : a ≠ b) {c : Nat} (hc : c < (lyE s a b).1) (k : ∀ h2, Chg (fun a _ => a = 108) nR h h2 → Q (vI (lyE s a b) (nr (lyE s a b) c (lfree (lyE s a b) c))) h2) : SpI g l mX8_laid h [.ref 82, .int (I (a : Int)), .int (I (b : Int)), .int (I (c : Int))] Q := by
  have h4 := v.2.1.1
  have vl := okL_of v ha hb
  have v1 := vl.1
  have v2 := vl.2.1
  refine sX8_laid (fun X O => wp_areTwoM v M ⟨by omega, by omega⟩ ⟨by omega, by omega⟩ (fun a' b' e1 e2 _ _ _ => br_f n10 ⟨a, rfl, by omega, ?_⟩) (fun no => absurd (by omega) no))
  rw [msz M ha, I_sub]
  refine wp_in ⟨by omega, by omega⟩ ⟨by omega, by omega⟩ ⟨by omega, by have : szP (pE s) a = (lyE s a b).1 := rfl; omega⟩ (fun _ _ => nb_t n10 (wp_mlay v M ha hb (fun h1 c1 T => ?_))) (fun q => by have : szP (pE s) a = (lyE s a b).1 := rfl; omega)
  have M1 : RM s h1 := RM_c (c1.up (fun a k q => by unfold scM; omega) (fun _ _ q => q)) M
  have ks := k h1 c1
  -- one coat's search, from behind
  have lp2 : ∀ (i : Nat), i < (lyE s a b).1 → ∀ j, j ≤ (lyE s a b).2.1 → (GI g l X Q h1 43 [(0, .ref 82), (1, .int (I (a : Int))), (2, .int (I (b : Int))), (3, .int (I (c : Int))), (4, .int (I ((if nr (lyE s a b) i j < (lyE s a b).2.1 then nr (lyE s a b) i j + 1 else j : Nat) : Int))), (5, .int (vI (lyE s a b) (nr (lyE s a b) i j))), (6, .int (I (i : Int) + I 1))] []) → ∀ (m e : Nat), e = j + m → e ≤ (lyE s a b).2.1 → GI g l X Q h1 63 [(0, .ref 82), (1, .int (I (a : Int))), (2, .int (I (b : Int))), (3, .int (I (c : Int))), (4, .int (I (j : Int))), (5, .int (vI (lyE s a b) (fnd (nrP (lyE s a b) i j) ((lyE s a b).2.1 - e) e))), (6, .int (I (i : Int))), (7, .int (I ((e : Int) - 1)))] [] := by
    intro i hi j hj kk m
    induction m with
    | zero =>
      intro e he he2
      refine bX8_laid_63 O (br_t ((I_lt (by omega) (by omega) (by omega) (by omega)).mpr (by omega)) ?_)
      rw [show e = j by omega]
      show ((¬ vI (lyE s a b) (nr (lyE s a b) i j) = I (-9)) → _) ∧ (vI (lyE s a b) (nr (lyE s a b) i j) = I (-9) → _)
      by_cases hn : nr (lyE s a b) i j < (lyE s a b).2.1
      · have e1 : vI (lyE s a b) (nr (lyE s a b) i j) = I (nr (lyE s a b) i j : Int) := by unfold vI; rw [if_pos hn]
        refine nb_t (fun q => absurd ((I_eq (by omega) (by omega) (by omega) (by omega)).mp (e1.symm.trans q)) (by omega)) ?_
        rw [if_pos hn] at kk
        show GI g l X Q h1 43 [_, _, _, _, (4, .int (vI (lyE s a b) (nr (lyE s a b) i j) + I 1)), (5, .int (vI (lyE s a b) (nr (lyE s a b) i j))), _] []
        rw [show vI (lyE s a b) (nr (lyE s a b) i j) + I 1 = I ((nr (lyE s a b) i j + 1 : Nat) : Int) by rw [e1, I_add]; rfl]
        exact kk
      · have e1 : vI (lyE s a b) (nr (lyE s a b) i j) = I (-9) := by unfold vI; rw [if_neg hn]
        refine nb_f e1 ?_
        rw [if_neg hn] at kk
        exact kk
    | succ m ih =>
      intro e he he2
      obtain ⟨e', rfl⟩ : ∃ e', e = e' + 1 := ⟨e - 1, by omega⟩
      have e0 : (((e' + 1 : Nat) : Int) - 1) = (e' : Int) := by omega
      rw [e0]
      have hl : e' < (lyE s a b).2.1 := by omega
      have hp : (ltab (lyE s a b) (i + 1) (e' + 1)).1 ≤ 1000 := lrow_1000 vl (by omega)
      have hp2 : (ltab (lyE s a b) i j).1 ≤ 1000 := lrow_1000 vl (by omega)
      have hcc := (cB_le (j := j) vl hp hi hl).2.2
      have ih2 := ih e' (by omega) (by omega)
      have rw1 : fnd (nrP (lyE s a b) i j) ((lyE s a b).2.1 - e') e' = if nrP (lyE s a b) i j e' then e' else fnd (nrP (lyE s a b) i j) ((lyE s a b).2.1 - (e' + 1)) (e' + 1) := by
        rw [show (lyE s a b).2.1 - e' = ((lyE s a b).2.1 - (e' + 1)) + 1 by omega]
        rfl
      rw [rw1] at ih2
      have dn : (I (e' : Int) + I (-1)) = I ((e' : Int) - 1) := by rw [I_add]; rfl
      refine bX8_laid_63 O (br_f (fun e => absurd ((I_lt (by omega) (by omega) (by omega) (by omega)).mp e) (by omega)) (wp_mSame v M1 ha hb hi hl ?_))
      rw [dn]
      cases hq : (lyE s a b).2.2.1 i e' with
      | false =>
        have pe : nrP (lyE s a b) i j e' = false := by unfold nrP; rw [hq]; rfl
        rw [pe] at ih2
        exact br_t y00 ih2
      | true =>
        refine br_f n10 (wp_mCost v M1 ha hb hi hl (by omega) (T (i + 1) (e' + 1) (by omega) (by omega)) ⟨11 * i + j, by rw [I_mul, I_add]; rfl, by omega, ?_⟩)
        rw [(T i j (by omega) hj).1]
        simp (disch := omega) only [I_eq]
        refine ⟨fun q2 => ?_, fun q2 => ?_⟩
        · have pe : nrP (lyE s a b) i j e' = false := by
            unfold nrP
            have : (cB (lyE s a b) (ltab (lyE s a b) (i + 1)) i j e' == (ltab (lyE s a b) i j).1) = false := by
              rw [beq_eq_false_iff_ne]; omega
            rw [hq, this]
            rfl
          rw [pe] at ih2
          exact ih2
        · have pe : nrP (lyE s a b) i j e' = true := by
            unfold nrP
            have : (cB (lyE s a b) (ltab (lyE s a b) (i + 1)) i j e' == (ltab (lyE s a b) i j).1) = true := by
              rw [beq_iff_eq]; omega
            rw [hq, this]
            rfl
          rw [pe, if_pos rfl] at ih2
          have e3 : vI (lyE s a b) e' = I (e' : Int) := by unfold vI; rw [if_pos hl]
          rw [e3] at ih2
          exact ih2
  have lp : ∀ (m i : Nat) (w : Int32), i + m = c + 1 → (i = c + 1 → w = vI (lyE s a b) (nr (lyE s a b) c (lfree (lyE s a b) c))) → GI g l X Q h1 43 [(0, .ref 82), (1, .int (I (a : Int))), (2, .int (I (b : Int))), (3, .int (I (c : Int))), (4, .int (I (lfree (lyE s a b) i : Int))), (5, .int w), (6, .int (I (i : Int)))] [] := by
    intro m
    induction m with
    | zero =>
      intro i w hi hw
      refine bX8_laid_43 O (br_t ((I_lt (by omega) (by omega) (by omega) (by omega)).mpr (by omega)) ?_)
      rw [hw (by omega)]
      exact ks
    | succ m ih =>
      intro i w hi hw
      have hf := lfree_le (lyE s a b) i
      refine bX8_laid_43 O (br_f (fun e => absurd ((I_lt (by omega) (by omega) (by omega) (by omega)).mp e) (by omega)) ⟨b, rfl, by omega, ?_⟩)
      rw [msz M1 hb, I_sub]
      have key := lp2 i (by omega) (lfree (lyE s a b) i) hf (by
        rw [I_add]
        exact ih (i + 1) _ (by omega) (fun q => by rw [show i = c by omega])) ((lyE s a b).2.1 - lfree (lyE s a b) i) (lyE s a b).2.1 (by omega) (Nat.le_refl _)
      rw [Nat.sub_self] at key
      have e1 : vI (lyE s a b) (fnd (nrP (lyE s a b) i (lfree (lyE s a b) i)) 0 (lyE s a b).2.1) = I (-9) := by
        unfold fnd vI
        rw [if_neg (by omega)]
      rw [e1] at key
      exact key
  exact lp (c + 1) 0 (I (-9)) (by omega) (fun e => absurd e (by omega))
end LD
