section LC
variable {g : mg} {l : Launch}
theorem okL_of {s : ST} (v : vS s) {a b : Nat} (ha : a < s.2.1.1) (hb : b < s.2.1.1) : okL (lyE s a b) := by
  have va := v.2.1.2 a ha
  have vb := v.2.1.2 b hb
  refine ⟨va.2.2.2.1, vb.2.2.2.1, fun i j hi hj => ?_, v.2.2.2.1.1.2, v.2.2.2.1.2.1⟩
  have d1 := va.2.2.2.2.2 i hi
  have d2 := vb.2.2.2.2.2 j hj
  show absD ((s.2.1.2 a).2.2.2.2 i) ((s.2.1.2 b).2.2.2.2 j) ≤ 9
  unfold absD
  split <;> omega
def lyC (s : ST) (a b x1 x2 : Nat) (h : AH) : Prop := (h.2.2 23 2 = some x1 ∧ h.2.2 23 3 = some x2 ∧ h.2.2 23 4 = some 22) ∧ (h.1 23 5 = I (s.2.2.2.1 0 : Int) ∧ h.1 23 6 = I (s.2.2.2.1 1 : Int)) ∧ (∀ l, l < 12 → h.1 22 l = I (smk (pE s) l : Int)) ∧ (atCH h x1 (s.2.1.2 a) ∧ atCH h x2 (s.2.1.2 b)) ∧ (lay x1 = (1, 5) ∧ lay x2 = (1, 5)) ∧ 8 ≤ x1 ∧ x1 ≤ 17 ∧ 8 ≤ x2 ∧ x2 ≤ 17
theorem lyC_c {s : ST} {a b x1 x2 : Nat} {P R : Nat → Nat → Prop} {h h2 : AH} (e : Chg P R h h2) (hP : ∀ a k, P a k → 24 ≤ a) (hR : ∀ a k, R a k → 24 ≤ a) (x : lyC s a b x1 x2 h) : lyC s a b x1 x2 h2 := by
  obtain ⟨⟨r1, r2, r3⟩, ⟨m1, m2⟩, sm, ⟨c1, c2⟩, ll, q1, q2, q3, q4⟩ := x
  have n : ∀ a k, a < 24 → ¬ P a k := fun a k g1 q => by have := hP a k q; omega
  have r : ∀ a k, a < 24 → ¬ R a k := fun a k g1 q => by have := hR a k q; omega
  exact ⟨⟨by rw [e.2.1 _ _ (r _ _ (by omega))]; exact r1, by rw [e.2.1 _ _ (r _ _ (by omega))]; exact r2, by rw [e.2.1 _ _ (r _ _ (by omega))]; exact r3⟩, ⟨by rw [e.1 _ _ (n _ _ (by omega))]; exact m1, by rw [e.1 _ _ (n _ _ (by omega))]; exact m2⟩, fun l hl => by rw [e.1 _ _ (n _ _ (by omega))]; exact sm l hl, ⟨atCH_c e (fun a k g1 g2 => n _ _ (by omega)) c1, atCH_c e (fun a k g1 g2 => n _ _ (by omega)) c2⟩, ll, q1, q2, q3, q4⟩
variable {s : ST} {a b x1 x2 : Nat}
theorem wp_cSame {h : AH} {Q : Int32 → AH → Prop} (v : vS s) (ha : a < s.2.1.1) (hb : b < s.2.1.1) (L : lyC s a b x1 x2 h) {i j : Nat} (hi : i < (lyE s a b).1) (hj : j < (lyE s a b).2.1) (k : Q (I (if (lyE s a b).2.2.1 i j then 1 else 0)) h) : SpI g l mX2_isSame h [.ref 23, .int (I (i : Int)), .int (I (j : Int))] Q := by
  obtain ⟨⟨r1, r2, r3⟩, ⟨m1, m2⟩, sm, ⟨c1, c2⟩, ⟨l1, l2⟩, q1, q2, q3, q4⟩ := L
  have va := v.2.1.2 a ha
  have vb := v.2.1.2 b hb
  have k1 := va.2.2.2.2.1 i hi
  have k2 := vb.2.2.2.2.1 j hj
  have z1 : i < 10 := Nat.lt_of_lt_of_le hi va.2.2.2.1
  have z2 : j < 10 := Nat.lt_of_lt_of_le hj vb.2.2.2.1
  refine sX2_isSame ⟨22, r3, rfl, x1, r1, l1, i, rfl, z1, (s.2.1.2 a).2.2.2.1 i, c1.2.2.2.1 i hi, k1, x2, r2, l2, j, rfl, z2, ?_⟩
  rw [sm _ k1, c2.2.2.2.1 j hj, I_bit (Nat.lt_of_lt_of_le (smk_lt k1 ((v.2.2.1.1 _ k1).2.2)) (by decide)) (by omega), smk_bit]
  have e : (lyE s a b).2.2.1 i j = smb (pE s) ((s.2.1.2 a).2.2.2.1 i) ((s.2.1.2 b).2.2.2.1 j) := rfl
  rw [e] at k
  cases hq : smb (pE s) ((s.2.1.2 a).2.2.2.1 i) ((s.2.1.2 b).2.2.2.1 j) with
  | true => rw [hq] at k; exact br_f (by decide) k
  | false => rw [hq] at k; exact br_t (by decide) k
theorem absD_i (x y : Nat) (hx : x ≤ 100) (hy : y ≤ 100) : (if 0 ≤ I ((x : Int) - y) then I ((x : Int) - y) else 0 - I ((x : Int) - y)) = I (absD x y : Int) := by
  unfold absD
  rw [I_z, I_sub]
  by_cases hxy : y ≤ x
  · rw [if_pos ((I_le (by omega) (by omega) (by omega) (by omega)).mpr (by omega)), if_pos hxy]
    congr 1
    omega
  · rw [if_neg (fun e => absurd ((I_le (by omega) (by omega) (by omega) (by omega)).mp e) (by omega)), if_neg hxy]
    congr 1
    omega
theorem wp_cCost {h : AH} {Q : Int32 → AH → Prop} (v : vS s) (ha : a < s.2.1.1) (hb : b < s.2.1.1) (L : lyC s a b x1 x2 h) {i e j : Nat} (hi : i < (lyE s a b).1) (he : e < (lyE s a b).2.1) (hj : j ≤ e) (T : tabC h (lyE s a b) (i + 1) (e + 1)) (k : Q (I (cB (lyE s a b) (ltab (lyE s a b) (i + 1)) i j e : Int)) h) : SpI g l mX2_costBeside h [.ref 23, .int (I (i : Int)), .int (I (e : Int)), .int (I (j : Int))] Q := by
  obtain ⟨⟨r1, r2, r3⟩, ⟨m1, m2⟩, sm, ⟨c1, c2⟩, ⟨l1, l2⟩, q1, q2, q3, q4⟩ := L
  have va := v.2.1.2 a ha
  have vb := v.2.1.2 b hb
  have d1 := va.2.2.2.2.2 i hi
  have d2 := vb.2.2.2.2.2 e he
  have z1 : i < 10 := Nat.lt_of_lt_of_le hi va.2.2.2.1
  have z2 : e < 10 := Nat.lt_of_lt_of_le he vb.2.2.2.1
  refine sX2_costBeside ⟨x1, r1, l1, i, rfl, z1, x2, r2, l2, e, rfl, z2, 11 * (i + 1) + (e + 1), ?_, by omega, ?_⟩
  · rw [I_add, I_mul, I_add, I_add]
    congr 1
    omega
  · rw [m1, m2, c1.2.2.2.2 i hi, c2.2.2.2.2 e he, I_sub, I_sub, absD_i _ _ (by omega) (by omega), T.1, I_mul, I_mul, I_add, I_add]
    have : ((s.2.2.2.1 0 : Int) * ((e : Int) - (j : Int)) + (s.2.2.2.1 1 : Int) * (absD ((s.2.1.2 a).2.2.2.2 i) ((s.2.1.2 b).2.2.2.2 e) : Int) + ((ltab (lyE s a b) (i + 1) (e + 1)).1 : Int)) = (cB (lyE s a b) (ltab (lyE s a b) (i + 1)) i j e : Int) := by
      unfold cB
      show _ = ((s.2.2.2.1 0 * (e - j) + s.2.2.2.1 1 * absD ((s.2.1.2 a).2.2.2.2 i) ((s.2.1.2 b).2.2.2.2 e) + (ltab (lyE s a b) (i + 1) (e + 1)).1 : Nat) : Int)
      push_cast
      rw [Int.ofNat_sub hj]
    rw [this]
    exact k
/-- one cell of the table -/
theorem wp_fill {h : AH} {Q : AH → Prop} (v : vS s) (ha : a < s.2.1.1) (hb : b < s.2.1.1) (L : lyC s a b x1 x2 h) {i j : Nat} (hi : i ≤ (lyE s a b).1) (hj : j ≤ (lyE s a b).2.1) (T : i < (lyE s a b).1 → ∀ e, e ≤ (lyE s a b).2.1 → tabC h (lyE s a b) (i + 1) e) (k : ∀ h2, Chg (fun a k => a = 24 ∧ k = 11 * i + j) nR h h2 → (∀ k, k ≠ 11 * i + j → h2.2.1 25 k = h.2.1 25 k) → tabC h2 (lyE s a b) i j → Q h2) : SpV g l mX2_fill h [.ref 23, .int (I (i : Int)), .int (I (j : Int))] Q := by
  have vl := okL_of v ha hb
  have L0 := L
  obtain ⟨⟨r1, r2, r3⟩, ⟨m1, m2⟩, sm, ⟨c1, c2⟩, ⟨l1, l2⟩, q1, q2, q3, q4⟩ := L
  have v1 := vl.1
  have v2 := vl.2.1
  have sz1 : h.1 x1 3 = I ((lyE s a b).1 : Int) := c1.2.1
  have sz2 : h.1 x2 3 = I ((lyE s a b).2.1 : Int) := c2.2.1
  have ix : I (i : Int) * I 11 + I (j : Int) = I ((11 * i + j : Nat) : Int) := by rw [I_mul, I_add]; congr 1; omega
  have fin : ∀ w : Nat × Int64, w = ltab (lyE s a b) i j → Q (sL (sI h 24 (11 * i + j) (I (w.1 : Int))) 25 (11 * i + j) w.2) := by
    intro w hw
    refine k _ ((Chg.rf.i ⟨rfl, rfl⟩).l (by omega) (by omega)) (fun q hq => by rw [sL_1, up_n hq]; rfl) ⟨?_, ?_⟩
    · show (sI h 24 (11 * i + j) (I (w.1 : Int))).1 24 (11 * i + j) = _
      rw [sI_1, up_s, hw]
    · rw [sL_1, up_s, hw]
  refine sX2_fill (fun X O => ⟨x1, r1, l1, ?_⟩)
  rw [sz1, ix]
  simp (disch := omega) only [I_eq]
  refine ⟨fun q => ?_, fun q => ⟨x2, r2, l2, 11 * i + j, rfl, by omega, 11 * i + j, rfl, by omega, ?_⟩⟩
  · have hi' : i < (lyE s a b).1 := by omega
    have tt := T hi'
    have t0 := tt j hj
    have ix2 : I ((11 * i + j : Nat) : Int) + I 11 = I ((11 * (i + 1) + j : Nat) : Int) := by rw [I_add]; congr 1; omega
    rw [ix2]
    refine ⟨11 * (i + 1) + j, rfl, by omega, 11 * (i + 1) + j, rfl, by omega, ?_⟩
    rw [t0.1, t0.2, m1, I_add]
    have lp : ∀ (m t : Nat), t + m = (lyE s a b).2.1 - j → GV g l X Q h 76 [(0, .ref 23), (1, .int (I (i : Int))), (2, .int (I (j : Int))), (3, .int (I ((11 * i + j : Nat) : Int))), (4, .int (I ((stp (lyE s a b) (ltab (lyE s a b) (i + 1)) i j t).1 : Int))), (5, .long (stp (lyE s a b) (ltab (lyE s a b) (i + 1)) i j t).2), (7, .int (I ((j + t : Nat) : Int)))] [] := by
      intro m
      induction m with
      | zero =>
        intro t ht
        refine bX2_fill_76 O ⟨x2, r2, l2, ?_⟩
        rw [sz2]
        refine br_t ((I_le (by omega) (by omega) (by omega) (by omega)).mpr (by omega)) ⟨11 * i + j, rfl, by omega, 11 * i + j, rfl, by omega, ?_⟩
        refine fin _ ?_
        rw [ltab_s _ hi', show t = (lyE s a b).2.1 - j by omega]
      | succ m ih =>
        intro t ht
        have he : j + t < (lyE s a b).2.1 := by omega
        have hb1 : (stp (lyE s a b) (ltab (lyE s a b) (i + 1)) i j t).1 ≤ 1050 := by
          have := stp_le (lyE s a b) (ltab (lyE s a b) (i + 1)) i j t
          have h1 : (ltab (lyE s a b) (i + 1) j).1 ≤ 1000 := lrow_1000 vl (by omega)
          have h2 := vl.2.2.2.1
          omega
        have hp : (ltab (lyE s a b) (i + 1) (j + t + 1)).1 ≤ 1000 := lrow_1000 vl (by omega)
        have hc := (cB_le (j := j) vl hp hi' he).2.2
        refine bX2_fill_76 O ⟨x2, r2, l2, ?_⟩
        rw [sz2]
        refine br_f (fun e => absurd ((I_le (by omega) (by omega) (by omega) (by omega)).mp e) (by omega)) ?_
        refine wp_cSame v ha hb L0 hi' he ?_
        have nx : ∀ w : Nat × Int64, w = stp (lyE s a b) (ltab (lyE s a b) (i + 1)) i j (t + 1) → GV g l X Q h 76 [(0, .ref 23), (1, .int (I (i : Int))), (2, .int (I (j : Int))), (3, .int (I ((11 * i + j : Nat) : Int))), (4, .int (I (w.1 : Int))), (5, .long w.2), (7, .int (I ((j + t : Nat) : Int) + I 1))] [] := by
          intro w hw
          rw [hw, I_add]
          exact ih (t + 1) (by omega)
        cases hq : (lyE s a b).2.2.1 i (j + t) with
        | false =>
          refine nb_f y00 (nx (stp (lyE s a b) (ltab (lyE s a b) (i + 1)) i j t) ?_)
          conv => rhs; unfold stp
          rw [hq]
          rfl
        | true =>
          refine nb_t n10 (wp_cCost v ha hb L0 hi' he (by omega) (tt (j + t + 1) (by omega)) ?_)
          simp (disch := omega) only [I_le]
          have ix3 : I (i : Int) + I 1 = I ((i + 1 : Nat) : Int) := by rw [I_add]; rfl
          have ix4 : I ((i + 1 : Nat) : Int) * I 11 + I ((j + t : Nat) : Int) + I 1 = I ((11 * (i + 1) + (j + t + 1) : Nat) : Int) := by rw [I_mul, I_add, I_add]; congr 1; omega
          refine ⟨fun q5 => bX2_fill_125 O ?_, fun q5 => bX2_fill_125 O ?_⟩
          · simp (disch := omega) only [I_eq]
            refine ⟨fun q6 => nx (stp (lyE s a b) (ltab (lyE s a b) (i + 1)) i j t) ?_, fun q6 => ⟨11 * (i + 1) + (j + t + 1), by rw [ix3, ix4], by omega, ?_⟩⟩
            · conv => rhs; unfold stp
              rw [hq, if_pos rfl, if_neg (by omega), if_neg (by omega)]
            · rw [(tt (j + t + 1) (by omega)).2]
              refine nx ((stp (lyE s a b) (ltab (lyE s a b) (i + 1)) i j t).1, (stp (lyE s a b) (ltab (lyE s a b) (i + 1)) i j t).2 + (ltab (lyE s a b) (i + 1) (j + t + 1)).2) ?_
              conv => rhs; unfold stp
              rw [hq, if_pos rfl, if_neg (by omega), if_pos (by omega)]
          · refine nb_f rfl ⟨11 * (i + 1) + (j + t + 1), by rw [ix3, ix4], by omega, ?_⟩
            rw [(tt (j + t + 1) (by omega)).2]
            refine nx (cB (lyE s a b) (ltab (lyE s a b) (i + 1)) i j (j + t), 0 + (ltab (lyE s a b) (i + 1) (j + t + 1)).2) ?_
            conv => rhs; unfold stp
            rw [hq, if_pos rfl, if_pos (by omega)]
    exact lp ((lyE s a b).2.1 - j) 0 (by omega)
  · rw [m1, sz2, I_sub, I_mul]
    have : ((s.2.2.2.1 0 : Int) * (((lyE s a b).2.1 : Int) - (j : Int))) = ((ltab (lyE s a b) i j).1 : Int) := by
      rw [show i = (lyE s a b).1 by omega, ltab_0]
      show _ = ((s.2.2.2.1 0 * ((lyE s a b).2.1 - j) : Nat) : Int)
      push_cast
      rw [Int.ofNat_sub hj]
    rw [this]
    have e2 : (1 : Int64) = (ltab (lyE s a b) i j).2 := by rw [show i = (lyE s a b).1 by omega, ltab_0]
    have := fin (ltab (lyE s a b) i j) rfl
    rw [← e2] at this
    exact this
/-- the whole table, by Laying.lay -/
theorem wp_cLay {h : AH} {Q : AH → Prop} (v : vS s) (ha : a < s.2.1.1) (hb : b < s.2.1.1) (C1 : atCH h x1 (s.2.1.2 a)) (C2 : atCH h x2 (s.2.1.2 b)) (l1 : lay x1 = (1, 5)) (l2 : lay x2 = (1, 5)) (q1 : 8 ≤ x1 ∧ x1 ≤ 17) (q2 : 8 ≤ x2 ∧ x2 ≤ 17) (sm : ∀ l, l < 12 → h.1 22 l = I (smk (pE s) l : Int)) (k : ∀ h2, Chg (fun a _ => a = 23 ∨ a = 24) (fun a _ => a = 23) h h2 → lyC s a b x1 x2 h2 → (∀ i j, i ≤ (lyE s a b).1 → j ≤ (lyE s a b).2.1 → tabC h2 (lyE s a b) i j) → Q h2) : SpV g l mX2_lay h [.ref 23, .ref x1, .ref x2, .ref 22, .int (I (s.2.2.2.1 0 : Int)), .int (I (s.2.2.2.1 1 : Int))] Q := by
  have vl := okL_of v ha hb
  have v1 := vl.1
  have v2 := vl.2.1
  refine sX2_lay l1 l2 (fun X O => ?_)
  generalize eh : sI (sI (sR (sR (sR h 23 2 (some x1)) 23 3 (some x2)) 23 4 (some 22)) 23 5 (I (s.2.2.2.1 0 : Int))) 23 6 (I (s.2.2.2.1 1 : Int)) = h0
  have e0 : Chg (fun a _ => a = 23 ∨ a = 24) (fun a _ => a = 23) h h0 := by
    rw [← eh]
    refine Chg.i (Chg.i (Chg.r (Chg.r (Chg.r Chg.rf ?_) ?_) ?_) ?_) ?_
    · rfl
    · rfl
    · rfl
    · exact Or.inl rfl
    · exact Or.inl rfl
  have L0 : lyC s a b x1 x2 h0 := by
    refine ⟨⟨?_, ?_, ?_⟩, ⟨?_, ?_⟩, fun l hl => by rw [e0.1 _ _ (by omega)]; exact sm l hl, ⟨atCH_c e0 (fun a k g1 g2 => by omega) C1, atCH_c e0 (fun a k g1 g2 => by omega) C2⟩, ⟨l1, l2⟩, q1.1, q1.2, q2.1, q2.2⟩
    · rw [← eh]
      show (sR (sR (sR h 23 2 (some x1)) 23 3 (some x2)) 23 4 (some 22)).2.2 23 2 = _
      rw [sR_1, up_n (by omega), sR_1, up_n (by omega), sR_1, up_s]
    · rw [← eh]
      show (sR (sR (sR h 23 2 (some x1)) 23 3 (some x2)) 23 4 (some 22)).2.2 23 3 = _
      rw [sR_1, up_n (by omega), sR_1, up_s]
    · rw [← eh]
      show (sR (sR (sR h 23 2 (some x1)) 23 3 (some x2)) 23 4 (some 22)).2.2 23 4 = _
      rw [sR_1, up_s]
    · rw [← eh, sI_1, up_n (by omega), sI_1, up_s]
    · rw [← eh, sI_1, up_s]
  have sz : h0.1 x1 3 = I ((lyE s a b).1 : Int) := L0.2.2.2.1.1.2.1
  rw [sz]
  -- rows from i on stand; of row i the places from j on
  have lp2 : ∀ (i : Nat), i ≤ (lyE s a b).1 → ∀ (m : Nat) (h1 : AH), m ≤ (lyE s a b).2.1 + 1 → Chg (fun a _ => a = 23 ∨ a = 24) (fun a _ => a = 23) h h1 → lyC s a b x1 x2 h1 → (∀ i' j, i < i' → i' ≤ (lyE s a b).1 → j ≤ (lyE s a b).2.1 → tabC h1 (lyE s a b) i' j) → (∀ j, m ≤ j → j ≤ (lyE s a b).2.1 → tabC h1 (lyE s a b) i j) → (∀ h2, Chg (fun a _ => a = 23 ∨ a = 24) (fun a _ => a = 23) h h2 → lyC s a b x1 x2 h2 → (∀ i' j, i ≤ i' → i' ≤ (lyE s a b).1 → j ≤ (lyE s a b).2.1 → tabC h2 (lyE s a b) i' j) → GV g l X Q h2 36 [(0, .ref 23), (6, .int (I (i : Int) + I (-1)))] []) → GV g l X Q h1 50 [(0, .ref 23), (6, .int (I (i : Int))), (7, .int (I ((m : Int) - 1)))] [] := by
    intro i hi m
    induction m with
    | zero =>
      intro h1 hm c1 c2 c3 c4 kk
      refine bX2_lay_50 O (br_t (by decide) (kk h1 c1 c2 (fun i' j g1 g2 g3 => ?_)))
      by_cases hii : i' = i
      · subst hii; exact c4 j (by omega) g3
      · exact c3 i' j (by omega) g2 g3
    | succ m ih =>
      intro h1 hm c1 c2 c3 c4 kk
      have e1 : (((m + 1 : Nat) : Int) - 1) = (m : Int) := by omega
      rw [e1]
      refine bX2_lay_50 O (br_f (by rw [I_lt0 (by omega) (by omega)]; omega) ?_)
      refine wp_fill v ha hb c2 hi (by omega) (fun hi' e he => c3 (i + 1) e (by omega) (by omega) he) (fun h2 d1 d2 d3 => ?_)
      rw [I_add, show ((m : Int) + -1) = ((m : Int) - 1) by omega]
      have keep : ∀ i' j, (i < i' ∨ (i' = i ∧ m < j)) → j ≤ (lyE s a b).2.1 → tabC h1 (lyE s a b) i' j → tabC h2 (lyE s a b) i' j := fun i' j g1 g2 t => ⟨by rw [d1.1 _ _ (by omega)]; exact t.1, by rw [d2 _ (by omega)]; exact t.2⟩
      refine ih h2 (by omega) (c1.tr (d1.up (fun a k q => Or.inr q.1) (fun _ _ q => q.elim))) (lyC_c d1 (fun a k q => by omega) (fun _ _ q => q.elim) c2) (fun i' j g1 g2 g3 => keep i' j (Or.inl g1) g3 (c3 i' j g1 g2 g3)) (fun j g1 g2 => ?_) kk
      by_cases hjm : j = m
      · subst hjm; exact d3
      · exact keep i j (Or.inr ⟨rfl, by omega⟩) g2 (c4 j (by omega) g2)
  have lp1 : ∀ (m : Nat) (h1 : AH), m ≤ (lyE s a b).1 + 1 → Chg (fun a _ => a = 23 ∨ a = 24) (fun a _ => a = 23) h h1 → lyC s a b x1 x2 h1 → (∀ i j, m ≤ i → i ≤ (lyE s a b).1 → j ≤ (lyE s a b).2.1 → tabC h1 (lyE s a b) i j) → GV g l X Q h1 36 [(0, .ref 23), (6, .int (I ((m : Int) - 1)))] [] := by
    intro m
    induction m with
    | zero =>
      intro h1 hm c1 c2 c3
      exact bX2_lay_36 O (br_t (by decide) (k h1 c1 c2 (fun i j g1 g2 => c3 i j (by omega) g1 g2)))
    | succ m ih =>
      intro h1 hm c1 c2 c3
      have e1 : (((m + 1 : Nat) : Int) - 1) = (m : Int) := by omega
      rw [e1]
      refine bX2_lay_36 O (br_f (by rw [I_lt0 (by omega) (by omega)]; omega) ⟨x2, c2.1.2.1, l2, ?_⟩)
      rw [show h1.1 x2 3 = I ((lyE s a b).2.1 : Int) from c2.2.2.2.1.2.2.1]
      have := lp2 m (by omega) ((lyE s a b).2.1 + 1) h1 (Nat.le_refl _) c1 c2 (fun i' j g1 g2 g3 => c3 i' j (by omega) g2 g3) (fun j g1 g2 => absurd g1 (by omega)) (fun h2 d1 d2 d3 => by
        rw [I_add, show ((m : Int) + -1) = ((m : Int) - 1) by omega]
        exact ih h2 (by omega) d1 d2 (fun i j g1 g2 g3 => d3 i j g1 g2 g3))
      rw [show ((((lyE s a b).2.1 + 1 : Nat) : Int) - 1) = ((lyE s a b).2.1 : Int) by omega] at this
      exact this
  have := lp1 ((lyE s a b).1 + 1) h0 (Nat.le_refl _) e0 L0 (fun i j g1 g2 => absurd g1 (by omega))
  rw [show ((((lyE s a b).1 + 1 : Nat) : Int) - 1) = ((lyE s a b).1 : Int) by omega] at this
  exact this
theorem wp_lay {h : AH} {Q : AH → Prop} (v : vS s) (R : RC s h) (ha : a < s.2.1.1) (hb : b < s.2.1.1) (k : ∀ h2 x1 x2, Chg (fun a _ => 22 ≤ a ∧ a ≤ 24) (fun a _ => a = 23) h h2 → lyC s a b x1 x2 h2 → (∀ i j, i ≤ (lyE s a b).1 → j ≤ (lyE s a b).2.1 → tabC h2 (lyE s a b) i j) → Q h2) : SpV g l mX7_lay h [.ref 0, .int (I (a : Int)), .int (I (b : Int))] Q := by
  have h4 := v.2.1.1
  obtain ⟨p, hp⟩ := R.1.2.1
  have b1 := hp.1.1 a (by omega)
  have b2 := hp.1.1 b (by omega)
  refine sX7_lay (wp_findSame v R (fun h1 c1 c2 => ⟨a, rfl, by omega, p a, by rw [c1.2.1 _ _ id]; exact hp.2.1 a (by omega), lay_pm (Or.inl rfl) hp.1 (by omega), b, rfl, by omega, p b, by rw [c1.2.1 _ _ id]; exact hp.2.1 b (by omega), lay_pm (Or.inl rfl) hp.1 (by omega), ?_⟩))
  rw [c1.1 21 0 (by omega), c1.1 21 1 (by omega), R.1.2.2.2.1 0 (by omega), R.1.2.2.2.1 1 (by omega)]
  exact wp_cLay v ha hb (atCH_c c1 (fun a k g1 g2 => by omega) (hp.2.2.2 a ha)) (atCH_c c1 (fun a k g1 g2 => by omega) (hp.2.2.2 b hb)) (lay_pm (Or.inl rfl) hp.1 (by omega)) (lay_pm (Or.inl rfl) hp.1 (by omega)) (by omega) (by omega) c2 (fun h2 d1 d2 d3 => k h2 (p a) (p b) ((c1.up (fun a k q => by omega) (fun _ _ q => q.elim)).tr (d1.up (fun a k q => by omega) (fun _ _ q => q))) d2 d3)
end LC
