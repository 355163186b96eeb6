section BM
variable {g : mg} {l : Launch} {h : AH} {s : ST}
theorem wp_suits {Q : Int32 → AH → Prop} {p last i : Nat} (v : vS s) (M : RM s h) (P : pmS s h) (hp : p < np (pE s)) (hl : last ≤ bnN s) (hi : i < bnN s) (k1 : sut s i p last = true → Q (I 1) h) (k0 : sut s i p last = false → Q (I 0) h) : SpI g l mX8_suits h [.ref 82, .int (I (i : Int)), .int (I (p : Int)), .int (I (last : Int))] Q := by
  have n40 : np (pE s) ≤ 40 := np_le v.2.1
  have n8 : bnN s ≤ 8 := v.2.2.1.2.1
  have vb := v.2.2.1.2.2 i hi
  have K := M.1.2.2.1.2.2
  have e4 : h.1 94 i = I (byN s i : Int) := (K i hi).1
  have e5 : h.1 95 i = I (bcN s i : Int) := (K i hi).2
  have l12 := pcl_lt v.2.1 (e := pE s) hp
  have el := ea_le v p hp
  have ll := la_in2 v hp
  have y9 : byN s i ≤ 999 := vb.1
  have c12 : bcN s i < 12 := vb.2
  have e44 : h.1 82 44 = I (if canY (yE s) (np (pE s)) then 1 else 0) := P.2.2.2
  have pp := P.2.1 p hp
  have p1 : h.1 113 p = I (pcl (pE s) p : Int) := pp.1
  have p2 : h.1 115 p = I (ea (yE s) p : Int) := pp.2.1
  have p3 : h.1 116 p = I (la (yE s) p) := pp.2.2
  refine sX8_suits ?_
  rw [e44]
  cases hc : canY (yE s) (np (pE s)) with
  | false => exact br_t y00 (k0 (sut_f (fun w => by rw [hc] at w; cases w.1)))
  | true =>
    refine br_f n10 ⟨i, rfl, by omega, p, rfl, by omega, ?_⟩
    rw [e5, p1, I_eq (by omega) (by omega) (by omega) (by omega)]
    refine ⟨fun y => k0 (sut_f (fun w => y (by have := w.2.1; omega))), fun y => ⟨i, rfl, by omega, p, rfl, by omega, p, rfl, by omega, ?_⟩⟩
    rw [e4, p2, p3]
    refine wp_in ⟨by omega, by omega⟩ ⟨by omega, by omega⟩ ⟨by omega, by omega⟩ (fun q1 q2 => br_f n10 ?_) (fun q => br_t y00 (k0 (sut_f (fun w => by have := w.2.2.1; have := w.2.2.2.1; omega))))
    rw [I_eq0 (by omega) (by omega)]
    refine ⟨fun y2 => k1 (sut_iff.mpr ⟨hc, by omega, by omega, by omega, Or.inl (by omega)⟩), fun y2 => ?_⟩
    have hl1 : last - 1 < bnN s := by omega
    have e41 : h.1 94 (last - 1) = I (byN s (last - 1) : Int) := (K _ hl1).1
    have y91 : byN s (last - 1) ≤ 999 := (v.2.2.1.2.2 _ hl1).1
    refine ⟨i, rfl, by omega, last - 1, by rw [I_sub]; congr 1; omega, by omega, ?_⟩
    rw [e4, e41, I_le (by omega) (by omega) (by omega) (by omega)]
    exact ⟨fun y3 => k0 (sut_f (fun w => by have := w.2.2.2.2; omega)), fun y3 => k1 (sut_iff.mpr ⟨hc, by omega, by omega, by omega, Or.inr (by omega)⟩)⟩
def tbM (s : ST) (h : AH) (p : Nat) : Prop := ∀ last, last ≤ bnN s → h.1 117 (9 * p + last) = I (fitP s p last : Int)
abbrev c117 : Nat → Nat → Prop := fun a _ => a = 117
theorem RC_7 {h2 : AH} (v : vS s) (R : RC s h) (c : Chg c117 nR h h2) : RC s h2 := RC_c (c.up (fun a k q => by unfold scC; omega) (fun _ _ q => q.elim)) v R
theorem RM_7 {h2 : AH} (M : RM s h) (c : Chg c117 nR h h2) : RM s h2 := RM_c (c.up (fun a k q => by unfold scM; omega) (fun _ _ q => q)) M
theorem pm_7 {h2 : AH} (P : pmS s h) (c : Chg c117 nR h h2) : pmS s h2 := pmS_c c (by omega) (by omega) (fun a k q1 q2 => by omega) P
theorem m_billed {u : Int32} {z : Int} (v : vS s) (R : RC s h) (M : RM s h) (hz : inr z) (u0 : z = -1 → u = I (fitP s 0 0 : Int)) (u1 : ∀ n : Nat, z = n → n < np (pE s) → u = I (lbl s n (lsq s n) : Int)) (u2 : z < -1 ∨ (np (pE s) : Int) ≤ z → u = I (-1)) : SpI g l mX8_billed h [.ref 82, .int (I z)] (fun x h2 => x = u ∧ Inv h2) := by
  have n40 : np (pE s) ≤ 40 := np_le v.2.1
  have n8 : bnN s ≤ 8 := v.2.2.1.2.1
  obtain ⟨a1, a2⟩ := hz
  refine sX8_billed (fun X O => wp_make v R M (fun h0 R0 M0 _ P0 => ?_))
  have e38 : ∀ {h1}, Chg c117 nR h0 h1 → h1.1 82 38 = I (np (pE s) : Int) := fun d => by rw [d.1 _ _ (by omega)]; exact P0.1
  have e17 : ∀ {h1}, Chg c117 nR h0 h1 → h1.1 82 17 = I (bnN s : Int) := fun d => by rw [d.1 _ _ (by omega)]; exact M0.1.2.2.1.2.1
  rw [e38 Chg.rf, I_sub]
  refine wp_in ⟨a1, a2⟩ ⟨by omega, by omega⟩ ⟨by omega, by omega⟩ (fun q1 q2 => nb_t n10 ?_) (fun q => nb_f y00 ⟨(u2 (by omega)).symm, s, v, R0, M0⟩)
  -- bill by bill
  have lp4 : ∀ (m p : Nat) (h1 : AH) (w : Int32), (p : Int) + (m : Int) = z + 1 → Chg c117 nR h0 h1 → (∀ q, q ≤ np (pE s) → tbM s h1 q) → (p = 0 → w = I (fitP s 0 0 : Int)) → (∀ q, q + 1 = p → w = I (lbl s q (lsq s q) : Int)) → GI g l X (fun x h2 => x = u ∧ Inv h2) h1 188 [(0, .ref 82), (1, .int (I z)), (2, .int (I (lsq s p : Int))), (3, .int w), (4, .int (I (p : Int)))] [] := by
    intro m
    induction m with
    | zero =>
      intro p h1 w hp d T w0 w1
      refine bX8_billed_188 O (br_t ((I_lt (by omega) (by omega) (by omega) (by omega)).mpr (by omega)) ⟨?_, s, v, RC_7 v R0 d, RM_7 M0 d⟩)
      by_cases p0 : p = 0
      · rw [w0 p0, u0 (by omega)]
      · obtain ⟨q, rfl⟩ : ∃ q, p = q + 1 := ⟨p - 1, by omega⟩
        rw [w1 q rfl, u1 q (by omega) (by omega)]
    | succ m ih =>
      intro p h1 w hp d T w0 w1
      have hpn : p < np (pE s) := by omega
      have M1 := RM_7 M0 d
      have P1 := pm_7 P0 d
      have lq := lsq_le (s := s) p
      have ll := lbl_le (s := s) (p := p) (last := lsq s p)
      have f1 : ∀ i, fitP s (p + 1) i ≤ 40 := fun i => fitP_le v
      have f0 : fitP s p (lsq s p) ≤ 40 := fitP_le v
      have f2 := f1 (lsq s p)
      have qs : lsq s (p + 1) = if lbl s p (lsq s p) = 0 then lsq s p else lbl s p (lsq s p) := rfl
      have IH := ih (p + 1) h1 (I (lbl s p (lsq s p) : Int)) (by omega) d T (fun e => by omega) (fun q hq => by rw [show q = p by omega])
      rw [qs] at IH
      have ex : (I (lbl s p (lsq s p) : Int) ≤ 0 → GI g l X (fun x h2 => x = u ∧ Inv h2) h1 188 [(0, .ref 82), (1, .int (I z)), (2, .int (I (lsq s p : Int))), (3, .int (I (lbl s p (lsq s p) : Int))), (4, .int (I (p : Int) + I 1))] []) ∧ (¬ I (lbl s p (lsq s p) : Int) ≤ 0 → GI g l X (fun x h2 => x = u ∧ Inv h2) h1 188 [(0, .ref 82), (1, .int (I z)), (2, .int (I (lbl s p (lsq s p) : Int))), (3, .int (I (lbl s p (lsq s p) : Int))), (4, .int (I (p : Int) + I 1))] []) := by
        rw [I_le0 (by omega) (by omega), I_add]
        refine ⟨fun y => ?_, fun y => ?_⟩
        · rw [if_pos (by omega)] at IH
          exact IH
        · rw [if_neg (by omega)] at IH
          exact IH
      have ix1 : ∀ i, I 9 * (I (p : Int) + I 1) + I ((i : Nat) : Int) = I ((9 * (p + 1) + i : Nat) : Int) := fun i => by rw [I_add, I_mul, I_add]; rfl
      have ix0 : ∀ i, I 9 * I (p : Int) + I ((i : Nat) : Int) = I ((9 * p + i : Nat) : Int) := fun i => by rw [I_mul, I_add]; rfl
      refine bX8_billed_188 O (br_f (fun q => absurd ((I_lt (by omega) (by omega) (by omega) (by omega)).mp q) (by omega)) ?_)
      rw [e17 d, I_sub]
      by_cases eq : fitP s (p + 1) (lsq s p) = fitP s p (lsq s p)
      · have e0 : lbl s p (lsq s p) = 0 := by unfold lbl; rw [if_pos eq]
        rw [e0] at ex
        refine bX8_billed_204 O ⟨fun _ => ex, fun _ => ⟨9 * (p + 1) + lsq s p, ix1 _, by omega, 9 * p + lsq s p, ix0 _, by omega, ?_⟩⟩
        rw [T (p + 1) (by omega) _ lq, T p (by omega) _ lq, eq]
        exact br_t rfl ex
      · have el : lbl s p (lsq s p) = lbj s p (lsq s p) 0 := by unfold lbl; rw [if_neg eq]
        have lp5 : ∀ j, j ≤ bnN s → GI g l X (fun x h2 => x = u ∧ Inv h2) h1 204 [(0, .ref 82), (1, .int (I z)), (2, .int (I (lsq s p : Int))), (3, .int (I (lbj s p (lsq s p) j : Int))), (4, .int (I (p : Int))), (5, .int (I ((j : Int) - 1)))] [] := by
          intro j
          induction j with
          | zero =>
            intro _
            rw [← el]
            exact bX8_billed_204 O (br_t ((I_lt0 (by omega) (by omega)).mpr (by omega)) ex)
          | succ j ih5 =>
            intro hj
            have fj := f1 (j + 1)
            have ls := lbj_s (s := s) (p := p) (last := lsq s p) (j := j) (by omega)
            have IH5 := ih5 (by omega)
            rw [ls] at IH5
            rw [show (((j + 1 : Nat) : Int) - 1) = (j : Int) by omega]
            refine bX8_billed_204 O (br_f (by rw [I_lt0 (by omega) (by omega)]; omega) ⟨9 * (p + 1) + lsq s p, ix1 _, by omega, 9 * p + lsq s p, ix0 _, by omega, ?_⟩)
            rw [T (p + 1) (by omega) _ lq, T p (by omega) _ lq, I_eq (by omega) (by omega) (by omega) (by omega)]
            have no : lbc s p (lsq s p) j = false → GI g l X (fun x h2 => x = u ∧ Inv h2) h1 204 [(0, .ref 82), (1, .int (I z)), (2, .int (I (lsq s p : Int))), (3, .int (I (lbj s p (lsq s p) (j + 1) : Int))), (4, .int (I (p : Int))), (5, .int (I (j : Int) + I (-1)))] [] := fun y => by
              rw [y] at IH5
              rw [I_add]
              exact IH5
            refine br_f (by omega) (wp_suits v M1 P1 hpn lq (by omega) (fun su => br_f n10 ⟨9 * (p + 1) + (j + 1), by rw [ix1, I_add]; rfl, by omega, 9 * p + lsq s p, ix0 _, by omega, ?_⟩) (fun su => br_t y00 (no (by unfold lbc; rw [su]; rfl))))
            rw [T (p + 1) (by omega) _ (by omega), T p (by omega) _ lq, I_add, I_eq (by omega) (by omega) (by omega) (by omega)]
            refine ⟨fun y => no (by unfold lbc; rw [su, Bool.true_and, beq_eq_false_iff_ne]; omega), fun y => ?_⟩
            have lt : lbc s p (lsq s p) j = true := by unfold lbc; rw [su, Bool.true_and, beq_iff_eq]; omega
            rw [lt] at IH5
            rw [I_add, I_add]
            exact IH5
        have := lp5 (bnN s) (Nat.le_refl _)
        rw [lbj_n rfl] at this
        exact this
  -- the table
  have lp2 : ∀ j h1, j ≤ np (pE s) + 1 → Chg c117 nR h0 h1 → (∀ q, j ≤ q → q ≤ np (pE s) → tbM s h1 q) → GI g l X (fun x h2 => x = u ∧ Inv h2) h1 25 [(0, .ref 82), (1, .int (I z)), (2, .int (I ((j : Int) - 1)))] [] := by
    intro j
    induction j with
    | zero =>
      intro h1 _ d T
      have t0 : h1.1 117 0 = I (fitP s 0 0 : Int) := T 0 (Nat.le_refl _) (Nat.zero_le _) 0 (Nat.zero_le _)
      refine bX8_billed_25 O (br_t ((I_lt0 (by omega) (by omega)).mpr (by omega)) ?_)
      rw [t0]
      exact lp4 (z + 1).toNat 0 h1 _ (by omega) d (fun q hq => T q (by omega) hq) (fun _ => rfl) (fun q hq => absurd hq (by omega))
    | succ j ih =>
      intro h1 hj d T
      rw [show (((j + 1 : Nat) : Int) - 1) = (j : Int) by omega]
      have lp3 : ∀ m i h2, i + m = bnN s + 1 → Chg c117 nR h0 h2 → (∀ q, j + 1 ≤ q → q ≤ np (pE s) → tbM s h2 q) → (∀ q, q < i → h2.1 117 (9 * j + q) = I (fitP s j q : Int)) → GI g l X (fun x h2 => x = u ∧ Inv h2) h2 31 [(0, .ref 82), (1, .int (I z)), (2, .int (I (j : Int))), (3, .int (I (i : Int)))] [] := by
        intro m
        induction m with
        | zero =>
          intro i h2 hi d2 T2 A
          refine bX8_billed_31 O ?_
          rw [e17 d2]
          refine br_t ((I_lt (by omega) (by omega) (by omega) (by omega)).mpr (by omega)) ?_
          rw [I_add, show (j : Int) + -1 = (j : Int) - 1 by omega]
          refine ih h2 (by omega) d2 (fun q q1 q2 => ?_)
          by_cases eq : q = j
          · subst eq; exact fun i hi => A i (by omega)
          · exact T2 q (by omega) q2
        | succ m ih3 =>
          intro i h2 hi d2 T2 A
          have st : ∀ w : Nat, fitP s j i = w → ∃ j2 : Nat, I 9 * I (j : Int) + I (i : Int) = I (j2 : Int) ∧ j2 < 369 ∧ GI g l X (fun x h2 => x = u ∧ Inv h2) (sI h2 117 j2 (I (w : Int))) 31 [(0, .ref 82), (1, .int (I z)), (2, .int (I (j : Int))), (3, .int (I (i : Int) + I 1))] [] := fun w ew => by
            refine ⟨9 * j + i, by rw [I_mul, I_add]; rfl, by omega, ?_⟩
            have f : Chg (fun a k => a = 117 ∧ k = 9 * j + i) nR h2 (sI h2 117 (9 * j + i) (I (w : Int))) := Chg.rf.i ⟨rfl, rfl⟩
            rw [I_add]
            refine ih3 (i + 1) _ (by omega) (d2.tr (f.up (fun a k q => by omega) (fun _ _ q => q))) (fun q q1 q2 t ht => by rw [f.1 _ _ (by omega)]; exact T2 q q1 q2 t ht) (fun q hq => ?_)
            by_cases eq : q = i
            · subst eq; rw [sI_1, up_s, ew]
            · rw [f.1 _ _ (by omega)]; exact A q (by omega)
          refine bX8_billed_31 O ?_
          rw [e17 d2, e38 d2]
          refine br_f (fun q => absurd ((I_lt (by omega) (by omega) (by omega) (by omega)).mp q) (by omega)) ?_
          rw [I_eq (by omega) (by omega) (by omega) (by omega)]
          refine ⟨fun y => ?_, fun y => ?_⟩
          · have hjn : j < np (pE s) := by omega
            have M2 := RM_7 M0 d2
            have P2 := pm_7 P0 d2
            have f40 : ∀ i, fitP s (j + 1) i ≤ 40 := fun i => fitP_le v
            have T1 := T2 (j + 1) (Nat.le_refl _) (by omega)
            refine ⟨9 * (j + 1) + i, by rw [I_add, I_mul, I_add]; rfl, by omega, ?_⟩
            rw [T1 i (by omega)]
            have lpb : ∀ m b, b + m = bnN s → GI g l X (fun x h2 => x = u ∧ Inv h2) h2 69 [(0, .ref 82), (1, .int (I z)), (2, .int (I (j : Int))), (3, .int (I (i : Int))), (4, .int (I (fbst s (fitP s (j + 1)) j i b : Int))), (5, .int (I (b : Int)))] [] := by
              intro m
              induction m with
              | zero =>
                intro b hb
                have be : b = bnN s := by omega
                refine bX8_billed_69 O ?_
                rw [e17 d2]
                refine br_t ((I_le (by omega) (by omega) (by omega) (by omega)).mpr (by omega)) (st _ ?_)
                rw [be]
                exact fitP_s hjn
              | succ m ihb =>
                intro b hb
                have fl := fbst_le (s := s) (p := j) (last := i) f40 b
                have fi := f40 (b + 1)
                have fs : fbst s (fitP s (j + 1)) j i (b + 1) = if sut s b j i && decide (fbst s (fitP s (j + 1)) j i b < fitP s (j + 1) (b + 1) + 1) then fitP s (j + 1) (b + 1) + 1 else fbst s (fitP s (j + 1)) j i b := rfl
                have IH : ∀ w, fbst s (fitP s (j + 1)) j i (b + 1) = w → GI g l X (fun x h2 => x = u ∧ Inv h2) h2 69 [(0, .ref 82), (1, .int (I z)), (2, .int (I (j : Int))), (3, .int (I (i : Int))), (4, .int (I (w : Int))), (5, .int (I (b : Int) + I 1))] [] := fun w ew => by
                  rw [I_add, ← ew]
                  exact ihb (b + 1) (by omega)
                have ix : I 9 * (I (j : Int) + I 1) + I (b : Int) + I 1 = I ((9 * (j + 1) + (b + 1) : Nat) : Int) := by rw [I_add, I_mul, I_add, I_add]; rfl
                refine bX8_billed_69 O ?_
                rw [e17 d2, e38 d2]
                refine br_f (fun q => absurd ((I_le (by omega) (by omega) (by omega) (by omega)).mp q) (by omega)) (br_f (fun q => absurd ((I_le (by omega) (by omega) (by omega) (by omega)).mp q) (by omega)) (wp_suits v M2 P2 hjn (by omega) (by omega) (fun su => br_f n10 ⟨_, ix, by omega, ?_⟩) (fun su => br_t y00 (IH _ (by rw [fs, su]; rfl)))))
                rw [T1 (b + 1) (by omega), I_add, I_le (by omega) (by omega) (by omega) (by omega)]
                refine ⟨fun y2 => IH _ (by rw [fs, su, decide_eq_false (by omega)]; rfl), fun y2 => ⟨_, ix, by omega, ?_⟩⟩
                rw [T1 (b + 1) (by omega), I_add]
                exact IH (fitP s (j + 1) (b + 1) + 1) (by rw [fs, su, decide_eq_true (by omega)]; rfl)
            exact lpb (bnN s) 0 (by omega)
          · have je : j = np (pE s) := by omega
            have s0 := st 0 (by rw [je]; exact fitP_n)
            refine bX8_billed_69 O ⟨fun _ => s0, fun _ => ?_⟩
            rw [e38 d2]
            exact br_t ((I_le (by omega) (by omega) (by omega) (by omega)).mpr (by omega)) s0
      exact bX8_billed_25 O (br_f (by rw [I_lt0 (by omega) (by omega)]; omega) (lp3 (bnN s + 1) 0 h1 (by omega) d (fun q q1 q2 => T q (by omega) q2) (fun q hq => absurd hq (by omega))))
  have := lp2 (np (pE s) + 1) h0 (Nat.le_refl _) Chg.rf (fun q q1 q2 => absurd q1 (by omega))
  rw [show (((np (pE s) + 1 : Nat) : Int) - 1) = (np (pE s) : Int) by omega] at this
  rw [e38 Chg.rf]
  exact this
theorem J_billed (hI : Inv h) (x1 : Int32) : JI g l mX7_billed mX8_billed h [.ref 0, .int x1] [.ref 82, .int x1] := by
  obtain ⟨s, v, R, M⟩ := hI
  obtain ⟨z, a1, a2, rfl⟩ := I_any x1
  have n40 : np (pE s) ≤ 40 := np_le v.2.1
  refine sX7_billed (fun X O => wp_settle v R M (fun h1 R1 M1 _ P1 => ?_))
  have at19 : (z = -1 ∨ ∃ n : Nat, z = n ∧ n < np (pE s)) → GI g l X (fun v h1 => SpI g l mX8_billed h1 [.ref 82, .int (I z)] (fun u h2 => u = v ∧ Inv h2)) h1 19 [(0, .ref 0), (1, .int (I z))] [] := fun yes => by
    obtain ⟨b, b', hb⟩ := R1.1.2.2.1
    refine bX7_billed_19 O ⟨b, hb.2.1, lay_bk hb.1, ?_⟩
    rw [R1.1.2.2.2.1 3 (by omega)]
    refine wp_yfind v hb P1 (fun h2 c2 Y => ?_)
    have R2 := RC_yf v R1 c2
    have M2 := RM_yf M1 c2
    have hb2 : rcB s h2 b b' := rcB_c (s := s) c2 (fun a k q1 q2 => by rcases hb.1 with q | q <;> omega) (fun k => id) hb
    have P2 := pcE_c c2 (by omega) (fun a k q1 q2 => by omega) P1
    refine ⟨b, hb2.2.1, lay_bk hb.1, wp_match v hb2 P2 Y (fun h3 c3 A e3 => ?_)⟩
    have R3 : RC s h3 := RC_c (c3.up (fun a k q => by unfold scC; omega) (fun _ _ q => q.elim)) v R2
    have M3 : RM s h3 := RM_c (c3.up (fun a k q => by unfold scM; omega) (fun _ _ q => q)) M2
    rw [I_eq a1 a2 (by omega) (by omega)]
    refine ⟨fun y => ?_, fun y => m_billed v R3 M3 ⟨a1, a2⟩ (fun _ => e3) (fun n e hn => by omega) (fun e => by omega)⟩
    rcases yes with q | ⟨n, e, hn⟩
    · exact absurd q y
    · subst e
      exact ⟨n, rfl, by omega, m_billed v R3 M3 ⟨a1, a2⟩ (fun e => absurd e y) (fun n' e hn' => by
        obtain rfl : n = n' := by omega
        exact A n hn) (fun e => by omega)⟩
  rw [I_eq a1 a2 (by omega) (by omega)]
  exact ⟨fun q => at19 (Or.inl q), fun q => wp_isPt v P1 ⟨a1, a2⟩ (fun n e hn => nb_t n10 (at19 (Or.inr ⟨n, e, hn⟩))) (fun q2 => nb_f y00 (m_billed v R1 M1 ⟨a1, a2⟩ (fun e => absurd e q) (fun n e hn => by omega) (fun _ => rfl)))⟩
end BM
