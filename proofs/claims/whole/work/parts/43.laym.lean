section LM
variable {g : mg} {l : Launch} {s : ST} {a b : Nat}
theorem mcol {h : AH} (M : RM s h) {c k : Nat} (hc : c < s.2.1.1) (hk : k < szP (pE s) c) : h.1 87 (10 * c + k) = I (coP (pE s) c k : Int) ∧ h.1 88 (10 * c + k) = I (diP (pE s) c k : Int) := by
  have y := (M.1.2.1.2 c hc).2.2.2 k hk
  simp only [Nat.mul_zero, Nat.zero_add] at y
  exact y
theorem msz {h : AH} (M : RM s h) {c : Nat} (hc : c < s.2.1.1) : h.1 86 c = I (szP (pE s) c : Int) := by
  have y := (M.1.2.1.2 c hc).2.2.1
  simp only [Nat.mul_zero, Nat.zero_add] at y
  exact y
theorem wp_mSame {h : AH} {Q : Int32 → AH → Prop} (v : vS s) (M : RM s h) (ha : a < s.2.1.1) (hb : b < s.2.1.1) {i j : Nat} (hi : i < (lyE s a b).1) (hj : j < (lyE s a b).2.1) (k : Q (I (if (lyE s a b).2.2.1 i j then 1 else 0)) h) : SpI g l mX8_areSame h [.ref 82, .int (I (a : Int)), .int (I (b : Int)), .int (I (i : Int)), .int (I (j : Int))] Q := by
  have h4 := v.2.1.1
  have va := v.2.1.2 a ha
  have vb := v.2.1.2 b hb
  have z1 : i < 10 := Nat.lt_of_lt_of_le hi va.2.2.2.1
  have z2 : j < 10 := Nat.lt_of_lt_of_le hj vb.2.2.2.1
  refine sX8_areSame ⟨10 * a + i, by rw [I_mul, I_add]; rfl, by omega, 10 * b + j, by rw [I_mul, I_add]; rfl, by omega, ?_⟩
  rw [(mcol M ha hi).1, (mcol M hb hj).1]
  refine wp_misSame v M (va.2.2.2.2.1 i hi) (vb.2.2.2.2.1 j hj) ⟨?_, k⟩
  cases smb (pE s) (coP (pE s) a i) (coP (pE s) b j)
  · exact Or.inl (by decide)
  · exact Or.inr (by decide)
theorem wp_mCost {h : AH} {Q : Int32 → AH → Prop} (v : vS s) (M : RM s h) (ha : a < s.2.1.1) (hb : b < s.2.1.1) {i e j : Nat} (hi : i < (lyE s a b).1) (he : e < (lyE s a b).2.1) (hj : j ≤ e) (T : tabM h (lyE s a b) (i + 1) (e + 1)) (k : Q (I (cB (lyE s a b) (ltab (lyE s a b) (i + 1)) i j e : Int)) h) : SpI g l mX8_costOf h [.ref 82, .int (I (a : Int)), .int (I (b : Int)), .int (I (i : Int)), .int (I (j : Int)), .int (I (e : Int))] Q := by
  have h4 := v.2.1.1
  have va := v.2.1.2 a ha
  have vb := v.2.1.2 b hb
  have d1 := va.2.2.2.2.2 i hi
  have d2 := vb.2.2.2.2.2 e he
  have z1 : i < 10 := Nat.lt_of_lt_of_le hi va.2.2.2.1
  have z2 : e < 10 := Nat.lt_of_lt_of_le he vb.2.2.2.1
  have ix : I 11 * (I (i : Int) + I 1) + I (e : Int) + I 1 = I ((11 * (i + 1) + (e + 1) : Nat) : Int) := by rw [I_add, I_mul, I_add, I_add]; congr 1
  refine sX8_costOf ⟨10 * a + i, by rw [I_mul, I_add]; rfl, by omega, 10 * b + e, by rw [I_mul, I_add]; rfl, by omega, ?_⟩
  rw [(mcol M ha hi).2, (mcol M hb he).2, I_sub, I_sub, I_neg, ix, M.1.2.2.2.1 0 (by omega), M.1.2.2.2.1 1 (by omega)]
  have fin : ∀ w : Int, w = (absD (diP (pE s) a i) (diP (pE s) b e) : Int) → ∃ j6 : Nat, I ((11 * (i + 1) + (e + 1) : Nat) : Int) = I (j6 : Int) ∧ j6 < 121 ∧ Q (I ((e : Int) - (j : Int)) * I (s.2.2.2.1 0 : Int) + I (s.2.2.2.1 1 : Int) * I w + h.1 108 j6) h := by
    intro w hw
    refine ⟨11 * (i + 1) + (e + 1), rfl, by omega, ?_⟩
    rw [T.1, I_mul, I_mul, I_add, I_add, hw]
    have : (((e : Int) - (j : Int)) * (s.2.2.2.1 0 : Int) + (s.2.2.2.1 1 : Int) * (absD (diP (pE s) a i) (diP (pE s) b e) : Int) + ((ltab (lyE s a b) (i + 1) (e + 1)).1 : Int)) = (cB (lyE s a b) (ltab (lyE s a b) (i + 1)) i j e : Int) := by
      unfold cB
      show _ = ((s.2.2.2.1 0 * (e - j) + s.2.2.2.1 1 * absD (diP (pE s) a i) (diP (pE s) b e) + (ltab (lyE s a b) (i + 1) (e + 1)).1 : Nat) : Int)
      push_cast
      rw [Int.ofNat_sub hj, Int.mul_comm]
    rw [this]
    exact k
  have q1 : diP (pE s) a i ≤ 9 := d1
  have q2 : diP (pE s) b e ≤ 9 := d2
  simp (disch := omega) only [I_ge0]
  refine ⟨fun q => fin _ ?_, fun q => fin _ ?_⟩
  · unfold absD; rw [if_pos (by omega)]; omega
  · unfold absD; rw [if_neg (by omega)]; omega
theorem wp_mlay {h : AH} {Q : AH → Prop} (v : vS s) (M : RM s h) (ha : a < s.2.1.1) (hb : b < s.2.1.1) (k : ∀ h2, Chg (fun a _ => a = 108) nR h h2 → (∀ i j, i ≤ (lyE s a b).1 → j ≤ (lyE s a b).2.1 → tabM h2 (lyE s a b) i j) → Q h2) : SpV g l mX8_lay h [.ref 82, .int (I (a : Int)), .int (I (b : Int))] Q := by
  have h4 := v.2.1.1
  have vl := okL_of v ha hb
  have v1 := vl.1
  have v2 := vl.2.1
  refine sX8_lay (fun X O => ⟨b, rfl, by omega, a, rfl, by omega, ?_⟩)
  rw [msz M hb, msz M ha]
  show GV g l X Q h 15 [(0, .ref 82), (1, .int (I (a : Int))), (2, .int (I (b : Int))), (3, .int (I ((lyE s a b).2.1 : Int))), (4, .int (I ((lyE s a b).1 : Int)))] []
  have MM : ∀ h1, Chg (fun a _ => a = 108) nR h h1 → RM s h1 := fun h1 c => RM_c (c.up (fun a k q => by unfold scM; omega) (fun _ _ q => q)) M
  -- the inner loop, over the places of the other row
  have lp3 : ∀ (i j : Nat), i < (lyE s a b).1 → j ≤ (lyE s a b).2.1 → ∀ (m t : Nat) (h1 : AH), t + m = (lyE s a b).2.1 - j → Chg (fun a _ => a = 108) nR h h1 → (∀ e, e ≤ (lyE s a b).2.1 → tabM h1 (lyE s a b) (i + 1) e) → h1.1 108 (11 * i + j) = I ((stp (lyE s a b) (ltab (lyE s a b) (i + 1)) i j t).1 : Int) → h1.2.1 109 (11 * i + j) = (stp (lyE s a b) (ltab (lyE s a b) (i + 1)) i j t).2 → (∀ h2, Chg (fun a k => a = 108 ∧ k = 11 * i + j) nR h1 h2 → (∀ k, k ≠ 11 * i + j → h2.2.1 109 k = h1.2.1 109 k) → tabM h2 (lyE s a b) i j → GV g l X Q h2 23 [(0, .ref 82), (1, .int (I (a : Int))), (2, .int (I (b : Int))), (3, .int (I ((lyE s a b).2.1 : Int))), (4, .int (I (i : Int))), (5, .int (I (j : Int) + I (-1)))] []) → GV g l X Q h1 123 [(0, .ref 82), (1, .int (I (a : Int))), (2, .int (I (b : Int))), (3, .int (I ((lyE s a b).2.1 : Int))), (4, .int (I (i : Int))), (5, .int (I (j : Int))), (6, .int (I ((11 * i + j : Nat) : Int))), (7, .int (I ((j + t : Nat) : Int)))] [] := by
    intro i j hi hj m
    induction m with
    | zero =>
      intro t h1 ht c1 c2 c3 c4 kk
      refine bX8_lay_123 O (br_t ((I_le (by omega) (by omega) (by omega) (by omega)).mpr (by omega)) (kk h1 Chg.rf (fun _ _ => rfl) ⟨?_, ?_⟩))
      · rw [c3, ltab_s _ hi, show t = (lyE s a b).2.1 - j by omega]
      · rw [c4, ltab_s _ hi, show t = (lyE s a b).2.1 - j by omega]
    | succ m ih =>
      intro t h1 ht c1 c2 c3 c4 kk
      have he : j + t < (lyE s a b).2.1 := by omega
      have hb1 : (stp (lyE s a b) (ltab (lyE s a b) (i + 1)) i j t).1 ≤ 1050 := by
        have := stp_le (lyE s a b) (ltab (lyE s a b) (i + 1)) i j t
        have h1 : (ltab (lyE s a b) (i + 1) j).1 ≤ 1000 := lrow_1000 vl (by omega)
        have h2 := vl.2.2.2.1
        omega
      have hp : (ltab (lyE s a b) (i + 1) (j + t + 1)).1 ≤ 1000 := lrow_1000 vl (by omega)
      have hc := (cB_le (j := j) vl hp hi he).2.2
      refine bX8_lay_123 O (br_f (fun e => absurd ((I_le (by omega) (by omega) (by omega) (by omega)).mp e) (by omega)) ?_)
      refine wp_mSame v (MM h1 c1) ha hb hi he ?_
      have nx : ∀ (h2 : AH) (w : Nat × Int64), w = stp (lyE s a b) (ltab (lyE s a b) (i + 1)) i j (t + 1) → Chg (fun a k => a = 108 ∧ k = 11 * i + j) nR h1 h2 → (∀ k, k ≠ 11 * i + j → h2.2.1 109 k = h1.2.1 109 k) → h2.1 108 (11 * i + j) = I (w.1 : Int) → h2.2.1 109 (11 * i + j) = w.2 → GV g l X Q h2 123 [(0, .ref 82), (1, .int (I (a : Int))), (2, .int (I (b : Int))), (3, .int (I ((lyE s a b).2.1 : Int))), (4, .int (I (i : Int))), (5, .int (I (j : Int))), (6, .int (I ((11 * i + j : Nat) : Int))), (7, .int (I ((j + t : Nat) : Int) + I 1))] [] := by
        intro h2 w hw d1 d2 d3 d4
        subst hw
        rw [I_add]
        refine ih (t + 1) h2 (by omega) (c1.tr (d1.up (fun a k q => q.1) (fun _ _ q => q))) (fun e he => ⟨by rw [d1.1 _ _ (by omega)]; exact (c2 e he).1, by rw [d2 _ (by omega)]; exact (c2 e he).2⟩) d3 d4 (fun h3 f1 f2 f3 => kk h3 (d1.tr f1) (fun q hq => (f2 q hq).trans (d2 q hq)) f3)
      cases hq : (lyE s a b).2.2.1 i (j + t) with
      | false =>
        refine nb_f y00 (nx h1 (stp (lyE s a b) (ltab (lyE s a b) (i + 1)) i j t) ?_ Chg.rf (fun _ _ => rfl) c3 c4)
        conv => rhs; unfold stp
        rw [hq]
        rfl
      | true =>
        refine nb_t n10 (wp_mCost v (MM h1 c1) ha hb hi he (by omega) (c2 (j + t + 1) (by omega)) ⟨11 * i + j, rfl, by omega, ?_⟩)
        rw [c3]
        simp (disch := omega) only [I_le]
        have ix : I 11 * (I (i : Int) + I 1) + I ((j + t : Nat) : Int) + I 1 = I ((11 * (i + 1) + (j + t + 1) : Nat) : Int) := by rw [I_add, I_mul, I_add, I_add]; congr 1
        refine ⟨fun q5 => bX8_lay_188 O ⟨11 * i + j, rfl, by omega, 11 * i + j, rfl, by omega, ?_⟩, fun q5 => ⟨11 * i + j, rfl, by omega, 11 * i + j, rfl, by omega, bX8_lay_188 O ⟨11 * i + j, rfl, by omega, 11 * i + j, rfl, by omega, ?_⟩⟩⟩
        · rw [c3]
          simp (disch := omega) only [I_eq]
          refine ⟨fun q6 => ⟨11 * i + j, rfl, by omega, nx _ (stp (lyE s a b) (ltab (lyE s a b) (i + 1)) i j t) ?_ (Chg.rf.l (by omega) (by omega)) (fun q hq => by rw [sL_1, up_n hq]) c3 ?_⟩, fun q6 => ⟨11 * (i + 1) + (j + t + 1), ix, by omega, 11 * i + j, rfl, by omega, nx _ ((stp (lyE s a b) (ltab (lyE s a b) (i + 1)) i j t).1, (stp (lyE s a b) (ltab (lyE s a b) (i + 1)) i j t).2 + (ltab (lyE s a b) (i + 1) (j + t + 1)).2) ?_ (Chg.rf.l (by omega) (by omega)) (fun q hq => by rw [sL_1, up_n hq]) c3 ?_⟩⟩
          · conv => rhs; unfold stp
            rw [hq, if_pos rfl, if_neg (by omega), if_neg (by omega)]
          · rw [sL_1, up_s, c4]
            exact Int64.add_zero _
          · conv => rhs; unfold stp
            rw [hq, if_pos rfl, if_neg (by omega), if_pos (by omega)]
          · rw [sL_1, up_s, c4, (c2 (j + t + 1) (by omega)).2]
        · have e1 : (sL (sI h1 108 (11 * i + j) (I (cB (lyE s a b) (ltab (lyE s a b) (i + 1)) i j (j + t) : Int))) 109 (11 * i + j) 0).1 108 (11 * i + j) = I (cB (lyE s a b) (ltab (lyE s a b) (i + 1)) i j (j + t) : Int) := by
            show (sI h1 108 (11 * i + j) _).1 108 (11 * i + j) = _
            rw [sI_1, up_s]
          rw [e1]
          refine nb_f rfl ⟨11 * (i + 1) + (j + t + 1), ix, by omega, 11 * i + j, rfl, by omega, nx _ (cB (lyE s a b) (ltab (lyE s a b) (i + 1)) i j (j + t), 0 + (ltab (lyE s a b) (i + 1) (j + t + 1)).2) ?_ (((Chg.rf.i ⟨rfl, rfl⟩).l (by omega) (by omega)).l (by omega) (by omega)) (fun q hq => by rw [sL_1, up_n hq, sL_1, up_n hq]; rfl) e1 ?_⟩
          · conv => rhs; unfold stp
            rw [hq, if_pos rfl, if_pos (by omega)]
          · rw [sL_1, up_s, sL_1, up_s, up_n (by omega)]
            show 0 + h1.2.1 109 _ = _
            rw [(c2 (j + t + 1) (by omega)).2]
  have lp2 : ∀ (i : Nat), i ≤ (lyE s a b).1 → ∀ (m : Nat) (h1 : AH), m ≤ (lyE s a b).2.1 + 1 → Chg (fun a _ => a = 108) nR h h1 → (∀ i' j, i < i' → i' ≤ (lyE s a b).1 → j ≤ (lyE s a b).2.1 → tabM h1 (lyE s a b) i' j) → (∀ j, m ≤ j → j ≤ (lyE s a b).2.1 → tabM h1 (lyE s a b) i j) → (∀ h2, Chg (fun a _ => a = 108) nR h h2 → (∀ i' j, i ≤ i' → i' ≤ (lyE s a b).1 → j ≤ (lyE s a b).2.1 → tabM h2 (lyE s a b) i' j) → GV g l X Q h2 15 [(0, .ref 82), (1, .int (I (a : Int))), (2, .int (I (b : Int))), (3, .int (I ((lyE s a b).2.1 : Int))), (4, .int (I (i : Int) + I (-1)))] []) → GV g l X Q h1 23 [(0, .ref 82), (1, .int (I (a : Int))), (2, .int (I (b : Int))), (3, .int (I ((lyE s a b).2.1 : Int))), (4, .int (I (i : Int))), (5, .int (I ((m : Int) - 1)))] [] := by
    intro i hi m
    induction m with
    | zero =>
      intro h1 hm c1 c3 c4 kk
      refine bX8_lay_23 O (br_t (by decide) (kk h1 c1 (fun i' j g1 g2 g3 => ?_)))
      by_cases hii : i' = i
      · subst hii; exact c4 j (by omega) g3
      · exact c3 i' j (by omega) g2 g3
    | succ m ih =>
      intro h1 hm c1 c3 c4 kk
      have e1 : (((m + 1 : Nat) : Int) - 1) = (m : Int) := by omega
      rw [e1]
      have M1 := MM h1 c1
      refine bX8_lay_23 O (br_f (by rw [I_lt0 (by omega) (by omega)]; omega) ⟨a, rfl, by omega, ?_⟩)
      rw [msz M1 ha, M1.1.2.2.2.1 0 (by omega)]
      have nx : ∀ h2, Chg (fun a k => a = 108 ∧ k = 11 * i + m) nR h1 h2 → (∀ k, k ≠ 11 * i + m → h2.2.1 109 k = h1.2.1 109 k) → tabM h2 (lyE s a b) i m → GV g l X Q h2 23 [(0, .ref 82), (1, .int (I (a : Int))), (2, .int (I (b : Int))), (3, .int (I ((lyE s a b).2.1 : Int))), (4, .int (I (i : Int))), (5, .int (I (m : Int) + I (-1)))] [] := by
        intro h2 d1 d2 d3
        rw [I_add, show ((m : Int) + -1) = ((m : Int) - 1) by omega]
        have keep : ∀ i' j, (i < i' ∨ (i' = i ∧ m < j)) → j ≤ (lyE s a b).2.1 → tabM h1 (lyE s a b) i' j → tabM h2 (lyE s a b) i' j := fun i' j g1 g2 t => ⟨by rw [d1.1 _ _ (by omega)]; exact t.1, by rw [d2 _ (by omega)]; exact t.2⟩
        refine ih h2 (by omega) (c1.tr (d1.up (fun a k q => q.1) (fun _ _ q => q))) (fun i' j g1 g2 g3 => keep i' j (Or.inl g1) g3 (c3 i' j g1 g2 g3)) (fun j g1 g2 => ?_) kk
        by_cases hjm : j = m
        · subst hjm; exact d3
        · exact keep i j (Or.inr ⟨rfl, by omega⟩) g2 (c4 j (by omega) g2)
      have ix : I 11 * I (i : Int) + I (m : Int) = I ((11 * i + m : Nat) : Int) := by rw [I_mul, I_add]; rfl
      rw [ix]
      show ((¬ I (i : Int) = I ((lyE s a b).1 : Int)) → _) ∧ (I (i : Int) = I ((lyE s a b).1 : Int) → _)
      simp (disch := omega) only [I_eq]
      refine ⟨fun q => ?_, fun q => ⟨11 * i + m, rfl, by omega, 11 * i + m, rfl, by omega, ?_⟩⟩
      · have hi' : i < (lyE s a b).1 := by omega
        have t0 := c3 (i + 1) m (by omega) (by omega) (by omega)
        have ix2 : I ((11 * i + m : Nat) : Int) + I 11 = I ((11 * (i + 1) + m : Nat) : Int) := by rw [I_add]; congr 1; omega
        rw [ix2]
        refine ⟨11 * (i + 1) + m, rfl, by omega, 11 * i + m, rfl, by omega, 11 * (i + 1) + m, rfl, by omega, 11 * i + m, rfl, by omega, ?_⟩
        rw [t0.1, t0.2, I_add]
        have d1 : Chg (fun a k => a = 108 ∧ k = 11 * i + m) nR h1 (sL (sI h1 108 (11 * i + m) (I ((s.2.2.2.1 0 : Int) + ((ltab (lyE s a b) (i + 1) m).1 : Int)))) 109 (11 * i + m) (ltab (lyE s a b) (i + 1) m).2) := (Chg.rf.i ⟨rfl, rfl⟩).l (by omega) (by omega)
        refine lp3 i m hi' (by omega) ((lyE s a b).2.1 - m) 0 _ (by omega) (c1.tr (d1.up (fun a k q => q.1) (fun _ _ q => q))) (fun e he => ⟨by rw [d1.1 _ _ (by omega)]; exact (c3 (i + 1) e (by omega) (by omega) he).1, by rw [sL_1, up_n (by omega)]; exact (c3 (i + 1) e (by omega) (by omega) he).2⟩) ?_ ?_ (fun h2 f1 f2 f3 => nx h2 (d1.tr f1) (fun q hq => by rw [f2 q hq, sL_1, up_n hq]; rfl) f3)
        · show (sI h1 108 (11 * i + m) _).1 108 (11 * i + m) = _
          rw [sI_1, up_s]
          rfl
        · rw [sL_1, up_s]
          rfl
      · rw [I_sub, I_mul]
        refine nx _ ((Chg.rf.i ⟨rfl, rfl⟩).l (by omega) (by omega)) (fun q hq => by rw [sL_1, up_n hq]; rfl) ⟨?_, ?_⟩
        · show (sI h1 108 (11 * i + m) _).1 108 (11 * i + m) = _
          rw [sI_1, up_s, show i = (lyE s a b).1 by omega, ltab_0]
          show _ = I ((s.2.2.2.1 0 * ((lyE s a b).2.1 - m) : Nat) : Int)
          congr 1
          push_cast
          rw [Int.ofNat_sub (by omega), Int.mul_comm]
        · rw [sL_1, up_s, show i = (lyE s a b).1 by omega, ltab_0]
  have lp1 : ∀ (m : Nat) (h1 : AH), m ≤ (lyE s a b).1 + 1 → Chg (fun a _ => a = 108) nR h h1 → (∀ i j, m ≤ i → i ≤ (lyE s a b).1 → j ≤ (lyE s a b).2.1 → tabM h1 (lyE s a b) i j) → GV g l X Q h1 15 [(0, .ref 82), (1, .int (I (a : Int))), (2, .int (I (b : Int))), (3, .int (I ((lyE s a b).2.1 : Int))), (4, .int (I ((m : Int) - 1)))] [] := by
    intro m
    induction m with
    | zero =>
      intro h1 hm c1 c3
      exact bX8_lay_15 O (br_t (by decide) (k h1 c1 (fun i j g1 g2 => c3 i j (by omega) g1 g2)))
    | succ m ih =>
      intro h1 hm c1 c3
      have e1 : (((m + 1 : Nat) : Int) - 1) = (m : Int) := by omega
      rw [e1]
      refine bX8_lay_15 O (br_f (by rw [I_lt0 (by omega) (by omega)]; omega) ?_)
      have := lp2 m (by omega) ((lyE s a b).2.1 + 1) h1 (Nat.le_refl _) c1 (fun i' j g1 g2 g3 => c3 i' j (by omega) g2 g3) (fun j g1 g2 => absurd g1 (by omega)) (fun h2 d1 d3 => by
        rw [I_add, show ((m : Int) + -1) = ((m : Int) - 1) by omega]
        exact ih h2 (by omega) d1 (fun i j g1 g2 g3 => d3 i j g1 g2 g3))
      rw [show ((((lyE s a b).2.1 + 1 : Nat) : Int) - 1) = ((lyE s a b).2.1 : Int) by omega] at this
      exact this
  have := lp1 ((lyE s a b).1 + 1) h (Nat.le_refl _) Chg.rf (fun i j g1 g2 => absurd g1 (by omega))
  rw [show ((((lyE s a b).1 + 1 : Nat) : Int) - 1) = ((lyE s a b).1 : Int) by omega] at this
  exact this
end LM
