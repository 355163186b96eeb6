section YR2
variable {g : mg} {l : Launch} {h : AH}
abbrev cYr : Nat → Nat → Prop := fun a k => a = 115 ∨ a = 116 ∨ (a = 82 ∧ k = 44)
theorem ofM_c {s : ST} {P R : Nat → Nat → Prop} {h h2 : AH} (e : Chg P R h h2) (p : ∀ k, ¬ P 114 k) (x : ofM s h) : ofM s h2 := fun c hc j hj => by rw [e.1 _ _ (p _)]; exact x c hc j hj
theorem wp_years {Q : AH → Prop} {s : ST} (v : vS s) (M : rmS s h) (e38 : h.1 82 38 = I (np (pE s) : Int)) (C : ∀ k, k < np (pE s) → h.1 113 k = I (pcl (pE s) k : Int)) (P : ofM s h) (k : ∀ h2, Chg cYr nR h h2 → pmS s h2 → Q h2) : SpV g l mX8_years h [.ref 82] Q := by
  have ok : okPE (pE s) := v.2.1
  have n40 := np_le ok
  refine sX8_years (fun X O => ?_)
  have lp2 : ∀ j h1, j ≤ np (pE s) → Chg cYr nR h h1 → (∀ i, i < np (pE s) → h1.1 115 i = I (ea (yE s) i : Int)) → h1.1 82 44 = I (if canY (yE s) (np (pE s)) then 1 else 0) → (∀ i, j ≤ i → i < np (pE s) → h1.1 116 i = I (la (yE s) i)) → GV g l X Q h1 125 [(0, .ref 82), (1, .int (I ((j : Int) - 1)))] [] := by
    intro j
    induction j with
    | zero =>
      intro h1 _ d E e44 L
      refine bX8_years_125 O (br_t ((I_lt0 (by omega) (by omega)).mpr (by omega)) (k h1 d ⟨by rw [d.1 _ _ (by omega)]; exact e38, fun i hi => ⟨by rw [d.1 _ _ (by omega)]; exact C i hi, E i hi, L i (by omega) hi⟩, fun c hc i hi => by rw [d.1 _ _ (by omega)]; exact P c hc i hi, e44⟩))
    | succ j ih =>
      intro h1 hj d E e44 L
      have hjn : j < np (pE s) := by omega
      have M1 := rmS_c (s := s) d (fun a k q => by unfold scK; omega) M
      have P1 := ofM_c (s := s) d (fun k => by omega) P
      have x38 : h1.1 82 38 = I (np (pE s) : Int) := by rw [d.1 _ _ (by omega)]; exact e38
      have c1 : h1.1 113 j = I (pcl (pE s) j : Int) := by rw [d.1 _ _ (by omega)]; exact C j hjn
      have l12 := pcl_lt ok hjn
      have e92 : h1.1 92 (pcl (pE s) j) = I (s.2.2.1.2.1 (pcl (pE s) j) : Int) := (M1.2.2.1.1 _ l12).2.1
      have u9 := (v.2.2.1.1 _ l12).2.1
      have go : ∀ w : Int32, w = I (la (yE s) j) → GV g l X Q (sI h1 116 j w) 125 [(0, .ref 82), (1, .int (I (j : Int) + I (-1)))] [] := fun w ew => by
        have f : Chg (fun a k => a = 116 ∧ k = j) nR h1 (sI h1 116 j w) := Chg.rf.i ⟨rfl, rfl⟩
        rw [I_add, show (j : Int) + -1 = (j : Int) - 1 by omega]
        refine ih _ (by omega) (d.tr (f.up (fun a k q => by omega) (fun _ _ q => q))) (fun i hi => by rw [f.1 _ _ (by omega)]; exact E i hi) (by rw [f.1 _ _ (by omega)]; exact e44) (fun i a b => ?_)
        by_cases ei : i = j
        · subst ei; rw [sI_1, up_s]; exact ew
        · rw [f.1 _ _ (by omega)]; exact L i (by omega) b
      rw [show (((j + 1 : Nat) : Int) - 1) = (j : Int) by omega]
      refine bX8_years_125 O (br_f (by rw [I_lt0 (by omega) (by omega)]; omega) ?_)
      rw [x38, I_sub, I_eq (by omega) (by omega) (by omega) (by omega)]
      refine ⟨fun y => ⟨j + 1, by rw [I_add]; rfl, by omega, wp_later v M1 P1 hjn ⟨j, rfl, by omega, pcl (pE s) j, c1, l12, ?_⟩⟩, fun y => ⟨j, rfl, by omega, pcl (pE s) j, c1, l12, ?_⟩⟩
      · have la1 := la_in2 v (p := j + 1) (by omega)
        have lt := ltr_le v (p := j)
        have ls := la_step (s := s) (p := j) (by omega)
        rw [e92, L (j + 1) (by omega) (by omega), I_sub, I_le (by omega) (by omega) (by omega) (by omega)]
        exact ⟨fun z => ⟨j, rfl, by omega, pcl (pE s) j, c1, l12, j, rfl, by omega, go _ (by rw [e92, ls]; congr 1; omega)⟩, fun z => ⟨j, rfl, by omega, go _ (by rw [ls]; congr 1; omega)⟩⟩
      · have ls := la_last (s := s) (p := j) (by omega)
        rw [e92, I_le (by omega) (by omega) (by omega) (by omega)]
        exact ⟨fun z => ⟨j, rfl, by omega, pcl (pE s) j, c1, l12, j, rfl, by omega, go _ (by rw [e92, ls]; congr 1; omega)⟩, fun z => by omega⟩
  have lp1 : ∀ m p h1, p + m = np (pE s) → Chg cYr nR h h1 → (∀ i, i < p → h1.1 115 i = I (ea (yE s) i : Int)) → h1.1 82 44 = I (if canY (yE s) p then 1 else 0) → GV g l X Q h1 7 [(0, .ref 82), (1, .int (I (p : Int)))] [] := by
    intro m
    induction m with
    | zero =>
      intro p h1 hp d E e44
      have ep : p = np (pE s) := by omega
      subst ep
      have x38 : h1.1 82 38 = I (np (pE s) : Int) := by rw [d.1 _ _ (by omega)]; exact e38
      refine bX8_years_7 O ?_
      rw [x38, I_sub]
      exact br_t ((I_le (by omega) (by omega) (by omega) (by omega)).mpr (by omega)) (lp2 _ h1 (Nat.le_refl _) d E e44 (fun i a b => by omega))
    | succ m ih =>
      intro p h1 hp d E e44
      have hpn : p < np (pE s) := by omega
      have M1 := rmS_c (s := s) d (fun a k q => by unfold scK; omega) M
      have P1 := ofM_c (s := s) d (fun k => by omega) P
      have x38 : h1.1 82 38 = I (np (pE s) : Int) := by rw [d.1 _ _ (by omega)]; exact e38
      have c1 : h1.1 113 p = I (pcl (pE s) p : Int) := by rw [d.1 _ _ (by omega)]; exact C p hpn
      have l12 := pcl_lt ok hpn
      have e91 : h1.1 91 (pcl (pE s) p) = I (s.2.2.1.1 (pcl (pE s) p) : Int) := (M1.2.2.1.1 _ l12).1
      have e92 : h1.1 92 (pcl (pE s) p) = I (s.2.2.1.2.1 (pcl (pE s) p) : Int) := (M1.2.2.1.1 _ l12).2.1
      have u9 := (v.2.2.1.1 _ l12)
      have el := ea_le v p hpn
      have cs : canY (yE s) (p + 1) = (canY (yE s) p && decide (ea (yE s) p ≤ s.2.2.1.2.1 (pcl (pE s) p))) := rfl
      have go : ∀ b : Bool, canY (yE s) (p + 1) = b → GV g l X Q (sI (sI h1 115 p (I (ea (yE s) p : Int))) 82 44 (I (if b then 1 else 0))) 7 [(0, .ref 82), (1, .int (I (p : Int) + I 1))] [] := fun b eb => by
        have f : Chg (fun a k => a = 115 ∧ k = p) nR h1 (sI h1 115 p (I (ea (yE s) p : Int))) := Chg.rf.i ⟨rfl, rfl⟩
        rw [I_add]
        refine ih (p + 1) _ (by omega) (Chg.i (d.tr (f.up (fun a k q => by omega) (fun _ _ q => q))) (by omega)) (fun i hi => ?_) (by rw [sI_1, up_s, eb])
        rw [sI_o (by omega)]
        by_cases ei : i = p
        · subst ei; rw [sI_1, up_s]
        · rw [f.1 _ _ (by omega)]; exact E i (by omega)
      have tail : ∀ w : Int32, w = I (ea (yE s) p : Int) → ((h1.1 82 44 = 0 → GV g l X Q (sI (sI h1 115 p w) 82 44 (I 0)) 7 [(0, .ref 82), (1, .int (I (p : Int) + I 1))] []) ∧ (¬ h1.1 82 44 = 0 → ∃ j8 : Nat, I (p : Int) = I (j8 : Int) ∧ j8 < 40 ∧ ∃ j9 : Nat, I (p : Int) = I (j9 : Int) ∧ j9 < 40 ∧ ∃ j10 : Nat, h1.1 113 j9 = I (j10 : Int) ∧ j10 < 12 ∧ ((h1.1 92 j10 < (sI h1 115 p w).1 115 j8 → GV g l X Q (sI (sI h1 115 p w) 82 44 (I 0)) 7 [(0, .ref 82), (1, .int (I (p : Int) + I 1))] []) ∧ (¬ h1.1 92 j10 < (sI h1 115 p w).1 115 j8 → GV g l X Q (sI (sI h1 115 p w) 82 44 (I 1)) 7 [(0, .ref 82), (1, .int (I (p : Int) + I 1))] [])))) := fun w ew => by
        subst ew
        rw [e44]
        cases hc : canY (yE s) p with
        | false => exact br_t y00 (go false (by rw [cs, hc]; rfl))
        | true =>
          refine br_f n10 ⟨p, rfl, by omega, p, rfl, by omega, pcl (pE s) p, c1, l12, ?_⟩
          rw [e92, sI_1, up_s, I_lt (by omega) (by omega) (by omega) (by omega)]
          exact ⟨fun y => go false (by rw [cs, hc, Bool.true_and, decide_eq_false_iff_not]; omega), fun y => go true (by rw [cs, hc, Bool.true_and, decide_eq_true_eq]; omega)⟩
      have at39 : ∀ y : Nat, y ≤ 100000 → ea (yE s) p = max y (s.2.2.1.1 (pcl (pE s) p)) → GV g l X Q h1 39 [(0, .ref 82), (1, .int (I (p : Int)))] [.int (I (y : Int))] := fun y hy ee => by
        refine bX8_years_39 O ⟨p, rfl, by omega, pcl (pE s) p, c1, l12, ?_⟩
        rw [e91, I_le (by omega) (by omega) (by omega) (by omega)]
        exact ⟨fun z => ⟨p, rfl, by omega, pcl (pE s) p, c1, l12, p, rfl, by omega, tail _ (by rw [e91, ee]; congr 1; omega)⟩, fun z => ⟨p, rfl, by omega, tail _ (by rw [ee]; congr 1; omega)⟩⟩
      refine bX8_years_7 O ?_
      rw [x38, I_le (by omega) (by omega) (by omega) (by omega), I_eq0 (by omega) (by omega)]
      refine br_f (by omega) ⟨fun y => ?_, fun y => ?_⟩
      · obtain ⟨p', rfl⟩ : ∃ p', p = p' + 1 := ⟨p - 1, by omega⟩
        rw [I_sub, show (((p' + 1 : Nat) : Int) - 1) = (p' : Int) by omega]
        have el2 := ea_le v p' (by omega)
        have lt := ltr_le v (p := p')
        refine ⟨p', rfl, by omega, wp_later v M1 P1 (by omega) ?_⟩
        rw [E p' (by omega), I_add]
        exact at39 (ea (yE s) p' + ltr (yE s) p') (by omega) rfl
      · have p0 : p = 0 := by omega
        subst p0
        exact at39 0 (by omega) (by rw [Nat.zero_max]; rfl)
  refine lp1 (np (pE s)) 0 _ (by omega) (Chg.rf.i (by omega)) (fun i hi => absurd hi (by omega)) (by rw [sI_1, up_s]; rfl)
end YR2
