section BC
variable {g : mg} {l : Launch} {h : AH} {s : ST}
theorem wp_fits {Q : Int32 → AH → Prop} {b b' p last i : Nat} (v : vS s) (B : rcB s h b b') (Y : yrC s h) (hp : p < np (pE s)) (hl : last ≤ bnN s) (hi : i < bnN s) (k1 : sut s i p last = true → Q (I 1) h) (k0 : sut s i p last = false → Q (I 0) h) : SpI g l mX6_fits h [.ref 37, .int (I (p : Int)), .int (I (last : Int)), .int (I ((i + 1 : Nat) : Int)), .int (I (pcl (pE s) p : Int)), .ref b] Q := by
  have n40 : np (pE s) ≤ 40 := np_le v.2.1
  have n8 : bnN s ≤ 8 := v.2.2.1.2.1
  have vb := v.2.2.1.2.2 i hi
  have lb := lay_bk B.1
  have K := B.2.2.2.2.2
  have e4 : h.1 (b + 4) i = I (byN s i : Int) := (K i hi).1
  have e5 : h.1 (b + 5) i = I (bcN s i : Int) := (K i hi).2
  have l12 := pcl_lt v.2.1 (e := pE s) hp
  have el := ea_le v p hp
  have ll := la_in2 v hp
  have ei : I ((i + 1 : Nat) : Int) - I 1 = I (i : Int) := by rw [I_sub]; congr 1; omega
  have y9 : byN s i ≤ 999 := vb.1
  have c12 : bcN s i < 12 := vb.2
  refine sX6_fits lb (fun X O => ⟨i, ei, by omega, ?_⟩)
  have at29 : (last = 0 ∨ byN s (last - 1) < byN s i) → GI g l X Q h 29 [(0, .ref 37), (1, .int (I (p : Int))), (3, .int (I ((i + 1 : Nat) : Int))), (4, .int (I (pcl (pE s) p : Int))), (5, .ref b), (6, .int (I (byN s i : Int)))] [] := fun lt => by
    refine bX6_fits_29 O lb ?_
    rw [Y.2]
    cases hc : canY (yE s) (np (pE s)) with
    | false => exact br_t y00 (k0 (sut_f (fun w => by rw [hc] at w; cases w.1)))
    | true =>
      refine br_f n10 (br_f n10 ⟨i, ei, by omega, ?_⟩)
      rw [e5, I_eq (by omega) (by omega) (by omega) (by omega)]
      refine ⟨fun y => k0 (sut_f (fun w => y (by have := w.2.1; omega))), fun y => ⟨p, rfl, by omega, ?_⟩⟩
      rw [(Y.1 p hp).1, I_lt (by omega) (by omega) (by omega) (by omega)]
      refine ⟨fun y2 => k0 (sut_f (fun w => by have := w.2.2.1; omega)), fun y2 => ⟨p, rfl, by omega, ?_⟩⟩
      rw [(Y.1 p hp).2, I_lt (by omega) (by omega) (by omega) (by omega)]
      exact ⟨fun y3 => k0 (sut_f (fun w => by have := w.2.2.2.1; omega)), fun y3 => k1 (sut_iff.mpr ⟨hc, by omega, by omega, by omega, lt⟩)⟩
  rw [e4, I_eq0 (by omega) (by omega)]
  refine ⟨fun y => at29 (Or.inl (by omega)), fun y => ?_⟩
  have hl1 : last - 1 < bnN s := by omega
  have e41 : h.1 (b + 4) (last - 1) = I (byN s (last - 1) : Int) := (K _ hl1).1
  have y91 : byN s (last - 1) ≤ 999 := (v.2.2.1.2.2 _ hl1).1
  refine ⟨last - 1, by rw [I_sub]; congr 1; omega, by omega, ?_⟩
  rw [e41, I_le (by omega) (by omega) (by omega) (by omega)]
  refine ⟨fun y2 => ⟨fun _ => k0 (sut_f (fun w => by have := w.2.2.2.2; omega)), fun _ => br_t y00 (k0 (sut_f (fun w => by have := w.2.2.2.2; omega)))⟩, fun y2 => at29 (Or.inr (by omega))⟩
def tbC (s : ST) (h : AH) (p : Nat) : Prop := ∀ last, last ≤ bnN s → h.1 41 (p * 9 + last) = I (fitP s p last : Int)
theorem wp_mostFrom {Q : Int32 → AH → Prop} {b b' p last : Nat} (v : vS s) (B : rcB s h b b') (Y : yrC s h) (hp : p < np (pE s)) (hl : last ≤ bnN s) (T : tbC s h (p + 1)) (k : Q (I (fitP s p last : Int)) h) : SpI g l mX6_mostFrom h [.ref 37, .int (I (p : Int)), .int (I (last : Int)), .int (I (pcl (pE s) p : Int)), .ref b] Q := by
  have n40 : np (pE s) ≤ 40 := np_le v.2.1
  have n8 : bnN s ≤ 8 := v.2.2.1.2.1
  have lb := lay_bk B.1
  have e5 : h.1 b 5 = I (bnN s : Int) := B.2.2.2.2.1
  have f40 : ∀ i, fitP s (p + 1) i ≤ 40 := fun i => fitP_le v
  refine sX6_mostFrom lb (fun X O => ⟨(p + 1) * 9 + last, by rw [I_add, I_mul, I_add]; rfl, by omega, ?_⟩)
  have lp : ∀ m i, i + m = bnN s → GI g l X Q h 18 [(0, .ref 37), (1, .int (I (p : Int))), (2, .int (I (last : Int))), (3, .int (I (pcl (pE s) p : Int))), (4, .ref b), (5, .int (I (fbst s (fitP s (p + 1)) p last i : Int))), (6, .int (I ((i + 1 : Nat) : Int)))] [] := by
    intro m
    induction m with
    | zero =>
      intro i hi
      have ie : i = bnN s := by omega
      refine bX6_mostFrom_18 O lb ?_
      rw [e5]
      refine br_t ((I_lt (by omega) (by omega) (by omega) (by omega)).mpr (by omega)) ?_
      rw [ie, ← fitP_s hp]
      exact k
    | succ m ih =>
      intro i hi
      have hib : i < bnN s := by omega
      have fl := fbst_le (s := s) (p := p) (last := last) f40 i
      have fi := f40 (i + 1)
      have fs : fbst s (fitP s (p + 1)) p last (i + 1) = if sut s i p last && decide (fbst s (fitP s (p + 1)) p last i < fitP s (p + 1) (i + 1) + 1) then fitP s (p + 1) (i + 1) + 1 else fbst s (fitP s (p + 1)) p last i := rfl
      have IH : ∀ w, fbst s (fitP s (p + 1)) p last (i + 1) = w → GI g l X Q h 18 [(0, .ref 37), (1, .int (I (p : Int))), (2, .int (I (last : Int))), (3, .int (I (pcl (pE s) p : Int))), (4, .ref b), (5, .int (I (w : Int))), (6, .int (I ((i + 1 : Nat) : Int) + I 1))] [] := fun w ew => by
        rw [I_add, ← ew]
        exact ih (i + 1) (by omega)
      refine bX6_mostFrom_18 O lb ?_
      rw [e5]
      refine br_f (fun q => absurd ((I_lt (by omega) (by omega) (by omega) (by omega)).mp q) (by omega)) (wp_fits v B Y hp hl hib (fun su => br_f n10 ⟨(p + 1) * 9 + (i + 1), by rw [I_add, I_mul, I_add]; rfl, by omega, ?_⟩) (fun su => br_t y00 (IH _ (by rw [fs, su]; rfl))))
      rw [T (i + 1) (by omega), I_add]
      have il := I_lt (a := (fbst s (fitP s (p + 1)) p last i : Int)) (b := 1 + (fitP s (p + 1) (i + 1) : Int)) (by omega) (by omega) (by omega) (by omega)
      by_cases y : fbst s (fitP s (p + 1)) p last i < fitP s (p + 1) (i + 1) + 1
      · rw [if_pos (il.mpr (by omega)), show (1 + (fitP s (p + 1) (i + 1) : Int)) = ((fitP s (p + 1) (i + 1) + 1 : Nat) : Int) by omega]
        exact IH _ (by rw [fs, su, decide_eq_true y]; rfl)
      · rw [if_neg (fun x => y (by have := il.mp x; omega))]
        exact IH _ (by rw [fs, su, decide_eq_false y]; rfl)
  rw [T last hl]
  exact lp (bnN s) 0 (by omega)
theorem wp_leastBill {Q : Int32 → AH → Prop} {b b' p last : Nat} (v : vS s) (B : rcB s h b b') (Y : yrC s h) (hp : p < np (pE s)) (hl : last ≤ bnN s) (T : tbC s h p) (T1 : tbC s h (p + 1)) (k : Q (I (lbl s p last : Int)) h) : SpI g l mX6_leastBill h [.ref 37, .int (I (p : Int)), .int (I (last : Int)), .int (I (pcl (pE s) p : Int)), .ref b] Q := by
  have n40 : np (pE s) ≤ 40 := np_le v.2.1
  have n8 : bnN s ≤ 8 := v.2.2.1.2.1
  have lb := lay_bk B.1
  have e5 : h.1 b 5 = I (bnN s : Int) := B.2.2.2.2.1
  have f1 : ∀ i, fitP s (p + 1) i ≤ 40 := fun i => fitP_le v
  have f0 : fitP s p last ≤ 40 := fitP_le v
  have f2 := f1 last
  refine sX6_leastBill lb (fun X O => ⟨p * 9 + last, by rw [I_mul, I_add]; rfl, by omega, (p + 1) * 9 + last, by rw [I_add, I_mul, I_add]; rfl, by omega, ?_⟩)
  rw [T last hl, T1 last hl, I_eq (by omega) (by omega) (by omega) (by omega)]
  refine ⟨fun y => ?_, fun y => ?_⟩
  · have el : lbl s p last = lbj s p last 0 := by unfold lbl; rw [if_neg (by omega)]
    rw [el] at k
    have lp : ∀ m i, i + m = bnN s → lbj s p last i = lbj s p last 0 → GI g l X Q h 36 [(0, .ref 37), (1, .int (I (p : Int))), (2, .int (I (last : Int))), (3, .int (I (pcl (pE s) p : Int))), (4, .ref b), (5, .int (I (fitP s p last : Int))), (6, .int (I ((i + 1 : Nat) : Int)))] [] := by
      intro m
      induction m with
      | zero =>
        intro i hi e0
        rw [lbj_n (by omega)] at e0
        refine bX6_leastBill_36 O lb ?_
        rw [e5]
        refine br_t ((I_lt (by omega) (by omega) (by omega) (by omega)).mpr (by omega)) ?_
        rw [← e0] at k
        exact k
      | succ m ih =>
        intro i hi e0
        have hib : i < bnN s := by omega
        have fi := f1 (i + 1)
        have ls := lbj_s (s := s) (p := p) (last := last) hib
        have go : lbc s p last i = false → GI g l X Q h 36 [(0, .ref 37), (1, .int (I (p : Int))), (2, .int (I (last : Int))), (3, .int (I (pcl (pE s) p : Int))), (4, .ref b), (5, .int (I (fitP s p last : Int))), (6, .int (I ((i + 1 : Nat) : Int) + I 1))] [] := fun z => by
          rw [I_add]
          refine ih (i + 1) (by omega) ?_
          rw [← e0, ls, z]
          rfl
        refine bX6_leastBill_36 O lb ?_
        rw [e5]
        refine br_f (fun q => absurd ((I_lt (by omega) (by omega) (by omega) (by omega)).mp q) (by omega)) (wp_fits v B Y hp hl hib (fun su => br_f n10 ⟨(p + 1) * 9 + (i + 1), by rw [I_add, I_mul, I_add]; rfl, by omega, ?_⟩) (fun su => br_t y00 (go (by unfold lbc; rw [su]; rfl))))
        rw [T1 (i + 1) (by omega), I_add, I_eq (by omega) (by omega) (by omega) (by omega)]
        refine ⟨fun z => go (by unfold lbc; rw [su, Bool.true_and, beq_eq_false_iff_ne]; omega), fun z => ?_⟩
        have lt : lbc s p last i = true := by unfold lbc; rw [su, Bool.true_and, beq_iff_eq]; omega
        rw [ls, lt, if_pos rfl] at e0
        rw [← e0] at k
        exact k
    exact lp (bnN s) 0 (by omega) rfl
  · have el : lbl s p last = 0 := by unfold lbl; rw [if_pos (by omega)]
    rw [el] at k
    exact k
abbrev cMt : Nat → Nat → Prop := fun a k => a = 40 ∨ a = 41 ∨ (a = 37 ∧ k = 3)
theorem tbC_c {P R : Nat → Nat → Prop} {h2 : AH} {p : Nat} (e : Chg P R h h2) (q : ∀ k, ¬ P 41 k) (x : tbC s h p) : tbC s h2 p := fun i hi => by rw [e.1 _ _ (q _)]; exact x i hi
theorem yrC_c {P R : Nat → Nat → Prop} {h2 : AH} (e : Chg P R h h2) (q : ∀ a k, (a = 38 ∨ a = 39 ∨ (a = 37 ∧ k = 0)) → ¬ P a k) (x : yrC s h) : yrC s h2 := ⟨fun k hk => ⟨by rw [e.1 _ _ (q _ _ (by omega))]; exact (x.1 k hk).1, by rw [e.1 _ _ (q _ _ (by omega))]; exact (x.1 k hk).2⟩, by rw [e.1 _ _ (q _ _ (by omega))]; exact x.2⟩
theorem wp_match {Q : AH → Prop} {b b' : Nat} (v : vS s) (B : rcB s h b b') (P : pcE (pE s) h) (Y : yrC s h) (k : ∀ h2, Chg cMt nR h h2 → (∀ p, p < np (pE s) → h2.1 40 p = I (lbl s p (lsq s p) : Int)) → h2.1 37 3 = I (fitP s 0 0 : Int) → Q h2) : SpV g l mX6_match h [.ref 37, .ref 26, .ref b] Q := by
  have n40 : np (pE s) ≤ 40 := np_le v.2.1
  have n8 : bnN s ≤ 8 := v.2.2.1.2.1
  have lb := lay_bk B.1
  have hb : b = 42 ∨ b = 48 := by rcases B.1 with q | q <;> omega
  refine sX6_match lb (fun X O => ?_)
  rw [P.1]
  -- which bill each painting has
  have lp4 : ∀ m p h1, p + m = np (pE s) → Chg cMt nR h h1 → (∀ q, q ≤ np (pE s) → tbC s h1 q) → (∀ q, q < p → h1.1 40 q = I (lbl s q (lsq s q) : Int)) → GV g l X Q h1 103 [(0, .ref 37), (1, .ref 26), (2, .ref b), (3, .int (I (np (pE s) : Int))), (4, .int (I (lsq s p : Int))), (5, .int (I (p : Int)))] [] := by
    intro m
    induction m with
    | zero =>
      intro p h1 hp d T A
      have pe : p = np (pE s) := by omega
      subst pe
      have t0 : h1.1 41 0 = I (fitP s 0 0 : Int) := T 0 (Nat.zero_le _) 0 (Nat.zero_le _)
      have f : ∀ w, Chg (fun a k => a = 37 ∧ k = 3) nR h1 (sI h1 37 3 w) := fun w => Chg.rf.i ⟨rfl, rfl⟩
      refine bX6_match_103 O lb (br_t ((I_le (by omega) (by omega) (by omega) (by omega)).mpr (by omega)) ?_)
      rw [I_eq0 (by omega) (by omega), t0]
      refine ⟨fun y => k _ (d.tr ((f _).up (fun a k q => by omega) (fun _ _ q => q))) (fun q hq => by rw [(f _).1 _ _ (by omega)]; exact A q hq) (by rw [sI_1, up_s]), fun y => k _ (d.tr ((f _).up (fun a k q => by omega) (fun _ _ q => q))) (fun q hq => by rw [(f _).1 _ _ (by omega)]; exact A q hq) ?_⟩
      rw [sI_1, up_s]
      have : fitP s 0 0 = 0 := by
        have := fitP_n (s := s) (last := 0)
        rw [show np (pE s) = 0 by omega] at this
        exact this
      rw [this]
      rfl
    | succ m ih =>
      intro p h1 hp d T A
      have hpn : p < np (pE s) := by omega
      have P1 := pcE_c d (by omega) (fun a k q1 q2 => by omega) P
      have B1 : rcB s h1 b b' := rcB_c (s := s) d (fun a k q1 q2 => by omega) (fun k => id) B
      have Y1 := yrC_c d (fun a k q => by omega) Y
      have ll := lbl_le (s := s) (p := p) (last := lsq s p)
      refine bX6_match_103 O lb (br_f (fun q => absurd ((I_le (by omega) (by omega) (by omega) (by omega)).mp q) (by omega)) ⟨p, rfl, by omega, ?_⟩)
      rw [(P1.2.1 p hpn).1]
      refine wp_leastBill v B1 Y1 hpn (lsq_le p) (T p (by omega)) (T (p + 1) (by omega)) ⟨p, rfl, by omega, p, rfl, by omega, ?_⟩
      have f : Chg (fun a k => a = 40 ∧ k = p) nR h1 (sI h1 40 p (I (lbl s p (lsq s p) : Int))) := Chg.rf.i ⟨rfl, rfl⟩
      have s40 : (sI h1 40 p (I (lbl s p (lsq s p) : Int))).1 40 p = I (lbl s p (lsq s p) : Int) := by rw [sI_1, up_s]
      have qs : lsq s (p + 1) = if lbl s p (lsq s p) = 0 then lsq s p else lbl s p (lsq s p) := rfl
      have IH := ih (p + 1) _ (by omega) (d.tr (f.up (fun a k q => by omega) (fun _ _ q => q))) (fun q hq => tbC_c f (fun k => by omega) (T q hq)) (fun q hq => by
        by_cases eq : q = p
        · subst eq; exact s40
        · rw [f.1 _ _ (by omega)]; exact A q (by omega))
      rw [s40, I_eq0 (by omega) (by omega), I_add]
      rw [qs] at IH
      refine ⟨fun y => ⟨p, rfl, by omega, ?_⟩, fun y => ?_⟩
      · rw [if_neg (by omega)] at IH
        rw [s40]
        exact IH
      · rw [if_pos (by omega)] at IH
        exact IH
  -- the table
  have lp2 : ∀ j h1, j ≤ np (pE s) → Chg cMt nR h h1 → (∀ q, j ≤ q → q ≤ np (pE s) → tbC s h1 q) → GV g l X Q h1 39 [(0, .ref 37), (1, .ref 26), (2, .ref b), (3, .int (I (np (pE s) : Int))), (4, .int (I ((j : Int) - 1)))] [] := by
    intro j
    induction j with
    | zero =>
      intro h1 _ d T
      exact bX6_match_39 O lb (br_t ((I_lt0 (by omega) (by omega)).mpr (by omega)) (lp4 (np (pE s)) 0 h1 (by omega) d (fun q hq => T q (by omega) hq) (fun q hq => absurd hq (by omega))))
    | succ j ih =>
      intro h1 hj d T
      have hjn : j < np (pE s) := by omega
      rw [show (((j + 1 : Nat) : Int) - 1) = (j : Int) by omega]
      have lp3 : ∀ m i h2, i + m = bnN s + 1 → Chg cMt nR h h2 → (∀ q, j + 1 ≤ q → q ≤ np (pE s) → tbC s h2 q) → (∀ q, q < i → h2.1 41 (j * 9 + q) = I (fitP s j q : Int)) → GV g l X Q h2 47 [(0, .ref 37), (1, .ref 26), (2, .ref b), (3, .int (I (np (pE s) : Int))), (4, .int (I (j : Int))), (5, .int (I (i : Int)))] [] := by
        intro m
        induction m with
        | zero =>
          intro i h2 hi d2 T2 A
          have B2 : rcB s h2 b b' := rcB_c (s := s) d2 (fun a k q1 q2 => by omega) (fun k => id) B
          have e5 : h2.1 b 5 = I (bnN s : Int) := B2.2.2.2.2.1
          refine bX6_match_47 O lb ?_
          rw [e5]
          refine br_t ((I_lt (by omega) (by omega) (by omega) (by omega)).mpr (by omega)) ?_
          rw [I_add, show (j : Int) + -1 = (j : Int) - 1 by omega]
          refine ih h2 (by omega) d2 (fun q q1 q2 => ?_)
          by_cases eq : q = j
          · subst eq; exact fun i hi => A i (by omega)
          · exact T2 q (by omega) q2
        | succ m ih3 =>
          intro i h2 hi d2 T2 A
          have B2 : rcB s h2 b b' := rcB_c (s := s) d2 (fun a k q1 q2 => by omega) (fun k => id) B
          have e5 : h2.1 b 5 = I (bnN s : Int) := B2.2.2.2.2.1
          have P2 := pcE_c d2 (by omega) (fun a k q1 q2 => by omega) P
          have Y2 := yrC_c d2 (fun a k q => by omega) Y
          refine bX6_match_47 O lb ?_
          rw [e5]
          refine br_f (fun q => absurd ((I_lt (by omega) (by omega) (by omega) (by omega)).mp q) (by omega)) ⟨j, rfl, by omega, ?_⟩
          rw [(P2.2.1 j hjn).1]
          refine wp_mostFrom v B2 Y2 hjn (by omega) (T2 (j + 1) (by omega) (by omega)) ⟨j * 9 + i, by rw [I_mul, I_add]; rfl, by omega, ?_⟩
          have f : Chg (fun a k => a = 41 ∧ k = j * 9 + i) nR h2 (sI h2 41 (j * 9 + i) (I (fitP s j i : Int))) := Chg.rf.i ⟨rfl, rfl⟩
          rw [I_add]
          refine ih3 (i + 1) _ (by omega) (d2.tr (f.up (fun a k q => by omega) (fun _ _ q => q))) (fun q q1 q2 u hu => by rw [f.1 _ _ (by omega)]; exact T2 q q1 q2 u hu) (fun q hq => ?_)
          by_cases eq : q = i
          · subst eq; rw [sI_1, up_s]
          · rw [f.1 _ _ (by omega)]; exact A q (by omega)
      exact bX6_match_39 O lb (br_f (by rw [I_lt0 (by omega) (by omega)]; omega) (lp3 (bnN s + 1) 0 h1 (by omega) d (fun q q1 q2 => T q (by omega) q2) (fun q hq => absurd hq (by omega))))
  have lp1 : ∀ m i h1, i + m = 9 → Chg cMt nR h h1 → (∀ q, q < i → h1.1 41 (np (pE s) * 9 + q) = I 0) → GV g l X Q h1 8 [(0, .ref 37), (1, .ref 26), (2, .ref b), (3, .int (I (np (pE s) : Int))), (4, .int (I (i : Int)))] [] := by
    intro m
    induction m with
    | zero =>
      intro i h1 hi d A
      refine bX6_match_8 O lb (br_t ((I_le (by omega) (by omega) (by omega) (by omega)).mpr (by omega)) ?_)
      rw [I_sub]
      refine lp2 (np (pE s)) h1 (Nat.le_refl _) d (fun q q1 q2 u hu => ?_)
      obtain rfl : q = np (pE s) := by omega
      rw [fitP_n]
      exact A u (by omega)
    | succ m ih =>
      intro i h1 hi d A
      refine bX6_match_8 O lb (br_f (fun q => absurd ((I_le (by omega) (by omega) (by omega) (by omega)).mp q) (by omega)) ⟨np (pE s) * 9 + i, by rw [I_mul, I_add]; rfl, by omega, ?_⟩)
      have f : Chg (fun a k => a = 41 ∧ k = np (pE s) * 9 + i) nR h1 (sI h1 41 (np (pE s) * 9 + i) (I 0)) := Chg.rf.i ⟨rfl, rfl⟩
      rw [I_add]
      refine ih (i + 1) _ (by omega) (d.tr (f.up (fun a k q => by omega) (fun _ _ q => q))) (fun q hq => ?_)
      by_cases eq : q = i
      · subst eq; rw [sI_1, up_s]
      · rw [f.1 _ _ (by omega)]; exact A q (by omega)
  exact lp1 9 0 h (by omega) Chg.rf (fun q hq => absurd hq (by omega))
end BC
