/-! the class's years -/
def ebd (y : YE) : Nat → Nat
  | 0 => 0
  | k + 1 => ea y k + ltr y k
theorem ea_bd (s : ST) : ∀ k, ea (yE s) k = max (ebd (yE s) k) (s.2.2.1.1 (pcl (pE s) k))
  | 0 => by
    show s.2.2.1.1 (pcl (pE s) 0) = max 0 _
    rw [Nat.zero_max]
  | k + 1 => rfl
def lbd (s : ST) (k : Nat) : Int := if k + 1 = np (pE s) then 999 else la (yE s) (k + 1) - (ltr (yE s) k : Int)
theorem la_bd {s : ST} {k : Nat} (hk : k < np (pE s)) : la (yE s) k = min (lbd s k) (s.2.2.1.2.1 (pcl (pE s) k) : Int) := by
  unfold lbd
  split
  · exact la_last (by omega)
  · exact la_step (by omega)
theorem lbd_in {s : ST} (v : vS s) {k : Nat} (hk : k < np (pE s)) : -7500 ≤ lbd s k ∧ lbd s k ≤ 999 := by
  unfold lbd
  split
  · omega
  · have := la_in2 v (p := k + 1) (by omega)
    have := ltr_le v (p := k)
    omega
section YF
variable {g : mg} {l : Launch} {h : AH} {s : ST}
abbrev cYf : Nat → Nat → Prop := fun a k => a = 38 ∨ a = 39 ∨ (a = 37 ∧ k = 0)
def yrC (s : ST) (h : AH) : Prop := (∀ k, k < np (pE s) → h.1 38 k = I (ea (yE s) k : Int) ∧ h.1 39 k = I (la (yE s) k)) ∧ h.1 37 0 = I (if canY (yE s) (np (pE s)) then 1 else 0)
theorem wp_yfind {Q : AH → Prop} {b b' : Nat} (v : vS s) (B : rcB s h b b') (P : pcE (pE s) h) (k : ∀ h2, Chg cYf nR h h2 → yrC s h2 → Q h2) : SpV g l mX6_find h [.ref 37, .ref 26, .ref b, .int (I (s.2.2.2.1 3 : Int))] Q := by
  have ok : okPE (pE s) := v.2.1
  have n40 := np_le ok
  have lb := lay_bk B.1
  have hb : b = 42 ∨ b = 48 := by rcases B.1 with q | q <;> omega
  have K := B.2.2.2
  have t20 := v.2.2.2.1.2.2.2.1
  have lte : ∀ p, ltr (yE s) p = s.2.2.2.1 3 * dmx (pE s) p s.2.1.1 + 1 := fun _ => rfl
  refine sX6_find lb (fun X O => ?_)
  have lp2 : ∀ j h1 (D : Int), j ≤ np (pE s) → -100000 ≤ D → D ≤ 100000 → (∀ i, i + 1 = j → D = lbd s i) → Chg cYf nR h h1 → (∀ i, i < np (pE s) → h1.1 38 i = I (ea (yE s) i : Int)) → h1.1 37 0 = I (if canY (yE s) (np (pE s)) then 1 else 0) → (∀ i, j ≤ i → i < np (pE s) → h1.1 39 i = I (la (yE s) i)) → GV g l X Q h1 123 [(0, .ref 37), (1, .ref 26), (2, .ref b), (3, .int (I (s.2.2.2.1 3 : Int))), (5, .int (I D)), (6, .int (I ((j : Int) - 1)))] [] := by
    intro j
    induction j with
    | zero =>
      intro h1 D _ _ _ _ d E e0 L
      exact bX6_find_123 O lb (br_t ((I_lt0 (by omega) (by omega)).mpr (by omega)) (k h1 d ⟨fun i hi => ⟨E i hi, L i (by omega) hi⟩, e0⟩))
    | succ j ih =>
      intro h1 D hj D1 D2 hD d E e0 L
      have hjn : j < np (pE s) := by omega
      have P1 := pcE_c d (by omega) (fun a k q1 q2 => by omega) P
      have K1 := atBK_c d (fun a k q1 q2 => by omega) K
      have l12 := pcl_lt ok hjn
      have e2 : h1.1 (b + 2) (pcl (pE s) j) = I (s.2.2.1.2.1 (pcl (pE s) j) : Int) := (K1.1 _ l12).2.1
      have u9 := (v.2.2.1.1 _ l12).2.1
      have Dj := hD j rfl
      have lj := la_bd hjn
      have li := la_in2 v hjn
      have eW : (if h1.1 (b + 2) (pcl (pE s) j) < I D then h1.1 (b + 2) (pcl (pE s) j) else I D) = I (la (yE s) j) := by
        rw [e2]
        have il := I_lt (a := (s.2.2.1.2.1 (pcl (pE s) j) : Int)) (b := D) (by omega) (by omega) (by omega) (by omega)
        by_cases y : (s.2.2.1.2.1 (pcl (pE s) j) : Int) < D
        · rw [if_pos (il.mpr y)]; congr 1; omega
        · rw [if_neg (fun x => y (il.mp x))]; congr 1; omega
      have f : Chg (fun a k => a = 39 ∧ k = j) nR h1 (sI h1 39 j (I (la (yE s) j))) := Chg.rf.i ⟨rfl, rfl⟩
      have IH : ∀ D', -100000 ≤ D' → D' ≤ 100000 → (∀ i, i + 1 = j → D' = lbd s i) → GV g l X Q (sI h1 39 j (I (la (yE s) j))) 123 [(0, .ref 37), (1, .ref 26), (2, .ref b), (3, .int (I (s.2.2.2.1 3 : Int))), (5, .int (I D')), (6, .int (I (j : Int) + I (-1)))] [] := fun D' q1 q2 q3 => by
        rw [I_add, show (j : Int) + -1 = (j : Int) - 1 by omega]
        refine ih _ D' (by omega) q1 q2 q3 (d.tr (f.up (fun a k q => by omega) (fun _ _ q => q))) (fun i hi => by rw [f.1 _ _ (by omega)]; exact E i hi) (by rw [f.1 _ _ (by omega)]; exact e0) (fun i q4 q5 => ?_)
        by_cases ei : i = j
        · subst ei; rw [sI_1, up_s]
        · rw [f.1 _ _ (by omega)]; exact L i (by omega) q5
      rw [show (((j + 1 : Nat) : Int) - 1) = (j : Int) by omega]
      refine bX6_find_123 O lb (br_f (by rw [I_lt0 (by omega) (by omega)]; omega) ⟨j, rfl, by omega, pcl (pE s) j, (P1.2.1 j hjn).1, l12, j, rfl, by omega, j, rfl, by omega, ?_⟩)
      rw [eW, sI_1, up_s, I_le0 (by omega) (by omega)]
      refine ⟨fun y => ?_, fun y => ?_⟩
      · rw [I_sub, I_sub]
        exact IH _ (by omega) (by omega) (fun i hi => by omega)
      · obtain ⟨i, rfl⟩ : ∃ i, j = i + 1 := ⟨j - 1, by omega⟩
        refine ⟨i, by rw [I_sub]; congr 1; omega, by omega, ?_⟩
        have e29 : h1.1 29 i = I (dmx (pE s) i s.2.1.1 : Int) := (P1.2.1 i (by omega)).2.2
        have lt := ltr_le v (p := i)
        rw [e29, I_sub, I_mul, I_sub]
        have el := lte i
        have em : ((s.2.2.2.1 3 : Nat) : Int) * ((dmx (pE s) i s.2.1.1 : Nat) : Int) = ((s.2.2.2.1 3 * dmx (pE s) i s.2.1.1 : Nat) : Int) := (Int.natCast_mul _ _).symm
        rw [em]
        refine IH _ (by omega) (by omega) (fun i' hi' => ?_)
        obtain rfl : i' = i := by omega
        unfold lbd
        rw [if_neg (by omega)]
        omega
  have lp1 : ∀ m p h1, p + m = np (pE s) → Chg cYf nR h h1 → (∀ i, i < p → h1.1 38 i = I (ea (yE s) i : Int)) → h1.1 37 0 = I (if canY (yE s) p then 1 else 0) → GV g l X Q h1 17 [(0, .ref 37), (1, .ref 26), (2, .ref b), (3, .int (I (s.2.2.2.1 3 : Int))), (4, .int (I (np (pE s) : Int))), (5, .int (I (ebd (yE s) p : Int))), (6, .int (I (p : Int)))] [] := by
    intro m
    induction m with
    | zero =>
      intro p h1 hp d E e0
      have ep : p = np (pE s) := by omega
      rw [ep] at E e0 ⊢
      refine bX6_find_17 O lb ?_
      rw [I_sub]
      refine br_t ((I_le (by omega) (by omega) (by omega) (by omega)).mpr (by omega)) (lp2 _ h1 999 (Nat.le_refl _) (by omega) (by omega) (fun i hi => ?_) d E e0 (fun i q1 q2 => by omega))
      unfold lbd
      rw [if_pos hi]
    | succ m ih =>
      intro p h1 hp d E e0
      have hpn : p < np (pE s) := by omega
      have P1 := pcE_c d (by omega) (fun a k q1 q2 => by omega) P
      have K1 := atBK_c d (fun a k q1 q2 => by omega) K
      have l12 := pcl_lt ok hpn
      have e1 : h1.1 (b + 1) (pcl (pE s) p) = I (s.2.2.1.1 (pcl (pE s) p) : Int) := (K1.1 _ l12).1
      have e2 : h1.1 (b + 2) (pcl (pE s) p) = I (s.2.2.1.2.1 (pcl (pE s) p) : Int) := (K1.1 _ l12).2.1
      have u9 := v.2.2.1.1 _ l12
      have e27 := (P1.2.1 p hpn).1
      have e29 : h1.1 29 p = I (dmx (pE s) p s.2.1.1 : Int) := (P1.2.1 p hpn).2.2
      have el := ea_le v p hpn
      have eb := ea_bd s p
      have lt := ltr_le v (p := p)
      have cs : canY (yE s) (p + 1) = (canY (yE s) p && decide (ea (yE s) p ≤ s.2.2.1.2.1 (pcl (pE s) p))) := rfl
      have eW : (if I (ebd (yE s) p : Int) < h1.1 (b + 1) (pcl (pE s) p) then h1.1 (b + 1) (pcl (pE s) p) else I (ebd (yE s) p : Int)) = I (ea (yE s) p : Int) := by
        rw [e1]
        have il := I_lt (a := (ebd (yE s) p : Int)) (b := (s.2.2.1.1 (pcl (pE s) p) : Int)) (by omega) (by omega) (by omega) (by omega)
        by_cases y : (ebd (yE s) p : Int) < (s.2.2.1.1 (pcl (pE s) p) : Int)
        · rw [if_pos (il.mpr y)]; congr 1; omega
        · rw [if_neg (fun x => y (il.mp x))]; congr 1; omega
      have bn : I (ea (yE s) p : Int) + I (s.2.2.2.1 3 : Int) * I (dmx (pE s) p s.2.1.1 : Int) + I 1 = I (ebd (yE s) (p + 1) : Int) := by
        rw [I_mul, I_add, I_add]
        congr 1
      have f : Chg (fun a k => a = 38 ∧ k = p) nR h1 (sI h1 38 p (I (ea (yE s) p : Int))) := Chg.rf.i ⟨rfl, rfl⟩
      have go : ∀ t : Bool, canY (yE s) (p + 1) = t → GV g l X Q (sI (sI h1 38 p (I (ea (yE s) p : Int))) 37 0 (I (if t then 1 else 0))) 17 [(0, .ref 37), (1, .ref 26), (2, .ref b), (3, .int (I (s.2.2.2.1 3 : Int))), (4, .int (I (np (pE s) : Int))), (5, .int (I (ea (yE s) p : Int) + I (s.2.2.2.1 3 : Int) * h1.1 29 p + I 1)), (6, .int (I (p : Int) + I 1))] [] := fun t et => by
        rw [e29, bn, I_add]
        refine ih (p + 1) _ (by omega) (Chg.i (d.tr (f.up (fun a k q => by omega) (fun _ _ q => q))) (by omega)) (fun i hi => ?_) (by rw [sI_1, up_s, et])
        rw [sI_o (by omega)]
        by_cases ei : i = p
        · subst ei; rw [sI_1, up_s]
        · rw [f.1 _ _ (by omega)]; exact E i (by omega)
      refine bX6_find_17 O lb (br_f (fun q => absurd ((I_le (by omega) (by omega) (by omega) (by omega)).mp q) (by omega)) ⟨p, rfl, by omega, pcl (pE s) p, e27, l12, p, rfl, by omega, ?_⟩)
      rw [eW, e0]
      have s38 : (sI h1 38 p (I (ea (yE s) p : Int))).1 38 p = I (ea (yE s) p : Int) := by rw [sI_1, up_s]
      cases hc : canY (yE s) p with
      | false =>
        refine br_t y00 ⟨p, rfl, by omega, p, rfl, by omega, ?_⟩
        rw [s38]
        exact go false (by rw [cs, hc]; rfl)
      | true =>
        refine br_f n10 ⟨p, rfl, by omega, pcl (pE s) p, e27, l12, ?_⟩
        rw [f.1 _ _ (by omega), e2, s38, I_lt (by omega) (by omega) (by omega) (by omega)]
        refine ⟨fun y => ⟨p, rfl, by omega, p, rfl, by omega, ?_⟩, fun y => ⟨p, rfl, by omega, p, rfl, by omega, ?_⟩⟩
        · rw [s38]
          exact go false (by rw [cs, hc, Bool.true_and, decide_eq_false_iff_not]; omega)
        · rw [s38]
          exact go true (by rw [cs, hc, Bool.true_and, decide_eq_true_eq]; omega)
  rw [P.1]
  exact lp1 (np (pE s)) 0 _ (by omega) (Chg.rf.i (by omega)) (fun i hi => absurd hi (by omega)) (by rw [sI_1, up_s]; rfl)
theorem RC_yf {h2 : AH} (v : vS s) (R : RC s h) (c : Chg cYf nR h h2) : RC s h2 := RC_c (c.up (fun a k q => by unfold scC; omega) (fun _ _ q => q.elim)) v R
theorem RM_yf {h2 : AH} (M : RM s h) (c : Chg cYf nR h h2) : RM s h2 := RM_c (c.up (fun a k q => by unfold scM; omega) (fun _ _ q => q)) M
theorem J_span (hI : Inv h) (x1 x2 : Int32) : JI g l mX7_span mX8_span h [.ref 0, .int x1, .int x2] [.ref 82, .int x1, .int x2] := by
  obtain ⟨s, v, R, M⟩ := hI
  obtain ⟨z1, a1, a2, rfl⟩ := I_any x1
  obtain ⟨z2, b1, b2, rfl⟩ := I_any x2
  have n40 : np (pE s) ≤ 40 := np_le v.2.1
  have bad : ∀ (h1 : AH), RC s h1 → RM s h1 → (z1 < 0 ∨ (np (pE s) : Int) ≤ z1 ∨ z2 < 0 ∨ 1 < z2) → SpI g l mX8_span h1 [.ref 82, .int (I z1), .int (I z2)] (fun x h2 => x = I (-1) ∧ Inv h2) := by
    intro h1 R1 M1 no
    refine sX8_span (wp_make v R1 M1 (fun h2 R2 M2 _ P2 => ?_))
    have e38 : h2.1 82 38 = I (np (pE s) : Int) := P2.1
    rw [e38, I_sub]
    exact wp_in ⟨a1, a2⟩ ⟨by omega, by omega⟩ ⟨by omega, by omega⟩ (fun a b => br_f n10 (wp_in ⟨b1, b2⟩ ⟨by omega, by omega⟩ ⟨by omega, by omega⟩ (fun _ _ => by omega) (fun _ => nb_f y00 ⟨rfl, s, v, R2, M2⟩))) (fun a => br_t y00 ⟨rfl, s, v, R2, M2⟩)
  refine sX7_span (wp_settle v R M (fun h1 R1 M1 _ P1 => wp_isPt v P1 ⟨a1, a2⟩ (fun n e hn => br_f n10 ?_) (fun q => br_t y00 (bad h1 R1 M1 (by omega)))))
  subst e
  rw [I_lt0 b1 b2, I_le b1 b2 (by omega) (by omega)]
  refine ⟨fun q => bad h1 R1 M1 (by omega), fun q => ⟨fun q2 => ?_, fun q2 => bad h1 R1 M1 (by omega)⟩⟩
  obtain ⟨b, b', hb⟩ := R1.1.2.2.1
  refine ⟨b, hb.2.1, lay_bk hb.1, ?_⟩
  rw [R1.1.2.2.2.1 3 (by omega)]
  refine wp_yfind v hb P1 (fun h2 c2 Y => ?_)
  have R2 := RC_yf v R1 c2
  have M2 := RM_yf M1 c2
  have key : ∀ (u : Int32), (canY (yE s) (np (pE s)) = false → u = I (-9)) → (canY (yE s) (np (pE s)) = true → z2 = 0 → u = I (ea (yE s) n : Int)) → (canY (yE s) (np (pE s)) = true → z2 = 1 → u = I (la (yE s) n)) → SpI g l mX8_span h2 [.ref 82, .int (I (n : Int)), .int (I z2)] (fun x h2 => x = u ∧ Inv h2) := by
    intro u u0 u1 u2
    refine sX8_span (wp_make v R2 M2 (fun h3 R3 M3 _ P3 => ?_))
    have e38 : h3.1 82 38 = I (np (pE s) : Int) := P3.1
    have e44 : h3.1 82 44 = I (if canY (yE s) (np (pE s)) then 1 else 0) := P3.2.2.2
    have en := P3.2.1 n hn
    rw [e38, I_sub]
    refine wp_in ⟨a1, a2⟩ ⟨by omega, by omega⟩ ⟨by omega, by omega⟩ (fun a b => br_f n10 (wp_in ⟨b1, b2⟩ ⟨by omega, by omega⟩ ⟨by omega, by omega⟩ (fun _ _ => nb_t n10 ?_) (fun _ => by omega))) (fun a => by omega)
    rw [e44, I_eq0 b1 b2]
    cases hc : canY (yE s) (np (pE s)) with
    | false => exact nb_f y00 ⟨(u0 hc).symm, s, v, R3, M3⟩
    | true => exact nb_t n10 ⟨fun w => ⟨n, rfl, by omega, en.2.2.trans (u2 hc (by omega)).symm, s, v, R3, M3⟩, fun w => ⟨n, rfl, by omega, en.2.1.trans (u1 hc w).symm, s, v, R3, M3⟩⟩
  rw [Y.2, I_eq0 b1 b2]
  cases hc : canY (yE s) (np (pE s)) with
  | false => exact nb_f y00 (key _ (fun _ => rfl) (fun w => by rw [hc] at w; cases w) (fun w => by rw [hc] at w; cases w))
  | true => exact nb_t n10 ⟨fun w => ⟨n, rfl, by omega, key _ (fun w => by rw [hc] at w; cases w) (fun _ w => by omega) (fun _ _ => (Y.1 n hn).2)⟩, fun w => ⟨n, rfl, by omega, key _ (fun w => by rw [hc] at w; cases w) (fun _ _ => (Y.1 n hn).1) (fun _ w => by omega)⟩⟩
end YF
