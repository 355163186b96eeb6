section BA
variable {g : mg} {l : Launch}
/-- other chips (and text): all else stays, nothing is found yet -/
theorem RC_chips {P R : Nat → Nat → Prop} {h h2 : AH} {s : ST} {t : Nat × (Nat → Nat)} {cs : CS} (e : Chg P R h h2) (v : vS s) (hP : ∀ a k, P a k → 82 ≤ a ∨ (1 ≤ a ∧ a ≤ 19) ∨ (a = 0 ∧ k = 10)) (hR : ∀ a k, R a k → 82 ≤ a ∨ a = 7) (x : RC s h) (T : rcT (t, cs, s.2.2) h2) (C : ∃ p, atSH h2 6 p cs) (Z : h2.1 0 10 = I 0) : RC (t, cs, s.2.2) h2 := by
  obtain ⟨⟨-, -, ⟨b, b', bb⟩, u, i, tr⟩, -⟩ := x
  have n : ∀ a k, 20 ≤ a → a < 82 → ¬ P a k := fun a k g1 g2 q => by have := hP a k q; omega
  have r : ∀ a k, a ≠ 7 → a < 82 → ¬ R a k := fun a k g1 g2 q => by have := hR a k q; omega
  exact ⟨⟨T, C, ⟨b, b', rcB_c (s := s) e (fun a k g1 g2 => n _ _ (by omega) (by omega)) (fun k => r _ _ (by omega) (by omega)) bb⟩, fun j hj => by rw [e.1 _ _ (n _ _ (by omega) (by omega))]; exact u j hj, rcI_c (s := s) e v (fun a k g1 g2 => n _ _ (by omega) (by omega)) (fun a k hh => r _ _ (by omega) (by omega)) i, by rw [e.2.2.1]; exact tr⟩, Or.inl Z⟩
theorem RM_chips {P R : Nat → Nat → Prop} {h h2 : AH} {s : ST} {t : Nat × (Nat → Nat)} {cs : CS} (e : Chg P R h h2) (hP : ∀ a k, P a k → a < 82 ∨ (83 ≤ a ∧ a ≤ 90) ∨ (96 ≤ a ∧ a ≤ 100) ∨ (a = 82 ∧ k ≠ 17)) (x : RM s h) (T : rmT (t, cs, s.2.2) h2) (C : rmCh (t, cs, s.2.2) h2) (Z : h2.1 82 41 = I 0) : RM (t, cs, s.2.2) h2 := by
  obtain ⟨⟨-, -, b, u, i, tr⟩, -⟩ := x
  have n : ∀ a k, (91 ≤ a ∧ a ≤ 95) ∨ (101 ≤ a) → ¬ P a k := fun a k g1 q => by have := hP a k q; omega
  exact RM_of T C (rmB_c (s := s) e (fun q => by have := hP _ _ q; omega) (fun a k g1 g2 => n _ _ (by omega)) b) (fun j hj => by rw [e.1 _ _ (n _ _ (by omega))]; exact u j hj) (rmI_c (s := s) e (fun a k g1 g2 => n _ _ (by omega)) i) (by rw [e.2.2.2]; exact tr) (Or.inl Z)
theorem lp_mback2 {X : XT} {Q : Int32 → AH → Prop} (O : Ok (FF g l X) RX8 cX8_back 3 mX8_back.2.2.2.2 (some .int)) (i : Nat) (hi : i < 2) : ∀ (m c : Nat) (h : AH), c + m = 40 → (∀ h2, Chg (fun a k => (a = 87 ∨ a = 88) ∧ c ≤ k) nR h h2 → (∀ c', c ≤ c' → c' < 40 → h2.1 87 c' = h.1 106 (40 * i + c') ∧ h2.1 88 c' = h.1 107 (40 * i + c')) → Q (h2.1 82 6) (sI h2 82 41 (I 0))) → GI g l X Q h 99 [(0, .ref 82), (1, .int (I (i : Int))), (2, .int (I (c : Int)))] [] := by
  intro m
  induction m with
  | zero =>
    intro c h hc k
    exact bX8_back_99 O (br_t ((I_le (by omega) (by omega) (by omega) (by omega)).mpr (by omega)) (k h Chg.rf (fun c' g1 g2 => absurd g1 (by omega))))
  | succ m ih =>
    intro c h hc k
    refine bX8_back_99 O (br_f (fun e => absurd ((I_le (by omega) (by omega) (by omega) (by omega)).mp e) (by omega)) ?_)
    rw [I_mul, I_add, I_add]
    refine ⟨40 * i + c, rfl, by omega, c, rfl, by omega, 40 * i + c, rfl, by omega, c, rfl, by omega, ?_⟩
    refine ih (c + 1) _ (by omega) (fun h2 e1 e2 => ?_)
    refine k h2 ((((Chg.rf.i ⟨by omega, by omega⟩).i ⟨by omega, by omega⟩)).tr (e1.up (fun a k q => by omega) (fun _ _ q => q))) (fun c' g1 g2 => ?_)
    by_cases hcc : c' = c
    · subst hcc
      rw [e1.1 _ _ (by omega), e1.1 _ _ (by omega), sI_o (by omega), sI_1, up_s, sI_1, up_s]
      exact ⟨rfl, rfl⟩
    · have := e2 c' (by omega) g2
      rw [sI_o (by omega), sI_o (by omega), sI_o (by omega), sI_o (by omega)] at this
      exact this
theorem lp_mback1 {X : XT} {Q : Int32 → AH → Prop} (O : Ok (FF g l X) RX8 cX8_back 3 mX8_back.2.2.2.2 (some .int)) (i n : Nat) (hi : i < 2) (hn : n ≤ 4) : ∀ (m c : Nat) (h : AH), c + m = n → h.1 82 6 = I (n : Int) → (∀ h2, Chg (fun a k => (84 ≤ a ∧ a ≤ 86) ∧ c ≤ k) nR h h2 → (∀ c', c ≤ c' → c' < n → h2.1 84 c' = h.1 103 (4 * i + c') ∧ h2.1 85 c' = h.1 104 (4 * i + c') ∧ h2.1 86 c' = h.1 105 (4 * i + c')) → GI g l X Q h2 99 [(0, .ref 82), (1, .int (I (i : Int))), (2, .int (I 0))] []) → GI g l X Q h 35 [(0, .ref 82), (1, .int (I (i : Int))), (2, .int (I (c : Int)))] [] := by
  intro m
  induction m with
  | zero =>
    intro c h hc e0 k
    refine bX8_back_35 O ?_
    rw [e0]
    exact br_t ((I_le (by omega) (by omega) (by omega) (by omega)).mpr (by omega)) (k h Chg.rf (fun c' g1 g2 => absurd g1 (by omega)))
  | succ m ih =>
    intro c h hc e0 k
    refine bX8_back_35 O ?_
    rw [e0]
    refine br_f (fun e => absurd ((I_le (by omega) (by omega) (by omega) (by omega)).mp e) (by omega)) ?_
    rw [I_mul, I_add, I_add]
    refine ⟨4 * i + c, rfl, by omega, c, rfl, by omega, 4 * i + c, rfl, by omega, c, rfl, by omega, 4 * i + c, rfl, by omega, c, rfl, by omega, ?_⟩
    refine ih (c + 1) _ (by omega) (by rw [sI_o (by omega), sI_o (by omega), sI_o (by omega)]; exact e0) (fun h2 e1 e2 => ?_)
    refine k h2 (((((Chg.rf.i ⟨by omega, by omega⟩).i ⟨by omega, by omega⟩)).i ⟨by omega, by omega⟩).tr (e1.up (fun a k q => by omega) (fun _ _ q => q))) (fun c' g1 g2 => ?_)
    by_cases hcc : c' = c
    · subst hcc
      rw [e1.1 _ _ (by omega), e1.1 _ _ (by omega), e1.1 _ _ (by omega), sI_o (by omega), sI_o (by omega), sI_1, up_s, sI_o (by omega), sI_1, up_s, sI_1, up_s]
      exact ⟨rfl, rfl, rfl⟩
    · have := e2 c' (by omega) g2
      rw [sI_o (by omega), sI_o (by omega), sI_o (by omega), sI_o (by omega), sI_o (by omega), sI_o (by omega), sI_o (by omega), sI_o (by omega), sI_o (by omega)] at this
      exact this
theorem J_back {h : AH} (hI : Inv h) (x1 : Int32) : JI g l mX7_back mX8_back h [.ref 0, .int x1] [.ref 82, .int x1] := by
  have hI2 := hI
  obtain ⟨s, v, R, M⟩ := hI
  obtain ⟨z, a1, a2, rfl⟩ := I_any x1
  have out : (z < 0 ∨ 1 < z) → SpI g l mX8_back h [.ref 82, .int (I z)] (fun u h2 => u = I (-1) ∧ Inv h2) := fun c => sX8_back (fun X O => wp_in ⟨a1, a2⟩ ⟨by omega, by omega⟩ ⟨by omega, by omega⟩ (fun _ _ => by omega) (fun _ => nb_f y00 ⟨rfl, hI2⟩))
  refine sX7_back ?_
  simp (disch := omega) only [I_lt0, I_lt]
  refine ⟨fun q => out (Or.inl q), fun q => ⟨fun q2 => ?_, fun q2 => out (by omega)⟩⟩
  obtain ⟨i, rfl⟩ : ∃ n : Nat, z = n := ⟨z.toNat, by omega⟩
  have hi : i < 2 := by omega
  have hZ : shZ (54 + 14 * i) := by rcases (show i = 0 ∨ i = 1 by omega) with rfl | rfl <;> unfold shZ <;> omega
  obtain ⟨p, hp⟩ := R.1.2.1
  have ri := (R.1.2.2.2.2.1 i hi).1
  have i2 := (R.1.2.2.2.2.1 i hi).2
  have m2 := M.1.2.2.2.2.1 i hi
  refine ⟨i, rfl, hi, 54 + 14 * i, ri, lay_sh hZ, ?_⟩
  cases hq : s.2.2.2.2.1 i with
  | none =>
    rw [hq] at i2 m2
    refine nb_f (by rw [i2.1]; exact y00) ?_
    refine sX8_back (fun X O => wp_in ⟨a1, a2⟩ ⟨by omega, by omega⟩ ⟨by omega, by omega⟩ (fun _ _ => nb_t n10 ⟨i, rfl, hi, ?_⟩) (fun _ => by omega))
    have m3 : h.1 102 i = I (-1) := m2
    rw [m3]
    exact br_f (by decide) ⟨rfl, hI2⟩
  | some cs =>
    rw [hq] at i2 m2
    obtain ⟨i3, q, i4⟩ := i2
    obtain ⟨m3, m4⟩ := m2
    have vz := v.2.2.2.2 i cs hq
    have v4 := vz.1
    refine nb_t (by rw [i3]; exact n10) ⟨i, rfl, hi, 54 + 14 * i, ri, lay_sh hZ, wp_shcopy (Or.inl rfl) hZ (by omega) hp.1 hp.2.1 i4 vz (fun h1 c1 c2 => ?_)⟩
    have d1 : Chg (fun a k => (1 ≤ a ∧ a ≤ 19 ∧ 6 ≤ a) ∨ (a = 0 ∧ k = 10)) nR h (sI h1 0 10 (I 0)) := (c1.up (fun a k q => by omega) (fun _ _ q => q)).i (by omega)
    rw [c2.2.2.1]
    have e0 : ∀ a k, 82 ≤ a → (sI h1 0 10 (I 0)).1 a k = h.1 a k := fun a k g1 => d1.1 _ _ (by omega)
    refine sX8_back (fun X O => wp_in ⟨a1, a2⟩ ⟨by omega, by omega⟩ ⟨by omega, by omega⟩ (fun _ _ => nb_t n10 ⟨i, rfl, hi, ?_⟩) (fun _ => by omega))
    rw [e0 _ _ (by omega), m3]
    refine br_t ((I_ge0 (by omega) (by omega)).mpr (by omega)) ⟨i, rfl, hi, ?_⟩
    rw [e0 _ _ (by omega), m3]
    refine lp_mback1 O i cs.1 hi v4 cs.1 0 _ (by omega) (by rw [sI_1, up_s]) (fun h2 e1 e2 => lp_mback2 O i hi 40 0 h2 (by omega) (fun h3 f1 f2 => ?_))
    have t1 : Chg (fun a k => 82 ≤ a ∨ (1 ≤ a ∧ a ≤ 19 ∧ 6 ≤ a) ∨ (a = 0 ∧ k = 10)) nR h (sI h3 82 41 (I 0)) := ((((d1.up (fun a k q => by omega) (fun _ _ q => q)).i (by omega)).tr (e1.up (fun a k q => by omega) (fun _ _ q => q))).tr (f1.up (fun a k q => by omega) (fun _ _ q => q))).i (by omega)
    have t2 : Chg (fun a k => a < 82 ∨ (84 ≤ a ∧ a ≤ 88) ∨ (a = 82 ∧ (k = 6 ∨ k = 41))) nR h (sI h3 82 41 (I 0)) := ((((d1.up (fun a k q => by omega) (fun _ _ q => q)).i (by omega)).tr (e1.up (fun a k q => by omega) (fun _ _ q => q))).tr (f1.up (fun a k q => by omega) (fun _ _ q => q))).i (by omega)
    have t3 : Chg (fun a k => 82 ≤ a) nR (sI h1 0 10 (I 0)) (sI h3 82 41 (I 0)) := (((Chg.rf.i (by omega)).tr (e1.up (fun a k q => by omega) (fun _ _ q => q))).tr (f1.up (fun a k q => by omega) (fun _ _ q => q))).i (by omega)
    have n6 : h3.1 82 6 = I (cs.1 : Int) := by rw [f1.1 _ _ (by omega), e1.1 _ _ (by omega), sI_1, up_s]
    refine ⟨n6, (s.1, cs, s.2.2), ⟨v.1, vz, v.2.2⟩, ?_, ?_⟩
    · refine RC_chips t1 v (fun a k q => by omega) (fun a k q => q.elim) R (rcT_c (s := s) t1 (by omega) (fun k => by omega) R.1.1) ⟨p, atSH_c (t3) v4 (fun a k h1 h2 => by omega) (fun k => id) ?_⟩ (by rw [t3.1 _ _ (by omega), sI_1, up_s])
      exact atSH_c (P := fun a k => a = 0) (R := nR) (Chg.rf.i rfl) v4 (fun a k h1 h2 => by omega) (fun k => id) c2
    · refine RM_chips t2 (fun a k q => by omega) M (rmT_c (s := s) t2 (by omega) (fun k => by omega) M.1.1) ⟨by rw [sI_1, up_n (by omega)]; exact n6, fun c' hc' => ?_⟩ (by rw [sI_1, up_s])
      have hc' : c' < cs.1 := hc'
      have y := m4 c' hc'
      have g2 := e2 c' (by omega) hc'
      have vc := (vz.2 c' hc').2.2.2.1
      have sm : ∀ a k, 103 ≤ a → a ≤ 107 → (sI (sI h1 0 10 (I 0)) 82 6 (I (cs.1 : Int))).1 a k = h.1 a k := fun a k g1 g2 => by rw [sI_o (by omega), e0 _ _ (by omega)]
      rw [sm _ _ (by omega) (by omega), sm _ _ (by omega) (by omega), sm _ _ (by omega) (by omega)] at g2
      simp only [Nat.mul_zero, Nat.zero_add]
      refine ⟨?_, ?_, ?_, fun k hk => ?_⟩
      · rw [sI_o (by omega), f1.1 _ _ (by omega), g2.1]; exact y.1
      · rw [sI_o (by omega), f1.1 _ _ (by omega), g2.2.1]; exact y.2.1
      · rw [sI_o (by omega), f1.1 _ _ (by omega), g2.2.2]; exact y.2.2.1
      · have f3 := f2 (10 * c' + k) (by omega) (by omega)
        have y4 := y.2.2.2 k hk
        rw [show 10 * (4 * i) + 10 * c' + k = 40 * i + (10 * c' + k) by omega] at y4
        rw [sI_o (by omega), sI_o (by omega), f3.1, f3.2, e1.1 _ _ (by omega), e1.1 _ _ (by omega), sm _ _ (by omega) (by omega), sm _ _ (by omega) (by omega)]
        exact y4
end BA
