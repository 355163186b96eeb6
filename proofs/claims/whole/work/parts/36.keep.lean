section KE
variable {g : mg} {l : Launch}
theorem cp_1 {h : AH} {a b n : Nat} : (cpI h a b n).1 b = fun k => if k < n then h.1 a k else h.1 b k := up_s
theorem cp_o {h : AH} {a b c n : Nat} (hc : c ≠ b) : (cpI h a b n).1 c = h.1 c := up_n hc
theorem wp_chcopy {h : AH} {Q : AH → Prop} {x0 x1 : Nat} {c : CH} (h0 : lay x0 = (1, 5)) (h1 : lay x1 = (1, 5)) (ne : x0 + 2 < x1 ∨ x1 + 2 < x0) (A : atCH h x1 c) (v : okCH c) (k : ∀ h2, Chg (fun a _ => x0 ≤ a ∧ a ≤ x0 + 2) nR h h2 → atCH h2 x0 c → Q h2) : SpV g l mX1_copy h [.ref x0, .ref x1] Q := by
  obtain ⟨a1, a2, a3, a4, a5⟩ := A
  obtain ⟨v1, v2, v3, v4, v5, v6⟩ := v
  refine sX1_copy h0 h1 ?_
  have q : ∀ (h : AH) (j : Nat) (w : Int32), (sI h x0 j w).1 x1 = h.1 x1 := fun h j w => sI_o (by omega)
  rw [q, q, a1, a2, a3]
  refine ⟨?_, ?_⟩
  · rcases (show c.2.1 = 0 ∨ c.2.1 = 1 by omega) with e | e <;> rw [e]
    · exact Or.inl (by decide)
    · exact Or.inr (by decide)
  · refine k _ ((((((Chg.rf.i ⟨by omega, by omega⟩).i ⟨by omega, by omega⟩).i ⟨by omega, by omega⟩).c (fun _ => ⟨by omega, by omega⟩)).c (fun _ => ⟨by omega, by omega⟩))) ⟨?_, ?_, ?_, fun j hj => ?_, fun j hj => ?_⟩
    · rw [cp_o (by omega), cp_o (by omega), sI_1, up_n (by omega), sI_1, up_n (by omega), sI_1, up_s]
    · rw [cp_o (by omega), cp_o (by omega), sI_1, up_n (by omega), sI_1, up_s]
    · rw [cp_o (by omega), cp_o (by omega), sI_1, up_s]
    · rw [cp_o (by omega), cp_1]
      show (if j < 10 then _ else _) = _
      rw [if_pos (by omega), sI_o (by omega), sI_o (by omega), sI_o (by omega)]
      exact a4 j hj
    · rw [cp_1]
      show (if j < 10 then _ else _) = _
      rw [if_pos (by omega), cp_o (by omega), sI_o (by omega), sI_o (by omega), sI_o (by omega)]
      exact a5 j hj
def shZ (z : Nat) : Prop := z = 6 ∨ z = 54 ∨ z = 68
theorem lay_sh {z : Nat} (h : shZ z) : lay z = (4, 3) := by rcases h with rfl | rfl | rfl <;> rfl
theorem wp_shcopy {h : AH} {Q : AH → Prop} {z0 z1 : Nat} {p0 p1 : Nat → Nat} {cs : CS} (h0 : shZ z0) (h1 : shZ z1) (ne : z0 ≠ z1) (q0 : perm z0 p0) (r0 : ∀ c, c < 4 → h.2.2 (z0 + 1) c = some (p0 c)) (A : atSH h z1 p1 cs) (v : okCS cs) (k : ∀ h2, Chg (fun a k => (a = z0 ∧ k = 1) ∨ (z0 + 2 ≤ a ∧ a ≤ z0 + 13)) nR h h2 → atSH h2 z0 p0 cs → Q h2) : SpV g l mX4_copy h [.ref z0, .ref z1] Q := by
  have h4 := v.1
  have far : z0 + 13 < z1 ∨ z1 + 13 < z0 := by rcases h0 with rfl | rfl | rfl <;> rcases h1 with rfl | rfl | rfl <;> omega
  refine sX4_copy (lay_sh h0) (lay_sh h1) (fun X O => ?_)
  rw [A.2.2.1]
  have lp : ∀ (m c : Nat) (h2 : AH), c + m = cs.1 → Chg (fun a k => (a = z0 ∧ k = 1) ∨ (z0 + 2 ≤ a ∧ a ≤ z0 + 13)) nR h h2 → h2.1 z0 1 = I (cs.1 : Int) → (∀ c', c' < c → atCH h2 (p0 c') (cs.2 c')) → GV g l X Q h2 10 [(0, .ref z0), (1, .ref z1), (2, .int (I (c : Int)))] [] := by
    intro m
    induction m with
    | zero =>
      intro c h2 hc e e1 e2
      refine bX4_copy_10 O (lay_sh h0) (lay_sh h1) ?_
      rw [e1]
      exact br_t ((I_le (by omega) (by omega) (by omega) (by omega)).mpr (by omega)) (k h2 e ⟨q0, fun c hc => by rw [e.2.1 _ _ id]; exact r0 c hc, e1, fun c' hc' => e2 c' (by omega)⟩)
    | succ m ih =>
      intro c h2 hc e e1 e2
      refine bX4_copy_10 O (lay_sh h0) (lay_sh h1) ?_
      rw [e1]
      refine br_f (fun e => absurd ((I_le (by omega) (by omega) (by omega) (by omega)).mp e) (by omega)) ⟨c, rfl, by omega, p0 c, by rw [e.2.1 _ _ id]; exact r0 c (by omega), lay_pm h0 q0 (by omega), c, rfl, by omega, p1 c, by rw [e.2.1 _ _ id]; exact A.2.1 c (by omega), lay_pm h1 A.1 (by omega), ?_⟩
      have b0 := q0.1 c (by omega)
      have b1 := A.1.1 c (by omega)
      refine wp_chcopy (lay_pm h0 q0 (by omega)) (lay_pm h1 A.1 (by omega)) (by omega) (atCH_c e (fun a k g1 g2 => by omega) (A.2.2.2 c (by omega))) (v.2 c (by omega)) (fun h3 e3 a3 => ?_)
      rw [I_add]
      refine ih (c + 1) h3 (by omega) (e.tr (e3.up (fun a k q => by omega) (fun _ _ q => q))) (by rw [e3.1 _ _ (by omega)]; exact e1) (fun c' hc' => ?_)
      by_cases hcc : c' = c
      · subst hcc; exact a3
      · refine atCH_c e3 (fun a k g1 g2 => ?_) (e2 c' (by omega))
        have b2 := q0.1 c' (by omega)
        have b3 : p0 c' ≠ p0 c := fun q => hcc (q0.2 c' c (by omega) (by omega) q)
        omega
  refine lp cs.1 0 _ (by omega) (Chg.rf.i (Or.inl ⟨rfl, rfl⟩)) (by rw [sI_1, up_s]) (fun c' hc' => absurd hc' (by omega))
/-! the reference's images -/
theorem lp_mkeep2 {X : XT} {Q : Int32 → AH → Prop} (O : Ok (FF g l X) RX8 cX8_keep 3 mX8_keep.2.2.2.2 (some .int)) (i : Nat) (hi : i < 2) : ∀ (m c : Nat) (h : AH), c + m = 40 → (∀ h2, Chg (fun a k => (a = 106 ∨ a = 107) ∧ 40 * i + c ≤ k ∧ k < 40 * i + 40) nR h h2 → (∀ c', c ≤ c' → c' < 40 → h2.1 106 (40 * i + c') = h.1 87 c' ∧ h2.1 107 (40 * i + c') = h.1 88 c') → Q (h2.1 82 6) h2) → GI g l X Q h 87 [(0, .ref 82), (1, .int (I (i : Int))), (2, .int (I (c : Int)))] [] := by
  intro m
  induction m with
  | zero =>
    intro c h hc k
    exact bX8_keep_87 O (br_t ((I_le (by omega) (by omega) (by omega) (by omega)).mpr (by omega)) (k h Chg.rf (fun c' g1 g2 => absurd g1 (by omega))))
  | succ m ih =>
    intro c h hc k
    refine bX8_keep_87 O (br_f (fun e => absurd ((I_le (by omega) (by omega) (by omega) (by omega)).mp e) (by omega)) ?_)
    rw [I_mul, I_add, I_add]
    refine ⟨c, rfl, by omega, 40 * i + c, rfl, by omega, c, rfl, by omega, 40 * i + c, rfl, by omega, ?_⟩
    refine ih (c + 1) _ (by omega) (fun h2 e1 e2 => ?_)
    refine k h2 ((((Chg.rf.i ⟨by omega, by omega, by omega⟩).i ⟨by omega, by omega, by omega⟩)).tr (e1.up (fun a k q => by omega) (fun _ _ q => q))) (fun c' g1 g2 => ?_)
    by_cases hcc : c' = c
    · subst hcc
      rw [e1.1 _ _ (by omega), e1.1 _ _ (by omega), sI_o (by omega), sI_1, up_s, sI_1, up_s]
      exact ⟨rfl, rfl⟩
    · have := e2 c' (by omega) g2
      rw [sI_o (by omega), sI_o (by omega), sI_o (by omega), sI_o (by omega)] at this
      exact this
theorem lp_mkeep1 {X : XT} {Q : Int32 → AH → Prop} (O : Ok (FF g l X) RX8 cX8_keep 3 mX8_keep.2.2.2.2 (some .int)) (i n : Nat) (hi : i < 2) (hn : n ≤ 4) : ∀ (m c : Nat) (h : AH), c + m = n → h.1 82 6 = I (n : Int) → (∀ h2, Chg (fun a k => (103 ≤ a ∧ a ≤ 105) ∧ 4 * i + c ≤ k ∧ k < 4 * i + 4) nR h h2 → (∀ c', c ≤ c' → c' < n → h2.1 103 (4 * i + c') = h.1 84 c' ∧ h2.1 104 (4 * i + c') = h.1 85 c' ∧ h2.1 105 (4 * i + c') = h.1 86 c') → GI g l X Q h2 87 [(0, .ref 82), (1, .int (I (i : Int))), (2, .int (I 0))] []) → GI g l X Q h 23 [(0, .ref 82), (1, .int (I (i : Int))), (2, .int (I (c : Int)))] [] := by
  intro m
  induction m with
  | zero =>
    intro c h hc e0 k
    refine bX8_keep_23 O ?_
    rw [e0]
    exact br_t ((I_le (by omega) (by omega) (by omega) (by omega)).mpr (by omega)) (k h Chg.rf (fun c' g1 g2 => absurd g1 (by omega)))
  | succ m ih =>
    intro c h hc e0 k
    refine bX8_keep_23 O ?_
    rw [e0]
    refine br_f (fun e => absurd ((I_le (by omega) (by omega) (by omega) (by omega)).mp e) (by omega)) ?_
    rw [I_mul, I_add, I_add]
    refine ⟨c, rfl, by omega, 4 * i + c, rfl, by omega, c, rfl, by omega, 4 * i + c, rfl, by omega, c, rfl, by omega, 4 * i + c, rfl, by omega, ?_⟩
    refine ih (c + 1) _ (by omega) (by rw [sI_o (by omega), sI_o (by omega), sI_o (by omega)]; exact e0) (fun h2 e1 e2 => ?_)
    refine k h2 (((((Chg.rf.i ⟨by omega, by omega, by omega⟩).i ⟨by omega, by omega, by omega⟩)).i ⟨by omega, by omega, by omega⟩).tr (e1.up (fun a k q => by omega) (fun _ _ q => q))) (fun c' g1 g2 => ?_)
    by_cases hcc : c' = c
    · subst hcc
      rw [e1.1 _ _ (by omega), e1.1 _ _ (by omega), e1.1 _ _ (by omega), sI_o (by omega), sI_o (by omega), sI_1, up_s, sI_o (by omega), sI_1, up_s, sI_1, up_s]
      exact ⟨rfl, rfl, rfl⟩
    · have := e2 c' (by omega) g2
      rw [sI_o (by omega), sI_o (by omega), sI_o (by omega), sI_o (by omega), sI_o (by omega), sI_o (by omega), sI_o (by omega), sI_o (by omega), sI_o (by omega)] at this
      exact this
theorem J_keep {h : AH} (hI : Inv h) (x1 : Int32) : JI g l mX7_keep mX8_keep h [.ref 0, .int x1] [.ref 82, .int x1] := by
  have hI2 := hI
  obtain ⟨s, v, R, M⟩ := hI
  obtain ⟨z, a1, a2, rfl⟩ := I_any x1
  have h4 := v.2.1.1
  have out : (z < 0 ∨ 1 < z) → SpI g l mX8_keep h [.ref 82, .int (I z)] (fun u h2 => u = I (-1) ∧ Inv h2) := fun c => sX8_keep (fun X O => wp_in ⟨a1, a2⟩ ⟨by omega, by omega⟩ ⟨by omega, by omega⟩ (fun _ _ => by omega) (fun _ => nb_f y00 ⟨rfl, hI2⟩))
  refine sX7_keep ?_
  simp (disch := omega) only [I_lt0, I_lt]
  refine ⟨fun q => out (Or.inl q), fun q => ⟨fun q2 => ?_, fun q2 => out (by omega)⟩⟩
  obtain ⟨i, rfl⟩ : ∃ n : Nat, z = n := ⟨z.toNat, by omega⟩
  have hi : i < 2 := by omega
  have hZ : shZ (54 + 14 * i) := by rcases (show i = 0 ∨ i = 1 by omega) with rfl | rfl <;> unfold shZ <;> omega
  obtain ⟨p, hp⟩ := R.1.2.1
  obtain ⟨p0, hp0, hr0⟩ : ∃ p0, perm (54 + 14 * i) p0 ∧ ∀ c, c < 4 → h.2.2 (54 + 14 * i + 1) c = some (p0 c) := by
    have i2 := (R.1.2.2.2.2.1 i hi).2
    cases hq : s.2.2.2.2.1 i with
    | none => rw [hq] at i2; obtain ⟨-, q, q1, q2⟩ := i2; exact ⟨q, q1, q2⟩
    | some cs => rw [hq] at i2; obtain ⟨-, q, q1⟩ := i2; exact ⟨q, q1.1, q1.2.1⟩
  have ri := (R.1.2.2.2.2.1 i hi).1
  refine ⟨i, rfl, hi, 54 + 14 * i, ri, lay_sh hZ, wp_shcopy hZ (Or.inl rfl) (by omega) hp0 hr0 hp v.2.1 (fun h1 c1 c2 => ⟨i, rfl, hi, 54 + 14 * i, by rw [c1.2.1 _ _ id]; exact ri, lay_sh hZ, ?_⟩)⟩
  -- the reference
  have d1 : Chg (fun a k => 54 + 14 * i ≤ a ∧ a ≤ 54 + 14 * i + 13) nR h (sI h1 (54 + 14 * i) 2 (I 1)) := (c1.up (fun a k q => by omega) (fun _ _ q => q)).i (by omega)
  have cnt : (sI h1 (54 + 14 * i) 2 (I 1)).1 6 1 = I (s.2.1.1 : Int) := by rw [d1.1 _ _ (by omega)]; exact hp.2.2.1
  rw [cnt]
  have em : (sI h1 (54 + 14 * i) 2 (I 1)).1 82 6 = I (s.2.1.1 : Int) := by rw [d1.1 _ _ (by omega)]; exact M.1.2.1.1
  refine sX8_keep (fun X O => wp_in ⟨a1, a2⟩ ⟨by omega, by omega⟩ ⟨by omega, by omega⟩ (fun _ _ => nb_t n10 ⟨i, rfl, hi, ?_⟩) (fun _ => by omega))
  rw [em]
  refine lp_mkeep1 O i s.2.1.1 hi h4 s.2.1.1 0 _ (by omega) (by rw [sI_o (by omega)]; exact em) (fun h2 e1 e2 => lp_mkeep2 O i hi 40 0 h2 (by omega) (fun h3 f1 f2 => ?_))
  have t2 : Chg (fun a k => a < 82 ∨ (a = 102 ∧ k = i) ∨ (103 ≤ a ∧ a ≤ 105 ∧ 4 * i ≤ k ∧ k < 4 * i + 4) ∨ (106 ≤ a ∧ a ≤ 107 ∧ 40 * i ≤ k ∧ k < 40 * i + 40)) nR h h3 := (((d1.up (fun a k q => by omega) (fun _ _ q => q)).i (by omega)).tr (e1.up (fun a k q => by omega) (fun _ _ q => q))).tr (f1.up (fun a k q => by omega) (fun _ _ q => q))
  have t1 : Chg (fun a k => (54 + 14 * i ≤ a ∧ a ≤ 54 + 14 * i + 13) ∨ 82 ≤ a) nR h h3 := (((d1.up (fun a k q => by omega) (fun _ _ q => q)).i (by omega)).tr (e1.up (fun a k q => by omega) (fun _ _ q => q))).tr (f1.up (fun a k q => by omega) (fun _ _ q => q))
  have t3 : Chg (fun a k => a ≥ 82) nR (sI h1 (54 + 14 * i) 2 (I 1)) h3 := ((Chg.rf.i (by omega)).tr (e1.up (fun a k q => by omega) (fun _ _ q => q))).tr (f1.up (fun a k q => by omega) (fun _ _ q => q))
  refine ⟨by rw [t2.1 _ _ (by omega)]; exact M.1.2.1.1, (s.1, s.2.1, s.2.2.1, s.2.2.2.1, up s.2.2.2.2.1 i (some s.2.1), s.2.2.2.2.2), ?_, ?_, ?_⟩
  · refine ⟨v.1, v.2.1, v.2.2.1, v.2.2.2.1, fun j cs hj => ?_⟩
    have hj : up s.2.2.2.2.1 i (some s.2.1) j = some cs := hj
    by_cases hji : j = i
    · subst hji; rw [up_s] at hj; cases hj; exact v.2.1
    · rw [up_n hji] at hj; exact v.2.2.2.2 j cs hj
  · obtain ⟨⟨t, ⟨p, c⟩, ⟨b, b', bb⟩, u, im, tr⟩, ca⟩ := R
    refine ⟨⟨rcT_c (s := s) t1 (by omega) (fun k => by omega) t, ⟨p, atSH_c t1 v.2.1.1 (fun a k h1 h2 => by omega) (fun k => id) c⟩, ⟨b, b', rcB_c (s := s) t1 (fun a k h1 h2 => by omega) (fun k => id) bb⟩, fun j hj => by rw [t1.1 _ _ (by omega)]; exact u j hj, fun j hj => ?_, by rw [t1.2.2.1]; exact tr⟩, rcC_c (s := s) t1 (by omega) (by omega) (fun a k h1 h2 => by omega) ca⟩
    by_cases hji : j = i
    · subst hji
      refine ⟨by rw [t1.2.1 _ _ id]; exact ri, ?_⟩
      show match up s.2.2.2.2.1 j (some s.2.1) j with
        | none => _
        | some cs => _
      rw [up_s]
      refine ⟨by rw [t3.1 _ _ (by omega), sI_1, up_s], p0, atSH_c t3 v.2.1.1 (fun a k h1 h2 => by omega) (fun k => id) ?_⟩
      obtain ⟨y1, y2, y3, y4⟩ := c2
      exact ⟨y1, y2, by rw [sI_1, up_n (by omega)]; exact y3, fun c hc => atCH_c (P := fun a k => a = 54 + 14 * j) (R := nR) (Chg.rf.i rfl) (fun a k g1 g2 => by have := y1.1 c (by omega); omega) (y4 c hc)⟩
    · have := im j hj
      refine ⟨by rw [t1.2.1 _ _ id]; exact this.1, ?_⟩
      have i2 := this.2
      show match up s.2.2.2.2.1 i (some s.2.1) j with
        | none => _
        | some cs => _
      rw [up_n hji]
      cases hq : s.2.2.2.2.1 j with
      | none =>
        rw [hq] at i2
        obtain ⟨i3, q, i4, i5⟩ := i2
        exact ⟨by rw [t1.1 _ _ (by omega)]; exact i3, q, i4, fun c hc => by rw [t1.2.1 _ _ id]; exact i5 c hc⟩
      | some cs =>
        rw [hq] at i2
        obtain ⟨i3, q, i4⟩ := i2
        exact ⟨by rw [t1.1 _ _ (by omega)]; exact i3, q, atSH_c t1 (v.2.2.2.2 j cs hq).1 (fun a k h1 h2 => by omega) (fun k => id) i4⟩
  · obtain ⟨⟨t, c, b, u, im, tr⟩, ca⟩ := M
    refine RM_of (rmT_c (s := s) t2 (by omega) (fun k => by omega) t) (rmCh_c (s := s) t2 (by omega) (fun a k h1 h2 => by omega) c) (rmB_c (s := s) t2 (by omega) (fun a k h1 h2 => by omega) b) (fun j hj => by rw [t2.1 _ _ (by omega)]; exact u j hj) (fun j hj => ?_) (by rw [t2.2.2.2]; exact tr) (rmC_c (s := s) t2 (by omega) (by omega) (by omega) (fun a k h1 h2 => by omega) ca)
    have this := im j hj
    show match up s.2.2.2.2.1 i (some s.2.1) j with
      | none => _
      | some cs => _
    by_cases hji : j = i
    · subst hji
      rw [up_s]
      refine ⟨by rw [f1.1 _ _ (by omega), e1.1 _ _ (by omega), sI_1, up_s], fun c' hc' => ?_⟩
      have hm := c.2 c' hc'
      simp only [Nat.mul_zero, Nat.zero_add] at hm
      have g2 := e2 c' (by omega) hc'
      have vc := (v.2.1.2 c' hc').2.2.2.1
      have sm : ∀ a k, 84 ≤ a → a ≤ 88 → (sI (sI h1 (54 + 14 * j) 2 (I 1)) 102 j (I (s.2.1.1 : Int))).1 a k = h.1 a k := fun a k g1 g2 => by rw [sI_o (by omega), d1.1 _ _ (by omega)]
      refine ⟨?_, ?_, ?_, fun k hk => ?_⟩
      · rw [f1.1 _ _ (by omega), g2.1, sm _ _ (by omega) (by omega)]; exact hm.1
      · rw [f1.1 _ _ (by omega), g2.2.1, sm _ _ (by omega) (by omega)]; exact hm.2.1
      · rw [f1.1 _ _ (by omega), g2.2.2, sm _ _ (by omega) (by omega)]; exact hm.2.2.1
      · have f3 := f2 (10 * c' + k) (by omega) (by omega)
        have hk2 := hm.2.2.2 k hk
        rw [show 10 * (4 * j) + 10 * c' + k = 40 * j + (10 * c' + k) by omega, f3.1, f3.2, e1.1 _ _ (by omega), e1.1 _ _ (by omega), sm _ _ (by omega) (by omega), sm _ _ (by omega) (by omega)]
        exact hk2
    · rw [up_n hji]
      cases hq : s.2.2.2.2.1 j with
      | none =>
        rw [hq] at this
        show h3.1 102 j = _
        rw [t2.1 _ _ (by omega)]
        exact this
      | some cs =>
        rw [hq] at this
        have vz := (v.2.2.2.2 j cs hq)
        refine ⟨by rw [t2.1 _ _ (by omega)]; exact this.1, fun c' hc' => ?_⟩
        have y := this.2 c' hc'
        have vc := (vz.2 c' hc').2.2.2.1
        have v4 := vz.1
        exact ⟨by rw [t2.1 _ _ (by omega)]; exact y.1, by rw [t2.1 _ _ (by omega)]; exact y.2.1, by rw [t2.1 _ _ (by omega)]; exact y.2.2.1, fun k hk => ⟨by rw [t2.1 _ _ (by omega)]; exact (y.2.2.2 k hk).1, by rw [t2.1 _ _ (by omega)]; exact (y.2.2.2 k hk).2⟩⟩
end KE
