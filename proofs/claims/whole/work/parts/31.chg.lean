/-! what a call changes: ints within P, references within R, neither trace -/
def Chg (P R : Nat → Nat → Prop) (h h2 : AH) : Prop := (∀ a k, ¬ P a k → h2.1 a k = h.1 a k) ∧ (∀ a k, ¬ R a k → h2.2.2 a k = h.2.2 a k) ∧ (∀ k, h2.2.1 0 k = h.2.1 0 k) ∧ ∀ k, h2.2.1 82 k = h.2.1 82 k
abbrev nR : Nat → Nat → Prop := fun _ _ => False
section CG
variable {P R P2 R2 : Nat → Nat → Prop} {h h2 h3 : AH}
theorem Chg.rf : Chg P R h h := ⟨fun _ _ _ => rfl, fun _ _ _ => rfl, fun _ => rfl, fun _ => rfl⟩
theorem Chg.tr (a : Chg P R h h2) (b : Chg P R h2 h3) : Chg P R h h3 := ⟨fun x k q => (b.1 x k q).trans (a.1 x k q), fun x k q => (b.2.1 x k q).trans (a.2.1 x k q), fun k => (b.2.2.1 k).trans (a.2.2.1 k), fun k => (b.2.2.2 k).trans (a.2.2.2 k)⟩
theorem Chg.up (a : Chg P R h h2) (p : ∀ x k, P x k → P2 x k) (r : ∀ x k, R x k → R2 x k) : Chg P2 R2 h h2 := ⟨fun x k q => a.1 x k (fun z => q (p x k z)), fun x k q => a.2.1 x k (fun z => q (r x k z)), a.2.2⟩
theorem Chg.i {x k : Nat} {v : Int32} (a : Chg P R h h2) (p : P x k) : Chg P R h (sI h2 x k v) := ⟨fun y j q => by
  by_cases hy : y = x
  · subst hy
    by_cases hj : j = k
    · subst hj; exact absurd p q
    · rw [sI_1, up_n hj]; exact a.1 y j q
  · rw [sI_o hy]; exact a.1 y j q, a.2⟩
theorem Chg.l {x k : Nat} {v : Int64} (a : Chg P R h h2) (h0 : x ≠ 0) (h8 : x ≠ 82) : Chg P R h (sL h2 x k v) := ⟨a.1, a.2.1, fun j => by rw [sL_o (Ne.symm h0)]; exact a.2.2.1 j, fun j => by rw [sL_o (Ne.symm h8)]; exact a.2.2.2 j⟩
theorem Chg.r {x k : Nat} {v : Option Nat} (a : Chg P R h h2) (p : R x k) : Chg P R h (sR h2 x k v) := ⟨a.1, fun y j q => by
  by_cases hy : y = x
  · subst hy
    by_cases hj : j = k
    · subst hj; exact absurd p q
    · rw [sR_1, up_n hj]; exact a.2.1 y j q
  · rw [sR_o hy]; exact a.2.1 y j q, a.2.2⟩
theorem Chg.c {x y n : Nat} (a : Chg P R h h2) (p : ∀ k, P y k) : Chg P R h (cpI h2 x y n) := ⟨fun z j q => by
  by_cases hz : z = y
  · subst hz; exact absurd (p j) q
  · rw [show (cpI h2 x y n).1 z = h2.1 z from up_n hz]; exact a.1 z j q, a.2⟩
end CG
/-! the parts, each with what it looks at -/
section CP
variable {P R : Nat → Nat → Prop} {h h2 : AH} {s : ST}
theorem atCH_c {b : Nat} {c : CH} (e : Chg P R h h2) (p : ∀ a k, b ≤ a → a ≤ b + 2 → ¬ P a k) (x : atCH h b c) : atCH h2 b c := by
  obtain ⟨x1, x2, x3, x4, x5⟩ := x
  exact ⟨by rw [e.1 _ _ (p _ _ (by omega) (by omega))]; exact x1, by rw [e.1 _ _ (p _ _ (by omega) (by omega))]; exact x2, by rw [e.1 _ _ (p _ _ (by omega) (by omega))]; exact x3, fun k hk => by rw [e.1 _ _ (p _ _ (by omega) (by omega))]; exact x4 k hk, fun k hk => by rw [e.1 _ _ (p _ _ (by omega) (by omega))]; exact x5 k hk⟩
theorem atSH_c {z : Nat} {p : Nat → Nat} {cs : CS} (e : Chg P R h h2) (h4 : cs.1 ≤ 4) (pp : ∀ a k, z ≤ a → a ≤ z + 13 → ¬ P a k) (rr : ∀ k, ¬ R (z + 1) k) (x : atSH h z p cs) : atSH h2 z p cs := by
  obtain ⟨x1, x2, x3, x4⟩ := x
  refine ⟨x1, fun c hc => by rw [e.2.1 _ _ (rr c)]; exact x2 c hc, by rw [e.1 _ _ (pp _ _ (by omega) (by omega))]; exact x3, fun c hc => atCH_c e (fun a k ha hb => pp a k ?_ ?_) (x4 c hc)⟩
  · rcases x1.1 c (by omega) with h | h | h | h <;> omega
  · rcases x1.1 c (by omega) with h | h | h | h <;> omega
theorem atBK_c {b : Nat} {k : BK} (e : Chg P R h h2) (p : ∀ a k, b ≤ a → a ≤ b + 5 → ¬ P a k) (x : atBK h b k) : atBK h2 b k := by
  obtain ⟨x1, x2, x3⟩ := x
  exact ⟨fun i hi => ⟨by rw [e.1 _ _ (p _ _ (by omega) (by omega))]; exact (x1 i hi).1, by rw [e.1 _ _ (p _ _ (by omega) (by omega))]; exact (x1 i hi).2.1, by rw [e.1 _ _ (p _ _ (by omega) (by omega))]; exact (x1 i hi).2.2⟩, by rw [e.1 _ _ (p _ _ (by omega) (by omega))]; exact x2, fun i hi => ⟨by rw [e.1 _ _ (p _ _ (by omega) (by omega))]; exact (x3 i hi).1, by rw [e.1 _ _ (p _ _ (by omega) (by omega))]; exact (x3 i hi).2⟩⟩
theorem rcT_c (e : Chg P R h h2) (p1 : ¬ P 1 1) (p2 : ∀ k, ¬ P 2 k) (x : rcT s h) : rcT s h2 := ⟨by rw [e.1 _ _ p1]; exact x.1, fun i hi => by rw [e.1 _ _ (p2 i)]; exact x.2 i hi⟩
theorem rcB_c {b b' : Nat} (e : Chg P R h h2) (p : ∀ a k, 42 ≤ a → a ≤ 53 → ¬ P a k) (r : ∀ k, ¬ R 0 k) (x : rcB s h b b') : rcB s h2 b b' := by
  obtain ⟨x1, x2, x3, x4⟩ := x
  exact ⟨x1, by rw [e.2.1 _ _ (r 8)]; exact x2, by rw [e.2.1 _ _ (r 9)]; exact x3, atBK_c e (fun a k h1 h2 => p a k (by omega) (by omega)) x4⟩
theorem rcI_c (e : Chg P R h h2) (v : vS s) (p : ∀ a k, 54 ≤ a → a ≤ 81 → ¬ P a k) (r : ∀ a k, a = 20 ∨ 54 ≤ a ∧ a ≤ 81 → ¬ R a k) (x : rcI s h) : rcI s h2 := by
  intro j hj
  have i1 := x j hj
  have vi := v.2.2.2.2 j
  refine ⟨by rw [e.2.1 _ _ (r _ _ (Or.inl rfl))]; exact i1.1, ?_⟩
  have i2 := i1.2
  cases hq : s.2.2.2.2.1 j with
  | none =>
    rw [hq] at i2
    simp only at i2 ⊢
    obtain ⟨i3, q, i4, i5⟩ := i2
    exact ⟨by rw [e.1 _ _ (p _ _ (by omega) (by omega))]; exact i3, q, i4, fun c hc => by rw [e.2.1 _ _ (r _ _ (Or.inr ⟨by omega, by omega⟩))]; exact i5 c hc⟩
  | some cs =>
    rw [hq] at i2
    simp only at i2 ⊢
    obtain ⟨i3, q, i4⟩ := i2
    exact ⟨by rw [e.1 _ _ (p _ _ (by omega) (by omega))]; exact i3, q, atSH_c e (vi cs hq).1 (fun a k h1 h2 => p a k (by omega) (by omega)) (fun k => r _ _ (Or.inr ⟨by omega, by omega⟩)) i4⟩
theorem pcE_c {d : PE} (e : Chg P R h h2) (p0 : ¬ P 26 0) (p : ∀ a k, 27 ≤ a → a ≤ 30 → ¬ P a k) (x : pcE d h) : pcE d h2 := by
  obtain ⟨x1, x2, x3⟩ := x
  exact ⟨by rw [e.1 _ _ p0]; exact x1, fun k hk => ⟨by rw [e.1 _ _ (p _ _ (by omega) (by omega))]; exact (x2 k hk).1, by rw [e.1 _ _ (p _ _ (by omega) (by omega))]; exact (x2 k hk).2.1, by rw [e.1 _ _ (p _ _ (by omega) (by omega))]; exact (x2 k hk).2.2⟩, fun c hc j hj => by rw [e.1 _ _ (p _ _ (by omega) (by omega))]; exact x3 c hc j hj⟩
theorem rcC_c (e : Chg P R h h2) (p : ¬ P 0 10) (p0 : ¬ P 26 0) (p2 : ∀ a k, 27 ≤ a → a ≤ 30 → ¬ P a k) (x : rcC s h) : rcC s h2 := by
  rcases x with x | ⟨x, y⟩
  · exact Or.inl (by rw [e.1 _ _ p]; exact x)
  · exact Or.inr ⟨by rw [e.1 _ _ p]; exact x, pcE_c e p0 p2 y⟩
/-- places of the class that nobody asks for later -/
def scC (a k : Nat) : Prop := 82 ≤ a ∨ (3 ≤ a ∧ a ≤ 5) ∨ (22 ≤ a ∧ a ≤ 25) ∨ (31 ≤ a ∧ a ≤ 41) ∨ (a = 1 ∧ k ≠ 1) ∨ (a = 26 ∧ k ≠ 0)
def srC' (a _k : Nat) : Prop := 82 ≤ a ∨ a = 23 ∨ a = 26
theorem RC_c (e : Chg scC srC' h h2) (v : vS s) (x : RC s h) : RC s h2 := by
  obtain ⟨⟨t, ⟨p, c⟩, ⟨b, b', bb⟩, u, i, tr⟩, ca⟩ := x
  have n : ∀ a k, (a = 0 ∨ a = 2 ∨ (6 ≤ a ∧ a ≤ 21) ∨ (27 ≤ a ∧ a ≤ 30) ∨ (42 ≤ a ∧ a ≤ 81)) → ¬ scC a k := by
    intro a k hh
    unfold scC
    omega
  have r : ∀ a k, (a < 23 ∨ (54 ≤ a ∧ a ≤ 81)) → ¬ srC' a k := by
    intro a k hh
    unfold srC'
    omega
  refine ⟨⟨rcT_c e (by unfold scC; omega) (fun k => n _ _ (by omega)) t, ⟨p, atSH_c e v.2.1.1 (fun a k h1 h2 => n _ _ (by omega)) (fun k => r _ _ (by omega)) c⟩, ⟨b, b', rcB_c e (fun a k h1 h2 => n _ _ (by omega)) (fun k => r _ _ (by omega)) bb⟩, fun j hj => by rw [e.1 _ _ (n _ _ (by omega))]; exact u j hj, rcI_c e v (fun a k h1 h2 => n _ _ (by omega)) (fun a k hh => r _ _ (by omega)) i, by rw [e.2.2.1]; exact tr⟩, rcC_c e (n _ _ (by omega)) (by unfold scC; omega) (fun a k h1 h2 => n _ _ (by omega)) ca⟩
/-! the reference's -/
theorem mCS_c {n r p z co di i : Nat} {cs : CS} (e : Chg P R h h2) (h1 : ∀ k, ¬ P r k ∧ ¬ P p k ∧ ¬ P z k ∧ ¬ P co k ∧ ¬ P di k) (x : mCS h n r p z co di i cs) : mCS h2 n r p z co di i cs := by
  intro c hc
  obtain ⟨y1, y2, y3, y4⟩ := x c hc
  exact ⟨by rw [e.1 _ _ (h1 _).1]; exact y1, by rw [e.1 _ _ (h1 _).2.1]; exact y2, by rw [e.1 _ _ (h1 _).2.2.1]; exact y3, fun k hk => ⟨by rw [e.1 _ _ (h1 _).2.2.2.1]; exact (y4 k hk).1, by rw [e.1 _ _ (h1 _).2.2.2.2]; exact (y4 k hk).2⟩⟩
def rmT (s : ST) (h : AH) : Prop := h.1 82 1 = I (s.1.1 : Int) ∧ ∀ i, i < s.1.1 → h.1 83 i = I (s.1.2 i : Int)
def rmCh (s : ST) (h : AH) : Prop := h.1 82 6 = I (s.2.1.1 : Int) ∧ mCS h 4 84 85 86 87 88 0 s.2.1
def rmB (s : ST) (h : AH) : Prop := (∀ l, l < 12 → h.1 91 l = I (s.2.2.1.1 l : Int) ∧ h.1 92 l = I (s.2.2.1.2.1 l : Int) ∧ h.1 93 l = I (s.2.2.1.2.2.1 l : Int)) ∧ h.1 82 17 = I (s.2.2.1.2.2.2.1 : Int) ∧ ∀ i, i < s.2.2.1.2.2.2.1 → h.1 94 i = I (s.2.2.1.2.2.2.2.1 i : Int) ∧ h.1 95 i = I (s.2.2.1.2.2.2.2.2 i : Int)
def rmI (s : ST) (h : AH) : Prop := ∀ i, i < 2 → match s.2.2.2.2.1 i with
    | none => h.1 102 i = I (-1)
    | some cs => h.1 102 i = I (cs.1 : Int) ∧ mCS h 4 103 104 105 106 107 i cs
theorem rmT_c (e : Chg P R h h2) (p1 : ¬ P 82 1) (p2 : ∀ k, ¬ P 83 k) (x : rmT s h) : rmT s h2 := ⟨by rw [e.1 _ _ p1]; exact x.1, fun i hi => by rw [e.1 _ _ (p2 i)]; exact x.2 i hi⟩
theorem rmCh_c (e : Chg P R h h2) (p1 : ¬ P 82 6) (p2 : ∀ a k, 84 ≤ a → a ≤ 88 → ¬ P a k) (x : rmCh s h) : rmCh s h2 := ⟨by rw [e.1 _ _ p1]; exact x.1, mCS_c e (fun k => ⟨p2 _ _ (by omega) (by omega), p2 _ _ (by omega) (by omega), p2 _ _ (by omega) (by omega), p2 _ _ (by omega) (by omega), p2 _ _ (by omega) (by omega)⟩) x.2⟩
theorem rmB_c (e : Chg P R h h2) (p1 : ¬ P 82 17) (p2 : ∀ a k, 91 ≤ a → a ≤ 95 → ¬ P a k) (x : rmB s h) : rmB s h2 := by
  obtain ⟨x1, x2, x3⟩ := x
  exact ⟨fun i hi => ⟨by rw [e.1 _ _ (p2 _ _ (by omega) (by omega))]; exact (x1 i hi).1, by rw [e.1 _ _ (p2 _ _ (by omega) (by omega))]; exact (x1 i hi).2.1, by rw [e.1 _ _ (p2 _ _ (by omega) (by omega))]; exact (x1 i hi).2.2⟩, by rw [e.1 _ _ p1]; exact x2, fun i hi => ⟨by rw [e.1 _ _ (p2 _ _ (by omega) (by omega))]; exact (x3 i hi).1, by rw [e.1 _ _ (p2 _ _ (by omega) (by omega))]; exact (x3 i hi).2⟩⟩
theorem rmI_c (e : Chg P R h h2) (p : ∀ a k, 102 ≤ a → a ≤ 107 → ¬ P a k) (x : rmI s h) : rmI s h2 := by
  intro j hj
  have i1 := x j hj
  cases hq : s.2.2.2.2.1 j with
  | none =>
    rw [hq] at i1
    simp only at i1 ⊢
    rw [e.1 _ _ (p _ _ (by omega) (by omega))]
    exact i1
  | some cs =>
    rw [hq] at i1
    simp only at i1 ⊢
    exact ⟨by rw [e.1 _ _ (p _ _ (by omega) (by omega))]; exact i1.1, mCS_c e (fun k => ⟨p _ _ (by omega) (by omega), p _ _ (by omega) (by omega), p _ _ (by omega) (by omega), p _ _ (by omega) (by omega), p _ _ (by omega) (by omega)⟩) i1.2⟩
theorem pmS_c (e : Chg P R h h2) (p1 : ¬ P 82 38) (p2 : ¬ P 82 44) (p : ∀ a k, 113 ≤ a → a ≤ 116 → ¬ P a k) (x : pmS s h) : pmS s h2 := by
  obtain ⟨x1, x2, x3, x4⟩ := x
  exact ⟨by rw [e.1 _ _ p1]; exact x1, fun k hk => ⟨by rw [e.1 _ _ (p _ _ (by omega) (by omega))]; exact (x2 k hk).1, by rw [e.1 _ _ (p _ _ (by omega) (by omega))]; exact (x2 k hk).2.1, by rw [e.1 _ _ (p _ _ (by omega) (by omega))]; exact (x2 k hk).2.2⟩, fun c hc j hj => by rw [e.1 _ _ (p _ _ (by omega) (by omega))]; exact x3 c hc j hj, by rw [e.1 _ _ p2]; exact x4⟩
theorem rmC_c (e : Chg P R h h2) (p0 : ¬ P 82 41) (p1 : ¬ P 82 38) (p2 : ¬ P 82 44) (p : ∀ a k, 113 ≤ a → a ≤ 116 → ¬ P a k) (x : rmC s h) : rmC s h2 := by
  rcases x with x | ⟨x, y⟩
  · exact Or.inl (by rw [e.1 _ _ p0]; exact x)
  · exact Or.inr ⟨by rw [e.1 _ _ p0]; exact x, pmS_c e p1 p2 p y⟩
/-- places of the reference that nobody asks for later -/
def scM (a k : Nat) : Prop := a < 82 ∨ (89 ≤ a ∧ a ≤ 90) ∨ (96 ≤ a ∧ a ≤ 100) ∨ (108 ≤ a ∧ a ≤ 112) ∨ a = 117 ∨ (a = 82 ∧ k ≠ 1 ∧ k ≠ 6 ∧ k ≠ 17 ∧ k ≠ 38 ∧ k ≠ 41 ∧ k ≠ 44)
theorem RM_of (t : rmT s h) (c : rmCh s h) (b : rmB s h) (u : ∀ i, i < 5 → h.1 101 i = I (s.2.2.2.1 i : Int)) (i : rmI s h) (tr : h.2.1 82 32 = s.2.2.2.2.2) (ca : rmC s h) : RM s h := ⟨⟨t, c, b, u, i, tr⟩, ca⟩
theorem RM_c (e : Chg scM R h h2) (x : RM s h) : RM s h2 := by
  obtain ⟨⟨t, c, b, u, i, tr⟩, ca⟩ := x
  have n : ∀ a k, ((83 ≤ a ∧ a ≤ 88) ∨ (91 ≤ a ∧ a ≤ 95) ∨ (101 ≤ a ∧ a ≤ 107) ∨ (113 ≤ a ∧ a ≤ 116)) → ¬ scM a k := by
    intro a k hh
    unfold scM
    omega
  exact RM_of (rmT_c e (by unfold scM; omega) (fun k => n _ _ (by omega)) t) (rmCh_c e (by unfold scM; omega) (fun a k h1 h2 => n _ _ (by omega)) c) (rmB_c e (by unfold scM; omega) (fun a k h1 h2 => n _ _ (by omega)) b) (fun j hj => by rw [e.1 _ _ (n _ _ (by omega))]; exact u j hj) (rmI_c e (fun a k h1 h2 => n _ _ (by omega)) i) (by rw [e.2.2.2]; exact tr) (rmC_c e (by unfold scM; omega) (by unfold scM; omega) (by unfold scM; omega) (fun a k h1 h2 => n _ _ (by omega)) ca)
end CP
