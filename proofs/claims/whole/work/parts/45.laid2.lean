section IC
variable {g : mg} {l : Launch} {s : ST}
theorem wp_isCoatC {h : AH} {Q : Int32 → AH → Prop} (v : vS s) (R : RC s h) {z1 z2 : Int} (h1 : inr z1) (h2 : inr z2) (k1 : ∀ c k : Nat, z1 = c → z2 = k → c < s.2.1.1 → k < szP (pE s) c → Q (I 1) h) (k0 : (∀ c k : Nat, z1 = c → z2 = k → c < s.2.1.1 → k < szP (pE s) c → False) → Q (I 0) h) : SpI g l mX7_isCoat h [.ref 0, .int (I z1), .int (I z2)] Q := by
  have h4 := v.2.1.1
  refine sX7_isCoat (wp_isChip v R h1 (fun a1 a2 => br_f n10 ?_) (fun a1 => br_t y00 (k0 (fun c k e1 e2 e3 e4 => by omega))))
  obtain ⟨c, rfl⟩ : ∃ n : Nat, z1 = n := ⟨z1.toNat, by omega⟩
  obtain ⟨p, hp⟩ := R.1.2.1
  obtain ⟨p3, p4⟩ := h2
  have hc : c < s.2.1.1 := by omega
  have sz := (v.2.1.2 c hc).2.2.2.1
  have e := (hp.2.2.2 c hc).2.1
  rw [I_lt0 p3 p4]
  refine ⟨fun q => k0 (fun c k e1 e2 e3 e4 => by omega), fun q => ⟨c, rfl, by omega, p c, hp.2.1 c (by omega), lay_pm (Or.inl rfl) hp.1 (by omega), ?_⟩⟩
  rw [e]
  simp (disch := omega) only [I_le]
  refine ⟨fun q2 => k0 (fun c' k e1 e2 e3 e4 => ?_), fun q2 => k1 c z2.toNat rfl (by omega) hc ?_⟩
  · obtain rfl : c = c' := by omega
    have e4 : k < (s.2.1.2 c).2.2.1 := e4
    omega
  · show z2.toNat < (s.2.1.2 c).2.2.1
    omega
theorem wp_isCoatM {h : AH} {Q : Int32 → AH → Prop} (v : vS s) (R : RM s h) {z1 z2 : Int} (h1 : inr z1) (h2 : inr z2) (k1 : ∀ c k : Nat, z1 = c → z2 = k → c < s.2.1.1 → k < szP (pE s) c → Q (I 1) h) (k0 : (∀ c k : Nat, z1 = c → z2 = k → c < s.2.1.1 → k < szP (pE s) c → False) → Q (I 0) h) : SpI g l mX8_isCoat h [.ref 82, .int (I z1), .int (I z2)] Q := by
  have h4 := v.2.1.1
  refine sX8_isCoat (wp_isChipAt v R h1 (fun a1 a2 => br_f n10 ?_) (fun a1 => br_t y00 (k0 (fun c k e1 e2 e3 e4 => by omega))))
  obtain ⟨c, rfl⟩ : ∃ n : Nat, z1 = n := ⟨z1.toNat, by omega⟩
  have hc : c < s.2.1.1 := by omega
  have sz : szP (pE s) c ≤ 10 := (v.2.1.2 c hc).2.2.2.1
  refine ⟨c, rfl, by omega, ?_⟩
  rw [msz R hc, I_sub]
  refine wp_in h2 ⟨by omega, by omega⟩ ⟨by omega, by omega⟩ (fun q1 q2 => br_f n10 (k1 c z2.toNat rfl (by omega) hc (by omega))) (fun q => br_t y00 (k0 (fun c' k e1 e2 e3 e4 => ?_)))
  obtain rfl : c = c' := by omega
  omega
theorem J_laid {h : AH} (hI : Inv h) (x1 x2 x3 : Int32) : JI g l mX7_laid mX8_laid h [.ref 0, .int x1, .int x2, .int x3] [.ref 82, .int x1, .int x2, .int x3] := by
  have hI2 := hI
  obtain ⟨s, v, R, M⟩ := hI
  have h4 := v.2.1.1
  obtain ⟨z1, a1, a2, rfl⟩ := I_any x1
  obtain ⟨z2, b1, b2, rfl⟩ := I_any x2
  obtain ⟨z3, c1, c2, rfl⟩ := I_any x3
  refine sX7_laid (wp_areTwoC v R ⟨a1, a2⟩ ⟨b1, b2⟩ (fun a b e1 e2 ha hb hab => br_f n10 ?_) (fun no => br_t y00 ?_))
  · subst e1
    subst e2
    refine wp_isCoatC v R ⟨a1, a2⟩ ⟨c1, c2⟩ (fun a' c e1 e2 _ hc => nb_t n10 ?_) (fun no => nb_f y00 ?_)
    · obtain rfl : a = a' := by omega
      subst e2
      refine wp_lay v R ha hb (fun h1 x1 x2 d1 d2 d3 => wp_beside v ha hb d2 d3 hc ?_)
      have M1 : RM s h1 := RM_c (d1.up (fun a k q => by unfold scM; omega) (fun _ _ q => q)) M
      refine wp_mlaid v M1 ha hb hab hc (fun h2 f1 => ⟨rfl, ?_⟩)
      exact Inv_sc v R M ((d1.up (P2 := fun a _ => (22 ≤ a ∧ a ≤ 24) ∨ a = 108) (R2 := fun a _ => a = 23) (fun a k q => by omega) (fun _ _ q => q)).tr (f1.up (fun a k q => by omega) (fun _ _ q => q.elim))) (fun a k q => by unfold scC; omega) (fun a k q => by unfold scM; omega) (fun a k q => by unfold srC'; omega)
    · refine sX8_laid (fun X O => wp_areTwoM v M ⟨a1, a2⟩ ⟨b1, b2⟩ (fun a' b' e1 e2 _ _ _ => br_f n10 ⟨a, rfl, by omega, ?_⟩) (fun no => absurd (by omega) no))
      have sz : szP (pE s) a ≤ 10 := (v.2.1.2 a ha).2.2.2.1
      rw [msz M ha, I_sub]
      exact wp_in ⟨c1, c2⟩ ⟨by omega, by omega⟩ ⟨by omega, by omega⟩ (fun q1 q2 => absurd (no a z3.toNat rfl (by omega) ha (by omega)) id) (fun _ => nb_f y00 ⟨rfl, hI2⟩)
  · exact sX8_laid (fun X O => wp_areTwoM v M ⟨a1, a2⟩ ⟨b1, b2⟩ (fun a b e1 e2 e3 e4 e5 => absurd (by omega) no) (fun _ => br_t y00 ⟨rfl, hI2⟩))
end IC
