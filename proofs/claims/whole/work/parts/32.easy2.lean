section EZ2
variable {g : mg} {l : Launch} {h : AH}
theorem lay_pm {z : Nat} {p : Nat → Nat} (hz : z = 6 ∨ z = 54 ∨ z = 68) (hp : perm z p) {c : Nat} (hc : c < 4) : lay (p c) = (1, 5) := by
  rcases hp.1 c hc with e | e | e | e <;> rcases hz with rfl | rfl | rfl <;> (rw [e]; rfl)
theorem J_about (hI : Inv h) (x1 x2 : Int32) : JI g l mX7_about mX8_about h [.ref 0, .int x1, .int x2] [.ref 82, .int x1, .int x2] := by
  have hI2 := hI
  obtain ⟨s, v, R, M⟩ := hI
  obtain ⟨z1, a1, a2, rfl⟩ := I_any x1
  obtain ⟨z2, b1, b2, rfl⟩ := I_any x2
  obtain ⟨p, hp⟩ := R.1.2.1
  have h4 := v.2.1.1
  refine sX7_about (wp_isChip v R ⟨a1, a2⟩ (fun c1 c2 => nb_t (by decide) ?_) (fun c1 => nb_f (by decide) ?_))
  · obtain ⟨n, rfl⟩ : ∃ n : Nat, z1 = n := ⟨z1.toNat, by omega⟩
    have hn : n < s.2.1.1 := by omega
    have hc := hp.2.2.2 n hn
    have hm := M.1.2.1.2 n hn
    simp only [Nat.mul_zero, Nat.zero_add] at hm
    have vc := v.2.1.2 n hn
    have key : ∀ u : Int32, (z2 = 0 → u = h.1 84 n) → (z2 = 1 → u = h.1 85 n) → (z2 = 2 → u = h.1 86 n) → (z2 < 0 ∨ 2 < z2 → u = I (-1)) → SpI g l mX8_about h [.ref 82, .int (I (n : Int)), .int (I z2)] (fun u1 h2 => u1 = u ∧ Inv h2) := by
      intro u u0 u1 u2 u3
      refine sX8_about (wp_isChipAt v M ⟨a1, a2⟩ (fun _ _ => br_f (by decide) ?_) (fun _ => by omega))
      refine wp_in ⟨b1, b2⟩ ⟨by omega, by omega⟩ ⟨by omega, by omega⟩ (fun _ _ => nb_t (by decide) ?_) (fun q => nb_f (by decide) ⟨(u3 q).symm, hI2⟩)
      simp (disch := omega) only [I_z, I_eq]
      exact ⟨fun q => ⟨fun q2 => ⟨n, rfl, by omega, (u2 (by omega)).symm, hI2⟩, fun q2 => ⟨n, rfl, by omega, (u1 q2).symm, hI2⟩⟩, fun q => ⟨n, rfl, by omega, (u0 q).symm, hI2⟩⟩
    refine ⟨n, rfl, by omega, p n, hp.2.1 n (by omega), lay_pm (Or.inl rfl) hp.1 (by omega), ?_⟩
    rw [hc.1, hc.2.1, hc.2.2.1]
    have vc2 := vc.2.1
    simp (disch := omega) only [I_z, I_eq]
    refine ⟨fun q => ?_, fun q => ⟨fun q2 => ?_, fun q2 => ?_⟩, fun q => ?_, fun q => ?_⟩
    · exact key _ (fun _ => hm.1.symm) (fun _ => by omega) (fun _ => by omega) (fun _ => by omega)
    · exact key _ (fun _ => by omega) (fun _ => by rw [hm.2.1, q2]) (fun _ => by omega) (fun _ => by omega)
    · have := vc.2.1
      exact key _ (fun _ => by omega) (fun _ => by rw [hm.2.1]; congr 1; omega) (fun _ => by omega) (fun _ => by omega)
    · exact key _ (fun _ => by omega) (fun _ => by omega) (fun _ => hm.2.2.1.symm) (fun _ => by omega)
    · have q0 := q 0 (by omega)
      have q1 := q 1 (by omega)
      have q2 := q 2 (by omega)
      exact key _ (fun e => absurd (by rw [e]; rfl) q0) (fun e => absurd (by rw [e]; rfl) q1) (fun e => absurd (by rw [e]; rfl) q2) (fun _ => rfl)
  · exact sX8_about (wp_isChipAt v M ⟨a1, a2⟩ (fun _ _ => by omega) (fun _ => br_t (by decide) ⟨rfl, hI2⟩))
theorem J_bill (hI : Inv h) (x1 x2 : Int32) : JI g l mX7_bill mX8_bill h [.ref 0, .int x1, .int x2] [.ref 82, .int x1, .int x2] := by
  have hI2 := hI
  obtain ⟨s, v, R, M⟩ := hI
  obtain ⟨z1, a1, a2, rfl⟩ := I_any x1
  obtain ⟨z2, b1, b2, rfl⟩ := I_any x2
  obtain ⟨b, b', hb⟩ := R.1.2.2.1
  have lb := lay_bk hb.1
  have hk := hb.2.2.2
  have hm := M.1.2.2.1
  have h8 := v.2.2.1.2.1
  have out : (z1 < 0 ∨ (s.2.2.1.2.2.2.1 : Int) ≤ z1) → SpI g l mX8_bill h [.ref 82, .int (I z1), .int (I z2)] (fun u h2 => u = I (-1) ∧ Inv h2) := by
    intro c
    refine sX8_bill ?_
    rw [hm.2.1, I_sub]
    exact wp_in ⟨a1, a2⟩ ⟨by omega, by omega⟩ ⟨by omega, by omega⟩ (fun _ _ => by omega) (fun _ => br_t (by decide) ⟨rfl, hI2⟩)
  have inn : ∀ n : Nat, z1 = n → n < s.2.2.1.2.2.2.1 → ∀ u : Int32, (z2 = 0 → u = h.1 94 n) → (z2 = 1 → u = h.1 95 n) → (z2 < 0 ∨ 1 < z2 → u = I (-1)) → SpI g l mX8_bill h [.ref 82, .int (I z1), .int (I z2)] (fun u1 h2 => u1 = u ∧ Inv h2) := by
    intro n e hn u u0 u1 u3
    subst e
    refine sX8_bill ?_
    rw [hm.2.1, I_sub]
    refine wp_in ⟨a1, a2⟩ ⟨by omega, by omega⟩ ⟨by omega, by omega⟩ (fun _ _ => br_f (by decide) ?_) (fun _ => by omega)
    refine wp_in ⟨b1, b2⟩ ⟨by omega, by omega⟩ ⟨by omega, by omega⟩ (fun _ _ => nb_t (by decide) ?_) (fun q => nb_f (by decide) ⟨(u3 q).symm, hI2⟩)
    simp (disch := omega) only [I_z, I_eq]
    exact ⟨fun q => ⟨n, rfl, by omega, (u1 (by omega)).symm, hI2⟩, fun q => ⟨n, rfl, by omega, (u0 q).symm, hI2⟩⟩
  refine sX7_bill ?_
  simp (disch := omega) only [I_z, I_lt, I_eq]
  refine ⟨fun q => out (Or.inl q), fun q => ⟨b, hb.2.1, lb, ?_⟩⟩
  rw [hk.2.1]
  simp (disch := omega) only [I_z, I_lt]
  refine ⟨fun q2 => ?_, fun q2 => out (Or.inr (by omega))⟩
  obtain ⟨n, rfl⟩ : ∃ n : Nat, z1 = n := ⟨z1.toNat, by omega⟩
  have hn : n < s.2.2.1.2.2.2.1 := by omega
  have e := hk.2.2 n hn
  have f := hm.2.2 n hn
  refine ⟨fun q3 => ⟨b, hb.2.1, lb, n, rfl, by omega, inn n rfl hn _ (fun _ => by rw [e.1, f.1]) (fun _ => by omega) (fun _ => by omega)⟩, fun q3 => ⟨b, hb.2.1, lb, n, rfl, by omega, inn n rfl hn _ (fun _ => by omega) (fun _ => by rw [e.2, f.2]) (fun _ => by omega)⟩, fun q3 q4 => inn n rfl hn _ (fun _ => by omega) (fun _ => by omega) (fun _ => rfl)⟩
theorem J_clear (hI : Inv h) : JI g l mX7_clear mX8_clear h [.ref 0] [.ref 82] := by
  obtain ⟨s, v, R, M⟩ := hI
  refine sX7_clear (sX8_clear ⟨?_, ((0, s.1.2), s.2), ?_, ?_, ?_⟩)
  · rw [sI_o (by omega), M.1.1.1, R.1.1.1]
  · exact ⟨⟨by show (0 : Nat) ≤ 400; omega, v.1.2⟩, v.2⟩
  · have e1 : Chg (fun a k => (a = 1 ∧ k = 1) ∨ a = 82) nR h (sI (sI h 1 1 (I 0)) 82 1 (I 0)) := (Chg.rf.i (Or.inl ⟨rfl, rfl⟩)).i (Or.inr rfl)
    obtain ⟨⟨t, ⟨p, c⟩, ⟨b, b', bb⟩, u, i, tr⟩, ca⟩ := R
    exact ⟨⟨⟨by rw [sI_o (by omega), sI_1, up_s]; rfl, fun i hi => absurd hi (by show ¬ i < 0; omega)⟩, ⟨p, atSH_c e1 v.2.1.1 (fun a k h1 h2 => by omega) (fun k => id) c⟩, ⟨b, b', rcB_c e1 (fun a k h1 h2 => by omega) (fun k => id) bb⟩, fun j hj => by rw [e1.1 _ _ (by omega)]; exact u j hj, rcI_c (s := s) e1 v (fun a k h1 h2 => by omega) (fun a k hh => id) i, tr⟩, rcC_c e1 (by omega) (by omega) (fun a k h1 h2 => by omega) ca⟩
  · have e1 : Chg (fun a k => a = 1 ∨ (a = 82 ∧ k = 1)) nR h (sI (sI h 1 1 (I 0)) 82 1 (I 0)) := (Chg.rf.i (Or.inl rfl)).i (Or.inr ⟨rfl, rfl⟩)
    obtain ⟨⟨t, c, b, u, i, tr⟩, ca⟩ := M
    exact RM_of ⟨by rw [sI_1, up_s]; rfl, fun i hi => absurd hi (by show ¬ i < 0; omega)⟩ (rmCh_c (s := s) e1 (by omega) (fun a k h1 h2 => by omega) c) (rmB_c (s := s) e1 (by omega) (fun a k h1 h2 => by omega) b) (fun j hj => by rw [e1.1 _ _ (by omega)]; exact u j hj) (rmI_c (s := s) e1 (fun a k h1 h2 => by omega) i) tr (rmC_c (s := s) e1 (by omega) (by omega) (by omega) (fun a k h1 h2 => by omega) ca)
end EZ2
