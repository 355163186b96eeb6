/-! the easy calls -/
theorem nb_t {c A B : Prop} (h : ¬ c) (a : A) : (¬ c → A) ∧ (c → B) := ⟨fun _ => a, fun q => absurd q h⟩
theorem nb_f {c A B : Prop} (h : c) (b : B) : (¬ c → A) ∧ (c → B) := ⟨fun q => absurd h q, fun _ => b⟩
def inr (z : Int) : Prop := -2147483648 ≤ z ∧ z < 2147483648
section EZ
variable {g : mg} {l : Launch} {h : AH}
theorem wp_in {Q : Int32 → AH → Prop} {z a b : Int} (hz : inr z) (ha : inr a) (hb : inr b) (k1 : a ≤ z → z ≤ b → Q (I 1) h) (k0 : z < a ∨ b < z → Q (I 0) h) : SpI g l mX8_in h [.int (I z), .int (I a), .int (I b)] Q := by
  obtain ⟨z1, z2⟩ := hz
  obtain ⟨a1, a2⟩ := ha
  obtain ⟨b1, b2⟩ := hb
  refine sX8_in ?_
  simp (disch := omega) only [I_lt]
  exact ⟨fun q => k0 (Or.inl q), fun q => ⟨fun q2 => k0 (Or.inr q2), fun q2 => k1 (by omega) (by omega)⟩⟩
theorem wp_isChipAt {s : ST} {Q : Int32 → AH → Prop} {z : Int} (v : vS s) (R : RM s h) (hz : inr z) (k1 : 0 ≤ z → z < s.2.1.1 → Q (I 1) h) (k0 : z < 0 ∨ (s.2.1.1 : Int) ≤ z → Q (I 0) h) : SpI g l mX8_isChipAt h [.ref 82, .int (I z)] Q := by
  have h4 := v.2.1.1
  refine sX8_isChipAt ?_
  rw [R.1.2.1.1, I_sub]
  refine wp_in hz ⟨by omega, by omega⟩ ⟨by omega, by omega⟩ (fun a b => ⟨by decide, k1 a (by omega)⟩) (fun a => ⟨by decide, k0 (by omega)⟩)
theorem wp_isChip {s : ST} {Q : Int32 → AH → Prop} {z : Int} (v : vS s) (R : RC s h) (hz : inr z) (k1 : 0 ≤ z → z < s.2.1.1 → Q (I 1) h) (k0 : z < 0 ∨ (s.2.1.1 : Int) ≤ z → Q (I 0) h) : SpI g l mX7_isChip h [.ref 0, .int (I z)] Q := by
  have h4 := v.2.1.1
  obtain ⟨z1, z2⟩ := hz
  obtain ⟨p, hp⟩ := R.1.2.1
  refine sX7_isChip ?_
  rw [hp.2.2.1]
  simp (disch := omega) only [I_lt, I_le, I_z]
  exact ⟨fun q => k0 (Or.inl q), fun q => ⟨fun q2 => k0 (Or.inr q2), fun q2 => k1 (by omega) (by omega)⟩⟩
theorem lay_bk {b b' : Nat} (h : (b = 42 ∧ b' = 48) ∨ (b = 48 ∧ b' = 42)) : lay b = (0, 7) := by
  rcases h with ⟨rfl, -⟩ | ⟨rfl, -⟩ <;> rfl
theorem J_trace (hI : Inv h) : JL g l mX7_trace mX8_trace h [.ref 0] [.ref 82] := by
  have hI2 := hI
  obtain ⟨s, v, R, M⟩ := hI
  refine sX7_trace (sX8_trace ⟨?_, hI2⟩)
  rw [R.1.2.2.2.2.2, M.1.2.2.2.2.2]
theorem J_colour (hI : Inv h) (x1 x2 : Int32) : JI g l mX7_colour mX8_colour h [.ref 0, .int x1, .int x2] [.ref 82, .int x1, .int x2] := by
  have hI2 := hI
  obtain ⟨s, v, R, M⟩ := hI
  obtain ⟨z1, a1, a2, rfl⟩ := I_any x1
  obtain ⟨z2, b1, b2, rfl⟩ := I_any x2
  obtain ⟨b, b', hb⟩ := R.1.2.2.1
  have lb := lay_bk hb.1
  have hk := hb.2.2.2.1
  have hm := M.1.2.2.1.1
  refine sX7_colour ?_
  simp (disch := omega) only [I_lt, I_le, I_z, I_eq]
  by_cases c : z1 < 0 ∨ 12 ≤ z1
  · have key : SpI g l mX8_colour h [.ref 82, .int (I z1), .int (I z2)] (fun u h2 => u = I (-1) ∧ Inv h2) := by
      refine sX8_colour (wp_in ⟨a1, a2⟩ ⟨by omega, by omega⟩ ⟨by omega, by omega⟩ (fun _ _ => by omega) (fun _ => ?_))
      exact br_t (by decide) ⟨rfl, hI2⟩
    exact ⟨fun _ => key, fun _ => ⟨fun _ => absurd c (by omega), fun _ => key⟩⟩
  · obtain ⟨n, rfl⟩ : ∃ n : Nat, z1 = n := ⟨z1.toNat, by omega⟩
    have hn : n < 12 := by omega
    have key : ∀ u : Int32, (z2 = 0 → u = h.1 91 n) → (z2 = 1 → u = h.1 92 n) → (z2 = 2 → u = h.1 93 n) → (z2 < 0 ∨ 2 < z2 → u = I (-1)) → SpI g l mX8_colour h [.ref 82, .int (I (n : Int)), .int (I z2)] (fun u1 h2 => u1 = u ∧ Inv h2) := by
      intro u u0 u1 u2 u3
      refine sX8_colour (wp_in ⟨a1, a2⟩ ⟨by omega, by omega⟩ ⟨by omega, by omega⟩ (fun _ _ => ?_) (fun _ => by omega))
      refine br_f (by decide) (wp_in ⟨b1, b2⟩ ⟨by omega, by omega⟩ ⟨by omega, by omega⟩ (fun _ _ => nb_t (by decide) ?_) (fun q => nb_f (by decide) ⟨(u3 q).symm, hI2⟩))
      simp (disch := omega) only [I_z, I_eq]
      exact ⟨fun q => ⟨fun q2 => ⟨n, rfl, hn, (u2 (by omega)).symm, hI2⟩, fun q2 => ⟨n, rfl, hn, (u1 q2).symm, hI2⟩⟩, fun q => ⟨n, rfl, hn, (u0 q).symm, hI2⟩⟩
    have e := hk n hn
    have f := hm n hn
    refine ⟨fun q => absurd q (by omega), fun _ => ⟨fun _ => ⟨fun q => ?_, fun q => ?_, fun q => ?_, fun q => ?_⟩, fun q => absurd q (by omega)⟩⟩
    · exact ⟨b, hb.2.1, lb, n, rfl, hn, key _ (fun _ => by rw [e.1, f.1]) (fun _ => by omega) (fun _ => by omega) (fun _ => by omega)⟩
    · exact ⟨b, hb.2.1, lb, n, rfl, hn, key _ (fun _ => by omega) (fun _ => by rw [e.2.1, f.2.1]) (fun _ => by omega) (fun _ => by omega)⟩
    · exact ⟨b, hb.2.1, lb, n, rfl, hn, key _ (fun _ => by omega) (fun _ => by omega) (fun _ => by rw [e.2.2, f.2.2]) (fun _ => by omega)⟩
    · have q0 := q 0 (by omega)
      have q1 := q 1 (by omega)
      have q2 := q 2 (by omega)
      exact key _ (fun e => absurd (by rw [e]; rfl) q0) (fun e => absurd (by rw [e]; rfl) q1) (fun e => absurd (by rw [e]; rfl) q2) (fun _ => rfl)
end EZ
