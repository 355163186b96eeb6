section CO
variable {g : mg} {l : Launch} {h : AH}
/-- the coats of the first chips -/
def smz (cs : CS) : Nat → Nat
  | 0 => 0
  | c + 1 => smz cs c + (cs.2 c).2.2.1
theorem smz_le {cs : CS} (v : okCS cs) : ∀ c, c ≤ cs.1 → smz cs c ≤ 10 * c
  | 0, _ => Nat.le_refl _
  | c + 1, h => by
    have := smz_le v c (by omega)
    have := (v.2 c (by omega)).2.2.2.1
    show smz cs c + (cs.2 c).2.2.1 ≤ _
    omega
theorem lp_coats {X : XT} {Q : Int32 → AH → Prop} (O : Ok (FF g l X) RX4 cX4_coats 3 mX4_coats.2.2.2.2 (some .int)) {p : Nat → Nat} {cs : CS} (v : okCS cs) (R : atSH h 6 p cs) (k : Q (I (smz cs cs.1 : Int)) h) : ∀ m c : Nat, c + m = cs.1 → GI g l X Q h 4 [(0, .ref 6), (1, .int (I (smz cs c : Int))), (2, .int (I (c : Int)))] [] := by
  have h4 := v.1
  intro m
  induction m with
  | zero =>
    intro c hc
    refine bX4_coats_4 (x0 := 6) O rfl ?_
    rw [R.2.2.1]
    refine br_t ((I_le (by omega) (by omega) (by omega) (by omega)).mpr (by omega)) ?_
    rw [show c = cs.1 by omega]
    exact k
  | succ m ih =>
    intro c hc
    have := smz_le v c (by omega)
    refine bX4_coats_4 (x0 := 6) O rfl ?_
    rw [R.2.2.1]
    refine br_f (fun e => absurd ((I_le (by omega) (by omega) (by omega) (by omega)).mp e) (by omega)) ⟨c, rfl, by omega, p c, R.2.1 c (by omega), lay_pm (Or.inl rfl) R.1 (by omega), ?_⟩
    rw [(R.2.2.2 c (by omega)).2.1, I_add, I_add]
    exact ih (c + 1) (by omega)
theorem lp_mcount {X : XT} {Q : Int32 → AH → Prop} (O : Ok (FF g l X) RX8 cX8_count 4 mX8_count.2.2.2.2 (some .int)) {s : ST} (v : vS s) (M : RM s h) (z : Int) (hz : inr z) (k : (z = 0 → Q (h.1 82 6) h) ∧ (z = 1 → Q (I (smz s.2.1 s.2.1.1 : Int)) h) ∧ (z = 2 → Q (h.1 82 17) h) ∧ (¬ z = 0 → ¬ z = 1 → ¬ z = 2 → Q (h.1 82 1) h)) : ∀ m c : Nat, c + m = s.2.1.1 → GI g l X Q h 15 [(0, .ref 82), (1, .int (I z)), (2, .int (I (smz s.2.1 c : Int))), (3, .int (I (c : Int)))] [] := by
  have h4 := v.2.1.1
  obtain ⟨z1, z2⟩ := hz
  intro m
  induction m with
  | zero =>
    intro c hc
    refine bX8_count_15 O ?_
    rw [M.1.2.1.1]
    refine br_t ((I_le (by omega) (by omega) (by omega) (by omega)).mpr (by omega)) ?_
    rw [← M.1.2.1.1]
    simp (disch := omega) only [I_eq0, I_eq]
    rw [show c = s.2.1.1 by omega]
    exact ⟨fun n0 => ⟨fun n1 => ⟨fun n2 => k.2.2.2 n0 n1 n2, k.2.2.1⟩, k.2.1⟩, k.1⟩
  | succ m ih =>
    intro c hc
    have := smz_le v.2.1 c (by omega)
    have hm := M.1.2.1.2 c (by omega)
    simp only [Nat.mul_zero, Nat.zero_add] at hm
    refine bX8_count_15 O ?_
    rw [M.1.2.1.1]
    refine br_f (fun e => absurd ((I_le (by omega) (by omega) (by omega) (by omega)).mp e) (by omega)) ⟨c, rfl, by omega, ?_⟩
    rw [hm.2.2.1, I_add, I_add]
    exact ih (c + 1) (by omega)
theorem J_count (hI : Inv h) (x1 : Int32) : JI g l mX7_count mX8_count h [.ref 0, .int x1] [.ref 82, .int x1] := by
  have hI2 := hI
  obtain ⟨s, v, R, M⟩ := hI
  obtain ⟨z, a1, a2, rfl⟩ := I_any x1
  have h4 := v.1.1
  obtain ⟨p, hp⟩ := R.1.2.1
  obtain ⟨b, b', hb⟩ := R.1.2.2.1
  have key : ∀ u : Int32, (z = 0 → u = h.1 82 6) → (z = 1 → u = I (smz s.2.1 s.2.1.1 : Int)) → (z = 2 → u = h.1 82 17) → (z = 3 → u = h.1 82 1) → (z < 0 ∨ 3 < z → u = I (-1)) → SpI g l mX8_count h [.ref 82, .int (I z)] (fun u1 h2 => u1 = u ∧ Inv h2) := by
    intro u u0 u1 u2 u3 u4
    refine sX8_count (fun X O => wp_in ⟨a1, a2⟩ ⟨by omega, by omega⟩ ⟨by omega, by omega⟩ (fun _ _ => nb_t n10 ?_) (fun q => nb_f y00 ⟨(u4 q).symm, hI2⟩))
    exact lp_mcount O v M z ⟨a1, a2⟩ ⟨fun q => ⟨(u0 q).symm, hI2⟩, fun q => ⟨(u1 q).symm, hI2⟩, fun q => ⟨(u2 q).symm, hI2⟩, fun _ _ _ => ⟨(u3 (by omega)).symm, hI2⟩⟩ s.2.1.1 0 (by omega)
  refine sX7_count ?_
  simp (disch := omega) only [I_eq]
  refine ⟨fun q => ?_, fun q => ?_, fun q => ⟨b, hb.2.1, lay_bk hb.1, ?_⟩, fun q => ?_, fun q => ?_⟩
  · exact key _ (fun _ => by rw [hp.2.2.1, M.1.2.1.1]) (fun _ => by omega) (fun _ => by omega) (fun _ => by omega) (fun _ => by omega)
  · refine sX4_coats (x0 := 6) rfl (fun X O => lp_coats O v.2.1 hp ?_ s.2.1.1 0 (by omega))
    exact key _ (fun _ => by omega) (fun _ => rfl) (fun _ => by omega) (fun _ => by omega) (fun _ => by omega)
  · exact key _ (fun _ => by omega) (fun _ => by omega) (fun _ => by rw [hb.2.2.2.2.1, M.1.2.2.1.2.1]) (fun _ => by omega) (fun _ => by omega)
  · exact key _ (fun _ => by omega) (fun _ => by omega) (fun _ => by omega) (fun _ => by rw [R.1.1.1, M.1.1.1]) (fun _ => by omega)
  · have q0 := q 0 (by omega)
    have q1 := q 1 (by omega)
    have q2 := q 2 (by omega)
    have q3 := q 3 (by omega)
    exact key _ (fun e => absurd (by rw [e]; rfl) q0) (fun e => absurd (by rw [e]; rfl) q1) (fun e => absurd (by rw [e]; rfl) q2) (fun e => absurd (by rw [e]; rfl) q3) (fun _ => rfl)
end CO
