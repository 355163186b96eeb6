theorem I_lt0 {a : Int} (h1 : -2147483648 ≤ a) (h2 : a < 2147483648) : I a < 0 ↔ a < 0 := by rw [I_z, I_lt h1 h2 (by omega) (by omega)]
theorem I_ge0 {a : Int} (h1 : -2147483648 ≤ a) (h2 : a < 2147483648) : 0 ≤ I a ↔ 0 ≤ a := by rw [I_z, I_le (by omega) (by omega) h1 h2]
theorem I_gt0 {a : Int} (h1 : -2147483648 ≤ a) (h2 : a < 2147483648) : 0 < I a ↔ 0 < a := by rw [I_z, I_lt (by omega) (by omega) h1 h2]
theorem I_le0 {a : Int} (h1 : -2147483648 ≤ a) (h2 : a < 2147483648) : I a ≤ 0 ↔ a ≤ 0 := by rw [I_z, I_le h1 h2 (by omega) (by omega)]
theorem I_eq0 {a : Int} (h1 : -2147483648 ≤ a) (h2 : a < 2147483648) : I a = 0 ↔ a = 0 := by rw [I_z, I_eq h1 h2 (by omega) (by omega)]
theorem n10 : ¬ I 1 = 0 := by decide
theorem y00 : I 0 = 0 := by decide
def loZ (j : Nat) : Int := ([1, 0, 0, 0, 0] : List Int).getD j 0
def hiZ (j : Nat) : Int := ([50, 9, 1, 20, 9] : List Int).getD j 0
theorem tu_lh {j : Nat} (hj : j < 5) : tuLo.getD j 0 = I (loZ j) ∧ tuHi.getD j 0 = I (hiZ j) ∧ 0 ≤ loZ j ∧ loZ j ≤ 1 ∧ 1 ≤ hiZ j ∧ hiZ j ≤ 50 := by
  rcases (show j = 0 ∨ j = 1 ∨ j = 2 ∨ j = 3 ∨ j = 4 by omega) with rfl | rfl | rfl | rfl | rfl <;> decide
section TU
variable {g : mg} {l : Launch} {h : AH}
theorem wp_mtune {Q : Int32 → AH → Prop} {z1 z2 : Int} (hz1 : inr z1) (hz2 : inr z2) (ok : ∀ j : Nat, z1 = j → j < 5 → loZ j ≤ z2 → z2 ≤ hiZ j → Q (h.1 101 j) (sI (sI h 101 j (I z2)) 82 41 (I 0))) (bad : (¬ ∃ j : Nat, z1 = j ∧ j < 5 ∧ loZ j ≤ z2 ∧ z2 ≤ hiZ j) → Q (I (-1)) h) : SpI g l mX8_tune h [.ref 82, .int (I z1), .int (I z2)] Q := by
  obtain ⟨a1, a2⟩ := hz1
  have hz2' := hz2
  obtain ⟨b1, b2⟩ := hz2
  refine sX8_tune (fun X O => ?_)
  simp (disch := omega) only [I_eq0, I_eq]
  have k77 : (¬ ∃ j : Nat, z1 = j ∧ j < 5 ∧ loZ j ≤ z2 ∧ z2 ≤ hiZ j) → GI g l X Q h 77 [(0, .ref 82), (1, .int (I z1)), (2, .int (I z2))] [] := fun no => bX8_tune_77 O (nb_f y00 (bad no))
  refine ⟨fun n0 => ⟨fun n1 => ⟨fun n2 => ⟨fun n3 => ⟨fun n4 => k77 (fun ⟨j, e, e2, _⟩ => by omega), fun e => ?_⟩, fun e => ?_⟩, fun e => ?_⟩, fun e => ?_⟩, fun e => ?_⟩
  · subst e
    refine wp_in hz2' ⟨by omega, by omega⟩ ⟨by omega, by omega⟩ (fun p q => br_f n10 (nb_t (by decide) ⟨4, rfl, by omega, 4, rfl, by omega, ok 4 rfl (by omega) p q⟩)) (fun p => br_t y00 (k77 (fun ⟨j, e, _, e3, e4⟩ => by
      obtain rfl : j = 4 := by omega
      have e3 : (0 : Int) ≤ z2 := e3
      have e4 : z2 ≤ 9 := e4
      omega)))
  · subst e
    exact wp_in hz2' ⟨by omega, by omega⟩ ⟨by omega, by omega⟩ (fun p q => nb_t n10 ⟨3, rfl, by omega, 3, rfl, by omega, ok 3 rfl (by omega) p q⟩) (fun p => nb_f y00 (bad (fun ⟨j, e, _, e3, e4⟩ => by
      obtain rfl : j = 3 := by omega
      have e3 : (0 : Int) ≤ z2 := e3
      have e4 : z2 ≤ 20 := e4
      omega)))
  · subst e
    exact wp_in hz2' ⟨by omega, by omega⟩ ⟨by omega, by omega⟩ (fun p q => nb_t n10 ⟨2, rfl, by omega, 2, rfl, by omega, ok 2 rfl (by omega) p q⟩) (fun p => nb_f y00 (bad (fun ⟨j, e, _, e3, e4⟩ => by
      obtain rfl : j = 2 := by omega
      have e3 : (0 : Int) ≤ z2 := e3
      have e4 : z2 ≤ 1 := e4
      omega)))
  · subst e
    exact wp_in hz2' ⟨by omega, by omega⟩ ⟨by omega, by omega⟩ (fun p q => nb_t n10 ⟨1, rfl, by omega, 1, rfl, by omega, ok 1 rfl (by omega) p q⟩) (fun p => nb_f y00 (bad (fun ⟨j, e, _, e3, e4⟩ => by
      obtain rfl : j = 1 := by omega
      have e3 : (0 : Int) ≤ z2 := e3
      have e4 : z2 ≤ 9 := e4
      omega)))
  · subst e
    exact wp_in hz2' ⟨by omega, by omega⟩ ⟨by omega, by omega⟩ (fun p q => nb_t n10 ⟨0, rfl, by omega, 0, rfl, by omega, ok 0 rfl (by omega) p q⟩) (fun p => nb_f y00 (bad (fun ⟨j, e, _, e3, e4⟩ => by
      obtain rfl : j = 0 := by omega
      have e3 : (1 : Int) ≤ z2 := e3
      have e4 : z2 ≤ 50 := e4
      omega)))
theorem tu_up {t : Nat → Nat} {j n : Nat} (hj : j < 5) (v : okTU t) (h1 : loZ j ≤ n) (h2 : (n : Int) ≤ hiZ j) : okTU (up t j n) := by
  obtain ⟨v0, v1, v2, v3, v4⟩ := v
  rcases (show j = 0 ∨ j = 1 ∨ j = 2 ∨ j = 3 ∨ j = 4 by omega) with rfl | rfl | rfl | rfl | rfl <;> simp [okTU, up, loZ, hiZ] at * <;> omega
theorem J_tune (hI : Inv h) (x1 x2 : Int32) : JI g l mX7_tune mX8_tune h [.ref 0, .int x1, .int x2] [.ref 82, .int x1, .int x2] := by
  have hI2 := hI
  obtain ⟨s, v, R, M⟩ := hI
  obtain ⟨z1, a1, a2, rfl⟩ := I_any x1
  obtain ⟨z2, b1, b2, rfl⟩ := I_any x2
  have out : (¬ ∃ j : Nat, z1 = j ∧ j < 5 ∧ loZ j ≤ z2 ∧ z2 ≤ hiZ j) → SpI g l mX8_tune h [.ref 82, .int (I z1), .int (I z2)] (fun u h2 => u = I (-1) ∧ Inv h2) := fun no => wp_mtune ⟨a1, a2⟩ ⟨b1, b2⟩ (fun j e1 e2 e5 e6 => absurd ⟨j, e1, e2, e5, e6⟩ no) (fun _ => ⟨rfl, hI2⟩)
  refine sX7_tune ?_
  simp (disch := omega) only [I_lt0, I_le]
  refine ⟨fun q => out (fun ⟨j, e, _⟩ => by omega), fun q => ⟨fun q2 => out (fun ⟨j, e, _⟩ => by omega), fun q2 => ?_⟩⟩
  obtain ⟨j, rfl⟩ : ∃ n : Nat, z1 = n := ⟨z1.toNat, by omega⟩
  have hj : j < 5 := by omega
  obtain ⟨el, eh, l0, l1, h1, h50⟩ := tu_lh hj
  have out2 : ¬ (loZ j ≤ z2 ∧ z2 ≤ hiZ j) → SpI g l mX8_tune h [.ref 82, .int (I (j : Int)), .int (I z2)] (fun u h2 => u = I (-1) ∧ Inv h2) := fun no => out (fun ⟨j', e, e2, e3, e4⟩ => by
    obtain rfl : j = j' := by omega
    exact no ⟨e3, e4⟩)
  refine ⟨j, rfl, hj, ?_⟩
  rw [el]
  simp (disch := omega) only [I_lt]
  refine ⟨fun q3 => out2 (by omega), fun q3 => ⟨j, rfl, hj, ?_⟩⟩
  rw [eh]
  simp (disch := omega) only [I_le]
  refine ⟨fun q4 => ⟨j, rfl, hj, j, rfl, hj, ?_⟩, fun q4 => out2 (by omega)⟩
  obtain ⟨n, rfl⟩ : ∃ n : Nat, z2 = n := ⟨z2.toNat, by omega⟩
  have hold : h.1 21 j = I (s.2.2.2.1 j : Int) := R.1.2.2.2.1 j hj
  have tb : s.2.2.2.1 j ≤ 50 := by
    obtain ⟨v0, v1, v2, v3, v4⟩ := v.2.2.2.1
    rcases (show j = 0 ∨ j = 1 ∨ j = 2 ∨ j = 3 ∨ j = 4 by omega) with rfl | rfl | rfl | rfl | rfl <;> omega
  -- the state behind it
  have fin : ∀ h1 : AH, Chg (fun a k => (a = 21 ∧ k = j) ∨ (a = 0 ∧ k = 10)) nR h h1 → h1.1 21 j = I (n : Int) → (h1.1 0 10 = I 0 ∨ (h1.1 0 10 = h.1 0 10 ∧ (j = 2 → s.2.2.2.1 j = n))) → SpI g l mX8_tune h1 [.ref 82, .int (I (j : Int)), .int (I (n : Int))] (fun u h2 => u = h.1 21 j ∧ Inv h2) := by
    intro h1 e1 e2 e3
    refine wp_mtune ⟨a1, a2⟩ ⟨b1, b2⟩ (fun j' e5 _ _ _ => ?_) (fun no => absurd ⟨j, rfl, hj, by omega, q4⟩ no)
    · obtain rfl : j = j' := by omega
      refine ⟨by rw [e1.1 _ _ (by omega), M.1.2.2.2.1 j hj, hold], (s.1, s.2.1, s.2.2.1, up s.2.2.2.1 j n, s.2.2.2.2), ?_, ?_, ?_⟩
      · exact ⟨v.1, v.2.1, v.2.2.1, tu_up hj v.2.2.2.1 (by omega) (by omega), v.2.2.2.2⟩
      · have e6 : Chg (fun a k => (a = 21 ∧ k = j) ∨ (a = 0 ∧ k = 10) ∨ 82 ≤ a) nR h (sI (sI h1 101 j (I (n : Int))) 82 41 (I 0)) := ((e1.up (fun a k q => by omega) (fun _ _ q => q)).i (by omega)).i (by omega)
        obtain ⟨⟨t, ⟨p, c⟩, ⟨b, b', bb⟩, u, i, tr⟩, ca⟩ := R
        refine ⟨⟨rcT_c (s := s) e6 (by omega) (fun k => by omega) t, ⟨p, atSH_c e6 v.2.1.1 (fun a k h1 h2 => by omega) (fun k => id) c⟩, ⟨b, b', rcB_c (s := s) e6 (fun a k h1 h2 => by omega) (fun k => id) bb⟩, fun i hi => ?_, rcI_c (s := s) e6 v (fun a k h1 h2 => by omega) (fun a k hh => id) i, by rw [e6.2.2.1]; exact tr⟩, ?_⟩
        · show (sI (sI h1 101 j (I (n : Int))) 82 41 (I 0)).1 21 i = I ((up s.2.2.2.1 j n i : Nat) : Int)
          by_cases hij : i = j
          · subst hij
            rw [up_s, sI_o (by omega), sI_o (by omega), e2]
          · rw [up_n hij, e6.1 _ _ (by omega)]
            exact u i hi
        · have f0 : (sI (sI h1 101 j (I (n : Int))) 82 41 (I 0)).1 0 10 = h1.1 0 10 := by rw [sI_o (by omega), sI_o (by omega)]
          rcases e3 with e3 | ⟨e3, e4⟩
          · exact Or.inl (by rw [f0]; exact e3)
          · rcases ca with ca | ⟨ca, cb⟩
            · exact Or.inl (by rw [f0, e3]; exact ca)
            · refine Or.inr ⟨by rw [f0, e3]; exact ca, ?_⟩
              have : pE (s.1, s.2.1, s.2.2.1, up s.2.2.2.1 j n, s.2.2.2.2) = pE s := by
                show (s.2.1, s.2.2.1.2.2.1, up s.2.2.2.1 j n 2) = (s.2.1, s.2.2.1.2.2.1, s.2.2.2.1 2)
                by_cases h2 : j = 2
                · subst h2
                  rw [up_s, e4 rfl]
                · rw [up_n (by omega)]
              rw [this]
              exact pcE_c e6 (by omega) (fun a k h1 h2 => by omega) cb
      · have e7 : Chg (fun a k => a < 82 ∨ (a = 101 ∧ k = j) ∨ (a = 82 ∧ k = 41)) nR h (sI (sI h1 101 j (I (n : Int))) 82 41 (I 0)) := ((e1.up (fun a k q => by omega) (fun _ _ q => q)).i (by omega)).i (by omega)
        obtain ⟨⟨t, c, b, u, i, tr⟩, ca⟩ := M
        refine RM_of (rmT_c (s := s) e7 (by omega) (fun k => by omega) t) (rmCh_c (s := s) e7 (by omega) (fun a k h1 h2 => by omega) c) (rmB_c (s := s) e7 (by omega) (fun a k h1 h2 => by omega) b) (fun i hi => ?_) (rmI_c (s := s) e7 (fun a k h1 h2 => by omega) i) (by rw [e7.2.2.2]; exact tr) (Or.inl (by rw [sI_1, up_s]))
        show (sI (sI h1 101 j (I (n : Int))) 82 41 (I 0)).1 101 i = I ((up s.2.2.2.1 j n i : Nat) : Int)
        by_cases hij : i = j
        · subst hij
          rw [up_s, sI_o (by omega), sI_1, up_s]
        · rw [up_n hij, e7.1 _ _ (by omega)]
          exact u i hi
  have w1 : Chg (fun a k => (a = 21 ∧ k = j) ∨ (a = 0 ∧ k = 10)) nR h (sI h 21 j (I (n : Int))) := Chg.rf.i (Or.inl ⟨rfl, rfl⟩)
  rw [hold]
  simp (disch := omega) only [I_eq]
  rw [← hold]
  refine ⟨fun q5 => fin _ w1 (by rw [sI_1, up_s]) (Or.inr ⟨by rw [sI_o (by omega)], fun q6 => by omega⟩), fun q5 => ⟨fun q6 => fin _ w1 (by rw [sI_1, up_s]) (Or.inr ⟨by rw [sI_o (by omega)], fun _ => by omega⟩), fun q6 => fin _ (w1.i (Or.inr ⟨rfl, rfl⟩)) (by rw [sI_o (by omega), sI_1, up_s]) (Or.inl (by rw [sI_1, up_s]))⟩⟩
end TU
