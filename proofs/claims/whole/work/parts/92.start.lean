/-! the start: what the two constructors leave -/
def Z0 : AH := (fun _ _ => 0, fun _ _ => 0, fun _ _ => none)
theorem zA_Z0 {n : Nat} : zA n Z0 := fun _ _ => ⟨fun _ => rfl, fun _ => rfl, fun _ => rfl⟩
def hS0 : AH := iX8_82 (iX7_0 Z0)
def tu0 (i : Nat) : Nat := [10, 1, 0, 2, 3].getD i 0
def ch0 : CH := (0, 0, 0, fun _ => 0, fun _ => 0)
def s00 : ST := ((0, fun _ => 0), (0, fun _ => ch0), bk0, tu0, (fun _ => none), 0)
theorem vS_00 : vS s00 := by
  refine ⟨⟨Nat.zero_le _, fun i => by show (0 : Nat) < 256; omega⟩, ⟨Nat.zero_le _, fun c hc => absurd hc (by show ¬ c < 0; omega)⟩, ⟨fun k _ => ⟨Nat.zero_le _, Nat.le_refl _, by show (0 : Nat) < 4096; omega⟩, Nat.zero_le _, fun i hi => absurd hi (by show ¬ i < 0; omega)⟩, by show (1 ≤ tu0 0 ∧ tu0 0 ≤ 50) ∧ tu0 1 ≤ 9 ∧ tu0 2 ≤ 1 ∧ tu0 3 ≤ 20 ∧ tu0 4 ≤ 9; decide, fun i cs h => by cases h⟩
theorem pm_6 (z : Nat) : perm z (fun c => z + 2 + 3 * c) := ⟨fun c hc => by show z + 2 + 3 * c = z + 2 ∨ z + 2 + 3 * c = z + 5 ∨ z + 2 + 3 * c = z + 8 ∨ z + 2 + 3 * c = z + 11; omega, fun c d _ _ e => by have e : z + 2 + 3 * c = z + 2 + 3 * d := e; omega⟩
theorem st_row6 : ∀ c, c < 4 → hS0.2.2 (6 + 1) c = some (6 + 2 + 3 * c) := by decide +kernel
theorem st_row54 : ∀ c, c < 4 → hS0.2.2 (54 + 1) c = some (54 + 2 + 3 * c) := by decide +kernel
theorem st_row68 : ∀ c, c < 4 → hS0.2.2 (68 + 1) c = some (68 + 2 + 3 * c) := by decide +kernel
theorem st_book : ∀ l, l < 12 → hS0.1 (42 + 1) l = I ((0 : Nat) : Int) ∧ hS0.1 (42 + 2) l = I ((999 : Nat) : Int) ∧ hS0.1 (42 + 3) l = I ((0 : Nat) : Int) := by decide +kernel
theorem st_mbook : ∀ l, l < 12 → hS0.1 91 l = I ((0 : Nat) : Int) ∧ hS0.1 92 l = I ((999 : Nat) : Int) ∧ hS0.1 93 l = I ((0 : Nat) : Int) := by decide +kernel
theorem st_tun : ∀ i, i < 5 → hS0.1 21 i = I (tu0 i : Int) := by decide +kernel
theorem st_mtun : ∀ i, i < 5 → hS0.1 101 i = I (tu0 i : Int) := by decide +kernel
theorem st_img : hS0.2.2 20 0 = some 54 ∧ hS0.2.2 20 1 = some 68 ∧ hS0.1 54 2 = I 0 ∧ hS0.1 68 2 = I 0 := by decide +kernel
theorem st_one : hS0.1 1 1 = I 0 ∧ hS0.1 6 1 = I 0 ∧ hS0.2.2 0 8 = some 42 ∧ hS0.2.2 0 9 = some 48 ∧ hS0.1 42 5 = I 0 ∧ hS0.1 0 10 = I 0 ∧ hS0.2.1 0 11 = 0 := by decide +kernel
theorem st_two : hS0.1 82 1 = I 0 ∧ hS0.1 82 6 = I 0 ∧ hS0.1 82 17 = I 0 ∧ hS0.1 82 41 = I 0 ∧ hS0.2.1 82 32 = 0 ∧ hS0.1 102 0 = I (-1) ∧ hS0.1 102 1 = I (-1) := by decide +kernel
theorem Inv_00 : Inv hS0 := by
  obtain ⟨o1, o2, o3, o4, o5, o6, o7⟩ := st_one
  obtain ⟨t1, t2, t3, t4, t5, t6, t7⟩ := st_two
  obtain ⟨i1, i2, i3, i4⟩ := st_img
  refine ⟨s00, vS_00, ⟨⟨⟨o1, fun i hi => absurd hi (by show ¬ i < 0; omega)⟩, ⟨_, pm_6 6, st_row6, o2, fun c hc => absurd hc (by show ¬ c < 0; omega)⟩, ⟨42, 48, Or.inl ⟨rfl, rfl⟩, o3, o4, st_book, o5, fun i hi => absurd hi (by show ¬ i < 0; omega)⟩, st_tun, fun i hi => ?_, o7⟩, Or.inl o6⟩, ⟨⟨⟨t1, fun i hi => absurd hi (by show ¬ i < 0; omega)⟩, ⟨t2, fun c hc => absurd hc (by show ¬ c < 0; omega)⟩, ⟨st_mbook, t3, fun i hi => absurd hi (by show ¬ i < 0; omega)⟩, st_mtun, fun i hi => ?_, t5⟩, Or.inl t4⟩⟩
  · rcases (show i = 0 ∨ i = 1 by omega) with rfl | rfl
    · exact ⟨i1, i3, _, pm_6 54, st_row54⟩
    · exact ⟨i2, i4, _, pm_6 68, st_row68⟩
  · rcases (show i = 0 ∨ i = 1 by omega) with rfl | rfl
    · exact t6
    · exact t7
/-- fixed references are as told -/
def fixOk (a k : Nat) : Bool := match SR a k with
  | none => true
  | some b => hS0.2.2 a k == some b
theorem fix_all : (List.range 118).all (fun a => (List.range 51).all (fun k => fixOk a k)) = true := by decide +kernel
theorem lay_51 : (List.range 118).all (fun a => decide ((lay a).1 < 100 → (lay a).2 ≤ 51)) = true := by decide +kernel
theorem fix_at {a k b : Nat} (ha : a < 118) (hc : (lay a).1 < 100) (hk : k < (lay a).2) (e : SR a k = some b) : hS0.2.2 a k = some b := by
  have h1 := List.all_eq_true.mp lay_51 a (List.mem_range.mpr ha)
  have h1 : (lay a).1 < 100 → (lay a).2 ≤ 51 := of_decide_eq_true h1
  have h2 := List.all_eq_true.mp (List.all_eq_true.mp fix_all a (List.mem_range.mpr ha)) k (List.mem_range.mpr (by have := h1 hc; omega))
  unfold fixOk at h2
  rw [e] at h2
  simpa using h2
theorem wd_fix {g : mg} {H : Heap} (hw : wd (mG0 g) 118 hS0 H) : wd (mG g) 118 hS0 H := by
  have e : wl (mG g) 118 hS0 = wl (mG0 g) 118 hS0 := by
    unfold wl
    apply List.map_congr_left
    intro a ha
    have ha := List.mem_range.mp ha
    have : ce (mG g) hS0 a = ce (mG0 g) hS0 a := by
      unfold ce
      by_cases hc : (lay a).1 < 100
      · rw [if_pos hc, if_pos hc]
        have : fvs (mG g) hS0 a (lay a).1 (lay a).2 = fvs (mG0 g) hS0 a (lay a).1 (lay a).2 := by
          unfold fvs
          apply List.map_congr_left
          intro k hk
          have hk := List.mem_range.mp hk
          unfold fv
          split
          · rfl
          · split
            · rfl
            · show (match SR a k with | some b => Value.ref (g.2.1 b) | none => rv g.2.1 (hS0.2.2 a k)) = rv g.2.1 (hS0.2.2 a k)
              cases hs : SR a k with
              | none => rfl
              | some b => rw [fix_at ha hc hk hs]; rfl
        rw [this]
      · rw [if_neg hc, if_neg hc]
        rfl
    rw [this]
  exact ⟨by rw [e]; exact hw.1, hw.2.1, hw.2.2.1, Or.inr ⟨rfl, by decide +kernel, by decide +kernel, 31, by decide +kernel, Or.inl rfl⟩⟩
theorem g_fix {g : mg} {l : Launch} {X : XT} {Z : State → Prop} {cs ss pc : Nat} {lv : List (Nat × Value)} {st : List Value} (k : Gd (FF g l X) Z (118, cs, ss) hS0 pc lv st) : Gd (F0' g l X) Z (118, cs, ss) hS0 pc lv st := fun H locs ls hw hS hl => k H locs ls (wd_fix hw) hS hl
