/-! TWO ROWS LAID TOGETHER. Ly: sizes, which are the same, by how much dirt differs, miss, soil -/
abbrev LE : Type := Nat × Nat × (Nat → Nat → Bool) × (Nat → Nat → Nat) × Nat × Nat
def absD (a b : Nat) : Nat := if b ≤ a then a - b else b - a
def lyE (s : ST) (a b : Nat) : LE := (szP (pE s) a, szP (pE s) b, fun i j => smb (pE s) (coP (pE s) a i) (coP (pE s) b j), fun i j => absD (diP (pE s) a i) (diP (pE s) b j), s.2.2.2.1 0, s.2.2.2.1 1)
/-- coat i of the one beside coat e of the other, those from j on ahead of it missed -/
def cB (L : LE) (prev : Nat → Nat × Int64) (i j e : Nat) : Nat := L.2.2.2.2.1 * (e - j) + L.2.2.2.2.2 * L.2.2.2.1 i e + (prev (e + 1)).1
def stp (L : LE) (prev : Nat → Nat × Int64) (i j : Nat) : Nat → Nat × Int64
  | 0 => (L.2.2.2.2.1 + (prev j).1, (prev j).2)
  | t + 1 => if L.2.2.1 i (j + t) then (if cB L prev i j (j + t) < (stp L prev i j t).1 then (cB L prev i j (j + t), 0 + (prev (j + t + 1)).2) else if cB L prev i j (j + t) = (stp L prev i j t).1 then ((stp L prev i j t).1, (stp L prev i j t).2 + (prev (j + t + 1)).2) else stp L prev i j t) else stp L prev i j t
/-- the table's rows, by how many coats of the one are left -/
def lrow (L : LE) : Nat → (Nat → Nat × Int64)
  | 0 => fun j => (L.2.2.2.2.1 * (L.2.1 - j), 1)
  | a + 1 => fun j => stp L (lrow L a) (L.1 - (a + 1)) j (L.2.1 - j)
def ltab (L : LE) (i j : Nat) : Nat × Int64 := lrow L (L.1 - i) j
def okL (L : LE) : Prop := L.1 ≤ 10 ∧ L.2.1 ≤ 10 ∧ (∀ i j, i < L.1 → j < L.2.1 → L.2.2.2.1 i j ≤ 9) ∧ L.2.2.2.2.1 ≤ 50 ∧ L.2.2.2.2.2 ≤ 9
theorem stp_le (L : LE) (prev : Nat → Nat × Int64) (i j : Nat) : ∀ t, (stp L prev i j t).1 ≤ L.2.2.2.2.1 + (prev j).1
  | 0 => Nat.le_refl _
  | t + 1 => by
    have ih := stp_le L prev i j t
    unfold stp
    split
    · split
      · show cB L prev i j (j + t) ≤ _
        omega
      · split
        · exact ih
        · exact ih
    · exact ih
theorem lrow_le (L : LE) : ∀ a j, (lrow L a j).1 ≤ L.2.2.2.2.1 * (a + L.2.1)
  | 0, j => by
    show L.2.2.2.2.1 * (L.2.1 - j) ≤ _
    exact Nat.mul_le_mul_left _ (by omega)
  | a + 1, j => by
    have ih := lrow_le L a j
    have := stp_le L (lrow L a) (L.1 - (a + 1)) j (L.2.1 - j)
    show (stp L (lrow L a) (L.1 - (a + 1)) j (L.2.1 - j)).1 ≤ _
    rw [show L.2.2.2.2.1 * (a + 1 + L.2.1) = L.2.2.2.2.1 + L.2.2.2.2.1 * (a + L.2.1) by rw [show a + 1 + L.2.1 = (a + L.2.1) + 1 by omega, Nat.mul_succ]; omega]
    omega
theorem lrow_1000 {L : LE} (v : okL L) {a j : Nat} (ha : a ≤ 10) : (lrow L a j).1 ≤ 1000 := by
  have := lrow_le L a j
  obtain ⟨v1, v2, v3, v4, v5⟩ := v
  exact Nat.le_trans this (Nat.le_trans (Nat.mul_le_mul v4 (show a + L.2.1 ≤ 20 by omega)) (by omega))
theorem cB_le {L : LE} (v : okL L) {prev : Nat → Nat × Int64} {i j e : Nat} (hp : (prev (e + 1)).1 ≤ 1000) (hi : i < L.1) (he : e < L.2.1) : L.2.2.2.2.1 * (e - j) ≤ 500 ∧ L.2.2.2.2.2 * L.2.2.2.1 i e ≤ 81 ∧ cB L prev i j e ≤ 1581 := by
  obtain ⟨v1, v2, v3, v4, v5⟩ := v
  have h1 : L.2.2.2.2.1 * (e - j) ≤ 50 * 10 := Nat.mul_le_mul v4 (by omega)
  have h2 : L.2.2.2.2.2 * L.2.2.2.1 i e ≤ 9 * 9 := Nat.mul_le_mul v5 (v3 i e hi he)
  refine ⟨h1, h2, ?_⟩
  unfold cB
  omega
/-- the table, from row i0 on and in row i0 - 1 from j0 on -/
def tabC (h : AH) (L : LE) (i j : Nat) : Prop := h.1 24 (11 * i + j) = I ((ltab L i j).1 : Int) ∧ h.2.1 25 (11 * i + j) = (ltab L i j).2
def tabM (h : AH) (L : LE) (i j : Nat) : Prop := h.1 108 (11 * i + j) = I ((ltab L i j).1 : Int) ∧ h.2.1 109 (11 * i + j) = (ltab L i j).2
theorem ltab_0 (L : LE) (j : Nat) : ltab L L.1 j = (L.2.2.2.2.1 * (L.2.1 - j), 1) := by
  unfold ltab
  rw [Nat.sub_self]
  rfl
theorem ltab_s (L : LE) {i : Nat} (hi : i < L.1) (j : Nat) : ltab L i j = stp L (ltab L (i + 1)) i j (L.2.1 - j) := by
  unfold ltab
  rw [show L.1 - i = (L.1 - (i + 1)) + 1 by omega]
  show stp L (lrow L (L.1 - (i + 1))) (L.1 - (L.1 - (i + 1) + 1)) j (L.2.1 - j) = _
  rw [show L.1 - (L.1 - (i + 1) + 1) = i by omega]
