/-! numbers -/
theorem I_add (a b : Int) : I a + I b = I (a + b) := by unfold I; exact (Int32.ofInt_add a b).symm
theorem I_neg (a : Int) : -I a = I (-a) := by unfold I; exact (Int32.ofInt_neg a).symm
theorem I_sub (a b : Int) : I a - I b = I (a - b) := by
  rw [Int32.sub_eq_add_neg, I_neg, I_add, Int.sub_eq_add_neg]
theorem I_mul (a b : Int) : I a * I b = I (a * b) := by unfold I; exact (Int32.ofInt_mul a b).symm
theorem I_le {a b : Int} (h1 : -2147483648 ≤ a) (h2 : a < 2147483648) (h3 : -2147483648 ≤ b) (h4 : b < 2147483648) : I a ≤ I b ↔ a ≤ b := by
  rw [Int32.le_iff_toInt_le, I_toInt h1 h2, I_toInt h3 h4]
theorem I_lt {a b : Int} (h1 : -2147483648 ≤ a) (h2 : a < 2147483648) (h3 : -2147483648 ≤ b) (h4 : b < 2147483648) : I a < I b ↔ a < b := by
  rw [Int32.lt_iff_toInt_lt, I_toInt h1 h2, I_toInt h3 h4]
theorem I_eq {a b : Int} (h1 : -2147483648 ≤ a) (h2 : a < 2147483648) (h3 : -2147483648 ≤ b) (h4 : b < 2147483648) : I a = I b ↔ a = b := by
  refine ⟨fun e => ?_, fun e => by rw [e]⟩
  have := congrArg Int32.toInt e
  rwa [I_toInt h1 h2, I_toInt h3 h4] at this
theorem I_z : (0 : Int32) = I 0 := by decide
theorem I_any (x : Int32) : ∃ z : Int, -2147483648 ≤ z ∧ z < 2147483648 ∧ x = I z := ⟨x.toInt, by have := x.le_toInt; simpa using this, by have := x.toInt_lt; simpa using this, I_of x⟩
theorem I_10 : (I 1 = 0) = False := by simp [show ¬ I 1 = 0 by decide]
theorem I_00 : (I 0 = 0) = True := by simp [show I 0 = 0 by decide]
/-! masks of the heap: the class's cells, the reference's -/
def EqL (h h2 : AH) : Prop := ∀ a, a < 82 → h2.1 a = h.1 a ∧ h2.2.1 a = h.2.1 a ∧ h2.2.2 a = h.2.2 a
def EqH (h h2 : AH) : Prop := ∀ a, 82 ≤ a → h2.1 a = h.1 a ∧ h2.2.1 a = h.2.1 a ∧ h2.2.2 a = h.2.2 a
theorem EqL.rf {h : AH} : EqL h h := fun _ _ => ⟨rfl, rfl, rfl⟩
theorem EqH.rf {h : AH} : EqH h h := fun _ _ => ⟨rfl, rfl, rfl⟩
theorem EqL.tr {h h2 h3 : AH} (a : EqL h h2) (b : EqL h2 h3) : EqL h h3 := fun q hq => ⟨(b q hq).1.trans (a q hq).1, (b q hq).2.1.trans (a q hq).2.1, (b q hq).2.2.trans (a q hq).2.2⟩
theorem EqH.tr {h h2 h3 : AH} (a : EqH h h2) (b : EqH h2 h3) : EqH h h3 := fun q hq => ⟨(b q hq).1.trans (a q hq).1, (b q hq).2.1.trans (a q hq).2.1, (b q hq).2.2.trans (a q hq).2.2⟩
theorem EqL.sI {h h2 : AH} {a k : Nat} {v : Int32} (e : EqL h h2) (ha : 82 ≤ a) : EqL h (sI h2 a k v) := fun q hq => ⟨(sI_o (by omega)).trans (e q hq).1, (e q hq).2.1, (e q hq).2.2⟩
theorem EqL.sL {h h2 : AH} {a k : Nat} {v : Int64} (e : EqL h h2) (ha : 82 ≤ a) : EqL h (sL h2 a k v) := fun q hq => ⟨(e q hq).1, (sL_o (by omega)).trans (e q hq).2.1, (e q hq).2.2⟩
theorem EqH.sI {h h2 : AH} {a k : Nat} {v : Int32} (e : EqH h h2) (ha : a < 82) : EqH h (sI h2 a k v) := fun q hq => ⟨(sI_o (by omega)).trans (e q hq).1, (e q hq).2.1, (e q hq).2.2⟩
theorem EqH.sL {h h2 : AH} {a k : Nat} {v : Int64} (e : EqH h h2) (ha : a < 82) : EqH h (sL h2 a k v) := fun q hq => ⟨(e q hq).1, (sL_o (by omega)).trans (e q hq).2.1, (e q hq).2.2⟩
theorem EqH.sR {h h2 : AH} {a k : Nat} {v : Option Nat} (e : EqH h h2) (ha : a < 82) : EqH h (sR h2 a k v) := fun q hq => ⟨(e q hq).1, (e q hq).2.1, (sR_o (by omega)).trans (e q hq).2.2⟩
/-! THE STATE, as both hold it. A chip: room, pores, size, colours, dirts -/
abbrev CH : Type := Nat × Nat × Nat × (Nat → Nat) × (Nat → Nat)
abbrev CS : Type := Nat × (Nat → CH)
abbrev BK : Type := (Nat → Nat) × (Nat → Nat) × (Nat → Nat) × Nat × (Nat → Nat) × (Nat → Nat)
/-- text (length, bytes), chips, book, tunes, images, trace -/
abbrev ST : Type := (Nat × (Nat → Nat)) × CS × BK × (Nat → Nat) × (Nat → Option CS) × Int64
def okCH (c : CH) : Prop := c.1 ≤ 5 ∧ c.2.1 ≤ 1 ∧ 1 ≤ c.2.2.1 ∧ c.2.2.1 ≤ 10 ∧ (∀ k, k < c.2.2.1 → c.2.2.2.1 k < 12) ∧ ∀ k, k < c.2.2.1 → c.2.2.2.2 k ≤ 9
def okCS (s : CS) : Prop := s.1 ≤ 4 ∧ ∀ c, c < s.1 → okCH (s.2 c)
def okBK (b : BK) : Prop := (∀ k, k < 12 → b.1 k ≤ 999 ∧ b.2.1 k ≤ 999 ∧ b.2.2.1 k < 4096) ∧ b.2.2.2.1 ≤ 8 ∧ ∀ i, i < b.2.2.2.1 → b.2.2.2.2.1 i ≤ 999 ∧ b.2.2.2.2.2 i < 12
def okTU (t : Nat → Nat) : Prop := (1 ≤ t 0 ∧ t 0 ≤ 50) ∧ t 1 ≤ 9 ∧ t 2 ≤ 1 ∧ t 3 ≤ 20 ∧ t 4 ≤ 9
def vS (s : ST) : Prop := (s.1.1 ≤ 400 ∧ ∀ i, s.1.2 i < 256) ∧ okCS s.2.1 ∧ okBK s.2.2.1 ∧ okTU s.2.2.2.1 ∧ ∀ i cs, s.2.2.2.2.1 i = some cs → okCS cs
/-- a byte as Java's byte -/
def bI (n : Nat) : Int32 := (I (n : Int)).toInt8.toInt32
/-! how the class holds it -/
def atCH (h : AH) (b : Nat) (c : CH) : Prop := h.1 b 2 = I (c.1 : Int) ∧ h.1 b 3 = I (c.2.2.1 : Int) ∧ h.1 b 4 = I (c.2.1 : Int) ∧ (∀ k, k < c.2.2.1 → h.1 (b + 1) k = I (c.2.2.2.1 k : Int)) ∧ ∀ k, k < c.2.2.1 → h.1 (b + 2) k = I (c.2.2.2.2 k : Int)
/-- the four chips of a shelf, in some order -/
def perm (s : Nat) (p : Nat → Nat) : Prop := (∀ c, c < 4 → p c = s + 2 ∨ p c = s + 5 ∨ p c = s + 8 ∨ p c = s + 11) ∧ ∀ c d, c < 4 → d < 4 → p c = p d → c = d
def atSH (h : AH) (s : Nat) (p : Nat → Nat) (cs : CS) : Prop := perm s p ∧ (∀ c, c < 4 → h.2.2 (s + 1) c = some (p c)) ∧ h.1 s 1 = I (cs.1 : Int) ∧ ∀ c, c < cs.1 → atCH h (p c) (cs.2 c)
def atBK (h : AH) (b : Nat) (k : BK) : Prop := (∀ l, l < 12 → h.1 (b + 1) l = I (k.1 l : Int) ∧ h.1 (b + 2) l = I (k.2.1 l : Int) ∧ h.1 (b + 3) l = I (k.2.2.1 l : Int)) ∧ h.1 b 5 = I (k.2.2.2.1 : Int) ∧ ∀ i, i < k.2.2.2.1 → h.1 (b + 4) i = I (k.2.2.2.2.1 i : Int) ∧ h.1 (b + 5) i = I (k.2.2.2.2.2 i : Int)
def rcT (s : ST) (h : AH) : Prop := h.1 1 1 = I (s.1.1 : Int) ∧ ∀ i, i < s.1.1 → h.1 2 i = bI (s.1.2 i)
def rcB (s : ST) (h : AH) (b b' : Nat) : Prop := ((b = 42 ∧ b' = 48) ∨ (b = 48 ∧ b' = 42)) ∧ h.2.2 0 8 = some b ∧ h.2.2 0 9 = some b' ∧ atBK h b s.2.2.1
def rcI (s : ST) (h : AH) : Prop := ∀ i, i < 2 → h.2.2 20 i = some (54 + 14 * i) ∧ match s.2.2.2.2.1 i with
  | none => h.1 (54 + 14 * i) 2 = I 0 ∧ ∃ p, perm (54 + 14 * i) p ∧ ∀ c, c < 4 → h.2.2 (54 + 14 * i + 1) c = some (p c)
  | some cs => h.1 (54 + 14 * i) 2 = I 1 ∧ ∃ p, atSH h (54 + 14 * i) p cs
/-- all but what is found from it -/
def rcS (s : ST) (h : AH) : Prop := rcT s h ∧ (∃ p, atSH h 6 p s.2.1) ∧ (∃ b b', rcB s h b b') ∧ (∀ i, i < 5 → h.1 21 i = I (s.2.2.2.1 i : Int)) ∧ rcI s h ∧ h.2.1 0 11 = s.2.2.2.2.2
/-! how the reference holds it -/
def mCS (h : AH) (n r p z co di : Nat) (i : Nat) (cs : CS) : Prop := ∀ c, c < cs.1 → h.1 r (n * i + c) = I ((cs.2 c).1 : Int) ∧ h.1 p (n * i + c) = I ((cs.2 c).2.1 : Int) ∧ h.1 z (n * i + c) = I ((cs.2 c).2.2.1 : Int) ∧ ∀ k, k < (cs.2 c).2.2.1 → h.1 co (10 * (n * i) + 10 * c + k) = I ((cs.2 c).2.2.2.1 k : Int) ∧ h.1 di (10 * (n * i) + 10 * c + k) = I ((cs.2 c).2.2.2.2 k : Int)
def rmS (s : ST) (h : AH) : Prop := (h.1 82 1 = I (s.1.1 : Int) ∧ ∀ i, i < s.1.1 → h.1 83 i = I (s.1.2 i : Int)) ∧ (h.1 82 6 = I (s.2.1.1 : Int) ∧ mCS h 4 84 85 86 87 88 0 s.2.1) ∧
  ((∀ l, l < 12 → h.1 91 l = I (s.2.2.1.1 l : Int) ∧ h.1 92 l = I (s.2.2.1.2.1 l : Int) ∧ h.1 93 l = I (s.2.2.1.2.2.1 l : Int)) ∧ h.1 82 17 = I (s.2.2.1.2.2.2.1 : Int) ∧ ∀ i, i < s.2.2.1.2.2.2.1 → h.1 94 i = I (s.2.2.1.2.2.2.2.1 i : Int) ∧ h.1 95 i = I (s.2.2.1.2.2.2.2.2 i : Int)) ∧
  (∀ i, i < 5 → h.1 101 i = I (s.2.2.2.1 i : Int)) ∧
  (∀ i, i < 2 → match s.2.2.2.2.1 i with
    | none => h.1 102 i = I (-1)
    | some cs => h.1 102 i = I (cs.1 : Int) ∧ mCS h 4 103 104 105 106 107 i cs) ∧ h.2.1 82 32 = s.2.2.2.2.2
