/-! the reference's tokens -/
abbrev txM (t : TX) (h : AH) : Prop := (t.1 ≤ 400 ∧ ∀ i, t.2 i < 256) ∧ h.1 82 1 = I (t.1 : Int) ∧ ∀ i, i < t.1 → h.1 83 i = I (t.2 i : Int)
theorem txM_c {t : TX} {P R : Nat → Nat → Prop} {h h2 : AH} (T : txM t h) (c : Chg P R h h2) (p1 : ¬ P 82 1) (p2 : ∀ k, ¬ P 83 k) : txM t h2 := ⟨T.1, by rw [c.1 _ _ p1]; exact T.2.1, fun i hi => by rw [c.1 _ _ (p2 i)]; exact T.2.2 i hi⟩
/-- a word's code in the reference -/
def wcd (t : TX) (i : Nat) : Nat → Nat
  | 0 => 0
  | k + 1 => 32 * wcd t i k + (t.2 (i + k) - 96)
theorem isW_iff {t : TX} {i w : Nat} : isW t i w = true ↔ eL t i - i = (wds.getD w []).length ∧ ∀ k, k < (wds.getD w []).length → t.2 (i + k) = (wds.getD w []).getD k 0 := by
  unfold isW
  simp only [Bool.and_eq_true, List.all_eq_true, List.mem_range, beq_iff_eq]
theorem wcd_lt {t : TX} {i : Nat} : ∀ n, (∀ k, k < n → isL (t.2 (i + k)) = true) → wcd t i n < 32 ^ n
  | 0, _ => by unfold wcd; omega
  | n + 1, hd => by
    have ih := wcd_lt n (fun k hk => hd k (by omega))
    have h1 := isL_iff.mp (hd n (by omega))
    unfold wcd
    rw [Nat.pow_succ]
    omega
theorem dig {a d A D : Nat} (h : 32 * a + d = 32 * A + D) (hd : d < 32) (hD : D < 32) : a = A ∧ d = D := by omega
theorem dg4 {a b c d A B C D V : Nat} (ha : a < 32) (hb : b < 32) (hc : c < 32) (hd : d < 32) (hA : A < 32 ∧ B < 32 ∧ C < 32 ∧ D < 32 ∧ V = 32 * (32 * (32 * A + B) + C) + D) (q : 32 * (32 * (32 * a + b) + c) + d = V) : a = A ∧ b = B ∧ c = C ∧ d = D := by
  obtain ⟨h1, h2, h3, h4, h5⟩ := hA
  rw [h5] at q
  obtain ⟨q, e4⟩ := dig q hd h4
  obtain ⟨q, e3⟩ := dig q hc h3
  obtain ⟨q, e2⟩ := dig q hb h2
  exact ⟨q, e2, e3, e4⟩
theorem dg5 {z a b c d A B C D Z V : Nat} (hz : z < 32) (ha : a < 32) (hb : b < 32) (hc : c < 32) (hd : d < 32) (hA : A < 32 ∧ B < 32 ∧ C < 32 ∧ D < 32 ∧ V = 32 * (32 * (32 * (32 * Z + A) + B) + C) + D) (q : 32 * (32 * (32 * (32 * z + a) + b) + c) + d = V) : z = Z ∧ a = A ∧ b = B ∧ c = C ∧ d = D := by
  obtain ⟨h1, h2, h3, h4, h5⟩ := hA
  rw [h5] at q
  obtain ⟨q, e4⟩ := dig q hd h4
  obtain ⟨q, e3⟩ := dig q hc h3
  obtain ⟨q, e2⟩ := dig q hb h2
  obtain ⟨q, e1⟩ := dig q ha h1
  exact ⟨q, e1, e2, e3, e4⟩
theorem wcd_w {t : TX} {i : Nat} (hn : 1 ≤ eL t i - i ∧ eL t i - i ≤ 5) : (wcd t i (eL t i - i) = 605677 ↔ isW t i 0 = true) ∧ (wcd t i (eL t i - i) = 17287347 ↔ isW t i 1 = true) ∧ (wcd t i (eL t i - i) = 20600006 ↔ isW t i 2 = true) ∧ (wcd t i (eL t i - i) = 1451365 ↔ isW t i 3 = true) ∧ (wcd t i (eL t i - i) = 75148 ↔ isW t i 4 = true) := by
  have hd : ∀ k, k < eL t i - i → 97 ≤ t.2 (i + k) ∧ t.2 (i + k) ≤ 122 := fun k hk => isL_iff.mp (eL_all (i := i) (by omega) (by omega))
  have l0 : isW t i 0 = true ↔ eL t i - i = 4 ∧ t.2 (i + 0) = 114 ∧ t.2 (i + 1) = 111 ∧ t.2 (i + 2) = 111 ∧ t.2 (i + 3) = 109 := by
    rw [isW_iff]
    refine ⟨fun q => ⟨q.1, q.2 0 (by decide), q.2 1 (by decide), q.2 2 (by decide), q.2 3 (by decide)⟩, fun q => ⟨q.1, fun k hk => ?_⟩⟩
    have hk : k < 4 := hk
    rcases (show k = 0 ∨ k = 1 ∨ k = 2 ∨ k = 3 by omega) with rfl | rfl | rfl | rfl
    · exact q.2.1
    · exact q.2.2.1
    · exact q.2.2.2.1
    · exact q.2.2.2.2
  have l1 : isW t i 1 = true ↔ eL t i - i = 5 ∧ t.2 (i + 0) = 112 ∧ t.2 (i + 1) = 111 ∧ t.2 (i + 2) = 114 ∧ t.2 (i + 3) = 101 ∧ t.2 (i + 4) = 115 := by
    rw [isW_iff]
    refine ⟨fun q => ⟨q.1, q.2 0 (by decide), q.2 1 (by decide), q.2 2 (by decide), q.2 3 (by decide), q.2 4 (by decide)⟩, fun q => ⟨q.1, fun k hk => ?_⟩⟩
    have hk : k < 5 := hk
    rcases (show k = 0 ∨ k = 1 ∨ k = 2 ∨ k = 3 ∨ k = 4 by omega) with rfl | rfl | rfl | rfl | rfl
    · exact q.2.1
    · exact q.2.2.1
    · exact q.2.2.2.1
    · exact q.2.2.2.2.1
    · exact q.2.2.2.2.2
  have l2 : isW t i 2 = true ↔ eL t i - i = 5 ∧ t.2 (i + 0) = 115 ∧ t.2 (i + 1) = 116 ∧ t.2 (i + 2) = 117 ∧ t.2 (i + 3) = 102 ∧ t.2 (i + 4) = 102 := by
    rw [isW_iff]
    refine ⟨fun q => ⟨q.1, q.2 0 (by decide), q.2 1 (by decide), q.2 2 (by decide), q.2 3 (by decide), q.2 4 (by decide)⟩, fun q => ⟨q.1, fun k hk => ?_⟩⟩
    have hk : k < 5 := hk
    rcases (show k = 0 ∨ k = 1 ∨ k = 2 ∨ k = 3 ∨ k = 4 by omega) with rfl | rfl | rfl | rfl | rfl
    · exact q.2.1
    · exact q.2.2.1
    · exact q.2.2.2.1
    · exact q.2.2.2.2.1
    · exact q.2.2.2.2.2
  have l3 : isW t i 3 = true ↔ eL t i - i = 5 ∧ t.2 (i + 0) = 97 ∧ t.2 (i + 1) = 108 ∧ t.2 (i + 2) = 105 ∧ t.2 (i + 3) = 107 ∧ t.2 (i + 4) = 101 := by
    rw [isW_iff]
    refine ⟨fun q => ⟨q.1, q.2 0 (by decide), q.2 1 (by decide), q.2 2 (by decide), q.2 3 (by decide), q.2 4 (by decide)⟩, fun q => ⟨q.1, fun k hk => ?_⟩⟩
    have hk : k < 5 := hk
    rcases (show k = 0 ∨ k = 1 ∨ k = 2 ∨ k = 3 ∨ k = 4 by omega) with rfl | rfl | rfl | rfl | rfl
    · exact q.2.1
    · exact q.2.2.1
    · exact q.2.2.2.1
    · exact q.2.2.2.2.1
    · exact q.2.2.2.2.2
  have l4 : isW t i 4 = true ↔ eL t i - i = 4 ∧ t.2 (i + 0) = 98 ∧ t.2 (i + 1) = 105 ∧ t.2 (i + 2) = 108 ∧ t.2 (i + 3) = 108 := by
    rw [isW_iff]
    refine ⟨fun q => ⟨q.1, q.2 0 (by decide), q.2 1 (by decide), q.2 2 (by decide), q.2 3 (by decide)⟩, fun q => ⟨q.1, fun k hk => ?_⟩⟩
    have hk : k < 4 := hk
    rcases (show k = 0 ∨ k = 1 ∨ k = 2 ∨ k = 3 by omega) with rfl | rfl | rfl | rfl
    · exact q.2.1
    · exact q.2.2.1
    · exact q.2.2.2.1
    · exact q.2.2.2.2
  rw [l0, l1, l2, l3, l4]
  generalize eL t i - i = n at *
  rcases (show n = 1 ∨ n = 2 ∨ n = 3 ∨ n = 4 ∨ n = 5 by omega) with rfl | rfl | rfl | rfl | rfl
  · have a0 := hd 0 (by omega)
    simp only [wcd]
    refine ⟨?_, ?_, ?_, ?_, ?_⟩ <;> constructor <;> intro q <;> omega
  · have a0 := hd 0 (by omega)
    have a1 := hd 1 (by omega)
    simp only [wcd]
    refine ⟨?_, ?_, ?_, ?_, ?_⟩ <;> constructor <;> intro q <;> omega
  · have a0 := hd 0 (by omega)
    have a1 := hd 1 (by omega)
    have a2 := hd 2 (by omega)
    simp only [wcd]
    omega
  · have a0 := hd 0 (by omega)
    have a1 := hd 1 (by omega)
    have a2 := hd 2 (by omega)
    have a3 := hd 3 (by omega)
    simp only [wcd, Nat.mul_zero, Nat.zero_add]
    refine ⟨?_, ?_, ?_, ?_, ?_⟩
    · exact ⟨fun q => by have := dg4 (A := 18) (B := 15) (C := 15) (D := 13) (by omega) (by omega) (by omega) (by omega) ⟨by decide, by decide, by decide, by decide, by decide⟩ q; exact ⟨trivial, by omega, by omega, by omega, by omega⟩, fun q => by rw [q.2.1, q.2.2.1, q.2.2.2.1, q.2.2.2.2]⟩
    · exact ⟨fun q => by omega, fun q => by omega⟩
    · exact ⟨fun q => by omega, fun q => by omega⟩
    · exact ⟨fun q => by omega, fun q => by omega⟩
    · exact ⟨fun q => by have := dg4 (A := 2) (B := 9) (C := 12) (D := 12) (by omega) (by omega) (by omega) (by omega) ⟨by decide, by decide, by decide, by decide, by decide⟩ q; exact ⟨trivial, by omega, by omega, by omega, by omega⟩, fun q => by rw [q.2.1, q.2.2.1, q.2.2.2.1, q.2.2.2.2]⟩
  · have a0 := hd 0 (by omega)
    have a1 := hd 1 (by omega)
    have a2 := hd 2 (by omega)
    have a3 := hd 3 (by omega)
    have a4 := hd 4 (by omega)
    simp only [wcd, Nat.mul_zero, Nat.zero_add]
    refine ⟨?_, ?_, ?_, ?_, ?_⟩
    · exact ⟨fun q => by have := dg5 (Z := 0) (A := 18) (B := 15) (C := 15) (D := 13) (by omega) (by omega) (by omega) (by omega) (by omega) ⟨by decide, by decide, by decide, by decide, by decide⟩ q; omega, fun q => by omega⟩
    · exact ⟨fun q => by have := dg5 (Z := 16) (A := 15) (B := 18) (C := 5) (D := 19) (by omega) (by omega) (by omega) (by omega) (by omega) ⟨by decide, by decide, by decide, by decide, by decide⟩ q; exact ⟨trivial, by omega, by omega, by omega, by omega, by omega⟩, fun q => by rw [q.2.1, q.2.2.1, q.2.2.2.1, q.2.2.2.2.1, q.2.2.2.2.2]⟩
    · exact ⟨fun q => by have := dg5 (Z := 19) (A := 20) (B := 21) (C := 6) (D := 6) (by omega) (by omega) (by omega) (by omega) (by omega) ⟨by decide, by decide, by decide, by decide, by decide⟩ q; exact ⟨trivial, by omega, by omega, by omega, by omega, by omega⟩, fun q => by rw [q.2.1, q.2.2.1, q.2.2.2.1, q.2.2.2.2.1, q.2.2.2.2.2]⟩
    · exact ⟨fun q => by have := dg5 (Z := 1) (A := 12) (B := 9) (C := 11) (D := 5) (by omega) (by omega) (by omega) (by omega) (by omega) ⟨by decide, by decide, by decide, by decide, by decide⟩ q; exact ⟨trivial, by omega, by omega, by omega, by omega, by omega⟩, fun q => by rw [q.2.1, q.2.2.1, q.2.2.2.1, q.2.2.2.2.1, q.2.2.2.2.2]⟩
    · exact ⟨fun q => by have := dg5 (Z := 0) (A := 2) (B := 9) (C := 12) (D := 12) (by omega) (by omega) (by omega) (by omega) (by omega) ⟨by decide, by decide, by decide, by decide, by decide⟩ q; omega, fun q => by omega⟩
section RM
variable {g : mg} {l : Launch} {h : AH}
theorem wp_look {Q : Int32 → AH → Prop} {t : TX} {c : Nat} (T : txM t h) (hc : c ≤ t.1) (ea : h.1 82 2 = I (c : Int)) (k1 : c < t.1 → Q (I (t.2 c : Int)) h) (k0 : c = t.1 → Q (I (-1)) h) : SpI g l mX8_look h [.ref 82] Q := by
  have h4 := T.1.1
  refine sX8_look ?_
  rw [T.2.1, ea, I_le (by omega) (by omega) (by omega) (by omega)]
  refine ⟨fun q => k0 (by omega), fun q => ⟨c, rfl, by omega, ?_⟩⟩
  rw [T.2.2 c (by omega)]
  exact k1 (by omega)
theorem wp_mD {Q : Int32 → AH → Prop} {b : Nat} (hb : b < 256) (k1 : isD b = true → Q (I 1) h) (k0 : isD b = false → Q (I 0) h) : SpI g l mX8_isDigit h [.int (I (b : Int))] Q := by
  have kf : ¬ isD b = true → Q (I 0) h := fun q => k0 (by simpa using q)
  simp only [isD_iff] at k1 kf
  exact sX8_isDigit (wp_in ⟨by omega, by omega⟩ ⟨by omega, by omega⟩ ⟨by omega, by omega⟩ (fun a b => ⟨Or.inr (by decide), k1 (by omega)⟩) (fun a => ⟨Or.inl (by decide), kf (by omega)⟩))
theorem wp_mL {Q : Int32 → AH → Prop} {b : Nat} (hb : b < 256) (k1 : isL b = true → Q (I 1) h) (k0 : isL b = false → Q (I 0) h) : SpI g l mX8_isLetter h [.int (I (b : Int))] Q := by
  have kf : ¬ isL b = true → Q (I 0) h := fun q => k0 (by simpa using q)
  simp only [isL_iff] at k1 kf
  exact sX8_isLetter (wp_in ⟨by omega, by omega⟩ ⟨by omega, by omega⟩ ⟨by omega, by omega⟩ (fun a b => ⟨Or.inr (by decide), k1 (by omega)⟩) (fun a => ⟨Or.inl (by decide), kf (by omega)⟩))
theorem wp_mDn {Q : Int32 → AH → Prop} (k0 : Q (I 0) h) : SpI g l mX8_isDigit h [.int (I (-1))] Q :=
  sX8_isDigit (wp_in ⟨by omega, by omega⟩ ⟨by omega, by omega⟩ ⟨by omega, by omega⟩ (fun a b => absurd a (by omega)) (fun a => ⟨Or.inl (by decide), k0⟩))
theorem wp_mLn {Q : Int32 → AH → Prop} (k0 : Q (I 0) h) : SpI g l mX8_isLetter h [.int (I (-1))] Q :=
  sX8_isLetter (wp_in ⟨by omega, by omega⟩ ⟨by omega, by omega⟩ ⟨by omega, by omega⟩ (fun a b => absurd a (by omega)) (fun a => ⟨Or.inl (by decide), k0⟩))
abbrev cRd : Nat → Nat → Prop := fun a k => a = 82 ∧ 2 ≤ k ∧ k ≤ 5
abbrev cRt : Nat → Nat → Prop := fun a k => a = 82 ∧ (k = 2 ∨ k = 4 ∨ k = 5)
theorem wp_word {Q : AH → Prop} {t : TX} {i : Nat} (T : txM t h) (hi : i < t.1) (ea : h.1 82 2 = I (i : Int)) (ef : h.1 82 3 = I (i : Int)) (hl : isL (t.2 i) = true) (k : ∀ h2, Chg cRt nR h h2 → h2.1 82 2 = I (enT t i : Int) → h2.1 82 4 = I (kdT t i : Int) → (kdT t i = 1 ∨ kdT t i = 2 → h2.1 82 5 = I (vlT t i : Int)) → Q h2) : SpV g l mX8_word h [.ref 82] Q := by
  have h4 := T.1.1
  have hin := eL_in hi
  have hpos := eL_pos hi hl
  have hd : ∀ k, k < eL t i - i → isL (t.2 (i + k)) = true := fun k hk => eL_all (i := i) (by omega) (by omega)
  have hk : kdT t i = kdW t i := by
    unfold kdT
    rw [if_neg (by omega), if_pos hl]
  have hen : enT t i = eL t i := by
    unfold enT
    rw [if_neg (by omega), if_pos hl]
  have hv : vlT t i = t.2 i - 97 := by unfold vlT; rw [if_pos hl]
  refine sX8_word (fun X O => ?_)
  have n91 : ¬ I 9 = I 1 := by decide
  have fin : ∀ h1, Chg cRt nR h h1 → h1.1 82 2 = I (eL t i : Int) → GV g l X Q h1 73 [(0, .ref 82), (1, .int (I (if 5 < eL t i - i then 0 else wcd t i (eL t i - i) : Nat)))] [.int (I (if 5 < eL t i - i then 1 else 0))] := by
    intro h1 c e2
    have e3 : h1.1 82 3 = I (i : Int) := by rw [c.1 _ _ (by omega)]; exact ef
    have out : ∀ z : Nat, z ≠ 1 → z ≠ 2 → kdW t i = z → Q (sI (sI h1 82 4 (I (z : Int))) 82 5 (I 0)) := fun z z1 z2 ez => by
      refine k _ ((c.i (by omega)).i (by omega)) ?_ ?_ (fun q => absurd q (by omega))
      · rw [sI_1, up_n (by omega), sI_1, up_n (by omega), hen]; exact e2
      · rw [sI_1, up_n (by omega), sI_1, up_s, hk, ez]
    refine bX8_word_73 O ?_
    rw [e2, e3, I_sub]
    by_cases h5 : 5 < eL t i - i
    · rw [if_pos h5, if_pos h5]
      refine br_f n10 (nb_t n91 (out 9 (by omega) (by omega) ?_))
      have nw : ∀ w, w < 5 → ¬ isW t i w = true := fun w hw q => by
        have := (isW_iff.mp q).1
        rw [wds_len hw] at this
        have := tx_len hw
        omega
      unfold kdW
      rw [if_neg (by omega), if_neg (nw 0 (by omega)), if_neg (nw 1 (by omega)), if_neg (nw 2 (by omega)), if_neg (nw 3 (by omega)), if_neg (nw 4 (by omega))]
    · rw [if_neg h5, if_neg h5]
      have hW := wcd_w (t := t) (i := i) (by omega)
      have lt := wcd_lt _ hd
      have p5 : 32 ^ (eL t i - i) ≤ 32 ^ 5 := Nat.pow_le_pow_right (by omega) (by omega)
      have one : eL t i - i = 1 → wcd t i (eL t i - i) = t.2 i - 96 := fun q => by rw [q]; unfold wcd; unfold wcd; rw [Nat.add_zero]; omega
      generalize wcd t i (eL t i - i) = x at *
      have hl' := isL_iff.mp hl
      refine br_t y00 ?_
      have c1 : ∀ z : Nat, z < 33554432 → (I (x : Int) = I (z : Int) ↔ x = z) := fun z hz => by
        rw [I_eq (by omega) (by omega) (by omega) (by omega)]
        omega
      rw [show (605677 : Int32) = I ((605677 : Nat) : Int) by decide, show (17287347 : Int32) = I ((17287347 : Nat) : Int) by decide, show (20600006 : Int32) = I ((20600006 : Nat) : Int) by decide, show (1451365 : Int32) = I ((1451365 : Nat) : Int) by decide, show (75148 : Int32) = I ((75148 : Nat) : Int) by decide]
      rw [c1 605677 (by omega), c1 17287347 (by omega), c1 20600006 (by omega), c1 1451365 (by omega), c1 75148 (by omega), hW.1, hW.2.1, hW.2.2.1, hW.2.2.2.1, hW.2.2.2.2, I_eq (by omega) (by omega) (by omega) (by omega), I_lt (by omega) (by omega) (by omega) (by omega)]
      have n1 : ∀ w, w < 5 → isW t i w = true → ¬ eL t i - i = 1 := fun w hw q => by
        have := (isW_iff.mp q).1
        have : ∀ x : Fin 5, (wds.getD x.val []).length ≠ 1 := by decide
        have nn : (wds.getD w []).length ≠ 1 := this ⟨w, hw⟩
        omega
      refine ⟨fun q0 => ⟨fun q1 => ⟨fun q2 => ⟨fun q3 => ⟨fun q4 => ⟨fun q5 => nb_t n91 (out 9 (by omega) (by omega) ?_), fun q5 => ⟨fun q6 => nb_t n91 (out 9 (by omega) (by omega) ?_), fun q6 => nb_f rfl ?_⟩⟩, fun q4 => nb_t (by decide) (out 8 (by omega) (by omega) ?_)⟩, fun q3 => nb_t (by decide) (out 7 (by omega) (by omega) ?_)⟩, fun q2 => nb_t (by decide) (out 6 (by omega) (by omega) ?_)⟩, fun q1 => nb_t (by decide) (out 5 (by omega) (by omega) ?_)⟩, fun q0 => nb_t (by decide) (out 4 (by omega) (by omega) ?_)⟩
      · unfold kdW
        rw [if_neg (by omega), if_neg q0, if_neg q1, if_neg q2, if_neg q3, if_neg q4]
      · unfold kdW
        have := one (by omega)
        rw [if_pos (by omega), if_neg (by omega)]
      · have := one (by omega)
        have k1 : kdW t i = 1 := by
          unfold kdW
          rw [if_pos (by omega), if_pos (by omega)]
        refine k _ ((c.i (by omega)).i (by omega)) ?_ ?_ (fun q => ?_)
        · rw [sI_1, up_n (by omega), sI_1, up_n (by omega), hen]; exact e2
        · rw [sI_1, up_n (by omega), sI_1, up_s, hk, k1]; rfl
        · rw [sI_1, up_s, I_sub, hv]; congr 1; omega
      · unfold kdW
        rw [if_neg (n1 4 (by omega) q4), if_neg q0, if_neg q1, if_neg q2, if_neg q3, if_pos q4]
      · unfold kdW
        rw [if_neg (n1 3 (by omega) q3), if_neg q0, if_neg q1, if_neg q2, if_pos q3]
      · unfold kdW
        rw [if_neg (n1 2 (by omega) q2), if_neg q0, if_neg q1, if_pos q2]
      · unfold kdW
        rw [if_neg (n1 1 (by omega) q1), if_neg q0, if_pos q1]
      · unfold kdW
        rw [if_neg (n1 0 (by omega) q0), if_pos q0]
  have lp : ∀ m c h1, i + c + m = eL t i → Chg cRt nR h h1 → h1.1 82 2 = I ((i + c : Nat) : Int) → GV g l X Q h1 2 [(0, .ref 82), (1, .int (I (if 5 < c then 0 else wcd t i c : Nat)))] [] := by
    intro m
    induction m with
    | zero =>
      intro c h1 hc e e2
      have ec2 : i + c = eL t i := by omega
      have ec : c = eL t i - i := by omega
      have T1 := txM_c T e (by omega) (by omega)
      have e3 : h1.1 82 3 = I (i : Int) := by rw [e.1 _ _ (by omega)]; exact ef
      have F := fin h1 e (by rw [e2, ec2])
      rw [← ec] at F
      have stop : ((((h1.1 82 2) - (h1.1 82 3)) ≤ (I 5)) → (GV g l X Q h1 73 [(0, .ref 82), (1, .int (I (if 5 < c then 0 else wcd t i c : Nat)))] [.int (I 0)])) ∧ ((¬ (((h1.1 82 2) - (h1.1 82 3)) ≤ (I 5))) → (GV g l X Q h1 73 [(0, .ref 82), (1, .int (I (if 5 < c then 0 else wcd t i c : Nat)))] [.int (I 1)])) := by
        rw [e2, e3, I_sub, I_le (by omega) (by omega) (by omega) (by omega)]
        refine ⟨fun q => ?_, fun q => ?_⟩
        · rw [if_neg (show ¬ 5 < c by omega), if_neg (show ¬ 5 < c by omega)] at F
          rw [if_neg (show ¬ 5 < c by omega)]
          exact F
        · rw [if_pos (show 5 < c by omega), if_pos (show 5 < c by omega)] at F
          rw [if_pos (show 5 < c by omega)]
          exact F
      refine bX8_word_2 O (wp_look T1 (by omega) e2 (fun q => ?_) (fun q => wp_mLn (br_t y00 stop)))
      refine wp_mL (T.1.2 _) (fun q2 => ?_) (fun q2 => br_t y00 stop)
      rw [ec2, eL_end hi (by omega)] at q2
      cases q2
    | succ m ih =>
      intro c h1 hc e e2
      have T1 := txM_c T e (by omega) (by omega)
      have e3 : h1.1 82 3 = I (i : Int) := by rw [e.1 _ _ (by omega)]; exact ef
      have hdc := hd c (by omega)
      have hdl := isL_iff.mp hdc
      refine bX8_word_2 O (wp_look T1 (by omega) e2 (fun q => ?_) (fun q => absurd q (by omega)))
      refine wp_mL (T.1.2 _) (fun q2 => br_f n10 ?_) (fun q2 => ?_)
      · have IH := fun h1' a b => ih (c + 1) h1' (by omega) a b
        rw [e2, e3, I_sub, I_le (by omega) (by omega) (by omega) (by omega), I_add]
        refine ⟨fun q3 => ?_, fun q3 => wp_look T1 (by omega) e2 (fun _ => ?_) (fun q => absurd q (by omega))⟩
        · rw [if_pos (by omega)] at IH
          refine IH _ (e.i (by omega)) ?_
          rw [sI_1, up_s]
          congr 1
        · rw [if_neg (by omega)] at IH
          unfold wcd at IH
          rw [if_neg (by omega), e2, I_mul, I_add, I_add, I_sub]
          rw [show (32 * (wcd t i c : Int) + (t.2 (i + c) : Int) - 96) = ((32 * wcd t i c + (t.2 (i + c) - 96) : Nat) : Int) by omega]
          refine IH _ (e.i (by omega)) ?_
          rw [sI_1, up_s]
          congr 1
      · rw [hdc] at q2
        cases q2
  exact lp (eL t i - i) 0 h (by omega) Chg.rf ea
theorem wp_read {Q : AH → Prop} {t : TX} {a : Nat} (T : txM t h) (ha : a ≤ t.1) (ea : h.1 82 2 = I (a : Int)) (k : ∀ h2, Chg cRd nR h h2 → h2.1 82 2 = I (enT t (skp t a) : Int) → h2.1 82 3 = I (skp t a : Int) → h2.1 82 4 = I (kdT t (skp t a) : Int) → (kdT t (skp t a) = 1 ∨ kdT t (skp t a) = 2 → h2.1 82 5 = I (vlT t (skp t a) : Int)) → Q h2) : SpV g l mX8_read h [.ref 82] Q := by
  have h4 := T.1.1
  have hs := skp_in ha
  refine spV_of (by decide) (leb rfl) (fun X O => ?_)
  have num : ∀ (p : Nat), p < t.1 → isD (t.2 p) = true → ∀ h0, Chg cRd nR h h0 → h0.1 82 3 = I (p : Int) → (∀ h2, Chg cRd nR h h2 → h2.1 82 2 = I (enT t p : Int) → h2.1 82 3 = I (p : Int) → h2.1 82 4 = I (kdT t p : Int) → (kdT t p = 1 ∨ kdT t p = 2 → h2.1 82 5 = I (vlT t p : Int)) → Q h2) → ∀ m c h1, p + c + m = eD t p → Chg cRd nR h h1 → h1.1 82 3 = I (p : Int) → h1.1 82 2 = I ((p + c : Nat) : Int) → h1.1 82 5 = I (dvl t p (min c 3) : Int) → GV g l X Q h1 73 [(0, .ref 82), (1, .int (I (t.2 p : Int)))] [] := by
    intro p hp hdp h0 _ _ k m
    have hin := eD_in hp
    have hpos := eD_pos hp hdp
    have hd : ∀ k, k < eD t p - p → isD (t.2 (p + k)) = true := fun k hk => eD_all (i := p) (by omega) (by omega)
    have hk : kdT t p = kdN t p := by
      unfold kdT
      rw [if_neg (by omega), if_neg (by rw [isDL hdp]; decide), if_pos hdp]
    have hen : enT t p = eD t p := by
      unfold enT
      rw [if_neg (by omega), if_neg (by rw [isDL hdp]; decide), if_pos hdp]
    have hv : vlT t p = dvl t p (eD t p - p) := by unfold vlT; rw [if_neg (by rw [isDL hdp]; decide)]
    have hb := T.1.2 p
    induction m with
    | zero =>
      intro c h1 hc e e3 e2 e5
      have ec2 : p + c = eD t p := by omega
      have ec : c = eD t p - p := by omega
      have T1 := txM_c T e (by omega) (by omega)
      have out : ∀ z : Nat, kdN t p = z → Q (sI h1 82 4 (I (z : Int))) := fun z ez => by
        refine k _ (e.i (by omega)) ?_ ?_ ?_ (fun q => ?_)
        · rw [sI_1, up_n (by omega), e2, hen, ec2]
        · rw [sI_1, up_n (by omega)]; exact e3
        · rw [sI_1, up_s, hk, ez]
        · rw [sI_1, up_n (by omega), e5, hv, ec]
          have : min (eD t p - p) 3 = eD t p - p := by
            rw [hk] at q
            unfold kdN at q
            split at q
            · omega
            · omega
          rw [this]
      have stop : ((((I 3) < ((h1.1 82 2) - (h1.1 82 3))) → (Q (sI h1 82 4 (I 9)))) ∧ ((¬ ((I 3) < ((h1.1 82 2) - (h1.1 82 3)))) → (((¬ I (t.2 p : Int) = (I 48)) → (Q (sI h1 82 4 (I 2)))) ∧ ((I (t.2 p : Int) = (I 48)) → (((((h1.1 82 2) - (h1.1 82 3)) ≤ (I 1)) → (Q (sI h1 82 4 (I 2)))) ∧ ((¬ (((h1.1 82 2) - (h1.1 82 3)) ≤ (I 1))) → (Q (sI h1 82 4 (I 9))))))))) := by
        rw [e2, e3, I_sub]
        simp (disch := omega) only [I_lt, I_le, I_eq]
        have k9 : (3 < eD t p - p ∨ (t.2 p = 48 ∧ 1 < eD t p - p)) → Q (sI h1 82 4 (I 9)) := fun q => out 9 (by unfold kdN; rw [if_pos q])
        have k2 : ¬ (3 < eD t p - p ∨ (t.2 p = 48 ∧ 1 < eD t p - p)) → Q (sI h1 82 4 (I 2)) := fun q => out 2 (by unfold kdN; rw [if_neg q])
        exact ⟨fun q => k9 (by omega), fun q => ⟨fun q2 => k2 (by omega), fun q2 => ⟨fun q3 => k2 (by omega), fun q3 => k9 (by omega)⟩⟩⟩
      refine bX8_read_73 O (wp_look T1 (by omega) e2 (fun q => ?_) (fun q => wp_mDn (br_t y00 stop)))
      refine wp_mD (T.1.2 _) (fun q2 => ?_) (fun q2 => br_t y00 stop)
      rw [ec2, eD_end hp (by omega)] at q2
      cases q2
    | succ m ih =>
      intro c h1 hc e e3 e2 e5
      have T1 := txM_c T e (by omega) (by omega)
      have hdc := hd c (by omega)
      have hdl := isD_iff.mp hdc
      refine bX8_read_73 O (wp_look T1 (by omega) e2 (fun q => ?_) (fun q => absurd q (by omega)))
      refine wp_mD (T.1.2 _) (fun q2 => br_f n10 ?_) (fun q2 => ?_)
      · rw [e2, e3, I_sub, I_le (by omega) (by omega) (by omega) (by omega), I_add, e5]
        refine ⟨fun q3 => ?_, fun q3 => wp_look T1 (by omega) e2 (fun _ => ?_) (fun q => absurd q (by omega))⟩
        · refine ih (c + 1) _ (by omega) ((e.i (by omega)).i (by omega)) ?_ ?_ ?_
          · rw [sI_1, up_n (by omega), sI_1, up_n (by omega)]; exact e3
          · rw [sI_1, up_s]; congr 1
          · rw [sI_1, up_n (by omega), sI_1, up_s]
            rw [show min (c + 1) 3 = min c 3 by omega]
        · rw [e2, I_mul, I_add, I_sub, I_add]
          refine ih (c + 1) _ (by omega) ((e.i (by omega)).i (by omega)) ?_ ?_ ?_
          · rw [sI_1, up_n (by omega), sI_1, up_n (by omega)]; exact e3
          · rw [sI_1, up_s]; congr 1
          · rw [sI_1, up_n (by omega), sI_1, up_s]
            rw [show min (c + 1) 3 = min c 3 + 1 by omega]
            rw [show min c 3 = c by omega]
            show _ = I ((10 * dvl t p c + (t.2 (p + c) - 48) : Nat) : Int)
            congr 1
            omega
      · rw [hdc] at q2
        cases q2
  have lp : ∀ m c h1, c + m = skp t a → a ≤ c → Chg cRd nR h h1 → h1.1 82 2 = I (c : Int) → GV g l X Q h1 0 [(0, .ref 82)] [] := by
    intro m
    induction m with
    | zero =>
      intro c h1 hc hac e e2
      have ec : c = skp t a := by omega
      subst ec
      have T1 := txM_c T e (by omega) (by omega)
      have c2 : Chg cRd nR h (sI h1 82 3 (I (skp t a : Int))) := e.i (by omega)
      have T2 := txM_c T c2 (by omega) (by omega)
      have e2' : (sI h1 82 3 (I (skp t a : Int))).1 82 2 = I (skp t a : Int) := by rw [sI_1, up_n (by omega)]; exact e2
      have e3' : (sI h1 82 3 (I (skp t a : Int))).1 82 3 = I (skp t a : Int) := by rw [sI_1, up_s]
      have rest : SpI g l mX8_look (sI h1 82 3 (I (skp t a : Int))) [.ref 82] (fun v3 hv3 => ((0 ≤ v3) → (SpI g l mX8_isLetter hv3 [.int v3] (fun v5 hv5 => ((v5 = 0) → (SpI g l mX8_isDigit hv5 [.int v3] (fun v7 hv7 => ((v7 = 0) → (((¬ v3 = (I 59)) → (Q (sI (sI hv7 82 2 ((hv7.1 82 2) + (I 1))) 82 4 (I 9)))) ∧ ((v3 = (I 59)) → (Q (sI (sI hv7 82 2 ((hv7.1 82 2) + (I 1))) 82 4 (I 3)))))) ∧ ((¬ (v7 = 0)) → (GV g l X Q (sI hv7 82 5 (I 0)) 73 [(0, .ref 82), (1, .int v3)] []))))) ∧ ((¬ (v5 = 0)) → (SpV g l mX8_word hv5 [.ref 82] (fun hv10 => Q hv10)))))) ∧ ((¬ (0 ≤ v3)) → (Q (sI hv3 82 4 (I 0))))) := by
        refine wp_look T2 hs.2 e2' (fun q => ?_) (fun q => ?_)
        · have hb := T.1.2 (skp t a)
          refine br_t ((I_ge0 (by omega) (by omega)).mpr (by omega)) ?_
          refine wp_mL hb (fun w => br_f n10 ?_) (fun w => br_t y00 ?_)
          · refine wp_word T2 q e2' e3' w (fun h2 d d2 d4 d5 => k h2 (c2.tr (d.up (fun a k q => by omega) (fun _ _ q => q))) d2 ?_ d4 d5)
            rw [d.1 _ _ (by omega)]; exact e3'
          · refine wp_mD hb (fun w2 => br_f n10 ?_) (fun w2 => br_t y00 ?_)
            · refine num (skp t a) q w2 h Chg.rf |> fun _ => ?_
              refine num (skp t a) q w2 _ c2 e3' k (eD t (skp t a) - skp t a) 0 _ ?_ (c2.i (by omega)) ?_ ?_ ?_
              · have := eD_in q
                omega
              · rw [sI_1, up_n (by omega)]; exact e3'
              · rw [sI_1, up_n (by omega)]; exact e2'
              · rw [sI_1, up_s]; rfl
            · have hk : kdT t (skp t a) = if t.2 (skp t a) = 59 then 3 else 9 := by
                unfold kdT
                rw [if_neg (by omega), if_neg (by rw [w]; decide), if_neg (by rw [w2]; decide)]
              have hen : enT t (skp t a) = skp t a + 1 := by
                unfold enT
                rw [if_neg (by omega), if_neg (by rw [w]; decide), if_neg (by rw [w2]; decide)]
              have out : ∀ z : Nat, kdT t (skp t a) = z → z ≠ 1 → z ≠ 2 → Q (sI (sI (sI h1 82 3 (I (skp t a : Int))) 82 2 (I (skp t a : Int) + I 1)) 82 4 (I (z : Int))) := fun z ez z1 z2 => by
                refine k _ ((c2.i (by omega)).i (by omega)) ?_ ?_ ?_ (fun q => absurd q (by omega))
                · rw [sI_1, up_n (by omega), sI_1, up_s, I_add, hen]; rfl
                · rw [sI_1, up_n (by omega), sI_1, up_n (by omega)]; exact e3'
                · rw [sI_1, up_s, ez]
              rw [e2', I_eq (by omega) (by omega) (by omega) (by omega)]
              exact ⟨fun q2 => out 9 (by rw [hk, if_neg (by omega)]) (by omega) (by omega), fun q2 => out 3 (by rw [hk, if_pos (by omega)]) (by omega) (by omega)⟩
        · refine br_f (by rw [I_ge0 (by omega) (by omega)]; omega) ?_
          have hk : kdT t (skp t a) = 0 := by
            unfold kdT
            rw [if_pos (by omega)]
          have hen : enT t (skp t a) = skp t a := by
            unfold enT
            rw [if_pos (by omega)]
            omega
          refine k _ (c2.i (by omega)) ?_ ?_ ?_ (fun q => absurd q (by omega))
          · rw [sI_1, up_n (by omega), hen]; exact e2'
          · rw [sI_1, up_n (by omega)]; exact e3'
          · rw [sI_1, up_s, hk]; rfl
      refine bX8_read_0 O (wp_look T1 hs.2 e2 (fun q => ?_) (fun q => ?_))
      · have hb := T.1.2 (skp t a)
        have n32 : ¬ t.2 (skp t a) = 32 := by
          have this : (!(t.2 (skp t a) == 32)) = true := fnd_t (p := fun j => !(t.2 j == 32)) (n := t.1 - a) (i := a) (by show skp t a < _; omega)
          simpa using this
        refine nb_t (by rw [I_eq (by omega) (by omega) (by omega) (by omega)]; omega) ?_
        rw [e2]
        exact rest
      · refine nb_t (by decide) ?_
        rw [e2]
        exact rest
    | succ m ih =>
      intro c h1 hc hac e e2
      have T1 := txM_c T e (by omega) (by omega)
      have y32 : t.2 c = 32 := by
        have := fnd_f (p := fun j => !(t.2 j == 32)) hac (show c < skp t a by omega)
        simpa using this
      refine bX8_read_0 O (wp_look T1 (by omega) e2 (fun q => ?_) (fun q => absurd q (by omega)))
      rw [y32]
      refine nb_f rfl ?_
      rw [e2, I_add]
      refine ih (c + 1) _ (by omega) (by omega) (e.i (by omega)) ?_
      rw [sI_1, up_s]
      congr 1
  exact lp (skp t a - a) a h (by omega) (by omega) Chg.rf ea
end RM
