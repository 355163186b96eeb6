/-! TEXT: tokens. t: length, bytes -/
abbrev TX : Type := Nat × (Nat → Nat)
def isL (b : Nat) : Bool := decide (97 ≤ b) && decide (b ≤ 122)
def isD (b : Nat) : Bool := decide (48 ≤ b) && decide (b ≤ 57)
theorem isL_iff {b : Nat} : isL b = true ↔ 97 ≤ b ∧ b ≤ 122 := by simp [isL]
theorem isD_iff {b : Nat} : isD b = true ↔ 48 ≤ b ∧ b ≤ 57 := by simp [isD]
/-- ends of runs, and the next sign that isn't blank -/
def eL (t : TX) (i : Nat) : Nat := fnd (fun j => !isL (t.2 j)) (t.1 - i) i
def eD (t : TX) (i : Nat) : Nat := fnd (fun j => !isD (t.2 j)) (t.1 - i) i
def skp (t : TX) (i : Nat) : Nat := fnd (fun j => !(t.2 j == 32)) (t.1 - i) i
def bgn (t : TX) (i : Nat) : Bool := !(t.2 i == 32) && (i == 0 || (!(isL (t.2 (i - 1)) && isL (t.2 i)) && !(isD (t.2 (i - 1)) && isD (t.2 i))))
def nbg (t : TX) (a : Nat) : Nat := if t.1 ≤ a then t.1 else fnd (bgn t) (t.1 - a) a
def enT (t : TX) (i : Nat) : Nat := if t.1 ≤ i then t.1 else if isL (t.2 i) then eL t i else if isD (t.2 i) then eD t i else i + 1
/-- token k's place -/
def tkP (t : TX) : Nat → Nat
  | 0 => nbg t 0
  | k + 1 => nbg t (tkP t k + 1)
def wds : List (List Nat) := [[114, 111, 111, 109], [112, 111, 114, 101, 115], [115, 116, 117, 102, 102], [97, 108, 105, 107, 101], [98, 105, 108, 108]]
/-- the word at i is word w -/
def isW (t : TX) (i w : Nat) : Bool := (eL t i - i == (wds.getD w []).length) && (List.range (wds.getD w []).length).all (fun k => t.2 (i + k) == (wds.getD w []).getD k 0)
/-- kinds: 0 end, 1 colour, 2 number, 3 semicolon, 4 room .. 8 bill, 9 none of these -/
def kdW (t : TX) (i : Nat) : Nat := if eL t i - i = 1 then (if t.2 i < 109 then 1 else 9) else if isW t i 0 then 4 else if isW t i 1 then 5 else if isW t i 2 then 6 else if isW t i 3 then 7 else if isW t i 4 then 8 else 9
def kdN (t : TX) (i : Nat) : Nat := if 3 < eD t i - i ∨ (t.2 i = 48 ∧ 1 < eD t i - i) then 9 else 2
def kdT (t : TX) (i : Nat) : Nat := if t.1 ≤ i then 0 else if isL (t.2 i) then kdW t i else if isD (t.2 i) then kdN t i else if t.2 i = 59 then 3 else 9
def dvl (t : TX) (i : Nat) : Nat → Nat
  | 0 => 0
  | k + 1 => 10 * dvl t i k + (t.2 (i + k) - 48)
def vlT (t : TX) (i : Nat) : Nat := if isL (t.2 i) then t.2 i - 97 else dvl t i (eD t i - i)
theorem nbg_ge {t : TX} {a : Nat} (h : a ≤ t.1) : a ≤ nbg t a := by
  unfold nbg
  split
  · omega
  · exact fnd_ge _ _ _
theorem nbg_le {t : TX} {a : Nat} : nbg t a ≤ t.1 := by
  unfold nbg
  split
  · omega
  · have := fnd_le (bgn t) (t.1 - a) a
    omega
theorem nbg_t {t : TX} {a : Nat} (ha : a < t.1) (h : bgn t a = true) : nbg t a = a := by
  unfold nbg
  rw [if_neg (by omega)]
  obtain ⟨m, hm⟩ : ∃ m, t.1 - a = m + 1 := ⟨t.1 - a - 1, by omega⟩
  rw [hm]
  unfold fnd
  rw [if_pos h]
theorem nbg_f {t : TX} {a : Nat} (ha : a < t.1) (h : bgn t a = false) : nbg t a = nbg t (a + 1) := by
  unfold nbg
  rw [if_neg (by omega)]
  obtain ⟨m, hm⟩ : ∃ m, t.1 - a = m + 1 := ⟨t.1 - a - 1, by omega⟩
  rw [hm]
  conv => lhs; unfold fnd
  rw [h]
  simp only [Bool.false_eq_true, if_false]
  by_cases hq : t.1 ≤ a + 1
  · rw [if_pos hq]
    have : m = 0 := by omega
    subst this
    unfold fnd
    omega
  · rw [if_neg hq, show t.1 - (a + 1) = m by omega]
theorem nbg_skip {t : TX} : ∀ (m a : Nat), a + m ≤ t.1 → (∀ i, a ≤ i → i < a + m → bgn t i = false) → nbg t a = nbg t (a + m)
  | 0, a, _, _ => rfl
  | m + 1, a, h, q => by
    rw [nbg_f (by omega) (q a (by omega) (by omega)), nbg_skip m (a + 1) (by omega) (fun i h1 h2 => q i (by omega) (by omega))]
    congr 1
    omega
theorem tkP_le (t : TX) : ∀ k, tkP t k ≤ t.1
  | 0 => nbg_le
  | _ + 1 => nbg_le
theorem fnd_in {p : Nat → Bool} {n i : Nat} : i ≤ fnd p n i ∧ fnd p n i ≤ i + n := ⟨fnd_ge _ _ _, fnd_le _ _ _⟩
theorem eL_in {t : TX} {i : Nat} (h : i < t.1) : i ≤ eL t i ∧ eL t i ≤ t.1 := by
  have := @fnd_in (fun j => !isL (t.2 j)) (t.1 - i) i
  unfold eL
  omega
theorem eD_in {t : TX} {i : Nat} (h : i < t.1) : i ≤ eD t i ∧ eD t i ≤ t.1 := by
  have := @fnd_in (fun j => !isD (t.2 j)) (t.1 - i) i
  unfold eD
  omega
theorem eL_all {t : TX} {i j : Nat} (h1 : i ≤ j) (h2 : j < eL t i) : isL (t.2 j) = true := by
  have := fnd_f (p := fun j => !isL (t.2 j)) h1 h2
  simpa using this
theorem eD_all {t : TX} {i j : Nat} (h1 : i ≤ j) (h2 : j < eD t i) : isD (t.2 j) = true := by
  have := fnd_f (p := fun j => !isD (t.2 j)) h1 h2
  simpa using this
theorem eL_end {t : TX} {i : Nat} (hi : i < t.1) (h : eL t i < t.1) : isL (t.2 (eL t i)) = false := by
  have this : (!isL (t.2 (eL t i))) = true := fnd_t (p := fun j => !isL (t.2 j)) (n := t.1 - i) (i := i) (by show eL t i < _; omega)
  simpa using this
theorem eD_end {t : TX} {i : Nat} (hi : i < t.1) (h : eD t i < t.1) : isD (t.2 (eD t i)) = false := by
  have this : (!isD (t.2 (eD t i))) = true := fnd_t (p := fun j => !isD (t.2 j)) (n := t.1 - i) (i := i) (by show eD t i < _; omega)
  simpa using this
theorem eL_pos {t : TX} {i : Nat} (hi : i < t.1) (h : isL (t.2 i) = true) : i < eL t i := by
  have h1 := (eL_in hi).1
  rcases Nat.lt_or_ge i (eL t i) with q | q
  · exact q
  · have e : eL t i = i := by omega
    have := eL_end hi (by omega)
    rw [e, h] at this
    cases this
theorem eD_pos {t : TX} {i : Nat} (hi : i < t.1) (h : isD (t.2 i) = true) : i < eD t i := by
  have h1 := (eD_in hi).1
  rcases Nat.lt_or_ge i (eD t i) with q | q
  · exact q
  · have e : eD t i = i := by omega
    have := eD_end hi (by omega)
    rw [e, h] at this
    cases this
/-- a place where no run goes on -/
def cln (t : TX) (a : Nat) : Prop := a = 0 ∨ t.1 ≤ a ∨ (¬ (isL (t.2 (a - 1)) = true ∧ isL (t.2 a) = true) ∧ ¬ (isD (t.2 (a - 1)) = true ∧ isD (t.2 a) = true))
theorem isLD {b : Nat} (h : isL b = true) : isD b = false := by
  rw [isL_iff] at h
  cases hq : isD b with
  | false => rfl
  | true => rw [isD_iff] at hq; omega
theorem isDL {b : Nat} (h : isD b = true) : isL b = false := by
  rw [isD_iff] at h
  cases hq : isL b with
  | false => rfl
  | true => rw [isL_iff] at hq; omega
theorem cln_en {t : TX} (i : Nat) : cln t (enT t i) := by
  unfold enT
  split
  · exact Or.inr (Or.inl (Nat.le_refl _))
  · rename_i hi
    have hi : i < t.1 := by omega
    split
    · rename_i hl
      by_cases h : eL t i < t.1
      · have p := eL_pos hi hl
        have a := eL_all (t := t) (i := i) (j := eL t i - 1) (by omega) (by omega)
        refine Or.inr (Or.inr ⟨fun q => ?_, fun q => ?_⟩)
        · rw [eL_end hi h] at q; cases q.2
        · rw [isLD a] at q; cases q.1
      · exact Or.inr (Or.inl (by omega))
    · split
      · rename_i hl hd
        by_cases h : eD t i < t.1
        · have p := eD_pos hi hd
          have a := eD_all (t := t) (i := i) (j := eD t i - 1) (by omega) (by omega)
          refine Or.inr (Or.inr ⟨fun q => ?_, fun q => ?_⟩)
          · rw [isDL a] at q; cases q.1
          · rw [eD_end hi h] at q; cases q.2
        · exact Or.inr (Or.inl (by omega))
      · rename_i hl hd
        refine Or.inr (Or.inr ⟨fun q => ?_, fun q => ?_⟩)
        · rw [Nat.add_sub_cancel] at q; exact hl q.1
        · rw [Nat.add_sub_cancel] at q; exact hd q.1
theorem skp_in {t : TX} {a : Nat} (h : a ≤ t.1) : a ≤ skp t a ∧ skp t a ≤ t.1 := by
  have := @fnd_in (fun j => !(t.2 j == 32)) (t.1 - a) a
  unfold skp
  omega
/-- behind a run's end the next sign that isn't blank begins the next token -/
theorem skp_nbg {t : TX} {a : Nat} (ha : a ≤ t.1) (c : cln t a) : skp t a = nbg t a := by
  have hi := skp_in ha
  have blank : ∀ j, a ≤ j → j < skp t a → t.2 j = 32 := fun j h1 h2 => by
    have := fnd_f (p := fun j => !(t.2 j == 32)) h1 h2
    simpa using this
  have nb : ∀ j, a ≤ j → j < a + (skp t a - a) → bgn t j = false := fun j h1 h2 => by
    unfold bgn
    rw [blank j h1 (by omega)]
    rfl
  rw [nbg_skip (skp t a - a) a (by omega) nb, show a + (skp t a - a) = skp t a by omega]
  by_cases h : skp t a < t.1
  · have ne : ¬ t.2 (skp t a) = 32 := by
      have this : (!(t.2 (skp t a) == 32)) = true := fnd_t (p := fun j => !(t.2 j == 32)) (n := t.1 - a) (i := a) (by show skp t a < _; omega)
      simpa using this
    refine (nbg_t h ?_).symm
    unfold bgn
    have e1 : (t.2 (skp t a) == 32) = false := by rw [beq_eq_false_iff_ne]; exact ne
    rw [e1]
    by_cases h0 : skp t a = 0
    · rw [h0]; rfl
    · have h0' : (skp t a == 0) = false := by rw [beq_eq_false_iff_ne]; exact h0
      rw [h0']
      by_cases hs : skp t a = a
      · rw [hs] at h h0 ⊢
        rcases c with c | c | ⟨c1, c2⟩
        · exact absurd c h0
        · omega
        · have f1 : (isL (t.2 (a - 1)) && isL (t.2 a)) = false := by
            cases q1 : isL (t.2 (a - 1)) <;> cases q2 : isL (t.2 a) <;> simp_all
          have f2 : (isD (t.2 (a - 1)) && isD (t.2 a)) = false := by
            cases q1 : isD (t.2 (a - 1)) <;> cases q2 : isD (t.2 a) <;> simp_all
          rw [f1, f2]; rfl
      · have b := blank (skp t a - 1) (by omega) (by omega)
        rw [b]
        rfl
  · rw [show skp t a = t.1 by omega]
    unfold nbg
    rw [if_pos (Nat.le_refl _)]
theorem en_in {t : TX} {i : Nat} (hi : i < t.1) : i < enT t i ∧ enT t i ≤ t.1 := by
  unfold enT
  rw [if_neg (by omega)]
  split
  · rename_i hl
    exact ⟨eL_pos hi hl, (eL_in hi).2⟩
  · split
    · rename_i hl hd
      exact ⟨eD_pos hi hd, (eD_in hi).2⟩
    · omega
theorem nbg_en {t : TX} {i : Nat} (hi : i < t.1) : nbg t (i + 1) = nbg t (enT t i) := by
  have h := en_in hi
  have := nbg_skip (t := t) (enT t i - (i + 1)) (i + 1) (by omega) (fun j h1 h2 => ?_)
  · rw [this]; congr 1; omega
  · have h2 : j < enT t i := by omega
    unfold enT at h2
    rw [if_neg (by omega)] at h2
    unfold bgn
    have j0 : (j == 0) = false := by rw [beq_eq_false_iff_ne]; omega
    rw [j0]
    split at h2
    · rw [eL_all (t := t) (i := i) (by omega) h2, eL_all (t := t) (i := i) (j := j - 1) (by omega) (by omega)]
      simp
    · split at h2
      · rw [eD_all (t := t) (i := i) (by omega) h2, eD_all (t := t) (i := i) (j := j - 1) (by omega) (by omega)]
        simp
      · omega
theorem tk_0 (t : TX) : skp t 0 = tkP t 0 := skp_nbg (Nat.zero_le _) (Or.inl rfl)
theorem tk_s (t : TX) (k : Nat) : skp t (enT t (tkP t k)) = tkP t (k + 1) := by
  have hl : enT t (tkP t k) ≤ t.1 := by
    by_cases h : tkP t k < t.1
    · exact (en_in h).2
    · unfold enT; rw [if_pos (by omega)]; exact Nat.le_refl _
  rw [skp_nbg hl (cln_en _)]
  show _ = nbg t (tkP t k + 1)
  by_cases h : tkP t k < t.1
  · exact (nbg_en h).symm
  · unfold enT
    rw [if_pos (by omega)]
    unfold nbg
    rw [if_pos (Nat.le_refl _), if_pos (by omega)]
