/-! bills matched with paintings -/
abbrev bnN (s : ST) : Nat := s.2.2.1.2.2.2.1
abbrev byN (s : ST) (i : Nat) : Nat := s.2.2.1.2.2.2.2.1 i
abbrev bcN (s : ST) (i : Nat) : Nat := s.2.2.1.2.2.2.2.2 i
def sut (s : ST) (b p last : Nat) : Bool := canY (yE s) (np (pE s)) && (bcN s b == pcl (pE s) p) && decide (ea (yE s) p ≤ byN s b) && decide ((byN s b : Int) ≤ la (yE s) p) && (last == 0 || decide (byN s (last - 1) < byN s b))
theorem sut_iff {s : ST} {b p last : Nat} : sut s b p last = true ↔ (canY (yE s) (np (pE s)) = true ∧ bcN s b = pcl (pE s) p ∧ ea (yE s) p ≤ byN s b ∧ (byN s b : Int) ≤ la (yE s) p ∧ (last = 0 ∨ byN s (last - 1) < byN s b)) := by
  unfold sut
  simp only [Bool.and_eq_true, Bool.or_eq_true, decide_eq_true_eq, beq_iff_eq, and_assoc]
theorem sut_f {s : ST} {b p last : Nat} (n : ¬ (canY (yE s) (np (pE s)) = true ∧ bcN s b = pcl (pE s) p ∧ ea (yE s) p ≤ byN s b ∧ (byN s b : Int) ≤ la (yE s) p ∧ (last = 0 ∨ byN s (last - 1) < byN s b))) : sut s b p last = false := by
  cases z : sut s b p last with
  | false => rfl
  | true => exact absurd (sut_iff.mp z) n
def fbst (s : ST) (f : Nat → Nat) (p last : Nat) : Nat → Nat
  | 0 => f last
  | b + 1 => if sut s b p last && decide (fbst s f p last b < f (b + 1) + 1) then f (b + 1) + 1 else fbst s f p last b
def fitR (s : ST) : Nat → (Nat → Nat)
  | 0 => fun _ => 0
  | m + 1 => fun last => fbst s (fitR s m) (np (pE s) - (m + 1)) last (bnN s)
def fitP (s : ST) (p last : Nat) : Nat := fitR s (np (pE s) - p) last
theorem fitP_n {s : ST} {last : Nat} : fitP s (np (pE s)) last = 0 := by
  unfold fitP
  rw [Nat.sub_self]
  rfl
theorem fitP_s {s : ST} {p last : Nat} (hp : p < np (pE s)) : fitP s p last = fbst s (fitP s (p + 1)) p last (bnN s) := by
  have e1 : fitP s (p + 1) = fitR s (np (pE s) - (p + 1)) := rfl
  rw [e1]
  unfold fitP
  obtain ⟨m, hm⟩ : ∃ m, np (pE s) - p = m + 1 := ⟨np (pE s) - p - 1, by omega⟩
  rw [hm, show np (pE s) - (p + 1) = m by omega]
  show fbst s (fitR s m) (np (pE s) - (m + 1)) last (bnN s) = _
  rw [show np (pE s) - (m + 1) = p by omega]
theorem fbst_le {s : ST} {f : Nat → Nat} {p last N : Nat} (hf : ∀ i, f i ≤ N) : ∀ b, fbst s f p last b ≤ N + 1
  | 0 => by
    have := hf last
    unfold fbst
    omega
  | b + 1 => by
    have ih := fbst_le (s := s) (p := p) (last := last) hf b
    have := hf (b + 1)
    unfold fbst
    split <;> omega
theorem fitR_le {s : ST} : ∀ m i, fitR s m i ≤ m
  | 0, _ => Nat.le_refl _
  | m + 1, i => fbst_le (fitR_le m) _
theorem fitP_le {s : ST} (v : vS s) {p last : Nat} : fitP s p last ≤ 40 := by
  have n40 : np (pE s) ≤ 40 := np_le v.2.1
  have := fitR_le (s := s) (np (pE s) - p) last
  unfold fitP
  omega
/-- bill i can be next -/
def lbc (s : ST) (p last i : Nat) : Bool := sut s i p last && (fitP s (p + 1) (i + 1) + 1 == fitP s p last)
/-- the first from j on, and 1; or 0 -/
def lbj (s : ST) (p last j : Nat) : Nat := if fnd (lbc s p last) (bnN s - j) j < bnN s then fnd (lbc s p last) (bnN s - j) j + 1 else 0
def lbl (s : ST) (p last : Nat) : Nat := if fitP s (p + 1) last = fitP s p last then 0 else lbj s p last 0
def lsq (s : ST) : Nat → Nat
  | 0 => 0
  | p + 1 => if lbl s p (lsq s p) = 0 then lsq s p else lbl s p (lsq s p)
theorem lbj_n {s : ST} {p last j : Nat} (h : j = bnN s) : lbj s p last j = 0 := by
  unfold lbj
  rw [h, Nat.sub_self]
  show (if bnN s < bnN s then bnN s + 1 else 0) = 0
  rw [if_neg (Nat.lt_irrefl _)]
theorem lbj_s {s : ST} {p last j : Nat} (h : j < bnN s) : lbj s p last j = if lbc s p last j then j + 1 else lbj s p last (j + 1) := by
  unfold lbj
  obtain ⟨m, hm⟩ : ∃ m, bnN s - j = m + 1 := ⟨bnN s - j - 1, by omega⟩
  rw [hm, show bnN s - (j + 1) = m by omega]
  have e : fnd (lbc s p last) (m + 1) j = if lbc s p last j then j else fnd (lbc s p last) m (j + 1) := rfl
  rw [e]
  by_cases z : lbc s p last j = true
  · rw [if_pos z, if_pos z, if_pos h]
  · rw [if_neg z, if_neg z]
theorem lbl_le {s : ST} {p last : Nat} : lbl s p last ≤ bnN s := by
  unfold lbl
  split
  · omega
  · unfold lbj
    split <;> omega
theorem lsq_le {s : ST} : ∀ p, lsq s p ≤ bnN s
  | 0 => Nat.zero_le _
  | p + 1 => by
    have := lsq_le (s := s) p
    have := lbl_le (s := s) (p := p) (last := lsq s p)
    unfold lsq
    split <;> omega
