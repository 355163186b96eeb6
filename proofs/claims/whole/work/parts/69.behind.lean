/-! the reference's states: base 11, the first chip foremost -/
def enM (q : Nat → Nat) : Nat → Nat
  | 0 => 0
  | c + 1 => 11 * enM q c + q c
theorem enM_lt {q : Nat → Nat} : ∀ n, (∀ c, c < n → q c ≤ 10) → enM q n < 11 ^ n
  | 0, _ => by unfold enM; omega
  | n + 1, h => by
    have ih := enM_lt n (fun c hc => h c (by omega))
    have := h n (by omega)
    unfold enM
    rw [Nat.pow_succ]
    omega
theorem enM_max {e : PE} (ok : okPE e) {q : Nat → Nat} (v : vq e q) : ∀ n, n ≤ e.1.1 → enM q n < 14641 := fun n hn => by
  have h4 := ok.1
  have := enM_lt (q := q) n (fun c hc => Nat.le_trans (v c (by omega)) (ok.2 c (by omega)).2.2.2.1)
  have : 11 ^ n ≤ 11 ^ 4 := Nat.pow_le_pow_right (by omega) (by omega)
  omega
/-- some chip below n moves -/
def anM (e : PE) (l : Nat) (q : Nat → Nat) (n : Nat) : Bool := (List.range n).any (fun c => mvb e l q c)
theorem anM_s {e : PE} {l : Nat} {q : Nat → Nat} {n : Nat} : anM e l q (n + 1) = (anM e l q n || mvb e l q n) := by
  unfold anM
  rw [List.range_succ]
  simp
theorem anM_wnt {e : PE} (ok : okPE e) {l : Nat} {q : Nat → Nat} : anM e l q e.1.1 = wnt e l q := by
  have : anM e l q e.1.1 = true ↔ wnt e l q = true := by
    rw [wnt_iff ok]
    unfold anM
    simp only [List.any_eq_true, List.mem_range]
    exact ⟨fun ⟨c, _, h⟩ => ⟨c, h⟩, fun ⟨c, h⟩ => ⟨c, (mvb_iff.mp h).1, h⟩⟩
  cases h1 : anM e l q e.1.1 <;> cases h2 : wnt e l q <;> simp_all
