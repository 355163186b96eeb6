/-! digits of the reference's states -/
def dgM (n s c : Nat) : Nat := s / 11 ^ (n - 1 - c) % 11
theorem dgM_s {n s c : Nat} (h : c < n) : dgM (n + 1) s c = dgM n (s / 11) c := by
  unfold dgM
  rw [show n + 1 - 1 - c = (n - 1 - c) + 1 by omega, Nat.pow_succ, Nat.mul_comm, Nat.div_div_eq_div_mul]
theorem dgM_n {n s : Nat} : dgM (n + 1) s n = s % 11 := by
  unfold dgM
  rw [show n + 1 - 1 - n = 0 by omega, Nat.pow_zero, Nat.div_one]
theorem dgM_enM {q : Nat → Nat} : ∀ n, (∀ c, c < n → q c ≤ 10) → ∀ c, c < n → dgM n (enM q n) c = q c
  | 0, _, c, hc => absurd hc (by omega)
  | n + 1, h, c, hc => by
    have hn := h n (by omega)
    show dgM (n + 1) (11 * enM q n + q n) c = q c
    by_cases ec : c = n
    · subst ec
      rw [dgM_n]
      omega
    · rw [dgM_s (by omega), show (11 * enM q n + q n) / 11 = enM q n by omega]
      exact dgM_enM n (fun c hc => h c (by omega)) c (by omega)
theorem enM_cg {q r : Nat → Nat} : ∀ n, (∀ c, c < n → q c = r c) → enM q n = enM r n
  | 0, _ => rfl
  | n + 1, h => by
    unfold enM
    rw [enM_cg n (fun c hc => h c (by omega)), h n (by omega)]
theorem enM_dgM : ∀ n s, s < 11 ^ n → enM (dgM n s) n = s
  | 0, s, h => by
    have : s = 0 := by simpa using h
    rw [this]
    rfl
  | n + 1, s, h => by
    rw [Nat.pow_succ] at h
    have ih := enM_dgM n (s / 11) (by omega)
    show 11 * enM (dgM (n + 1) s) n + dgM (n + 1) s n = s
    rw [enM_cg n (fun c hc => dgM_s hc), ih, dgM_n]
    omega
