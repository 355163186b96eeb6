/-- p holds for the last k of n -/
def lst (p : Nat → Bool) (n : Nat) : Nat → Bool
  | 0 => true
  | k + 1 => lst p n k && p (n - 1 - k)
theorem lst_iff {p : Nat → Bool} {n : Nat} : ∀ k, k ≤ n → (lst p n k = true ↔ ∀ i, n - k ≤ i → i < n → p i = true)
  | 0, _ => ⟨fun _ i h1 h2 => absurd h1 (by omega), fun _ => rfl⟩
  | k + 1, hk => by
    have ih := lst_iff (p := p) (n := n) k (by omega)
    unfold lst
    rw [Bool.and_eq_true, ih]
    constructor
    · rintro ⟨a, b⟩ i h1 h2
      by_cases e : i = n - 1 - k
      · rw [e]; exact b
      · exact a i (by omega) h2
    · intro a
      exact ⟨fun i h1 h2 => a i (by omega) h2, a _ (by omega) (by omega)⟩
theorem dgM_step {n z k : Nat} (hk : k < n) : dgM n z (n - 1 - k) = z / 11 ^ k % 11 := by
  unfold dgM
  rw [show n - 1 - (n - 1 - k) = k by omega]
theorem dgM_le {n z c : Nat} : dgM n z c ≤ 10 := by
  have := Nat.mod_lt (z / 11 ^ (n - 1 - c)) (show 0 < 11 by omega)
  unfold dgM
  omega
theorem enM_le {q r : Nat → Nat} : ∀ n, (∀ c, c < n → q c ≤ r c) → enM q n ≤ enM r n
  | 0, _ => Nat.le_refl _
  | n + 1, h => by
    have ih := enM_le n (fun c hc => h c (by omega))
    have := h n (by omega)
    unfold enM
    omega
theorem enM_st {q r : Nat → Nat} {c : Nat} : ∀ n, (∀ c, c < n → q c ≤ r c) → c < n → q c < r c → enM q n < enM r n
  | 0, _, h, _ => absurd h (by omega)
  | n + 1, h, hc, lt => by
    have hn := h n (by omega)
    unfold enM
    by_cases e : c = n
    · subst e
      have := enM_le (q := q) (r := r) c (fun c hc => h c (by omega))
      omega
    · have := enM_st n (fun c hc => h c (by omega)) (by omega) lt
      omega
