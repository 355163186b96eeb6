/-! the reference's states: base 11, the first chip foremost -/
def enM (q : Nat → Nat) : Nat → Nat
  | 0 => 0
  | c + 1 => 11 * enM q c + q c
theorem enM_lt {q : Nat → Nat} : ∀ n, (∀ c, c < n → q c ≤ 10) → enM q n < 11 ^ n
  | 0, _ => by unfold enM; omega
  | n + 1, h => by
    have ih := enM_lt n (fun c hc => h c (by omega))
    have := h n (by omega)
    unfold enM
    rw [Nat.pow_succ]
    omega
theorem enM_max {e : PE} (ok : okPE e) {q : Nat → Nat} (v : vq e q) : ∀ n, n ≤ e.1.1 → enM q n < 14641 := fun n hn => by
  have h4 := ok.1
  have := enM_lt (q := q) n (fun c hc => Nat.le_trans (v c (by omega)) (ok.2 c (by omega)).2.2.2.1)
  have : 11 ^ n ≤ 11 ^ 4 := Nat.pow_le_pow_right (by omega) (by omega)
  omega
/-- some chip below n moves -/
def anM (e : PE) (l : Nat) (q : Nat → Nat) (n : Nat) : Bool := (List.range n).any (fun c => mvb e l q c)
theorem anM_s {e : PE} {l : Nat} {q : Nat → Nat} {n : Nat} : anM e l q (n + 1) = (anM e l q n || mvb e l q n) := by
  unfold anM
  rw [List.range_succ]
  simp
theorem anM_wnt {e : PE} (ok : okPE e) {l : Nat} {q : Nat → Nat} : anM e l q e.1.1 = wnt e l q := by
  have : anM e l q e.1.1 = true ↔ wnt e l q = true := by
    rw [wnt_iff ok]
    unfold anM
    simp only [List.any_eq_true, List.mem_range]
    exact ⟨fun ⟨c, _, h⟩ => ⟨c, h⟩, fun ⟨c, h⟩ => ⟨c, (mvb_iff.mp h).1, h⟩⟩
  cases h1 : anM e l q e.1.1 <;> cases h2 : wnt e l q <;> simp_all
section BH
variable {g : mg} {l : Launch}
/-- as wp_misSame, while the reference is making -/
theorem wp_rmSame {h : AH} {s : ST} {Q : Int32 → AH → Prop} {a b : Nat} (v : vS s) (M : rmS s h) (ha : a < 12) (hb : b < 12) (k : Q (I (if smb (pE s) a b then 1 else 0)) h) : SpI g l mX8_isSame h [.ref 82, .int (I (a : Int)), .int (I (b : Int))] Q := by
  refine sX8_isSame ?_
  have tu := M.2.2.2.1 2 (by omega)
  have t1 := v.2.2.2.1.2.2.1
  rw [tu]
  simp (disch := omega) only [I_eq, I_eq0]
  have al := (v.2.2.1.1 a ha).2.2
  refine ⟨fun q => ?_, fun q => ⟨fun q2 => ?_, fun q2 => ⟨a, rfl, ha, ?_⟩⟩⟩
  · have : smb (pE s) a b = true := by unfold smb; simp; left; omega
    rw [this] at k; exact k
  · have : smb (pE s) a b = false := by
      unfold smb
      have h1 : ¬ a = b := by omega
      have h2 : ¬ (pE s).2.2 = 0 := by show ¬ s.2.2.2.1 2 = 0; omega
      simp [h1, h2]
    rw [this] at k; exact k
  · rw [(M.2.2.1.1 a ha).2.2, I_bit (by omega) (by omega)]
    have : smb (pE s) a b = (s.2.2.1.2.2.1 a).testBit b := by
      unfold smb
      have h1 : ¬ a = b := by omega
      have h2 : (pE s).2.2 = 0 := by show s.2.2.2.1 2 = 0; omega
      have h3 : (a == b) = false := by simpa using h1
      have h4 : ((pE s).2.2 == 0) = true := by simpa using h2
      rw [h3, h4, Bool.false_or, Bool.true_and]
      rfl
    rw [← this]
    cases hq : smb (pE s) a b with
    | true => rw [hq] at k; exact nb_f rfl k
    | false => rw [hq] at k; exact nb_t (by decide) k
/-- what making changes leaves the state -/
def scK (a k : Nat) : Prop := a < 82 ∨ (108 ≤ a ∧ a ≤ 117) ∨ (a = 82 ∧ k ≠ 1 ∧ k ≠ 6 ∧ k ≠ 17)
theorem rmS_c {s : ST} {P R : Nat → Nat → Prop} {h h2 : AH} (e : Chg P R h h2) (p : ∀ a k, P a k → scK a k) (x : rmS s h) : rmS s h2 := by
  obtain ⟨t, c, b, u, i, tr⟩ := x
  have n : ∀ a k, (a = 82 ∧ (k = 1 ∨ k = 6 ∨ k = 17)) ∨ (83 ≤ a ∧ a ≤ 107) → ¬ P a k := fun a k hh q => by
    have := p a k q
    unfold scK at this
    omega
  exact ⟨rmT_c (s := s) e (n _ _ (by omega)) (fun k => n _ _ (by omega)) t, rmCh_c (s := s) e (n _ _ (by omega)) (fun a k h1 h2 => n _ _ (by omega)) c, rmB_c (s := s) e (n _ _ (by omega)) (fun a k h1 h2 => n _ _ (by omega)) b, fun j hj => by rw [e.1 _ _ (n _ _ (by omega))]; exact u j hj, rmI_c (s := s) e (fun a k h1 h2 => n _ _ (by omega)) i, by rw [e.2.2.2]; exact tr⟩
end BH
