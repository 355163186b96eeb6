/-! the class's states as numbers -/
def str (e : PE) : Nat → Nat
  | 0 => 1
  | c + 1 => str e c * (szP e c + 1)
def dgt (e : PE) (s c : Nat) : Nat := s / str e c % (szP e c + 1)
def enc (e : PE) (q : Nat → Nat) : Nat → Nat
  | 0 => 0
  | c + 1 => enc e q c + q c * str e c
/-- how far a painting of colour l takes chips below n -/
def std (e : PE) (l : Nat) (q : Nat → Nat) : Nat → Nat
  | 0 => 0
  | c + 1 => std e l q c + (if mvb e l q c then str e c else 0)
theorem str_pos (e : PE) : ∀ c, 0 < str e c
  | 0 => by unfold str; omega
  | c + 1 => by
    unfold str
    exact Nat.mul_pos (str_pos e c) (by omega)
theorem str_dvd (e : PE) : ∀ (m c : Nat), ∃ K, str e (c + m) = str e c * K
  | 0, c => ⟨1, by rw [Nat.mul_one]; rfl⟩
  | m + 1, c => by
    obtain ⟨K, h⟩ := str_dvd e m c
    refine ⟨K * (szP e (c + m) + 1), ?_⟩
    show str e (c + m) * (szP e (c + m) + 1) = _
    rw [h, Nat.mul_assoc]
theorem enc_lt {e : PE} {q : Nat → Nat} : ∀ n, (∀ c, c < n → q c ≤ szP e c) → enc e q n < str e n
  | 0, _ => by unfold enc str; omega
  | n + 1, h => by
    have ih := enc_lt n (fun c hc => h c (by omega))
    have hq := h n (by omega)
    show enc e q n + q n * str e n < str e n * (szP e n + 1)
    have : (q n + 1) * str e n ≤ (szP e n + 1) * str e n := Nat.mul_le_mul_right _ (by omega)
    rw [Nat.add_mul, Nat.one_mul] at this
    rw [Nat.mul_comm (str e n)]
    omega
theorem dgt_enc {e : PE} {q : Nat → Nat} : ∀ n, (∀ c, c < n → q c ≤ szP e c) → ∀ c, c < n → dgt e (enc e q n) c = q c
  | 0, _, c, hc => absurd hc (by omega)
  | n + 1, h, c, hc => by
    have lt := enc_lt n (fun c hc => h c (by omega))
    have sp := str_pos e c
    have hq := h c hc
    unfold dgt
    show (enc e q n + q n * str e n) / str e c % (szP e c + 1) = q c
    by_cases ec : c = n
    · subst ec
      rw [Nat.add_mul_div_right _ _ sp, Nat.div_eq_of_lt lt, Nat.zero_add, Nat.mod_eq_of_lt (by omega)]
    · have ih := dgt_enc n (fun c hc => h c (by omega)) c (by omega)
      obtain ⟨K, hK⟩ := str_dvd e (n - (c + 1)) (c + 1)
      rw [show c + 1 + (n - (c + 1)) = n by omega] at hK
      have hK : str e n = str e c * (szP e c + 1) * K := hK
      rw [hK, show q n * (str e c * (szP e c + 1) * K) = (q n * K * (szP e c + 1)) * str e c by ac_rfl, Nat.add_mul_div_right _ _ sp, Nat.add_mul_mod_self_right]
      exact ih
theorem enc_dgt {e : PE} {s : Nat} : ∀ n, enc e (dgt e s) n = s % str e n
  | 0 => by unfold enc str; rw [Nat.mod_one]
  | n + 1 => by
    have ih := enc_dgt (e := e) (s := s) n
    show enc e (dgt e s) n + dgt e s n * str e n = s % (str e n * (szP e n + 1))
    rw [ih, Nat.mod_mul, Nat.mul_comm (str e n)]
    rfl
theorem dgt_v {e : PE} {s : Nat} : vq e (dgt e s) := fun c _ => by
  have := Nat.mod_lt (s / str e c) (show 0 < szP e c + 1 by omega)
  unfold dgt
  omega
theorem enc_nxt {e : PE} {l : Nat} {q : Nat → Nat} : ∀ n, enc e (nxt e l q) n = enc e q n + std e l q n
  | 0 => rfl
  | n + 1 => by
    have ih := enc_nxt (e := e) (l := l) (q := q) n
    show enc e (nxt e l q) n + nxt e l q n * str e n = enc e q n + q n * str e n + (std e l q n + _)
    rw [ih]
    by_cases h : mvb e l q n = true
    · rw [nxt_t h, if_pos h, Nat.add_mul, Nat.one_mul]; omega
    · rw [nxt_f h, if_neg h]; omega
theorem enc_cg {e : PE} {q r : Nat → Nat} : ∀ n, (∀ c, c < n → q c = r c) → enc e q n = enc e r n
  | 0, _ => rfl
  | n + 1, h => by
    unfold enc
    rw [enc_cg n (fun c hc => h c (by omega)), h n (by omega)]
/-- the state behind a painting -/
theorem nxt_dgt {e : PE} {l s : Nat} (hs : s < str e e.1.1) : agr e (nxt e l (dgt e s)) (dgt e (s + std e l (dgt e s) e.1.1)) ∧ s + std e l (dgt e s) e.1.1 < str e e.1.1 := by
  have v : vq e (nxt e l (dgt e s)) := nxt_v dgt_v
  have e1 : enc e (nxt e l (dgt e s)) e.1.1 = s + std e l (dgt e s) e.1.1 := by
    rw [enc_nxt, enc_dgt, Nat.mod_eq_of_lt hs]
  refine ⟨fun c hc => ?_, ?_⟩
  · rw [← e1]
    exact (dgt_enc e.1.1 v c hc).symm
  · rw [← e1]
    exact enc_lt e.1.1 v
theorem str_le {e : PE} (ok : okPE e) : ∀ n, n ≤ e.1.1 → str e n ≤ 11 ^ n
  | 0, _ => Nat.le_refl _
  | n + 1, h => by
    have ih := str_le ok n (by omega)
    have h2 : szP e n ≤ 10 := (ok.2 n (by omega)).2.2.2.1
    unfold str
    rw [Nat.pow_succ]
    exact Nat.mul_le_mul ih (by omega)
theorem str_max {e : PE} (ok : okPE e) {n : Nat} (h : n ≤ e.1.1) : str e n ≤ 14641 := by
  have := str_le ok n h
  have h4 := ok.1
  have : 11 ^ n ≤ 11 ^ 4 := Nat.pow_le_pow_right (by omega) (by omega)
  omega
theorem str_mono (e : PE) : ∀ {c n : Nat}, c ≤ n → str e c ≤ str e n := fun {c n} h => by
  obtain ⟨K, hK⟩ := str_dvd e (n - c) c
  rw [show c + (n - c) = n by omega] at hK
  have := str_pos e n
  rw [hK] at this ⊢
  have hK0 : 0 < K := Nat.pos_of_ne_zero (fun z => by rw [z, Nat.mul_zero] at this; omega)
  exact Nat.le_mul_of_pos_right _ hK0
theorem std_pos {e : PE} {l : Nat} {q : Nat → Nat} : ∀ n, n ≤ e.1.1 → (0 < std e l q n ↔ ∃ c, c < n ∧ mvb e l q c = true)
  | 0, _ => by
    unfold std
    exact ⟨fun h => absurd h (by omega), fun ⟨c, h, _⟩ => absurd h (by omega)⟩
  | n + 1, hn => by
    have ih := std_pos (e := e) (l := l) (q := q) n (by omega)
    have sp := str_pos e n
    unfold std
    constructor
    · intro h
      by_cases m : mvb e l q n = true
      · exact ⟨n, by omega, m⟩
      · rw [if_neg m] at h
        obtain ⟨c, h1, h2⟩ := ih.mp (by omega)
        exact ⟨c, by omega, h2⟩
    · rintro ⟨c, h1, h2⟩
      by_cases ec : c = n
      · subst ec
        rw [if_pos h2]
        omega
      · have := ih.mpr ⟨c, by omega, h2⟩
        omega
theorem std_wnt {e : PE} (ok : okPE e) {l : Nat} {q : Nat → Nat} : 0 < std e l q e.1.1 ↔ wnt e l q = true := by
  rw [std_pos e.1.1 (Nat.le_refl _), wnt_iff ok]
  exact ⟨fun ⟨c, _, h⟩ => ⟨c, h⟩, fun ⟨c, h⟩ => ⟨c, (mvb_iff.mp h).1, h⟩⟩
