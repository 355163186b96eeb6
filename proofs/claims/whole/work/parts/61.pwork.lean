/-! paintings: what the fewest is -/
def okPE (e : PE) : Prop := okCS e.1
def vq (e : PE) (q : Nat → Nat) : Prop := ∀ c, c < e.1.1 → q c ≤ szP e c
def rmn (e : PE) (q : Nat → Nat) : Nat → Nat
  | 0 => 0
  | c + 1 => rmn e q c + (szP e c - q c)
abbrev tot (e : PE) (q : Nat → Nat) : Nat := rmn e q e.1.1
theorem mvb_iff {e : PE} {l c : Nat} {q : Nat → Nat} : mvb e l q c = true ↔ c < e.1.1 ∧ q c < szP e c ∧ smb e l (coP e c (q c)) = true := by
  unfold mvb
  simp only [Bool.and_eq_true, decide_eq_true_eq, and_assoc]
theorem wnt_iff {e : PE} (ok : okPE e) {l : Nat} {q : Nat → Nat} : wnt e l q = true ↔ ∃ c, mvb e l q c = true := by
  unfold wnt
  simp only [Bool.or_eq_true]
  constructor
  · rintro (((h | h) | h) | h) <;> exact ⟨_, h⟩
  · rintro ⟨c, h⟩
    have h1 := (mvb_iff.mp h).1
    have h4 := ok.1
    rcases (show c = 0 ∨ c = 1 ∨ c = 2 ∨ c = 3 by omega) with rfl | rfl | rfl | rfl
    · exact Or.inl (Or.inl (Or.inl h))
    · exact Or.inl (Or.inl (Or.inr h))
    · exact Or.inl (Or.inr h)
    · exact Or.inr h
theorem nxt_t {e : PE} {l c : Nat} {q : Nat → Nat} (h : mvb e l q c = true) : nxt e l q c = q c + 1 := by unfold nxt; rw [if_pos h]
theorem nxt_f {e : PE} {l c : Nat} {q : Nat → Nat} (h : ¬ mvb e l q c = true) : nxt e l q c = q c := by unfold nxt; rw [if_neg h]
theorem nxt_ge {e : PE} {l c : Nat} {q : Nat → Nat} : q c ≤ nxt e l q c := by
  by_cases h : mvb e l q c = true
  · rw [nxt_t h]; omega
  · rw [nxt_f h]; omega
theorem nxt_v {e : PE} {l : Nat} {q : Nat → Nat} (v : vq e q) : vq e (nxt e l q) := fun c hc => by
  by_cases h : mvb e l q c = true
  · rw [nxt_t h]
    have := (mvb_iff.mp h).2.1
    omega
  · rw [nxt_f h]; exact v c hc
theorem rmn_mono {e : PE} {q r : Nat → Nat} : ∀ n, (∀ c, c < n → q c ≤ r c) → rmn e r n ≤ rmn e q n
  | 0, _ => Nat.le_refl _
  | n + 1, h => by
    have := rmn_mono (e := e) n (fun c hc => h c (by omega))
    have := h n (by omega)
    unfold rmn
    omega
theorem rmn_lt {e : PE} {q r : Nat → Nat} {c : Nat} : ∀ n, (∀ c, c < n → q c ≤ r c) → c < n → q c < r c → q c < szP e c → rmn e r n + 1 ≤ rmn e q n
  | 0, _, h, _, _ => absurd h (by omega)
  | n + 1, h, hc, h1, h2 => by
    have hn := h n (by omega)
    unfold rmn
    by_cases ec : c = n
    · subst ec
      have := rmn_mono (e := e) c (fun c hc => h c (by omega))
      omega
    · have := rmn_lt n (fun c hc => h c (by omega)) (by omega) h1 h2
      omega
theorem tot_nxt {e : PE} (ok : okPE e) {l : Nat} {q : Nat → Nat} (w : wnt e l q = true) : tot e (nxt e l q) + 1 ≤ tot e q := by
  obtain ⟨c, h⟩ := (wnt_iff ok).mp w
  have := mvb_iff.mp h
  exact rmn_lt e.1.1 (fun c _ => nxt_ge) this.1 (by rw [nxt_t h]; omega) this.2.1
theorem rmn_le {e : PE} (ok : okPE e) {q : Nat → Nat} : ∀ n, n ≤ e.1.1 → rmn e q n ≤ 10 * n
  | 0, _ => Nat.le_refl _
  | n + 1, h => by
    have := rmn_le ok (q := q) n (by omega)
    have h2 : szP e n ≤ 10 := (ok.2 n (by omega)).2.2.2.1
    unfold rmn
    omega
theorem tot_le {e : PE} (ok : okPE e) {q : Nat → Nat} : tot e q ≤ 40 := by
  have := rmn_le ok (q := q) e.1.1 (Nat.le_refl _)
  have := ok.1
  unfold tot
  omega
theorem dne_iff {e : PE} {q : Nat → Nat} : dne e q = true ↔ ∀ c, c < e.1.1 → q c = szP e c := by
  unfold dne
  simp only [List.all_eq_true, List.mem_range, beq_iff_eq]
/-- not done: some colour is wanted -/
theorem wnt_ex {e : PE} (ok : okPE e) {q : Nat → Nat} (v : vq e q) (n : ¬ dne e q = true) : ∃ l, l < 12 ∧ wnt e l q = true := by
  have : ∃ c, c < e.1.1 ∧ q c ≠ szP e c := by
    apply Classical.byContradiction
    intro h
    apply n
    rw [dne_iff]
    intro c hc
    exact Classical.byContradiction (fun z => h ⟨c, hc, z⟩)
  obtain ⟨c, hc, h⟩ := this
  have hv := v c hc
  have lt : q c < szP e c := by omega
  refine ⟨coP e c (q c), (ok.2 c hc).2.2.2.2.1 _ lt, (wnt_iff ok).mpr ⟨c, mvb_iff.mpr ⟨hc, lt, ?_⟩⟩⟩
  unfold smb
  simp
theorem bestOf_le {e : PE} {q : Nat → Nat} {f : (Nat → Nat) → Nat} : ∀ (n l : Nat), l < n → wnt e l q = true → bestOf e q f n ≤ f (nxt e l q) + 1
  | 0, l, h, _ => absurd h (by omega)
  | n + 1, l, h, w => by
    unfold bestOf
    by_cases el : l = n
    · subst el
      rw [w]
      simp only [Bool.true_and, decide_eq_true_eq]
      split <;> omega
    · have := bestOf_le (f := f) n l (by omega) w
      split
      · rename_i z
        simp only [Bool.and_eq_true, decide_eq_true_eq] at z
        omega
      · exact this
theorem bestOf_ex {e : PE} {q : Nat → Nat} {f : (Nat → Nat) → Nat} : ∀ (n : Nat), bestOf e q f n = 99 ∨ ∃ l, l < n ∧ wnt e l q = true ∧ bestOf e q f n = f (nxt e l q) + 1
  | 0 => Or.inl rfl
  | n + 1 => by
    unfold bestOf
    split
    · rename_i z
      simp only [Bool.and_eq_true, decide_eq_true_eq] at z
      exact Or.inr ⟨n, by omega, z.1, rfl⟩
    · rcases bestOf_ex (f := f) n with h | ⟨l, h1, h2, h3⟩
      · exact Or.inl h
      · exact Or.inr ⟨l, by omega, h2, h3⟩
theorem bestOf_cg {e : PE} {q r : Nat → Nat} {f f2 : (Nat → Nat) → Nat} : ∀ (n : Nat), (∀ l, l < n → wnt e l q = wnt e l r) → (∀ l, l < n → wnt e l q = true → f (nxt e l q) = f2 (nxt e l r)) → bestOf e q f n = bestOf e r f2 n
  | 0, _, _ => rfl
  | n + 1, h1, h2 => by
    have ih := bestOf_cg n (fun l hl => h1 l (by omega)) (fun l hl w => h2 l (by omega) w)
    unfold bestOf
    rw [← h1 n (by omega), ← ih]
    by_cases w : wnt e n q = true
    · rw [h2 n (by omega) w]
    · have w : wnt e n q = false := by simpa using w
      rw [w]
      simp
/-- only the chips that there are matter -/
def agr (e : PE) (q r : Nat → Nat) : Prop := ∀ c, c < e.1.1 → q c = r c
theorem mvb_cg {e : PE} {l c : Nat} {q r : Nat → Nat} (a : agr e q r) : mvb e l q c = mvb e l r c := by
  by_cases h : c < e.1.1
  · unfold mvb
    rw [a c h]
  · unfold mvb
    rw [decide_eq_false h]
    rfl
theorem wnt_cg {e : PE} {l : Nat} {q r : Nat → Nat} (a : agr e q r) : wnt e l q = wnt e l r := by
  unfold wnt
  rw [mvb_cg a, mvb_cg a, mvb_cg a, mvb_cg a]
theorem nxt_cg {e : PE} {l : Nat} {q r : Nat → Nat} (a : agr e q r) : agr e (nxt e l q) (nxt e l r) := fun c hc => by
  unfold nxt
  rw [mvb_cg a, a c hc]
theorem dne_cg {e : PE} {q r : Nat → Nat} (a : agr e q r) : dne e q = dne e r := by
  have : dne e q = true ↔ dne e r = true := by
    rw [dne_iff, dne_iff]
    exact ⟨fun h c hc => by rw [← a c hc]; exact h c hc, fun h c hc => by rw [a c hc]; exact h c hc⟩
  cases h1 : dne e q <;> cases h2 : dne e r <;> simp_all
theorem Wf_cg {e : PE} : ∀ (n : Nat) {q r : Nat → Nat}, agr e q r → Wf e n q = Wf e n r
  | 0, _, _, _ => rfl
  | n + 1, q, r, a => by
    unfold Wf
    rw [dne_cg a, bestOf_cg 12 (fun l _ => wnt_cg a) (fun l _ _ => Wf_cg n (nxt_cg a))]
theorem Wn_cg {e : PE} {q r : Nat → Nat} (a : agr e q r) : Wn e q = Wn e r := Wf_cg 40 a
/-- with enough steps one more makes no difference -/
theorem Wf_st {e : PE} (ok : okPE e) : ∀ (n : Nat) (q : Nat → Nat), vq e q → tot e q ≤ n → Wf e n q = Wf e (n + 1) q ∧ Wf e n q ≤ tot e q
  | 0, q, v, h => by
    have : dne e q = true := by
      apply Classical.byContradiction
      intro z
      obtain ⟨l, _, w⟩ := wnt_ex ok v z
      have := tot_nxt ok w
      omega
    unfold Wf
    rw [if_pos this]
    exact ⟨rfl, Nat.zero_le _⟩
  | n + 1, q, v, h => by
    have ih : ∀ l, wnt e l q = true → Wf e n (nxt e l q) = Wf e (n + 1) (nxt e l q) ∧ Wf e n (nxt e l q) ≤ tot e (nxt e l q) := fun l w => by
      have := tot_nxt ok w
      exact Wf_st ok n _ (nxt_v v) (by omega)
    have e1 : Wf e (n + 1) q = if dne e q then 0 else bestOf e q (Wf e n) 12 := by conv => lhs; unfold Wf
    have e2 : Wf e (n + 1 + 1) q = if dne e q then 0 else bestOf e q (Wf e (n + 1)) 12 := by conv => lhs; unfold Wf
    rw [e1, e2]
    by_cases d : dne e q = true
    · rw [if_pos d, if_pos d]
      exact ⟨rfl, Nat.zero_le _⟩
    · rw [if_neg d, if_neg d]
      refine ⟨bestOf_cg 12 (fun _ _ => rfl) (fun l _ w => (ih l w).1), ?_⟩
      obtain ⟨l, hl, w⟩ := wnt_ex ok v d
      have a := bestOf_le (f := Wf e n) 12 l hl w
      have b := (ih l w).2
      have c := tot_nxt ok w
      omega
theorem Wn_le {e : PE} (ok : okPE e) {q : Nat → Nat} (v : vq e q) : Wn e q ≤ tot e q := (Wf_st ok 40 q v (tot_le ok)).2
theorem Wn_st {e : PE} (ok : okPE e) {q : Nat → Nat} (v : vq e q) : Wn e q = if dne e q then 0 else bestOf e q (Wn e) 12 := by
  show Wf e 40 q = _
  rw [(Wf_st ok 40 q v (tot_le ok)).1]
  conv => lhs; unfold Wf
  rfl
theorem Wn_0 {e : PE} (ok : okPE e) {q : Nat → Nat} (v : vq e q) : Wn e q = 0 ↔ dne e q = true := by
  rw [Wn_st ok v]
  by_cases d : dne e q = true
  · rw [if_pos d]; exact ⟨fun _ => d, fun _ => rfl⟩
  · rw [if_neg d]
    refine ⟨fun h => ?_, fun h => absurd h d⟩
    exfalso
    rcases bestOf_ex (e := e) (q := q) (f := Wn e) 12 with h1 | ⟨l, _, _, h1⟩ <;> omega
theorem Wn_step {e : PE} (ok : okPE e) {q : Nat → Nat} (v : vq e q) {l : Nat} (hl : l < 12) (w : wnt e l q = true) : Wn e q ≤ Wn e (nxt e l q) + 1 := by
  rw [Wn_st ok v]
  split
  · omega
  · exact bestOf_le 12 l hl w
theorem Wn_best {e : PE} (ok : okPE e) {q : Nat → Nat} (v : vq e q) (d : ¬ dne e q = true) : ∃ l, l < 12 ∧ wnt e l q = true ∧ Wn e q = Wn e (nxt e l q) + 1 := by
  have h := Wn_st ok v
  rw [if_neg d] at h
  rcases bestOf_ex (e := e) (q := q) (f := Wn e) 12 with h1 | ⟨l, h2, h3, h4⟩
  · exfalso
    have := Wn_le ok v
    have := tot_le ok (q := q)
    omega
  · exact ⟨l, h2, h3, by omega⟩
/-- who is further needs no more -/
theorem Wn_mono {e : PE} (ok : okPE e) : ∀ (n : Nat) (q r : Nat → Nat), Wn e q ≤ n → vq e q → vq e r → (∀ c, c < e.1.1 → q c ≤ r c) → Wn e r ≤ Wn e q
  | n, q, r, hn, vq', vr, h => by
    by_cases d : dne e q = true
    · have : dne e r = true := by
        rw [dne_iff] at d ⊢
        intro c hc
        have := d c hc
        have := h c hc
        have := vr c hc
        omega
      rw [(Wn_0 ok vr).mpr this]
      omega
    · obtain ⟨l, hl, w, eW⟩ := Wn_best ok vq' d
      match n with
      | 0 => omega
      | n + 1 =>
        have le : ∀ c, c < e.1.1 → nxt e l q c ≤ nxt e l r c := fun c hc => by
          have h1 := h c hc
          by_cases ec : q c = r c
          · unfold nxt mvb
            rw [ec]
            omega
          · have : r c ≤ nxt e l r c := nxt_ge
            by_cases m : mvb e l q c = true
            · rw [nxt_t m]; omega
            · rw [nxt_f m]; omega
        have ih := Wn_mono ok n (nxt e l q) (nxt e l r) (by omega) (nxt_v vq') (nxt_v vr) le
        by_cases w2 : wnt e l r = true
        · have := Wn_step ok vr hl w2
          omega
        · have : agr e (nxt e l r) r := fun c hc => nxt_f (fun z => w2 ((wnt_iff ok).mpr ⟨c, z⟩))
          rw [Wn_cg this] at ih
          omega
/-- the first colour that is best -/
theorem fcl_ok {e : PE} (ok : okPE e) {q : Nat → Nat} (v : vq e q) (d : ¬ dne e q = true) : fcl e q < 12 ∧ wnt e (fcl e q) q = true ∧ Wn e (nxt e (fcl e q) q) + 1 = Wn e q := by
  obtain ⟨l, hl, w, eW⟩ := Wn_best ok v d
  have lt : fcl e q < 12 := by
    apply Classical.byContradiction
    intro z
    have := fnd_f (p := fun l => wnt e l q && (Wn e (nxt e l q) + 1 == Wn e q)) (n := 12) (i := 0) (j := l) (by omega) (by show l < fcl e q; omega)
    simp only [w, Bool.true_and, beq_eq_false_iff_ne] at this
    omega
  have ht : (wnt e (fcl e q) q && (Wn e (nxt e (fcl e q) q) + 1 == Wn e q)) = true := fnd_t (p := fun l => wnt e l q && (Wn e (nxt e l q) + 1 == Wn e q)) (n := 12) (i := 0) (by show fcl e q < _; omega)
  simp only [Bool.and_eq_true, beq_iff_eq] at ht
  exact ⟨lt, ht.1, ht.2⟩
theorem wk_v {e : PE} : ∀ k, vq e (wk e k)
  | 0 => fun c hc => Nat.zero_le _
  | k + 1 => nxt_v (wk_v k)
/-- step by step one less -/
theorem wk_W {e : PE} (ok : okPE e) : ∀ k, k ≤ np e → Wn e (wk e k) + k = np e
  | 0, _ => rfl
  | k + 1, h => by
    have ih := wk_W ok k (by omega)
    have d : ¬ dne e (wk e k) = true := fun z => by
      have := (Wn_0 ok (wk_v k)).mpr z
      omega
    have := (fcl_ok ok (wk_v k) d).2.2
    show Wn e (nxt e (fcl e (wk e k)) (wk e k)) + (k + 1) = np e
    omega
theorem wk_nd {e : PE} (ok : okPE e) {k : Nat} (h : k < np e) : ¬ dne e (wk e k) = true := fun z => by
  have := (Wn_0 ok (wk_v k)).mpr z
  have := wk_W ok k (by omega)
  omega
theorem np_le {e : PE} (ok : okPE e) : np e ≤ 40 := Nat.le_trans (Wn_le ok (fun _ _ => Nat.zero_le _)) (tot_le ok)
theorem wk_end {e : PE} (ok : okPE e) : dne e (wk e (np e)) = true := by
  apply (Wn_0 ok (wk_v _)).mp
  have := wk_W ok (np e) (Nat.le_refl _)
  omega
