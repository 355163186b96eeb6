/-! the colours that chips but the first want -/
theorem std_mono {e : PE} {l : Nat} {q : Nat → Nat} : ∀ {c n : Nat}, c ≤ n → std e l q c ≤ std e l q n
  | c, 0, h => by rw [show c = 0 by omega]; exact Nat.le_refl _
  | c, n + 1, h => by
    by_cases e1 : c = n + 1
    · rw [e1]; exact Nat.le_refl _
    · have := std_mono (e := e) (l := l) (q := q) (c := c) (n := n) (by omega)
      show _ ≤ std e l q n + _
      omega
/-- how far l takes the chips from the second on -/
def sd1 (e : PE) (l : Nat) (q : Nat → Nat) : Nat := std e l q e.1.1 - std e l q 1
theorem std_0 {e : PE} (h0 : e.1.1 = 0) {l : Nat} {q : Nat → Nat} : std e l q 1 = 0 := by
  unfold std std
  rw [if_neg (fun z => by have := (mvb_iff.mp z).1; omega)]
section SV
variable {g : mg} {l : Launch} {h : AH}
theorem wp_stride1 {Q : Int32 → AH → Prop} {e : PE} {p : Nat → Nat} {q : Nat → Nat} {l0 : Nat} (ok : okPE e) (K : pk e p h) (hl : l0 < 12) (S : ∀ c, c < e.1.1 → h.1 32 c = I (str e c : Int) ∧ h.1 34 c = I (wb e q c : Int)) (k : Q (I (sd1 e l0 q : Int)) h) : SpI g l mX3_strideOf h [.ref 26, .int (I (l0 : Int)), .int (I 1)] Q := by
  have h4 := ok.1
  by_cases hn : e.1.1 = 0
  · refine sX3_strideOf (fun X O => bX3_strideOf_5 O ⟨6, K.2.1, rfl, ?_⟩)
    rw [K.1.2.2.1]
    refine br_t ((I_le (by omega) (by omega) (by omega) (by omega)).mpr (by omega)) ?_
    have : sd1 e l0 q = 0 := by
      unfold sd1
      rw [hn]
      show 0 - _ = 0
      omega
    rw [this] at k
    exact k
  · refine wp_strideOf (b := 1) ok K hl S (by omega) ?_
    have := std_mono (e := e) (l := l0) (q := q) (c := 1) (n := e.1.1) (by omega)
    rw [show (std e l0 q e.1.1 : Int) - (std e l0 q 1 : Int) = (sd1 e l0 q : Int) by unfold sd1; omega]
    exact k
/-- the list of them, as found below n -/
def svL (e : PE) (q : Nat → Nat) (h : AH) (m n : Nat) : Prop := h.1 26 11 = I (m : Int) ∧ m ≤ n ∧ (∀ i, i < m → ∃ l, l < n ∧ 0 < sd1 e l q ∧ h.1 35 i = I (l : Int) ∧ h.1 36 i = I (sd1 e l q : Int)) ∧ ∀ l, l < n → 0 < sd1 e l q → ∃ i, i < m ∧ h.1 35 i = I (l : Int) ∧ h.1 36 i = I (sd1 e l q : Int)
theorem sd1_lt {e : PE} (ok : okPE e) {l s : Nat} (hs : s < str e e.1.1) : s + sd1 e l (dgt e s) < 14641 := by
  have := (nxt_dgt (l := l) hs).2
  have := str_max ok (Nat.le_refl e.1.1)
  unfold sd1
  omega
theorem wp_findServing {Q : AH → Prop} {e : PE} {p : Nat → Nat} {s : Nat} (ok : okPE e) (K : pk e p h) (hs : s < str e e.1.1) (S : ∀ c, c < e.1.1 → h.1 32 c = I (str e c : Int) ∧ h.1 34 c = I (wb e (dgt e s) c : Int)) (k : ∀ h2 m, Chg (fun a k => a = 35 ∨ a = 36 ∨ (a = 26 ∧ k = 11)) nR h h2 → svL e (dgt e s) h2 m 12 → Q h2) : SpV g l mX3_findServing h [.ref 26] Q := by
  refine sX3_findServing (fun X O => ?_)
  have lp : ∀ n c m h1, c + n = 12 → Chg (fun a k => a = 35 ∨ a = 36 ∨ (a = 26 ∧ k = 11)) nR h h1 → svL e (dgt e s) h1 m c → GV g l X Q h1 7 [(0, .ref 26), (1, .int (I (c : Int)))] [] := by
    intro n
    induction n with
    | zero =>
      intro c m h1 hc d L
      have hc : c = 12 := by omega
      subst hc
      exact bX3_findServing_7 O (br_t ((I_le (by omega) (by omega) (by omega) (by omega)).mpr (by omega)) (k h1 m d L))
    | succ n ih =>
      intro c m h1 hc d L
      have K1 := pk_c ok d (fun a k q => by omega) (fun a k q => id) K
      have lt := sd1_lt ok (l := c) hs
      refine bX3_findServing_7 O (br_f (fun q => absurd ((I_le (by omega) (by omega) (by omega) (by omega)).mp q) (by omega)) (wp_stride1 (q := dgt e s) ok K1 (by omega) (fun c hc => by rw [d.1 _ _ (by omega), d.1 _ _ (by omega)]; exact S c hc) ?_))
      rw [I_le0 (by omega) (by omega), I_add]
      obtain ⟨L1, L2, L3, L4⟩ := L
      refine ⟨fun z => ih (c + 1) m h1 (by omega) d ⟨L1, by omega, fun i hi => ?_, fun l' hl' hp => ?_⟩, fun z => ⟨m, L1, by omega, m, L1, by omega, ?_⟩⟩
      · obtain ⟨l', a1, a2⟩ := L3 i hi
        exact ⟨l', by omega, a2⟩
      · have : l' ≠ c := fun z2 => by rw [z2] at hp; omega
        exact L4 l' (by omega) hp
      · rw [L1, I_add]
        refine ih (c + 1) (m + 1) _ (by omega) (((d.i (Or.inl rfl)).i (Or.inr (Or.inl rfl))).i (Or.inr (Or.inr ⟨rfl, rfl⟩))) ⟨by rw [sI_1, up_s]; rfl, by omega, fun i hi => ?_, fun l' hl' hp => ?_⟩
        · rw [sI_o (by omega), sI_o (by omega), sI_1, sI_o (by omega), sI_1]
          by_cases ei : i = m
          · subst ei
            rw [up_s, up_s]
            exact ⟨c, by omega, by omega, rfl, rfl⟩
          · rw [up_n ei, up_n ei, sI_o (by omega)]
            obtain ⟨l', a1, a2⟩ := L3 i (by omega)
            exact ⟨l', by omega, a2⟩
        · by_cases el : l' = c
          · subst el
            refine ⟨m, by omega, ?_⟩
            rw [sI_o (by omega), sI_o (by omega), sI_1, sI_o (by omega), sI_1, up_s, up_s]
            exact ⟨rfl, rfl⟩
          · obtain ⟨i, a1, a2⟩ := L4 l' (by omega) hp
            refine ⟨i, by omega, ?_⟩
            rw [sI_o (by omega), sI_o (by omega), sI_1, sI_o (by omega), sI_1, up_n (by omega), up_n (by omega), sI_o (by omega)]
            exact a2
  refine lp 12 0 0 _ (by omega) (Chg.rf.i (Or.inr (Or.inr ⟨rfl, rfl⟩))) ⟨by rw [sI_1, up_s]; rfl, by omega, fun i hi => absurd hi (by omega), fun l' hl' => absurd hl' (by omega)⟩
end SV
/-- what a row's best is: candidates are the first chip alone, and the serving colours -/
theorem row_best {e : PE} (ok : okPE e) {q r : Nat → Nat} (v : vq e q) (b : Nat) (d : ¬ dne e q = true) (hr : (0 < e.1.1 ∧ q 0 < szP e 0) → vq e r ∧ r 0 = q 0 + 1 ∧ ∀ c, 1 ≤ c → c < e.1.1 → r c = q c) (A0 : (0 < e.1.1 ∧ q 0 < szP e 0) → b ≤ Wn e r) (A1 : ∀ l, l < 12 → (∃ c, 1 ≤ c ∧ mvb e l q c = true) → b ≤ Wn e (nxt e l q)) (B : b = 40 ∨ ((0 < e.1.1 ∧ q 0 < szP e 0) ∧ b = Wn e r) ∨ ∃ l, l < 12 ∧ (∃ c, 1 ≤ c ∧ mvb e l q c = true) ∧ b = Wn e (nxt e l q)) : Wn e q = b + 1 := by
  have W40 : Wn e q ≤ 40 := Nat.le_trans (Wn_le ok v) (tot_le ok)
  have up : b + 1 ≤ Wn e q := by
    obtain ⟨l, hl, w, eW⟩ := Wn_best ok v d
    by_cases h : ∃ c, 1 ≤ c ∧ mvb e l q c = true
    · have := A1 l hl h
      omega
    · obtain ⟨c, hc⟩ := (wnt_iff ok).mp w
      have c0 : c = 0 := by
        apply Classical.byContradiction
        intro z
        exact h ⟨c, by omega, hc⟩
      subst c0
      have m0 := mvb_iff.mp hc
      have op : 0 < e.1.1 ∧ q 0 < szP e 0 := ⟨m0.1, m0.2.1⟩
      have R := hr op
      have ag : agr e (nxt e l q) r := fun c' hc' => by
        by_cases z : c' = 0
        · subst z
          rw [nxt_t hc, R.2.1]
        · rw [nxt_f (fun m => h ⟨c', by omega, m⟩), R.2.2 c' (by omega) hc']
      have := A0 op
      rw [Wn_cg ag] at eW
      omega
  have down : Wn e q ≤ b + 1 := by
    rcases B with B | ⟨op, B⟩ | ⟨l, hl, ⟨c, _, hc⟩, B⟩
    · omega
    · have R := hr op
      have m0 : mvb e (coP e 0 (q 0)) q 0 = true := mvb_iff.mpr ⟨op.1, op.2, by unfold smb; simp⟩
      have l12 : coP e 0 (q 0) < 12 := (ok.2 0 op.1).2.2.2.2.1 _ op.2
      have s1 := Wn_step ok v l12 ((wnt_iff ok).mpr ⟨0, m0⟩)
      have s2 := Wn_mono ok (Wn e r) r (nxt e (coP e 0 (q 0)) q) (Nat.le_refl _) R.1 (nxt_v v) (fun c hc => by
        by_cases z : c = 0
        · subst z
          rw [nxt_t m0, R.2.1]
          omega
        · rw [R.2.2 c (by omega) hc]
          exact nxt_ge)
      omega
    · have := Wn_step ok v hl ((wnt_iff ok).mpr ⟨c, hc⟩)
      omega
  omega
