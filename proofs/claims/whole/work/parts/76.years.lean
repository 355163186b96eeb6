/-! which painting a coat is -/
theorem wk_ex {e : PE} {c j : Nat} : ∀ n, j < wk e n c → ∃ i, i < n ∧ hdb e i c = true ∧ wk e i c = j
  | 0, h => absurd h (by show ¬ j < 0; omega)
  | n + 1, h => by
    rw [wk_h] at h
    by_cases lt : j < wk e n c
    · obtain ⟨i, h1, h2, h3⟩ := wk_ex n lt
      exact ⟨i, by omega, h2, h3⟩
    · by_cases y : hdb e n c = true
      · rw [if_pos y] at h
        exact ⟨n, by omega, y, by omega⟩
      · rw [if_neg y] at h
        omega
theorem pof_ex {e : PE} (ok : okPE e) {c j : Nat} (hc : c < e.1.1) (hj : j < szP e c) : pof e c j < np e ∧ hdb e (pof e c j) c = true ∧ wk e (pof e c j) c = j := by
  have w : wk e (np e) c = szP e c := dne_iff.mp (wk_end ok) c hc
  obtain ⟨i, h1, h2, h3⟩ := wk_ex (e := e) (c := c) (j := j) (np e) (by omega)
  have n40 := np_le ok
  have := pof_h (e := e) (k := i) (c := c) (by omega) h2
  rw [h3] at this
  rw [this]
  exact ⟨h1, h2, h3⟩
theorem pof_iff {e : PE} (ok : okPE e) {c j p : Nat} (hc : c < e.1.1) (hj : j < szP e c) (hp : p < np e) : pof e c j = p ↔ hdb e p c = true ∧ wk e p c = j := by
  have n40 := np_le ok
  constructor
  · intro h
    have := pof_ex ok hc hj
    rw [h] at this
    exact this.2
  · rintro ⟨h1, h2⟩
    rw [← h2]
    exact pof_h (by omega) h1
theorem pcl_lt {e : PE} (ok : okPE e) {k : Nat} (h : k < np e) : pcl e k < 12 := (fcl_ok ok (wk_v k) (wk_nd ok h)).1
def ofM (s : ST) (h : AH) : Prop := ∀ c, c < s.2.1.1 → ∀ j, j < szP (pE s) c → h.1 114 (10 * c + j) = I (pof (pE s) c j : Int)
/-- up to coat k -/
def dmk (e : PE) (p c k : Nat) : Nat := if hdb e p c && decide (wk e p c < k) then max (dmx e p c) (diP e c (wk e p c)) else dmx e p c
theorem dmk_0 {e : PE} {p c : Nat} : dmk e p c 0 = dmx e p c := by unfold dmk; rw [if_neg (by simp)]
theorem dmk_e {e : PE} {p c : Nat} : dmk e p c (szP e c) = dmx e p (c + 1) := by
  unfold dmk
  show _ = if hdb e p c then max (dmx e p c) (diP e c (wk e p c)) else dmx e p c
  by_cases y : hdb e p c = true
  · have := (mvb_iff.mp y).2.1
    rw [if_pos y, if_pos (by simp [y]; omega)]
  · rw [if_neg y, if_neg (by simp [y])]
theorem dmk_n {e : PE} {p c k : Nat} (h : ¬ (hdb e p c = true ∧ wk e p c = k)) : dmk e p c (k + 1) = dmk e p c k := by
  unfold dmk
  by_cases y : hdb e p c = true
  · have : wk e p c ≠ k := fun z => h ⟨y, z⟩
    simp only [y, Bool.true_and, decide_eq_true_eq]
    by_cases z : wk e p c < k
    · rw [if_pos z, if_pos (by omega)]
    · rw [if_neg z, if_neg (by omega)]
  · rw [if_neg (by simp [y]), if_neg (by simp [y])]
theorem dmk_y {e : PE} {p c k : Nat} (h1 : hdb e p c = true) (h2 : wk e p c = k) : dmk e p c k = dmx e p c ∧ dmk e p c (k + 1) = max (dmx e p c) (diP e c k) := by
  unfold dmk
  rw [h2]
  exact ⟨if_neg (by simp), if_pos (by simp [h1])⟩
theorem ltr_le {s : ST} (v : vS s) {p : Nat} : ltr (yE s) p ≤ 181 := by
  have ok : okPE (pE s) := v.2.1
  have h1 := dmx_le ok (k := p) s.2.1.1 (Nat.le_refl _)
  have h2 := v.2.2.2.1.2.2.2.1
  have : s.2.2.2.1 3 * dmx (pE s) p s.2.1.1 ≤ 20 * 9 := Nat.mul_le_mul h2 h1
  show s.2.2.2.1 3 * dmx (pE s) p s.2.1.1 + 1 ≤ 181
  omega
theorem ea_le {s : ST} (v : vS s) : ∀ p, p < np (pE s) → ea (yE s) p ≤ 999 + 181 * p
  | 0, hp => by
    have := (v.2.2.1.1 _ (pcl_lt (e := pE s) v.2.1 hp)).1
    show s.2.2.1.1 (pcl (pE s) 0) ≤ _
    omega
  | p + 1, hp => by
    have ih := ea_le v p (by omega)
    have := (v.2.2.1.1 _ (pcl_lt (e := pE s) v.2.1 hp)).1
    have := ltr_le v (p := p)
    show max (ea (yE s) p + ltr (yE s) p) (s.2.2.1.1 (pcl (pE s) (p + 1))) ≤ _
    omega
theorem la_last {s : ST} {p : Nat} (hp : p + 1 = np (pE s)) : la (yE s) p = min 999 (s.2.2.1.2.1 (pcl (pE s) p) : Int) := by
  show lb (yE s) (np (pE s) - 1 - p) = _
  rw [show np (pE s) - 1 - p = 0 by omega]
  show min 999 (s.2.2.1.2.1 (pcl (pE s) (np (pE s) - 1)) : Int) = _
  rw [show np (pE s) - 1 = p by omega]
theorem la_step {s : ST} {p : Nat} (hp : p + 1 < np (pE s)) : la (yE s) p = min (la (yE s) (p + 1) - (ltr (yE s) p : Int)) (s.2.2.1.2.1 (pcl (pE s) p) : Int) := by
  obtain ⟨i, hi⟩ : ∃ i, i + p + 2 = np (pE s) := ⟨np (pE s) - 2 - p, by omega⟩
  show lb (yE s) (np (pE s) - 1 - p) = min (lb (yE s) (np (pE s) - 1 - (p + 1)) - _) _
  rw [show np (pE s) - 1 - p = i + 1 by omega, show np (pE s) - 1 - (p + 1) = i by omega]
  show min (lb (yE s) i - (ltr (yE s) (np (pE s) - 2 - i) : Int)) (s.2.2.1.2.1 (pcl (pE s) (np (pE s) - 2 - i)) : Int) = _
  rw [show np (pE s) - 2 - i = p by omega]
theorem la_in {s : ST} (v : vS s) : ∀ m p, p + m + 1 = np (pE s) → -(181 * (m : Int)) ≤ la (yE s) p ∧ la (yE s) p ≤ 999
  | 0, p, hp => by
    have := (v.2.2.1.1 _ (pcl_lt (e := pE s) v.2.1 (show p < np (pE s) by omega))).2.1
    rw [la_last (by omega)]
    omega
  | m + 1, p, hp => by
    have ih := la_in v m (p + 1) (by omega)
    have := (v.2.2.1.1 _ (pcl_lt (e := pE s) v.2.1 (show p < np (pE s) by omega))).2.1
    have := ltr_le v (p := p)
    rw [la_step (by omega)]
    omega
theorem la_in2 {s : ST} (v : vS s) {p : Nat} (hp : p < np (pE s)) : -7240 ≤ la (yE s) p ∧ la (yE s) p ≤ 999 := by
  have n40 : np (pE s) ≤ 40 := np_le v.2.1
  have := la_in v (np (pE s) - 1 - p) p (by omega)
  omega
section YR
variable {g : mg} {l : Launch} {h : AH}
theorem e86M {s : ST} (M : rmS s h) {c : Nat} (hc : c < s.2.1.1) : h.1 86 c = I (szP (pE s) c : Int) := by
  have := (M.2.1.2 c hc).2.2.1
  rw [Nat.mul_zero, Nat.zero_add] at this
  exact this
theorem e87M {s : ST} (M : rmS s h) {c j : Nat} (hc : c < s.2.1.1) (hj : j < szP (pE s) c) : h.1 87 (10 * c + j) = I (coP (pE s) c j : Int) := by
  have := ((M.2.1.2 c hc).2.2.2 j hj).1
  rw [show 10 * (4 * 0) + 10 * c + j = 10 * c + j by omega] at this
  exact this
theorem e88M {s : ST} (M : rmS s h) {c j : Nat} (hc : c < s.2.1.1) (hj : j < szP (pE s) c) : h.1 88 (10 * c + j) = I (diP (pE s) c j : Int) := by
  have := ((M.2.1.2 c hc).2.2.2 j hj).2
  rw [show 10 * (4 * 0) + 10 * c + j = 10 * c + j by omega] at this
  exact this
theorem wp_hasPainting {Q : Int32 → AH → Prop} {s : ST} {c p : Nat} (v : vS s) (M : rmS s h) (P : ofM s h) (hc : c < s.2.1.1) (hp : p < np (pE s)) (k : Q (I (if hdb (pE s) p c then 1 else 0)) h) : SpI g l mX8_hasPainting h [.ref 82, .int (I (c : Int)), .int (I (p : Int))] Q := by
  have ok : okPE (pE s) := v.2.1
  have h4 : s.2.1.1 ≤ 4 := ok.1
  have n40 := np_le ok
  have z10 : szP (pE s) c ≤ 10 := (ok.2 c hc).2.2.2.1
  have e86 := e86M M hc
  refine sX8_hasPainting (fun X O => ?_)
  have lp : ∀ m j, j + m = szP (pE s) c → GI g l X Q h 5 [(0, .ref 82), (1, .int (I (c : Int))), (2, .int (I (p : Int))), (3, .int (I (if hdb (pE s) p c && decide (wk (pE s) p c < j) then 1 else 0))), (4, .int (I (j : Int)))] [] := by
    intro m
    induction m with
    | zero =>
      intro j hj
      have ej : (hdb (pE s) p c && decide (wk (pE s) p c < j)) = hdb (pE s) p c := by
        cases y : hdb (pE s) p c with
        | false => rfl
        | true =>
          have := (mvb_iff.mp y).2.1
          simp
          omega
      refine bX8_hasPainting_5 O ⟨c, rfl, by omega, ?_⟩
      rw [e86, ej]
      refine br_t ((I_le (by omega) (by omega) (by omega) (by omega)).mpr (by omega)) ⟨?_, k⟩
      cases hdb (pE s) p c
      · exact Or.inl rfl
      · exact Or.inr rfl
    | succ m ih =>
      intro j hj
      have hjz : j < szP (pE s) c := by omega
      have pf := pof_ex ok hc hjz
      have e114 := P c hc j hjz
      have pi := pof_iff ok hc hjz hp
      have IH : ∀ b : Bool, (hdb (pE s) p c && decide (wk (pE s) p c < j + 1)) = b → GI g l X Q h 5 [(0, .ref 82), (1, .int (I (c : Int))), (2, .int (I (p : Int))), (3, .int (I (if b then 1 else 0))), (4, .int (I (j : Int) + I 1))] [] := fun b eb => by
        rw [I_add, ← eb]
        exact ih (j + 1) (by omega)
      refine bX8_hasPainting_5 O ⟨c, rfl, by omega, ?_⟩
      rw [e86]
      refine br_f (fun q => absurd ((I_le (by omega) (by omega) (by omega) (by omega)).mp q) (by omega)) ?_
      cases hb : (hdb (pE s) p c && decide (wk (pE s) p c < j)) with
      | true =>
        refine nb_t n10 (IH true ?_)
        simp only [Bool.and_eq_true, decide_eq_true_eq] at hb ⊢
        exact ⟨hb.1, by omega⟩
      | false =>
        refine nb_f y00 ⟨10 * c + j, by rw [I_mul, I_add]; rfl, by omega, ?_⟩
        rw [e114, I_eq (by omega) (by omega) (by omega) (by omega)]
        refine ⟨fun y => IH false ?_, fun y => IH true ?_⟩
        · have y' : ¬ pof (pE s) c j = p := by omega
          rw [pi] at y'
          cases hh : hdb (pE s) p c with
          | false => rfl
          | true =>
            simp only [hh, Bool.true_and, decide_eq_false_iff_not] at hb ⊢
            have : ¬ wk (pE s) p c = j := fun z => y' ⟨hh, z⟩
            omega
        · have y' := pi.mp (by omega)
          simp only [y'.1, Bool.true_and, decide_eq_true_eq]
          omega
  have := lp (szP (pE s) c) 0 (by omega)
  rw [show (hdb (pE s) p c && decide (wk (pE s) p c < 0)) = false by simp] at this
  exact this
theorem wp_later {Q : Int32 → AH → Prop} {s : ST} {p : Nat} (v : vS s) (M : rmS s h) (P : ofM s h) (hp : p < np (pE s)) (k : Q (I (ltr (yE s) p : Int)) h) : SpI g l mX8_later h [.ref 82, .int (I (p : Int))] Q := by
  have ok : okPE (pE s) := v.2.1
  have h4 : s.2.1.1 ≤ 4 := ok.1
  have n40 := np_le ok
  have e6 : h.1 82 6 = I (s.2.1.1 : Int) := M.2.1.1
  refine sX8_later (fun X O => ?_)
  have lp : ∀ m c, c + m = s.2.1.1 → GI g l X Q h 4 [(0, .ref 82), (1, .int (I (p : Int))), (2, .int (I (dmx (pE s) p c : Int))), (3, .int (I (c : Int)))] [] := by
    intro m
    induction m with
    | zero =>
      intro c hc
      have ce : c = s.2.1.1 := by omega
      refine bX8_later_4 O ?_
      rw [e6, M.2.2.2.1 3 (by omega), I_mul, I_add, ce]
      exact br_t ((I_le (by omega) (by omega) (by omega) (by omega)).mpr (by omega)) k
    | succ m ih =>
      intro c hc
      have hcn : c < s.2.1.1 := by omega
      have z10 : szP (pE s) c ≤ 10 := (ok.2 c hcn).2.2.2.1
      have e86 := e86M M hcn
      have in1 : ∀ m j, j + m = szP (pE s) c → GI g l X Q h 15 [(0, .ref 82), (1, .int (I (p : Int))), (2, .int (I (dmk (pE s) p c j : Int))), (3, .int (I (c : Int))), (4, .int (I (j : Int)))] [] := by
        intro m
        induction m with
        | zero =>
          intro j hj
          have ej : j = szP (pE s) c := by omega
          refine bX8_later_15 O ⟨c, rfl, by omega, ?_⟩
          rw [e86, I_add, ej, dmk_e]
          exact br_t ((I_le (by omega) (by omega) (by omega) (by omega)).mpr (by omega)) (ih (c + 1) (by omega))
        | succ m ih2 =>
          intro j hj
          have hjz : j < szP (pE s) c := by omega
          have pf := pof_ex ok hcn hjz
          have e114 := P c hcn j hjz
          have e88 := e88M M hcn hjz
          have pi := pof_iff ok hcn hjz hp
          have d9 : diP (pE s) c j ≤ 9 := (ok.2 c hcn).2.2.2.2.2 j hjz
          have m9 := dmx_le ok (k := p) c (by show c ≤ s.2.1.1; omega)
          have IH : ∀ b : Nat, dmk (pE s) p c (j + 1) = b → GI g l X Q h 15 [(0, .ref 82), (1, .int (I (p : Int))), (2, .int (I (b : Int))), (3, .int (I (c : Int))), (4, .int (I (j : Int) + I 1))] [] := fun b eb => by
            rw [I_add, ← eb]
            exact ih2 (j + 1) (by omega)
          refine bX8_later_15 O ⟨c, rfl, by omega, ?_⟩
          rw [e86]
          refine br_f (fun q => absurd ((I_le (by omega) (by omega) (by omega) (by omega)).mp q) (by omega)) ⟨10 * c + j, by rw [I_mul, I_add]; rfl, by omega, ?_⟩
          rw [e114, I_eq (by omega) (by omega) (by omega) (by omega)]
          refine ⟨fun y => IH _ (dmk_n (fun z => y (by have := pi.mpr z; omega))), fun y => ⟨10 * c + j, by rw [I_mul, I_add]; rfl, by omega, ?_⟩⟩
          have y' := pi.mp (by omega)
          have dy := dmk_y y'.1 y'.2
          rw [e88, dy.1, I_le (by omega) (by omega) (by omega) (by omega)]
          refine ⟨fun z => IH _ (by rw [dy.2]; omega), fun z => ⟨10 * c + j, by rw [I_mul, I_add]; rfl, by omega, ?_⟩⟩
          rw [e88]
          exact IH _ (by rw [dy.2]; omega)
      refine bX8_later_4 O ?_
      rw [e6]
      refine br_f (fun q => absurd ((I_le (by omega) (by omega) (by omega) (by omega)).mp q) (by omega)) ?_
      have := in1 (szP (pE s) c) 0 (by omega)
      rw [dmk_0] at this
      exact this
  exact lp s.2.1.1 0 (by omega)
end YR
