/-! the class's walk, and all of find -/
theorem wk_s {e : PE} {k c : Nat} : wk e k c ≤ wk e (k + 1) c := nxt_ge
theorem wk_m {e : PE} {c : Nat} : ∀ {i k : Nat}, i ≤ k → wk e i c ≤ wk e k c
  | i, 0, h => by rw [show i = 0 by omega]; exact Nat.le_refl _
  | i, k + 1, h => by
    by_cases ei : i = k + 1
    · rw [ei]; exact Nat.le_refl _
    · exact Nat.le_trans (wk_m (i := i) (k := k) (by omega)) wk_s
theorem wk_h {e : PE} {k c : Nat} : wk e (k + 1) c = wk e k c + if hdb e k c then 1 else 0 := by
  show nxt e (fcl e (wk e k)) (wk e k) c = _
  by_cases h : hdb e k c = true
  · rw [if_pos h]; exact nxt_t h
  · rw [if_neg h]; exact nxt_f h
theorem pof_h {e : PE} {k c : Nat} (hk : k < 40) (h : hdb e k c = true) : pof e c (wk e k c) = k := by
  refine fnd_eq hk (fun i hi => ?_) ?_
  · rw [beq_eq_false_iff_ne]
    have := wk_m (e := e) (c := c) (i := i + 1) (k := k) (by omega)
    omega
  · rw [beq_iff_eq, wk_h, if_pos h]
section FN
variable {g : mg} {l : Launch} {h : AH}
abbrev cWk : Nat → Nat → Prop := fun a k => (a = 26 ∧ k = 0) ∨ (27 ≤ a ∧ a ≤ 30) ∨ a = 33 ∨ a = 34
theorem wp_walk {Q : AH → Prop} {e : PE} {p : Nat → Nat} (ok : okPE e) (K : pk e p h) (S : ∀ c, c < e.1.1 → h.1 32 c = I (str e c : Int)) (F : lft e h 0) (LN : str e e.1.1 ≤ tLn h) (C0 : h.1 26 0 = I 0) (k : ∀ h2, Chg cWk nR h h2 → pcE e h2 → Q h2) : SpV g l mX3_walk h [.ref 26] Q := by
  have h4 := ok.1
  have smax := str_max ok (Nat.le_refl e.1.1)
  have n40 := np_le ok
  refine sX3_walk (fun X O => ?_)
  have lp : ∀ m n s h1, n + m = np e → s < str e e.1.1 → agr e (dgt e s) (wk e n) → Chg cWk nR h h1 → h1.1 26 0 = I (n : Int) → (∀ i, i < n → h1.1 27 i = I (pcl e i : Int) ∧ h1.1 28 i = I (hbt e i e.1.1 : Int) ∧ h1.1 29 i = I (dmx e i e.1.1 : Int)) → (∀ c, c < e.1.1 → ∀ j, j < wk e n c → h1.1 30 (c * 10 + j) = I (pof e c j : Int)) → GV g l X Q h1 2 [(0, .ref 26), (1, .int (I (s : Int)))] [] := by
    intro m
    induction m with
    | zero =>
      intro n s h1 hn hs ag d e0 T P
      have en : n = np e := by omega
      have LN1 : str e e.1.1 ≤ tLn h1 := by rw [tLn_c d]; exact LN
      subst en
      have D := wk_end ok
      have w0 : Wn e (dgt e s) = 0 := by rw [Wn_cg ag]; exact (Wn_0 ok (wk_v _)).mpr D
      have fin : Q h1 := k h1 d ⟨e0, T, fun c hc j hj => P c hc j (by rw [dne_iff.mp D c hc]; exact hj)⟩
      refine bX3_walk_2 O ⟨fun _ => fin, fun _ => ⟨s, rfl, by omega, ?_⟩⟩
      rw [d.1 _ _ (by omega), F s (by omega) hs, w0]
      exact br_t (by decide) fin
    | succ m ih =>
      intro n s h1 hn hs ag d e0 T P
      have nd := wk_nd ok (k := n) (by omega)
      have LN1 : str e e.1.1 ≤ tLn h1 := by rw [tLn_c d]; exact LN
      have nd' : ¬ dne e (dgt e s) = true := by rw [dne_cg ag]; exact nd
      have fo := fcl_ok ok (wk_v (e := e) n) nd
      have K1 := pk_c ok d (fun a k q => by omega) (fun a k q => id) K
      have wp : 0 < Wn e (dgt e s) := by
        rcases Nat.eq_zero_or_pos (Wn e (dgt e s)) with z | z
        · exact absurd ((Wn_0 ok dgt_v).mp z) nd'
        · exact z
      have w40 : Wn e (dgt e s) ≤ 40 := Nat.le_trans (Wn_le ok dgt_v) (tot_le ok)
      refine bX3_walk_2 O ?_
      rw [e0, I_le (by omega) (by omega) (by omega) (by omega)]
      refine br_f (by omega) ⟨s, rfl, by omega, ?_⟩
      rw [d.1 _ _ (by omega), F s (by omega) hs, I_le0 (by omega) (by omega)]
      refine br_f (by omega) (wp_plook ok K1 (by omega) (fun h2 c2 s2 => ?_))
      have d2 : Chg cWk nR h h2 := d.tr (c2.up (fun a k q => by omega) (fun _ _ q => q))
      have K2 := pk_c ok d2 (fun a k q => by omega) (fun a k q => id) K
      have F2 : lft e h2 0 := fun u a b => by rw [d2.1 _ _ (by omega)]; exact F u a b
      have S2 : ∀ c, c < e.1.1 → h2.1 32 c = I (str e c : Int) ∧ h2.1 34 c = I (wb e (dgt e s) c : Int) := fun c hc => ⟨by rw [d2.1 _ _ (by omega)]; exact S c hc, (s2 c hc).2⟩
      refine wp_firstColour ok K2 hs S2 F2 (by rw [tLn_c d2]; exact LN) nd' ?_
      rw [fcl_cg ag]
      have c0 : h2.1 26 0 = I (n : Int) := by rw [c2.1 _ _ (by omega)]; exact e0
      refine ⟨n, c0, by omega, ?_⟩
      have f3 : Chg (fun a k => a = 27 ∧ k = n) nR h2 (sI h2 27 n (I (pcl e n : Int))) := Chg.rf.i ⟨rfl, rfl⟩
      have d3 := d2.tr (f3.up (P2 := cWk) (R2 := nR) (fun a k q => by omega) (fun _ _ q => q))
      have K3 := pk_c ok d3 (fun a k q => by omega) (fun a k q => id) K
      have wbc : ∀ c, c < e.1.1 → wb e (dgt e s) c = wb e (wk e n) c := fun c hc => by unfold wb; rw [ag c hc]
      show SpV g l mX3_paint (sI h2 27 n (I (pcl e n : Int))) [.ref 26, .int (I (pcl e n : Int))] _
      refine wp_paint ok K3 (by omega) fo.1 (by rw [f3.1 _ _ (by omega)]; exact c0) (fun c hc => by rw [f3.1 _ _ (by omega), f3.1 _ _ (by omega), ← ag c hc, ← wbc c hc]; exact s2 c hc) (fun h4' c4 e28 e29 al => ?_)
      have u4 : Chg cWk nR (sI h2 27 n (I (pcl e n : Int))) h4' := c4.up (fun a k q => by
        rcases q with ⟨q, _⟩ | ⟨q, _⟩ <;> omega) (fun _ _ q => q)
      have n4 : ∀ a k, ¬ (27 < a ∧ a ≤ 30) → h4'.1 a k = (sI h2 27 n (I (pcl e n : Int))).1 a k := fun a k z => c4.1 a k (fun q => by
        rcases q with ⟨q, _⟩ | ⟨q, _⟩ <;> omega)
      have c04 : h4'.1 26 0 = I (n : Int) := by rw [n4 _ _ (by omega), f3.1 _ _ (by omega)]; exact c0
      rw [c04, I_add]
      have f5 : Chg (fun a k => a = 26 ∧ k = 0) nR h4' (sI h4' 26 0 (I ((n : Int) + 1))) := Chg.rf.i ⟨rfl, rfl⟩
      have d5 := (d3.tr u4).tr (f5.up (P2 := cWk) (R2 := nR) (fun a k q => by omega) (fun _ _ q => q))
      have K5 := pk_c ok d5 (fun a k q => by omega) (fun a k q => id) K
      refine wp_strideOf (q := dgt e s) (b := 0) ok K5 fo.1 (fun c hc => ⟨by rw [d5.1 _ _ (by omega)]; exact S c hc, by rw [f5.1 _ _ (by omega), n4 _ _ (by omega), f3.1 _ _ (by omega)]; exact (s2 c hc).2⟩) (by omega) ?_
      rw [show (std e (fcl e (wk e n)) (dgt e s) e.1.1 : Int) - (std e (fcl e (wk e n)) (dgt e s) 0 : Int) = (std e (fcl e (wk e n)) (dgt e s) e.1.1 : Int) by show _ - ((0 : Nat) : Int) = _; omega, I_add]
      have N := nxt_dgt (l := fcl e (wk e n)) hs
      refine ih (n + 1) (s + std e (fcl e (wk e n)) (dgt e s) e.1.1) _ (by omega) N.2 (fun c hc => ?_) d5 (by rw [sI_1, up_s]; rfl) (fun i hi => ?_) (fun c hc j hj => ?_)
      · rw [← N.1 c hc]
        exact nxt_cg ag c hc
      · rw [f5.1 _ _ (by omega), f5.1 _ _ (by omega), f5.1 _ _ (by omega)]
        by_cases ei : i = n
        · subst ei
          rw [n4 27 _ (by omega), sI_1, up_s]
          exact ⟨rfl, e28, e29⟩
        · have k28 : ∀ a, a = 28 ∨ a = 29 → h4'.1 a i = h1.1 a i := fun a ha => by
            rw [c4.1 _ _ (fun q => by rcases q with ⟨_, q⟩ | ⟨q, _⟩ <;> omega), f3.1 _ _ (by omega), c2.1 _ _ (by omega)]
          rw [n4 27 _ (by omega), f3.1 _ _ (by omega), c2.1 _ _ (by omega), k28 28 (Or.inl rfl), k28 29 (Or.inr rfl)]
          exact T i (by omega)
      · rw [f5.1 _ _ (by omega)]
        have z10 : szP e c ≤ 10 := (ok.2 c hc).2.2.2.1
        have wv := wk_v (e := e) (n + 1) c hc
        rw [wk_h] at hj
        by_cases hit : hdb e n c = true ∧ j = wk e n c
        · rw [hit.2, al c hc hit.1, pof_h (by omega) hit.1]
        · have jl : j < wk e n c := by
            by_cases y : hdb e n c = true
            · rw [if_pos y] at hj
              have : j ≠ wk e n c := fun x => hit ⟨y, x⟩
              omega
            · rw [if_neg y] at hj
              omega
          rw [c4.1 _ _ (fun q => by
            rcases q with ⟨q, _⟩ | ⟨_, c', hc', hh', x⟩
            · omega
            · have := (mvb_iff.mp hh').2.1
              have : szP e c' ≤ 10 := (ok.2 c' hc').2.2.2.1
              have wv2 := wk_m (e := e) (c := c) (i := n) (k := n + 1) (by omega)
              have : c = c' := by omega
              subst this
              omega), f3.1 _ _ (by omega), c2.1 _ _ (by omega)]
          exact P c hc j jl
  refine lp (np e) 0 0 _ (by omega) (str_pos e _) (fun c hc => ?_) Chg.rf (by rw [C0]; rfl) (fun i hi => absurd hi (by omega)) (fun c hc j hj => absurd hj (by show ¬ j < 0; omega))
  unfold dgt
  rw [Nat.zero_div, Nat.zero_mod]
  rfl
end FN
