/-! the class's walk -/
theorem fnd_eq {p : Nat → Bool} {n c : Nat} (hc : c < n) (h1 : ∀ i, i < c → p i = false) (h2 : p c = true) : fnd p n 0 = c := by
  rcases Nat.lt_trichotomy (fnd p n 0) c with z | z | z
  · have := fnd_t (p := p) (n := n) (i := 0) (by omega)
    rw [h1 _ z] at this
    cases this
  · exact z
  · have := fnd_f (p := p) (n := n) (i := 0) (j := c) (by omega) z
    rw [h2] at this
    cases this
theorem fcl_cg {e : PE} {q r : Nat → Nat} (a : agr e q r) : fcl e q = fcl e r := by
  unfold fcl
  congr 1
  funext l
  rw [wnt_cg a, Wn_cg (nxt_cg a), Wn_cg a]
theorem hbt_lt {e : PE} {k : Nat} : ∀ c, hbt e k c < 2 ^ c
  | 0 => by unfold hbt; omega
  | c + 1 => by
    have := hbt_lt (e := e) (k := k) c
    unfold hbt
    rw [Nat.pow_succ]
    split <;> omega
theorem dmx_le {e : PE} (ok : okPE e) {k : Nat} : ∀ c, c ≤ e.1.1 → dmx e k c ≤ 9
  | 0, _ => by unfold dmx; omega
  | c + 1, hc => by
    have ih := dmx_le ok (k := k) c (by omega)
    unfold dmx
    split
    · rename_i h
      have := mvb_iff.mp h
      have : diP e c (wk e k c) ≤ 9 := (ok.2 c (by omega)).2.2.2.2.2 _ this.2.1
      omega
    · exact ih
section WK
variable {g : mg} {l : Launch} {h : AH}
theorem wp_firstColour {Q : Int32 → AH → Prop} {e : PE} {p : Nat → Nat} {s : Nat} (ok : okPE e) (K : pk e p h) (hs : s < str e e.1.1) (S : ∀ c, c < e.1.1 → h.1 32 c = I (str e c : Int) ∧ h.1 34 c = I (wb e (dgt e s) c : Int)) (F : lft e h 0) (LN : str e e.1.1 ≤ tLn h) (d : ¬ dne e (dgt e s) = true) (k : Q (I (fcl e (dgt e s) : Int)) h) : SpI g l mX3_firstColour h [.ref 26, .int (I (s : Int))] Q := by
  have smax := str_max ok (Nat.le_refl e.1.1)
  have v : vq e (dgt e s) := dgt_v
  have fo := fcl_ok ok v d
  have W40 : ∀ {r}, vq e r → Wn e r ≤ 40 := fun vr => Nat.le_trans (Wn_le ok vr) (tot_le ok)
  have w0 := W40 v
  refine sX3_firstColour (fun X O => ?_)
  have lp : ∀ m c, c + m = 12 → c ≤ fcl e (dgt e s) → GI g l X Q h 2 [(0, .ref 26), (1, .int (I (s : Int))), (2, .int (I (c : Int)))] [] := by
    intro m
    induction m with
    | zero => intro c hc hf; omega
    | succ m ih =>
      intro c hc hf
      have N := nxt_dgt (l := c) hs
      have w1 := W40 (nxt_v (l := c) v)
      have sw := std_wnt ok (l := c) (q := dgt e s)
      refine bX3_firstColour_2 O (br_f (fun q => absurd ((I_le (by omega) (by omega) (by omega) (by omega)).mp q) (by omega)) (wp_strideOf (b := 0) ok K (by omega) S (by omega) ?_))
      rw [show (std e c (dgt e s) e.1.1 : Int) - (std e c (dgt e s) 0 : Int) = (std e c (dgt e s) e.1.1 : Int) by show _ - ((0 : Nat) : Int) = _; omega]
      rw [I_le0 (by omega) (by omega), I_add, I_add]
      have no : ¬ (wnt e c (dgt e s) = true ∧ Wn e (nxt e c (dgt e s)) + 1 = Wn e (dgt e s)) → GI g l X Q h 2 [(0, .ref 26), (1, .int (I (s : Int))), (2, .int (I ((c : Int) + 1)))] [] := fun z => by
        refine ih (c + 1) (by omega) ?_
        rcases Nat.lt_or_ge c (fcl e (dgt e s)) with y | y
        · exact y
        · exfalso
          have : c = fcl e (dgt e s) := by omega
          apply z
          rw [this]
          exact fo.2
      refine ⟨fun z => no (fun y => by have := sw.mpr y.1; omega), fun z => ⟨s + std e c (dgt e s) e.1.1, rfl, by have := N.2; omega, s, rfl, by omega, ?_⟩⟩
      have w := sw.mp (by omega)
      rw [F _ (by omega) N.2, F s (by omega) hs, ← Wn_cg N.1, I_sub, I_eq (by omega) (by omega) (by omega) (by omega)]
      refine ⟨fun y => no (fun x => y (by omega)), fun y => ?_⟩
      have : fcl e (dgt e s) = c := by
        rcases Nat.lt_or_ge c (fcl e (dgt e s)) with x | x
        · have f := fnd_f (p := fun l => wnt e l (dgt e s) && (Wn e (nxt e l (dgt e s)) + 1 == Wn e (dgt e s))) (n := 12) (i := 0) (j := c) (by omega) x
          simp only [w, Bool.true_and, beq_eq_false_iff_ne] at f
          omega
        · omega
      rw [this] at k
      exact k
  exact lp 12 0 (by omega) (by omega)
/-- paint at painting n -/
theorem wp_paint {Q : AH → Prop} {e : PE} {p : Nat → Nat} {n : Nat} (ok : okPE e) (K : pk e p h) (hn : n < 40) (l12 : pcl e n < 12) (ec : h.1 26 0 = I (n : Int)) (S : ∀ c, c < e.1.1 → h.1 33 c = I (wk e n c : Int) ∧ h.1 34 c = I (wb e (wk e n) c : Int)) (k : ∀ h2, Chg (fun a k => ((a = 28 ∨ a = 29) ∧ k = n) ∨ (a = 30 ∧ ∃ c, c < e.1.1 ∧ hdb e n c = true ∧ k = c * 10 + wk e n c)) nR h h2 → h2.1 28 n = I (hbt e n e.1.1 : Int) → h2.1 29 n = I (dmx e n e.1.1 : Int) → (∀ c, c < e.1.1 → hdb e n c = true → h2.1 30 (c * 10 + wk e n c) = I (n : Int)) → Q h2) : SpV g l mX3_paint h [.ref 26, .int (I (pcl e n : Int))] Q := by
  have h4 := ok.1
  refine sX3_paint (fun X O => ⟨n, ec, hn, n, ec, hn, ?_⟩)
  have lp : ∀ m c h1, c + m = e.1.1 → Chg (fun a k => ((a = 28 ∨ a = 29) ∧ k = n) ∨ (a = 30 ∧ ∃ c, c < e.1.1 ∧ hdb e n c = true ∧ k = c * 10 + wk e n c)) nR h h1 → h1.1 28 n = I (hbt e n c : Int) → h1.1 29 n = I (dmx e n c : Int) → (∀ i, i < c → hdb e n i = true → h1.1 30 (i * 10 + wk e n i) = I (n : Int)) → GV g l X Q h1 22 [(0, .ref 26), (1, .int (I (pcl e n : Int))), (2, .int (I (c : Int)))] [] := by
    intro m
    induction m with
    | zero =>
      intro c h1 hc d e28 e29 al
      have K1 := pk_c ok d (fun a k q => by omega) (fun a k q => id) K
      have ce : c = e.1.1 := by omega
      subst ce
      refine bX3_paint_22 O ⟨6, K1.2.1, rfl, ?_⟩
      rw [K1.1.2.2.1]
      exact br_t ((I_le (by omega) (by omega) (by omega) (by omega)).mpr (by omega)) (k h1 d e28 e29 al)
    | succ m ih =>
      intro c h1 hc d e28 e29 al
      have K1 := pk_c ok d (fun a k q => by omega) (fun a k q => id) K
      have hcn : c < e.1.1 := by omega
      have K2 := K1.2.2.2 _ l12
      have al' : smk e (pcl e n) &&& wb e (wk e n) c < 4096 := Nat.lt_of_le_of_lt Nat.and_le_left K2.2
      have s34 : h1.1 34 c = I (wb e (wk e n) c : Int) := by rw [d.1 _ _ (by omega)]; exact (S c hcn).2
      have s33 : h1.1 33 c = I (wk e n c : Int) := by rw [d.1 _ _ (by omega)]; exact (S c hcn).1
      have c0 : h1.1 26 0 = I (n : Int) := by rw [d.1 _ _ (by omega)]; exact ec
      refine bX3_paint_22 O ⟨6, K1.2.1, rfl, ?_⟩
      rw [K1.1.2.2.1]
      refine br_f (fun q => absurd ((I_le (by omega) (by omega) (by omega) (by omega)).mp q) (by omega)) ⟨22, K1.2.2.1, rfl, pcl e n, rfl, l12, c, rfl, by omega, ?_⟩
      rw [K2.1, s34, I_and, I_eq0 (by omega) (by omega), show (((smk e (pcl e n) &&& wb e (wk e n) c : Nat) : Int) = 0 ↔ smk e (pcl e n) &&& wb e (wk e n) c = 0) by omega, wb_mvb hcn]
      have eh : hbt e n (c + 1) = hbt e n c + (if hdb e n c then 2 ^ c else 0) := rfl
      have ed : dmx e n (c + 1) = if hdb e n c then max (dmx e n c) (diP e c (wk e n c)) else dmx e n c := rfl
      refine ⟨fun z => ?_, fun z => ?_⟩
      · have z : ¬ hdb e n c = true := z
        rw [I_add]
        refine ih (c + 1) h1 (by omega) d ?_ ?_ (fun i hi hh => ?_)
        · rw [eh, if_neg z, Nat.add_zero]; exact e28
        · rw [ed, if_neg z]; exact e29
        · by_cases ei : i = c
          · subst ei; exact absurd hh z
          · exact al i (by omega) hh
      · have z : hdb e n c = true := Classical.not_not.mp z
        have mv := mvb_iff.mp z
        have z10 : szP e c ≤ 10 := (ok.2 c hcn).2.2.2.1
        have pc := K1.1.1.1 c (by omega)
        refine ⟨n, c0, hn, n, c0, hn, n, c0, hn, 6, K1.2.1, rfl, c, rfl, by omega, p c, K1.1.2.1 c (by omega), lay_pm (Or.inl rfl) K1.1.1 (by omega), c, rfl, by omega, wk e n c, s33, by omega, n, c0, hn, c, rfl, by omega, c * 10 + wk e n c, by rw [s33, I_mul, I_add]; rfl, by omega, ?_⟩
        have A5 : h1.1 (p c + 2) (wk e n c) = I (diP e c (wk e n c) : Int) := (K1.1.2.2.2 c hcn).2.2.2.2 _ mv.2.1
        have d9 : diP e c (wk e n c) ≤ 9 := (ok.2 c hcn).2.2.2.2.2 _ mv.2.1
        have m9 := dmx_le ok (k := n) c (by omega)
        have hb := hbt_lt (e := e) (k := n) c
        rw [sI_o (by omega), A5, e28, e29, c0, I_shl (by omega), I_or, I_add]
        have eo : hbt e n c ||| 2 ^ c = hbt e n c + 2 ^ c := by
          have := Nat.two_pow_add_eq_or_of_lt hb 1
          rw [Nat.mul_one] at this
          rw [Nat.or_comm, ← this, Nat.add_comm]
        have em : (if I (dmx e n c : Int) < I (diP e c (wk e n c) : Int) then I (diP e c (wk e n c) : Int) else I (dmx e n c : Int)) = I ((max (dmx e n c) (diP e c (wk e n c)) : Nat) : Int) := by
          have il := I_lt (a := (dmx e n c : Int)) (b := (diP e c (wk e n c) : Int)) (by omega) (by omega) (by omega) (by omega)
          by_cases y : dmx e n c < diP e c (wk e n c)
          · rw [if_pos (il.mpr (by omega)), Nat.max_eq_right (by omega)]
          · rw [if_neg (fun x => y (by have := il.mp x; omega)), Nat.max_eq_left (by omega)]
        rw [em, eo]
        refine ih (c + 1) _ (by omega) (Chg.i (Chg.i (Chg.i d (Or.inl ⟨Or.inl rfl, rfl⟩)) (Or.inl ⟨Or.inr rfl, rfl⟩)) (Or.inr ⟨rfl, c, hcn, z, rfl⟩)) ?_ ?_ (fun i hi hh => ?_)
        · rw [sI_o (by omega), sI_o (by omega), sI_1, up_s, eh, if_pos z]
        · rw [sI_o (by omega), sI_1, up_s, ed, if_pos z]
        · rw [sI_1]
          by_cases ei : i = c
          · subst ei; rw [up_s]
          · have mi := mvb_iff.mp hh
            have zi : szP e i ≤ 10 := (ok.2 i (by omega)).2.2.2.1
            rw [up_n (by omega), sI_o (by omega), sI_o (by omega)]
            exact al i (by omega) hh
  refine lp e.1.1 0 _ (by omega) (Chg.i (Chg.i Chg.rf (Or.inl ⟨Or.inl rfl, rfl⟩)) (Or.inl ⟨Or.inr rfl, rfl⟩)) ?_ ?_ (fun i hi => absurd hi (by omega))
  · rw [sI_o (by omega), sI_1, up_s]; rfl
  · rw [sI_1, up_s]; rfl
end WK
