section ST1
variable {g : mg} {l : Launch} {h : AH}
abbrev cFd : Nat → Nat → Prop := fun a k => (a = 26 ∧ (k = 0 ∨ k = 11)) ∨ (27 ≤ a ∧ a ≤ 36)
theorem rwd_dvd {e : PE} : ∃ M, str e e.1.1 = rwd e * M := by
  by_cases h : e.1.1 = 0
  · exact ⟨str e e.1.1, by unfold rwd; rw [if_pos h, Nat.one_mul]⟩
  · obtain ⟨K, hK⟩ := str_dvd e (e.1.1 - 1) 1
    rw [show 1 + (e.1.1 - 1) = e.1.1 by omega] at hK
    refine ⟨K, ?_⟩
    rw [hK]
    unfold rwd
    rw [if_neg h]
    show 1 * (szP e 0 + 1) * K = _
    rw [Nat.one_mul]
abbrev cF2 : Nat → Nat → Prop := fun a k => (a = 26 ∧ k = 11) ∨ a = 31 ∨ (33 ≤ a ∧ a ≤ 36)
abbrev rNw : Nat → Nat → Prop := fun a k => a = 26 ∧ (k = 5 ∨ 100 ≤ k)
theorem pk_m {e : PE} {p : Nat → Nat} {P : Nat → Nat → Prop} {h2 : AH} (c : Chg P rNw h h2) (ok : okPE e) (hP : ∀ a k, (6 ≤ a ∧ a ≤ 19) ∨ a = 22 → ¬ P a k) (x : pk e p h) : pk e p h2 :=
  ⟨atSH_c c ok.1 (fun a k q1 q2 => hP a k (by omega)) (fun k => by omega) x.1, by rw [c.2.1 _ _ (by omega)]; exact x.2.1, by rw [c.2.1 _ _ (by omega)]; exact x.2.2.1, fun l hl => by rw [c.1 _ _ (hP _ _ (by omega))]; exact x.2.2.2 l hl⟩
/-- the row is long enough behind it -/
theorem wp_makeRoom {Q : AH → Prop} {n : Nat} (hn : n ≤ 14641) (k : ∀ h2, Chg (fun a _ => a = 31) rNw h h2 → n ≤ tLn h2 → Q h2) : SpV g l mX3_makeRoom h [.ref 26, .int (I (n : Int))] Q := by
  refine sX3_makeRoom (fun l1 l2 => ?_)
  have il := I_le (a := (n : Int)) (b := (tLn h : Int)) (by omega) (by omega) (by omega) (by omega)
  refine ⟨fun z => k h Chg.rf (by have := il.mp z; omega), fun z _ _ => ?_⟩
  have z : tLn h < n := by
    apply Classical.byContradiction
    intro y
    exact z (il.mpr (by omega))
  rw [I_mul]
  have e1 : (if I (n : Int) < I (2 * (tLn h : Int)) then I (2 * (tLn h : Int)) else I (n : Int)) = I ((max n (2 * tLn h) : Nat) : Int) := by
    have il := I_lt (a := (n : Int)) (b := (2 * (tLn h : Int))) (by omega) (by omega) (by omega) (by omega)
    by_cases y : n < 2 * tLn h
    · rw [if_pos (il.mpr (by omega)), Nat.max_eq_right (by omega)]
      rfl
    · rw [if_neg (fun x => y (by have := il.mp x; omega)), Nat.max_eq_left (by omega)]
  rw [e1]
  have b1 : n ≤ max n (2 * tLn h) := Nat.le_max_left _ _
  have b2 : max n (2 * tLn h) ≤ 29282 := Nat.max_le.mpr ⟨by omega, by omega⟩
  generalize max n (2 * tLn h) = m at b1 b2
  have fin : ∀ N : Nat, n ≤ N → Q (nT h N) := fun N hN => by
    refine k _ ⟨fun a j q => by rw [nT_i q], fun a j q => ?_, fun _ => rfl, fun _ => rfl⟩ (by rw [nT_ln]; exact hN)
    by_cases a26 : a = 26
    · subst a26
      exact nT_r (by omega) (by omega)
    · rw [nT_o a26]
  have il := I_lt (a := (m : Int)) (b := 14641) (by omega) (by omega) (by omega) (by omega)
  by_cases y : m < 14641
  · refine ⟨m, by rw [if_pos (il.mpr (by omega))], by omega, by omega, fin m b1⟩
  · refine ⟨14641, by rw [if_neg (fun x => y (by have := il.mp x; omega))]; rfl, by omega, by omega, fin 14641 hn⟩
theorem wp_find {Q : AH → Prop} {e : PE} {p : Nat → Nat} (ok : okPE e) (A : atSH h 6 p e.1) (sm : ∀ l, l < 12 → h.1 22 l = I (smk e l : Int) ∧ smk e l < 4096) (k : ∀ h2, Chg cFd (fun a _ => a = 26) h h2 → pcE e h2 → Q h2) : SpV g l mX3_find h [.ref 26, .ref 6, .ref 22] Q := by
  have h4 := ok.1
  have smax := fun n (hn : n ≤ e.1.1) => str_max ok hn
  have wp : 1 ≤ rwd e ∧ rwd e ≤ 11 := by
    unfold rwd
    split
    · omega
    · have : szP e 0 ≤ 10 := (ok.2 0 (by omega)).2.2.2.1
      omega
  obtain ⟨M, hM⟩ := rwd_dvd (e := e)
  refine sX3_find rfl (fun X O => ?_)
  have d0 : Chg cFd (fun a _ => a = 26) h (sR (sR h 26 12 (some 6)) 26 13 (some 22)) := Chg.r (Chg.r Chg.rf rfl) rfl
  have K0 : pk e p (sR (sR h 26 12 (some 6)) 26 13 (some 22)) := by
    refine ⟨atSH_c d0 ok.1 (fun a k q1 q2 => by omega) (fun k => by omega) A, ?_, ?_, sm⟩
    · rw [sR_1, up_n (by omega), sR_1, up_s]
    · rw [sR_1, up_s]
  generalize sR (sR h 26 12 (some 6)) 26 13 (some 22) = h0 at d0 K0
  -- the rows, from the last
  have lp2 : ∀ h5, Chg cFd (fun a _ => a = 26) h h5 → pk e p h5 → str e e.1.1 ≤ tLn h5 → h5.1 26 0 = I 0 → (∀ c, c < e.1.1 → h5.1 32 c = I (str e c : Int)) → ∀ j h1, rwd e * j ≤ str e e.1.1 → Chg cF2 nR h5 h1 → lft e h1 (rwd e * j) → GV g l X Q h1 125 [(0, .ref 26), (4, .int (I (rwd e : Int))), (5, .int (I (((rwd e * j : Nat) : Int) - (rwd e : Int))))] [] := by
    intro h5 d5 K5 LN C0 S j
    induction j with
    | zero =>
      intro h1 _ d F
      have K1 := pk_c ok d (fun a k q => by omega) (fun a k q => id) K5
      refine bX3_find_125 O (br_t ((I_lt0 (by omega) (by omega)).mpr (by rw [Nat.mul_zero]; omega)) ?_)
      rw [Nat.mul_zero] at F
      exact wp_walk ok K1 (fun c hc => by rw [d.1 _ _ (by omega)]; exact S c hc) F (by rw [tLn_c d]; exact LN) (by rw [d.1 _ _ (by omega)]; exact C0) (fun h2 c2 P => k h2 (d5.tr ((d.up (fun a k q => by omega) (fun _ _ q => absurd q id)).tr (c2.up (fun a k q => by omega) (fun _ _ q => absurd q id)))) P)
    | succ j ih =>
      intro h1 hj d F
      rw [Nat.mul_succ] at hj F ⊢
      have s1 := smax e.1.1 (Nat.le_refl _)
      have K1 := pk_c ok d (fun a k q => by omega) (fun a k q => id) K5
      rw [show (((rwd e * j + rwd e : Nat) : Int) - (rwd e : Int)) = ((rwd e * j : Nat) : Int) by omega]
      refine bX3_find_125 O (br_f (by rw [I_lt0 (by omega) (by omega)]; omega) ?_)
      refine wp_plook ok K1 (by omega) (fun h2 c2 s2 => ?_)
      have d2 := d.tr (c2.up (P2 := cF2) (R2 := nR) (fun a k q => by omega) (fun _ _ q => q))
      have K2 := pk_c ok d2 (fun a k q => by omega) (fun a k q => id) K5
      refine wp_findServing ok K2 (by omega) (fun c hc => ⟨by rw [d2.1 _ _ (by omega)]; exact S c hc, (s2 c hc).2⟩) (fun h3 m c3 L => ?_)
      have d3 := d2.tr (c3.up (P2 := cF2) (R2 := nR) (fun a k q => by omega) (fun _ _ q => q))
      have K3 := pk_c ok d3 (fun a k q => by omega) (fun a k q => id) K5
      refine wp_fillRow ok K3 hj L (fun u a b => by rw [c3.1 _ _ (by omega), c2.1 _ _ (by omega)]; exact F u a b) (by rw [tLn_c d3]; exact LN) (fun h4' c4 F4 => ?_)
      rw [I_sub]
      exact ih h4' (by omega) (d3.tr (c4.up (fun a k q => by omega) (fun _ _ q => q))) F4
  have lp1 : ∀ m c h1, c + m = e.1.1 → Chg cFd nR h0 h1 → (∀ i, i < c → h1.1 32 i = I (str e i : Int)) → GVA g l X Q h1 15 [(0, .ref 26), (3, .int (I (str e c : Int))), (4, .int (I (c : Int)))] [] := by
    intro m
    induction m with
    | zero =>
      intro c h1 hc d S
      have ce : c = e.1.1 := by omega
      have K1 := pk_c ok d (fun a k q => by omega) (fun a k q => id) K0
      have s1 := smax e.1.1 (Nat.le_refl _)
      have sp := str_pos e e.1.1
      have wle : rwd e ≤ str e e.1.1 := by
        rw [hM] at sp ⊢
        have hM0 : 0 < M := Nat.pos_of_ne_zero (fun z => by rw [z, Nat.mul_zero] at sp; omega)
        exact Nat.le_mul_of_pos_right _ hM0
      have go : SpV g l mX3_makeRoom (sI h1 26 0 (I 0)) [.ref 26, .int (I (str e e.1.1 : Int))] (fun hv => GV g l X Q hv 125 [(0, .ref 26), (4, .int (I (rwd e : Int))), (5, .int (I (str e e.1.1 : Int) - I (rwd e : Int)))] []) := by
        have dd : Chg cFd nR h0 (sI h1 26 0 (I 0)) := d.i (by omega)
        have KK := pk_c ok dd (fun a k q => by omega) (fun a k q => id) K0
        refine wp_makeRoom s1 (fun h2 c2 ln => ?_)
        have := lp2 h2 (d0.tr ((dd.up (fun _ _ q => q) (fun _ _ q => absurd q id)).tr (c2.up (fun a k q => by omega) (fun a k q => q.1)))) (pk_m c2 ok (fun a k q => by omega) KK) ln (by rw [c2.1 _ _ (by omega), sI_1, up_s]) (fun i hi => by rw [c2.1 _ _ (by omega), sI_o (by omega)]; exact S i (by omega)) M h2 (by omega) Chg.rf (fun u a b => by omega)
        rw [← hM] at this
        rw [I_sub]
        exact this
      rw [ce]
      refine bX3_find_15 O ⟨6, K1.2.1, rfl, ?_⟩
      rw [K1.1.2.2.1]
      refine br_t ((I_le (by omega) (by omega) (by omega) (by omega)).mpr (by omega)) ⟨6, K1.2.1, rfl, ?_⟩
      rw [K1.1.2.2.1, I_le0 (by omega) (by omega), I_lt (by omega) (by omega) (by omega) (by omega)]
      by_cases z : e.1.1 = 0
      · have ew : rwd e = 1 := by unfold rwd; rw [if_pos z]
        rw [ew] at go
        exact br_t (by omega) (br_f (by omega) (br_f (by decide) (br_t ((I_le (by omega) (by omega) (by omega) (by omega)).mpr (by omega)) go)))
      · have ew : rwd e = szP e 0 + 1 := by unfold rwd; rw [if_neg z]
        have A3 : h1.1 (p 0) 3 = I (szP e 0 : Int) := (K1.1.2.2.2 0 (by omega)).2.1
        refine br_f (by omega) ⟨6, K1.2.1, rfl, p 0, K1.1.2.1 0 (by omega), lay_pm (Or.inl rfl) K1.1.1 (by omega), br_f (by omega) ?_⟩
        rw [A3, I_add, I_lt (by omega) (by omega) (by omega) (by omega), I_le (by omega) (by omega) (by omega) (by omega)]
        refine br_f (by omega) (br_t (by omega) ?_)
        rw [ew] at go
        exact go
    | succ m ih =>
      intro c h1 hc d S
      have K1 := pk_c ok d (fun a k q => by omega) (fun a k q => id) K0
      have A3 : h1.1 (p c) 3 = I (szP e c : Int) := (K1.1.2.2.2 c (by omega)).2.1
      have pc := K1.1.1.1 c (by omega)
      refine bX3_find_15 O ⟨6, K1.2.1, rfl, ?_⟩
      rw [K1.1.2.2.1]
      refine br_f (fun q => absurd ((I_le (by omega) (by omega) (by omega) (by omega)).mp q) (by omega)) ⟨c, rfl, by omega, 6, K1.2.1, rfl, c, rfl, by omega, p c, K1.1.2.1 c (by omega), lay_pm (Or.inl rfl) K1.1.1 (by omega), ?_⟩
      rw [sI_o (by omega), A3, I_add, I_mul, I_add]
      refine ih (c + 1) _ (by omega) (d.i (by omega)) (fun i hi => ?_)
      rw [sI_1]
      by_cases ei : i = c
      · subst ei; rw [up_s]
      · rw [up_n ei]; exact S i (by omega)
  exact lp1 e.1.1 0 h0 (by omega) Chg.rf (fun i hi => absurd hi (by omega))
/-- settle: all is found -/
theorem wp_settle {Q : AH → Prop} {s : ST} (v : vS s) (R : RC s h) (M : RM s h) (k : ∀ h2, RC s h2 → RM s h2 → h2.1 0 10 = I 1 → pcE (pE s) h2 → Q h2) : SpV g l mX7_settle h [.ref 0] Q := by
  refine sX7_settle ⟨fun z => ?_, fun z => ?_⟩
  · rcases R.2 with q | ⟨q, P⟩
    · rw [q] at z
      exact absurd y00 z
    · exact k h R M q P
  · refine wp_findSame v R (fun h1 c1 s1 => ?_)
    obtain ⟨p, A⟩ := R.1.2.1
    have A1 : atSH h1 6 p s.2.1 := atSH_c c1 v.2.1.1 (fun a k q1 q2 => by omega) (fun k => id) A
    refine wp_find (e := pE s) (p := p) v.2.1 A1 (fun l' hl' => ⟨s1 l' hl', smk_lt hl' (v.2.2.1.1 l' hl').2.2⟩) (fun h2 c2 P => ?_)
    have d : Chg (fun a k => a = 22 ∨ cFd a k) (fun a _ => a = 26) h h2 := (c1.up (fun a k q => Or.inl q) (fun _ _ q => absurd q id)).tr (c2.up (fun a k q => Or.inr q) (fun _ _ q => q))
    have f : Chg (fun a k => a = 0 ∧ k = 10) nR h2 (sI h2 0 10 (I 1)) := Chg.rf.i ⟨rfl, rfl⟩
    have d' : Chg (fun a k => a = 22 ∨ cFd a k ∨ (a = 0 ∧ k = 10)) (fun a _ => a = 26) h (sI h2 0 10 (I 1)) := (d.up (fun a k q => by omega) (fun _ _ q => q)).tr (f.up (fun a k q => Or.inr (Or.inr q)) (fun _ _ q => absurd q id))
    have P' : pcE (pE s) (sI h2 0 10 (I 1)) := pcE_c f (by omega) (fun a k q1 q2 => by omega) P
    have e1 : (sI h2 0 10 (I 1)).1 0 10 = I 1 := by rw [sI_1, up_s]
    obtain ⟨⟨rT, ⟨p, rS⟩, ⟨b, b', bb⟩, rU, rI, rTr⟩, rCc⟩ := R
    refine k _ ⟨⟨rcT_c (s := s) d' (by omega) (fun k => by omega) rT, ⟨p, atSH_c d' v.2.1.1 (fun a k h1 h2 => by omega) (fun k => by omega) rS⟩, ⟨b, b', rcB_c (s := s) d' (fun a k h1 h2 => by omega) (fun k => by omega) bb⟩, fun j hj => by rw [d'.1 _ _ (by omega)]; exact rU j hj, rcI_c (s := s) d' v (fun a k h1 h2 => by omega) (fun a k hh => by omega) rI, by rw [d'.2.2.1]; exact rTr⟩, Or.inr ⟨e1, P'⟩⟩ (RM_c (d'.up (fun a k q => Or.inl (by omega)) (fun _ _ q => q)) M) e1 P'
end ST1
