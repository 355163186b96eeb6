/-! the reference's step from painting to painting -/
def tabW (s : ST) (h : AH) : Prop := ∀ q, vq (pE s) q → h.1 110 (enM q s.2.1.1) = I (Wn (pE s) q : Int)
theorem tabW_c {s : ST} {P R : Nat → Nat → Prop} {h h2 : AH} (e : Chg P R h h2) (p : ∀ k, ¬ P 110 k) (x : tabW s h) : tabW s h2 := fun q v => by rw [e.1 _ _ (p _)]; exact x q v
abbrev cGo (n : Nat) : Nat → Nat → Prop := fun a k => a = 111 ∨ a = 112 ∨ (a = 82 ∧ (k = 50 ∨ k = 38)) ∨ (a = 113 ∧ k = n) ∨ a = 114
section GO
variable {g : mg} {l : Launch} {h : AH}
theorem lp_goOn {X : XT} {Q : Int32 → AH → Prop} (O : Ok (FF g l X) RX8 cX8_goOn 5 mX8_goOn.2.2.2.2 (some .int)) {s : ST} {n : Nat} {x3 : Int32} (v : vS s) (M : rmS s h) (hn : n < 40) (k : ∀ h2, Chg (cGo n) nR h h2 → (∀ c, c < s.2.1.1 → h2.1 111 c = I (wk (pE s) (n + 1) c : Int)) → h2.1 82 38 = I ((n + 1 : Nat) : Int) → h2.1 113 n = I (pcl (pE s) n : Int) → (∀ c, c < s.2.1.1 → hdb (pE s) n c = true → h2.1 114 (10 * c + wk (pE s) n c) = I (n : Int)) → (∀ c j, c < s.2.1.1 → j < wk (pE s) n c → h2.1 114 (10 * c + j) = h.1 114 (10 * c + j)) → Q x3 h2) : ∀ m c h1, c + m = s.2.1.1 → Chg (fun a k => a = 111 ∨ a = 112 ∨ (a = 82 ∧ k = 50) ∨ (a = 113 ∧ k = n) ∨ a = 114) nR h h1 → h1.1 82 38 = I (n : Int) → (∀ i, i < s.2.1.1 → h1.1 112 i = I (wk (pE s) (n + 1) i : Int)) → (∀ i, i < c → h1.1 111 i = I (wk (pE s) (n + 1) i : Int)) → (∀ i, c ≤ i → i < s.2.1.1 → h1.1 111 i = I (wk (pE s) n i : Int)) → h1.1 113 n = I (pcl (pE s) n : Int) → (∀ i, i < c → hdb (pE s) n i = true → h1.1 114 (10 * i + wk (pE s) n i) = I (n : Int)) → (∀ i j, i < s.2.1.1 → j < wk (pE s) n i → h1.1 114 (10 * i + j) = h.1 114 (10 * i + j)) → GI g l X Q h1 57 [(0, .ref 82), (3, .int x3), (4, .int (I (c : Int)))] [] := by
  have ok : okPE (pE s) := v.2.1
  have h4 : s.2.1.1 ≤ 4 := ok.1
  intro m
  induction m with
  | zero =>
    intro c h1 hc d e38 N A B e113 P F
    have ce : c = s.2.1.1 := by omega
    subst ce
    have M1 := rmS_c (s := s) d (fun a k q => by unfold scK; omega) M
    have e6 : h1.1 82 6 = I (s.2.1.1 : Int) := M1.2.1.1
    refine bX8_goOn_57 O ?_
    rw [e6, e38, I_add]
    have f : Chg (fun a k => a = 82 ∧ k = 38) nR h1 (sI h1 82 38 (I ((n : Int) + 1))) := Chg.rf.i ⟨rfl, rfl⟩
    refine br_t ((I_le (by omega) (by omega) (by omega) (by omega)).mpr (by omega)) (k _ ((d.up (fun a k q => by omega) (fun _ _ q => q)).tr (f.up (fun a k q => by omega) (fun _ _ q => q))) (fun i hi => by rw [f.1 _ _ (by omega)]; exact A i hi) (by rw [sI_1, up_s]; rfl) (by rw [f.1 _ _ (by omega)]; exact e113) (fun i hi hh => by rw [f.1 _ _ (by omega)]; exact P i hi hh) (fun i j hi hj => by rw [f.1 _ _ (by omega)]; exact F i j hi hj))
  | succ m ih =>
    intro c h1 hc d e38 N A B e113 P F
    have hcn : c < s.2.1.1 := by omega
    have M1 := rmS_c (s := s) d (fun a k q => by unfold scK; omega) M
    have e6 : h1.1 82 6 = I (s.2.1.1 : Int) := M1.2.1.1
    have z10 : szP (pE s) c ≤ 10 := (ok.2 c hcn).2.2.2.1
    have w1 := wk_v (e := pE s) n c hcn
    have w2 := wk_v (e := pE s) (n + 1) c hcn
    have wh := wk_h (e := pE s) (k := n) (c := c)
    have n1 := N c hcn
    have b1 := B c (Nat.le_refl _) hcn
    refine bX8_goOn_57 O ?_
    rw [e6]
    refine br_f (fun q => absurd ((I_le (by omega) (by omega) (by omega) (by omega)).mp q) (by omega)) ⟨c, rfl, by omega, c, rfl, by omega, ?_⟩
    rw [n1, b1, I_le (by omega) (by omega) (by omega) (by omega)]
    refine ⟨fun y => ⟨c, rfl, by omega, c, rfl, by omega, ?_⟩, fun y => ⟨c, rfl, by omega, 10 * c + wk (pE s) n c, by rw [b1, I_mul, I_add]; rfl, ?_, c, rfl, by omega, c, rfl, by omega, ?_⟩⟩
    · have nh : ¬ hdb (pE s) n c = true := fun z => by rw [if_pos z] at wh; omega
      rw [n1, I_add]
      have f : Chg (fun a k => a = 111 ∧ k = c) nR h1 (sI h1 111 c (I (wk (pE s) (n + 1) c : Int))) := Chg.rf.i ⟨rfl, rfl⟩
      refine ih (c + 1) _ (by omega) (d.tr (f.up (fun a k q => by omega) (fun _ _ q => q))) (by rw [f.1 _ _ (by omega)]; exact e38) (fun i hi => by rw [f.1 _ _ (by omega)]; exact N i hi) (fun i hi => ?_) (fun i a b => by rw [f.1 _ _ (by omega)]; exact B i (by omega) b) (by rw [f.1 _ _ (by omega)]; exact e113) (fun i hi hh => ?_) (fun i j hi hj => by rw [f.1 _ _ (by omega)]; exact F i j hi hj)
      · rw [sI_1]
        by_cases ei : i = c
        · subst ei; rw [up_s]
        · rw [up_n ei]; exact A i (by omega)
      · rw [f.1 _ _ (by omega)]
        by_cases ei : i = c
        · subst ei; exact absurd hh nh
        · exact P i (by omega) hh
    · have hh : hdb (pE s) n c = true := Classical.byContradiction (fun z => by rw [if_neg z] at wh; omega)
      have := (mvb_iff.mp hh).2.1
      omega
    · have hh : hdb (pE s) n c = true := Classical.byContradiction (fun z => by rw [if_neg z] at wh; omega)
      have lt := (mvb_iff.mp hh).2.1
      rw [n1, e38, I_add]
      have f : Chg (fun a k => a = 114 ∧ k = 10 * c + wk (pE s) n c) nR h1 (sI h1 114 (10 * c + wk (pE s) n c) (I (n : Int))) := Chg.rf.i ⟨rfl, rfl⟩
      have f2 : Chg (fun a k => a = 111 ∧ k = c) nR (sI h1 114 (10 * c + wk (pE s) n c) (I (n : Int))) (sI (sI h1 114 (10 * c + wk (pE s) n c) (I (n : Int))) 111 c (I (wk (pE s) (n + 1) c : Int))) := Chg.rf.i ⟨rfl, rfl⟩
      have lo : ∀ i, i < s.2.1.1 → wk (pE s) n i ≤ 10 := fun i hi => Nat.le_trans (wk_v (e := pE s) n i hi) (ok.2 i hi).2.2.2.1
      have l9 : ∀ i, i < s.2.1.1 → hdb (pE s) n i = true → wk (pE s) n i < 10 := fun i hi y => Nat.lt_of_lt_of_le (mvb_iff.mp y).2.1 (ok.2 i hi).2.2.2.1
      refine ih (c + 1) _ (by omega) ((d.tr (f.up (fun a k q => by omega) (fun _ _ q => q))).tr (f2.up (fun a k q => by omega) (fun _ _ q => q))) (by rw [f2.1 _ _ (by omega), f.1 _ _ (by omega)]; exact e38) (fun i hi => by rw [f2.1 _ _ (by omega), f.1 _ _ (by omega)]; exact N i hi) (fun i hi => ?_) (fun i a b => by rw [f2.1 _ _ (by omega), f.1 _ _ (by omega)]; exact B i (by omega) b) (by rw [f2.1 _ _ (by omega), f.1 _ _ (by omega)]; exact e113) (fun i hi hy => ?_) (fun i j hi hj => ?_)
      · rw [sI_1]
        by_cases ei : i = c
        · subst ei; rw [up_s]
        · rw [up_n ei, f.1 _ _ (by omega)]; exact A i (by omega)
      · rw [f2.1 _ _ (by omega)]
        by_cases ei : i = c
        · subst ei; rw [sI_1, up_s]
        · have := l9 i (by omega) hy
          rw [f.1 _ _ (by omega)]; exact P i (by omega) hy
      · have := lo i hi
        rw [f2.1 _ _ (by omega), f.1 _ _ (by
          by_cases ei : i = c
          · subst ei; omega
          · omega)]
        exact F i j hi hj
theorem wp_goOn {Q : Int32 → AH → Prop} {s : ST} {n : Nat} (v : vS s) (M : rmS s h) (hn : n < np (pE s)) (T : tabW s h) (S : ∀ c, c < s.2.1.1 → h.1 111 c = I (wk (pE s) n c : Int)) (e38 : h.1 82 38 = I (n : Int)) (k : ∀ h2, Chg (cGo n) nR h h2 → (∀ c, c < s.2.1.1 → h2.1 111 c = I (wk (pE s) (n + 1) c : Int)) → h2.1 82 38 = I ((n + 1 : Nat) : Int) → h2.1 113 n = I (pcl (pE s) n : Int) → (∀ c, c < s.2.1.1 → hdb (pE s) n c = true → h2.1 114 (10 * c + wk (pE s) n c) = I (n : Int)) → (∀ c j, c < s.2.1.1 → j < wk (pE s) n c → h2.1 114 (10 * c + j) = h.1 114 (10 * c + j)) → Q (I (enM (wk (pE s) (n + 1)) s.2.1.1 : Int)) h2) : SpI g l mX8_goOn h [.ref 82, .int (I (enM (wk (pE s) n) s.2.1.1 : Int))] Q := by
  have ok : okPE (pE s) := v.2.1
  have n40 := np_le ok
  have V := wk_v (e := pE s) n
  have fo := fcl_ok ok V (wk_nd ok hn)
  have em := enM_max ok V s.2.1.1 (Nat.le_refl _)
  have W40 : ∀ {r}, vq (pE s) r → Wn (pE s) r ≤ 40 := fun vr => Nat.le_trans (Wn_le ok vr) (tot_le ok)
  refine sX8_goOn (fun X O => ?_)
  have lp : ∀ m c h1, c + m = fcl (pE s) (wk (pE s) n) → Chg (fun a k => a = 112 ∨ (a = 82 ∧ k = 50)) nR h h1 → (∀ i, i < s.2.1.1 → h1.1 112 i = I (nxt (pE s) c (wk (pE s) n) i : Int)) → h1.1 82 50 = I (if wnt (pE s) c (wk (pE s) n) then 1 else 0) → GI g l X Q h1 8 [(0, .ref 82), (1, .int (I (enM (wk (pE s) n) s.2.1.1 : Int))), (2, .int (I (c : Int))), (3, .int (I (enM (nxt (pE s) c (wk (pE s) n)) s.2.1.1 : Int)))] [] := by
    intro m
    induction m with
    | zero =>
      intro c h1 hc d N e50
      have ce : c = fcl (pE s) (wk (pE s) n) := by omega
      subst ce
      have V2 := nxt_v (l := fcl (pE s) (wk (pE s) n)) V
      have em2 := enM_max ok V2 s.2.1.1 (Nat.le_refl _)
      have x38 : h1.1 82 38 = I (n : Int) := by rw [d.1 _ _ (by omega)]; exact e38
      have t1 : h1.1 110 (enM (nxt (pE s) (fcl (pE s) (wk (pE s) n)) (wk (pE s) n)) s.2.1.1) = I (Wn (pE s) (nxt (pE s) (fcl (pE s) (wk (pE s) n)) (wk (pE s) n)) : Int) := by rw [d.1 _ _ (by omega)]; exact T _ V2
      have t2 : h1.1 110 (enM (wk (pE s) n) s.2.1.1) = I (Wn (pE s) (wk (pE s) n) : Int) := by rw [d.1 _ _ (by omega)]; exact T _ V
      refine bX8_goOn_8 O ?_
      rw [e50, fo.2.1]
      refine br_f n10 ⟨_, rfl, em2, _, rfl, em, ?_⟩
      rw [t1, t2, I_add]
      refine br_t (by rw [← fo.2.2]; rfl) ⟨n, x38, by omega, ?_⟩
      have f : Chg (fun a k => a = 113 ∧ k = n) nR h1 (sI h1 113 n (I (fcl (pE s) (wk (pE s) n) : Int))) := Chg.rf.i ⟨rfl, rfl⟩
      refine lp_goOn O v M (by omega) k s.2.1.1 0 _ (by omega) ((d.up (fun a k q => by omega) (fun _ _ q => q)).tr (f.up (fun a k q => by omega) (fun _ _ q => q))) (by rw [f.1 _ _ (by omega)]; exact x38) (fun i hi => by rw [f.1 _ _ (by omega)]; exact N i hi) (fun i hi => absurd hi (by omega)) (fun i _ hi => by rw [f.1 _ _ (by omega), d.1 _ _ (by omega)]; exact S i hi) (by rw [sI_1, up_s]; rfl) (fun i hi => absurd hi (by omega)) (fun i j hi hj => by rw [f.1 _ _ (by omega), d.1 _ _ (by omega)])
    | succ m ih =>
      intro c h1 hc d N e50
      have M1 := rmS_c (s := s) d (fun a k q => by unfold scK; omega) M
      have V2 := nxt_v (l := c) V
      have em2 := enM_max ok V2 s.2.1.1 (Nat.le_refl _)
      have w1 := W40 V2
      have w2 := W40 V
      have t1 : h1.1 110 (enM (nxt (pE s) c (wk (pE s) n)) s.2.1.1) = I (Wn (pE s) (nxt (pE s) c (wk (pE s) n)) : Int) := by rw [d.1 _ _ (by omega)]; exact T _ V2
      have t2 : h1.1 110 (enM (wk (pE s) n) s.2.1.1) = I (Wn (pE s) (wk (pE s) n) : Int) := by rw [d.1 _ _ (by omega)]; exact T _ V
      have go : SpI g l mX8_behind h1 [.ref 82, .int (I (c : Int) + I 1)] (fun v2 hv2 => GI g l X Q hv2 8 [(0, .ref 82), (1, .int (I (enM (wk (pE s) n) s.2.1.1 : Int))), (2, .int (I (c : Int) + I 1)), (3, .int v2)] []) := by
        rw [I_add]
        exact wp_behind (l0 := c + 1) v M1 (by omega) V (fun i hi => by rw [d.1 _ _ (by omega)]; exact S i hi) (fun h2 c2 s2 e2 => ih (c + 1) h2 (by omega) (d.tr c2) s2 e2)
      refine bX8_goOn_8 O ?_
      rw [e50]
      have nf := fnd_f (p := fun l => wnt (pE s) l (wk (pE s) n) && (Wn (pE s) (nxt (pE s) l (wk (pE s) n)) + 1 == Wn (pE s) (wk (pE s) n))) (n := 12) (i := 0) (j := c) (by omega) (by show c < fcl (pE s) (wk (pE s) n); omega)
      cases hw : wnt (pE s) c (wk (pE s) n) with
      | false => exact br_t y00 go
      | true =>
        simp only [hw, Bool.true_and, beq_eq_false_iff_ne] at nf
        refine br_f n10 ⟨_, rfl, em2, _, rfl, em, ?_⟩
        rw [t1, t2, I_add, I_eq (by omega) (by omega) (by omega) (by omega)]
        exact br_f (by omega) go
  exact wp_behind (l0 := 0) v M (by omega) V S (fun h2 c2 s2 e2 => lp (fcl (pE s) (wk (pE s) n)) 0 h2 (Nat.zero_add _) c2 s2 e2)
end GO
