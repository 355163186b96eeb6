section MK
variable {g : mg} {l : Launch} {h : AH}
abbrev cMke : Nat → Nat → Prop := fun a k => (110 ≤ a ∧ a ≤ 116) ∨ (a = 82 ∧ (k = 38 ∨ k = 41 ∨ k = 44 ∨ k = 50))
theorem tabW_of {s : ST} (v : vS s) (T : ∀ u, u < 11 ^ s.2.1.1 → vq (pE s) (dgM s.2.1.1 u) → h.1 110 u = I (Wn (pE s) (dgM s.2.1.1 u) : Int)) : tabW s h := fun q V => by
  have ok : okPE (pE s) := v.2.1
  have t10 : ∀ c, c < s.2.1.1 → q c ≤ 10 := fun c hc => Nat.le_trans (V c hc) (ok.2 c hc).2.2.2.1
  have ag : agr (pE s) (dgM s.2.1.1 (enM q s.2.1.1)) q := fun c hc => dgM_enM s.2.1.1 t10 c hc
  rw [T _ (enM_lt _ t10) (fun c hc => by rw [ag c hc]; exact V c hc), Wn_cg ag]
theorem np_00 {e : PE} (ok : okPE e) (h0 : e.1.1 = 0) : np e = 0 := (Wn_0 ok (fun c hc => Nat.zero_le _)).mpr (dne_iff.mpr (fun c hc => by omega))
theorem wp_make2 {Q : AH → Prop} {s s' : ST} (v : vS s) (v' : vS s') (R : RC s' h) (M : RM s h) (k : ∀ h2, RC s' h2 → RM s h2 → h2.1 82 41 = I 1 → pmS s h2 → Q h2) : SpV g l mX8_make h [.ref 82] Q := by
  have ok : okPE (pE s) := v.2.1
  have h4 : s.2.1.1 ≤ 4 := ok.1
  have n40 := np_le ok
  have p11 : 11 ^ s.2.1.1 ≤ 14641 := by
    have : 11 ^ s.2.1.1 ≤ 11 ^ 4 := Nat.pow_le_pow_right (by omega) h4
    omega
  refine sX8_make (fun X O => ⟨fun z => ?_, fun z => ?_⟩)
  · have d0 : Chg cMke nR h (sI h 82 41 (I 1)) := Chg.rf.i (by omega)
    have x41 : (sI h 82 41 (I 1)).1 82 41 = I 1 := by rw [sI_1, up_s]
    generalize sI h 82 41 (I 1) = h0 at d0 x41
    have M0 := rmS_c (s := s) d0 (fun a k q => by unfold scK; omega) M.1
    -- all is found: the years
    have yr : ∀ h1, Chg (fun a k => (110 ≤ a ∧ a ≤ 114) ∨ (a = 82 ∧ (k = 38 ∨ k = 50))) nR h0 h1 → h1.1 82 38 = I (np (pE s) : Int) → (∀ k, k < np (pE s) → h1.1 113 k = I (pcl (pE s) k : Int)) → ofM s h1 → SpV g l mX8_years h1 [.ref 82] Q := fun h1 d e38 C P => by
      refine wp_years v (rmS_c (s := s) d (fun a k q => by unfold scK; omega) M0) e38 C P (fun h2 c2 pm => ?_)
      have dd : Chg cMke nR h h2 := (d0.tr (d.up (fun a k q => by omega) (fun _ _ q => q))).tr (c2.up (fun a k q => by omega) (fun _ _ q => q))
      have e41 : h2.1 82 41 = I 1 := by rw [c2.1 _ _ (by omega), d.1 _ _ (by omega)]; exact x41
      exact k h2 (RC_c (dd.up (fun a k q => Or.inl (by omega)) (fun _ _ q => absurd q id)) v' R) ⟨rmS_c (s := s) dd (fun a k q => by unfold scK; omega) M.1, Or.inr ⟨e41, pm⟩⟩ e41 pm
    -- painting by painting
    have lp4 : ∀ m n h1, n + m = np (pE s) → Chg (fun a k => (110 ≤ a ∧ a ≤ 114) ∨ (a = 82 ∧ (k = 38 ∨ k = 50))) nR h0 h1 → tabW s h1 → (∀ c, c < s.2.1.1 → h1.1 111 c = I (wk (pE s) n c : Int)) → h1.1 82 38 = I (n : Int) → (∀ i, i < n → h1.1 113 i = I (pcl (pE s) i : Int)) → (∀ c, c < s.2.1.1 → ∀ j, j < wk (pE s) n c → h1.1 114 (10 * c + j) = I (pof (pE s) c j : Int)) → GV g l X Q h1 85 [(0, .ref 82), (2, .int (I (enM (wk (pE s) n) s.2.1.1 : Int)))] [] := by
      intro m
      induction m with
      | zero =>
        intro n h1 hn d T S e38 C P
        have en : n = np (pE s) := by omega
        subst en
        have D := wk_end ok
        have em := enM_max ok (wk_v (e := pE s) (np (pE s))) s.2.1.1 (Nat.le_refl _)
        have fin := yr h1 d e38 C (fun c hc j hj => P c hc j (by rw [dne_iff.mp D c hc]; exact hj))
        refine bX8_make_85 O ⟨fun _ => fin, fun _ => ⟨_, rfl, em, ?_⟩⟩
        rw [T _ (wk_v _), (Wn_0 ok (wk_v _)).mpr D]
        exact br_t (by decide) fin
      | succ m ih =>
        intro n h1 hn d T S e38 C P
        have hnn : n < np (pE s) := by omega
        have c0 : s.2.1.1 ≠ 0 := fun z => by have := np_00 ok z; omega
        have M1 := rmS_c (s := s) d (fun a k q => by unfold scK; omega) M0
        have e6 : h1.1 82 6 = I (s.2.1.1 : Int) := M1.2.1.1
        have em := enM_max ok (wk_v (e := pE s) n) s.2.1.1 (Nat.le_refl _)
        have w40 : Wn (pE s) (wk (pE s) n) ≤ 40 := Nat.le_trans (Wn_le ok (wk_v _)) (tot_le ok)
        have w0 : Wn (pE s) (wk (pE s) n) ≠ 0 := fun z => wk_nd ok hnn ((Wn_0 ok (wk_v _)).mp z)
        refine bX8_make_85 O ?_
        rw [e6, I_le0 (by omega) (by omega)]
        refine br_f (by omega) ⟨_, rfl, em, ?_⟩
        rw [T _ (wk_v _), I_le0 (by omega) (by omega)]
        refine br_f (by omega) (wp_goOn v M1 hnn T S e38 (fun h2 c2 S2 x38 e113 A F => ih (n + 1) h2 (by omega) (d.tr (c2.up (fun a k q => by omega) (fun _ _ q => q))) (tabW_c c2 (fun k => by omega) T) S2 x38 (fun i hi => ?_) (fun c hc j hj => ?_)))
        · by_cases ei : i = n
          · subst ei; exact e113
          · rw [c2.1 _ _ (by omega)]; exact C i (by omega)
        · by_cases lt : j < wk (pE s) n c
          · rw [F c j hc lt]; exact P c hc j lt
          · rw [wk_h] at hj
            by_cases y : hdb (pE s) n c = true
            · rw [if_pos y] at hj
              have ej : j = wk (pE s) n c := by omega
              rw [ej, A c hc y, pof_h (by omega) y]
            · rw [if_neg y] at hj
              omega
    have lp3 : ∀ m c h1, c + m = s.2.1.1 → Chg (fun a k => (110 ≤ a ∧ a ≤ 114) ∨ (a = 82 ∧ (k = 38 ∨ k = 50))) nR h0 h1 → tabW s h1 → (∀ i, i < c → h1.1 111 i = I 0) → GV g l X Q h1 57 [(0, .ref 82), (2, .int (I (c : Int)))] [] := by
      intro m
      induction m with
      | zero =>
        intro c h1 hc d T A
        have ce : c = s.2.1.1 := by omega
        subst ce
        have M1 := rmS_c (s := s) d (fun a k q => by unfold scK; omega) M0
        have e6 : h1.1 82 6 = I (s.2.1.1 : Int) := M1.2.1.1
        have f : Chg (fun a k => a = 82 ∧ k = 38) nR h1 (sI h1 82 38 (I 0)) := Chg.rf.i ⟨rfl, rfl⟩
        refine bX8_make_57 O ?_
        rw [e6]
        refine br_t ((I_le (by omega) (by omega) (by omega) (by omega)).mpr (by omega)) ?_
        have ez : enM (wk (pE s) 0) s.2.1.1 = 0 := by
          have : ∀ n, enM (wk (pE s) 0) n = 0 := fun n => by
            induction n with
            | zero => rfl
            | succ n ih =>
              unfold enM
              rw [ih]
              rfl
          exact this _
        have := lp4 (np (pE s)) 0 (sI h1 82 38 (I 0)) (by omega) (d.tr (f.up (fun a k q => by omega) (fun _ _ q => q))) (tabW_c f (fun k => by omega) T) (fun i hi => by rw [f.1 _ _ (by omega)]; exact A i hi) (by rw [sI_1, up_s]; rfl) (fun i hi => absurd hi (by omega)) (fun c _ j hj => absurd hj (by show ¬ j < 0; omega))
        rw [ez] at this
        exact this
      | succ m ih =>
        intro c h1 hc d T A
        have M1 := rmS_c (s := s) d (fun a k q => by unfold scK; omega) M0
        have e6 : h1.1 82 6 = I (s.2.1.1 : Int) := M1.2.1.1
        have f : Chg (fun a k => a = 111 ∧ k = c) nR h1 (sI h1 111 c (I 0)) := Chg.rf.i ⟨rfl, rfl⟩
        refine bX8_make_57 O ?_
        rw [e6]
        refine br_f (fun q => absurd ((I_le (by omega) (by omega) (by omega) (by omega)).mp q) (by omega)) ⟨c, rfl, by omega, ?_⟩
        rw [I_add]
        refine ih (c + 1) _ (by omega) (d.tr (f.up (fun a k q => by omega) (fun _ _ q => q))) (tabW_c f (fun k => by omega) T) (fun i hi => ?_)
        by_cases ei : i = c
        · subst ei; rw [sI_1, up_s]
        · rw [f.1 _ _ (by omega)]; exact A i (by omega)
    have lp2 : ∀ j h1, j ≤ 11 ^ s.2.1.1 → Chg (fun a k => (110 ≤ a ∧ a ≤ 112) ∨ (a = 82 ∧ k = 50)) nR h0 h1 → (∀ u, j ≤ u → u < 11 ^ s.2.1.1 → vq (pE s) (dgM s.2.1.1 u) → h1.1 110 u = I (Wn (pE s) (dgM s.2.1.1 u) : Int)) → GV g l X Q h1 40 [(0, .ref 82), (2, .int (I ((j : Int) - 1)))] [] := by
      intro j
      induction j with
      | zero =>
        intro h1 _ d T
        exact bX8_make_40 O (br_t ((I_lt0 (by omega) (by omega)).mpr (by omega)) (lp3 s.2.1.1 0 h1 (by omega) (d.up (fun a k q => by omega) (fun _ _ q => q)) (tabW_of v (fun u hu V => T u (by omega) hu V)) (fun i hi => absurd hi (by omega))))
      | succ j ih =>
        intro h1 hj d T
        have M1 := rmS_c (s := s) d (fun a k q => by unfold scK; omega) M0
        rw [show (((j + 1 : Nat) : Int) - 1) = (j : Int) by omega]
        refine bX8_make_40 O (br_f (by rw [I_lt0 (by omega) (by omega)]; omega) (wp_weigh v M1 (by omega) (fun u a b V => T u (by omega) b V) (fun h2 c2 t2 => ?_)))
        rw [I_add, show (j : Int) + -1 = (j : Int) - 1 by omega]
        refine ih h2 (by omega) (d.tr (c2.up (fun a k q => by omega) (fun _ _ q => q))) (fun u a b V => ?_)
        by_cases eu : u = j
        · subst eu; exact t2 V
        · rw [c2.1 _ _ (by omega)]; exact T u (by omega) b V
    have lp1 : ∀ m c, c + m = s.2.1.1 → GV g l X Q h0 17 [(0, .ref 82), (1, .int (I ((11 ^ c : Nat) : Int))), (2, .int (I (c : Int)))] [] := by
      intro m
      induction m with
      | zero =>
        intro c hc
        have ce : c = s.2.1.1 := by omega
        subst ce
        have e6 : h0.1 82 6 = I (s.2.1.1 : Int) := M0.2.1.1
        refine bX8_make_17 O ?_
        rw [e6, I_sub]
        exact br_t ((I_le (by omega) (by omega) (by omega) (by omega)).mpr (by omega)) (lp2 _ h0 (Nat.le_refl _) Chg.rf (fun u a b => by omega))
      | succ m ih =>
        intro c hc
        have e6 : h0.1 82 6 = I (s.2.1.1 : Int) := M0.2.1.1
        refine bX8_make_17 O ?_
        rw [e6, I_add, I_mul]
        refine br_f (fun q => absurd ((I_le (by omega) (by omega) (by omega) (by omega)).mp q) (by omega)) ?_
        have := ih (c + 1) (by omega)
        rw [Nat.pow_succ, Nat.mul_comm] at this
        exact this
    exact lp1 s.2.1.1 0 (by omega)
  · rcases M.2 with q | ⟨q, P⟩
    · rw [q] at z
      exact absurd y00 z
    · exact k h R M q P
theorem wp_make {Q : AH → Prop} {s : ST} (v : vS s) (R : RC s h) (M : RM s h) (k : ∀ h2, RC s h2 → RM s h2 → h2.1 82 41 = I 1 → pmS s h2 → Q h2) : SpV g l mX8_make h [.ref 82] Q := wp_make2 v v R M k
end MK
