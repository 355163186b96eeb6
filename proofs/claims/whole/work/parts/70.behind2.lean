section BH2
variable {g : mg} {l : Launch} {h : AH}
theorem wp_behind {Q : Int32 → AH → Prop} {s : ST} {q : Nat → Nat} {l0 : Nat} (v : vS s) (M : rmS s h) (hl : l0 < 12) (V : vq (pE s) q) (S : ∀ c, c < s.2.1.1 → h.1 111 c = I (q c : Int)) (k : ∀ h2, Chg (fun a k => a = 112 ∨ (a = 82 ∧ k = 50)) nR h h2 → (∀ c, c < s.2.1.1 → h2.1 112 c = I (nxt (pE s) l0 q c : Int)) → h2.1 82 50 = I (if wnt (pE s) l0 q then 1 else 0) → Q (I (enM (nxt (pE s) l0 q) s.2.1.1 : Int)) h2) : SpI g l mX8_behind h [.ref 82, .int (I (l0 : Int))] Q := by
  have ok : okPE (pE s) := v.2.1
  have h4 : s.2.1.1 ≤ 4 := ok.1
  have V' : vq (pE s) (nxt (pE s) l0 q) := nxt_v V
  refine sX8_behind (fun X O => ?_)
  have lp : ∀ m c h1, c + m = s.2.1.1 → Chg (fun a k => a = 112 ∨ (a = 82 ∧ k = 50)) nR h h1 → (∀ i, i < c → h1.1 112 i = I (nxt (pE s) l0 q i : Int)) → h1.1 82 50 = I (if anM (pE s) l0 q c then 1 else 0) → GI g l X Q h1 9 [(0, .ref 82), (1, .int (I (l0 : Int))), (2, .int (I (enM (nxt (pE s) l0 q) c : Int))), (3, .int (I (c : Int)))] [] := by
    intro m
    induction m with
    | zero =>
      intro c h1 hc d al e50
      have ce : c = s.2.1.1 := by omega
      have M1 := rmS_c (s := s) d (fun a k q => by unfold scK; omega) M
      have e6 : h1.1 82 6 = I (s.2.1.1 : Int) := M1.2.1.1
      refine bX8_behind_9 O ?_
      rw [e6]
      refine br_t ((I_le (by omega) (by omega) (by omega) (by omega)).mpr (by omega)) ?_
      rw [ce] at al e50 ⊢
      have ew : anM (pE s) l0 q s.2.1.1 = wnt (pE s) l0 q := anM_wnt ok
      rw [ew] at e50
      exact k h1 d al e50
    | succ m ih =>
      intro c h1 hc d al e50
      have hcn : c < s.2.1.1 := by omega
      have M1 := rmS_c (s := s) d (fun a k q => by unfold scK; omega) M
      have e6 : h1.1 82 6 = I (s.2.1.1 : Int) := M1.2.1.1
      have z10 : szP (pE s) c ≤ 10 := (ok.2 c hcn).2.2.2.1
      have C := M1.2.1.2 c hcn
      have e86 : h1.1 86 c = I (szP (pE s) c : Int) := by have := C.2.2.1; rw [Nat.mul_zero, Nat.zero_add] at this; exact this
      have s1 : h1.1 111 c = I (q c : Int) := by rw [d.1 _ _ (by omega)]; exact S c hcn
      have vc := V c hcn
      have enx := enM_max ok V' c (by show c ≤ s.2.1.1; omega)
      have fin : ∀ (b : Bool), mvb (pE s) l0 q c = b → GI g l X Q h1 90 [(0, .ref 82), (1, .int (I (l0 : Int))), (2, .int (I (enM (nxt (pE s) l0 q) c : Int))), (3, .int (I (c : Int))), (4, .int (I (if b then 1 else 0)))] [.int (I (nxt (pE s) l0 q c : Int)), .int (I (c : Int)), .ref 112] := by
        intro b eb
        refine bX8_behind_90 (ns0 := 4) O rfl (by omega) ⟨c, rfl, by omega, ?_⟩
        have f1 : Chg (fun a k => a = 112 ∧ k = c) nR h1 (sI h1 112 c (I (nxt (pE s) l0 q c : Int))) := Chg.rf.i ⟨rfl, rfl⟩
        have e50' : (sI h1 112 c (I (nxt (pE s) l0 q c : Int))).1 82 50 = I (if anM (pE s) l0 q c then 1 else 0) := by rw [f1.1 _ _ (by omega)]; exact e50
        have e112 : (sI h1 112 c (I (nxt (pE s) l0 q c : Int))).1 112 c = I (nxt (pE s) l0 q c : Int) := by rw [sI_1, up_s]
        have go : ∀ b2 : Bool, anM (pE s) l0 q (c + 1) = b2 → GI g l X Q (sI (sI h1 112 c (I (nxt (pE s) l0 q c : Int))) 82 50 (I (if b2 then 1 else 0))) 9 [(0, .ref 82), (1, .int (I (l0 : Int))), (2, .int (I 11 * I (enM (nxt (pE s) l0 q) c : Int) + I (nxt (pE s) l0 q c : Int))), (3, .int (I (c : Int) + I 1))] [] := fun b2 e2 => by
          rw [I_mul, I_add, I_add]
          refine ih (c + 1) _ (by omega) (Chg.i (d.tr (f1.up (fun a k q => by omega) (fun _ _ q => q))) (by omega)) (fun i hi => ?_) ?_
          · rw [sI_o (by omega), sI_1]
            by_cases ei : i = c
            · subst ei; rw [up_s]
            · rw [up_n ei]; exact al i (by omega)
          · rw [sI_1, up_s, e2]
        rw [e50']
        rw [anM_s, eb] at go
        cases ha : anM (pE s) l0 q c with
        | true =>
          rw [ha] at go
          exact nb_t n10 ⟨c, rfl, by omega, by rw [e112]; exact go true rfl⟩
        | false =>
          rw [ha] at go
          refine nb_f y00 ?_
          cases b with
          | false => exact br_t y00 ⟨c, rfl, by omega, by rw [e112]; exact go false rfl⟩
          | true => exact br_f n10 ⟨c, rfl, by omega, by rw [e112]; exact go true rfl⟩
      have stay : ¬ mvb (pE s) l0 q c = true → GI g l X Q h1 60 [(0, .ref 82), (1, .int (I (l0 : Int))), (2, .int (I (enM (nxt (pE s) l0 q) c : Int))), (3, .int (I (c : Int)))] [] := fun z => by
        refine bX8_behind_60 O (br_t y00 ⟨c, rfl, by omega, ?_⟩)
        have := fin false (by simpa using z)
        rw [nxt_f z] at this
        rw [s1]
        exact this
      refine bX8_behind_9 O ?_
      rw [e6]
      refine br_f (fun q => absurd ((I_le (by omega) (by omega) (by omega) (by omega)).mp q) (by omega)) ⟨c, rfl, by omega, c, rfl, by omega, ?_⟩
      rw [e86, s1, I_le (by omega) (by omega) (by omega) (by omega)]
      refine ⟨fun z => stay (fun y => by have := (mvb_iff.mp y).2.1; omega), fun z => ⟨c, rfl, by omega, 10 * c + q c, by rw [s1, I_mul, I_add]; rfl, by omega, ?_⟩⟩
      have lt : q c < szP (pE s) c := by omega
      have c87 : h1.1 87 (10 * c + q c) = I (coP (pE s) c (q c) : Int) := by
        have := (C.2.2.2 (q c) lt).1
        rw [show 10 * (4 * 0) + 10 * c + q c = 10 * c + q c by omega] at this
        exact this
      have c12 : coP (pE s) c (q c) < 12 := (ok.2 c hcn).2.2.2.2.1 _ lt
      rw [c87]
      refine wp_rmSame v M1 hl c12 ?_
      cases hs : smb (pE s) l0 (coP (pE s) c (q c)) with
      | false => exact br_t y00 (stay (fun y => by have := (mvb_iff.mp y).2.2; rw [hs] at this; cases this))
      | true =>
        have mv : mvb (pE s) l0 q c = true := mvb_iff.mpr ⟨hcn, lt, hs⟩
        refine br_f n10 (br_f n10 ⟨c, rfl, by omega, ?_⟩)
        have := fin true mv
        rw [nxt_t mv] at this
        rw [s1, I_add]
        exact this
  refine lp s.2.1.1 0 _ (by omega) (Chg.rf.i (by omega)) (fun i hi => absurd hi (by omega)) ?_
  rw [sI_1, up_s]
  rfl
end BH2
