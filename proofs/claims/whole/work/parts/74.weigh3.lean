section WG2
variable {g : mg} {l : Launch} {h : AH}
theorem wp_weigh {Q : AH → Prop} {s : ST} {z : Nat} (v : vS s) (M : rmS s h) (hz : z < 11 ^ s.2.1.1) (T : ∀ u, z < u → u < 11 ^ s.2.1.1 → vq (pE s) (dgM s.2.1.1 u) → h.1 110 u = I (Wn (pE s) (dgM s.2.1.1 u) : Int)) (k : ∀ h2, Chg (fun a k => a = 111 ∨ a = 112 ∨ (a = 82 ∧ k = 50) ∨ (a = 110 ∧ k = z)) nR h h2 → (vq (pE s) (dgM s.2.1.1 z) → h2.1 110 z = I (Wn (pE s) (dgM s.2.1.1 z) : Int)) → Q h2) : SpV g l mX8_weigh h [.ref 82, .int (I (z : Int))] Q := by
  have ok : okPE (pE s) := v.2.1
  have h4 : s.2.1.1 ≤ 4 := ok.1
  have zl : z < 14641 := by
    have : 11 ^ s.2.1.1 ≤ 11 ^ 4 := Nat.pow_le_pow_right (by omega) h4
    omega
  have e6 : h.1 82 6 = I (s.2.1.1 : Int) := M.2.1.1
  refine sX8_weigh (fun X O => ?_)
  rw [e6, I_sub]
  have hv : lst (fun i => decide (dgM s.2.1.1 z i ≤ szP (pE s) i)) s.2.1.1 s.2.1.1 = true ↔ vq (pE s) (dgM s.2.1.1 z) := by
    rw [lst_iff _ (Nat.le_refl _)]
    exact ⟨fun a c hc => by have := a c (by omega) hc; simpa using this, fun a c _ hc => by have := a c hc; simpa using this⟩
  have hd : lst (fun i => dgM s.2.1.1 z i == szP (pE s) i) s.2.1.1 s.2.1.1 = true ↔ dne (pE s) (dgM s.2.1.1 z) = true := by
    rw [lst_iff _ (Nat.le_refl _), dne_iff]
    exact ⟨fun a c hc => by have := a c (by omega) hc; simpa using this, fun a c _ hc => by have := a c hc; simpa using this⟩
  have lp : ∀ m j h1, j + m = s.2.1.1 → Chg (fun a _ => a = 111) nR h h1 → (∀ i, s.2.1.1 - j ≤ i → i < s.2.1.1 → h1.1 111 i = I (dgM s.2.1.1 z i : Int)) → GV g l X Q h1 15 [(0, .ref 82), (1, .int (I (z : Int))), (2, .int (I ((z / 11 ^ j : Nat) : Int))), (3, .int (I (if lst (fun i => decide (dgM s.2.1.1 z i ≤ szP (pE s) i)) s.2.1.1 j then 1 else 0))), (4, .int (I (if lst (fun i => dgM s.2.1.1 z i == szP (pE s) i) s.2.1.1 j then 1 else 0))), (5, .int (I ((s.2.1.1 : Int) - 1 - (j : Int))))] [] := by
    intro m
    induction m with
    | zero =>
      intro j h1 hj d al
      have ej : j = s.2.1.1 := by omega
      subst ej
      have M1 := rmS_c (s := s) d (fun a k q => by unfold scK; omega) M
      have f : Chg (fun a k => a = 110 ∧ k = z) nR h1 (sI h1 110 z (I 0)) := Chg.rf.i ⟨rfl, rfl⟩
      have d1 := (d.up (P2 := fun a k => a = 111 ∨ a = 112 ∨ (a = 82 ∧ k = 50) ∨ (a = 110 ∧ k = z)) (R2 := nR) (fun a k q => Or.inl q) (fun _ _ q => q)).tr (f.up (fun a k q => by omega) (fun _ _ q => q))
      refine bX8_weigh_15 O (br_t ((I_lt0 (by omega) (by omega)).mpr (by omega)) ⟨z, rfl, zl, ?_⟩)
      cases hA : lst (fun i => decide (dgM s.2.1.1 z i ≤ szP (pE s) i)) s.2.1.1 s.2.1.1 with
      | false => exact br_t y00 (k _ d1 (fun V => by rw [hv.mpr V] at hA; cases hA))
      | true =>
        have V := hv.mp hA
        refine br_f n10 ?_
        cases hD : lst (fun i => dgM s.2.1.1 z i == szP (pE s) i) s.2.1.1 s.2.1.1 with
        | true => exact br_f n10 (k _ d1 (fun _ => by rw [(Wn_0 ok V).mpr (hd.mp hD), sI_1, up_s]; rfl))
        | false =>
          have nd : ¬ dne (pE s) (dgM s.2.1.1 z) = true := fun y => by rw [hd.mpr y] at hD; cases hD
          refine br_t y00 (lp_weigh (q := dgM s.2.1.1 z) O v V zl 12 0 _ (by omega) (rmS_c (s := s) f (fun a k q => by unfold scK; omega) M1) (fun c hc => by rw [f.1 _ _ (by omega)]; exact al c (by omega) hc) (fun l0 hl0 w => ?_) (fun h2 c2 e2 => k h2 (d1.tr (c2.up (fun a k q => by omega) (fun _ _ q => q))) (fun _ => by rw [e2, Wn_st ok V, if_neg nd])))
          have V2 : vq (pE s) (nxt (pE s) l0 (dgM s.2.1.1 z)) := nxt_v V
          have t10 : ∀ c, c < s.2.1.1 → nxt (pE s) l0 (dgM s.2.1.1 z) c ≤ 10 := fun c hc => Nat.le_trans (V2 c hc) (ok.2 c hc).2.2.2.1
          have ag : agr (pE s) (dgM s.2.1.1 (enM (nxt (pE s) l0 (dgM s.2.1.1 z)) s.2.1.1)) (nxt (pE s) l0 (dgM s.2.1.1 z)) := fun c hc => dgM_enM s.2.1.1 t10 c hc
          have big : z < enM (nxt (pE s) l0 (dgM s.2.1.1 z)) s.2.1.1 := by
            have e1 := enM_dgM s.2.1.1 z hz
            obtain ⟨c, hm⟩ := (wnt_iff ok).mp w
            have lt := enM_st (q := dgM s.2.1.1 z) (r := nxt (pE s) l0 (dgM s.2.1.1 z)) (c := c) s.2.1.1 (fun c _ => nxt_ge) (mvb_iff.mp hm).1 (by rw [nxt_t hm]; omega)
            omega
          rw [f.1 _ _ (by omega), d.1 _ _ (by omega), T _ big (enM_lt _ t10) (fun c hc => by rw [ag c hc]; exact V2 c hc), Wn_cg ag]
    | succ m ih =>
      intro j h1 hj d al
      obtain ⟨i, hi⟩ : ∃ i, i + j + 1 = s.2.1.1 := ⟨m, by omega⟩
      have M1 := rmS_c (s := s) d (fun a k q => by unfold scK; omega) M
      have e86 : h1.1 86 i = I (szP (pE s) i : Int) := by have := (M1.2.1.2 i (by omega)).2.2.1; rw [Nat.mul_zero, Nat.zero_add] at this; exact this
      have z10 : szP (pE s) i ≤ 10 := (ok.2 i (by show i < s.2.1.1; omega)).2.2.2.1
      have ei : s.2.1.1 - 1 - j = i := by omega
      have dd : dgM s.2.1.1 z i = z / 11 ^ j % 11 := by rw [← ei]; exact dgM_step (by omega)
      have zj : z / 11 ^ j ≤ z := Nat.div_le_self _ _
      have dv : I ((z / 11 ^ j : Nat) : Int) / I 11 = I ((z / 11 ^ (j + 1) : Nat) : Int) := by
        have := I_div (a := z / 11 ^ j) (b := 11) (by omega) (by omega)
        rw [Nat.div_div_eq_div_mul, ← Nat.pow_succ] at this
        exact this
      have ep : z / 11 ^ (j + 1) = z / 11 ^ j / 11 := by rw [Nat.div_div_eq_div_mul, ← Nat.pow_succ]
      have dm : I ((z / 11 ^ j : Nat) : Int) - I ((z / 11 ^ j : Nat) : Int) / I 11 * I 11 = I (dgM s.2.1.1 z i : Int) := by
        rw [dv, I_mul, I_sub]
        congr 1
        omega
      have d10 : dgM s.2.1.1 z i ≤ 10 := dgM_le
      have x5 : ((s.2.1.1 : Int) - 1 - (j : Int)) = (i : Int) := by omega
      have As : lst (fun i => decide (dgM s.2.1.1 z i ≤ szP (pE s) i)) s.2.1.1 (j + 1) = (lst (fun i => decide (dgM s.2.1.1 z i ≤ szP (pE s) i)) s.2.1.1 j && decide (dgM s.2.1.1 z i ≤ szP (pE s) i)) := by
        show (_ && _) = _
        rw [ei]
      have Ds : lst (fun i => dgM s.2.1.1 z i == szP (pE s) i) s.2.1.1 (j + 1) = (lst (fun i => dgM s.2.1.1 z i == szP (pE s) i) s.2.1.1 j && (dgM s.2.1.1 z i == szP (pE s) i)) := by
        show (_ && _) = _
        rw [ei]
      have IH : ∀ a b : Bool, lst (fun i => decide (dgM s.2.1.1 z i ≤ szP (pE s) i)) s.2.1.1 (j + 1) = a → lst (fun i => dgM s.2.1.1 z i == szP (pE s) i) s.2.1.1 (j + 1) = b → GV g l X Q (sI h1 111 i (I (dgM s.2.1.1 z i : Int))) 15 [(0, .ref 82), (1, .int (I (z : Int))), (2, .int (I ((z / 11 ^ (j + 1) : Nat) : Int))), (3, .int (I (if a then 1 else 0))), (4, .int (I (if b then 1 else 0))), (5, .int (I (i : Int) + I (-1)))] [] := fun a b ea eb => by
        have := ih (j + 1) (sI h1 111 i (I (dgM s.2.1.1 z i : Int))) (by omega) (d.i rfl) (fun u u1 u2 => by
          rw [sI_1]
          by_cases eu : u = i
          · subst eu; rw [up_s]
          · rw [up_n eu]; exact al u (by omega) u2)
        rw [ea, eb] at this
        rw [I_add, show ((i : Int) + -1) = (s.2.1.1 : Int) - 1 - ((j + 1 : Nat) : Int) by omega]
        exact this
      have s1 : (sI h1 111 i (I (dgM s.2.1.1 z i : Int))).1 111 i = I (dgM s.2.1.1 z i : Int) := by rw [sI_1, up_s]
      have s2 : (sI h1 111 i (I (dgM s.2.1.1 z i : Int))).1 86 i = I (szP (pE s) i : Int) := by rw [sI_o (by omega)]; exact e86
      have F61 : lst (fun i => decide (dgM s.2.1.1 z i ≤ szP (pE s) i)) s.2.1.1 (j + 1) = false → GV g l X Q (sI h1 111 i (I (dgM s.2.1.1 z i : Int))) 61 [(0, .ref 82), (1, .int (I (z : Int))), (2, .int (I ((z / 11 ^ (j + 1) : Nat) : Int))), (4, .int (I (if lst (fun i => dgM s.2.1.1 z i == szP (pE s) i) s.2.1.1 j then 1 else 0))), (5, .int (I (i : Int)))] [] := fun ea => by
        refine bX8_weigh_61 O ?_
        cases hD : lst (fun i => dgM s.2.1.1 z i == szP (pE s) i) s.2.1.1 j with
        | false => exact br_t y00 (IH false false ea (by rw [Ds, hD]; rfl))
        | true =>
          refine br_f n10 ⟨i, rfl, by omega, i, rfl, by omega, ?_⟩
          rw [s1, s2, I_eq (by omega) (by omega) (by omega) (by omega)]
          exact ⟨fun y => IH false false ea (by rw [Ds, hD, Bool.true_and, beq_eq_false_iff_ne]; omega), fun y => IH false true ea (by rw [Ds, hD, Bool.true_and, beq_iff_eq]; omega)⟩
      rw [x5]
      refine bX8_weigh_15 O (br_f (by rw [I_lt0 (by omega) (by omega)]; omega) ⟨i, rfl, by omega, ?_⟩)
      rw [dm, dv]
      cases hA : lst (fun i => decide (dgM s.2.1.1 z i ≤ szP (pE s) i)) s.2.1.1 j with
      | false => exact br_t y00 (F61 (by rw [As, hA]; rfl))
      | true =>
        refine br_f n10 ⟨i, rfl, by omega, i, rfl, by omega, ?_⟩
        rw [s1, e86, I_lt (by omega) (by omega) (by omega) (by omega)]
        refine ⟨fun y => F61 (by rw [As, hA, Bool.true_and, decide_eq_false_iff_not]; omega), fun y => ?_⟩
        have ea : lst (fun i => decide (dgM s.2.1.1 z i ≤ szP (pE s) i)) s.2.1.1 (j + 1) = true := by rw [As, hA, Bool.true_and, decide_eq_true_eq]; omega
        cases hD : lst (fun i => dgM s.2.1.1 z i == szP (pE s) i) s.2.1.1 j with
        | false => exact br_t y00 (IH true false ea (by rw [Ds, hD]; rfl))
        | true =>
          refine br_f n10 ⟨i, rfl, by omega, i, rfl, by omega, ?_⟩
          rw [s1, e86, I_eq (by omega) (by omega) (by omega) (by omega)]
          exact ⟨fun y => IH true false ea (by rw [Ds, hD, Bool.true_and, beq_eq_false_iff_ne]; omega), fun y => IH true true ea (by rw [Ds, hD, Bool.true_and, beq_iff_eq]; omega)⟩
  have := lp s.2.1.1 0 h (by omega) Chg.rf (fun i h1 h2 => absurd h1 (by omega))
  rw [Nat.pow_zero, Nat.div_one, show ((s.2.1.1 : Int) - 1 - ((0 : Nat) : Int)) = (s.2.1.1 : Int) - 1 by omega] at this
  exact this
end WG2
