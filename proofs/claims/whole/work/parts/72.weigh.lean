section WG
variable {g : mg} {l : Launch} {h : AH}
/-- weigh's choice among the colours, with the places laid out -/
theorem lp_weigh {X : XT} {Q : AH → Prop} (O : Ok (FF g l X) RX8 cX8_weigh 8 mX8_weigh.2.2.2.2 none) {s : ST} {q : Nat → Nat} {z : Nat} (v : vS s) (V : vq (pE s) q) (hz : z < 14641) : ∀ m c h1, c + m = 12 → rmS s h1 → (∀ c, c < s.2.1.1 → h1.1 111 c = I (q c : Int)) → (∀ l0, l0 < 12 → wnt (pE s) l0 q = true → h1.1 110 (enM (nxt (pE s) l0 q) s.2.1.1) = I (Wn (pE s) (nxt (pE s) l0 q) : Int)) → (∀ h2, Chg (fun a k => a = 112 ∨ (a = 82 ∧ k = 50) ∨ (a = 110 ∧ k = z)) nR h1 h2 → h2.1 110 z = I (bestOf (pE s) q (Wn (pE s)) 12 : Int) → Q h2) → GV g l X Q h1 122 [(0, .ref 82), (1, .int (I (z : Int))), (5, .int (I (bestOf (pE s) q (Wn (pE s)) c : Int))), (6, .int (I (c : Int)))] [] := by
  have ok : okPE (pE s) := v.2.1
  have b99 : ∀ n, bestOf (pE s) q (Wn (pE s)) n ≤ 99 := fun n => by
    induction n with
    | zero => exact Nat.le_refl _
    | succ n ih =>
      unfold bestOf
      split
      · rename_i y
        simp only [Bool.and_eq_true, decide_eq_true_eq] at y
        omega
      · exact ih
  intro m
  induction m with
  | zero =>
    intro c h1 hc M S T k
    have ce : c = 12 := by omega
    subst ce
    refine bX8_weigh_122 O (br_t ((I_le (by omega) (by omega) (by omega) (by omega)).mpr (by omega)) ⟨z, rfl, hz, k _ (Chg.rf.i (by omega)) (by rw [sI_1, up_s])⟩)
  | succ m ih =>
    intro c h1 hc M S T k
    have bc := b99 c
    refine bX8_weigh_122 O (br_f (fun q => absurd ((I_le (by omega) (by omega) (by omega) (by omega)).mp q) (by omega)) ?_)
    refine wp_behind v M (by omega) V S (fun h2 c2 s2 e50 => ?_)
    have M2 := rmS_c (s := s) c2 (fun a k q => by unfold scK; omega) M
    have IH := fun b2 (e2 : bestOf (pE s) q (Wn (pE s)) (c + 1) = b2) => by
      have := ih (c + 1) h2 (by omega) M2 (fun i hi => by rw [c2.1 _ _ (by omega)]; exact S i hi) (fun l0 a b => by rw [c2.1 _ _ (by omega)]; exact T l0 a b) (fun h3 c3 e3 => k h3 ((c2.up (fun a k q => by omega) (fun _ _ q => q)).tr c3) e3)
      rw [e2] at this
      exact this
    have es : bestOf (pE s) q (Wn (pE s)) (c + 1) = if wnt (pE s) c q && decide (Wn (pE s) (nxt (pE s) c q) + 1 < bestOf (pE s) q (Wn (pE s)) c) then Wn (pE s) (nxt (pE s) c q) + 1 else bestOf (pE s) q (Wn (pE s)) c := rfl
    rw [e50]
    cases hw : wnt (pE s) c q with
    | false =>
      rw [hw] at es
      rw [I_add]
      exact br_t y00 (IH _ (by rw [es]; rfl))
    | true =>
      rw [hw] at es
      have w40 : Wn (pE s) (nxt (pE s) c q) ≤ 40 := Nat.le_trans (Wn_le ok (nxt_v V)) (tot_le ok)
      have T2 : h2.1 110 (enM (nxt (pE s) c q) s.2.1.1) = I (Wn (pE s) (nxt (pE s) c q) : Int) := by rw [c2.1 _ _ (by omega)]; exact T c (by omega) hw
      have em := enM_max ok (nxt_v (l := c) V) s.2.1.1 (Nat.le_refl _)
      refine br_f n10 ⟨_, rfl, em, ?_⟩
      rw [T2, I_add, I_add, I_le (by omega) (by omega) (by omega) (by omega)]
      refine ⟨fun y => IH _ (by rw [es, if_neg (by simp; omega)]), fun y => ⟨_, rfl, em, ?_⟩⟩
      rw [T2, I_add]
      exact IH (Wn (pE s) (nxt (pE s) c q) + 1) (by rw [es, if_pos (by simp; omega)])
end WG
