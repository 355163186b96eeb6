section DR
variable {g : mg} {l : Launch}
def dpP (p : Nat → Nat) (n c : Nat) : Nat → Nat := fun j => if j < c then p j else if j < n - 1 then p (j + 1) else if j = n - 1 then p c else p j
theorem dp_perm {z n c : Nat} {p : Nat → Nat} (hp : perm z p) (hc : c < n) (hn : n ≤ 4) : perm z (dpP p n c) := by
  have val : ∀ j, j < 4 → ∃ i, i < 4 ∧ dpP p n c j = p i ∧ ((j < c ∧ i = j) ∨ (c ≤ j ∧ j < n - 1 ∧ i = j + 1) ∨ (j = n - 1 ∧ i = c) ∨ (n ≤ j ∧ i = j)) := by
    intro j hj
    unfold dpP
    by_cases h1 : j < c
    · exact ⟨j, hj, by rw [if_pos h1], Or.inl ⟨h1, rfl⟩⟩
    · by_cases h2 : j < n - 1
      · exact ⟨j + 1, by omega, by rw [if_neg h1, if_pos h2], Or.inr (Or.inl ⟨by omega, h2, rfl⟩)⟩
      · by_cases h3 : j = n - 1
        · exact ⟨c, by omega, by rw [if_neg h1, if_neg h2, if_pos h3], Or.inr (Or.inr (Or.inl ⟨h3, rfl⟩))⟩
        · exact ⟨j, hj, by rw [if_neg h1, if_neg h2, if_neg h3], Or.inr (Or.inr (Or.inr ⟨by omega, rfl⟩))⟩
  refine ⟨fun j hj => ?_, fun j k hj hk e => ?_⟩
  · obtain ⟨i, hi, e, -⟩ := val j hj
    rw [e]
    exact hp.1 i hi
  · obtain ⟨i, hi, e1, q1⟩ := val j hj
    obtain ⟨i', hi', e2, q2⟩ := val k hk
    have := hp.2 i i' hi hi' (by rw [← e1, ← e2, e])
    omega
theorem wp_takeOut {h : AH} {Q : AH → Prop} {p : Nat → Nat} {n c : Nat} (hp : perm 6 p) (hr : ∀ c, c < 4 → h.2.2 7 c = some (p c)) (he : h.1 6 1 = I (n : Int)) (hc : c < n) (hn : n ≤ 4) (k : ∀ h2, Chg (fun a k => a = 6 ∧ k = 1) (fun a _ => a = 7) h h2 → h2.1 6 1 = I ((n - 1 : Nat) : Int) → (∀ j, j < 4 → h2.2.2 7 j = some (dpP p n c j)) → Q h2) : SpV g l mX4_takeOut h [.ref 6, .int (I (c : Int))] Q := by
  refine sX4_takeOut (x0 := 6) rfl (fun X O => ⟨c, rfl, by omega, p c, hr c (by omega), lay_pm (Or.inl rfl) hp (by omega), ?_⟩)
  have lp : ∀ (m i : Nat) (h2 : AH), i + m = n - 1 → c ≤ i → Chg (fun a k => a = 6 ∧ k = 1) (fun a _ => a = 7) h h2 → h2.1 6 1 = I (n : Int) → (∀ j, j < 4 → h2.2.2 7 j = some (if j < c then p j else if j < i then p (j + 1) else p j)) → GV g l X Q h2 9 [(0, .ref 6), (2, .ref (p c)), (3, .int (I (i : Int)))] [] := by
    intro m
    induction m with
    | zero =>
      intro i h2 hi hci e e1 e2
      refine bX4_takeOut_9 (x0 := 6) O rfl (lay_pm (Or.inl rfl) hp (by omega)) ?_
      rw [e1, I_add, I_sub]
      refine br_t ((I_le (by omega) (by omega) (by omega) (by omega)).mpr (by omega)) ⟨n - 1, by congr 1; omega, by omega, ?_⟩
      refine k _ ((e.i ⟨rfl, rfl⟩).r rfl) ?_ (fun j hj => ?_)
      · show (sI h2 6 1 (I ((n : Int) - 1))).1 6 1 = _
        rw [sI_1, up_s, show ((n : Int) - 1) = ((n - 1 : Nat) : Int) by omega]
      · rw [sR_1]
        unfold dpP
        by_cases h3 : j = n - 1
        · subst h3
          rw [up_s, if_neg (by omega), if_neg (by omega), if_pos rfl]
        · rw [up_n h3]
          show h2.2.2 7 j = _
          rw [e2 j hj]
          by_cases h1 : j < c
          · rw [if_pos h1, if_pos h1]
          · by_cases h4 : j < n - 1
            · rw [if_neg h1, if_neg h1, if_pos h4, if_pos (by omega)]
            · rw [if_neg h1, if_neg h1, if_neg h4, if_neg h3, if_neg (by omega)]
    | succ m ih =>
      intro i h2 hi hci e e1 e2
      refine bX4_takeOut_9 (x0 := 6) O rfl (lay_pm (Or.inl rfl) hp (by omega)) ?_
      rw [e1, I_add]
      refine br_f (fun e => absurd ((I_le (by omega) (by omega) (by omega) (by omega)).mp e) (by omega)) ⟨i + 1, rfl, by omega, p (i + 1), by rw [e2 _ (by omega), if_neg (by omega), if_neg (by omega)], lay_pm (Or.inl rfl) hp (by omega), i, rfl, by omega, ?_⟩
      refine ih (i + 1) _ (by omega) (by omega) (e.r rfl) e1 (fun j hj => ?_)
      show (sR h2 7 i (some (p (i + 1)))).2.2 7 j = _
      rw [sR_1]
      by_cases h3 : j = i
      · subst h3
        rw [up_s, if_neg (by omega), if_pos (by omega)]
      · rw [up_n h3, e2 j hj]
        by_cases h1 : j < c
        · rw [if_pos h1, if_pos h1]
        · by_cases h4 : j < i
          · rw [if_neg h1, if_neg h1, if_pos h4, if_pos (by omega)]
          · rw [if_neg h1, if_neg h1, if_neg h4, if_neg (by omega)]
  exact lp (n - 1 - c) c h (by omega) (Nat.le_refl _) Chg.rf he (fun j hj => by
    rw [hr j hj]
    by_cases h1 : j < c
    · rw [if_pos h1]
    · rw [if_neg h1, if_neg h1])
/-! the reference's -/
theorem lp_mdrop2 {X : XT} {Q : Int32 → AH → Prop} (O : Ok (FF g l X) RX8 cX8_drop 4 mX8_drop.2.2.2.2 (some .int)) (d : Nat) (hd : d < 3) : ∀ (m c : Nat) (h : AH), c + m = 10 → (∀ h2, Chg (fun a k => (a = 87 ∨ a = 88) ∧ 10 * d + c ≤ k ∧ k < 10 * d + 10) nR h h2 → (∀ j, c ≤ j → j < 10 → h2.1 87 (10 * d + j) = h.1 87 (10 * (d + 1) + j) ∧ h2.1 88 (10 * d + j) = h.1 88 (10 * (d + 1) + j)) → GI g l X Q h2 22 [(0, .ref 82), (2, .int (I ((d + 1 : Nat) : Int)))] []) → GI g l X Q h 74 [(0, .ref 82), (2, .int (I (d : Int))), (3, .int (I (c : Int)))] [] := by
  intro m
  induction m with
  | zero =>
    intro c h hc k
    refine bX8_drop_74 O (br_t ((I_le (by omega) (by omega) (by omega) (by omega)).mpr (by omega)) ?_)
    rw [I_add]
    exact k h Chg.rf (fun c' g1 g2 => absurd g1 (by omega))
  | succ m ih =>
    intro c h hc k
    refine bX8_drop_74 O (br_f (fun e => absurd ((I_le (by omega) (by omega) (by omega) (by omega)).mp e) (by omega)) ?_)
    rw [I_add, I_mul, I_mul, I_add, I_add, I_add]
    refine ⟨10 * (d + 1) + c, by congr 1, by omega, 10 * d + c, by congr 1, by omega, 10 * (d + 1) + c, by congr 1, by omega, 10 * d + c, by congr 1, by omega, ?_⟩
    refine ih (c + 1) _ (by omega) (fun h2 e1 e2 => ?_)
    refine k h2 ((((Chg.rf.i ⟨by omega, by omega, by omega⟩).i ⟨by omega, by omega, by omega⟩)).tr (e1.up (fun a k q => by omega) (fun _ _ q => q))) (fun j g1 g2 => ?_)
    by_cases hcc : j = c
    · subst hcc
      rw [e1.1 _ _ (by omega), e1.1 _ _ (by omega), sI_o (by omega), sI_1, up_s, sI_1, up_s]
      exact ⟨rfl, rfl⟩
    · have := e2 j (by omega) g2
      rw [sI_o (by omega), sI_1, up_n (by omega), sI_1, up_n (by omega), sI_o (by omega)] at this
      exact this
theorem lp_mdrop1 {X : XT} {Q : Int32 → AH → Prop} (O : Ok (FF g l X) RX8 cX8_drop 4 mX8_drop.2.2.2.2 (some .int)) (n : Nat) (hn : n ≤ 3) : ∀ (m d : Nat) (h : AH), d + m = n → h.1 82 6 = I (n : Int) → (∀ h2, Chg (fun a k => ((84 ≤ a ∧ a ≤ 86) ∧ d ≤ k) ∨ ((a = 87 ∨ a = 88) ∧ 10 * d ≤ k)) nR h h2 → (∀ c', d ≤ c' → c' < n → h2.1 84 c' = h.1 84 (c' + 1) ∧ h2.1 85 c' = h.1 85 (c' + 1) ∧ h2.1 86 c' = h.1 86 (c' + 1) ∧ ∀ j, j < 10 → h2.1 87 (10 * c' + j) = h.1 87 (10 * (c' + 1) + j) ∧ h2.1 88 (10 * c' + j) = h.1 88 (10 * (c' + 1) + j)) → Q (h2.1 82 6) (sI h2 82 41 (I 0))) → GI g l X Q h 22 [(0, .ref 82), (2, .int (I (d : Int)))] [] := by
  intro m
  induction m with
  | zero =>
    intro d h hd e0 k
    refine bX8_drop_22 O ?_
    rw [e0]
    refine br_t ((I_le (by omega) (by omega) (by omega) (by omega)).mpr (by omega)) ?_
    rw [← e0]
    exact k h Chg.rf (fun c' g1 g2 => absurd g1 (by omega))
  | succ m ih =>
    intro d h hd e0 k
    refine bX8_drop_22 O ?_
    rw [e0]
    refine br_f (fun e => absurd ((I_le (by omega) (by omega) (by omega) (by omega)).mp e) (by omega)) ?_
    rw [I_add]
    refine ⟨d + 1, rfl, by omega, d, rfl, by omega, d + 1, rfl, by omega, d, rfl, by omega, d + 1, rfl, by omega, d, rfl, by omega, ?_⟩
    refine lp_mdrop2 O d (by omega) 10 0 _ (by omega) (fun h1 c1 c2 => ?_)
    refine ih (d + 1) h1 (by omega) (by rw [c1.1 _ _ (by omega), sI_o (by omega), sI_o (by omega), sI_o (by omega)]; exact e0) (fun h2 e1 e2 => ?_)
    have b0 : Chg (fun a k => ((84 ≤ a ∧ a ≤ 86) ∧ d ≤ k) ∨ ((a = 87 ∨ a = 88) ∧ 10 * d ≤ k)) nR h h1 := (((Chg.rf.i (by omega)).i (by omega)).i (by omega)).tr (c1.up (fun a k q => by omega) (fun _ _ q => q))
    have u1 : ∀ a k, 84 ≤ a → a ≤ 86 → k ≠ d → h1.1 a k = h.1 a k := fun a k g1 g2 g3 => by
      rw [c1.1 _ _ (by omega)]
      have q : Chg (fun a k => k = d) nR h (sI (sI (sI h 84 d (h.1 84 (d + 1))) 85 d (h.1 85 (d + 1))) 86 d (h.1 86 (d + 1))) := ((Chg.rf.i (P := fun a k => k = d) rfl).i (P := fun a k => k = d) rfl).i (P := fun a k => k = d) rfl
      exact q.1 _ _ g3
    have u2 : ∀ a k, a = 87 ∨ a = 88 → 10 * d + 10 ≤ k → h1.1 a k = h.1 a k := fun a k g1 g2 => by
      rw [c1.1 _ _ (by omega)]
      have q : Chg (fun a k => a ≤ 86) nR h (sI (sI (sI h 84 d (h.1 84 (d + 1))) 85 d (h.1 85 (d + 1))) 86 d (h.1 86 (d + 1))) := ((Chg.rf.i (by omega)).i (by omega)).i (by omega)
      exact q.1 _ _ (by omega)
    refine k h2 (b0.tr (e1.up (fun a k q => by omega) (fun _ _ q => q))) (fun c' g1 g2 => ?_)
    by_cases hcc : c' = d
    · subst hcc
      refine ⟨?_, ?_, ?_, fun j hj => ?_⟩
      · rw [e1.1 _ _ (by omega), c1.1 _ _ (by omega), sI_o (by omega), sI_o (by omega), sI_1, up_s]
      · rw [e1.1 _ _ (by omega), c1.1 _ _ (by omega), sI_o (by omega), sI_1, up_s]
      · rw [e1.1 _ _ (by omega), c1.1 _ _ (by omega), sI_1, up_s]
      · have := c2 j (by omega) hj
        rw [e1.1 _ _ (by omega), e1.1 _ _ (by omega), this.1, this.2, sI_o (by omega), sI_o (by omega), sI_o (by omega), sI_o (by omega), sI_o (by omega), sI_o (by omega)]
        exact ⟨rfl, rfl⟩
    · have y := e2 c' (by omega) g2
      refine ⟨by rw [y.1, u1 _ _ (by omega) (by omega) (by omega)], by rw [y.2.1, u1 _ _ (by omega) (by omega) (by omega)], by rw [y.2.2.1, u1 _ _ (by omega) (by omega) (by omega)], fun j hj => ?_⟩
      have y4 := y.2.2.2 j hj
      rw [y4.1, y4.2, u2 _ _ (by omega) (by omega), u2 _ _ (by omega) (by omega)]
      exact ⟨rfl, rfl⟩
theorem J_drop {h : AH} (hI : Inv h) (x1 : Int32) : JI g l mX7_drop mX8_drop h [.ref 0, .int x1] [.ref 82, .int x1] := by
  have hI2 := hI
  obtain ⟨s, v, R, M⟩ := hI
  obtain ⟨z, a1, a2, rfl⟩ := I_any x1
  have h4 := v.2.1.1
  obtain ⟨p, hp⟩ := R.1.2.1
  refine sX7_drop (wp_isChip v R ⟨a1, a2⟩ (fun q1 q2 => nb_t n10 ?_) (fun q => nb_f y00 (sX8_drop (fun X O => wp_isChipAt v M ⟨a1, a2⟩ (fun _ _ => by omega) (fun _ => nb_f y00 ⟨rfl, hI2⟩)))))
  obtain ⟨c, rfl⟩ : ∃ n : Nat, z = n := ⟨z.toNat, by omega⟩
  have hc : c < s.2.1.1 := by omega
  refine wp_takeOut hp.1 hp.2.1 hp.2.2.1 hc h4 (fun h1 c1 c2 c3 => ?_)
  rw [c2]
  have d1 : Chg (fun a k => (a = 6 ∧ k = 1) ∨ (a = 0 ∧ k = 10)) (fun a _ => a = 7) h (sI h1 0 10 (I 0)) := (c1.up (fun a k q => by omega) (fun _ _ q => q)).i (by omega)
  have M1 : RM s (sI h1 0 10 (I 0)) := RM_c (d1.up (fun a k q => by unfold scM; omega) (fun _ _ q => q)) M
  refine sX8_drop (fun X O => wp_isChipAt v M1 ⟨a1, a2⟩ (fun _ _ => nb_t n10 ?_) (fun _ => by omega))
  rw [M1.1.2.1.1, I_sub]
  have en : ((s.2.1.1 : Int) - 1) = ((s.2.1.1 - 1 : Nat) : Int) := by omega
  rw [en]
  refine lp_mdrop1 O (s.2.1.1 - 1) (by omega) (s.2.1.1 - 1 - c) c _ (by omega) (by rw [sI_1, up_s]) (fun h2 e1 e2 => ?_)
  have t1 : Chg (fun a k => 82 ≤ a ∨ (a = 6 ∧ k = 1) ∨ (a = 0 ∧ k = 10)) (fun a _ => a = 7) h (sI h2 82 41 (I 0)) := (((d1.up (fun a k q => by omega) (fun _ _ q => q)).i (by omega)).tr (e1.up (fun a k q => by omega) (fun _ _ q => q.elim))).i (by omega)
  have t2 : Chg (fun a k => a < 82 ∨ (84 ≤ a ∧ a ≤ 88) ∨ (a = 82 ∧ (k = 6 ∨ k = 41))) (fun a _ => a = 7) h (sI h2 82 41 (I 0)) := (((d1.up (fun a k q => by omega) (fun _ _ q => q)).i (by omega)).tr (e1.up (fun a k q => by omega) (fun _ _ q => q.elim))).i (by omega)
  have t3 : Chg (fun a k => 82 ≤ a) nR (sI h1 0 10 (I 0)) (sI h2 82 41 (I 0)) := ((Chg.rf.i (by omega)).tr (e1.up (fun a k q => by omega) (fun _ _ q => q))).i (by omega)
  have n6 : h2.1 82 6 = I ((s.2.1.1 - 1 : Nat) : Int) := by rw [e1.1 _ _ (by omega), sI_1, up_s]
  have vz : okCS (s.2.1.1 - 1, fun j => if j < c then s.2.1.2 j else s.2.1.2 (j + 1)) := by
    refine ⟨by show s.2.1.1 - 1 ≤ 4; omega, fun j hj => ?_⟩
    have hj : j < s.2.1.1 - 1 := hj
    show okCH (if j < c then s.2.1.2 j else s.2.1.2 (j + 1))
    by_cases hjc : j < c
    · rw [if_pos hjc]; exact v.2.1.2 j (by omega)
    · rw [if_neg hjc]; exact v.2.1.2 (j + 1) (by omega)
  refine ⟨n6, (s.1, (s.2.1.1 - 1, fun j => if j < c then s.2.1.2 j else s.2.1.2 (j + 1)), s.2.2), ⟨v.1, vz, v.2.2⟩, ?_, ?_⟩
  · refine RC_chips t1 v (fun a k q => by omega) (fun a k q => Or.inr q) R (rcT_c (s := s) t1 (by omega) (fun k => by omega) R.1.1) ⟨dpP p s.2.1.1 c, dp_perm hp.1 hc h4, fun j hj => ?_, ?_, fun j hj => ?_⟩ (by rw [t3.1 _ _ (by omega), sI_1, up_s])
    · rw [t3.2.1 _ _ id]; exact c3 j hj
    · rw [t3.1 _ _ (by omega), sI_o (by omega)]; exact c2
    · have hj : j < s.2.1.1 - 1 := hj
      show atCH _ (dpP p s.2.1.1 c j) (if j < c then s.2.1.2 j else s.2.1.2 (j + 1))
      unfold dpP
      by_cases hjc : j < c
      · rw [if_pos hjc, if_pos hjc]
        have b := hp.1.1 j (by omega)
        exact atCH_c t1 (fun a k g1 g2 => by omega) (hp.2.2.2 j (by omega))
      · rw [if_neg hjc, if_neg hjc, if_pos hj]
        have b := hp.1.1 (j + 1) (by omega)
        exact atCH_c t1 (fun a k g1 g2 => by omega) (hp.2.2.2 (j + 1) (by omega))
  · refine RM_chips t2 (fun a k q => by omega) M (rmT_c (s := s) t2 (by omega) (fun k => by omega) M.1.1) ⟨by rw [sI_1, up_n (by omega)]; exact n6, fun c' hc' => ?_⟩ (by rw [sI_1, up_s])
    have hc' : c' < s.2.1.1 - 1 := hc'
    simp only [Nat.mul_zero, Nat.zero_add]
    have sm : ∀ a k, 84 ≤ a → a ≤ 88 → (sI (sI h1 0 10 (I 0)) 82 6 (I ((s.2.1.1 - 1 : Nat) : Int))).1 a k = h.1 a k := fun a k g1 g2 => by rw [sI_o (by omega), d1.1 _ _ (by omega)]
    by_cases hjc : c' < c
    · rw [if_pos hjc]
      have y := M.1.2.1.2 c' (by omega)
      simp only [Nat.mul_zero, Nat.zero_add] at y
      have vc := (v.2.1.2 c' (by omega)).2.2.2.1
      refine ⟨?_, ?_, ?_, fun k hk => ⟨?_, ?_⟩⟩
      · rw [sI_o (by omega), e1.1 _ _ (by omega), sm _ _ (by omega) (by omega)]; exact y.1
      · rw [sI_o (by omega), e1.1 _ _ (by omega), sm _ _ (by omega) (by omega)]; exact y.2.1
      · rw [sI_o (by omega), e1.1 _ _ (by omega), sm _ _ (by omega) (by omega)]; exact y.2.2.1
      · rw [sI_o (by omega), e1.1 _ _ (by omega), sm _ _ (by omega) (by omega)]; exact (y.2.2.2 k hk).1
      · rw [sI_o (by omega), e1.1 _ _ (by omega), sm _ _ (by omega) (by omega)]; exact (y.2.2.2 k hk).2
    · rw [if_neg hjc]
      have y := M.1.2.1.2 (c' + 1) (by omega)
      simp only [Nat.mul_zero, Nat.zero_add] at y
      have vc := (v.2.1.2 (c' + 1) (by omega)).2.2.2.1
      have g2 := e2 c' (by omega) hc'
      refine ⟨?_, ?_, ?_, fun k hk => ⟨?_, ?_⟩⟩
      · rw [sI_o (by omega), g2.1, sm _ _ (by omega) (by omega)]; exact y.1
      · rw [sI_o (by omega), g2.2.1, sm _ _ (by omega) (by omega)]; exact y.2.1
      · rw [sI_o (by omega), g2.2.2.1, sm _ _ (by omega) (by omega)]; exact y.2.2.1
      · rw [sI_o (by omega), (g2.2.2.2 k (by omega)).1, sm _ _ (by omega) (by omega)]; exact (y.2.2.2 k hk).1
      · rw [sI_o (by omega), (g2.2.2.2 k (by omega)).2, sm _ _ (by omega) (by omega)]; exact (y.2.2.2 k hk).2
end DR
