section JC
variable {g : mg} {l : Launch}
/-- one more chip -/
def csP (cs : CS) (c : CH) : CS := (cs.1 + 1, fun i => if i = cs.1 then c else cs.2 i)
theorem csP_n (cs : CS) (c : CH) : (csP cs c).2 cs.1 = c := by
  show (if cs.1 = cs.1 then c else cs.2 cs.1) = c
  rw [if_pos rfl]
theorem csP_o {cs : CS} {c : CH} {i : Nat} (h : i ≠ cs.1) : (csP cs c).2 i = cs.2 i := by
  show (if i = cs.1 then c else cs.2 i) = cs.2 i
  rw [if_neg h]
theorem okCSP {cs : CS} {c : CH} (h : okCS cs) (h4 : cs.1 < 4) (hc : okCH c) : okCS (csP cs c) := by
  refine ⟨h4, fun i hi => ?_⟩
  by_cases e : i = cs.1
  · subst e; rw [csP_n]; exact hc
  · rw [csP_o e]
    have hi : i < cs.1 + 1 := hi
    exact h.2 i (by omega)
theorem perm_far {z : Nat} {p : Nat → Nat} (h : perm z p) {c d : Nat} (hc : c < 4) (hd : d < 4) (n : c ≠ d) : p c + 3 ≤ p d ∨ p d + 3 ≤ p c := by
  have a := h.1 c hc
  have b := h.1 d hd
  have e : p c ≠ p d := fun q => n (h.2 c d hc hd q)
  omega
theorem lp_mchip {X : XT} {Q : Int32 → AH → Prop} (O : Ok (FF g l X) RX8 cX8_chip 2 mX8_chip.2.2.2.2 (some .int)) (n z : Nat) (hn : n < 4) (hz : z ≤ 10) : ∀ (m c : Nat) (h : AH), c + m = z → h.1 82 48 = I (z : Int) → h.1 82 6 = I (n : Int) → (∀ h2, Chg (fun a k => (a = 87 ∨ a = 88) ∧ 10 * n ≤ k) nR h h2 → (∀ c', c ≤ c' → c' < z → h2.1 87 (10 * n + c') = h.1 89 c' ∧ h2.1 88 (10 * n + c') = h.1 90 c') → (∀ c', c' < c → h2.1 87 (10 * n + c') = h.1 87 (10 * n + c') ∧ h2.1 88 (10 * n + c') = h.1 88 (10 * n + c')) → Q (I (n : Int)) (sI (sI (sI h2 82 6 (I ((n + 1 : Nat) : Int))) 82 1 (I 0)) 82 41 (I 0))) → GI g l X Q h 67 [(0, .ref 82), (1, .int (I (c : Int)))] [] := by
  intro m
  induction m with
  | zero =>
    intro c h hc e8 e6 k
    refine bX8_chip_67 O ?_
    rw [e8, e6, I_le (by omega) (by omega) (by omega) (by omega), I_add, I_sub]
    refine br_t (by omega) ?_
    have := k h Chg.rf (fun c' g1 g2 => absurd g1 (by omega)) (fun c' _ => ⟨rfl, rfl⟩)
    rw [show ((n : Int) + 1 - 1) = (n : Int) by omega]
    exact this
  | succ m ih =>
    intro c h hc e8 e6 k
    refine bX8_chip_67 O ?_
    rw [e8, e6, I_le (by omega) (by omega) (by omega) (by omega), I_mul, I_add, I_add, I_add]
    refine br_f (by omega) ⟨c, rfl, by omega, 10 * n + c, rfl, by omega, c, rfl, by omega, 10 * n + c, rfl, by omega, ?_⟩
    refine ih (c + 1) _ (by omega) ?_ ?_ (fun h2 e1 e2 e3 => ?_)
    · rw [sI_o (by omega), sI_o (by omega)]; exact e8
    · rw [sI_o (by omega), sI_o (by omega)]; exact e6
    refine k h2 (((Chg.rf.i ⟨by omega, by omega⟩).i ⟨by omega, by omega⟩).tr e1) (fun c' g1 g2 => ?_) (fun c' g1 => ?_)
    · by_cases hcc : c' = c
      · subst hcc
        have := e3 c' (by omega)
        rw [this.1, this.2, sI_o (by omega), sI_1, up_s, sI_1, up_s]
        exact ⟨rfl, rfl⟩
      · have := e2 c' (by omega) g2
        rw [sI_o (by omega), sI_o (by omega), sI_o (by omega), sI_o (by omega)] at this
        exact this
    · have := e3 c' (by omega)
      rw [this.1, this.2, sI_o (by omega), sI_1, up_n (by omega), sI_1, up_n (by omega)]
      rw [sI_o (by omega)]
      exact ⟨rfl, rfl⟩
theorem J_chip {h : AH} (hI : Inv h) : JI g l mX7_chip mX8_chip h [.ref 0] [.ref 82] := by
  have hI2 := hI
  obtain ⟨s, v, R, M⟩ := hI
  have h4 := v.2.1.1
  obtain ⟨⟨rT, ⟨p, rS⟩, rB, rU, rI, rTr⟩, rCc⟩ := id R
  have e6 : h.1 6 1 = I (s.2.1.1 : Int) := rS.2.2.1
  have e86 : h.1 82 6 = I (s.2.1.1 : Int) := M.1.2.1.1
  refine sX7_chip ?_
  rw [e6, I_lt (by omega) (by omega) (by omega) (by omega)]
  refine ⟨fun q4 => ?_, fun q4 => ?_⟩
  · have n4 : s.2.1.1 < 4 := by omega
    have TR : txR s.1 h := ⟨v.1, rT.1, rT.2⟩
    refine wp_split TR (fun h1 m c1 e7 tk => ?_)
    have pl : lay (p s.2.1.1) = (1, 5) := by
      rcases rS.1.1 s.2.1.1 n4 with q | q | q | q <;> rw [q] <;> rfl
    have px := rS.1.1 s.2.1.1 n4
    refine ⟨s.2.1.1, by rw [c1.1 _ _ (by omega)]; exact e6, n4, p s.2.1.1, by rw [c1.2.1 _ _ (fun q => q)]; exact rS.2.1 _ n4, pl, ?_⟩
    have PP : Nat → Nat → Prop := fun a k => cSplit a k ∨ cCh (p s.2.1.1) a k
    refine wp_chread pl (by omega) tk e7 (fun h2 c2 hF hA => nb_t n10 ?_) (fun h2 f c2 hF fm f7 => nb_f y00 ?_)
    · -- it is a chip
      have d : Chg (fun a k => (3 ≤ a ∧ a ≤ 5) ∨ (a = 1 ∧ k ≠ 1) ∨ (p s.2.1.1 ≤ a ∧ a ≤ p s.2.1.1 + 2)) nR h h2 := (c1.up (fun a k q => by omega) (fun _ _ q => q)).tr (c2.up (fun a k q => by omega) (fun _ _ q => q))
      have f6 : h2.1 6 1 = I (s.2.1.1 : Int) := by rw [d.1 _ _ (by omega)]; exact e6
      rw [f6, I_add, I_sub, show ((s.2.1.1 : Int) + 1 - 1) = (s.2.1.1 : Int) by omega]
      generalize hh3 : sI (sI (sI h2 1 1 (I 0)) 6 1 (I ((s.2.1.1 : Int) + 1))) 0 10 (I 0) = h3
      have d3 : Chg (fun a k => (1 ≤ a ∧ a ≤ 19) ∨ (a = 0 ∧ k = 10)) nR h h3 := by
        rw [← hh3]
        exact (((d.up (fun a k q => by omega) (fun _ _ q => q)).i (by omega)).i (by omega)).i (by omega)
      have d23 : Chg (fun a k => (a = 1 ∧ k = 1) ∨ (a = 6 ∧ k = 1) ∨ (a = 0 ∧ k = 10)) nR h2 h3 := by
        rw [← hh3]
        exact ((Chg.rf.i (by omega)).i (by omega)).i (by omega)
      have okc := chC_ok hF
      have v' : vS ((0, s.1.2), csP s.2.1 (chC s.1), s.2.2) := ⟨⟨by show (0 : Nat) ≤ 400; omega, v.1.2⟩, okCSP v.2.1 n4 okc, v.2.2⟩
      have R3 : RC ((0, s.1.2), csP s.2.1 (chC s.1), s.2.2) h3 := by
        refine RC_chips d3 v (fun a k q => by omega) (fun a k q => absurd q id) R ⟨?_, fun i hi => absurd hi (by show ¬ i < 0; omega)⟩ ⟨p, rS.1, fun c hc => ?_, ?_, fun c hc => ?_⟩ ?_
        · rw [← hh3, sI_o (by omega), sI_o (by omega), sI_1, up_s]; rfl
        · rw [d3.2.1 _ _ (fun q => q)]; exact rS.2.1 c hc
        · rw [← hh3, sI_o (by omega), sI_1, up_s]; rfl
        · have hc : c < s.2.1.1 + 1 := hc
          by_cases e : c = s.2.1.1
          · subst e
            rw [csP_n]
            exact atCH_c d23 (fun a k q1 q2 => by omega) hA
          · rw [csP_o e]
            have far := perm_far rS.1 (show c < 4 by omega) n4 e
            have pc := rS.1.1 c (by omega)
            exact atCH_c d23 (fun a k q1 q2 => by omega) (atCH_c d (fun a k q1 q2 => by omega) (rS.2.2.2 c (by omega)))
        · rw [← hh3, sI_1, up_s]
      -- the reference
      have TM3 : txM s.1 h3 := ⟨v.1, by rw [d3.1 _ _ (by omega)]; exact M.1.1.1, fun i hi => by rw [d3.1 _ _ (by omega)]; exact M.1.1.2 i hi⟩
      refine sX8_chip (fun X O => ?_)
      have g6 : h3.1 82 6 = I (s.2.1.1 : Int) := by rw [d3.1 _ _ (by omega)]; exact e86
      rw [g6, I_eq (by omega) (by omega) (by omega) (by omega)]
      refine nb_t (by omega) (wp_misChip TM3 (fun h5 c5 _ a46 a47 a48 al => nb_t n10 ?_) (fun h5 f c5 hF' => absurd hF' (by rw [hF]; exact fun q => by cases q)))
      have g6' : h5.1 82 6 = I (s.2.1.1 : Int) := by rw [c5.1 _ _ (by omega)]; exact g6
      refine ⟨s.2.1.1, g6', n4, s.2.1.1, g6', n4, s.2.1.1, g6', n4, ?_⟩
      have z10 := okc.2.2.2.1
      rw [a46, a47, a48]
      generalize hh6 : sI (sI (sI h5 84 s.2.1.1 (I ((chC s.1).1 : Int))) 85 s.2.1.1 (I ((chC s.1).2.1 : Int))) 86 s.2.1.1 (I ((chC s.1).2.2.1 : Int)) = h6
      have c56 : Chg (fun a k => 84 ≤ a ∧ a ≤ 86 ∧ k = s.2.1.1) nR h5 h6 := by
        rw [← hh6]
        exact ((Chg.rf.i (by omega)).i (by omega)).i (by omega)
      refine lp_mchip O s.2.1.1 (chC s.1).2.2.1 n4 z10 (chC s.1).2.2.1 0 h6 (by omega) (by rw [c56.1 _ _ (by omega)]; exact a48) (by rw [c56.1 _ _ (by omega)]; exact g6') (fun h7 c7 al7 _ => ⟨rfl, ((0, s.1.2), csP s.2.1 (chC s.1), s.2.2), v', ?_, ?_⟩)
      · generalize hh8 : sI (sI (sI h7 82 6 (I ((s.2.1.1 + 1 : Nat) : Int))) 82 1 (I 0)) 82 41 (I 0) = h8
        have up8 : Chg (fun a k => 82 ≤ a) nR h3 h8 := by
          rw [← hh8]
          refine Chg.i (Chg.i (Chg.i ?_ (by omega)) (by omega)) (by omega)
          exact ((c5.up (fun a k q => by omega) (fun _ _ q => q)).tr (c56.up (fun a k q => by omega) (fun _ _ q => q))).tr (c7.up (fun a k q => by omega) (fun _ _ q => q))
        exact RC_c (up8.up (fun a k q => Or.inl q) (fun _ _ q => absurd q id)) v' R3
      · generalize hh8 : sI (sI (sI h7 82 6 (I ((s.2.1.1 + 1 : Nat) : Int))) 82 1 (I 0)) 82 41 (I 0) = h8
        have c78 : Chg (fun a k => a = 82) nR h7 h8 := by
          rw [← hh8]
          refine Chg.i (Chg.i (Chg.i Chg.rf ?_) ?_) ?_ <;> rfl
        have c38 : Chg (fun a k => a < 82 ∨ (84 ≤ a ∧ a ≤ 90) ∨ (a = 82 ∧ k ≠ 17)) nR h h8 := by
          rw [← hh8]
          refine Chg.i (Chg.i (Chg.i ?_ (by omega)) (by omega)) (by omega)
          exact (((d3.up (fun a k q => by omega) (fun _ _ q => q)).tr (c5.up (fun a k q => by omega) (fun _ _ q => q))).tr (c56.up (fun a k q => by omega) (fun _ _ q => q))).tr (c7.up (fun a k q => by omega) (fun _ _ q => q))
        refine RM_chips c38 (fun a k q => by omega) M ⟨?_, fun i hi => absurd hi (by show ¬ i < 0; omega)⟩ ⟨?_, fun c hc => ?_⟩ ?_
        · rw [← hh8, sI_1, up_n (by omega), sI_1, up_s]; rfl
        · rw [← hh8, sI_1, up_n (by omega), sI_1, up_n (by omega), sI_1, up_s]; rfl
        · have hc : c < s.2.1.1 + 1 := hc
          by_cases e : c = s.2.1.1
          · rw [e, csP_n]
            refine ⟨?_, ?_, ?_, fun k hk => ?_⟩
            · rw [c78.1 _ _ (by omega), c7.1 _ _ (by omega), ← hh6, sI_o (by omega), sI_o (by omega), sI_1, Nat.mul_zero, Nat.zero_add, up_s]
            · rw [c78.1 _ _ (by omega), c7.1 _ _ (by omega), ← hh6, sI_o (by omega), sI_1, Nat.mul_zero, Nat.zero_add, up_s]
            · rw [c78.1 _ _ (by omega), c7.1 _ _ (by omega), ← hh6, sI_1, Nat.mul_zero, Nat.zero_add, up_s]
            · have a7 := al7 k (by omega) hk
              have a5 := al k hk
              rw [show 10 * (4 * 0) + 10 * s.2.1.1 + k = 10 * s.2.1.1 + k by omega, c78.1 _ _ (by omega), c78.1 _ _ (by omega), a7.1, a7.2, c56.1 _ _ (by omega), c56.1 _ _ (by omega)]
              exact a5
          · rw [csP_o e]
            have hz := (v.2.1.2 c (by omega)).2.2.2.1
            have := M.1.2.1.2 c (by omega)
            have keep : ∀ a k, (84 ≤ a ∧ a ≤ 86 ∧ k ≠ s.2.1.1) ∨ (87 ≤ a ∧ a ≤ 88 ∧ k < 10 * s.2.1.1) → h8.1 a k = h.1 a k := fun a k q => by
              rw [c78.1 _ _ (by omega), c7.1 _ _ (by omega), c56.1 _ _ (by omega), c5.1 _ _ (by omega), d3.1 _ _ (by omega)]
            refine ⟨?_, ?_, ?_, fun k hk => ?_⟩
            · rw [keep _ _ (by omega)]; exact this.1
            · rw [keep _ _ (by omega)]; exact this.2.1
            · rw [keep _ _ (by omega)]; exact this.2.2.1
            · rw [keep _ _ (by omega), keep _ _ (by omega)]; exact this.2.2.2 k hk
        · rw [← hh8, sI_1, up_s]
    · -- it isn't
      have d : Chg (fun a k => (3 ≤ a ∧ a ≤ 5) ∨ (a = 1 ∧ k ≠ 1) ∨ (p s.2.1.1 ≤ a ∧ a ≤ p s.2.1.1 + 2)) nR h h2 := (c1.up (fun a k q => by omega) (fun _ _ q => q)).tr (c2.up (fun a k q => by omega) (fun _ _ q => q))
      have tk2 := tokC_c tk c2 (by omega) (fun a k q1 q2 => by omega)
      refine wp_fault tk2 fm f7 ?_
      have R2 : RC s h2 := by
        obtain ⟨b, b', bb⟩ := rB
        refine ⟨⟨rcT_c (s := s) d (by omega) (fun k => by omega) rT, ⟨p, rS.1, fun c hc => ?_, ?_, fun c hc => ?_⟩, ⟨b, b', rcB_c (s := s) d (fun a k h1 h2 => by omega) (fun k => id) bb⟩, fun j hj => by rw [d.1 _ _ (by omega)]; exact rU j hj, rcI_c (s := s) d v (fun a k h1 h2 => by omega) (fun a k hh => id) rI, by rw [d.2.2.1]; exact rTr⟩, rcC_c (s := s) d (by omega) (by omega) (fun a k h1 h2 => by omega) rCc⟩
        · rw [d.2.1 _ _ (fun q => q)]; exact rS.2.1 c hc
        · rw [d.1 _ _ (by omega)]; exact e6
        · have far := perm_far rS.1 (show c < 4 by omega) n4 (by omega)
          have pc := rS.1.1 c (by omega)
          exact atCH_c d (fun a k q1 q2 => by omega) (rS.2.2.2 c hc)
      have TM2 : txM s.1 h2 := ⟨v.1, by rw [d.1 _ _ (by omega)]; exact M.1.1.1, fun i hi => by rw [d.1 _ _ (by omega)]; exact M.1.1.2 i hi⟩
      have M2 : RM s h2 := RM_c (d.up (fun a k q => Or.inl (by omega)) (fun _ _ q => q)) M
      refine sX8_chip (fun X O => ?_)
      rw [show h2.1 82 6 = I (s.2.1.1 : Int) from M2.1.2.1.1, I_eq (by omega) (by omega) (by omega) (by omega)]
      refine nb_t (by omega) (wp_misChip TM2 (fun h5 c5 hF' => absurd hF' (by rw [hF]; exact fun q => by cases q)) (fun h5 f' c5 hF' e3 => nb_f y00 ?_))
      rw [hF] at hF'
      have ef : f = f' := by injection hF'
      subst ef
      rw [e3]
      refine ⟨rfl, Inv_sc v R2 M2 c5 (fun a k q => Or.inl (by omega)) (fun a k q => ?_) (fun _ _ q => absurd q id)⟩
      unfold scM
      omega
  · refine sX8_chip (fun X O => ?_)
    rw [e86, I_eq (by omega) (by omega) (by omega) (by omega)]
    exact nb_f (by omega) ⟨rfl, hI2⟩
end JC
