/-! the last coat on a day -/
def dyB (s : ST) (c y k : Nat) : Bool := decide (ea (yE s) (pof (pE s) c k) ≤ y) && (decide (k + 1 = szP (pE s) c) || decide ((y : Int) < la (yE s) (pof (pE s) c (k + 1))))
def dyS (s : ST) (c y : Nat) : Nat → Nat
  | 0 => if (y : Int) < la (yE s) (pof (pE s) c 0) then 1024 else 0
  | k + 1 => if dyB s c y k then dyS s c y k ||| 2 ^ k else dyS s c y k
section JD
variable {g : mg} {l : Launch} {h : AH} {s : ST}
theorem wp_lastCoats {Q : Int32 → AH → Prop} (v : vS s) (R : RC s h) (P : pcE (pE s) h) (Y : yrC s h) {c y : Nat} (hc : c < s.2.1.1) (hy : y ≤ 999) (k : Q (I (dyS s c y (szP (pE s) c) : Int)) h) : SpI g l mX7_lastCoats h [.ref 0, .int (I (c : Int)), .int (I (y : Int))] Q := by
  have ok : okPE (pE s) := v.2.1
  have h4 : s.2.1.1 ≤ 4 := ok.1
  have n40 := np_le ok
  have z10 : szP (pE s) c ≤ 10 := (ok.2 c hc).2.2.2.1
  have z1 : 1 ≤ szP (pE s) c := (ok.2 c hc).2.2.1
  obtain ⟨p, hp⟩ := R.1.2.1
  have a3 : h.1 (p c) 3 = I (szP (pE s) c : Int) := (hp.2.2.2 c hc).2.1
  have lpc : lay (p c) = (1, 5) := lay_pm (Or.inl rfl) hp.1 (by omega)
  have fpc : h.2.2 7 c = some (p c) := hp.2.1 c (by omega)
  have pl : ∀ j, j < szP (pE s) c → pof (pE s) c j < np (pE s) := fun j hj => (pof_ex ok hc hj).1
  have el : ∀ j, j < szP (pE s) c → ea (yE s) (pof (pE s) c j) ≤ 8300 := fun j hj => by have := ea_le v _ (pl j hj); have := pl j hj; omega
  have wpo : ∀ {Q : Int32 → AH → Prop} j, j < szP (pE s) c → Q (I (pof (pE s) c j : Int)) h → SpI g l mX7_paintingOf h [.ref 0, .int (I (c : Int)), .int (I (j : Int))] Q := fun j hj q => sX7_paintingOf ⟨c * 10 + j, by rw [I_mul, I_add]; rfl, by omega, by rw [P.2.2 c hc j hj]; exact q⟩
  have lp : ∀ X, Ok (FF g l X) RX7 cX7_lastCoats 7 mX7_lastCoats.2.2.2.2 (some .int) → ∀ m j, j + m = szP (pE s) c → GI g l X Q h 43 [(0, .ref 0), (1, .int (I (c : Int))), (2, .int (I (y : Int))), (3, .int (I (dyS s c y j : Int))), (4, .int (I (szP (pE s) c : Int))), (5, .int (I (j : Int)))] [] := by
    intro X O m
    induction m with
    | zero =>
      intro j hj
      have ej : j = szP (pE s) c := by omega
      rw [ej]
      exact bX7_lastCoats_43 O (br_t ((I_le (by omega) (by omega) (by omega) (by omega)).mpr (by omega)) k)
    | succ m ih =>
      intro j hj
      have hjz : j < szP (pE s) c := by omega
      have ds : dyS s c y (j + 1) = if dyB s c y j then dyS s c y j ||| 2 ^ j else dyS s c y j := rfl
      have stay : dyB s c y j = false → GI g l X Q h 43 [(0, .ref 0), (1, .int (I (c : Int))), (2, .int (I (y : Int))), (3, .int (I (dyS s c y j : Int))), (4, .int (I (szP (pE s) c : Int))), (5, .int (I (j : Int) + I 1))] [] := fun e => by
        have := ih (j + 1) (by omega)
        rw [ds, e] at this
        rw [I_add]
        exact this
      have set : dyB s c y j = true → GI g l X Q h 43 [(0, .ref 0), (1, .int (I (c : Int))), (2, .int (I (y : Int))), (3, .int (I (dyS s c y j : Int) ||| (I 1 <<< (I (j : Int) &&& 31)))), (4, .int (I (szP (pE s) c : Int))), (5, .int (I (j : Int) + I 1))] [] := fun e => by
        have := ih (j + 1) (by omega)
        rw [ds, e, if_pos rfl] at this
        rw [I_add, I_shl (by omega), I_or]
        exact this
      have e1 := el j hjz
      have p1 := pl j hjz
      refine bX7_lastCoats_43 O (br_f (fun q => absurd ((I_le (by omega) (by omega) (by omega) (by omega)).mp q) (by omega)) (wpo j hjz ⟨_, rfl, by omega, ?_⟩))
      rw [(Y.1 _ p1).1, I_lt (by omega) (by omega) (by omega) (by omega)]
      refine ⟨fun w => bX7_lastCoats_74 O (br_t y00 (stay (by unfold dyB; rw [decide_eq_false (by omega)]; rfl))), fun w => bX7_lastCoats_74 O (br_f n10 ?_)⟩
      rw [I_sub, I_eq (by omega) (by omega) (by omega) (by omega)]
      refine ⟨fun w2 => set (by unfold dyB; rw [decide_eq_true (show ea (yE s) (pof (pE s) c j) ≤ y by omega), decide_eq_true (show j + 1 = szP (pE s) c by omega)]; rfl), fun w2 => ?_⟩
      have p2 := pl (j + 1) (by omega)
      have l2 := la_in2 v p2
      rw [I_add]
      refine wpo (j + 1) (by omega) ⟨_, rfl, by omega, ?_⟩
      rw [(Y.1 _ p2).2, I_le (by omega) (by omega) (by omega) (by omega)]
      refine ⟨fun w3 => ?_, fun w3 => ?_⟩
      · have := stay (by unfold dyB; rw [decide_eq_true (show ea (yE s) (pof (pE s) c j) ≤ y by omega), decide_eq_false (show ¬ j + 1 = szP (pE s) c by omega), decide_eq_false (by omega)]; rfl)
        rw [I_add] at this
        exact this
      · have := set (by unfold dyB; rw [decide_eq_true (show ea (yE s) (pof (pE s) c j) ≤ y by omega), decide_eq_false (show ¬ j + 1 = szP (pE s) c by omega), decide_eq_true (by omega)]; rfl)
        rw [I_add] at this
        exact this
  refine sX7_lastCoats (fun X O => wpo 0 (by omega) ?_)
  have p0 := pl 0 (by omega)
  have l0 := la_in2 v p0
  refine ⟨_, rfl, by omega, ?_⟩
  rw [(Y.1 _ p0).2, I_le (by omega) (by omega) (by omega) (by omega)]
  have d0 : dyS s c y 0 = if (y : Int) < la (yE s) (pof (pE s) c 0) then 1024 else 0 := rfl
  refine ⟨fun w => ⟨c, rfl, by omega, p c, fpc, lpc, ?_⟩, fun w => ⟨c, rfl, by omega, p c, fpc, lpc, ?_⟩⟩
  · have := lp X O (szP (pE s) c) 0 (by omega)
    rw [d0, if_neg (by omega)] at this
    rw [a3]
    exact this
  · have := lp X O (szP (pE s) c) 0 (by omega)
    rw [d0, if_pos (by omega)] at this
    rw [a3]
    exact this
theorem J_day (hI : Inv h) (x1 x2 : Int32) : JI g l mX7_day mX8_day h [.ref 0, .int x1, .int x2] [.ref 82, .int x1, .int x2] := by
  obtain ⟨s, v, R, M⟩ := hI
  obtain ⟨z1, a1, a2, rfl⟩ := I_any x1
  obtain ⟨z2, b1, b2, rfl⟩ := I_any x2
  have ok : okPE (pE s) := v.2.1
  have h4 : s.2.1.1 ≤ 4 := ok.1
  have n40 := np_le ok
  have bad : (z1 < 0 ∨ (s.2.1.1 : Int) ≤ z1 ∨ z2 < 0 ∨ 999 < z2) → SpI g l mX8_day h [.ref 82, .int (I z1), .int (I z2)] (fun x h2 => x = I (-1) ∧ Inv h2) := fun no => sX8_day (fun X O => wp_isChipAt v M ⟨a1, a2⟩ (fun _ _ => br_f n10 (wp_in ⟨b1, b2⟩ ⟨by omega, by omega⟩ ⟨by omega, by omega⟩ (fun _ _ => by omega) (fun _ => nb_f y00 ⟨rfl, s, v, R, M⟩))) (fun _ => br_t y00 ⟨rfl, s, v, R, M⟩))
  refine sX7_day (wp_isChip v R ⟨a1, a2⟩ (fun p1 p2 => br_f n10 ?_) (fun no => br_t y00 (bad (by omega))))
  rw [I_lt0 b1 b2, I_le b1 b2 (by omega) (by omega)]
  refine ⟨fun q => bad (by omega), fun q => ⟨fun q2 => wp_settle v R M (fun h1 R1 M1 _ P1 => ?_), fun q2 => bad (by omega)⟩⟩
  obtain ⟨c, rfl⟩ : ∃ n : Nat, z1 = n := ⟨z1.toNat, by omega⟩
  obtain ⟨y, rfl⟩ : ∃ n : Nat, z2 = n := ⟨z2.toNat, by omega⟩
  have hc : c < s.2.1.1 := by omega
  obtain ⟨b, b', hb⟩ := R1.1.2.2.1
  refine ⟨b, hb.2.1, lay_bk hb.1, ?_⟩
  rw [R1.1.2.2.2.1 3 (by omega)]
  refine wp_yfind v hb P1 (fun h2 c2 Y => ?_)
  have R2 := RC_yf v R1 c2
  have M2 := RM_yf M1 c2
  have P2 := pcE_c c2 (by omega) (fun a k q1 q2 => by omega) P1
  have z10 : szP (pE s) c ≤ 10 := (ok.2 c hc).2.2.2.1
  have z1 : 1 ≤ szP (pE s) c := (ok.2 c hc).2.2.1
  have pl : ∀ j, j < szP (pE s) c → pof (pE s) c j < np (pE s) := fun j hj => (pof_ex ok hc hj).1
  have el : ∀ j, j < szP (pE s) c → ea (yE s) (pof (pE s) c j) ≤ 8300 := fun j hj => by have := ea_le v _ (pl j hj); have := pl j hj; omega
  have key : ∀ (u : Int32), (canY (yE s) (np (pE s)) = false → u = I 0) → (canY (yE s) (np (pE s)) = true → u = I (dyS s c y (szP (pE s) c) : Int)) → SpI g l mX8_day h2 [.ref 82, .int (I (c : Int)), .int (I (y : Int))] (fun x h2 => x = u ∧ Inv h2) := by
    intro u u0 u1
    refine sX8_day (fun X O => wp_isChipAt v M2 ⟨a1, a2⟩ (fun _ _ => br_f n10 (wp_in ⟨b1, b2⟩ ⟨by omega, by omega⟩ ⟨by omega, by omega⟩ (fun _ _ => nb_t n10 (wp_make v R2 M2 (fun h3 R3 M3 _ P3 => ?_))) (fun _ => by omega))) (fun _ => by omega))
    have e44 : h3.1 82 44 = I (if canY (yE s) (np (pE s)) then 1 else 0) := P3.2.2.2
    rw [e44]
    cases hcy : canY (yE s) (np (pE s)) with
    | false => exact nb_f y00 ⟨(u0 hcy).symm, s, v, R3, M3⟩
    | true =>
      have e86 := e86M M3.1 hc
      have e114 : ∀ j, j < szP (pE s) c → h3.1 114 (10 * c + j) = I (pof (pE s) c j : Int) := P3.2.2.1 c hc
      have eE : ∀ p, p < np (pE s) → h3.1 115 p = I (ea (yE s) p : Int) := fun p hp => (P3.2.1 p hp).2.1
      have eL : ∀ p, p < np (pE s) → h3.1 116 p = I (la (yE s) p) := fun p hp => (P3.2.1 p hp).2.2
      have lp : ∀ m j, j + m = szP (pE s) c → GI g l X (fun x h2 => x = u ∧ Inv h2) h3 63 [(0, .ref 82), (1, .int (I (c : Int))), (2, .int (I (y : Int))), (3, .int (I (dyS s c y j : Int))), (4, .int (I (j : Int)))] [] := by
        intro m
        induction m with
        | zero =>
          intro j hj
          have ej : j = szP (pE s) c := by omega
          refine bX8_day_63 O ⟨c, rfl, by omega, ?_⟩
          rw [e86, ej]
          exact br_t ((I_le (by omega) (by omega) (by omega) (by omega)).mpr (by omega)) ⟨(u1 hcy).symm, s, v, R3, M3⟩
        | succ m ih =>
          intro j hj
          have hjz : j < szP (pE s) c := by omega
          have ds : dyS s c y (j + 1) = if dyB s c y j then dyS s c y j ||| 2 ^ j else dyS s c y j := rfl
          have stay : dyB s c y j = false → GI g l X (fun x h2 => x = u ∧ Inv h2) h3 135 [(0, .ref 82), (1, .int (I (c : Int))), (2, .int (I (y : Int))), (3, .int (I (dyS s c y j : Int))), (4, .int (I (j : Int)))] [] := fun e => by
            have := ih (j + 1) (by omega)
            rw [ds, e] at this
            refine bX8_day_135 O (br_t y00 ?_)
            rw [I_add]
            exact this
          have set : dyB s c y j = true → GI g l X (fun x h2 => x = u ∧ Inv h2) h3 131 [(0, .ref 82), (1, .int (I (c : Int))), (2, .int (I (y : Int))), (3, .int (I (dyS s c y j : Int))), (4, .int (I (j : Int)))] [] := fun e => by
            have := ih (j + 1) (by omega)
            rw [ds, e, if_pos rfl] at this
            refine bX8_day_131 O (br_f n10 ?_)
            rw [I_add, I_shl (by omega), I_or]
            exact this
          have e1 := el j hjz
          have p1 := pl j hjz
          refine bX8_day_63 O ⟨c, rfl, by omega, ?_⟩
          rw [e86]
          refine br_f (fun q => absurd ((I_le (by omega) (by omega) (by omega) (by omega)).mp q) (by omega)) ⟨10 * c + j, by rw [I_mul, I_add]; rfl, by omega, pof (pE s) c j, e114 j hjz, by omega, ?_⟩
          rw [eE _ p1, I_lt (by omega) (by omega) (by omega) (by omega)]
          refine ⟨fun w => stay (by unfold dyB; rw [decide_eq_false (by omega)]; rfl), fun w => ⟨c, rfl, by omega, ?_⟩⟩
          rw [e86, I_sub, I_eq (by omega) (by omega) (by omega) (by omega)]
          refine ⟨fun w2 => set (by unfold dyB; rw [decide_eq_true (show ea (yE s) (pof (pE s) c j) ≤ y by omega), decide_eq_true (show j + 1 = szP (pE s) c by omega)]; rfl), fun w2 => ?_⟩
          have p2 := pl (j + 1) (by omega)
          have l2 := la_in2 v p2
          refine ⟨10 * c + (j + 1), by rw [I_mul, I_add, I_add]; congr 1, by omega, pof (pE s) c (j + 1), e114 (j + 1) (by omega), by omega, ?_⟩
          rw [eL _ p2, I_le (by omega) (by omega) (by omega) (by omega)]
          exact ⟨fun w3 => stay (by unfold dyB; rw [decide_eq_true (show ea (yE s) (pof (pE s) c j) ≤ y by omega), decide_eq_false (show ¬ j + 1 = szP (pE s) c by omega), decide_eq_false (by omega)]; rfl), fun w3 => set (by unfold dyB; rw [decide_eq_true (show ea (yE s) (pof (pE s) c j) ≤ y by omega), decide_eq_false (show ¬ j + 1 = szP (pE s) c by omega), decide_eq_true (by omega)]; rfl)⟩
      have p0 := pl 0 (by omega)
      have l0 := la_in2 v p0
      have d0 : dyS s c y 0 = if (y : Int) < la (yE s) (pof (pE s) c 0) then 1024 else 0 := rfl
      have o0 : h3.1 114 (10 * c) = I (pof (pE s) c 0 : Int) := e114 0 (by omega)
      refine nb_t n10 ⟨10 * c, by rw [I_mul]; rfl, by omega, pof (pE s) c 0, o0, by omega, ?_⟩
      rw [eL _ p0, I_le (by omega) (by omega) (by omega) (by omega)]
      have := lp (szP (pE s) c) 0 (by omega)
      rw [d0] at this
      refine ⟨fun w => ?_, fun w => ?_⟩
      · rw [if_neg (by omega)] at this
        exact this
      · rw [if_pos (by omega)] at this
        exact this
  rw [Y.2]
  cases hcy : canY (yE s) (np (pE s)) with
  | false => exact br_t y00 (key _ (fun _ => rfl) (fun w => by rw [hcy] at w; cases w))
  | true => exact br_f n10 (wp_lastCoats v R2 P2 Y hc (by omega) (key _ (fun w => by rw [hcy] at w; cases w) (fun _ => rfl)))
end JD
