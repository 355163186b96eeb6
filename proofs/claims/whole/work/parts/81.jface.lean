/-! from where a door was moved -/
def mCo (s : ST) (c d : Nat) : Nat := (ltab (lyE s c d) 0 0).1
def mRo (s : ST) (d : Nat) : Nat := (s.2.1.2 d).1
/-- the least so far (-1: none yet), the room (-9) -/
def mvS (s : ST) (c : Nat) : Nat → Int × Int
  | 0 => (-1, -9)
  | d + 1 => if d = c then mvS s c d else if (mvS s c d).1 < 0 ∨ (mCo s c d : Int) < (mvS s c d).1 ∨ ((mCo s c d : Int) = (mvS s c d).1 ∧ mRo s d = mRo s c) then ((mCo s c d : Int), (mRo s d : Int)) else mvS s c d
theorem mCo_le {s : ST} (v : vS s) {c d : Nat} (hc : c < s.2.1.1) (hd : d < s.2.1.1) : mCo s c d ≤ 1000 := lrow_1000 (okL_of v hc hd) (by have := (okL_of v hc hd).1; omega)
theorem mvS_ok {s : ST} (v : vS s) {c : Nat} (hc : c < s.2.1.1) : ∀ d, d ≤ s.2.1.1 → ((mvS s c d).1 = -1 ∧ (mvS s c d).2 = -9) ∨ (0 ≤ (mvS s c d).1 ∧ (mvS s c d).1 ≤ 1000 ∧ 0 ≤ (mvS s c d).2 ∧ (mvS s c d).2 ≤ 5)
  | 0, _ => Or.inl ⟨rfl, rfl⟩
  | d + 1, hd => by
    have ih := mvS_ok v hc d (by omega)
    have h1 := mCo_le v hc (show d < s.2.1.1 by omega)
    have h2 : mRo s d ≤ 5 := (v.2.1.2 d (by omega)).1
    unfold mvS
    split
    · exact ih
    · split
      · exact Or.inr ⟨by show (0 : Int) ≤ (mCo s c d : Int); omega, by show (mCo s c d : Int) ≤ 1000; omega, by show (0 : Int) ≤ (mRo s d : Int); omega, by show (mRo s d : Int) ≤ 5; omega⟩
      · exact ih
/-- a step that omega does not look into -/
def Imp (A B : Prop) : Prop := A → B
section JF
variable {g : mg} {l : Launch} {h : AH} {s : ST}
theorem e84M (M : rmS s h) {c : Nat} (hc : c < s.2.1.1) : h.1 84 c = I (mRo s c : Int) := by
  have := (M.2.1.2 c hc).1
  rw [Nat.mul_zero, Nat.zero_add] at this
  exact this
theorem e85M (M : rmS s h) {c : Nat} (hc : c < s.2.1.1) : h.1 85 c = I ((s.2.1.2 c).2.1 : Int) := by
  have := (M.2.1.2 c hc).2.1
  rw [Nat.mul_zero, Nat.zero_add] at this
  exact this
theorem wp_moved {Q : Int32 → AH → Prop} (v : vS s) (R : RC s h) (M : RM s h) {c : Nat} (hc : c < s.2.1.1) (k : ∀ h2, RC s h2 → RM s h2 → Q (I (mvS s c s.2.1.1).2) h2) : SpI g l mX8_moved h [.ref 82, .int (I (c : Int))] Q := by
  have h4 := v.2.1.1
  refine sX8_moved (fun X O => ?_)
  have lp : ∀ m d h1, d + m = s.2.1.1 → RC s h1 → RM s h1 → GI g l X Q h1 8 [(0, .ref 82), (1, .int (I (c : Int))), (2, .int (I (mvS s c d).1)), (3, .int (I (mvS s c d).2)), (4, .int (I (d : Int)))] [] := by
    intro m
    induction m with
    | zero =>
      intro d h1 hd R1 M1
      have de : d = s.2.1.1 := by omega
      have e6 : h1.1 82 6 = I (s.2.1.1 : Int) := M1.1.2.1.1
      refine bX8_moved_8 O ?_
      rw [e6, de]
      exact br_t ((I_le (by omega) (by omega) (by omega) (by omega)).mpr (by omega)) (k h1 R1 M1)
    | succ m ih =>
      intro d h1 hd R1 M1
      have hdn : d < s.2.1.1 := by omega
      have e6 : h1.1 82 6 = I (s.2.1.1 : Int) := M1.1.2.1.1
      have ms : mvS s c (d + 1) = if d = c then mvS s c d else if (mvS s c d).1 < 0 ∨ (mCo s c d : Int) < (mvS s c d).1 ∨ ((mCo s c d : Int) = (mvS s c d).1 ∧ mRo s d = mRo s c) then ((mCo s c d : Int), (mRo s d : Int)) else mvS s c d := rfl
      have mo := mvS_ok v hc d (by omega)
      have cl := mCo_le v hc hdn
      have r5 : mRo s d ≤ 5 := (v.2.1.2 d hdn).1
      have r5' : mRo s c ≤ 5 := (v.2.1.2 c hc).1
      have IH : ∀ h2 p, RC s h2 → RM s h2 → mvS s c (d + 1) = p → GI g l X Q h2 8 [(0, .ref 82), (1, .int (I (c : Int))), (2, .int (I p.1)), (3, .int (I p.2)), (4, .int (I (d : Int) + I 1))] [] := fun h2 p R2 M2 ep => by
        rw [I_add, ← ep]
        exact ih (d + 1) h2 (by omega) R2 M2
      refine bX8_moved_8 O ?_
      rw [e6]
      refine br_f (fun q => absurd ((I_le (by omega) (by omega) (by omega) (by omega)).mp q) (by omega)) ?_
      rw [I_eq (by omega) (by omega) (by omega) (by omega)]
      refine ⟨fun y => wp_mleast v M1 hc hdn (by omega) (fun h2 c2 => ?_), fun y => IH h1 _ R1 M1 (by rw [ms, if_pos (by omega)])⟩
      have R2 : RC s h2 := RC_c (c2.up (fun a k q => by unfold scC; omega) (fun _ _ q => q.elim)) v R1
      have M2 : RM s h2 := RM_c (c2.up (fun a k q => by unfold scM; omega) (fun _ _ q => q)) M1
      have e84 := e84M M2.1 hdn
      have e84' := e84M M2.1 hc
      have ne : ¬ d = c := by omega
      show ((I (mvS s c d).1 < 0) → _) ∧ _
      rw [if_neg ne] at ms
      have go : ((mvS s c d).1 < 0 ∨ (mCo s c d : Int) < (mvS s c d).1 ∨ ((mCo s c d : Int) = (mvS s c d).1 ∧ mRo s d = mRo s c)) → GI g l X Q h2 8 [(0, .ref 82), (1, .int (I (c : Int))), (2, .int (I (mCo s c d : Int))), (3, .int (h2.1 84 d)), (4, .int (I (d : Int) + I 1))] [] := fun z => by
        rw [e84]
        exact IH h2 ((mCo s c d : Int), (mRo s d : Int)) R2 M2 (by rw [ms, if_pos z])
      have stay : ¬ ((mvS s c d).1 < 0 ∨ (mCo s c d : Int) < (mvS s c d).1 ∨ ((mCo s c d : Int) = (mvS s c d).1 ∧ mRo s d = mRo s c)) → GI g l X Q h2 8 [(0, .ref 82), (1, .int (I (c : Int))), (2, .int (I (mvS s c d).1)), (3, .int (I (mvS s c d).2)), (4, .int (I (d : Int) + I 1))] [] := fun z => IH h2 _ R2 M2 (by rw [ms, if_neg z])
      rw [I_lt0 (by omega) (by omega)]
      refine ⟨fun z => ⟨d, rfl, by omega, go (Or.inl z)⟩, fun z => ?_⟩
      show ((I (mCo s c d : Int) < I (mvS s c d).1) → _) ∧ (¬ (I (mCo s c d : Int) < I (mvS s c d).1) → ((¬ I (mCo s c d : Int) = I (mvS s c d).1) → _) ∧ (I (mCo s c d : Int) = I (mvS s c d).1 → _))
      rw [I_lt (by omega) (by omega) (by omega) (by omega), I_eq (by omega) (by omega) (by omega) (by omega)]
      refine ⟨fun z2 => ⟨d, rfl, by omega, go (Or.inr (Or.inl z2))⟩, fun z2 => ⟨fun z3 => stay (by omega), fun z3 => ⟨d, rfl, by omega, c, rfl, by omega, ?_⟩⟩⟩
      rw [e84', e84, I_eq (by omega) (by omega) (by omega) (by omega)]
      rw [e84] at go
      exact ⟨fun z4 => stay (by omega), fun z4 => ⟨d, rfl, by omega, by rw [e84]; exact go (Or.inr (Or.inr ⟨z3, by omega⟩))⟩⟩
  exact lp s.2.1.1 0 h (by omega) R M
theorem wp_movedFrom {Q : Int32 → AH → Prop} (v : vS s) (R : RC s h) (M : RM s h) {c : Nat} (hc : c < s.2.1.1) (k : ∀ h2, RC s h2 → RM s h2 → Q (I (mvS s c s.2.1.1).2) h2) : SpI g l mX7_movedFrom h [.ref 0, .int (I (c : Int))] Q := by
  have h4 := v.2.1.1
  have r5' : mRo s c ≤ 5 := (v.2.1.2 c hc).1
  have lp : ∀ X, Ok (FF g l X) RX7 cX7_movedFrom 8 mX7_movedFrom.2.2.2.2 (some .int) → ∀ m d h1, d + m = s.2.1.1 → RC s h1 → RM s h1 → GI g l X Q h1 22 [(0, .ref 0), (1, .int (I (c : Int))), (2, .int (I (mRo s c : Int))), (3, .int (I (mvS s c d).2)), (4, .int (I (if (mvS s c d).2 = -9 then 0 else (mvS s c d).1))), (5, .int (I (d : Int)))] [] := by
    intro X O m
    induction m with
    | zero =>
      intro d h1 hd R1 M1
      obtain ⟨p, hp⟩ := R1.1.2.1
      have de : d = s.2.1.1 := by omega
      refine bX7_movedFrom_22 O ?_
      rw [hp.2.2.1, de]
      exact br_t ((I_le (by omega) (by omega) (by omega) (by omega)).mpr (by omega)) (k h1 R1 M1)
    | succ m ih =>
      intro d h1 hd R1 M1
      have hdn : d < s.2.1.1 := by omega
      obtain ⟨p, hp⟩ := R1.1.2.1
      have ms : mvS s c (d + 1) = if d = c then mvS s c d else if (mvS s c d).1 < 0 ∨ (mCo s c d : Int) < (mvS s c d).1 ∨ ((mCo s c d : Int) = (mvS s c d).1 ∧ mRo s d = mRo s c) then ((mCo s c d : Int), (mRo s d : Int)) else mvS s c d := rfl
      have mo := mvS_ok v hc d (by omega)
      have cl := mCo_le v hc hdn
      have r5 : mRo s d ≤ 5 := (v.2.1.2 d hdn).1
      have IH : ∀ h2 p, RC s h2 → RM s h2 → mvS s c (d + 1) = p → GI g l X Q h2 22 [(0, .ref 0), (1, .int (I (c : Int))), (2, .int (I (mRo s c : Int))), (3, .int (I p.2)), (4, .int (I (if p.2 = -9 then 0 else p.1))), (5, .int (I (d : Int) + I 1))] [] := fun h2 p R2 M2 ep => by
        rw [I_add, ← ep]
        exact ih (d + 1) h2 (by omega) R2 M2
      refine bX7_movedFrom_22 O ?_
      rw [hp.2.2.1]
      refine br_f (fun q => absurd ((I_le (by omega) (by omega) (by omega) (by omega)).mp q) (by omega)) ?_
      rw [I_eq (by omega) (by omega) (by omega) (by omega)]
      refine ⟨fun y => wp_lay v R1 hc hdn (fun h2 x1 x2 c2 c3 c4 => sX2_leastCost ?_), fun y => IH h1 _ R1 M1 (by rw [ms, if_pos (by omega)])⟩
      have t0 : h2.1 24 0 = I (mCo s c d : Int) := (c4 0 0 (Nat.zero_le _) (Nat.zero_le _)).1
      rw [t0]
      have R2 : RC s h2 := RC_c (c2.up (fun a k q => by unfold scC; omega) (fun a _ q => by unfold srC'; omega)) v R1
      have M2 : RM s h2 := RM_c (c2.up (fun a k q => by unfold scM; omega) (fun _ _ q => q)) M1
      obtain ⟨p2, hp2⟩ := R2.1.2.1
      have er : h2.1 (p2 d) 2 = I (mRo s d : Int) := (hp2.2.2.2 d hdn).1
      have lp2 : lay (p2 d) = (1, 5) := lay_pm (Or.inl rfl) hp2.1 (by omega)
      have f2 : h2.2.2 7 d = some (p2 d) := hp2.2.1 d (by omega)
      have ne : ¬ d = c := by omega
      rw [if_neg ne] at ms
      have go : Imp ((mvS s c d).1 < 0 ∨ (mCo s c d : Int) < (mvS s c d).1 ∨ ((mCo s c d : Int) = (mvS s c d).1 ∧ mRo s d = mRo s c)) (∃ j2 : Nat, I (d : Int) = I (j2 : Int) ∧ j2 < 4 ∧ ∃ b3 : Nat, h2.2.2 7 j2 = some b3 ∧ lay b3 = (1, 5) ∧ GI g l X Q h2 22 [(0, .ref 0), (1, .int (I (c : Int))), (2, .int (I (mRo s c : Int))), (3, .int (h2.1 b3 2)), (4, .int (I (mCo s c d : Int))), (5, .int (I (d : Int) + I 1))] []) := fun z => by
        refine ⟨d, rfl, by omega, p2 d, f2, lp2, ?_⟩
        have := IH h2 ((mCo s c d : Int), (mRo s d : Int)) R2 M2 (by rw [ms, if_pos z])
        simp only at this
        rw [if_neg (by omega)] at this
        rw [er]
        exact this
      have stay : ¬ ((mvS s c d).1 < 0 ∨ (mCo s c d : Int) < (mvS s c d).1 ∨ ((mCo s c d : Int) = (mvS s c d).1 ∧ mRo s d = mRo s c)) → GI g l X Q h2 22 [(0, .ref 0), (1, .int (I (c : Int))), (2, .int (I (mRo s c : Int))), (3, .int (I (mvS s c d).2)), (4, .int (I (if (mvS s c d).2 = -9 then 0 else (mvS s c d).1))), (5, .int (I (d : Int) + I 1))] [] := fun z => IH h2 _ R2 M2 (by rw [ms, if_neg z])
      have near : (0 : Int) ≤ (if (mvS s c d).2 = -9 then 0 else (mvS s c d).1) ∧ (if (mvS s c d).2 = -9 then 0 else (mvS s c d).1) ≤ 1000 ∧ ((mvS s c d).2 ≠ -9 → (if (mvS s c d).2 = -9 then 0 else (mvS s c d).1) = (mvS s c d).1) := by
        split <;> omega
      generalize (if (mvS s c d).2 = -9 then 0 else (mvS s c d).1) = nr at near stay ⊢
      have at88 : ∀ t : Bool, (t = true ↔ ((mCo s c d : Int) = nr ∧ mRo s d = mRo s c)) → GI g l X Q h2 88 [(0, .ref 0), (1, .int (I (c : Int))), (2, .int (I (mRo s c : Int))), (3, .int (I (mvS s c d).2)), (4, .int (I nr)), (5, .int (I (d : Int))), (6, .int (I (mCo s c d : Int)))] [.int (I (if t then 1 else 0))] := fun t ht => by
        refine bX7_movedFrom_88 O ?_
        rw [I_eq (by omega) (by omega) (by omega) (by omega), I_lt (by omega) (by omega) (by omega) (by omega)]
        refine ⟨fun z => go (by omega), fun z => ⟨fun z2 => go (by omega), fun z2 => ?_⟩⟩
        cases t with
        | false =>
          have nt : ¬ ((mCo s c d : Int) = nr ∧ mRo s d = mRo s c) := fun w => by have := ht.mpr w; cases this
          exact br_t y00 (stay (by omega))
        | true => exact br_f n10 (go (by have := ht.mp rfl; omega))
      rw [I_eq (by omega) (by omega) (by omega) (by omega)]
      refine ⟨fun z => at88 false ⟨fun w => (by cases w), fun w => absurd w.1 z⟩, fun z => ⟨d, rfl, by omega, p2 d, f2, lp2, ?_⟩⟩
      rw [er, I_eq (by omega) (by omega) (by omega) (by omega)]
      exact ⟨fun z2 => at88 false ⟨fun w => (by cases w), fun w => absurd w.2 (by omega)⟩, fun z2 => at88 true ⟨fun _ => ⟨z, by omega⟩, fun _ => rfl⟩⟩
  refine sX7_movedFrom (fun X O => ?_)
  obtain ⟨p, hp⟩ := R.1.2.1
  refine ⟨c, rfl, by omega, p c, hp.2.1 c (by omega), lay_pm (Or.inl rfl) hp.1 (by omega), ?_⟩
  rw [(hp.2.2.2 c hc).1]
  exact lp X O s.2.1.1 0 h (by omega) R M
theorem J_face (hI : Inv h) (x1 x2 : Int32) : JI g l mX7_face mX8_face h [.ref 0, .int x1, .int x2] [.ref 82, .int x1, .int x2] := by
  have hI2 := hI
  obtain ⟨s, v, R, M⟩ := hI
  obtain ⟨z1, a1, a2, rfl⟩ := I_any x1
  obtain ⟨z2, b1, b2, rfl⟩ := I_any x2
  have ok : okPE (pE s) := v.2.1
  have h4 : s.2.1.1 ≤ 4 := ok.1
  have n40 := np_le ok
  refine sX7_face (wp_isChip v R ⟨a1, a2⟩ (fun p1 p2 => nb_t n10 ?_) (fun no => nb_f y00 ?_))
  · obtain ⟨c, rfl⟩ : ∃ n : Nat, z1 = n := ⟨z1.toNat, by omega⟩
    have hc : c < s.2.1.1 := by omega
    have vc := ok.2 c hc
    have z10 : szP (pE s) c ≤ 10 := vc.2.2.2.1
    have z1 : 1 ≤ szP (pE s) c := vc.2.2.1
    have po1 : (s.2.1.2 c).2.1 ≤ 1 := vc.2.1
    obtain ⟨sz, hsz⟩ : ∃ sz, szP (pE s) c = sz + 1 := ⟨szP (pE s) c - 1, by omega⟩
    have pf0 := (pof_ex ok hc (j := 0) (by omega)).1
    have key : ∀ (h1 : AH) (u : Int32), RC s h1 → RM s h1 → (z2 = 0 → u = I ((pof (pE s) c sz : Int) - (pof (pE s) c 0 : Int) + 1 - (szP (pE s) c : Int))) → (z2 = 1 → u = I (pof (pE s) c 0 : Int)) → (z2 = 2 → u = I (if pof (pE s) c 0 = 0 then 0 else if (s.2.1.2 c).2.1 = 1 then 1 else 2)) → (z2 = 3 → u = I (mvS s c s.2.1.1).2) → (z2 < 0 ∨ 3 < z2 → u = I (-1)) → SpI g l mX8_face h1 [.ref 82, .int (I (c : Int)), .int (I z2)] (fun x h2 => x = u ∧ Inv h2) := by
      intro h1 u R1 M1 u0 u1 u2 u3 u4
      refine sX8_face (wp_isChipAt v M1 ⟨a1, a2⟩ (fun _ _ => br_f n10 ?_) (fun no => by omega))
      refine wp_in ⟨b1, b2⟩ ⟨by omega, by omega⟩ ⟨by omega, by omega⟩ (fun _ _ => nb_t n10 (wp_make v R1 M1 (fun h2 R2 M2 _ P2 => ?_))) (fun q => nb_f y00 ⟨(u4 q).symm, s, v, R1, M1⟩)
      have e86 := e86M M2.1 hc
      have e114 := P2.2.2.1 c hc
      have o0 : h2.1 114 (10 * c) = I (pof (pE s) c 0 : Int) := e114 0 (by show 0 < szP (pE s) c; omega)
      have oz : h2.1 114 (10 * c + sz) = I (pof (pE s) c sz : Int) := e114 sz (by show sz < szP (pE s) c; omega)
      refine ⟨10 * c, by rw [I_mul]; rfl, by omega, c, rfl, by omega, 10 * c + sz, by rw [e86, I_mul, I_add, I_sub, hsz]; congr 1; omega, by omega, ?_⟩
      rw [o0, oz, I_eq0 b1 b2, I_eq b1 b2 (by omega) (by omega), I_eq b1 b2 (by omega) (by omega), I_eq0 (by omega) (by omega)]
      refine ⟨fun q => ⟨fun q2 => ⟨fun q3 => wp_moved v R2 M2 hc (fun h3 R3 M3 => ⟨(u3 (by omega)).symm, s, v, R3, M3⟩), fun q3 => ⟨fun q4 => ⟨c, rfl, by omega, ?_⟩, fun q4 => ⟨?_, s, v, R2, M2⟩⟩⟩, fun q2 => ⟨(u1 q2).symm, s, v, R2, M2⟩⟩, fun q => ⟨c, rfl, by omega, ?_, s, v, R2, M2⟩⟩
      · rw [e85M M2.1 hc, I_eq (by omega) (by omega) (by omega) (by omega)]
        refine ⟨fun q5 => ⟨?_, s, v, R2, M2⟩, fun q5 => ⟨?_, s, v, R2, M2⟩⟩
        · rw [u2 q3, if_neg (by omega), if_neg (by omega)]
        · rw [u2 q3, if_neg (by omega), if_pos (by omega)]
      · rw [u2 q3, if_pos (by omega)]
      · rw [e86, I_sub, I_add, I_sub]; exact (u0 q).symm
    refine wp_settle v R M (fun h1 R1 M1 _ P1 => ?_)
    obtain ⟨p, hp⟩ := R1.1.2.1
    have A := hp.2.2.2 c hc
    have o0 : h1.1 30 (c * 10 + 0) = I (pof (pE s) c 0 : Int) := P1.2.2 c hc 0 (by omega)
    have oz : h1.1 30 (c * 10 + sz) = I (pof (pE s) c sz : Int) := P1.2.2 c hc sz (by omega)
    have a3 : h1.1 (p c) 3 = I (szP (pE s) c : Int) := A.2.1
    have a4 : h1.1 (p c) 4 = I ((s.2.1.2 c).2.1 : Int) := A.2.2.1
    have lpc : lay (p c) = (1, 5) := lay_pm (Or.inl rfl) hp.1 (by omega)
    have fpc : h1.2.2 7 c = some (p c) := hp.2.1 c (by omega)
    rw [I_eq b1 b2 (by omega) (by omega), I_eq b1 b2 (by omega) (by omega), I_eq b1 b2 (by omega) (by omega), I_eq b1 b2 (by omega) (by omega)]
    refine ⟨fun q => sX7_missedBy ⟨c, rfl, by omega, p c, fpc, lpc, sX7_paintingOf ⟨c * 10 + sz, by rw [a3, I_sub, I_mul, I_add, hsz]; congr 1; omega, by omega, sX7_paintingOf ⟨c * 10 + 0, by rw [I_mul, I_add]; rfl, by omega, ?_⟩⟩⟩, fun q => sX7_paintingOf ⟨c * 10 + 0, by rw [I_mul, I_add]; rfl, by omega, ?_⟩, fun q => sX7_ageOf (sX7_paintingOf ⟨c * 10 + 0, by rw [I_mul, I_add]; rfl, by omega, ?_⟩), fun q => wp_movedFrom v R1 M1 hc (fun h2 R2 M2 => key h2 _ R2 M2 (fun _ => by omega) (fun _ => by omega) (fun _ => by omega) (fun _ => rfl) (fun _ => by omega)), fun q => ?_⟩
    · rw [o0, oz, a3, I_sub, I_add, I_sub]
      exact key h1 _ R1 M1 (fun _ => rfl) (fun _ => by omega) (fun _ => by omega) (fun _ => by omega) (fun _ => by omega)
    · rw [o0]
      exact key h1 _ R1 M1 (fun _ => by omega) (fun _ => rfl) (fun _ => by omega) (fun _ => by omega) (fun _ => by omega)
    · rw [o0, I_eq0 (by omega) (by omega)]
      refine ⟨fun y => ⟨c, rfl, by omega, p c, fpc, lpc, ?_⟩, fun y => key h1 _ R1 M1 (fun _ => by omega) (fun _ => by omega) (fun _ => by rw [if_pos (by omega)]) (fun _ => by omega) (fun _ => by omega)⟩
      rw [a4, I_eq0 (by omega) (by omega)]
      exact ⟨fun w => key h1 _ R1 M1 (fun _ => by omega) (fun _ => by omega) (fun _ => by rw [if_neg (by omega), if_neg (by omega)]) (fun _ => by omega) (fun _ => by omega), fun w => key h1 _ R1 M1 (fun _ => by omega) (fun _ => by omega) (fun _ => by rw [if_neg (by omega), if_pos (by omega)]) (fun _ => by omega) (fun _ => by omega)⟩
    · have q0 := q 0 (by omega)
      have q1 := q 1 (by omega)
      have q2 := q 2 (by omega)
      have q3 := q 3 (by omega)
      exact key h1 _ R1 M1 (fun e => absurd (by rw [e]; rfl) q0) (fun e => absurd (by rw [e]; rfl) q1) (fun e => absurd (by rw [e]; rfl) q2) (fun e => absurd (by rw [e]; rfl) q3) (fun _ => rfl)
  · exact sX8_face (wp_isChipAt v M ⟨a1, a2⟩ (fun _ _ => by omega) (fun _ => br_t y00 ⟨rfl, hI2⟩))
end JF
