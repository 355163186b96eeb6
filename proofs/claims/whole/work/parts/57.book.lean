/-! book -/
def stB (B : BK) (l f u : Nat) : BK := (up B.1 l f, up B.2.1 l u, B.2.2)
def alB (B : BK) (l c : Nat) : BK := (B.1, B.2.1, up (up B.2.2.1 l (B.2.2.1 l ||| 2 ^ c)) c (B.2.2.1 c ||| 2 ^ l), B.2.2.2)
def blB (B : BK) (y c : Nat) : BK := (B.1, B.2.1, B.2.2.1, B.2.2.2.1 + 1, up B.2.2.2.2.1 B.2.2.2.1 y, up B.2.2.2.2.2 B.2.2.2.1 c)
def bk0 : BK := (fun _ => 0, fun _ => 999, fun _ => 0, 0, fun _ => 0, fun _ => 0)
/-- an item but its semicolon, from token a on: a fault, or the token behind and the book -/
def itB (t : TX) (a : Nat) (B : BK) : Sum Nat (Nat × BK) :=
  if tK t a = 6 then
    if tK t (a + 1) ≠ 1 then .inl (a + 1) else if tK t (a + 2) ≠ 2 then .inl (a + 2) else if ¬ (tK t (a + 3) = 2 ∧ tV t (a + 2) ≤ tV t (a + 3)) then .inl (a + 3) else .inr (a + 4, stB B (tV t (a + 1)) (tV t (a + 2)) (tV t (a + 3)))
  else if tK t a = 7 then
    if tK t (a + 1) ≠ 1 then .inl (a + 1) else if ¬ (tK t (a + 2) = 1 ∧ tV t (a + 2) ≠ tV t (a + 1)) then .inl (a + 2) else .inr (a + 3, alB B (tV t (a + 1)) (tV t (a + 2)))
  else if ¬ (tK t a = 8 ∧ B.2.2.2.1 < 8) then .inl a
  else if tK t (a + 1) ≠ 2 then .inl (a + 1) else if tK t (a + 2) ≠ 1 then .inl (a + 2) else .inr (a + 3, blB B (tV t (a + 1)) (tV t (a + 2)))
/-- the book: n items read, at token a -/
def bkF (t : TX) : Nat → Nat → Nat → BK → Sum Nat (Nat × BK)
  | 0, _, _, _ => .inl 0
  | f + 1, a, n, B => if tK t a = 0 then .inr (n, B) else match itB t a B with
    | .inl x => .inl x
    | .inr (a2, B2) => if tK t a2 ≠ 3 then .inl a2 else bkF t f (a2 + 1) (n + 1) B2
theorem or_lt {x c : Nat} (h : x < 4096) (hc : c < 12) : x ||| 2 ^ c < 4096 := Nat.or_lt_two_pow (n := 12) h (Nat.pow_lt_pow_right (by omega) hc)
theorem okBK_0 : okBK bk0 := ⟨fun k _ => ⟨by show (0 : Nat) ≤ 999; omega, by show (999 : Nat) ≤ 999; omega, by show (0 : Nat) < 4096; omega⟩, by show (0 : Nat) ≤ 8; omega, fun i hi => absurd hi (by show ¬ i < 0; omega)⟩
theorem okBK_st {B : BK} (h : okBK B) {l f u : Nat} (hf : f ≤ 999) (hu : u ≤ 999) : okBK (stB B l f u) := by
  refine ⟨fun k hk => ?_, h.2⟩
  have := h.1 k hk
  show up B.1 l f k ≤ 999 ∧ up B.2.1 l u k ≤ 999 ∧ _
  by_cases e : k = l
  · subst e; rw [up_s, up_s]; exact ⟨hf, hu, this.2.2⟩
  · rw [up_n e, up_n e]; exact this
theorem okBK_al {B : BK} (h : okBK B) {l c : Nat} (hl : l < 12) (hc : c < 12) : okBK (alB B l c) := by
  refine ⟨fun k hk => ?_, h.2⟩
  have := h.1 k hk
  refine ⟨this.1, this.2.1, ?_⟩
  show up (up B.2.2.1 l (B.2.2.1 l ||| 2 ^ c)) c (B.2.2.1 c ||| 2 ^ l) k < 4096
  by_cases e : k = c
  · subst e; rw [up_s]; exact or_lt this.2.2 hl
  · rw [up_n e]
    by_cases e2 : k = l
    · subst e2; rw [up_s]; exact or_lt this.2.2 hc
    · rw [up_n e2]; exact this.2.2
theorem okBK_bl {B : BK} (h : okBK B) {y c : Nat} (h8 : B.2.2.2.1 < 8) (hy : y ≤ 999) (hc : c < 12) : okBK (blB B y c) := by
  refine ⟨h.1, h8, fun i hi => ?_⟩
  have hi : i < B.2.2.2.1 + 1 := hi
  show up B.2.2.2.2.1 B.2.2.2.1 y i ≤ 999 ∧ up B.2.2.2.2.2 B.2.2.2.1 c i < 12
  by_cases e : i = B.2.2.2.1
  · subst e; rw [up_s, up_s]; exact ⟨hy, hc⟩
  · rw [up_n e, up_n e]; exact h.2.2 i (by omega)
theorem itB_ok {t : TX} {a a2 m : Nat} {B B2 : BK} (e : itB t a B = .inr (a2, B2)) (ok : okBK B) (ha : a ≤ m) (hm : ∀ k, k ≤ m → tK t k ≠ 0 → k < m) : okBK B2 ∧ a + 3 ≤ a2 ∧ a2 ≤ m := by
  unfold itB at e
  split at e
  · rename_i q0
    split at e
    · cases e
    rename_i q1
    split at e
    · cases e
    rename_i q2
    split at e
    · cases e
    rename_i q3
    have q1 := Classical.not_not.mp q1
    have q2 := Classical.not_not.mp q2
    have q3 := Classical.not_not.mp q3
    injection e with e
    injection e with e1 e2
    have l0 := hm a ha (by omega)
    have l1 := hm (a + 1) l0 (by omega)
    have l2 := hm (a + 2) l1 (by omega)
    have l3 := hm (a + 3) l2 (by omega)
    rw [← e2]
    exact ⟨okBK_st ok (vlT_num q2) (vlT_num q3.1), by omega, by omega⟩
  split at e
  · rename_i _ q0
    split at e
    · cases e
    rename_i q1
    split at e
    · cases e
    rename_i q2
    have q1 := Classical.not_not.mp q1
    have q2 := Classical.not_not.mp q2
    injection e with e
    injection e with e1 e2
    have l0 := hm a ha (by omega)
    have l1 := hm (a + 1) l0 (by omega)
    have l2 := hm (a + 2) l1 (by omega)
    rw [← e2]
    exact ⟨okBK_al ok (vlT_le q1) (vlT_le q2.1), by omega, by omega⟩
  split at e
  · cases e
  rename_i q0
  split at e
  · cases e
  rename_i q1
  split at e
  · cases e
  rename_i q2
  have q0 := Classical.not_not.mp q0
  have q1 := Classical.not_not.mp q1
  have q2 := Classical.not_not.mp q2
  injection e with e
  injection e with e1 e2
  have l0 := hm a ha (by omega)
  have l1 := hm (a + 1) l0 (by omega)
  have l2 := hm (a + 2) l1 (by omega)
  rw [← e2]
  exact ⟨okBK_bl ok q0.2 (vlT_num q1) (vlT_le q2), by omega, by omega⟩
section BC
variable {g : mg} {l : Launch} {h : AH}
abbrev cBk (b : Nat) : Nat → Nat → Prop := fun a k => (a = 1 ∧ (k = 2 ∨ k = 7)) ∨ (b ≤ a ∧ a ≤ b + 5 ∧ ¬ (a = b ∧ k = 6))
theorem wp_takeBut {Q : Int32 → AH → Prop} {t : TX} {m a v : Nat} (T : tokC t h m) (ha : a ≤ m) (ea : h.1 1 7 = I (a : Int)) (hv : v < 12) (k1 : ∀ h2, tK t a = 1 → tV t a ≠ v → a + 1 ≤ m → Chg cTk nR h h2 → h2.1 1 7 = I ((a + 1 : Nat) : Int) → h2.1 1 2 = I (tV t a : Int) → Q (I 1) h2) (k0 : ¬ (tK t a = 1 ∧ tV t a ≠ v) → Q (I 0) h) : SpI g l mX5_takeColourBut h [.ref 1, .int (I (v : Int))] Q := by
  have h4 := T.1
  have Ta : h.1 3 a = I (ck (tK t a) : Int) ∧ h.1 5 a = I (tkP t a : Int) ∧ (tK t a = 1 ∨ tK t a = 2 → h.1 4 a = I (tV t a : Int)) := T.2.2.2.2 a ha
  refine sX5_takeColourBut ⟨a, ea, by omega, ?_⟩
  by_cases h1 : tK t a = 1
  · have v9 : tV t a < 12 := vlT_le h1
    rw [Ta.2.2 (Or.inl h1)]
    rw [I_eq (by omega) (by omega) (by omega) (by omega)]
    refine ⟨fun q => k0 (fun q2 => q2.2 (by omega)), fun q => ?_⟩
    exact wp_take T ha ea 3 1 (by decide) (fun h2' e lt c e7 e2 => br_f n10 (k1 h2' h1 (by omega) lt c e7 (e2 (Or.inl h1)))) (fun q => absurd h1 q)
  · have kf := k0 (fun q => h1 q.1)
    exact ⟨fun q => kf, fun q => wp_take T ha ea 3 1 (by decide) (fun h2' e => absurd e h1) (fun q => br_t y00 kf)⟩
theorem wp_readItem {Q : Int32 → AH → Prop} {t : TX} {m a b : Nat} {B : BK} (hb : b = 42 ∨ b = 48) (T : tokC t h m) (ha : a ≤ m) (ea : h.1 1 7 = I (a : Int)) (A : atBK h b B) (ok : okBK B) (k1 : ∀ h2 a2 B2, Chg (cBk b) nR h h2 → itB t a B = .inr (a2, B2) → a2 ≤ m → h2.1 1 7 = I (a2 : Int) → atBK h2 b B2 → Q (I 1) h2) (k0 : ∀ h2 f, Chg (cBk b) nR h h2 → itB t a B = .inl f → f ≤ m → h2.1 1 7 = I (f : Int) → Q (I 0) h2) : SpI g l mX0_readItem h [.ref b, .ref 1] Q := by
  have h4 := T.1
  have lb : lay b = (0, 7) := by rcases hb with rfl | rfl <;> rfl
  have cT : ∀ {x y : AH}, Chg cTk nR x y → Chg (cBk b) nR x y := fun e => e.up (fun a k q => Or.inl q) (fun _ _ q => q)
  have TT : ∀ {x : AH}, Chg (cBk b) nR h x → tokC t x m := fun e => tokC_c T e (by omega) (fun a k q1 q2 => by omega)
  have AT : ∀ {x y : AH}, Chg cTk nR x y → atBK x b B → atBK y b B := fun e z => atBK_c e (fun a k q1 q2 => by omega) z
  have h8 := ok.2.1
  refine sX0_readItem lb (wp_take T ha ea 6 6 (by decide) (fun h1 q0 l0 c1 e1 _ => br_f n10 ?_) (fun q0 => br_t y00 ?_))
  · -- stuff
    have d1 := cT c1
    have eB : itB t a B = if tK t (a + 1) ≠ 1 then .inl (a + 1) else if tK t (a + 2) ≠ 2 then .inl (a + 2) else if ¬ (tK t (a + 3) = 2 ∧ tV t (a + 2) ≤ tV t (a + 3)) then .inl (a + 3) else .inr (a + 4, stB B (tV t (a + 1)) (tV t (a + 2)) (tV t (a + 3))) := by
      conv => lhs; unfold itB
      rw [if_pos q0]
    refine sX0_readStuff lb (wp_take (TT d1) l0 e1 3 1 (by decide) (fun h2 q1 l1 c2 e2 v2 => nb_t n10 ?_) (fun q => nb_f y00 ⟨Or.inl (by decide), k0 h1 _ d1 (by rw [eB, if_pos q]) l0 e1⟩))
    have d2 := d1.tr (cT c2)
    have v2 := v2 (Or.inl q1)
    have lv : tV t (a + 1) < 12 := vlT_le q1
    refine wp_takeNumber (lo := 0) (hi := 999) (TT d2) l1 e2 (by omega) (fun h3 q2 _ v99 l2 c3 e3 v3 => nb_t n10 ?_) (fun q => nb_f y00 ⟨Or.inl (by decide), k0 h2 _ d2 ?_ l1 e2⟩)
    · have d3 := d2.tr (cT c3)
      have v99 : tV t (a + 2) ≤ 999 := v99
      have v3 : h3.1 1 2 = I (tV t (a + 2) : Int) := v3
      rw [v3]
      refine wp_takeNumber (lo := tV t (a + 2)) (hi := 999) (TT d3) l2 e3 (by omega) (fun h4 q3 vle v99' l3 c4 e4 v4 => nb_t n10 ?_) (fun q => nb_f y00 ⟨Or.inl (by decide), k0 h3 _ d3 ?_ l2 e3⟩)
      · have d4 := d3.tr (cT c4)
        refine ⟨_, v2, lv, _, v2, lv, Or.inr (by decide), ?_⟩
        rw [sI_o (by omega), v4]
        refine k1 _ _ _ ((d4.i (by omega)).i (by omega)) (by rw [eB, if_neg (fun z => z q1), if_neg (fun z => z q2), if_neg (fun z => z ⟨q3, vle⟩)]) l3 (by rw [sI_o (by omega), sI_o (by omega)]; exact e4) ?_
        have A4 := AT c4 (AT c3 (AT c2 (AT c1 A)))
        refine ⟨fun k hk => ?_, ?_, fun i hi => ?_⟩
        · have := A4.1 k hk
          show _ = I ((up B.1 (tV t (a + 1)) (tV t (a + 2)) k : Nat) : Int) ∧ _ = I ((up B.2.1 (tV t (a + 1)) (tV t (a + 3)) k : Nat) : Int) ∧ _
          rw [sI_o (by omega), sI_1, sI_1, sI_o (by omega), sI_o (by omega), sI_o (by omega)]
          by_cases e : k = tV t (a + 1)
          · subst e
            rw [up_s, up_s, up_s, up_s]
            exact ⟨rfl, rfl, this.2.2⟩
          · rw [up_n e, up_n e, up_n e, up_n e]
            exact this
        · rw [sI_o (by omega), sI_o (by omega)]; exact A4.2.1
        · rw [sI_o (by omega), sI_o (by omega), sI_o (by omega), sI_o (by omega)]; exact A4.2.2 i hi
      · rw [eB, if_neg (fun z => z q1), if_neg (fun z => z q2), if_pos (fun z => q ⟨z.1, z.2, vlT_num z.1⟩)]
    · rw [eB, if_neg (fun z => z q1), if_pos (fun z => q ⟨z, by omega, vlT_num z⟩)]
  refine wp_take T ha ea 7 7 (by decide) (fun h1 q7 l0 c1 e1 _ => br_f n10 ?_) (fun q7 => br_t y00 ?_)
  · -- alike
    have d1 := cT c1
    have eB : itB t a B = if tK t (a + 1) ≠ 1 then .inl (a + 1) else if ¬ (tK t (a + 2) = 1 ∧ tV t (a + 2) ≠ tV t (a + 1)) then .inl (a + 2) else .inr (a + 3, alB B (tV t (a + 1)) (tV t (a + 2))) := by
      conv => lhs; unfold itB
      rw [if_neg q0, if_pos q7]
    refine sX0_readAlike lb (wp_take (TT d1) l0 e1 3 1 (by decide) (fun h2 q1 l1 c2 e2 v2 => nb_t n10 ?_) (fun q => nb_f y00 ⟨Or.inl (by decide), k0 h1 _ d1 (by rw [eB, if_pos q]) l0 e1⟩))
    have d2 := d1.tr (cT c2)
    have v2 := v2 (Or.inl q1)
    have lv : tV t (a + 1) < 12 := vlT_le q1
    rw [v2]
    refine wp_takeBut (TT d2) l1 e2 lv (fun h3 q2 vn l2 c3 e3 v3 => nb_t n10 ?_) (fun q => nb_f y00 ⟨Or.inl (by decide), k0 h2 _ d2 (by rw [eB, if_neg (fun z => z q1), if_pos q]) l1 e2⟩)
    have d3 := d2.tr (cT c3)
    have cv : tV t (a + 2) < 12 := vlT_le q2
    have v3 : h3.1 1 2 = I (tV t (a + 2) : Int) := v3
    have A3 := AT c3 (AT c2 (AT c1 A))
    refine ⟨_, rfl, lv, _, rfl, lv, tV t (a + 2), by rw [sI_o (by omega)]; exact v3, cv, tV t (a + 2), by rw [sI_o (by omega)]; exact v3, cv, Or.inr (by decide), ?_⟩
    rw [v3, (A3.1 _ lv).2.2, I_shl (by omega), I_shl (by omega), I_or, sI_1, up_n vn, (A3.1 _ cv).2.2, I_or]
    refine k1 _ _ _ ((d3.i (by omega)).i (by omega)) (by rw [eB, if_neg (fun z => z q1), if_neg (fun z => z ⟨q2, vn⟩)]) l2 (by rw [sI_o (by omega), sI_o (by omega)]; exact e3) ?_
    refine ⟨fun k hk => ?_, ?_, fun i hi => ?_⟩
    · have := A3.1 k hk
      show _ ∧ _ ∧ _ = I ((up (up B.2.2.1 (tV t (a + 1)) (B.2.2.1 (tV t (a + 1)) ||| 2 ^ tV t (a + 2))) (tV t (a + 2)) (B.2.2.1 (tV t (a + 2)) ||| 2 ^ tV t (a + 1)) k : Nat) : Int)
      rw [sI_o (by omega), sI_o (by omega), sI_o (by omega), sI_o (by omega), sI_1, sI_1]
      refine ⟨this.1, this.2.1, ?_⟩
      by_cases e : k = tV t (a + 2)
      · subst e; rw [up_s, up_s]
      · rw [up_n e, up_n e]
        by_cases e2 : k = tV t (a + 1)
        · subst e2; rw [up_s, up_s]
        · rw [up_n e2, up_n e2]; exact this.2.2
    · rw [sI_o (by omega), sI_o (by omega)]; exact A3.2.1
    · rw [sI_o (by omega), sI_o (by omega), sI_o (by omega), sI_o (by omega)]; exact A3.2.2 i hi
  -- a bill
  rw [A.2.1, I_le (by omega) (by omega) (by omega) (by omega)]
  have eB : itB t a B = if ¬ (tK t a = 8 ∧ B.2.2.2.1 < 8) then .inl a else if tK t (a + 1) ≠ 2 then .inl (a + 1) else if tK t (a + 2) ≠ 1 then .inl (a + 2) else .inr (a + 3, blB B (tV t (a + 1)) (tV t (a + 2))) := by
    conv => lhs; unfold itB
    rw [if_neg q0, if_neg q7]
  refine ⟨fun q => k0 h a Chg.rf (by rw [eB, if_pos (fun z => by omega)]) ha ea, fun q8 => ?_⟩
  refine wp_take T ha ea 8 8 (by decide) (fun h1 qb l0 c1 e1 _ => br_f n10 ?_) (fun q => br_t y00 (k0 h a Chg.rf (by rw [eB, if_pos (fun z => q z.1)]) ha ea))
  rw [if_neg (fun z => z ⟨qb, by omega⟩)] at eB
  have d1 := cT c1
  have A1 := AT c1 A
  refine sX0_readBill lb (wp_takeNumber (lo := 0) (hi := 999) (TT d1) l0 e1 (by omega) (fun h2 q1 _ _ l1 c2 e2 v2 => nb_t n10 ?_) (fun q => nb_f y00 (br_t y00 (k0 h1 _ d1 (by rw [eB, if_pos (fun z => q ⟨z, by omega, vlT_num z⟩)]) l0 e1))))
  have d2 := d1.tr (cT c2)
  have A2 := AT c2 A1
  refine ⟨B.2.2.2.1, A2.2.1, by omega, ?_⟩
  rw [v2]
  have d2' : Chg (cBk b) nR h (sI h2 (b + 4) B.2.2.2.1 (I (tV t (a + 1) : Int))) := d2.i (by omega)
  refine wp_take (TT d2') l1 (by rw [sI_o (by omega)]; exact e2) 3 1 (by decide) (fun h3 q2 l2 c3 e3 v3 => nb_t n10 ?_) (fun q => nb_f y00 (br_t y00 (k0 _ _ d2' (by rw [eB, if_neg (fun z => z q1), if_pos q]) l1 (by rw [sI_o (by omega)]; exact e2))))
  have d3 := d2'.tr (cT c3)
  have b5 : h3.1 b 5 = I (B.2.2.2.1 : Int) := by rw [c3.1 _ _ (by omega), sI_o (by omega)]; exact A2.2.1
  refine ⟨B.2.2.2.1, b5, by omega, br_f n10 ?_⟩
  rw [v3 (Or.inl q2), sI_o (by omega), b5, I_add]
  refine k1 _ _ _ ((d3.i (by omega)).i (by omega)) (by rw [eB, if_neg (fun z => z q1), if_neg (fun z => z q2)]) l2 (by rw [sI_o (by omega), sI_o (by omega)]; exact e3) ?_
  refine ⟨fun k hk => ?_, ?_, fun i hi => ?_⟩
  · rw [sI_o (by omega), sI_o (by omega), sI_o (by omega), sI_o (by omega), sI_o (by omega), sI_o (by omega), c3.1 _ _ (by omega), c3.1 _ _ (by omega), c3.1 _ _ (by omega), sI_o (by omega), sI_o (by omega), sI_o (by omega)]
    exact A2.1 k hk
  · rw [sI_1, up_s]; rfl
  · have hi : i < B.2.2.2.1 + 1 := hi
    show _ = I ((up B.2.2.2.2.1 B.2.2.2.1 (tV t (a + 1)) i : Nat) : Int) ∧ _ = I ((up B.2.2.2.2.2 B.2.2.2.1 (tV t (a + 2)) i : Nat) : Int)
    rw [sI_o (by omega), sI_o (by omega), sI_o (by omega), sI_1, c3.1 (b + 4) _ (by omega), sI_1]
    by_cases e : i = B.2.2.2.1
    · subst e
      rw [up_s, up_s, up_s, up_s]
      exact ⟨rfl, rfl⟩
    · rw [up_n e, up_n e, up_n e, up_n e, c3.1 _ _ (by omega), sI_o (by omega)]
      exact A2.2.2 i (by omega)
end BC
