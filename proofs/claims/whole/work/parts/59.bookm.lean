section BM
variable {g : mg} {l : Launch} {h : AH}
def rdB (h : AH) (B : BK) : Prop := (∀ l, l < 12 → h.1 96 l = I (B.1 l : Int) ∧ h.1 97 l = I (B.2.1 l : Int) ∧ h.1 98 l = I (B.2.2.1 l : Int)) ∧ h.1 82 49 = I (B.2.2.2.1 : Int) ∧ ∀ i, i < B.2.2.2.1 → h.1 99 i = I (B.2.2.2.2.1 i : Int) ∧ h.1 100 i = I (B.2.2.2.2.2 i : Int)
theorem rdB_c {P R : Nat → Nat → Prop} {h h2 : AH} {B : BK} (c : Chg P R h h2) (p1 : ¬ P 82 49) (p2 : ∀ a k, 96 ≤ a → a ≤ 100 → ¬ P a k) (x : rdB h B) : rdB h2 B :=
  ⟨fun k hk => by rw [c.1 _ _ (p2 _ _ (by omega) (by omega)), c.1 _ _ (p2 _ _ (by omega) (by omega)), c.1 _ _ (p2 _ _ (by omega) (by omega))]; exact x.1 k hk, by rw [c.1 _ _ p1]; exact x.2.1, fun i hi => by rw [c.1 _ _ (p2 _ _ (by omega) (by omega)), c.1 _ _ (p2 _ _ (by omega) (by omega))]; exact x.2.2 i hi⟩
abbrev cMb : Nat → Nat → Prop := fun a k => (a = 82 ∧ ((2 ≤ k ∧ k ≤ 5) ∨ k = 49)) ∨ (96 ≤ a ∧ a ≤ 100)
/-- an item's fault, its semicolon with it -/
def itF (t : TX) (a : Nat) (B : BK) (f : Nat) : Prop := itB t a B = .inl f ∨ ∃ B2, itB t a B = .inr (f, B2) ∧ tK t f ≠ 3
theorem upM {a b : AH} (e : Chg cRd nR a b) : Chg cMb nR a b := e.up (fun a k q => by omega) (fun _ _ q => q)
theorem rdM {a b : AH} {B : BK} (e : Chg cRd nR a b) (x : rdB a B) : rdB b B := rdB_c e (by omega) (fun a k q1 q2 => by omega) x
theorem wp_isStuff {Q : Int32 → AH → Prop} {t : TX} {a : Nat} {B : BK} (T : txM t h) (C : cur t a h) (q6 : tK t a = 6) (D : rdB h B) (k1 : ∀ h2 a2 B2, Chg cMb nR h h2 → itB t a B = .inr (a2, B2) → tK t a2 = 3 → cur t a2 h2 → rdB h2 B2 → Q (I 1) h2) (k0 : ∀ h2 f, Chg cMb nR h h2 → itF t a B f → h2.1 82 3 = I (tkP t f : Int) → Q (I 0) h2) : SpI g l mX8_isStuff h [.ref 82] Q := by
  have TT : ∀ {a : AH}, Chg cMb nR h a → txM t a := fun e => txM_c T e (by omega) (fun k => by omega)
  have eB : itB t a B = if tK t (a + 1) ≠ 1 then .inl (a + 1) else if tK t (a + 2) ≠ 2 then .inl (a + 2) else if ¬ (tK t (a + 3) = 2 ∧ tV t (a + 2) ≤ tV t (a + 3)) then .inl (a + 3) else .inr (a + 4, stB B (tV t (a + 1)) (tV t (a + 2)) (tV t (a + 3))) := by
    conv => lhs; unfold itB
    rw [if_pos q6]
  refine sX8_isStuff (wp_next T C (fun h1 c1 C1 => ?_))
  have d1 := upM c1
  rw [cur_k C1 1 1 rfl (by omega)]
  refine ⟨fun q1 => ?_, fun q => k0 h1 _ d1 (Or.inl (by rw [eB, if_pos q])) C1.2.1⟩
  have lv : tV t (a + 1) < 12 := vlT_le q1
  have v1 : h1.1 82 5 = I (tV t (a + 1) : Int) := C1.2.2.2 (Or.inl q1)
  refine wp_next (TT d1) C1 (fun h2 c2 C2 => ?_)
  have d2 := d1.tr (upM c2)
  refine wp_isNumber (lo := 0) (hi := 999) C2 (by omega) (fun q2 _ v99 v2 => nb_t n10 ?_) (fun q => nb_f y00 (k0 h2 _ d2 (Or.inl (by rw [eB, if_neg (fun z => z q1), if_pos (fun z => q ⟨z, by omega, vlT_num z⟩)])) C2.2.1))
  have v99 : tV t (a + 2) ≤ 999 := v99
  have v2 : h2.1 82 5 = I (tV t (a + 2) : Int) := v2
  refine wp_next (TT d2) C2 (fun h3 c3 C3 => ?_)
  have d3 := d2.tr (upM c3)
  rw [v2]
  refine wp_isNumber (lo := tV t (a + 2)) (hi := 999) C3 (by omega) (fun q3 vle _ v3 => nb_t n10 ?_) (fun q => nb_f y00 (k0 h3 _ d3 (Or.inl (by rw [eB, if_neg (fun z => z q1), if_neg (fun z => z q2), if_pos (fun z => q ⟨z.1, z.2, vlT_num z.1⟩)])) C3.2.1))
  have v3 : h3.1 82 5 = I (tV t (a + 3) : Int) := v3
  rw [if_neg (fun z => z q1), if_neg (fun z => z q2), if_neg (fun z => z ⟨q3, vle⟩)] at eB
  refine wp_next (TT d3) C3 (fun h4 c4 C4 => ?_)
  have d4 := d3.tr (upM c4)
  rw [cur_k C4 3 3 rfl (by omega)]
  refine ⟨fun q4 => ⟨_, v1, lv, _, v1, lv, ?_⟩, fun q => k0 h4 (a + 4) d4 (Or.inr ⟨_, eB, q⟩) C4.2.1⟩
  rw [v3]
  have f4 : Chg (fun a k => 96 ≤ a ∧ a ≤ 97) nR h4 (sI (sI h4 96 (tV t (a + 1)) (I (tV t (a + 2) : Int))) 97 (tV t (a + 1)) (I (tV t (a + 3) : Int))) := (Chg.rf.i (by omega)).i (by omega)
  have D4 := rdM c4 (rdM c3 (rdM c2 (rdM c1 D)))
  refine k1 _ (a + 4) _ (d4.tr (f4.up (fun a k q => by omega) (fun _ _ q => q))) eB q4 (cur_c C4 f4 (fun j _ _ => by omega)) ⟨fun k hk => ?_, by rw [f4.1 _ _ (by omega)]; exact D4.2.1, fun i hi => by rw [f4.1 _ _ (by omega), f4.1 _ _ (by omega)]; exact D4.2.2 i hi⟩
  have := D4.1 k hk
  show _ = I ((up B.1 (tV t (a + 1)) (tV t (a + 2)) k : Nat) : Int) ∧ _ = I ((up B.2.1 (tV t (a + 1)) (tV t (a + 3)) k : Nat) : Int) ∧ _
  rw [sI_o (by omega), sI_1, sI_1, sI_o (by omega), sI_o (by omega), sI_o (by omega)]
  by_cases e : k = tV t (a + 1)
  · subst e
    rw [up_s, up_s, up_s, up_s]
    exact ⟨rfl, rfl, this.2.2⟩
  · rw [up_n e, up_n e, up_n e, up_n e]
    exact this
theorem wp_areAlike {Q : Int32 → AH → Prop} {t : TX} {a : Nat} {B : BK} (T : txM t h) (C : cur t a h) (q7 : tK t a = 7) (D : rdB h B) (k1 : ∀ h2 a2 B2, Chg cMb nR h h2 → itB t a B = .inr (a2, B2) → tK t a2 = 3 → cur t a2 h2 → rdB h2 B2 → Q (I 1) h2) (k0 : ∀ h2 f, Chg cMb nR h h2 → itF t a B f → h2.1 82 3 = I (tkP t f : Int) → Q (I 0) h2) : SpI g l mX8_areAlike h [.ref 82] Q := by
  have TT : ∀ {a : AH}, Chg cMb nR h a → txM t a := fun e => txM_c T e (by omega) (fun k => by omega)
  have eB : itB t a B = if tK t (a + 1) ≠ 1 then .inl (a + 1) else if ¬ (tK t (a + 2) = 1 ∧ tV t (a + 2) ≠ tV t (a + 1)) then .inl (a + 2) else .inr (a + 3, alB B (tV t (a + 1)) (tV t (a + 2))) := by
    conv => lhs; unfold itB
    rw [if_neg (by omega), if_pos q7]
  refine sX8_areAlike (wp_next T C (fun h1 c1 C1 => ?_))
  have d1 := upM c1
  rw [cur_k C1 1 1 rfl (by omega)]
  refine ⟨fun q1 => ?_, fun q => k0 h1 _ d1 (Or.inl (by rw [eB, if_pos q])) C1.2.1⟩
  have lv : tV t (a + 1) < 12 := vlT_le q1
  have v1 : h1.1 82 5 = I (tV t (a + 1) : Int) := C1.2.2.2 (Or.inl q1)
  refine wp_next (TT d1) C1 (fun h2 c2 C2 => ?_)
  have d2 := d1.tr (upM c2)
  rw [cur_k C2 1 1 rfl (by omega)]
  refine ⟨fun q => k0 h2 _ d2 (Or.inl (by rw [eB, if_neg (fun z => z q1), if_pos (fun z => q z.1)])) C2.2.1, fun q2 => ?_⟩
  have q2 : tK t (a + 2) = 1 := q2
  have cv : tV t (a + 2) < 12 := vlT_le q2
  have v2 : h2.1 82 5 = I (tV t (a + 2) : Int) := C2.2.2.2 (Or.inl q2)
  rw [v2, v1, I_eq (by omega) (by omega) (by omega) (by omega)]
  refine ⟨fun vn => ?_, fun q => k0 h2 _ d2 (Or.inl (by rw [eB, if_neg (fun z => z q1), if_pos (fun z => z.2 (by omega))])) C2.2.1⟩
  have vn : tV t (a + 2) ≠ tV t (a + 1) := by omega
  rw [if_neg (fun z => z q1), if_neg (fun z => z ⟨q2, vn⟩)] at eB
  refine wp_next (TT d2) C2 (fun h3 c3 C3 => ?_)
  have d3 := d2.tr (upM c3)
  rw [cur_k C3 3 3 rfl (by omega)]
  refine ⟨fun q3 => ⟨_, rfl, lv, _, rfl, lv, _, rfl, cv, _, rfl, cv, ?_⟩, fun q => k0 h3 (a + 3) d3 (Or.inr ⟨_, eB, q⟩) C3.2.1⟩
  have D3 := rdM c3 (rdM c2 (rdM c1 D))
  rw [(D3.1 _ lv).2.2, I_shl (by omega), I_shl (by omega), I_or, sI_1, up_n vn, (D3.1 _ cv).2.2, I_or]
  have f3 : Chg (fun a k => a = 98) nR h3 (sI (sI h3 98 (tV t (a + 1)) (I ((B.2.2.1 (tV t (a + 1)) ||| 2 ^ tV t (a + 2) : Nat) : Int))) 98 (tV t (a + 2)) (I ((B.2.2.1 (tV t (a + 2)) ||| 2 ^ tV t (a + 1) : Nat) : Int))) := Chg.i (Chg.i Chg.rf rfl) rfl
  refine k1 _ (a + 3) _ (d3.tr (f3.up (fun a k q => by omega) (fun _ _ q => q))) eB q3 (cur_c C3 f3 (fun j _ _ => by omega)) ⟨fun k hk => ?_, by rw [f3.1 _ _ (by omega)]; exact D3.2.1, fun i hi => by rw [f3.1 _ _ (by omega), f3.1 _ _ (by omega)]; exact D3.2.2 i hi⟩
  have := D3.1 k hk
  show _ ∧ _ ∧ _ = I ((up (up B.2.2.1 (tV t (a + 1)) (B.2.2.1 (tV t (a + 1)) ||| 2 ^ tV t (a + 2))) (tV t (a + 2)) (B.2.2.1 (tV t (a + 2)) ||| 2 ^ tV t (a + 1)) k : Nat) : Int)
  rw [sI_o (by omega), sI_o (by omega), sI_o (by omega), sI_o (by omega), sI_1, sI_1]
  refine ⟨this.1, this.2.1, ?_⟩
  by_cases e : k = tV t (a + 2)
  · subst e; rw [up_s, up_s]
  · rw [up_n e, up_n e]
    by_cases e2 : k = tV t (a + 1)
    · subst e2; rw [up_s, up_s]
    · rw [up_n e2, up_n e2]; exact this.2.2
theorem wp_isBill {Q : Int32 → AH → Prop} {t : TX} {a : Nat} {B : BK} (T : txM t h) (C : cur t a h) (q8 : tK t a = 8) (D : rdB h B) (h8 : B.2.2.2.1 ≤ 8) (k1 : ∀ h2 a2 B2, Chg cMb nR h h2 → itB t a B = .inr (a2, B2) → tK t a2 = 3 → cur t a2 h2 → rdB h2 B2 → Q (I 1) h2) (k0 : ∀ h2 f, Chg cMb nR h h2 → itF t a B f → h2.1 82 3 = I (tkP t f : Int) → Q (I 0) h2) : SpI g l mX8_isBill h [.ref 82] Q := by
  have TT : ∀ {a : AH}, Chg cMb nR h a → txM t a := fun e => txM_c T e (by omega) (fun k => by omega)
  have eB : itB t a B = if ¬ (tK t a = 8 ∧ B.2.2.2.1 < 8) then .inl a else if tK t (a + 1) ≠ 2 then .inl (a + 1) else if tK t (a + 2) ≠ 1 then .inl (a + 2) else .inr (a + 3, blB B (tV t (a + 1)) (tV t (a + 2))) := by
    conv => lhs; unfold itB
    rw [if_neg (by omega), if_neg (by omega)]
  refine sX8_isBill ?_
  rw [D.2.1, I_eq (by omega) (by omega) (by omega) (by omega)]
  refine ⟨fun n8 => ?_, fun q => k0 h a Chg.rf (Or.inl (by rw [eB, if_pos (fun z => by omega)])) C.2.1⟩
  rw [if_neg (fun z => z ⟨q8, by omega⟩)] at eB
  refine wp_next T C (fun h1 c1 C1 => ?_)
  have d1 := upM c1
  have D1 := rdM c1 D
  refine wp_isNumber (lo := 0) (hi := 999) C1 (by omega) (fun q1 _ _ v1 => nb_t n10 ⟨_, D1.2.1, by omega, ?_⟩) (fun q => nb_f y00 (k0 h1 _ d1 (Or.inl (by rw [eB, if_pos (fun z => q ⟨z, by omega, vlT_num z⟩)])) C1.2.1))
  rw [v1]
  have f1 : Chg (fun a k => a = 99 ∧ k = B.2.2.2.1) nR h1 (sI h1 99 B.2.2.2.1 (I (tV t (a + 1) : Int))) := Chg.rf.i ⟨rfl, rfl⟩
  have d1' := d1.tr (f1.up (P2 := cMb) (R2 := nR) (fun a k q => by omega) (fun _ _ q => q))
  refine wp_next (TT d1') (cur_c C1 f1 (fun j _ _ => by omega)) (fun h2 c2 C2 => ?_)
  have d2 := d1'.tr (upM c2)
  rw [cur_k C2 1 1 rfl (by omega)]
  have e49 : h2.1 82 49 = I (B.2.2.2.1 : Int) := by rw [c2.1 _ _ (by omega), f1.1 _ _ (by omega)]; exact D1.2.1
  refine ⟨fun q2 => ⟨_, e49, by omega, ?_⟩, fun q => k0 h2 _ d2 (Or.inl (by rw [eB, if_neg (fun z => z q1), if_pos q])) C2.2.1⟩
  have v2 : h2.1 82 5 = I (tV t (a + 2) : Int) := C2.2.2.2 (Or.inl q2)
  rw [v2]
  rw [if_neg (fun z => z q1), if_neg (fun z => z q2)] at eB
  have f2 : Chg (fun a k => a = 100 ∧ k = B.2.2.2.1) nR h2 (sI h2 100 B.2.2.2.1 (I (tV t (a + 2) : Int))) := Chg.rf.i ⟨rfl, rfl⟩
  have d2' := d2.tr (f2.up (P2 := cMb) (R2 := nR) (fun a k q => by omega) (fun _ _ q => q))
  refine wp_next (TT d2') (cur_c C2 f2 (fun j _ _ => by omega)) (fun h3 c3 C3 => ?_)
  have d3 := d2'.tr (upM c3)
  rw [cur_k C3 3 3 rfl (by omega)]
  refine ⟨fun q3 => ?_, fun q => k0 h3 (a + 3) d3 (Or.inr ⟨_, eB, q⟩) C3.2.1⟩
  have e49' : h3.1 82 49 = I (B.2.2.2.1 : Int) := by rw [c3.1 _ _ (by omega), f2.1 _ _ (by omega)]; exact e49
  rw [e49', I_add]
  have f3 : Chg (fun a k => a = 82 ∧ k = 49) nR h3 (sI h3 82 49 (I ((B.2.2.2.1 : Int) + 1))) := Chg.rf.i ⟨rfl, rfl⟩
  have keep : ∀ a k, 96 ≤ a → a ≤ 100 → ¬ (99 ≤ a ∧ k = B.2.2.2.1) → (sI h3 82 49 (I ((B.2.2.2.1 : Int) + 1))).1 a k = h.1 a k := fun a k q1 q2 q3 => by
    rw [f3.1 _ _ (by omega), c3.1 _ _ (by omega), f2.1 _ _ (by omega), c2.1 _ _ (by omega), f1.1 _ _ (by omega), c1.1 _ _ (by omega)]
  refine k1 _ (a + 3) _ (d3.tr (f3.up (fun a k q => by omega) (fun _ _ q => q))) eB q3 (cur_c C3 f3 (fun j _ _ => by omega)) ⟨fun k hk => ?_, by rw [sI_1, up_s]; rfl, fun i hi => ?_⟩
  · rw [keep _ _ (by omega) (by omega) (by omega), keep _ _ (by omega) (by omega) (by omega), keep _ _ (by omega) (by omega) (by omega)]
    exact D.1 k hk
  · have hi : i < B.2.2.2.1 + 1 := hi
    show _ = I ((up B.2.2.2.2.1 B.2.2.2.1 (tV t (a + 1)) i : Nat) : Int) ∧ _ = I ((up B.2.2.2.2.2 B.2.2.2.1 (tV t (a + 2)) i : Nat) : Int)
    by_cases e : i = B.2.2.2.1
    · subst e
      rw [up_s, up_s, f3.1 _ _ (by omega), f3.1 _ _ (by omega), c3.1 _ _ (by omega), c3.1 _ _ (by omega), f2.1 99 _ (by omega), c2.1 _ _ (by omega), sI_1, sI_1, up_s, up_s]
      exact ⟨rfl, rfl⟩
    · rw [up_n e, up_n e, keep _ _ (by omega) (by omega) (by omega), keep _ _ (by omega) (by omega) (by omega)]
      exact D.2.2 i (by omega)
end BM
