/-! chip: the reference, and both -/
/-- the reference stands at token k -/
def cur (t : TX) (k : Nat) (h : AH) : Prop := h.1 82 2 = I (enT t (tkP t k) : Int) ∧ h.1 82 3 = I (tkP t k : Int) ∧ h.1 82 4 = I (tK t k : Int) ∧ (tK t k = 1 ∨ tK t k = 2 → h.1 82 5 = I (tV t k : Int))
theorem cur_c {t : TX} {k : Nat} {P R : Nat → Nat → Prop} {h h2 : AH} (C : cur t k h) (c : Chg P R h h2) (p : ∀ j, 2 ≤ j → j ≤ 5 → ¬ P 82 j) : cur t k h2 := by
  unfold cur at *
  rw [c.1 _ _ (p 2 (by omega) (by omega)), c.1 _ _ (p 3 (by omega) (by omega)), c.1 _ _ (p 4 (by omega) (by omega)), c.1 _ _ (p 5 (by omega) (by omega))]
  exact C
section CM
variable {g : mg} {l : Launch} {h : AH}
theorem en_le {t : TX} {k : Nat} : enT t (tkP t k) ≤ t.1 := by
  by_cases h : tkP t k < t.1
  · exact (en_in h).2
  · unfold enT; rw [if_pos (by omega)]; exact Nat.le_refl _
theorem wp_next {Q : AH → Prop} {t : TX} {k : Nat} (T : txM t h) (C : cur t k h) (q : ∀ h2, Chg cRd nR h h2 → cur t (k + 1) h2 → Q h2) : SpV g l mX8_read h [.ref 82] Q := by
  refine wp_read T en_le C.1 (fun h2 c a2 a3 a4 a5 => q h2 c ?_)
  rw [tk_s] at a2 a3 a4 a5
  exact ⟨a2, a3, a4, a5⟩
theorem wp_first {Q : AH → Prop} {t : TX} (T : txM t h) (e : h.1 82 2 = I 0) (q : ∀ h2, Chg cRd nR h h2 → cur t 0 h2 → Q h2) : SpV g l mX8_read h [.ref 82] Q := by
  refine wp_read (a := 0) T (by omega) e (fun h2 c a2 a3 a4 a5 => q h2 c ?_)
  rw [tk_0] at a2 a3 a4 a5
  exact ⟨a2, a3, a4, a5⟩
theorem cur_k {t : TX} {k : Nat} (C : cur t k h) (x : Int) (z : Nat) (hx : x = (z : Int)) (hz : z ≤ 9) : h.1 82 4 = I x ↔ tK t k = z := by
  subst hx
  have h9 : tK t k ≤ 9 := kdT_le
  rw [C.2.2.1, I_eq (by omega) (by omega) (by omega) (by omega)]
  omega
theorem wp_isNumber {Q : Int32 → AH → Prop} {t : TX} {k lo hi : Nat} (C : cur t k h) (hl : lo ≤ 1000 ∧ hi ≤ 1000) (k1 : tK t k = 2 → lo ≤ tV t k → tV t k ≤ hi → h.1 82 5 = I (tV t k : Int) → Q (I 1) h) (k0 : ¬ (tK t k = 2 ∧ lo ≤ tV t k ∧ tV t k ≤ hi) → Q (I 0) h) : SpI g l mX8_isNumber h [.ref 82, .int (I (lo : Int)), .int (I (hi : Int))] Q := by
  refine sX8_isNumber ?_
  have e := cur_k C 2 2 rfl (by omega)
  refine ⟨fun q => k0 (fun q2 => q (e.mpr q2.1)), fun q => ?_⟩
  have e2 := e.mp q
  have e5 := C.2.2.2 (Or.inr e2)
  have v9 : tV t k ≤ 999 := vlT_num e2
  rw [e5]
  exact wp_in ⟨by omega, by omega⟩ ⟨by omega, by omega⟩ ⟨by omega, by omega⟩ (fun a b => br_f n10 (k1 e2 (by omega) (by omega) e5)) (fun a => br_t y00 (k0 (fun q => by omega)))
abbrev cMc : Nat → Nat → Prop := fun a k => (a = 82 ∧ ((2 ≤ k ∧ k ≤ 5) ∨ (46 ≤ k ∧ k ≤ 48))) ∨ a = 89 ∨ a = 90
theorem wp_misChip {Q : Int32 → AH → Prop} {t : TX} (T : txM t h) (k1 : ∀ h2, Chg cMc nR h h2 → chF t = none → h2.1 82 46 = I ((chC t).1 : Int) → h2.1 82 47 = I ((chC t).2.1 : Int) → h2.1 82 48 = I ((chC t).2.2.1 : Int) → (∀ k, k < (chC t).2.2.1 → h2.1 89 k = I ((chC t).2.2.2.1 k : Int) ∧ h2.1 90 k = I ((chC t).2.2.2.2 k : Int)) → Q (I 1) h2) (k0 : ∀ h2 f, Chg cMc nR h h2 → chF t = some f → h2.1 82 3 = I (tkP t f : Int) → Q (I 0) h2) : SpI g l mX8_isChip h [.ref 82] Q := by
  have h4 := T.1.1
  refine sX8_isChip (fun X O => ?_)
  have c0 : Chg cMc nR h (sI h 82 2 (I 0)) := Chg.rf.i (by omega)
  have up : ∀ {a b : AH}, Chg cRd nR a b → Chg cMc nR a b := fun e => e.up (fun a k q => by omega) (fun _ _ q => q)
  have TT : ∀ {a : AH}, Chg cMc nR h a → txM t a := fun e => txM_c T e (by omega) (fun k => by omega)
  refine wp_first (TT c0) (by rw [sI_1, up_s]) (fun h1 c1 C1 => ?_)
  have d1 := c0.tr (up c1)
  rw [cur_k C1 4 4 rfl (by omega)]
  refine ⟨fun q0 => ?_, fun q0 => k0 h1 0 d1 (by unfold chF; rw [if_pos q0]) C1.2.1⟩
  refine wp_next (TT d1) C1 (fun h2 c2 C2 => ?_)
  have d2 := d1.tr (up c2)
  refine wp_isNumber (lo := 0) (hi := 5) C2 (by omega) (fun q1 _ q1' e5 => nb_t n10 ?_) (fun q => nb_f y00 (k0 h2 1 d2 ?_ C2.2.1))
  · rw [e5]
    have d3 : Chg cMc nR h (sI h2 82 46 (I (tV t (0 + 1) : Int))) := d2.i (by omega)
    have C3 : cur t (0 + 1) (sI h2 82 46 (I (tV t (0 + 1) : Int))) := cur_c (P := fun a k => a = 82 ∧ k = 46) (R := nR) C2 (Chg.rf.i ⟨rfl, rfl⟩) (fun j _ _ => by omega)
    refine wp_next (TT d3) C3 (fun h4' c4 C4 => ?_)
    have d4 := d3.tr (up c4)
    have e46 : h4'.1 82 46 = I (tV t 1 : Int) := by rw [c4.1 _ _ (by omega), sI_1, up_s]
    have lpE : ∀ (b : Nat), ctB t = b → (b = 2 ∨ b = 3) → ∀ n j h5, j + n = 10 → Chg cMc nR h h5 → cur t (b + 2 * j) h5 → h5.1 82 46 = I (tV t 1 : Int) → h5.1 82 47 = I ((b - 2 : Nat) : Int) → h5.1 82 48 = I (j : Int) → (∀ i, i < j → ctO t b i = true ∧ h5.1 89 i = I (tV t (b + 2 * i) : Int) ∧ h5.1 90 i = I (tV t (b + 2 * i + 1) : Int)) → GI g l X Q h5 80 [(0, .ref 82)] [] := by
      intro b eb hb n
      have hF : chF t = if ctN t b < 10 ∧ tK t (b + 2 * ctN t b) = 1 then some (b + 2 * ctN t b + 1) else if ¬ (tK t (b + 2 * ctN t b) = 3 ∧ ctN t b ≠ 0) then some (b + 2 * ctN t b) else if tK t (b + 2 * ctN t b + 1) ≠ 0 then some (b + 2 * ctN t b + 1) else none := by
        unfold chF
        rw [if_neg (fun z => z q0), if_neg (fun z => z ⟨q1, q1'⟩), eb]
      have fin : ∀ j h5, ctN t b = j → ¬ (ctN t b < 10 ∧ tK t (b + 2 * ctN t b) = 1) → Chg cMc nR h h5 → cur t (b + 2 * j) h5 → h5.1 82 46 = I (tV t 1 : Int) → h5.1 82 47 = I ((b - 2 : Nat) : Int) → h5.1 82 48 = I (j : Int) → (∀ i, i < j → ctO t b i = true ∧ h5.1 89 i = I (tV t (b + 2 * i) : Int) ∧ h5.1 90 i = I (tV t (b + 2 * i + 1) : Int)) → GI g l X Q h5 156 [(0, .ref 82)] [] := by
        intro j h5 eN nf e C5 e6 e7 e8 al
        have hN := ctN_le (t := t) (b := b)
        rw [if_neg nf, eN] at hF
        refine bX8_isChip_156 O ?_
        rw [cur_k C5 3 3 rfl (by omega), e8, I_eq0 (by omega) (by omega)]
        refine ⟨fun q => k0 h5 _ e (by rw [hF, if_pos (fun z => q z.1)]) C5.2.1, fun q => ⟨fun q2 => ?_, fun q2 => k0 h5 _ e (by rw [hF, if_pos (fun z => z.2 (by omega))]) C5.2.1⟩⟩
        refine wp_next (TT e) C5 (fun h6 c6 C6 => ?_)
        have d6 := e.tr (up c6)
        rw [if_neg (fun z => z ⟨q, by omega⟩)] at hF
        rw [I_z, cur_k C6 0 0 rfl (by omega)]
        refine ⟨fun w => k0 h6 _ d6 (by rw [hF, if_pos w]) C6.2.1, fun w => ?_⟩
        have hc : chC t = (tV t 1, b - 2, ctN t b, fun k => tV t (b + 2 * k), fun k => tV t (b + 2 * k + 1)) := by unfold chC; rw [eb]
        rw [hc] at k1
        refine k1 h6 d6 (by rw [hF, if_neg (fun z => z w)]) ?_ ?_ ?_ (fun k hk => ?_)
        · rw [c6.1 _ _ (by omega)]; exact e6
        · rw [c6.1 _ _ (by omega)]; exact e7
        · rw [c6.1 _ _ (by omega), eN]; exact e8
        · rw [c6.1 _ _ (by omega), c6.1 _ _ (by omega)]
          have hk : k < ctN t b := hk
          exact (al k (by omega)).2
      induction n with
      | zero =>
        intro j h5 hj e C5 e6 e7 e8 al
        have eN : ctN t b = j := ctN_of (by omega) (fun i hi => (al i hi).1) (Or.inl (by omega))
        refine bX8_isChip_80 O ?_
        have F := fin j h5 eN (by omega) e C5 e6 e7 e8 al
        refine ⟨fun _ => F, fun _ => ?_⟩
        rw [e8, I_le (by omega) (by omega) (by omega) (by omega)]
        exact br_t (by omega) F
      | succ n ih =>
        intro j h5 hj e C5 e6 e7 e8 al
        refine bX8_isChip_80 O ?_
        rw [cur_k C5 1 1 rfl (by omega)]
        refine ⟨fun q => ?_, fun q => ?_⟩
        · have eN : ctN t b = j := ctN_of (by omega) (fun i hi => (al i hi).1) (Or.inr (fun z => q (ctO_iff.mp z).1))
          exact fin j h5 eN (by rw [eN]; exact fun z => q z.2) e C5 e6 e7 e8 al
        · rw [e8, I_le (by omega) (by omega) (by omega) (by omega), C5.2.2.2 (Or.inl q)]
          refine br_f (by omega) ⟨j, rfl, by omega, ?_⟩
          have e' : Chg cMc nR h (sI h5 89 j (I (tV t (b + 2 * j) : Int))) := e.i (by omega)
          have C' : cur t (b + 2 * j) (sI h5 89 j (I (tV t (b + 2 * j) : Int))) := cur_c (P := fun a k => a = 89) (R := nR) C5 (Chg.rf.i rfl) (fun j _ _ => by omega)
          refine wp_next (TT e') C' (fun h6 c6 C6 => ?_)
          have d6 := e'.tr (up c6)
          have e8' : h6.1 82 48 = I (j : Int) := by rw [c6.1 _ _ (by omega), sI_o (by omega)]; exact e8
          refine wp_isNumber (lo := 0) (hi := 9) C6 (by omega) (fun n2 _ nhi e5 => nb_t n10 ⟨j, e8', by omega, ?_⟩) (fun q2 => nb_f y00 (k0 h6 _ d6 ?_ C6.2.1))
          · rw [e5, e8', I_add]
            have f1 : Chg (fun a k => a = 90 ∨ (a = 82 ∧ k = 48)) nR h6 (sI (sI h6 90 j (I (tV t (b + 2 * j + 1) : Int))) 82 48 (I ((j : Int) + 1))) := (Chg.rf.i (Or.inl rfl)).i (Or.inr ⟨rfl, rfl⟩)
            have d7 := d6.tr (f1.up (fun a k q => by omega) (fun _ _ q => q))
            refine wp_next (TT d7) (cur_c C6 f1 (fun j _ _ => by omega)) (fun h8 c8 C8 => ?_)
            refine ih (j + 1) h8 (by omega) (d7.tr (up c8)) C8 ?_ ?_ ?_ (fun i hi => ?_)
            · rw [c8.1 _ _ (by omega), f1.1 _ _ (by omega), c6.1 _ _ (by omega), sI_o (by omega)]; exact e6
            · rw [c8.1 _ _ (by omega), f1.1 _ _ (by omega), c6.1 _ _ (by omega), sI_o (by omega)]; exact e7
            · rw [c8.1 _ _ (by omega), sI_1, up_s]; rfl
            · rw [c8.1 _ _ (by omega), c8.1 _ _ (by omega), f1.1 89 _ (by omega), c6.1 _ _ (by omega), sI_1, sI_o (by omega), sI_1]
              by_cases hij : i = j
              · subst hij
                rw [up_s, up_s]
                exact ⟨ctO_iff.mpr ⟨q, n2, nhi⟩, rfl, rfl⟩
              · rw [up_n hij, up_n hij, c6.1 _ _ (by omega), sI_o (by omega)]
                exact al i (by omega)
          · have eN : ctN t b = j := ctN_of (by omega) (fun i hi => (al i hi).1) (Or.inr (fun z => q2 ⟨(ctO_iff.mp z).2.1, by omega, (ctO_iff.mp z).2.2⟩))
            rw [hF, eN, if_pos ⟨by omega, q⟩]
    rw [cur_k C4 5 5 rfl (by omega)]
    refine ⟨fun q5 => nb_t q5 ?_, fun q5 => nb_f q5 ?_⟩
    · have f1 : Chg (fun a k => a = 82 ∧ 46 < k ∧ k ≤ 48) nR h4' (sI (sI h4' 82 47 (I 0)) 82 48 (I 0)) := (Chg.rf.i (by omega)).i (by omega)
      refine lpE 2 (by unfold ctB; rw [if_neg q5]) (Or.inl rfl) 10 0 _ (by omega) (d4.tr (f1.up (fun a k q => by omega) (fun _ _ q => q))) (cur_c C4 f1 (fun j _ _ => by omega)) ?_ ?_ ?_ (fun i hi => absurd hi (by omega))
      · rw [f1.1 _ _ (by omega)]; exact e46
      · rw [sI_1, up_n (by omega), sI_1, up_s]; rfl
      · rw [sI_1, up_s]; rfl
    · have f1 : Chg (fun a k => a = 82 ∧ k = 47) nR h4' (sI h4' 82 47 (I 1)) := Chg.rf.i (by omega)
      have d5 := d4.tr (f1.up (fun a k q => by omega) (fun _ _ q => q))
      refine wp_next (TT d5) (cur_c C4 f1 (fun j _ _ => by omega)) (fun h6 c6 C6 => ?_)
      have f2 : Chg (fun a k => a = 82 ∧ k = 48) nR h6 (sI h6 82 48 (I 0)) := Chg.rf.i (by omega)
      refine lpE 3 (by unfold ctB; rw [if_pos q5]) (Or.inr rfl) 10 0 _ (by omega) ((d5.tr (up c6)).tr (f2.up (fun a k q => by omega) (fun _ _ q => q))) (cur_c C6 f2 (fun j _ _ => by omega)) ?_ ?_ ?_ (fun i hi => absurd hi (by omega))
      · rw [f2.1 _ _ (by omega), c6.1 _ _ (by omega), f1.1 _ _ (by omega)]; exact e46
      · rw [f2.1 _ _ (by omega), c6.1 _ _ (by omega), sI_1, up_s]; rfl
      · rw [sI_1, up_s]; rfl
  · unfold chF
    rw [if_neg (fun z => z q0), if_pos (fun z => q ⟨z.1, by omega, z.2⟩)]
end CM
