/-! the class's paintings: a state's places and wants -/
theorem I_div {a b : Nat} (ha : a < 2147483648) (hb : b < 2147483648) : I (a : Int) / I (b : Int) = I ((a / b : Nat) : Int) := by
  have h1 := Nat.div_le_self a b
  have h3 : (0 : Int) ≤ ((a / b : Nat) : Int) := Int.natCast_nonneg _
  have h2 : (I (a : Int) / I (b : Int)).toInt = ((a / b : Nat) : Int) := by
    rw [Int32.toInt_div, I_toInt (by omega) (by omega), I_toInt (by omega) (by omega), Int.tdiv_eq_ediv_of_nonneg (by omega), ← Int.natCast_ediv, Int.bmod_eq_of_le (by omega) (by omega)]
  rw [I_of (I (a : Int) / I (b : Int)), h2]
/-- what a chip wants in a state, as a bit -/
def wb (e : PE) (q : Nat → Nat) (c : Nat) : Nat := if q c < szP e c then 2 ^ coP e c (q c) else 0
theorem and_pow {x m : Nat} : x &&& 2 ^ m = 0 ↔ x.testBit m = false := by
  constructor
  · intro h
    have : (x &&& 2 ^ m).testBit m = false := by rw [h]; simp
    simpa [Nat.testBit_and, Nat.testBit_two_pow] using this
  · intro h
    apply Nat.eq_of_testBit_eq
    intro i
    rw [Nat.testBit_and, Nat.testBit_two_pow, Nat.zero_testBit]
    by_cases e : m = i
    · subst e; rw [h]; rfl
    · simp [e]
theorem wb_lt {e : PE} (ok : okPE e) {q : Nat → Nat} {c : Nat} (hc : c < e.1.1) : wb e q c < 4096 := by
  unfold wb
  split
  · rename_i h
    exact Nat.pow_lt_pow_right (by omega) ((ok.2 c hc).2.2.2.2.1 _ h)
  · omega
/-- the class's test is the move -/
theorem wb_mvb {e : PE} {q : Nat → Nat} {l c : Nat} (hc : c < e.1.1) : smk e l &&& wb e q c = 0 ↔ ¬ mvb e l q c = true := by
  rw [mvb_iff]
  unfold wb
  split
  · rename_i h
    rw [and_pow, smk_bit]
    simp [hc, h]
  · rename_i h
    rw [Nat.and_zero]
    simp [h]
/-- what the search stands on: chips, what is the same -/
def pk (e : PE) (p : Nat → Nat) (h : AH) : Prop := atSH h 6 p e.1 ∧ h.2.2 26 12 = some 6 ∧ h.2.2 26 13 = some 22 ∧ ∀ l, l < 12 → h.1 22 l = I (smk e l : Int) ∧ smk e l < 4096
theorem pk_c {e : PE} {p : Nat → Nat} {P R : Nat → Nat → Prop} {h h2 : AH} (ok : okPE e) (c : Chg P R h h2) (hP : ∀ a k, (6 ≤ a ∧ a ≤ 19) ∨ a = 22 → ¬ P a k) (hR : ∀ a k, a = 7 ∨ a = 26 → ¬ R a k) (x : pk e p h) : pk e p h2 :=
  ⟨atSH_c c ok.1 (fun a k q1 q2 => hP a k (by omega)) (fun k => hR _ _ (by omega)) x.1, by rw [c.2.1 _ _ (hR _ _ (by omega))]; exact x.2.1, by rw [c.2.1 _ _ (hR _ _ (by omega))]; exact x.2.2.1, fun l hl => by rw [c.1 _ _ (hP _ _ (by omega))]; exact x.2.2.2 l hl⟩
section PC
variable {g : mg} {l : Launch} {h : AH}
theorem wp_plook {Q : AH → Prop} {e : PE} {p : Nat → Nat} {s : Nat} (ok : okPE e) (K : pk e p h) (hs : s < 14641) (k : ∀ h2, Chg (fun a _ => a = 33 ∨ a = 34) nR h h2 → (∀ c, c < e.1.1 → h2.1 33 c = I (dgt e s c : Int) ∧ h2.1 34 c = I (wb e (dgt e s) c : Int)) → Q h2) : SpV g l mX3_look h [.ref 26, .int (I (s : Int))] Q := by
  have h4 := ok.1
  refine sX3_look (fun X O => ?_)
  have lp : ∀ m c h1, c + m = e.1.1 → Chg (fun a _ => a = 33 ∨ a = 34) nR h h1 → (∀ i, i < c → h1.1 33 i = I (dgt e s i : Int) ∧ h1.1 34 i = I (wb e (dgt e s) i : Int)) → GV g l X Q h1 4 [(0, .ref 26), (2, .int (I ((s / str e c : Nat) : Int))), (3, .int (I (c : Int)))] [] := by
    intro m
    induction m with
    | zero =>
      intro c h1 hc d al
      have K1 := pk_c ok d (fun a k q => by omega) (fun a k q => id) K
      refine bX3_look_4 O ⟨6, K1.2.1, rfl, ?_⟩
      rw [K1.1.2.2.1]
      exact br_t ((I_le (by omega) (by omega) (by omega) (by omega)).mpr (by omega)) (k h1 d (fun i hi => al i (by omega)))
    | succ m ih =>
      intro c h1 hc d al
      have K1 := pk_c ok d (fun a k q => by omega) (fun a k q => id) K
      refine bX3_look_4 O ⟨6, K1.2.1, rfl, ?_⟩
      rw [K1.1.2.2.1]
      refine br_f (fun q => absurd ((I_le (by omega) (by omega) (by omega) (by omega)).mp q) (by omega)) ⟨6, K1.2.1, rfl, c, rfl, by omega, p c, K1.1.2.1 c (by omega), lay_pm (Or.inl rfl) K1.1.1 (by omega), ?_⟩
      have A := K1.1.2.2.2 c (by omega)
      have pc := K1.1.1.1 c (by omega)
      have hz : szP e c ≤ 10 := (ok.2 c (by omega)).2.2.2.1
      have hz1 : 1 ≤ szP e c := (ok.2 c (by omega)).2.2.1
      have A3 : h1.1 (p c) 3 = I (szP e c : Int) := A.2.1
      have eB : (if (I 1) < ((h1.1 (p c) 3) + (I 1)) then ((h1.1 (p c) 3) + (I 1)) else (I 1)) = I ((szP e c + 1 : Nat) : Int) := by
        rw [A3, I_add, if_pos ((I_lt (by omega) (by omega) (by omega) (by omega)).mpr (by omega))]
        rfl
      have sd := Nat.div_le_self s (str e c)
      have e0 : ¬ I ((szP e c + 1 : Nat) : Int) = 0 := by rw [I_eq0 (by omega) (by omega)]; omega
      rw [eB]
      have eD : I ((s / str e c : Nat) : Int) / I ((szP e c + 1 : Nat) : Int) = I ((s / str e (c + 1) : Nat) : Int) := by
        rw [I_div (by omega) (by omega), Nat.div_div_eq_div_mul]
        rfl
      have eM : I ((s / str e c : Nat) : Int) - I ((s / str e c : Nat) : Int) / I ((szP e c + 1 : Nat) : Int) * I ((szP e c + 1 : Nat) : Int) = I (dgt e s c : Int) := by
        rw [I_div (by omega) (by omega), I_mul, I_sub]
        congr 1
        have := Nat.mod_add_div (s / str e c) (szP e c + 1)
        have : (szP e c + 1) * (s / str e c / (szP e c + 1)) = (s / str e c / (szP e c + 1)) * (szP e c + 1) := Nat.mul_comm _ _
        have e2 : ((s / str e c / (szP e c + 1) : Nat) : Int) * ((szP e c + 1 : Nat) : Int) = (((s / str e c / (szP e c + 1)) * (szP e c + 1) : Nat) : Int) := by rw [Int.natCast_mul]
        rw [e2]
        unfold dgt
        omega
      rw [eM, eD]
      have dl : dgt e s c ≤ szP e c := dgt_v c (by omega)
      refine ⟨e0, c, rfl, by omega, e0, c, rfl, by omega, ?_⟩
      rw [sI_o (by omega), sI_1, up_s, A3, I_le (by omega) (by omega) (by omega) (by omega), I_add]
      have step : ∀ w : Nat, wb e (dgt e s) c = w → GV g l X Q (sI (sI h1 33 c (I (dgt e s c : Int))) 34 c (I (w : Int))) 4 [(0, .ref 26), (2, .int (I ((s / str e (c + 1) : Nat) : Int))), (3, .int (I ((c : Int) + 1)))] [] := fun w ew => by
        refine ih (c + 1) _ (by omega) ((d.i (Or.inl rfl)).i (Or.inr rfl)) (fun i hi => ?_)
        rw [sI_o (by omega), sI_1, sI_1]
        by_cases ei : i = c
        · subst ei
          rw [up_s, up_s, ew]
          exact ⟨rfl, rfl⟩
        · rw [up_n ei, up_n ei, sI_o (by omega)]
          exact al i (by omega)
      refine ⟨fun q => ⟨c, rfl, by omega, ?_⟩, fun q => ⟨c, rfl, by omega, dgt e s c, up_s, by omega, c, rfl, by omega, ?_⟩⟩
      · exact step 0 (by unfold wb; rw [if_neg (by omega)])
      · have lt : dgt e s c < szP e c := by omega
        have A4 : h1.1 (p c + 1) (dgt e s c) = I (coP e c (dgt e s c) : Int) := A.2.2.2.1 _ lt
        have c12 : coP e c (dgt e s c) < 12 := (ok.2 c (by omega)).2.2.2.2.1 _ lt
        rw [sI_o (by omega), A4, I_shl (by omega)]
        exact step _ (by unfold wb; rw [if_pos (by omega)])
  have := lp e.1.1 0 h (by omega) Chg.rf (fun i hi => absurd hi (by omega))
  rw [show s / str e 0 = s from Nat.div_one s] at this
  exact this
/-- strideOf, from chip b on, in a state last looked at -/
theorem wp_strideOf {Q : Int32 → AH → Prop} {e : PE} {p : Nat → Nat} {q : Nat → Nat} {l0 b : Nat} (ok : okPE e) (K : pk e p h) (hl : l0 < 12) (S : ∀ c, c < e.1.1 → h.1 32 c = I (str e c : Int) ∧ h.1 34 c = I (wb e q c : Int)) (hb : b ≤ e.1.1) (k : Q (I ((std e l0 q e.1.1 : Int) - (std e l0 q b : Int))) h) : SpI g l mX3_strideOf h [.ref 26, .int (I (l0 : Int)), .int (I (b : Int))] Q := by
  have h4 := ok.1
  refine sX3_strideOf (fun X O => ?_)
  have lp : ∀ m c, c + m = e.1.1 → b ≤ c → GI g l X Q h 5 [(0, .ref 26), (1, .int (I (l0 : Int))), (3, .int (I ((std e l0 q c : Int) - (std e l0 q b : Int)))), (4, .int (I (c : Int)))] [] := by
    intro m
    induction m with
    | zero =>
      intro c hc hbc
      refine bX3_strideOf_5 O ⟨6, K.2.1, rfl, ?_⟩
      rw [K.1.2.2.1]
      refine br_t ((I_le (by omega) (by omega) (by omega) (by omega)).mpr (by omega)) ?_
      rw [show c = e.1.1 by omega]
      exact k
    | succ m ih =>
      intro c hc hbc
      refine bX3_strideOf_5 O ⟨6, K.2.1, rfl, ?_⟩
      rw [K.1.2.2.1]
      refine br_f (fun q => absurd ((I_le (by omega) (by omega) (by omega) (by omega)).mp q) (by omega)) ⟨22, K.2.2.1, rfl, l0, rfl, hl, c, rfl, by omega, ?_⟩
      have K2 := K.2.2.2 l0 hl
      have w := wb_lt ok (q := q) (show c < e.1.1 by omega)
      have ih' := ih (c + 1) (by omega) (by omega)
      have es : std e l0 q (c + 1) = std e l0 q c + (if mvb e l0 q c then str e c else 0) := rfl
      rw [es] at ih'
      have al : smk e l0 &&& wb e q c < 4096 := Nat.lt_of_le_of_lt Nat.and_le_left K2.2
      rw [K2.1, (S c (by omega)).2, I_and, I_eq0 (by omega) (by omega), show (((smk e l0 &&& wb e q c : Nat) : Int) = 0 ↔ smk e l0 &&& wb e q c = 0) by omega, wb_mvb (by omega), I_add]
      refine ⟨fun z => ?_, fun z => ⟨c, rfl, by omega, ?_⟩⟩
      · rw [if_neg z] at ih'
        exact ih'
      · rw [if_pos (Classical.not_not.mp z)] at ih'
        rw [(S c (by omega)).1, I_add]
        rw [show ((std e l0 q c + str e c : Nat) : Int) - (std e l0 q b : Int) = (std e l0 q c : Int) - (std e l0 q b : Int) + (str e c : Int) by omega] at ih'
        exact ih'
  have := lp (e.1.1 - b) b (by omega) (Nat.le_refl _)
  rw [Int.sub_self] at this
  exact this
end PC
