/-! chip -/
abbrev tK (t : TX) (k : Nat) : Nat := kdT t (tkP t k)
abbrev tV (t : TX) (k : Nat) : Nat := vlT t (tkP t k)
theorem kdW_le {t : TX} {i : Nat} : kdW t i ≤ 9 := by
  unfold kdW
  repeat' split
  all_goals omega
theorem kdT_le {t : TX} {i : Nat} : kdT t i ≤ 9 := by
  unfold kdT
  split
  · omega
  split
  · exact kdW_le
  split
  · unfold kdN
    split <;> omega
  split <;> omega
theorem ck_inj {a b : Nat} : ck a = ck b ↔ a = b := by
  unfold ck
  repeat' split
  all_goals omega
theorem ck_le {a : Nat} (h : a ≤ 9) : ck a ≤ 9 := by
  unfold ck
  repeat' split
  all_goals omega
/-- a coat of the text, j-th from token b -/
def ctO (t : TX) (b j : Nat) : Bool := tK t (b + 2 * j) == 1 && tK t (b + 2 * j + 1) == 2 && decide (tV t (b + 2 * j + 1) ≤ 9)
def ctN (t : TX) (b : Nat) : Nat := fnd (fun j => !ctO t b j) 10 0
def ctB (t : TX) : Nat := if tK t 2 = 5 then 3 else 2
/-- the text's first fault as a chip: a token's number -/
def chF (t : TX) : Option Nat :=
  if tK t 0 ≠ 4 then some 0
  else if ¬ (tK t 1 = 2 ∧ tV t 1 ≤ 5) then some 1
  else if ctN t (ctB t) < 10 ∧ tK t (ctB t + 2 * ctN t (ctB t)) = 1 then some (ctB t + 2 * ctN t (ctB t) + 1)
  else if ¬ (tK t (ctB t + 2 * ctN t (ctB t)) = 3 ∧ ctN t (ctB t) ≠ 0) then some (ctB t + 2 * ctN t (ctB t))
  else if tK t (ctB t + 2 * ctN t (ctB t) + 1) ≠ 0 then some (ctB t + 2 * ctN t (ctB t) + 1)
  else none
def chC (t : TX) : CH := (tV t 1, ctB t - 2, ctN t (ctB t), fun k => tV t (ctB t + 2 * k), fun k => tV t (ctB t + 2 * k + 1))
theorem ctO_iff {t : TX} {b j : Nat} : ctO t b j = true ↔ tK t (b + 2 * j) = 1 ∧ tK t (b + 2 * j + 1) = 2 ∧ tV t (b + 2 * j + 1) ≤ 9 := by
  unfold ctO
  simp only [Bool.and_eq_true, beq_iff_eq, decide_eq_true_eq, and_assoc]
theorem ctN_all {t : TX} {b j : Nat} (h : j < ctN t b) : ctO t b j = true := by
  have := fnd_f (p := fun j => !ctO t b j) (Nat.zero_le j) h
  simpa using this
theorem ctN_le {t : TX} {b : Nat} : ctN t b ≤ 10 := by
  have := fnd_le (fun j => !ctO t b j) 10 0
  unfold ctN
  omega
theorem ctN_end {t : TX} {b : Nat} (h : ctN t b < 10) : ¬ ctO t b (ctN t b) = true := by
  have this : (!ctO t b (ctN t b)) = true := fnd_t (p := fun j => !ctO t b j) (n := 10) (i := 0) (by show ctN t b < _; omega)
  simpa using this
theorem ctN_of {t : TX} {b j : Nat} (hj : j ≤ 10) (h : ∀ i, i < j → ctO t b i = true) (e : j = 10 ∨ ¬ ctO t b j = true) : ctN t b = j := by
  have h1 := ctN_le (t := t) (b := b)
  rcases Nat.lt_trichotomy (ctN t b) j with q | q | q
  · exact absurd (h _ q) (ctN_end (by omega))
  · exact q
  · rcases e with e | e
    · omega
    · exact absurd (ctN_all q) e
theorem vlT_le {t : TX} {i : Nat} (h : kdT t i = 1) : vlT t i < 12 := by
  unfold kdT at h
  split at h
  · omega
  rename_i hi
  split at h
  · rename_i hl
    unfold vlT
    rw [if_pos hl]
    have := isL_iff.mp hl
    unfold kdW at h
    split at h
    · split at h <;> omega
    · repeat' split at h
      all_goals omega
  split at h
  · unfold kdN at h
    split at h <;> omega
  split at h <;> omega
theorem vlT_num {t : TX} {i : Nat} (h : kdT t i = 2) : vlT t i ≤ 999 := by
  unfold kdT at h
  split at h
  · omega
  rename_i hi
  split at h
  · rename_i hl
    unfold kdW at h
    repeat' split at h
    all_goals omega
  rename_i hl
  split at h
  · rename_i hd
    unfold vlT
    rw [if_neg hl]
    have hdd : ∀ k, k < eD t i - i → isD (t.2 (i + k)) = true := fun k hk => eD_all (i := i) (by omega) (by omega)
    have := dvl_lt _ hdd
    unfold kdN at h
    split at h
    · omega
    · have p3 : 10 ^ (eD t i - i) ≤ 10 ^ 3 := Nat.pow_le_pow_right (by omega) (by omega)
      omega
  split at h <;> omega
theorem chC_ok {t : TX} (h : chF t = none) : okCH (chC t) := by
  unfold chF at h
  split at h
  · cases h
  split at h
  · cases h
  rename_i h1
  have h1 : tK t 1 = 2 ∧ tV t 1 ≤ 5 := Classical.not_not.mp h1
  split at h
  · cases h
  split at h
  · cases h
  rename_i h2
  have h2 := Classical.not_not.mp h2
  refine ⟨h1.2, ?_, by show 1 ≤ ctN t _; omega, ctN_le, fun k hk => vlT_le (ctO_iff.mp (ctN_all hk)).1, fun k hk => (ctO_iff.mp (ctN_all hk)).2.2⟩
  show ctB t - 2 ≤ 1
  unfold ctB
  split <;> omega
section CP
variable {g : mg} {l : Launch} {h : AH}
theorem tokC_c {t : TX} {m : Nat} {P R : Nat → Nat → Prop} {h h2 : AH} (T : tokC t h m) (c : Chg P R h h2) (p1 : ¬ P 1 6) (p2 : ∀ a k, 3 ≤ a → a ≤ 5 → ¬ P a k) : tokC t h2 m := by
  refine ⟨T.1, by rw [c.1 _ _ p1]; exact T.2.1, T.2.2.1, T.2.2.2.1, fun k hk => ?_⟩
  rw [c.1 _ _ (p2 _ _ (by omega) (by omega)), c.1 _ _ (p2 _ _ (by omega) (by omega)), c.1 _ _ (p2 _ _ (by omega) (by omega))]
  exact T.2.2.2.2 k hk
theorem tokC_lt {t : TX} {m a : Nat} (T : tokC t h m) (ha : a ≤ m) (hk : tK t a ≠ 0) : a < m := by
  rcases Nat.lt_or_ge a m with q | q
  · exact q
  · exfalso
    have e : a = m := by omega
    apply hk
    unfold tK
    rw [e, T.2.2.1]
    unfold kdT
    rw [if_pos (Nat.le_refl _)]
abbrev cTk : Nat → Nat → Prop := fun a k => a = 1 ∧ (k = 2 ∨ k = 7)
theorem wp_take {Q : Int32 → AH → Prop} {t : TX} {m a : Nat} (T : tokC t h m) (ha : a ≤ m) (ea : h.1 1 7 = I (a : Int)) (c kd : Nat) (hk : 1 ≤ kd ∧ kd ≤ 9 ∧ c = ck kd) (k1 : ∀ h2, tK t a = kd → a + 1 ≤ m → Chg cTk nR h h2 → h2.1 1 7 = I ((a + 1 : Nat) : Int) → (tK t a = 1 ∨ tK t a = 2 → h2.1 1 2 = I (tV t a : Int)) → Q (I 1) h2) (k0 : tK t a ≠ kd → Q (I 0) h) : SpI g l mX5_take h [.ref 1, .int (I (c : Int))] Q := by
  obtain ⟨hk1, hk2, rfl⟩ := hk
  have h4 := T.1
  have h9 : tK t a ≤ 9 := kdT_le
  have c1 := ck_le h9
  have c2 := ck_le hk2
  have Ta : h.1 3 a = I (ck (tK t a) : Int) ∧ h.1 5 a = I (tkP t a : Int) ∧ (tK t a = 1 ∨ tK t a = 2 → h.1 4 a = I (tV t a : Int)) := T.2.2.2.2 a ha
  refine sX5_take ⟨a, ea, by omega, ?_⟩
  rw [Ta.1, I_eq (by omega) (by omega) (by omega) (by omega)]
  refine ⟨fun q => k0 (fun q2 => q (by rw [← q2])), fun q => ?_⟩
  have e : tK t a = kd := ck_inj.mp (by omega)
  have lt := tokC_lt T ha (by omega)
  rw [ea, T.2.1]
  refine br_t ((I_lt (by omega) (by omega) (by omega) (by omega)).mpr (by omega)) ⟨a, rfl, by omega, ?_⟩
  refine k1 _ e lt ((Chg.rf.i (by omega)).i (by omega)) ?_ (fun q2 => ?_)
  · rw [sI_1, up_s, I_add]; rfl
  · rw [sI_1, up_n (by omega), sI_1, up_s]; exact Ta.2.2 q2
theorem wp_takeNumber {Q : Int32 → AH → Prop} {t : TX} {m a lo hi : Nat} (T : tokC t h m) (ha : a ≤ m) (ea : h.1 1 7 = I (a : Int)) (hl : lo ≤ 1000 ∧ hi ≤ 1000) (k1 : ∀ h2, tK t a = 2 → lo ≤ tV t a → tV t a ≤ hi → a + 1 ≤ m → Chg cTk nR h h2 → h2.1 1 7 = I ((a + 1 : Nat) : Int) → h2.1 1 2 = I (tV t a : Int) → Q (I 1) h2) (k0 : ¬ (tK t a = 2 ∧ lo ≤ tV t a ∧ tV t a ≤ hi) → Q (I 0) h) : SpI g l mX5_takeNumber h [.ref 1, .int (I (lo : Int)), .int (I (hi : Int))] Q := by
  have h4 := T.1
  have Ta : h.1 3 a = I (ck (tK t a) : Int) ∧ h.1 5 a = I (tkP t a : Int) ∧ (tK t a = 1 ∨ tK t a = 2 → h.1 4 a = I (tV t a : Int)) := T.2.2.2.2 a ha
  refine sX5_takeNumber ⟨a, ea, by omega, ?_⟩
  by_cases h2 : tK t a = 2
  · have v9 : tV t a ≤ 999 := vlT_num h2
    rw [Ta.2.2 (Or.inr h2)]
    rw [I_lt (by omega) (by omega) (by omega) (by omega)]
    refine ⟨fun q => k0 (fun q2 => by omega), fun q => ⟨a, ea, by omega, ?_⟩⟩
    rw [Ta.2.2 (Or.inr h2), I_lt (by omega) (by omega) (by omega) (by omega)]
    refine ⟨fun q => k0 (fun q2 => by omega), fun q2 => ?_⟩
    refine wp_take T ha ea 2 2 (by decide) (fun h2' e lt c e7 e2 => br_f n10 (k1 h2' h2 (by omega) (by omega) lt c e7 (e2 (Or.inr h2)))) (fun q => absurd h2 q)
  · have kf := k0 (fun q => h2 q.1)
    exact ⟨fun q => kf, fun q => ⟨a, ea, by omega, fun q => kf, fun q2 => wp_take T ha ea 2 2 (by decide) (fun h2' e => absurd e h2) (fun q => br_t y00 kf)⟩⟩
theorem wp_isAt0 {Q : Int32 → AH → Prop} {t : TX} {m a : Nat} (T : tokC t h m) (ha : a ≤ m) (ea : h.1 1 7 = I (a : Int)) (k1 : tK t a = 0 → Q (I 1) h) (k0 : tK t a ≠ 0 → Q (I 0) h) : SpI g l mX5_isAt h [.ref 1, .int (I 0)] Q := by
  have h4 := T.1
  have h9 : tK t a ≤ 9 := kdT_le
  have c1 := ck_le h9
  have Ta : h.1 3 a = I (ck (tK t a) : Int) ∧ h.1 5 a = I (tkP t a : Int) ∧ (tK t a = 1 ∨ tK t a = 2 → h.1 4 a = I (tV t a : Int)) := T.2.2.2.2 a ha
  refine sX5_isAt ⟨a, ea, by omega, ?_⟩
  rw [Ta.1, I_eq (by omega) (by omega) (by omega) (by omega)]
  have c0 : ck 0 = 0 := rfl
  exact ⟨fun q => k0 (fun q2 => q (by rw [q2, c0]; rfl)), fun q => k1 (ck_inj.mp (by rw [c0]; omega))⟩
theorem wp_fault {Q : Int32 → AH → Prop} {t : TX} {m a : Nat} (T : tokC t h m) (ha : a ≤ m) (ea : h.1 1 7 = I (a : Int)) (k : Q (I (tkP t a : Int)) h) : SpI g l mX5_fault h [.ref 1] Q := by
  have h4 := T.1
  refine sX5_fault ⟨a, ea, by omega, ?_⟩
  rw [(T.2.2.2.2 a ha).2.1]
  exact k
abbrev cCh (x : Nat) : Nat → Nat → Prop := fun a k => (a = 1 ∧ (k = 2 ∨ k = 7)) ∨ (x ≤ a ∧ a ≤ x + 2)
/-- Chip.readCoats from token b on -/
theorem wp_readCoats {Q : Int32 → AH → Prop} {t : TX} {m b x0 : Nat} (hx0 : lay x0 = (1, 5)) (hx : 6 ≤ x0) (T : tokC t h m) (hb : b ≤ m) (ea : h.1 1 7 = I (b : Int)) (k : ∀ h2, Chg (cCh x0) nR h h2 → (∀ k, k ≠ 3 → h2.1 x0 k = h.1 x0 k) → b + 2 * ctN t b ≤ m → h2.1 x0 3 = I (ctN t b : Int) → (∀ j, j < ctN t b → h2.1 (x0 + 1) j = I (tV t (b + 2 * j) : Int) ∧ h2.1 (x0 + 2) j = I (tV t (b + 2 * j + 1) : Int)) → (ctN t b < 10 ∧ tK t (b + 2 * ctN t b) = 1 → b + 2 * ctN t b + 1 ≤ m → h2.1 1 7 = I ((b + 2 * ctN t b + 1 : Nat) : Int) → Q (I 0) h2) ∧ (¬ (ctN t b < 10 ∧ tK t (b + 2 * ctN t b) = 1) → h2.1 1 7 = I ((b + 2 * ctN t b : Nat) : Int) → Q (I (if ctN t b = 0 then 0 else 1)) h2)) : SpI g l mX1_readCoats h [.ref x0, .ref 1] Q := by
  have h4 := T.1
  refine sX1_readCoats hx0 (fun X O => ?_)
  have lp : ∀ n j h1, j + n = 10 → Chg (cCh x0) nR h h1 → (∀ k, k ≠ 3 → h1.1 x0 k = h.1 x0 k) → b + 2 * j ≤ m → h1.1 1 7 = I ((b + 2 * j : Nat) : Int) → h1.1 x0 3 = I (j : Int) → (∀ i, i < j → ctO t b i = true ∧ h1.1 (x0 + 1) i = I (tV t (b + 2 * i) : Int) ∧ h1.1 (x0 + 2) i = I (tV t (b + 2 * i + 1) : Int)) → GI g l X Q h1 5 [(0, .ref x0), (1, .ref 1)] [] := by
    intro n
    induction n with
    | zero =>
      intro j h1 hj e ek hbm e7 e3 al
      have j10 : j = 10 := by omega
      have eN : ctN t b = j := ctN_of (by omega) (fun i hi => (al i hi).1) (Or.inl j10)
      refine bX1_readCoats_5 O hx0 ?_
      rw [e3, I_le (by omega) (by omega) (by omega) (by omega), I_le0 (by omega) (by omega)]
      refine br_t (by omega) (br_f (by omega) ?_)
      have := (k h1 e ek (by rw [eN]; exact hbm) (by rw [eN]; exact e3) (by rw [eN]; exact fun i hi => (al i hi).2)).2 (by omega) (by rw [eN]; exact e7)
      rw [if_neg (by omega)] at this
      exact this
    | succ n ih =>
      intro j h1 hj e ek hbm e7 e3 al
      have T1 : tokC t h1 m := tokC_c T e (by omega) (fun a k q1 q2 => by omega)
      refine bX1_readCoats_5 O hx0 ?_
      rw [e3, I_le (by omega) (by omega) (by omega) (by omega)]
      refine br_f (by omega) (wp_take T1 hbm e7 3 1 (by decide) (fun h2 e1 lt c c7 c2 => br_f n10 ?_) (fun q => br_t y00 ?_))
      · have e3' : h2.1 x0 3 = I (j : Int) := by rw [c.1 _ _ (by omega)]; exact e3
        refine ⟨j, e3', by omega, ?_⟩
        rw [c2 (Or.inl e1)]
        have c' : Chg (cCh x0) nR h (sI h2 (x0 + 1) j (I (tV t (b + 2 * j) : Int))) := (e.tr (c.up (fun a k q => by omega) (fun _ _ q => q))).i (by omega)
        have T2 := tokC_c T c' (by omega) (fun a k q1 q2 => by omega)
        have ek' : ∀ k, k ≠ 3 → (sI h2 (x0 + 1) j (I (tV t (b + 2 * j) : Int))).1 x0 k = h.1 x0 k := fun k hk => by
          rw [sI_o (by omega), c.1 _ _ (by omega)]; exact ek k hk
        have al' : ∀ i, i < j → ctO t b i = true ∧ (sI h2 (x0 + 1) j (I (tV t (b + 2 * j) : Int))).1 (x0 + 1) i = I (tV t (b + 2 * i) : Int) ∧ (sI h2 (x0 + 1) j (I (tV t (b + 2 * j) : Int))).1 (x0 + 2) i = I (tV t (b + 2 * i + 1) : Int) := fun i hi => by
          rw [sI_1, up_n (by omega), sI_o (by omega), c.1 _ _ (by omega), c.1 _ _ (by omega)]
          exact al i hi
        refine wp_takeNumber (lo := 0) (hi := 9) (a := b + 2 * j + 1) T2 lt (by rw [sI_o (by omega)]; exact c7) (by omega) (fun h3 n2 nlo nhi lt3 d d7 d2 => nb_t n10 ?_) (fun q => nb_f y00 ?_)
        · have d3 : h3.1 x0 3 = I (j : Int) := by rw [d.1 _ _ (by omega), sI_o (by omega)]; exact e3'
          refine ⟨j, d3, by omega, ?_⟩
          rw [d2, sI_o (by omega), d3, I_add]
          refine ih (j + 1) _ (by omega) (((c'.tr (d.up (fun a k q => by omega) (fun _ _ q => q))).i (by omega)).i (by omega)) (fun k hk => ?_) (by omega) ?_ ?_ (fun i hi => ?_)
          · rw [sI_1, up_n (by omega), sI_o (by omega), d.1 _ _ (by omega)]; exact ek' k hk
          · rw [sI_o (by omega), sI_o (by omega), d7]; congr 1
          · rw [sI_1, up_s]; rfl
          · rw [sI_o (by omega), sI_o (by omega), sI_o (by omega), sI_1]
            by_cases hij : i = j
            · subst hij
              rw [up_s, d.1 _ _ (by omega), sI_1, up_s]
              exact ⟨ctO_iff.mpr ⟨e1, n2, nhi⟩, rfl, rfl⟩
            · have := al' i (by omega)
              rw [up_n hij, d.1 _ _ (by omega), d.1 _ _ (by omega)]
              exact this
        · have eN : ctN t b = j := ctN_of (by omega) (fun i hi => (al i hi).1) (Or.inr (fun z => q ⟨(ctO_iff.mp z).2.1, by omega, (ctO_iff.mp z).2.2⟩))
          refine (k _ c' ek' (by rw [eN]; exact hbm) (by rw [eN, sI_o (by omega)]; exact e3') (by rw [eN]; exact fun i hi => (al' i hi).2)).1 (by rw [eN]; exact ⟨by omega, e1⟩) (by rw [eN]; exact lt) ?_
          rw [eN, sI_o (by omega)]
          exact c7
      · have eN : ctN t b = j := ctN_of (by omega) (fun i hi => (al i hi).1) (Or.inr (fun z => q (ctO_iff.mp z).1))
        have := (k h1 e ek (by rw [eN]; exact hbm) (by rw [eN]; exact e3) (by rw [eN]; exact fun i hi => (al i hi).2)).2 (by rw [eN]; exact fun z => q z.2) (by rw [eN]; exact e7)
        rw [eN] at this
        rw [e3, I_le0 (by omega) (by omega)]
        refine ⟨fun z => ?_, fun z => ?_⟩
        · rw [if_pos (by omega)] at this; exact this
        · rw [if_neg (by omega)] at this; exact this
  refine lp 10 0 _ (by omega) (Chg.rf.i (by omega)) (fun k hk => by rw [sI_1, up_n hk]) (by omega) ?_ ?_ (fun i hi => absurd hi (by omega))
  · rw [sI_o (by omega)]; exact ea
  · rw [sI_1, up_s]; rfl
theorem wp_chread {Q : Int32 → AH → Prop} {t : TX} {m x0 : Nat} (hx0 : lay x0 = (1, 5)) (hx : 6 ≤ x0) (T : tokC t h m) (ea : h.1 1 7 = I 0) (k1 : ∀ h2, Chg (cCh x0) nR h h2 → chF t = none → atCH h2 x0 (chC t) → Q (I 1) h2) (k0 : ∀ h2 f, Chg (cCh x0) nR h h2 → chF t = some f → f ≤ m → h2.1 1 7 = I (f : Int) → Q (I 0) h2) : SpI g l mX1_read h [.ref x0, .ref 1] Q := by
  have h4 := T.1
  refine sX1_read hx0 (wp_take (a := 0) T (by omega) ea 4 4 (by decide) (fun h2 q0 l0 c c7 c2 => br_f n10 ?_) (fun q => br_t y00 (k0 h 0 Chg.rf (by unfold chF; rw [if_pos q]) (by omega) ea)))
  have C : Chg (cCh x0) nR h h2 := c.up (fun a k q => Or.inl q) (fun _ _ q => q)
  have T2 := tokC_c T C (by omega) (fun a k q1 q2 => by omega)
  refine wp_takeNumber (lo := 0) (hi := 5) T2 l0 c7 (by omega) (fun h3 q1 _ q1' l1 d d7 d2 => nb_t n10 ?_) (fun q => nb_f y00 (k0 h2 1 C ?_ l0 c7))
  · have D : Chg (cCh x0) nR h (sI h3 x0 2 (h3.1 1 2)) := (C.tr (d.up (fun a k q => Or.inl q) (fun _ _ q => q))).i (by omega)
    have T3 := tokC_c T D (by omega) (fun a k q1 q2 => by omega)
    rw [d2] at D T3 ⊢
    -- with or without pores
    have go : ∀ (b : Nat) (h5 : AH), ctB t = b → (b = 2 ∨ b = 3) → Chg (cCh x0) nR h h5 → b ≤ m → h5.1 1 7 = I (b : Int) → h5.1 x0 2 = I (tV t 1 : Int) → SpI g l mX1_readCoats (sI h5 x0 4 (I ((b - 2 : Nat) : Int))) [.ref x0, .ref 1] (fun v6 hv6 => ((v6 = 0) → (Q (I 0) hv6)) ∧ ((¬ (v6 = 0)) → (SpI g l mX5_take hv6 [.ref 1, .int (I 1)] (fun v8 hv8 => ((v8 = 0) → (Q (I 0) hv8)) ∧ ((¬ (v8 = 0)) → (SpI g l mX5_isAt hv8 [.ref 1, .int (I 0)] (fun v10 hv10 => ((v10 = 0) → (Q (I 0) hv10)) ∧ ((¬ (v10 = 0)) → (Q (I 1) hv10))))))))) := by
      intro b h5 eb hb e5 lb e7 e2
      have e5' : Chg (cCh x0) nR h (sI h5 x0 4 (I ((b - 2 : Nat) : Int))) := e5.i (by omega)
      have T5 := tokC_c T e5' (by omega) (fun a k q1 q2 => by omega)
      have hF : chF t = if ctN t b < 10 ∧ tK t (b + 2 * ctN t b) = 1 then some (b + 2 * ctN t b + 1) else if ¬ (tK t (b + 2 * ctN t b) = 3 ∧ ctN t b ≠ 0) then some (b + 2 * ctN t b) else if tK t (b + 2 * ctN t b + 1) ≠ 0 then some (b + 2 * ctN t b + 1) else none := by
        unfold chF
        rw [if_neg (fun z => z q0), if_neg (fun z => z ⟨q1, q1'⟩), eb]
      refine wp_readCoats hx0 hx T5 lb (by rw [sI_o (by omega)]; exact e7) (fun h6 f fk fm f3 fa => ⟨fun z zl z7 => br_t y00 ?_, fun z z7 => ?_⟩)
      · refine k0 h6 _ (e5'.tr f) (by rw [hF, if_pos z]) zl z7
      · have F := e5'.tr f
        have T6 := tokC_c T F (by omega) (fun a k q1 q2 => by omega)
        rw [if_neg z] at hF
        by_cases hN : ctN t b = 0
        · rw [if_pos hN]
          refine br_t y00 (k0 h6 _ F (by rw [hF, if_pos (fun w => w.2 hN)]) fm z7)
        · rw [if_neg hN]
          refine br_f n10 (wp_take T6 fm z7 1 3 (by decide) (fun h7 g3 gl gc g7 _ => br_f n10 ?_) (fun w => br_t y00 (k0 h6 _ F (by rw [hF, if_pos (fun z => w z.1)]) fm z7)))
          have G := F.tr (gc.up (fun a k q => Or.inl q) (fun _ _ q => q))
          have T7 := tokC_c T G (by omega) (fun a k q1 q2 => by omega)
          rw [if_neg (fun z => z ⟨g3, hN⟩)] at hF
          refine wp_isAt0 T7 gl g7 (fun w => br_f n10 (k1 h7 G (by rw [hF, if_neg (fun z => z w)]) ?_)) (fun w => br_t y00 (k0 h7 _ G (by rw [hF, if_pos w]) gl g7))
          have hc : chC t = (tV t 1, b - 2, ctN t b, fun k => tV t (b + 2 * k), fun k => tV t (b + 2 * k + 1)) := by unfold chC; rw [eb]
          rw [hc]
          refine ⟨?_, ?_, ?_, fun j hj => ?_, fun j hj => ?_⟩
          · rw [gc.1 _ _ (by omega), fk 2 (by omega), sI_1, up_n (by omega)]; exact e2
          · rw [gc.1 _ _ (by omega)]; exact f3
          · rw [gc.1 _ _ (by omega), fk 4 (by omega), sI_1, up_s]
          · rw [gc.1 _ _ (by omega)]; exact (fa j hj).1
          · rw [gc.1 _ _ (by omega)]; exact (fa j hj).2
    refine wp_take T3 l1 (by rw [sI_o (by omega)]; exact d7) 5 5 (by decide) (fun h5 q2 l2 f f7 _ => ⟨Or.inr (by decide), ?_⟩) (fun q => ⟨Or.inl (by decide), ?_⟩)
    · refine go 3 h5 (by unfold ctB; rw [if_pos q2]) (Or.inr rfl) (D.tr (f.up (fun a k q => Or.inl q) (fun _ _ q => q))) l2 f7 ?_
      rw [f.1 _ _ (by omega), sI_1, up_s]
    · refine go 2 _ (by unfold ctB; rw [if_neg q]) (Or.inl rfl) D l1 (by rw [sI_o (by omega)]; exact d7) ?_
      rw [sI_1, up_s]
  · unfold chF
    rw [if_neg (fun z => z q0), if_pos (fun z => q ⟨z.1, by omega, z.2⟩)]
end CP
