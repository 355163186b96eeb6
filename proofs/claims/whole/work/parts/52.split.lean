/-! the class's split -/
/-- the class's numbers of kinds -/
def ck (k : Nat) : Nat := if k = 1 then 3 else if k = 3 then 1 else k
theorem txR_c {t : TX} {P R : Nat → Nat → Prop} {h h2 : AH} (T : txR t h) (c : Chg P R h h2) (p1 : ¬ P 1 1) (p2 : ∀ k, ¬ P 2 k) : txR t h2 := ⟨T.1, by rw [c.1 _ _ p1]; exact T.2.1, fun i hi => by rw [c.1 _ _ (p2 i)]; exact T.2.2 i hi⟩
section SP
variable {g : mg} {l : Launch} {h : AH}
theorem wp_begins {Q : Int32 → AH → Prop} {t : TX} {i : Nat} (T : txR t h) (hi : i < t.1) (k1 : bgn t i = true → Q (I 1) h) (k0 : bgn t i = false → Q (I 0) h) : SpI g l mX5_beginsToken h [.ref 1, .int (I (i : Int))] Q := by
  have h4 := T.1.1
  have hb := T.1.2 i
  have hsb := sb_in hb
  refine sX5_beginsToken (fun X O => ⟨i, rfl, by omega, ?_⟩)
  rw [T.2.2 i hi]
  have e32 : bI (t.2 i) = I 32 ↔ t.2 i = 32 := by
    rw [bI_sb hb, I_eq (by omega) (by omega) (by omega) (by omega)]
    exact sb_eq (c := 32) hb (by omega)
  have e0 : I (i : Int) = 0 ↔ i = 0 := by rw [I_eq0 (by omega) (by omega)]; omega
  rw [e32, e0]
  refine ⟨fun n32 => ⟨fun n0 => ?_, fun y0 => k1 ?_⟩, fun y32 => k0 ?_⟩
  · have hp := T.1.2 (i - 1)
    have fin : ∀ (s : Bool), s = (isL (t.2 (i - 1)) && isL (t.2 i)) → GI g l X Q h 50 [(0, .ref 1), (1, .int (I (i : Int)))] [.int (I (if s then 1 else 0))] := by
      intro s es
      have hbg : bgn t i = (!s && !(isD (t.2 (i - 1)) && isD (t.2 i))) := by
        unfold bgn
        rw [show (t.2 i == 32) = false by rw [beq_eq_false_iff_ne]; exact n32, show (i == 0) = false by rw [beq_eq_false_iff_ne]; exact n0, es]
        rfl
      refine bX5_beginsToken_50 O ⟨i - 1, by rw [I_sub]; congr 1; omega, by omega, ?_⟩
      rw [T.2.2 (i - 1) (by omega)]
      have sel : ∀ d : Bool, (isD (t.2 (i - 1)) && isD (t.2 i)) = d → ((¬ I (if s then 1 else 0) = 0) → (Q (I 0) h)) ∧ ((I (if s then 1 else 0) = 0) → (((¬ (I (if d then 1 else 0)) = 0) → (Q (I 0) h)) ∧ (((I (if d then 1 else 0)) = 0) → (Q (I 1) h)))) := by
        intro d ed
        rw [ed] at hbg
        cases s with
        | true => exact nb_t n10 (k0 (by rw [hbg]; rfl))
        | false =>
          cases d with
          | true => exact nb_f y00 (nb_t n10 (k0 (by rw [hbg]; rfl)))
          | false => exact nb_f y00 (nb_f y00 (k1 (by rw [hbg]; rfl)))
      refine wp_isD hp (fun d1 => br_f n10 ⟨i, rfl, by omega, ?_⟩) (fun d1 => br_t y00 ?_)
      · rw [T.2.2 i hi]
        refine wp_isD hb (fun d2 => br_f n10 ?_) (fun d2 => br_t y00 ?_)
        · exact sel true (by rw [d1, d2]; rfl)
        · exact sel false (by rw [d1, d2]; rfl)
      · exact sel false (by rw [d1]; rfl)
    refine ⟨i - 1, by rw [I_sub]; congr 1; omega, by omega, ?_⟩
    rw [T.2.2 (i - 1) (by omega)]
    refine wp_isL hp (fun d1 => br_f n10 ⟨i, rfl, by omega, ?_⟩) (fun d1 => br_t y00 ?_)
    · rw [T.2.2 i hi]
      refine wp_isL hb (fun d2 => br_f n10 ?_) (fun d2 => br_t y00 ?_)
      · exact fin true (by rw [d1, d2]; rfl)
      · exact fin false (by rw [d1, d2]; rfl)
    · exact fin false (by rw [d1]; rfl)
  · unfold bgn
    rw [show (t.2 i == 32) = false by rw [beq_eq_false_iff_ne]; exact n32, y0]
    rfl
  · unfold bgn
    rw [y32]
    rfl
abbrev cTok (m : Nat) : Nat → Nat → Prop := fun a k => (a = 3 ∧ k = m) ∨ (a = 4 ∧ k = m)
theorem wp_readWord {Q : AH → Prop} {t : TX} {i m : Nat} (T : txR t h) (hi : i < t.1) (hm : m < 401) (em : h.1 1 6 = I (m : Int)) (hl : isL (t.2 i) = true) (k : ∀ h2, Chg (cTok m) nR h h2 → h2.1 3 m = I (ck (kdT t i) : Int) → (kdT t i = 1 ∨ kdT t i = 2 → h2.1 4 m = I (vlT t i : Int)) → Q h2) : SpV g l mX5_readWord h [.ref 1, .int (I (i : Int))] Q := by
  have h4 := T.1.1
  have hb := T.1.2 i
  have hsb := sb_in hb
  have hin := eL_in hi
  have hpos := eL_pos hi hl
  have hk : kdT t i = kdW t i := by
    unfold kdT
    rw [if_neg (by omega), if_pos hl]
  refine sX5_readWord (fun X O => ?_)
  have fin : GV g l X Q h 28 [(0, .ref 1), (1, .int (I (i : Int))), (2, .int (I (eL t i : Int)))] [] := by
    refine bX5_readWord_28 O ?_
    rw [I_add, I_le (by omega) (by omega) (by omega) (by omega)]
    refine ⟨fun q => ⟨i, rfl, by omega, ?_⟩, fun q => ?_⟩
    · have e1 : eL t i - i = 1 := by omega
      have hl' := isL_iff.mp hl
      have es : sb (t.2 i) = (t.2 i : Int) := by unfold sb; rw [if_pos (by omega)]
      have hv : vlT t i = t.2 i - 97 := by unfold vlT; rw [if_pos hl]
      rw [T.2.2 i hi, bI_sb hb, es, I_sub, I_le (by omega) (by omega) (by omega) (by omega)]
      refine ⟨fun q2 => ⟨m, em, hm, m, em, hm, ?_⟩, fun q2 => ⟨m, em, hm, m, em, hm, ?_⟩⟩
      · have kk : kdT t i = 9 := by rw [hk]; unfold kdW; rw [if_pos e1, if_neg (by omega)]
        refine k _ ((Chg.rf.i (Or.inl ⟨rfl, rfl⟩)).i (Or.inr ⟨rfl, rfl⟩)) ?_ (fun q3 => absurd q3 (by omega))
        rw [sI_o (by omega), sI_1, up_s, kk]; rfl
      · have kk : kdT t i = 1 := by rw [hk]; unfold kdW; rw [if_pos e1, if_pos (by omega)]
        refine k _ ((Chg.rf.i (Or.inl ⟨rfl, rfl⟩)).i (Or.inr ⟨rfl, rfl⟩)) ?_ (fun q3 => ?_)
        · rw [sI_o (by omega), sI_1, up_s, kk]; rfl
        · rw [sI_1, up_s, hv]; congr 1; omega
    · refine wp_kindOfWord T hi (by omega) ⟨m, em, hm, ?_⟩
      have hr : kdW t i ≠ 1 ∧ kdW t i ≠ 2 ∧ kdW t i ≠ 3 := by
        unfold kdW
        rw [if_neg (by omega)]
        split
        · omega
        split
        · omega
        split
        · omega
        split
        · omega
        split <;> omega
      refine k _ (Chg.rf.i (Or.inl ⟨rfl, rfl⟩)) ?_ (fun q3 => absurd q3 (by omega))
      rw [sI_1, up_s, hk]
      unfold ck
      rw [if_neg hr.1, if_neg hr.2.2]
  have lp : ∀ m c, c + m = eL t i → i ≤ c → GV g l X Q h 2 [(0, .ref 1), (1, .int (I (i : Int))), (2, .int (I (c : Int)))] [] := by
    intro m
    induction m with
    | zero =>
      intro c hc hic
      have ec : c = eL t i := by omega
      subst ec
      refine bX5_readWord_2 O ?_
      rw [T.2.1, I_le (by omega) (by omega) (by omega) (by omega)]
      refine ⟨fun q => fin, fun q => ⟨eL t i, rfl, by omega, ?_⟩⟩
      rw [T.2.2 _ (by omega)]
      refine wp_isL (T.1.2 _) (fun q2 => ?_) (fun q2 => br_t y00 fin)
      rw [eL_end hi (by omega)] at q2
      cases q2
    | succ m ih =>
      intro c hc hic
      refine bX5_readWord_2 O ?_
      rw [T.2.1, I_le (by omega) (by omega) (by omega) (by omega)]
      refine br_f (by omega) ⟨c, rfl, by omega, ?_⟩
      rw [T.2.2 _ (by omega)]
      refine wp_isL (T.1.2 _) (fun q2 => br_f n10 ?_) (fun q2 => ?_)
      · rw [I_add]
        exact ih (c + 1) (by omega) (by omega)
      · rw [eL_all hic (by omega)] at q2
        cases q2
  exact lp (eL t i - i) i (by omega) (by omega)
/-- the class's value, which stops at 1000 -/
def cvl (t : TX) (i : Nat) : Nat → Nat
  | 0 => 0
  | k + 1 => if 999 < cvl t i k then cvl t i k else 10 * cvl t i k + (t.2 (i + k) - 48)
theorem cvl_dvl {t : TX} {i : Nat} : ∀ n, (∀ k, k < n → isD (t.2 (i + k)) = true) → cvl t i n ≤ 9999 ∧ (dvl t i n ≤ 999 → cvl t i n = dvl t i n) ∧ (999 < dvl t i n → 999 < cvl t i n)
  | 0, _ => ⟨by unfold cvl; omega, fun _ => rfl, fun q => by unfold dvl at q; omega⟩
  | n + 1, hd => by
    have ih := cvl_dvl n (fun k hk => hd k (by omega))
    have h1 := isD_iff.mp (hd n (by omega))
    unfold cvl dvl
    split
    · omega
    · have : dvl t i n ≤ 999 := by omega
      have := ih.2.1 this
      omega
theorem dvl_lt {t : TX} {i : Nat} : ∀ n, (∀ k, k < n → isD (t.2 (i + k)) = true) → dvl t i n < 10 ^ n
  | 0, _ => by unfold dvl; omega
  | n + 1, hd => by
    have ih := dvl_lt n (fun k hk => hd k (by omega))
    have h1 := isD_iff.mp (hd n (by omega))
    unfold dvl
    rw [Nat.pow_succ]
    omega
theorem dvl_ge {t : TX} {i : Nat} (h0 : t.2 i ≠ 48) : ∀ n, (∀ k, k < n + 1 → isD (t.2 (i + k)) = true) → 10 ^ n ≤ dvl t i (n + 1)
  | 0, hd => by
    have h1 := isD_iff.mp (hd 0 (by omega))
    unfold dvl
    rw [Nat.add_zero] at h1 ⊢
    omega
  | n + 1, hd => by
    have ih := dvl_ge h0 n (fun k hk => hd k (by omega))
    unfold dvl
    rw [Nat.pow_succ]
    omega
theorem wp_readNumber {Q : AH → Prop} {t : TX} {i m : Nat} (T : txR t h) (hi : i < t.1) (hm : m < 401) (em : h.1 1 6 = I (m : Int)) (hd : isD (t.2 i) = true) (k : ∀ h2, Chg (cTok m) nR h h2 → h2.1 3 m = I (ck (kdT t i) : Int) → (kdT t i = 1 ∨ kdT t i = 2 → h2.1 4 m = I (vlT t i : Int)) → Q h2) : SpV g l mX5_readNumber h [.ref 1, .int (I (i : Int))] Q := by
  have h4 := T.1.1
  have hb := T.1.2 i
  have hsb := sb_in hb
  have hin := eD_in hi
  have hpos := eD_pos hi hd
  have hk : kdT t i = kdN t i := by
    unfold kdT
    rw [if_neg (by omega), if_neg (by rw [isDL hd]; decide), if_pos hd]
  have hv : vlT t i = dvl t i (eD t i - i) := by unfold vlT; rw [if_neg (by rw [isDL hd]; decide)]
  have hdd : ∀ k, k < eD t i - i → isD (t.2 (i + k)) = true := fun k hk => eD_all (i := i) (by omega) (by omega)
  have cv := cvl_dvl _ hdd
  have e48 : bI (t.2 i) = I 48 ↔ t.2 i = 48 := by
    rw [bI_sb hb, I_eq (by omega) (by omega) (by omega) (by omega)]
    exact sb_eq (c := 48) hb (by omega)
  have big : kdN t i = if 999 < cvl t i (eD t i - i) ∨ (t.2 i = 48 ∧ 1 < eD t i - i) then 9 else 2 := by
    unfold kdN
    by_cases hz : t.2 i = 48 ∧ 1 < eD t i - i
    · rw [if_pos (Or.inr hz), if_pos (Or.inr hz)]
    · by_cases hL : 3 < eD t i - i
      · have h0 : t.2 i ≠ 48 := fun q => hz ⟨q, by omega⟩
        obtain ⟨n, hn⟩ : ∃ n, eD t i - i = n + 1 := ⟨eD t i - i - 1, by omega⟩
        have := dvl_ge h0 n (fun k h' => hdd k (by omega))
        have p3 : 10 ^ 3 ≤ 10 ^ n := Nat.pow_le_pow_right (by omega) (by omega)
        rw [← hn] at this
        rw [if_pos (Or.inl hL), if_pos (Or.inl (cv.2.2 (by omega)))]
      · have := dvl_lt _ hdd
        have p3 : 10 ^ (eD t i - i) ≤ 10 ^ 3 := Nat.pow_le_pow_right (by omega) (by omega)
        have := cv.2.1 (by omega)
        rw [if_neg (by omega), if_neg (by omega)]
  have val : kdN t i = 2 → cvl t i (eD t i - i) = vlT t i := fun q => by
    rw [hv]
    refine cv.2.1 ?_
    rw [big] at q
    have : ¬ 999 < dvl t i (eD t i - i) := fun q2 => by
      rw [if_pos (Or.inl (cv.2.2 q2))] at q
      omega
    omega
  refine sX5_readNumber (fun X O => ?_)
  have out : ∀ (z : Nat), kdN t i = z → Q (sI (sI h 3 m (I (z : Int))) 4 m (I (cvl t i (eD t i - i) : Int))) := fun z ez => by
    refine k _ ((Chg.rf.i (Or.inl ⟨rfl, rfl⟩)).i (Or.inr ⟨rfl, rfl⟩)) ?_ (fun q3 => ?_)
    · rw [sI_o (by omega), sI_1, up_s, hk, ez]
      have : z = 9 ∨ z = 2 := by
        rw [← ez, big]
        split <;> omega
      rcases this with rfl | rfl <;> rfl
    · rw [sI_1, up_s, val]
      rw [hk] at q3
      rw [big] at q3 ⊢
      split at q3 <;> split <;> omega
  have fin : GV g l X Q h 52 [(0, .ref 1), (1, .int (I (i : Int))), (2, .int (I (cvl t i (eD t i - i) : Int))), (3, .int (I (eD t i : Int)))] [] := by
    have f74 : ¬ (t.2 i = 48 ∧ 1 < eD t i - i) → GV g l X Q h 74 [(0, .ref 1), (2, .int (I (cvl t i (eD t i - i) : Int)))] [] := fun nz => by
      refine bX5_readNumber_74 O ?_
      rw [I_lt (by omega) (by omega) (by omega) (by omega)]
      refine ⟨fun q => ⟨m, em, hm, m, em, hm, out 9 (by rw [big, if_pos (Or.inl (by omega))])⟩, fun q => br_t y00 ⟨m, em, hm, m, em, hm, out 2 (by rw [big, if_neg (by omega)])⟩⟩
    refine bX5_readNumber_52 O ⟨i, rfl, by omega, ?_⟩
    rw [T.2.2 i hi, e48, I_add, I_le (by omega) (by omega) (by omega) (by omega)]
    refine ⟨fun q => f74 (fun q2 => q q2.1), fun q => ⟨fun q2 => f74 (fun q3 => by omega), fun q2 => ?_⟩⟩
    have e9 : kdN t i = 9 := by rw [big, if_pos (Or.inr ⟨q, by omega⟩)]
    exact ⟨fun _ => ⟨m, em, hm, m, em, hm, out 9 e9⟩, fun _ => br_f n10 ⟨m, em, hm, m, em, hm, out 9 e9⟩⟩
  have lp : ∀ m c, i + c + m = eD t i → GV g l X Q h 4 [(0, .ref 1), (1, .int (I (i : Int))), (2, .int (I (cvl t i c : Int))), (3, .int (I ((i + c : Nat) : Int)))] [] := by
    intro m
    induction m with
    | zero =>
      intro c hc
      have ec : c = eD t i - i := by omega
      have ec2 : i + c = eD t i := by omega
      rw [ec2, ec]
      refine bX5_readNumber_4 O ?_
      rw [T.2.1, I_le (by omega) (by omega) (by omega) (by omega)]
      refine ⟨fun q => fin, fun q => ⟨eD t i, rfl, by omega, ?_⟩⟩
      rw [T.2.2 _ (by omega)]
      refine wp_isD (T.1.2 _) (fun q2 => ?_) (fun q2 => br_t y00 fin)
      rw [eD_end hi (by omega)] at q2
      cases q2
    | succ m ih =>
      intro c hc
      have cc := (cvl_dvl c (fun k h' => hdd k (by omega))).1
      refine bX5_readNumber_4 O ?_
      rw [T.2.1, I_le (by omega) (by omega) (by omega) (by omega), I_lt (by omega) (by omega) (by omega) (by omega)]
      refine br_f (by omega) ⟨i + c, rfl, by omega, ?_⟩
      rw [T.2.2 _ (by omega)]
      have hdc := hdd c (by omega)
      refine wp_isD (T.1.2 _) (fun q2 => br_f n10 ⟨fun q3 => ?_, fun q3 => ⟨i + c, rfl, by omega, ?_⟩⟩) (fun q2 => ?_)
      · have := ih (c + 1) (by omega)
        unfold cvl at this
        rw [if_pos (by omega)] at this
        rw [I_add]
        exact this
      · have := ih (c + 1) (by omega)
        unfold cvl at this
        rw [if_neg (by omega)] at this
        have hd' := isD_iff.mp hdc
        rw [T.2.2 _ (by omega), bI_sb (T.1.2 _), show sb (t.2 (i + c)) = (t.2 (i + c) : Int) by unfold sb; rw [if_pos (by omega)], I_mul, I_add, I_sub, I_add]
        rw [show (10 * (cvl t i c : Int) + (t.2 (i + c) : Int) - 48) = ((10 * cvl t i c + (t.2 (i + c) - 48) : Nat) : Int) by omega]
        exact this
      · rw [hdc] at q2
        cases q2
  exact lp (eD t i - i) 0 (by omega)
theorem wp_readToken {Q : AH → Prop} {t : TX} {i m : Nat} (T : txR t h) (hi : i < t.1) (hm : m < 401) (em : h.1 1 6 = I (m : Int)) (k : ∀ h2, Chg (cTok m) nR h h2 → h2.1 3 m = I (ck (kdT t i) : Int) → (kdT t i = 1 ∨ kdT t i = 2 → h2.1 4 m = I (vlT t i : Int)) → Q h2) : SpV g l mX5_readToken h [.ref 1, .int (I (i : Int))] Q := by
  have h4 := T.1.1
  have hb := T.1.2 i
  have c0 : Chg (cTok m) nR h (sI h 4 m (I 0)) := Chg.rf.i (Or.inr ⟨rfl, rfl⟩)
  have T0 : txR t (sI h 4 m (I 0)) := txR_c T c0 (by omega) (by omega)
  have em0 : (sI h 4 m (I 0)).1 1 6 = I (m : Int) := by rw [sI_o (by omega)]; exact em
  have k' : ∀ h2, Chg (cTok m) nR (sI h 4 m (I 0)) h2 → h2.1 3 m = I (ck (kdT t i) : Int) → (kdT t i = 1 ∨ kdT t i = 2 → h2.1 4 m = I (vlT t i : Int)) → Q h2 := fun h2 c => k h2 (c0.tr c)
  refine sX5_readToken ⟨m, em, hm, i, rfl, by omega, ?_⟩
  rw [T.2.2 i hi]
  refine wp_isD hb (fun d => br_f n10 (wp_readNumber T0 hi hm em0 d k')) (fun d => br_t y00 ⟨i, rfl, by omega, ?_⟩)
  rw [T0.2.2 i hi]
  refine wp_isL hb (fun w => br_f n10 (wp_readWord T0 hi hm em0 w k')) (fun w => br_t y00 ⟨i, rfl, by omega, ?_⟩)
  have e59 : bI (t.2 i) = I 59 ↔ t.2 i = 59 := by
    have hsb := sb_in hb
    rw [bI_sb hb, I_eq (by omega) (by omega) (by omega) (by omega)]
    exact sb_eq (c := 59) hb (by omega)
  rw [T0.2.2 i hi, e59]
  have hk : kdT t i = if t.2 i = 59 then 3 else 9 := by
    unfold kdT
    rw [if_neg (by omega), if_neg (by rw [w]; decide), if_neg (by rw [d]; decide)]
  refine ⟨fun q => ⟨m, em0, hm, k' _ (Chg.rf.i (Or.inl ⟨rfl, rfl⟩)) ?_ (fun q3 => ?_)⟩, fun q => ⟨m, em0, hm, k' _ (Chg.rf.i (Or.inl ⟨rfl, rfl⟩)) ?_ (fun q3 => ?_)⟩⟩
  · rw [sI_1, up_s, hk, if_neg q]; rfl
  · rw [hk, if_neg q] at q3; omega
  · rw [sI_1, up_s, hk, if_pos q]; rfl
  · rw [hk, if_pos q] at q3; omega
/-- the class's tokens are the text's -/
def tokC (t : TX) (h : AH) (m : Nat) : Prop := m ≤ 400 ∧ h.1 1 6 = I (m : Int) ∧ tkP t m = t.1 ∧ (∀ k, k < m → tkP t k < t.1) ∧ ∀ k, k ≤ m → h.1 3 k = I (ck (kdT t (tkP t k)) : Int) ∧ h.1 5 k = I (tkP t k : Int) ∧ (kdT t (tkP t k) = 1 ∨ kdT t (tkP t k) = 2 → h.1 4 k = I (vlT t (tkP t k) : Int))
abbrev cSplit : Nat → Nat → Prop := fun a k => (3 ≤ a ∧ a ≤ 5) ∨ (a = 1 ∧ (k = 6 ∨ k = 7))
theorem wp_split {Q : AH → Prop} {t : TX} (T : txR t h) (k : ∀ h2 m, Chg cSplit nR h h2 → h2.1 1 7 = I 0 → tokC t h2 m → Q h2) : SpV g l mX5_split h [.ref 1] Q := by
  have h4 := T.1.1
  refine sX5_split (fun X O => ?_)
  have lp : ∀ (n i m : Nat) (h1 : AH), i + n = t.1 → m ≤ i → Chg cSplit nR h h1 → h1.1 1 7 = I 0 → h1.1 1 6 = I (m : Int) → nbg t i = tkP t m → (∀ j, j < m → tkP t j < t.1 ∧ h1.1 3 j = I (ck (kdT t (tkP t j)) : Int) ∧ h1.1 5 j = I (tkP t j : Int) ∧ (kdT t (tkP t j) = 1 ∨ kdT t (tkP t j) = 2 → h1.1 4 j = I (vlT t (tkP t j) : Int))) → GV g l X Q h1 12 [(0, .ref 1), (1, .int (I (i : Int)))] [] := by
    intro n
    induction n with
    | zero =>
      intro i m h1 hn hmi c e7 e6 nb tb
      have T1 := txR_c T c (by omega) (by omega)
      have ei : i = t.1 := by omega
      have etk : tkP t m = t.1 := by
        rw [← nb, ei]
        unfold nbg
        rw [if_pos (Nat.le_refl _)]
      refine bX5_split_12 O ?_
      rw [T1.2.1, I_le (by omega) (by omega) (by omega) (by omega)]
      refine br_t (by omega) ⟨m, e6, by omega, m, e6, by omega, ?_⟩
      refine k _ m ((c.i (Or.inl (by omega))).i (Or.inl (by omega))) ?_ ⟨by omega, ?_, etk, fun j hj => (tb j hj).1, fun j hj => ?_⟩
      · rw [sI_o (by omega), sI_o (by omega)]; exact e7
      · rw [sI_o (by omega), sI_o (by omega)]; exact e6
      · by_cases ej : j = m
        · subst ej
          have k0 : kdT t (tkP t j) = 0 := by
            unfold kdT
            rw [if_pos (by omega)]
          refine ⟨?_, ?_, fun q => absurd q (by omega)⟩
          · rw [sI_o (by omega), sI_1, up_s, k0]; rfl
          · rw [sI_1, up_s, etk]
        · have := tb j (by omega)
          refine ⟨?_, ?_, fun q => ?_⟩
          · rw [sI_o (by omega), sI_1, up_n (by omega)]; exact this.2.1
          · rw [sI_1, up_n (by omega), sI_o (by omega)]; exact this.2.2.1
          · rw [sI_o (by omega), sI_o (by omega)]; exact this.2.2.2 q
    | succ n ih =>
      intro i m h1 hn hmi c e7 e6 nb tb
      have T1 := txR_c T c (by omega) (by omega)
      refine bX5_split_12 O ?_
      rw [T1.2.1, I_le (by omega) (by omega) (by omega) (by omega)]
      refine br_f (by omega) (wp_begins T1 (by omega) (fun b => br_f n10 ⟨m, e6, by omega, ?_⟩) (fun b => br_t y00 ?_))
      · have etk : tkP t m = i := by rw [← nb]; exact nbg_t (by omega) b
        have c2 : Chg cSplit nR h (sI h1 5 m (I (i : Int))) := c.i (Or.inl (by omega))
        refine wp_readToken (m := m) (txR_c T c2 (by omega) (by omega)) (by omega) (by omega) (by rw [sI_o (by omega)]; exact e6) (fun h2 d a3 a4 => ?_)
        have e6' : h2.1 1 6 = I (m : Int) := by rw [d.1 _ _ (by omega), sI_o (by omega)]; exact e6
        rw [e6', I_add, I_add]
        refine ih (i + 1) (m + 1) _ (by omega) (by omega) ((c2.tr (d.up (fun a k q => by omega) (fun _ _ q => q))).i (Or.inr (by omega))) ?_ ?_ ?_ (fun j hj => ?_)
        · rw [sI_1, up_n (by omega), d.1 _ _ (by omega), sI_o (by omega)]; exact e7
        · rw [sI_1, up_s]; rfl
        · show _ = nbg t (tkP t m + 1)
          rw [etk]
        · by_cases ej : j = m
          · subst ej
            rw [etk]
            refine ⟨by omega, ?_, ?_, fun q => ?_⟩
            · rw [sI_o (by omega)]; exact a3
            · rw [sI_o (by omega), d.1 _ _ (by omega), sI_1, up_s]
            · rw [sI_o (by omega)]; exact a4 q
          · have := tb j (by omega)
            refine ⟨this.1, ?_, ?_, fun q => ?_⟩
            · rw [sI_o (by omega), d.1 _ _ (by omega), sI_o (by omega)]; exact this.2.1
            · rw [sI_o (by omega), d.1 _ _ (by omega), sI_1, up_n (by omega)]; exact this.2.2.1
            · rw [sI_o (by omega), d.1 _ _ (by omega), sI_o (by omega)]; exact this.2.2.2 q
      · rw [I_add]
        refine ih (i + 1) m h1 (by omega) (by omega) c e7 e6 ?_ tb
        rw [← nb, nbg_f (by omega) b]
  refine lp t.1 0 0 _ (by omega) (by omega) ((Chg.rf.i (Or.inr (by omega))).i (Or.inr (by omega))) ?_ ?_ rfl (fun j hj => absurd hj (by omega))
  · rw [sI_1, up_s]
  · rw [sI_1, up_n (by omega), sI_1, up_s]; rfl
end SP
