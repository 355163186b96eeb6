/-! the class's tokens -/
def sb (b : Nat) : Int := if b < 128 then b else (b : Int) - 256
theorem bI_sb {b : Nat} (h : b < 256) : bI b = I (sb b) := by
  have : ∀ x : Fin 256, bI x.val = I (sb x.val) := by decide +kernel
  exact this ⟨b, h⟩
theorem sb_in {b : Nat} (h : b < 256) : -128 ≤ sb b ∧ sb b < 128 := by
  unfold sb
  split <;> omega
theorem sb_eq {b c : Nat} (h : b < 256) (hc : c < 128) : sb b = (c : Int) ↔ b = c := by
  unfold sb
  split <;> omega
section TC
variable {g : mg} {l : Launch} {h : AH}
theorem wp_isD {Q : Int32 → AH → Prop} {b : Nat} (hb : b < 256) (k1 : isD b = true → Q (I 1) h) (k0 : isD b = false → Q (I 0) h) : SpI g l mX5_isDigit h [.int (bI b)] Q := by
  have h1 := sb_in hb
  rw [bI_sb hb]
  refine sX5_isDigit ?_
  simp (disch := omega) only [I_lt]
  have kf : ¬ isD b = true → Q (I 0) h := fun q => k0 (by simpa using q)
  simp only [isD_iff] at k1 kf
  unfold sb
  exact ⟨fun q => kf (by split at q <;> omega), fun q => ⟨fun q2 => kf (by split at q2 <;> omega), fun q2 => k1 (by split at q <;> split at q2 <;> omega)⟩⟩
theorem wp_isL {Q : Int32 → AH → Prop} {b : Nat} (hb : b < 256) (k1 : isL b = true → Q (I 1) h) (k0 : isL b = false → Q (I 0) h) : SpI g l mX5_isLetter h [.int (bI b)] Q := by
  have h1 := sb_in hb
  rw [bI_sb hb]
  refine sX5_isLetter ?_
  simp (disch := omega) only [I_lt]
  have kf : ¬ isL b = true → Q (I 0) h := fun q => k0 (by simpa using q)
  simp only [isL_iff] at k1 kf
  unfold sb
  exact ⟨fun q => kf (by split at q <;> omega), fun q => ⟨fun q2 => kf (by split at q2 <;> omega), fun q2 => k1 (by split at q <;> split at q2 <;> omega)⟩⟩
theorem wp_strlen {Q : Int32 → AH → Prop} {w : Nat} (hw : w < 5) (k : Q (I (txL.getD w 0 : Nat)) h) : SpI g l mJ0_length_8abf5 h [.ref (1010 + w)] Q := by
  refine sJ0_length_8abf5 hw (sJ0_coder_7d493 hw (br_f n10 ⟨by decide, ?_⟩))
  have e : ∀ x : Int32, x >>> (I 0 &&& 31) = x := fun x => by
    have : (I 0 &&& 31 : Int32) = 0 := by decide
    rw [this]
    simp
  rw [e]
  exact k
theorem wp_checkIx {Q : AH → Prop} {a b : Int} (h0 : 0 ≤ a) (h1 : a < b) (h2 : b < 2147483648) (k : Q h) : SpV g l mJ0_checkIndex_df160 h [.int (I a), .int (I b)] Q := by
  refine sJ0_checkIndex_df160 ⟨sJ3_checkIndex_8e157n ?_, sJ3_checkIndex_8e157r ?_⟩
  · exact br_f (by rw [I_lt0 (by omega) (by omega)]; omega) (br_t ((I_lt (by omega) (by omega) (by omega) (by omega)).mpr h1) k)
  · exact br_f (by rw [I_lt0 (by omega) (by omega)]; omega) (br_t ((I_lt (by omega) (by omega) (by omega) (by omega)).mpr h1) k)
theorem tx_wds {w j : Nat} (hw : w < 5) (hj : j < txL.getD w 0) : (((((txB.getD w []).getD j 0) &&& (I 255))).toUInt32 % 65536).toInt32 = I ((wds.getD w []).getD j 0 : Nat) ∧ narrow .char (.int (((((txB.getD w []).getD j 0) &&& (I 255))).toUInt32 % 65536).toInt32) = .int (((((txB.getD w []).getD j 0) &&& (I 255))).toUInt32 % 65536).toInt32 ∧ (wds.getD w []).getD j 0 < 128 := by
  have h5 := tx_len hw
  have : ∀ x : Fin 5, ∀ y : Fin 5, y.val < txL.getD x.val 0 → (((((txB.getD x.val []).getD y.val 0) &&& (I 255))).toUInt32 % 65536).toInt32 = I ((wds.getD x.val []).getD y.val 0 : Nat) ∧ narrow .char (.int (((((txB.getD x.val []).getD y.val 0) &&& (I 255))).toUInt32 % 65536).toInt32) = .int (((((txB.getD x.val []).getD y.val 0) &&& (I 255))).toUInt32 % 65536).toInt32 ∧ (wds.getD x.val []).getD y.val 0 < 128 := by decide +kernel
  exact this ⟨w, hw⟩ ⟨j, by omega⟩ hj
theorem wp_char {Q : Int32 → AH → Prop} {w j : Nat} (hw : w < 5) (hj : j < txL.getD w 0) (k : Q (I ((wds.getD w []).getD j 0 : Nat)) h) : SpI g l mJ0_charAt_5068e h [.ref (1010 + w), .int (I (j : Int))] Q := by
  have h5 := tx_len hw
  have ht := tx_wds hw hj
  refine sJ0_charAt_5068e hw (sJ0_isLatin1_aae02 hw (br_f n10 (nb_f y00 (br_f n10 ?_))))
  refine sJ1_charAt_3b067 hw (wp_checkIx (by omega) (by omega) (by omega) ⟨j, rfl, hj, ht.2.1, ht.2.1, ?_⟩)
  rw [ht.1]
  exact k
theorem wds_len {w : Nat} (hw : w < 5) : (wds.getD w []).length = txL.getD w 0 := by
  have : ∀ x : Fin 5, (wds.getD x.val []).length = txL.getD x.val 0 := by decide +kernel
  exact this ⟨w, hw⟩
abbrev txR (t : TX) (h : AH) : Prop := (t.1 ≤ 400 ∧ ∀ i, t.2 i < 256) ∧ h.1 1 1 = I (t.1 : Int) ∧ ∀ i, i < t.1 → h.1 2 i = bI (t.2 i)
theorem wp_isW {Q : Int32 → AH → Prop} {t : TX} {w i : Nat} (hw : w < 5) (T : txR t h) (hi : i < t.1) (k1 : isW t i w = true → Q (I 1) h) (k0 : isW t i w = false → Q (I 0) h) : SpI g l mX5_isWord h [.ref 1, .ref (1010 + w), .int (I (i : Int)), .int (I (eL t i : Int))] Q := by
  have h5 := tx_len hw
  have hl := wds_len hw
  have hin := eL_in hi
  have h4 := T.1.1
  refine sX5_isWord hw (fun X O => wp_strlen hw ?_)
  rw [I_sub]
  simp (disch := omega) only [I_eq]
  refine ⟨fun q => ?_, fun q => k0 ?_⟩
  · have hq : eL t i - i = txL.getD w 0 := by omega
    have lp : ∀ m c, c + m = txL.getD w 0 → (∀ k, k < c → t.2 (i + k) = (wds.getD w []).getD k 0) → GI g l X Q h 15 [(0, .ref 1), (1, .ref (1010 + w)), (2, .int (I (i : Int))), (4, .int (I (c : Int)))] [] := by
      intro m
      induction m with
      | zero =>
        intro c hc hk
        refine bX5_isWord_15 O hw (wp_strlen hw (br_t ((I_le (by omega) (by omega) (by omega) (by omega)).mpr (by omega)) (k1 ?_)))
        unfold isW
        rw [hl, hq]
        simp only [beq_self_eq_true, Bool.true_and, List.all_eq_true, List.mem_range, beq_iff_eq]
        exact fun k h' => hk k (by omega)
      | succ m ih =>
        intro c hc hk
        have ht := tx_wds hw (show c < txL.getD w 0 by omega)
        have hb := T.1.2 (i + c)
        have hsb := sb_in hb
        refine bX5_isWord_15 O hw (wp_strlen hw (br_f (by rw [I_le (by omega) (by omega) (by omega) (by omega)]; omega) ⟨i + c, by rw [I_add]; rfl, by omega, wp_char hw (by omega) ?_⟩))
        rw [T.2.2 (i + c) (by omega), bI_sb hb]
        simp (disch := omega) only [I_eq]
        rw [sb_eq hb ht.2.2]
        refine ⟨fun q2 => ?_, fun q2 => k0 ?_⟩
        · rw [I_add]
          refine ih (c + 1) (by omega) (fun k h' => ?_)
          by_cases e : k = c
          · rw [e]; exact q2
          · exact hk k (by omega)
        · cases hW : isW t i w with
          | false => rfl
          | true =>
            exfalso
            unfold isW at hW
            rw [hl, hq] at hW
            simp only [beq_self_eq_true, Bool.true_and, List.all_eq_true, List.mem_range, beq_iff_eq] at hW
            exact q2 (hW c (by omega))
    exact lp _ 0 (Nat.zero_add _) (fun k h' => absurd h' (by omega))
  · unfold isW
    rw [hl]
    have : (eL t i - i == txL.getD w 0) = false := by rw [beq_eq_false_iff_ne]; omega
    rw [this]
    rfl
theorem wp_kindOfWord {Q : Int32 → AH → Prop} {t : TX} {i : Nat} (T : txR t h) (hi : i < t.1) (h1 : eL t i - i ≠ 1) (k : Q (I (kdW t i : Int)) h) : SpI g l mX5_kindOfWord h [.ref 1, .int (I (i : Int)), .int (I (eL t i : Int))] Q := by
  unfold kdW at k
  rw [if_neg h1] at k
  refine sX5_kindOfWord (wp_isW (w := 0) (by omega) T hi (fun q => br_f n10 ?_) (fun q => br_t y00 ?_))
  · rw [if_pos q] at k; exact k
  rw [if_neg (by rw [q]; decide)] at k
  refine wp_isW (w := 1) (by omega) T hi (fun q => br_f n10 ?_) (fun q => br_t y00 ?_)
  · rw [if_pos q] at k; exact k
  rw [if_neg (by rw [q]; decide)] at k
  refine wp_isW (w := 2) (by omega) T hi (fun q => br_f n10 ?_) (fun q => br_t y00 ?_)
  · rw [if_pos q] at k; exact k
  rw [if_neg (by rw [q]; decide)] at k
  refine wp_isW (w := 3) (by omega) T hi (fun q => br_f n10 ?_) (fun q => br_t y00 ?_)
  · rw [if_pos q] at k; exact k
  rw [if_neg (by rw [q]; decide)] at k
  refine wp_isW (w := 4) (by omega) T hi (fun q => br_f n10 ?_) (fun q => br_t y00 ?_)
  · rw [if_pos q] at k; exact k
  rw [if_neg (by rw [q]; decide)] at k
  exact k
end TC
