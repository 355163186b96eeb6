/-! type and count -/
/-- byte k of v, from the lowest -/
def md (v : Int64) (k : Nat) : Nat := ((v >>> ((I 8 * I (k : Int)).toInt64 &&& 63)) &&& 255).toBitVec.toNat
theorem md_lt (v : Int64) (k : Nat) : md v k < 256 := by
  unfold md
  have : ((v >>> ((I 8 * I (k : Int)).toInt64 &&& 63)) &&& 255).toBitVec = (v >>> ((I 8 * I (k : Int)).toInt64 &&& 63)).toBitVec &&& 255#64 := rfl
  rw [this, BitVec.toNat_and]
  exact Nat.lt_of_le_of_lt Nat.and_le_right (by decide)
theorem md_m (v : Int64) (k : Nat) : ((v >>> ((I 8 * I (k : Int)).toInt64 &&& 63)) &&& 255).toInt32 = I (md v k : Int) := by
  have h := md_lt v k
  unfold md at *
  generalize ((v >>> ((I 8 * I (k : Int)).toInt64 &&& 63)) &&& 255) = x at *
  apply Int32.toBitVec_inj.mp
  apply BitVec.eq_of_toNat_eq
  rw [I_nat]
  show (x.toBitVec.signExtend 32).toNat = (BitVec.ofNat 32 x.toBitVec.toNat).toNat
  rw [BitVec.toNat_ofNat]
  simp [BitVec.toNat_signExtend]
theorem md_b (v : Int64) (a : Nat) (ha : a < 57) (s1 : Int64) (s2 : UInt64) (e1 : (s1.toBitVec.smod 64#64).toNat = a) (e2 : (s2.toBitVec % 64#64).toNat = a) : (((v.toUInt64 >>> s2).toInt64).toInt32).toInt8 = (((v >>> s1) &&& 255).toInt32).toInt8 := by
  apply Int8.toBitVec_inj.mp
  show ((((v.toBitVec >>> (s2.toBitVec % 64#64)).signExtend 32).signExtend 8) : BitVec 8) = (((BitVec.sshiftRight' v.toBitVec (s1.toBitVec.smod 64#64) &&& 255#64).signExtend 32).signExtend 8)
  apply BitVec.eq_of_getLsbD_eq
  intro j hj
  have h1 : j < 32 := by omega
  have h2 : j < 64 := by omega
  have h3 : (255#64).getLsbD j = true := by
    rcases (show j = 0 ∨ j = 1 ∨ j = 2 ∨ j = 3 ∨ j = 4 ∨ j = 5 ∨ j = 6 ∨ j = 7 by omega) with rfl | rfl | rfl | rfl | rfl | rfl | rfl | rfl <;> decide
  rw [BitVec.signExtend_eq_setWidth_of_le _ (by decide), BitVec.signExtend_eq_setWidth_of_le _ (by decide), BitVec.signExtend_eq_setWidth_of_le _ (by decide), BitVec.signExtend_eq_setWidth_of_le _ (by decide)]
  rw [BitVec.getLsbD_setWidth, BitVec.getLsbD_setWidth, BitVec.getLsbD_setWidth, BitVec.getLsbD_setWidth, BitVec.getLsbD_and, h3]
  rw [BitVec.ushiftRight_eq', BitVec.getLsbD_ushiftRight, BitVec.sshiftRight_eq', BitVec.getLsbD_sshiftRight, e1, e2]
  have h4 : a + j < 64 := by omega
  simp [hj, h1, h2, h4]
theorem md_c (v : Int64) {k : Nat} (hk : k < 8) : ((((v.toUInt64 >>> ((I 8 * I (k : Int)).toInt64.toUInt64 &&& Int64.toUInt64 63)).toInt64).toInt32).toInt8.toInt32).toInt8.toInt32 = bI (md v k) := by
  unfold bI
  rw [← md_m]
  rw [show ∀ x : Int32, x.toInt8.toInt32.toInt8 = x.toInt8 from fun x => by simp]
  congr 1
  rcases (show k = 0 ∨ k = 1 ∨ k = 2 ∨ k = 3 ∨ k = 4 ∨ k = 5 ∨ k = 6 ∨ k = 7 by omega) with rfl | rfl | rfl | rfl | rfl | rfl | rfl | rfl
  · exact md_b v 0 (by omega) _ _ (by decide) (by decide)
  · exact md_b v 8 (by omega) _ _ (by decide) (by decide)
  · exact md_b v 16 (by omega) _ _ (by decide) (by decide)
  · exact md_b v 24 (by omega) _ _ (by decide) (by decide)
  · exact md_b v 32 (by omega) _ _ (by decide) (by decide)
  · exact md_b v 40 (by omega) _ _ (by decide) (by decide)
  · exact md_b v 48 (by omega) _ _ (by decide) (by decide)
  · exact md_b v 56 (by omega) _ _ (by decide) (by decide)
section TY
variable {g : mg} {l : Launch} {h : AH}
/-- Text.add's loop -/
theorem lp_add {X : XT} {Q : Int32 → AH → Prop} (O : Ok (FF g l X) RX5 cX5_add 5 mX5_add.2.2.2.2 (some .boolean)) (v : Int64) : ∀ (m t : Nat) (h : AH), m ≤ 8 → t + m ≤ 400 → h.1 1 1 = I (t : Int) → (∀ h2, Chg (fun a k => (a = 1 ∧ k = 1) ∨ (a = 2 ∧ t ≤ k)) nR h h2 → h2.1 1 1 = I ((t + m : Nat) : Int) → (∀ i, i < m → h2.1 2 (t + i) = bI (md v (m - 1 - i))) → Q (I 1) h2) → GI g l X Q h 19 [(0, .ref 1), (1, .long v), (4, .int (I ((m : Int) - 1)))] [] := by
  intro m
  induction m with
  | zero =>
    intro t h h8 h4 e k
    refine bX5_add_19 O ?_
    exact br_t (by decide) (k h Chg.rf e (fun i hi => absurd hi (by omega)))
  | succ m ih =>
    intro t h h8 h4 e k
    refine bX5_add_19 O ?_
    have e0 : (((m + 1 : Nat) : Int) - 1) = (m : Int) := by omega
    rw [e0]
    refine br_f (by rw [I_lt0 (by omega) (by omega)]; omega) ⟨t, e, by omega, ?_⟩
    rw [md_c v (by omega), e, I_add, I_add]
    refine ih (t + 1) _ (by omega) (by omega) (by rw [sI_1, up_s]; rfl) (fun h2 c1 c2 c3 => ?_)
    have c0 : Chg (fun a k => (a = 1 ∧ k = 1) ∨ (a = 2 ∧ t ≤ k)) nR h (sI (sI h 2 t (bI (md v m))) 1 1 (I ((t : Int) + 1))) := (Chg.rf.i (Or.inr ⟨rfl, Nat.le_refl _⟩)).i (Or.inl ⟨rfl, rfl⟩)
    refine k h2 (c0.tr (c1.up (fun a k q => by omega) (fun _ _ q => q))) (by rw [c2]; congr 1; omega) (fun i hi => ?_)
    cases i with
    | zero =>
      rw [c1.1 _ _ (by omega), sI_o (by omega), sI_1, Nat.add_zero, up_s]
      congr 2
    | succ i =>
      have := c3 i (by omega)
      rw [show t + (i + 1) = t + 1 + i by omega, this]
      congr 2
      omega
/-- the reference's -/
theorem lp_mtype {X : XT} {Q : Int32 → AH → Prop} (O : Ok (FF g l X) RX8 cX8_type 5 mX8_type.2.2.2.2 (some .int)) (v : Int64) : ∀ (m t : Nat) (h : AH), m ≤ 8 → t + m ≤ 400 → h.1 82 1 = I (t : Int) → (∀ h2, Chg (fun a k => (a = 82 ∧ k = 1) ∨ (a = 83 ∧ t ≤ k)) nR h h2 → h2.1 82 1 = I ((t + m : Nat) : Int) → (∀ i, i < m → h2.1 83 (t + i) = I (md v (m - 1 - i) : Int)) → Q (I ((t + m : Nat) : Int)) h2) → GI g l X Q h 32 [(0, .ref 82), (1, .long v), (4, .int (I ((m : Int) - 1)))] [] := by
  intro m
  induction m with
  | zero =>
    intro t h h8 h4 e k
    refine bX8_type_32 O ?_
    refine br_t (by decide) ?_
    rw [e]
    exact k h Chg.rf e (fun i hi => absurd hi (by omega))
  | succ m ih =>
    intro t h h8 h4 e k
    refine bX8_type_32 O ?_
    have e0 : (((m + 1 : Nat) : Int) - 1) = (m : Int) := by omega
    rw [e0]
    refine br_f (by rw [I_lt0 (by omega) (by omega)]; omega) ⟨t, e, by omega, ?_⟩
    rw [md_m v, e, I_add, I_add]
    refine ih (t + 1) _ (by omega) (by omega) (by rw [sI_1, up_s]; rfl) (fun h2 c1 c2 c3 => ?_)
    have c0 : Chg (fun a k => (a = 82 ∧ k = 1) ∨ (a = 83 ∧ t ≤ k)) nR h (sI (sI h 83 t (I (md v m : Int))) 82 1 (I ((t : Int) + 1))) := (Chg.rf.i (Or.inr ⟨rfl, Nat.le_refl _⟩)).i (Or.inl ⟨rfl, rfl⟩)
    rw [show t + 1 + m = t + (m + 1) by omega] at c2 ⊢
    refine k h2 (c0.tr (c1.up (fun a k q => by omega) (fun _ _ q => q))) (by rw [c2]) (fun i hi => ?_)
    cases i with
    | zero =>
      rw [c1.1 _ _ (by omega), sI_o (by omega), sI_1, Nat.add_zero, up_s]
      congr 2
    | succ i =>
      have := c3 i (by omega)
      rw [show t + (i + 1) = t + 1 + i by omega, this]
      congr 3
      omega
theorem J_type (hI : Inv h) (x1 : Int64) (x3 : Int32) : JI g l mX7_type mX8_type h [.ref 0, .long x1, .int x3] [.ref 82, .long x1, .int x3] := by
  have hI2 := hI
  obtain ⟨s, v, R, M⟩ := hI
  obtain ⟨z, a1, a2, rfl⟩ := I_any x3
  have h4 := v.1.1
  have et := R.1.1.1
  have em := M.1.1.1
  have out : (z < 1 ∨ 8 < z) → SpI g l mX8_type h [.ref 82, .long x1, .int (I z)] (fun u h2 => u = I (-1) ∧ Inv h2) := fun c => sX8_type (fun X O => wp_in ⟨a1, a2⟩ ⟨by omega, by omega⟩ ⟨by omega, by omega⟩ (fun _ _ => by omega) (fun _ => nb_f y00 ⟨rfl, hI2⟩))
  refine sX7_type ?_
  simp (disch := omega) only [I_lt, I_le]
  refine ⟨fun q => out (Or.inl q), fun q => ⟨fun q2 => ?_, fun q2 => out (by omega)⟩⟩
  obtain ⟨m, rfl⟩ : ∃ n : Nat, z = n := ⟨z.toNat, by omega⟩
  refine sX5_add (fun X O => ?_)
  rw [et, I_sub, I_sub]
  simp (disch := omega) only [I_le]
  refine ⟨fun q3 => ?_, fun q3 => br_t y00 ?_⟩
  · refine lp_add O x1 m s.1.1 h (by omega) (by omega) et (fun h1 c1 c2 c3 => br_f n10 ?_)
    rw [c2]
    refine sX8_type (fun X O => wp_in ⟨a1, a2⟩ ⟨by omega, by omega⟩ ⟨by omega, by omega⟩ (fun _ _ => nb_t n10 ?_) (fun _ => by omega))
    have em1 : h1.1 82 1 = I (s.1.1 : Int) := by rw [c1.1 _ _ (by omega)]; exact em
    rw [em1, I_add, I_sub]
    refine br_t ((I_le (by omega) (by omega) (by omega) (by omega)).mpr (by omega)) ?_
    refine lp_mtype O x1 m s.1.1 h1 (by omega) (by omega) em1 (fun h2 d1 d2 d3 => ⟨rfl, ((s.1.1 + m, fun i => if i < s.1.1 then s.1.2 i else md x1 (m - 1 - (i - s.1.1))), s.2), ?_, ?_, ?_⟩)
    · refine ⟨⟨by show s.1.1 + m ≤ 400; omega, fun i => ?_⟩, v.2⟩
      show (if i < s.1.1 then s.1.2 i else md x1 (m - 1 - (i - s.1.1))) < 256
      by_cases hi : i < s.1.1
      · rw [if_pos hi]; exact v.1.2 i
      · rw [if_neg hi]; exact md_lt _ _
    · have e1 : Chg (fun a k => (a = 1 ∧ k = 1) ∨ (a = 2 ∧ s.1.1 ≤ k) ∨ 82 ≤ a) nR h h2 := (c1.up (fun a k q => by omega) (fun _ _ q => q)).tr (d1.up (fun a k q => by omega) (fun _ _ q => q))
      obtain ⟨⟨t, ⟨p, c⟩, ⟨b, b', bb⟩, u, i, tr⟩, ca⟩ := R
      refine ⟨⟨⟨by rw [d1.1 _ _ (by omega), c2], fun i hi => ?_⟩, ⟨p, atSH_c e1 v.2.1.1 (fun a k h1 h2 => by omega) (fun k => id) c⟩, ⟨b, b', rcB_c (s := s) e1 (fun a k h1 h2 => by omega) (fun k => id) bb⟩, fun j hj => by rw [e1.1 _ _ (by omega)]; exact u j hj, rcI_c (s := s) e1 v (fun a k h1 h2 => by omega) (fun a k hh => id) i, by rw [e1.2.2.1]; exact tr⟩, rcC_c (s := s) e1 (by omega) (by omega) (fun a k h1 h2 => by omega) ca⟩
      show h2.1 2 i = bI (if i < s.1.1 then s.1.2 i else md x1 (m - 1 - (i - s.1.1)))
      have hi : i < s.1.1 + m := hi
      by_cases hi2 : i < s.1.1
      · rw [if_pos hi2, e1.1 _ _ (by omega)]
        exact t.2 i hi2
      · rw [if_neg hi2, d1.1 _ _ (by omega)]
        have := c3 (i - s.1.1) (by omega)
        rw [show s.1.1 + (i - s.1.1) = i by omega] at this
        exact this
    · have e1 : Chg (fun a k => a < 82 ∨ (a = 82 ∧ k = 1) ∨ (a = 83 ∧ s.1.1 ≤ k)) nR h h2 := (c1.up (fun a k q => by omega) (fun _ _ q => q)).tr (d1.up (fun a k q => by omega) (fun _ _ q => q))
      obtain ⟨⟨t, c, b, u, i, tr⟩, ca⟩ := M
      refine RM_of ⟨d2, fun i hi => ?_⟩ (rmCh_c (s := s) e1 (by omega) (fun a k h1 h2 => by omega) c) (rmB_c (s := s) e1 (by omega) (fun a k h1 h2 => by omega) b) (fun j hj => by rw [e1.1 _ _ (by omega)]; exact u j hj) (rmI_c (s := s) e1 (fun a k h1 h2 => by omega) i) (by rw [e1.2.2.2]; exact tr) (rmC_c (s := s) e1 (by omega) (by omega) (by omega) (fun a k h1 h2 => by omega) ca)
      show h2.1 83 i = I ((if i < s.1.1 then s.1.2 i else md x1 (m - 1 - (i - s.1.1)) : Nat) : Int)
      have hi : i < s.1.1 + m := hi
      by_cases hi2 : i < s.1.1
      · rw [if_pos hi2, e1.1 _ _ (by omega)]
        exact t.2 i hi2
      · rw [if_neg hi2]
        have := d3 (i - s.1.1) (by omega)
        rw [show s.1.1 + (i - s.1.1) = i by omega] at this
        exact this
  · refine sX8_type (fun X O => wp_in ⟨a1, a2⟩ ⟨by omega, by omega⟩ ⟨by omega, by omega⟩ (fun _ _ => nb_t n10 ?_) (fun _ => by omega))
    rw [em, I_add]
    exact br_f (fun e => absurd ((I_le (by omega) (by omega) (by omega) (by omega)).mp e) (by omega)) ⟨rfl, hI2⟩
end TY
