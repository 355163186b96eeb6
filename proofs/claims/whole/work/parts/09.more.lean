/-! switches, arraycopy, tables and texts that were there before; making cells -/
section GX
variable {F : Fr} {Z : State → Prop} {w : Nat × Nat × Nat} {h : AH} {pc : Nat} {lv : List (Nat × Value)} {st : List Value} {own : String} {cc : ByteArray} {nL : Nat} {rm : Room} {rt : Option FieldType} {c i k a N n b : Nat} {C : String} {T : u_T}
theorem I_toInt {z : Int} (h1 : -2147483648 ≤ z) (h2 : z < 2147483648) : (I z).toInt = z := by
  unfold I
  exact Int32.toInt_ofInt_of_le (by simpa using h1) (by simpa using h2)
theorem I_of (x : Int32) : x = I x.toInt := by
  unfold I
  exact (Int32.ofInt_toInt x).symm
theorem g_tab (O : Ok F own cc nL rm rt) {dflt hi : Int} {offs : Array Int} {len : Nat} {x : Int32} (d : decode cc pc = .ok (.tableswitch dflt 0 hi offs, len)) (hn : offs.size = n) (hh : hi + 1 = (n : Int)) (hn1 : n ≤ 1000) (kin : ∀ j : Nat, j < n → x = I (j : Int) → ∃ tgt : Nat, (pc : Int) + offs.getD j 0 = (tgt : Int) ∧ Gd F Z w h tgt lv st) (kout : (∀ j : Nat, j < n → ¬ x = I (j : Int)) → ∃ tgt : Nat, (pc : Int) + dflt = (tgt : Int) ∧ Gd F Z w h tgt lv st) : Gd F Z w h pc lv (.int x :: st) := by
  intro H locs ls hw hS hl'
  by_cases hx : 0 ≤ x.toInt ∧ x.toInt < (n : Int)
  · obtain ⟨tgt, e1, e2⟩ := kin x.toInt.toNat (by omega) (by rw [Int.toNat_of_nonneg hx.1]; exact I_of x)
    have hlt : x.toInt.toNat < offs.size := by omega
    refine lv_tableIn (off := offs.getD x.toInt.toNat 0) O.1 O.2.1 d (by omega) (by omega) ?_ e1 (e2 H locs ls hw hS hl')
    rw [Int.sub_zero]
    generalize x.toInt.toNat = q at hlt
    rw [Array.getElem?_eq_getElem hlt, Array.getD_eq_getD_getElem?, Array.getElem?_eq_getElem hlt]
    rfl
  · obtain ⟨tgt, e1, e2⟩ := kout (fun j hj e => hx (by rw [e, I_toInt (by omega) (by omega)]; omega))
    exact lv_tableOut O.1 O.2.1 d (by omega) e1 (e2 H locs ls hw hS hl')
theorem g_look2 (O : Ok F own cc nL rm rt) {t0 t1 t2 : Nat} {dflt o0 o1 : Int} {len : Nat} {x : Int32} (d : decode cc pc = .ok (.lookupswitch dflt #[(0, o0), (1, o1)], len)) (e0 : (pc : Int) + o0 = (t0 : Int)) (e1 : (pc : Int) + o1 = (t1 : Int)) (e2 : (pc : Int) + dflt = (t2 : Int)) (k0 : x = I 0 → Gd F Z w h t0 lv st) (k1 : x = I 1 → Gd F Z w h t1 lv st) (k2 : ¬ x = I 0 → ¬ x = I 1 → Gd F Z w h t2 lv st) : Gd F Z w h pc lv (.int x :: st) := by
  intro H locs ls hw hS hl'
  by_cases h0 : x = I 0
  · refine lv_lookup O.1 O.2.1 d rfl (off := o0) ?_ e0 (k0 h0 H locs ls hw hS hl')
    subst h0
    rfl
  · by_cases h1 : x = I 1
    · refine lv_lookup O.1 O.2.1 d rfl (off := o1) ?_ e1 (k1 h1 H locs ls hw hS hl')
      subst h1
      rfl
    · refine lv_lookup O.1 O.2.1 d rfl (off := dflt) ?_ e2 (k2 h0 h1 H locs ls hw hS hl')
      show Op.lookupswitch.offset [(0, o0), (1, o1)] dflt x.toInt = dflt
      rw [lv_osw (k := I 0) h0 (by decide), lv_osw (k := I 1) h1 (by decide)]
      rfl
/-- the first n places of one row into another -/
def cpI (h : AH) (a b n : Nat) : AH := (up h.1 b (fun k => if k < n then h.1 a k else h.1 b k), h.2)
theorem ml_copy : Cond.methodLink RX1 49 arraycopyName ∈ Tb := tb_in 837 (by decide +kernel) rfl
theorem na_copy : Cond.native arraycopyName ∈ Tb := tb_in 839 (by decide +kernel) rfl
theorem sm_copy : Cond.static arraycopyName ∈ Tb := tb_in 838 (by decide +kernel) rfl
theorem in_sys : Cond.initialized "java/lang/System" ∈ Tb := tb_in 89 (by decide +kernel) rfl
theorem g_copy (O : Ok F RX1 cc nL rm rt) (d : decode cc pc = .ok (.invokestatic 49, 3)) (ha : lay a = (100, n)) (hb : lay b = (100, n)) (han : a < w.1) (hbn : b < w.1) (hn1 : w.1 ≤ 1000) (hN : n < 2 ^ 31) (hR : 1 ≤ rm.frames ∧ 26 ≤ rm.locals) (hst : (st.map fun v => v.category).sum ≤ 8) {x : Int32} (hx : x = I (n : Int)) (kk : Gd F Z w (cpI h a b n) (pc + 3) lv st) : Gd F Z w h pc lv (.int x :: .int (I 0) :: .ref b :: .int (I 0) :: .ref a :: st) := by
  subst hx
  intro H locs ls hw hS hl'
  have hK := okK O
  have z0 : (I 0).toNatClampNeg = 0 := I_cl (j := 0) (by decide)
  have zn : (I (n : Int)).toNatClampNeg = n := I_cl hN
  have p0 : ¬ I 0 < 0 := by decide
  have pn : ¬ I (n : Int) < 0 := by rw [I_nat]; exact nI_pos hN
  have t0 : (I 0).toInt = 0 := by decide
  have tn : (I (n : Int)).toInt = (n : Int) := by rw [I_nat]; exact nI_toInt hN
  have hc0 : H[fr F a]? = some (vp_cell ((fG F).2.2.2.1 0) (n, .inl (h.1 a))) := hw.1 a _ (wl_i ha han)
  have hc1 : H[fr F b]? = some (vp_cell ((fG F).2.2.2.1 0) (n, .inl (h.1 b))) := hw.1 b _ (wl_i hb hbn)
  intro Ts hT X
  obtain ⟨-, k0, hk0, cm0, hkk0⟩ := (hK.2 0 _ rfl).1 n (fun j => .int (h.1 a j))
  obtain ⟨-, k1, hk1, cm1, hkk1⟩ := (hK.2 0 _ rfl).1 n (fun j => .int (h.1 b j))
  obtain ⟨vm', X', step⟩ := X.arraycopy O.1 O.2.2.2.1 (okS O ml_copy) (okS O na_copy) (okS O sm_copy) (okS O in_sys) (src := fr F a) (dst := fr F b) (cs := vp_cell ((fG F).2.2.2.1 0) (n, .inl (h.1 a))) (cd := vp_cell ((fG F).2.2.2.1 0) (n, .inl (h.1 b))) (srcPos := I 0) (destPos := I 0) (n := I (n : Int)) (by rw [hT]; exact hc0) (by rw [hT]; exact hc1)
    (fun _ h => by cases h) (fun _ h => by cases h) (fun h => by cases h) (fun h => by cases h) hk0 hk1 hkk0 hkk1 (by simp [refKind]) p0 p0 pn
    (by rw [t0, tn]; show ¬ _ > ((arrV _ n (fun j => .int (h.1 a j))).slots.size : Int); rw [arrV_size]; omega)
    (by rw [t0, tn]; show ¬ _ > ((arrV _ n (fun j => .int (h.1 b j))).slots.size : Int); rw [arrV_size]; omega)
    (fun vm₁ _ i hi => by
      rw [zn] at hi
      have e : (vp_cell ((fG F).2.2.2.1 0) (n, .inl (h.1 a))).slots.getD ((I 0).toNatClampNeg + i) .null = .int (h.1 a ((I 0).toNatClampNeg + i)) := by
        show (arrV _ n (fun j => .int (h.1 a j))).slots.getD _ _ = _
        rw [Array.getD_eq_getD_getElem?, arrV_read _ _ (by omega)]
        rfl
      refine ⟨?_, ?_⟩
      · rw [e]
        rfl
      · rw [e]
        exact trivial)
    (g := F0 (fm F) pc ls ((.int (I (n : Int)) :: .int (I 0) :: .ref b :: .int (I 0) :: .ref a :: st).map (cv (fr F)))) rfl (by rw [O.2.2.1]; exact hl'.1) (rest := st.map (cv (fr F))) rfl (by rw [O.2.1]; exact d) (by rw [O.2.2.2.2.2.2.2.2.2.2.1]; exact hR.1) (by show 2 * 0 + _ + (7 + 11) ≤ _; rw [cat_cv, O.2.2.2.2.2.2.2.2.2.2.1]; omega)
  have e1 : copied (vp_cell ((fG F).2.2.2.1 0) (n, .inl (h.1 a))) (vp_cell ((fG F).2.2.2.1 0) (n, .inl (h.1 b))) (I 0) (I 0) (I (n : Int)) = vp_cell ((fG F).2.2.2.1 0) (n, .inl (va_cpy (h.1 a) (h.1 b) (I 0).toNatClampNeg (I 0).toNatClampNeg (I (n : Int)).toNatClampNeg)) := va_copied (fun z => .int z) _ _ (h.1 a) (h.1 b) (by rw [z0, zn]; omega)
  rw [e1, z0, zn] at X' step
  have e2 : va_cpy (h.1 a) (h.1 b) 0 0 n = fun k => if k < n then h.1 a k else h.1 b k := by
    funext q
    simp [va_cpy]
  rw [e2] at X' step
  generalize hH1 : H.setIfInBounds (fr F b) (vp_cell ((fG F).2.2.2.1 0) (n, .inl (fun k => if k < n then h.1 a k else h.1 b k))) = H1
  have hl : fr F b < H.size := (Array.getElem?_eq_some_iff.mp hc1).1
  have hheap : ((Ts.setVm vm').setCell (fr F b) (vp_cell ((fG F).2.2.2.1 0) (n, .inl (fun k => if k < n then h.1 a k else h.1 b k)))).heap = H1 := by rw [← hH1, ← hT]; rfl
  have oq : ∀ q : Nat, q ≠ fr F b → H1[q]? = H[q]? := fun q hq => by rw [← hH1]; simp [Array.getElem?_setIfInBounds, Ne.symm hq]
  have zz : H1.size = H.size := by rw [← hH1]; simp
  have hw1 : wd (fG F) w.1 (cpI h a b n) H1 := by
    refine wd_setn (lay_31 hb (by decide)) (okE O) hn1 hw hbn ?_ zz oq (fun q hq => ce_congr (by show up h.1 b _ q = _; rw [up_n hq]) rfl rfl (fun _ => rfl)) (tT_of (fun _ _ => rfl) hw.2.2.2)
    rw [ce_i hb]
    show H1[fr F b]? = some (vp_cell _ _)
    rw [← hH1]
    have : (cpI h a b n).1 b = fun k => if k < n then h.1 a k else h.1 b k := by show up h.1 b _ b = _; rw [up_s]
    rw [this]
    simp [Array.getElem?_setIfInBounds, hl]
  obtain ⟨t, a1, b1⟩ := kk H1 _ ls hw1 ⟨by rw [zz]; exact hS.1, fun q g1 g2 => by
      rw [oq q (fun e => g2 (by rw [e]; exact aA_at O (by omega)))]
      exact hS.2.1 q g1 g2, fun q hq => by
      rcases List.mem_append.mp hq with h | h
      · exact hS.2.2 q h
      · obtain ⟨z, -, hz⟩ := List.mem_map.mp h
        rw [← hz]
        exact aA_at O (by omega)⟩ hl' _ hheap X'
  exact ⟨t, step t a1, b1⟩
/-! tables and texts -/
theorem okH (O : Ok F own cc nL rm rt) : ∀ q : Nat, q < (fG F).1.heap.size → ¬ aA (fG F) q → (fs F).heap[q]? = (fG F).1.heap[q]? := fun q hq _ => O.2.2.2.2.2.2.2.2.1 q hq
theorem okX (O : Ok F own cc nL rm rt) : Ext (fG F) := (okE O).2.2.1
theorem ft_144 : Cond.fieldLink RX7 144 RX7 "TUNE_LOW" "[I" ∈ Tb := tb_in 635 (by decide +kernel) rfl
theorem ft_147 : Cond.fieldLink RX7 147 RX7 "TUNE_HIGH" "[I" ∈ Tb := tb_in 637 (by decide +kernel) rfl
theorem fs_9 : Cond.fieldLink "java/lang/String" 9 "java/lang/String" "value" "[B" ∈ Tb := tb_in 1253 (by decide +kernel) rfl
theorem fs_15 : Cond.fieldLink "java/lang/String" 15 "java/lang/String" "coder" "B" ∈ Tb := tb_in 1254 (by decide +kernel) rfl
theorem fs_38 : Cond.fieldLink "java/lang/String" 38 "java/lang/String" "COMPACT_STRINGS" "Z" ∈ Tb := tb_in 449 (by decide +kernel) rfl
theorem fs_1053 : Cond.fieldLink "java/lang/String" 1053 "jdk/internal/util/Preconditions" "SIOOBE_FORMATTER" "Ljava/util/function/BiFunction;" ∈ Tb := tb_in 465 (by decide +kernel) rfl
theorem g_gets1001 (O : Ok F RX7 cc nL rm rt) (d : decode cc pc = .ok (.getstatic 144, 3)) (kk : Gd F Z w h (pc + 3) lv (.ref 1001 :: st)) : Gd F Z w h pc lv st := fun H locs ls hw hS hl' =>
  va_gets O.1 O.2.1 (((okX O).2.2.1.1.moved O.2.2.2.2.2.1.alike).kept (okH O)) hS O.2.2.2.1 (okS O ft_144) (fun _ x => x) d (kk H locs ls hw hS hl')
theorem g_gets1002 (O : Ok F RX7 cc nL rm rt) (d : decode cc pc = .ok (.getstatic 147, 3)) (kk : Gd F Z w h (pc + 3) lv (.ref 1002 :: st)) : Gd F Z w h pc lv st := fun H locs ls hw hS hl' =>
  va_gets O.1 O.2.1 (((okX O).2.2.2.1.1.moved O.2.2.2.2.2.1.alike).kept (okH O)) hS O.2.2.2.1 (okS O ft_147) (fun _ x => x) d (kk H locs ls hw hS hl')
theorem g_tald1001 (O : Ok F own cc nL rm rt) (d : decode cc pc = .ok (.iaload, 1)) {x : Int32} {j : Nat} (e : x = I (j : Int)) (hj : j < 5) (kk : Gd F Z w h (pc + 1) lv (.int (tuLo.getD j 0) :: st)) : Gd F Z w h pc lv (.int x :: .ref 1001 :: st) := by
  subst e
  intro H locs ls hw hS hl'
  refine va_ti O.1 O.2.1 (((okX O).2.2.1.2.moved O.2.2.2.2.2.1.alike).kept (okH O)) hS (I_in hj (by omega)) (v := .int (tuLo.getD j 0)) (by rw [I_cl (by omega)]) d (kk H locs ls hw hS hl')
theorem g_tald1002 (O : Ok F own cc nL rm rt) (d : decode cc pc = .ok (.iaload, 1)) {x : Int32} {j : Nat} (e : x = I (j : Int)) (hj : j < 5) (kk : Gd F Z w h (pc + 1) lv (.int (tuHi.getD j 0) :: st)) : Gd F Z w h pc lv (.int x :: .ref 1002 :: st) := by
  subst e
  intro H locs ls hw hS hl'
  refine va_ti O.1 O.2.1 (((okX O).2.2.2.1.2.moved O.2.2.2.2.2.1.alike).kept (okH O)) hS (I_in hj (by omega)) (v := .int (tuHi.getD j 0)) (by rw [I_cl (by omega)]) d (kk H locs ls hw hS hl')
theorem okV (O : Ok F own cc nL rm rt) : vk_S 5 txL txB (fun i => fr F (1010 + i)) (fun i => fr F (1020 + i)) (aA (fG F)) (fs F) (fs F).heap := ((okX O).1.moved O.2.2.2.2.2.1.alike).kept (okH O)
theorem g_ldcS0 (O : Ok F RX5 cc nL rm rt) (d : decode cc pc = .ok (.ldc 65, 2)) (kk : Gd F Z w h (pc + 2) lv (.ref 1010 :: st)) : Gd F Z w h pc lv st := fun H locs ls hw hS hl' => va_ldcS O.1 O.2.1 O.2.2.2.1 ((okX O).2.1.1.warm O.2.2.2.2.2.1) d (kk H locs ls hw hS hl')
theorem g_ldcS1 (O : Ok F RX5 cc nL rm rt) (d : decode cc pc = .ok (.ldc 71, 2)) (kk : Gd F Z w h (pc + 2) lv (.ref 1011 :: st)) : Gd F Z w h pc lv st := fun H locs ls hw hS hl' => va_ldcS O.1 O.2.1 O.2.2.2.1 ((okX O).2.1.2.1.warm O.2.2.2.2.2.1) d (kk H locs ls hw hS hl')
theorem g_ldcS2 (O : Ok F RX5 cc nL rm rt) (d : decode cc pc = .ok (.ldc 73, 2)) (kk : Gd F Z w h (pc + 2) lv (.ref 1012 :: st)) : Gd F Z w h pc lv st := fun H locs ls hw hS hl' => va_ldcS O.1 O.2.1 O.2.2.2.1 ((okX O).2.1.2.2.1.warm O.2.2.2.2.2.1) d (kk H locs ls hw hS hl')
theorem g_ldcS3 (O : Ok F RX5 cc nL rm rt) (d : decode cc pc = .ok (.ldc 75, 2)) (kk : Gd F Z w h (pc + 2) lv (.ref 1013 :: st)) : Gd F Z w h pc lv st := fun H locs ls hw hS hl' => va_ldcS O.1 O.2.1 O.2.2.2.1 ((okX O).2.1.2.2.2.1.warm O.2.2.2.2.2.1) d (kk H locs ls hw hS hl')
theorem g_ldcS4 (O : Ok F RX5 cc nL rm rt) (d : decode cc pc = .ok (.ldc 77, 2)) (kk : Gd F Z w h (pc + 2) lv (.ref 1014 :: st)) : Gd F Z w h pc lv st := fun H locs ls hw hS hl' => va_ldcS O.1 O.2.1 O.2.2.2.1 ((okX O).2.1.2.2.2.2.warm O.2.2.2.2.2.1) d (kk H locs ls hw hS hl')
theorem g_strC (O : Ok F "java/lang/String" cc nL rm rt) (hi : i < 5) (hl : Cond.fieldLink "java/lang/String" k "java/lang/String" "coder" "B" ∈ Tb) (d : decode cc pc = .ok (.getfield k, 3)) (kk : Gd F Z w h (pc + 3) lv (.int (I 0) :: st)) : Gd F Z w h pc lv (.ref (1010 + i) :: st) := fun H locs ls hw hS hl' =>
  vk_getf O.1 O.2.1 ((okV O).1 i hi).2.1 hS O.2.2.2.1 (okS O hl) (fun _ x => x) d (by rw [show (0 : Int32) = I 0 by decide]; exact kk H locs ls hw hS hl')
theorem g_strV (O : Ok F "java/lang/String" cc nL rm rt) (hi : i < 5) (hl : Cond.fieldLink "java/lang/String" k "java/lang/String" "value" "[B" ∈ Tb) (d : decode cc pc = .ok (.getfield k, 3)) (kk : Gd F Z w h (pc + 3) lv (.ref (1020 + i) :: st)) : Gd F Z w h pc lv (.ref (1010 + i) :: st) := fun H locs ls hw hS hl' =>
  vk_getf O.1 O.2.1 ((okV O).1 i hi).2.2.1 hS O.2.2.2.1 (okS O hl) (fun _ x => x) d (kk H locs ls hw hS hl')
theorem g_strL (O : Ok F own cc nL rm rt) (hi : i < 5) (d : decode cc pc = .ok (.arraylength, 1)) (kk : Gd F Z w h (pc + 1) lv (.int (I (txL.getD i 0 : Nat)) :: st)) : Gd F Z w h pc lv (.ref (1020 + i) :: st) := fun H locs ls hw hS hl' =>
  va_tlen O.1 O.2.1 ((okV O).1 i hi).2.2.2 hS (I_nat _).symm d (kk H locs ls hw hS hl')
theorem tx_len {i : Nat} (hi : i < 5) : txL.getD i 0 ≤ 5 := by
  rcases (show i = 0 ∨ i = 1 ∨ i = 2 ∨ i = 3 ∨ i = 4 by omega) with rfl | rfl | rfl | rfl | rfl <;> decide
theorem g_strA (O : Ok F own cc nL rm rt) (d : decode cc pc = .ok (.baload, 1)) (hi : i < 5) {x : Int32} {j : Nat} (e : x = I (j : Int)) (hj : j < txL.getD i 0) (kk : Gd F Z w h (pc + 1) lv (.int ((txB.getD i []).getD j 0) :: st)) : Gd F Z w h pc lv (.int x :: .ref (1020 + i) :: st) := by
  subst e
  intro H locs ls hw hS hl'
  have := tx_len hi
  refine va_tb O.1 O.2.1 ((okV O).1 i hi).2.2.2 hS (I_in hj (by omega)) (v := .int ((txB.getD i []).getD j 0)) (by rw [I_cl (by omega)]) d (kk H locs ls hw hS hl')
theorem g_getsC (O : Ok F "java/lang/String" cc nL rm rt) (d : decode cc pc = .ok (.getstatic 38, 3)) (kk : Gd F Z w h (pc + 3) lv (.int (I 1) :: st)) : Gd F Z w h pc lv st := fun H locs ls hw hS hl' =>
  va_gets O.1 O.2.1 (((okX O).2.2.2.2.1.moved O.2.2.2.2.2.1.alike).kept (okH O)) hS O.2.2.2.1 (okS O fs_38) (fun _ x => x) d (by rw [show (1 : Int32) = I 1 by decide]; exact kk H locs ls hw hS hl')
theorem g_getsF (O : Ok F "java/lang/String" cc nL rm rt) (d : decode cc pc = .ok (.getstatic 1053, 3)) (k0 : Gd F Z w h (pc + 3) lv (.null :: st)) (k1 : Gd F Z w h (pc + 3) lv (.ref 1030 :: st)) : Gd F Z w h pc lv st := by
  intro H locs ls hw hS hl'
  rcases (okX O).2.2.2.2.2 with q | q
  · exact va_gets O.1 O.2.1 ((q.moved O.2.2.2.2.2.1.alike).kept (okH O)) hS O.2.2.2.1 (okS O fs_1053) (fun _ x => x) d (k0 H locs ls hw hS hl')
  · exact va_gets O.1 O.2.1 ((q.moved O.2.2.2.2.2.1.alike).kept (okH O)) hS O.2.2.2.1 (okS O fs_1053) (fun _ x => x) d (k1 H locs ls hw hS hl')
end GX
section GXS
variable {g : mg} {l : Launch} {X : XT} {Z : State → Prop} {h : AH} {pc : Nat} {lv : List (Nat × Value)} {st0 : List Value} {own : String} {cc : ByteArray} {nL : Nat} {rm : Room} {rt : Option FieldType} {i k n : Nat} {M : MD}
theorem g_xI (av : List Value) (st : List Value) (O : Ok (FF g l X) own cc nL rm rt) (hM : Mk M n) (hl : Cond.methodLink own i M.1 ∈ Tb) (hi : Cond.instanceMethod M.1 ∈ Tb) (hs : Cond.selects M.1.cls M.1 M.1 ∈ Tb) (hc : M.1.cls = "java/lang/String") (hk : k < 5) (hr : Rm M rm) (hn : av.length = n) (hW : (st.map fun v => v.category).sum ≤ 8) (d : decode cc pc = .ok (.invokevirtual i, 3)) {Q : Int32 → AH → Prop} (S : SpI g l M h (.ref (1010 + k) :: av) Q) (hst : st0 = av.reverse ++ .ref (1010 + k) :: st) (kk : ∀ v h', Q v h' → Gd (FF g l X) Z (WR X) h' (pc + 3) lv (.int v :: st)) : Gd (FF g l X) Z (WR X) h pc lv st0 := by
  subst hst
  intro H locs ls hw hS hl'
  have hrv : ∃ cellB : Cell, H[fr (FF g l X) (1010 + k)]? = some cellB ∧ cellB.vm.isStatics = false ∧ (fs (FF g l X)).vm.findClass M.1.cls = some cellB.cls := by rw [hc]; exact vk_recv (i := k) (adK := fun i => fr (FF g l X) (1010 + i)) (okV O) hk hS
  refine g_back (F := FF g l X) (w := WR X) (n2 := 118) (h := h) (mc := 0) (ms := 0) (st := st) O hw hS hl' (va_runV (As := av.map (cv (fr (FF g l X)))) (b := fr (FF g l X) (1010 + k)) (C := M.1.cls) ⟨O.1, O.2.1, O.2.2.1, O.2.2.2.1, O.2.2.2.2.1⟩ (Spec.mono (sp_0 hr S) (qI_k kk)) ⟨mk_cb O hM hl hr, okS O hi, okS O hs⟩ ⟨pc_blind, hrv, pc_at (av := .ref (1010 + k) :: av) O hw⟩ rfl (by rw [List.length_map]; exact hn) hl'.1 ?_ (lv_room (by rw [cat_cv]; exact hW)) d (by rw [O.2.2.2.2.2.2.2.2.2.2.1]; exact okR O))
  show ((av.reverse ++ .ref (1010 + k) :: st).map (cv (fr (FF g l X)))) = _
  rw [List.map_append, List.map_reverse]
  rfl
end GXS
