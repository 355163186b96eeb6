/-! printed by gen.py: what each stretch of code asks for (H) to come to its end, and its walk -/
set_option maxRecDepth 20000 in
set_option maxHeartbeats 2000000 in
theorem bJ6_bitCount_0f7a4_0 {g : mg} {l : Launch} {X : XT} {Q : Int32 → AH → Prop} (O : Ok (FF g l X) RJ6 cJ6_bitCount_0f7a4 1 mJ6_bitCount_0f7a4.2.2.2.2 (some .int)) {x0 : Int32} {h : AH} (H : Q ((((((((x0 - (((x0).toUInt32 >>> (((I 1)).toUInt32 &&& Int32.toUInt32 31)).toInt32 &&& (1431655765))) &&& (858993459)) + ((((x0 - (((x0).toUInt32 >>> (((I 1)).toUInt32 &&& Int32.toUInt32 31)).toInt32 &&& (1431655765)))).toUInt32 >>> (((I 2)).toUInt32 &&& Int32.toUInt32 31)).toInt32 &&& (858993459))) + (((((x0 - (((x0).toUInt32 >>> (((I 1)).toUInt32 &&& Int32.toUInt32 31)).toInt32 &&& (1431655765))) &&& (858993459)) + ((((x0 - (((x0).toUInt32 >>> (((I 1)).toUInt32 &&& Int32.toUInt32 31)).toInt32 &&& (1431655765)))).toUInt32 >>> (((I 2)).toUInt32 &&& Int32.toUInt32 31)).toInt32 &&& (858993459)))).toUInt32 >>> (((I 4)).toUInt32 &&& Int32.toUInt32 31)).toInt32) &&& (252645135)) + (((((((x0 - (((x0).toUInt32 >>> (((I 1)).toUInt32 &&& Int32.toUInt32 31)).toInt32 &&& (1431655765))) &&& (858993459)) + ((((x0 - (((x0).toUInt32 >>> (((I 1)).toUInt32 &&& Int32.toUInt32 31)).toInt32 &&& (1431655765)))).toUInt32 >>> (((I 2)).toUInt32 &&& Int32.toUInt32 31)).toInt32 &&& (858993459))) + (((((x0 - (((x0).toUInt32 >>> (((I 1)).toUInt32 &&& Int32.toUInt32 31)).toInt32 &&& (1431655765))) &&& (858993459)) + ((((x0 - (((x0).toUInt32 >>> (((I 1)).toUInt32 &&& Int32.toUInt32 31)).toInt32 &&& (1431655765)))).toUInt32 >>> (((I 2)).toUInt32 &&& Int32.toUInt32 31)).toInt32 &&& (858993459)))).toUInt32 >>> (((I 4)).toUInt32 &&& Int32.toUInt32 31)).toInt32) &&& (252645135))).toUInt32 >>> (((I 8)).toUInt32 &&& Int32.toUInt32 31)).toInt32) + ((((((((x0 - (((x0).toUInt32 >>> (((I 1)).toUInt32 &&& Int32.toUInt32 31)).toInt32 &&& (1431655765))) &&& (858993459)) + ((((x0 - (((x0).toUInt32 >>> (((I 1)).toUInt32 &&& Int32.toUInt32 31)).toInt32 &&& (1431655765)))).toUInt32 >>> (((I 2)).toUInt32 &&& Int32.toUInt32 31)).toInt32 &&& (858993459))) + (((((x0 - (((x0).toUInt32 >>> (((I 1)).toUInt32 &&& Int32.toUInt32 31)).toInt32 &&& (1431655765))) &&& (858993459)) + ((((x0 - (((x0).toUInt32 >>> (((I 1)).toUInt32 &&& Int32.toUInt32 31)).toInt32 &&& (1431655765)))).toUInt32 >>> (((I 2)).toUInt32 &&& Int32.toUInt32 31)).toInt32 &&& (858993459)))).toUInt32 >>> (((I 4)).toUInt32 &&& Int32.toUInt32 31)).toInt32) &&& (252645135)) + (((((((x0 - (((x0).toUInt32 >>> (((I 1)).toUInt32 &&& Int32.toUInt32 31)).toInt32 &&& (1431655765))) &&& (858993459)) + ((((x0 - (((x0).toUInt32 >>> (((I 1)).toUInt32 &&& Int32.toUInt32 31)).toInt32 &&& (1431655765)))).toUInt32 >>> (((I 2)).toUInt32 &&& Int32.toUInt32 31)).toInt32 &&& (858993459))) + (((((x0 - (((x0).toUInt32 >>> (((I 1)).toUInt32 &&& Int32.toUInt32 31)).toInt32 &&& (1431655765))) &&& (858993459)) + ((((x0 - (((x0).toUInt32 >>> (((I 1)).toUInt32 &&& Int32.toUInt32 31)).toInt32 &&& (1431655765)))).toUInt32 >>> (((I 2)).toUInt32 &&& Int32.toUInt32 31)).toInt32 &&& (858993459)))).toUInt32 >>> (((I 4)).toUInt32 &&& Int32.toUInt32 31)).toInt32) &&& (252645135))).toUInt32 >>> (((I 8)).toUInt32 &&& Int32.toUInt32 31)).toInt32)).toUInt32 >>> (((I 16)).toUInt32 &&& Int32.toUInt32 31)).toInt32) &&& (I 63)) h) : GI g l X Q h 0 [(0, .int x0)] [] := by
  refine g_iloadn (pc := 0) O rfl dJ6_bitCount_0f7a4_0 ?_
  refine g_iloadn (pc := 1) O rfl dJ6_bitCount_0f7a4_1 ?_
  refine g_iconst (v := (I 1)) (pc := 2) O rfl dJ6_bitCount_0f7a4_2 ?_
  refine g_iushr (pc := 3) O dJ6_bitCount_0f7a4_3 ?_
  refine g_ldcw (pc := 4) O co_J6_265 dJ6_bitCount_0f7a4_4 ?_
  refine g_iand (pc := 7) O dJ6_bitCount_0f7a4_7 ?_
  refine g_isub (pc := 8) O dJ6_bitCount_0f7a4_8 ?_
  refine g_istoren (lv' := [(0, .int (x0 - (((x0).toUInt32 >>> (((I 1)).toUInt32 &&& Int32.toUInt32 31)).toInt32 &&& (1431655765))))]) (pc := 9) O dJ6_bitCount_0f7a4_9 rfl (ltb rfl) rfl ?_
  refine g_iloadn (pc := 10) O rfl dJ6_bitCount_0f7a4_10 ?_
  refine g_ldcw (pc := 11) O co_J6_266 dJ6_bitCount_0f7a4_11 ?_
  refine g_iand (pc := 14) O dJ6_bitCount_0f7a4_14 ?_
  refine g_iloadn (pc := 15) O rfl dJ6_bitCount_0f7a4_15 ?_
  refine g_iconst (v := (I 2)) (pc := 16) O rfl dJ6_bitCount_0f7a4_16 ?_
  refine g_iushr (pc := 17) O dJ6_bitCount_0f7a4_17 ?_
  refine g_ldcw (pc := 18) O co_J6_266 dJ6_bitCount_0f7a4_18 ?_
  refine g_iand (pc := 21) O dJ6_bitCount_0f7a4_21 ?_
  refine g_iadd (pc := 22) O dJ6_bitCount_0f7a4_22 ?_
  refine g_istoren (lv' := [(0, .int (((x0 - (((x0).toUInt32 >>> (((I 1)).toUInt32 &&& Int32.toUInt32 31)).toInt32 &&& (1431655765))) &&& (858993459)) + ((((x0 - (((x0).toUInt32 >>> (((I 1)).toUInt32 &&& Int32.toUInt32 31)).toInt32 &&& (1431655765)))).toUInt32 >>> (((I 2)).toUInt32 &&& Int32.toUInt32 31)).toInt32 &&& (858993459))))]) (pc := 23) O dJ6_bitCount_0f7a4_23 rfl (ltb rfl) rfl ?_
  refine g_iloadn (pc := 24) O rfl dJ6_bitCount_0f7a4_24 ?_
  refine g_iloadn (pc := 25) O rfl dJ6_bitCount_0f7a4_25 ?_
  refine g_iconst (v := (I 4)) (pc := 26) O rfl dJ6_bitCount_0f7a4_26 ?_
  refine g_iushr (pc := 27) O dJ6_bitCount_0f7a4_27 ?_
  refine g_iadd (pc := 28) O dJ6_bitCount_0f7a4_28 ?_
  refine g_ldcw (pc := 29) O co_J6_267 dJ6_bitCount_0f7a4_29 ?_
  refine g_iand (pc := 32) O dJ6_bitCount_0f7a4_32 ?_
  refine g_istoren (lv' := [(0, .int (((((x0 - (((x0).toUInt32 >>> (((I 1)).toUInt32 &&& Int32.toUInt32 31)).toInt32 &&& (1431655765))) &&& (858993459)) + ((((x0 - (((x0).toUInt32 >>> (((I 1)).toUInt32 &&& Int32.toUInt32 31)).toInt32 &&& (1431655765)))).toUInt32 >>> (((I 2)).toUInt32 &&& Int32.toUInt32 31)).toInt32 &&& (858993459))) + (((((x0 - (((x0).toUInt32 >>> (((I 1)).toUInt32 &&& Int32.toUInt32 31)).toInt32 &&& (1431655765))) &&& (858993459)) + ((((x0 - (((x0).toUInt32 >>> (((I 1)).toUInt32 &&& Int32.toUInt32 31)).toInt32 &&& (1431655765)))).toUInt32 >>> (((I 2)).toUInt32 &&& Int32.toUInt32 31)).toInt32 &&& (858993459)))).toUInt32 >>> (((I 4)).toUInt32 &&& Int32.toUInt32 31)).toInt32) &&& (252645135)))]) (pc := 33) O dJ6_bitCount_0f7a4_33 rfl (ltb rfl) rfl ?_
  refine g_iloadn (pc := 34) O rfl dJ6_bitCount_0f7a4_34 ?_
  refine g_iloadn (pc := 35) O rfl dJ6_bitCount_0f7a4_35 ?_
  refine g_bipush (v := (I 8)) (pc := 36) O (by decide) dJ6_bitCount_0f7a4_36 ?_
  refine g_iushr (pc := 38) O dJ6_bitCount_0f7a4_38 ?_
  refine g_iadd (pc := 39) O dJ6_bitCount_0f7a4_39 ?_
  refine g_istoren (lv' := [(0, .int ((((((x0 - (((x0).toUInt32 >>> (((I 1)).toUInt32 &&& Int32.toUInt32 31)).toInt32 &&& (1431655765))) &&& (858993459)) + ((((x0 - (((x0).toUInt32 >>> (((I 1)).toUInt32 &&& Int32.toUInt32 31)).toInt32 &&& (1431655765)))).toUInt32 >>> (((I 2)).toUInt32 &&& Int32.toUInt32 31)).toInt32 &&& (858993459))) + (((((x0 - (((x0).toUInt32 >>> (((I 1)).toUInt32 &&& Int32.toUInt32 31)).toInt32 &&& (1431655765))) &&& (858993459)) + ((((x0 - (((x0).toUInt32 >>> (((I 1)).toUInt32 &&& Int32.toUInt32 31)).toInt32 &&& (1431655765)))).toUInt32 >>> (((I 2)).toUInt32 &&& Int32.toUInt32 31)).toInt32 &&& (858993459)))).toUInt32 >>> (((I 4)).toUInt32 &&& Int32.toUInt32 31)).toInt32) &&& (252645135)) + (((((((x0 - (((x0).toUInt32 >>> (((I 1)).toUInt32 &&& Int32.toUInt32 31)).toInt32 &&& (1431655765))) &&& (858993459)) + ((((x0 - (((x0).toUInt32 >>> (((I 1)).toUInt32 &&& Int32.toUInt32 31)).toInt32 &&& (1431655765)))).toUInt32 >>> (((I 2)).toUInt32 &&& Int32.toUInt32 31)).toInt32 &&& (858993459))) + (((((x0 - (((x0).toUInt32 >>> (((I 1)).toUInt32 &&& Int32.toUInt32 31)).toInt32 &&& (1431655765))) &&& (858993459)) + ((((x0 - (((x0).toUInt32 >>> (((I 1)).toUInt32 &&& Int32.toUInt32 31)).toInt32 &&& (1431655765)))).toUInt32 >>> (((I 2)).toUInt32 &&& Int32.toUInt32 31)).toInt32 &&& (858993459)))).toUInt32 >>> (((I 4)).toUInt32 &&& Int32.toUInt32 31)).toInt32) &&& (252645135))).toUInt32 >>> (((I 8)).toUInt32 &&& Int32.toUInt32 31)).toInt32))]) (pc := 40) O dJ6_bitCount_0f7a4_40 rfl (ltb rfl) rfl ?_
  refine g_iloadn (pc := 41) O rfl dJ6_bitCount_0f7a4_41 ?_
  refine g_iloadn (pc := 42) O rfl dJ6_bitCount_0f7a4_42 ?_
  refine g_bipush (v := (I 16)) (pc := 43) O (by decide) dJ6_bitCount_0f7a4_43 ?_
  refine g_iushr (pc := 45) O dJ6_bitCount_0f7a4_45 ?_
  refine g_iadd (pc := 46) O dJ6_bitCount_0f7a4_46 ?_
  refine g_istoren (lv' := [(0, .int (((((((x0 - (((x0).toUInt32 >>> (((I 1)).toUInt32 &&& Int32.toUInt32 31)).toInt32 &&& (1431655765))) &&& (858993459)) + ((((x0 - (((x0).toUInt32 >>> (((I 1)).toUInt32 &&& Int32.toUInt32 31)).toInt32 &&& (1431655765)))).toUInt32 >>> (((I 2)).toUInt32 &&& Int32.toUInt32 31)).toInt32 &&& (858993459))) + (((((x0 - (((x0).toUInt32 >>> (((I 1)).toUInt32 &&& Int32.toUInt32 31)).toInt32 &&& (1431655765))) &&& (858993459)) + ((((x0 - (((x0).toUInt32 >>> (((I 1)).toUInt32 &&& Int32.toUInt32 31)).toInt32 &&& (1431655765)))).toUInt32 >>> (((I 2)).toUInt32 &&& Int32.toUInt32 31)).toInt32 &&& (858993459)))).toUInt32 >>> (((I 4)).toUInt32 &&& Int32.toUInt32 31)).toInt32) &&& (252645135)) + (((((((x0 - (((x0).toUInt32 >>> (((I 1)).toUInt32 &&& Int32.toUInt32 31)).toInt32 &&& (1431655765))) &&& (858993459)) + ((((x0 - (((x0).toUInt32 >>> (((I 1)).toUInt32 &&& Int32.toUInt32 31)).toInt32 &&& (1431655765)))).toUInt32 >>> (((I 2)).toUInt32 &&& Int32.toUInt32 31)).toInt32 &&& (858993459))) + (((((x0 - (((x0).toUInt32 >>> (((I 1)).toUInt32 &&& Int32.toUInt32 31)).toInt32 &&& (1431655765))) &&& (858993459)) + ((((x0 - (((x0).toUInt32 >>> (((I 1)).toUInt32 &&& Int32.toUInt32 31)).toInt32 &&& (1431655765)))).toUInt32 >>> (((I 2)).toUInt32 &&& Int32.toUInt32 31)).toInt32 &&& (858993459)))).toUInt32 >>> (((I 4)).toUInt32 &&& Int32.toUInt32 31)).toInt32) &&& (252645135))).toUInt32 >>> (((I 8)).toUInt32 &&& Int32.toUInt32 31)).toInt32) + ((((((((x0 - (((x0).toUInt32 >>> (((I 1)).toUInt32 &&& Int32.toUInt32 31)).toInt32 &&& (1431655765))) &&& (858993459)) + ((((x0 - (((x0).toUInt32 >>> (((I 1)).toUInt32 &&& Int32.toUInt32 31)).toInt32 &&& (1431655765)))).toUInt32 >>> (((I 2)).toUInt32 &&& Int32.toUInt32 31)).toInt32 &&& (858993459))) + (((((x0 - (((x0).toUInt32 >>> (((I 1)).toUInt32 &&& Int32.toUInt32 31)).toInt32 &&& (1431655765))) &&& (858993459)) + ((((x0 - (((x0).toUInt32 >>> (((I 1)).toUInt32 &&& Int32.toUInt32 31)).toInt32 &&& (1431655765)))).toUInt32 >>> (((I 2)).toUInt32 &&& Int32.toUInt32 31)).toInt32 &&& (858993459)))).toUInt32 >>> (((I 4)).toUInt32 &&& Int32.toUInt32 31)).toInt32) &&& (252645135)) + (((((((x0 - (((x0).toUInt32 >>> (((I 1)).toUInt32 &&& Int32.toUInt32 31)).toInt32 &&& (1431655765))) &&& (858993459)) + ((((x0 - (((x0).toUInt32 >>> (((I 1)).toUInt32 &&& Int32.toUInt32 31)).toInt32 &&& (1431655765)))).toUInt32 >>> (((I 2)).toUInt32 &&& Int32.toUInt32 31)).toInt32 &&& (858993459))) + (((((x0 - (((x0).toUInt32 >>> (((I 1)).toUInt32 &&& Int32.toUInt32 31)).toInt32 &&& (1431655765))) &&& (858993459)) + ((((x0 - (((x0).toUInt32 >>> (((I 1)).toUInt32 &&& Int32.toUInt32 31)).toInt32 &&& (1431655765)))).toUInt32 >>> (((I 2)).toUInt32 &&& Int32.toUInt32 31)).toInt32 &&& (858993459)))).toUInt32 >>> (((I 4)).toUInt32 &&& Int32.toUInt32 31)).toInt32) &&& (252645135))).toUInt32 >>> (((I 8)).toUInt32 &&& Int32.toUInt32 31)).toInt32)).toUInt32 >>> (((I 16)).toUInt32 &&& Int32.toUInt32 31)).toInt32))]) (pc := 47) O dJ6_bitCount_0f7a4_47 rfl (ltb rfl) rfl ?_
  refine g_iloadn (pc := 48) O rfl dJ6_bitCount_0f7a4_48 ?_
  refine g_bipush (v := (I 63)) (pc := 49) O (by decide) dJ6_bitCount_0f7a4_49 ?_
  refine g_iand (pc := 51) O dJ6_bitCount_0f7a4_51 ?_
  exact g_iret (pc := 52) O dJ6_bitCount_0f7a4_52 H
set_option maxRecDepth 20000 in
set_option maxHeartbeats 2000000 in
theorem sJ6_bitCount_0f7a4 {g : mg} {l : Launch} {Q : Int32 → AH → Prop} {x0 : Int32} {h : AH} (H : Q ((((((((x0 - (((x0).toUInt32 >>> (((I 1)).toUInt32 &&& Int32.toUInt32 31)).toInt32 &&& (1431655765))) &&& (858993459)) + ((((x0 - (((x0).toUInt32 >>> (((I 1)).toUInt32 &&& Int32.toUInt32 31)).toInt32 &&& (1431655765)))).toUInt32 >>> (((I 2)).toUInt32 &&& Int32.toUInt32 31)).toInt32 &&& (858993459))) + (((((x0 - (((x0).toUInt32 >>> (((I 1)).toUInt32 &&& Int32.toUInt32 31)).toInt32 &&& (1431655765))) &&& (858993459)) + ((((x0 - (((x0).toUInt32 >>> (((I 1)).toUInt32 &&& Int32.toUInt32 31)).toInt32 &&& (1431655765)))).toUInt32 >>> (((I 2)).toUInt32 &&& Int32.toUInt32 31)).toInt32 &&& (858993459)))).toUInt32 >>> (((I 4)).toUInt32 &&& Int32.toUInt32 31)).toInt32) &&& (252645135)) + (((((((x0 - (((x0).toUInt32 >>> (((I 1)).toUInt32 &&& Int32.toUInt32 31)).toInt32 &&& (1431655765))) &&& (858993459)) + ((((x0 - (((x0).toUInt32 >>> (((I 1)).toUInt32 &&& Int32.toUInt32 31)).toInt32 &&& (1431655765)))).toUInt32 >>> (((I 2)).toUInt32 &&& Int32.toUInt32 31)).toInt32 &&& (858993459))) + (((((x0 - (((x0).toUInt32 >>> (((I 1)).toUInt32 &&& Int32.toUInt32 31)).toInt32 &&& (1431655765))) &&& (858993459)) + ((((x0 - (((x0).toUInt32 >>> (((I 1)).toUInt32 &&& Int32.toUInt32 31)).toInt32 &&& (1431655765)))).toUInt32 >>> (((I 2)).toUInt32 &&& Int32.toUInt32 31)).toInt32 &&& (858993459)))).toUInt32 >>> (((I 4)).toUInt32 &&& Int32.toUInt32 31)).toInt32) &&& (252645135))).toUInt32 >>> (((I 8)).toUInt32 &&& Int32.toUInt32 31)).toInt32) + ((((((((x0 - (((x0).toUInt32 >>> (((I 1)).toUInt32 &&& Int32.toUInt32 31)).toInt32 &&& (1431655765))) &&& (858993459)) + ((((x0 - (((x0).toUInt32 >>> (((I 1)).toUInt32 &&& Int32.toUInt32 31)).toInt32 &&& (1431655765)))).toUInt32 >>> (((I 2)).toUInt32 &&& Int32.toUInt32 31)).toInt32 &&& (858993459))) + (((((x0 - (((x0).toUInt32 >>> (((I 1)).toUInt32 &&& Int32.toUInt32 31)).toInt32 &&& (1431655765))) &&& (858993459)) + ((((x0 - (((x0).toUInt32 >>> (((I 1)).toUInt32 &&& Int32.toUInt32 31)).toInt32 &&& (1431655765)))).toUInt32 >>> (((I 2)).toUInt32 &&& Int32.toUInt32 31)).toInt32 &&& (858993459)))).toUInt32 >>> (((I 4)).toUInt32 &&& Int32.toUInt32 31)).toInt32) &&& (252645135)) + (((((((x0 - (((x0).toUInt32 >>> (((I 1)).toUInt32 &&& Int32.toUInt32 31)).toInt32 &&& (1431655765))) &&& (858993459)) + ((((x0 - (((x0).toUInt32 >>> (((I 1)).toUInt32 &&& Int32.toUInt32 31)).toInt32 &&& (1431655765)))).toUInt32 >>> (((I 2)).toUInt32 &&& Int32.toUInt32 31)).toInt32 &&& (858993459))) + (((((x0 - (((x0).toUInt32 >>> (((I 1)).toUInt32 &&& Int32.toUInt32 31)).toInt32 &&& (1431655765))) &&& (858993459)) + ((((x0 - (((x0).toUInt32 >>> (((I 1)).toUInt32 &&& Int32.toUInt32 31)).toInt32 &&& (1431655765)))).toUInt32 >>> (((I 2)).toUInt32 &&& Int32.toUInt32 31)).toInt32 &&& (858993459)))).toUInt32 >>> (((I 4)).toUInt32 &&& Int32.toUInt32 31)).toInt32) &&& (252645135))).toUInt32 >>> (((I 8)).toUInt32 &&& Int32.toUInt32 31)).toInt32)).toUInt32 >>> (((I 16)).toUInt32 &&& Int32.toUInt32 31)).toInt32) &&& (I 63)) h) : SpI g l mJ6_bitCount_0f7a4 h [.int x0] Q := spI_of (by decide) (leb rfl) (fun X O => bJ6_bitCount_0f7a4_0 O H)
set_option maxRecDepth 20000 in
set_option maxHeartbeats 2000000 in
theorem bJ7_fill_53178_0 {g : mg} {l : Launch} {X : XT} {Q : AH → Prop} (O : Ok (FF g l X) RJ7 cJ7_fill_53178 4 mJ7_fill_53178.2.2.2.2 none) {x0 nx0 : Nat} (hx0 : lay x0 = (100, nx0)) (kx0 : nx0 < 2 ^ 31) {x1 : Int32} {h : AH} (H : GV g l X Q h 5 [(0, .ref x0), (1, .int x1), (2, .int (I 0)), (3, .int (I (nx0 : Nat)))] []) : GV g l X Q h 0 [(0, .ref x0), (1, .int x1)] [] := by
  refine g_iconst (v := (I 0)) (pc := 0) O rfl dJ7_fill_53178_0 ?_
  refine g_istoren (lv' := [(0, .ref x0), (1, .int x1), (2, .int (I 0))]) (pc := 1) O dJ7_fill_53178_1 rfl (ltb rfl) rfl ?_
  refine g_aloadn (pc := 2) O rfl dJ7_fill_53178_2 ?_
  refine g_alen (pc := 3) O dJ7_fill_53178_3 hx0 (lay_lt hx0 (by decide)) ?_
  refine g_istoren (lv' := [(0, .ref x0), (1, .int x1), (2, .int (I 0)), (3, .int (I (nx0 : Nat)))]) (pc := 4) O dJ7_fill_53178_4 rfl (ltb rfl) rfl ?_
  exact H
set_option maxRecDepth 20000 in
set_option maxHeartbeats 2000000 in
theorem bJ7_fill_53178_5 {g : mg} {l : Launch} {X : XT} {Q : AH → Prop} (O : Ok (FF g l X) RJ7 cJ7_fill_53178 4 mJ7_fill_53178.2.2.2.2 none) {x0 nx0 : Nat} (hx0 : lay x0 = (100, nx0)) (kx0 : nx0 < 2 ^ 31) {x1 : Int32} {x2 : Int32} {x3 : Int32} {h : AH} (H : ((x3 ≤ x2) → (Q h)) ∧ ((¬ (x3 ≤ x2)) → (∃ j2 : Nat, x2 = I (j2 : Int) ∧ j2 < nx0 ∧ (GV g l X Q (sI h x0 j2 x1) 5 [(0, .ref x0), (1, .int x1), (2, .int (x2 + I 1)), (3, .int x3)] [])))) : GV g l X Q h 5 [(0, .ref x0), (1, .int x1), (2, .int x2), (3, .int x3)] [] := by
  refine g_iloadn (pc := 5) O rfl dJ7_fill_53178_5 ?_
  refine g_iloadn (pc := 6) O rfl dJ7_fill_53178_6 ?_
  refine g_icmp_ge (tgt := 20) (pc := 7) O dJ7_fill_53178_7 rfl (fun q1 => ?_) (fun q1 => ?_)
  · replace H := H.1 q1
    exact g_vret (pc := 20) O dJ7_fill_53178_20 H
  · replace H := H.2 q1
    refine g_aloadn (pc := 10) O rfl dJ7_fill_53178_10 ?_
    refine g_iloadn (pc := 11) O rfl dJ7_fill_53178_11 ?_
    refine g_iloadn (pc := 12) O rfl dJ7_fill_53178_12 ?_
    obtain ⟨j2, ej2, bj2, H⟩ := H
    refine g_iast (j := j2) (pc := 13) O dJ7_fill_53178_13 ej2 hx0 (lay_lt hx0 (by decide)) (leb rfl) bj2 kx0 ?_
    refine g_iinc (lv' := [(0, .ref x0), (1, .int x1), (2, .int (x2 + I 1)), (3, .int x3)]) (pc := 14) O dJ7_fill_53178_14 rfl rfl (ltb rfl) rfl ?_
    refine g_goto (tgt := 5) (pc := 17) O dJ7_fill_53178_17 rfl ?_
    exact H
set_option maxRecDepth 20000 in
set_option maxHeartbeats 2000000 in
theorem sJ7_fill_53178 {g : mg} {l : Launch} {Q : AH → Prop} {x0 nx0 : Nat} (hx0 : lay x0 = (100, nx0)) (kx0 : nx0 < 2 ^ 31) {x1 : Int32} {h : AH} (H : ∀ X, Ok (FF g l X) RJ7 cJ7_fill_53178 4 mJ7_fill_53178.2.2.2.2 none → GV g l X Q h 5 [(0, .ref x0), (1, .int x1), (2, .int (I 0)), (3, .int (I (nx0 : Nat)))] []) : SpV g l mJ7_fill_53178 h [.ref x0, .int x1] Q := spV_of (by decide) (leb rfl) (fun X O => bJ7_fill_53178_0 O hx0 kx0 (H X O))
set_option maxRecDepth 20000 in
set_option maxHeartbeats 2000000 in
theorem bJ3_checkIndex_8e157n_0 {g : mg} {l : Launch} {X : XT} {Q : Int32 → AH → Prop} (O : Ok (FF g l X) RJ3 cJ3_checkIndex_8e157 3 mJ3_checkIndex_8e157.2.2.2.2 (some .int)) {x0 : Int32} {x1 : Int32} {h : AH} (H : ((x0 < 0) → (False)) ∧ ((¬ (x0 < 0)) → (((x0 < x1) → (Q x0 h)) ∧ ((¬ (x0 < x1)) → (False))))) : GI g l X Q h 0 [(0, .int x0), (1, .int x1), (2, .null)] [] := by
  refine g_iloadn (pc := 0) O rfl dJ3_checkIndex_8e157_0 ?_
  refine g_if_lt (tgt := 9) (pc := 1) O dJ3_checkIndex_8e157_1 rfl (fun q1 => ?_) (fun q1 => ?_)
  · replace H := H.1 q1
    exact H.elim
  · replace H := H.2 q1
    refine g_iloadn (pc := 4) O rfl dJ3_checkIndex_8e157_4 ?_
    refine g_iloadn (pc := 5) O rfl dJ3_checkIndex_8e157_5 ?_
    refine g_icmp_lt (tgt := 16) (pc := 6) O dJ3_checkIndex_8e157_6 rfl (fun q2 => ?_) (fun q2 => ?_)
    · replace H := H.1 q2
      refine g_iloadn (pc := 16) O rfl dJ3_checkIndex_8e157_16 ?_
      exact g_iret (pc := 17) O dJ3_checkIndex_8e157_17 H
    · replace H := H.2 q2
      exact H.elim
set_option maxRecDepth 20000 in
set_option maxHeartbeats 2000000 in
theorem sJ3_checkIndex_8e157n {g : mg} {l : Launch} {Q : Int32 → AH → Prop} {x0 : Int32} {x1 : Int32} {h : AH} (H : ((x0 < 0) → (False)) ∧ ((¬ (x0 < 0)) → (((x0 < x1) → (Q x0 h)) ∧ ((¬ (x0 < x1)) → (False))))) : SpI g l mJ3_checkIndex_8e157 h [.int x0, .int x1, .null] Q := spI_of (by decide) (leb rfl) (fun X O => bJ3_checkIndex_8e157n_0 O H)
set_option maxRecDepth 20000 in
set_option maxHeartbeats 2000000 in
theorem bJ3_checkIndex_8e157r_0 {g : mg} {l : Launch} {X : XT} {Q : Int32 → AH → Prop} (O : Ok (FF g l X) RJ3 cJ3_checkIndex_8e157 3 mJ3_checkIndex_8e157.2.2.2.2 (some .int)) {x0 : Int32} {x1 : Int32} {h : AH} (H : ((x0 < 0) → (False)) ∧ ((¬ (x0 < 0)) → (((x0 < x1) → (Q x0 h)) ∧ ((¬ (x0 < x1)) → (False))))) : GI g l X Q h 0 [(0, .int x0), (1, .int x1), (2, .ref 1030)] [] := by
  refine g_iloadn (pc := 0) O rfl dJ3_checkIndex_8e157_0 ?_
  refine g_if_lt (tgt := 9) (pc := 1) O dJ3_checkIndex_8e157_1 rfl (fun q1 => ?_) (fun q1 => ?_)
  · replace H := H.1 q1
    exact H.elim
  · replace H := H.2 q1
    refine g_iloadn (pc := 4) O rfl dJ3_checkIndex_8e157_4 ?_
    refine g_iloadn (pc := 5) O rfl dJ3_checkIndex_8e157_5 ?_
    refine g_icmp_lt (tgt := 16) (pc := 6) O dJ3_checkIndex_8e157_6 rfl (fun q2 => ?_) (fun q2 => ?_)
    · replace H := H.1 q2
      refine g_iloadn (pc := 16) O rfl dJ3_checkIndex_8e157_16 ?_
      exact g_iret (pc := 17) O dJ3_checkIndex_8e157_17 H
    · replace H := H.2 q2
      exact H.elim
set_option maxRecDepth 20000 in
set_option maxHeartbeats 2000000 in
theorem sJ3_checkIndex_8e157r {g : mg} {l : Launch} {Q : Int32 → AH → Prop} {x0 : Int32} {x1 : Int32} {h : AH} (H : ((x0 < 0) → (False)) ∧ ((¬ (x0 < 0)) → (((x0 < x1) → (Q x0 h)) ∧ ((¬ (x0 < x1)) → (False))))) : SpI g l mJ3_checkIndex_8e157 h [.int x0, .int x1, .ref 1030] Q := spI_of (by decide) (leb rfl) (fun X O => bJ3_checkIndex_8e157r_0 O H)
set_option maxRecDepth 20000 in
set_option maxHeartbeats 2000000 in
theorem bJ0_checkIndex_df160_0 {g : mg} {l : Launch} {X : XT} {Q : AH → Prop} (O : Ok (FF g l X) RJ0 cJ0_checkIndex_df160 2 mJ0_checkIndex_df160.2.2.2.2 none) {x0 : Int32} {x1 : Int32} {h : AH} (H : (SpI g l mJ3_checkIndex_8e157 h [.int x0, .int x1, .null] (fun v1 hv1 => Q hv1)) ∧ (SpI g l mJ3_checkIndex_8e157 h [.int x0, .int x1, .ref 1030] (fun v2 hv2 => Q hv2))) : GV g l X Q h 0 [(0, .int x0), (1, .int x1)] [] := by
  refine g_iloadn (pc := 0) O rfl dJ0_checkIndex_df160_0 ?_
  refine g_iloadn (pc := 1) O rfl dJ0_checkIndex_df160_1 ?_
  refine g_getsF (pc := 2) O dJ0_checkIndex_df160_2 ?_ ?_
  · replace H := H.1
    refine g_sI [.int x0, .int x1, .null] [] (pc := 5) O mk_J3_checkIndex_8e157 ml_J0_1059 sm_J3_checkIndex_8e157 ⟨rfl, rfl, leb rfl, leb rfl⟩ rfl (leb rfl) dJ0_checkIndex_df160_5 H rfl (fun v1 hv1 H => ?_)
    refine g_pop (pc := 8) O rfl dJ0_checkIndex_df160_8 ?_
    exact g_vret (pc := 9) O dJ0_checkIndex_df160_9 H
  · replace H := H.2
    refine g_sI [.int x0, .int x1, .ref 1030] [] (pc := 5) O mk_J3_checkIndex_8e157 ml_J0_1059 sm_J3_checkIndex_8e157 ⟨rfl, rfl, leb rfl, leb rfl⟩ rfl (leb rfl) dJ0_checkIndex_df160_5 H rfl (fun v2 hv2 H => ?_)
    refine g_pop (pc := 8) O rfl dJ0_checkIndex_df160_8 ?_
    exact g_vret (pc := 9) O dJ0_checkIndex_df160_9 H
set_option maxRecDepth 20000 in
set_option maxHeartbeats 2000000 in
theorem sJ0_checkIndex_df160 {g : mg} {l : Launch} {Q : AH → Prop} {x0 : Int32} {x1 : Int32} {h : AH} (H : (SpI g l mJ3_checkIndex_8e157 h [.int x0, .int x1, .null] (fun v1 hv1 => Q hv1)) ∧ (SpI g l mJ3_checkIndex_8e157 h [.int x0, .int x1, .ref 1030] (fun v2 hv2 => Q hv2))) : SpV g l mJ0_checkIndex_df160 h [.int x0, .int x1] Q := spV_of (by decide) (leb rfl) (fun X O => bJ0_checkIndex_df160_0 O H)
set_option maxRecDepth 20000 in
set_option maxHeartbeats 2000000 in
theorem bJ1_charAt_3b067_0 {g : mg} {l : Launch} {X : XT} {Q : Int32 → AH → Prop} (O : Ok (FF g l X) RJ1 cJ1_charAt_3b067 2 mJ1_charAt_3b067.2.2.2.2 (some .char)) {x0 : Nat} (hx0 : x0 < 5) {x1 : Int32} {h : AH} (H : SpV g l mJ0_checkIndex_df160 h [.int x1, .int (I (txL.getD x0 0 : Nat))] (fun hv1 => ∃ j2 : Nat, x1 = I (j2 : Int) ∧ j2 < txL.getD x0 0 ∧ (narrow .char (.int ((((((txB.getD x0 []).getD j2 0) &&& (I 255))).toUInt32 % 65536).toInt32)) = .int ((((((txB.getD x0 []).getD j2 0) &&& (I 255))).toUInt32 % 65536).toInt32) ∧ Q ((((((txB.getD x0 []).getD j2 0) &&& (I 255))).toUInt32 % 65536).toInt32) hv1))) : GI g l X Q h 0 [(0, .ref (1020 + x0)), (1, .int x1)] [] := by
  refine g_iloadn (pc := 0) O rfl dJ1_charAt_3b067_0 ?_
  refine g_aloadn (pc := 1) O rfl dJ1_charAt_3b067_1 ?_
  refine g_strL (pc := 2) O hx0 dJ1_charAt_3b067_2 ?_
  refine g_sV [.int x1, .int (I (txL.getD x0 0 : Nat))] [] (pc := 3) O mk_J0_checkIndex_df160 ml_J1_9 sm_J0_checkIndex_df160 ⟨rfl, rfl, leb rfl, leb rfl⟩ rfl (leb rfl) dJ1_charAt_3b067_3 H rfl (fun hv1 H => ?_)
  refine g_aloadn (pc := 6) O rfl dJ1_charAt_3b067_6 ?_
  refine g_iloadn (pc := 7) O rfl dJ1_charAt_3b067_7 ?_
  obtain ⟨j2, ej2, bj2, H⟩ := H
  refine g_strA (pc := 8) O dJ1_charAt_3b067_8 hx0 ej2 bj2 ?_
  refine g_sipush (v := (I 255)) (pc := 9) O (by decide) dJ1_charAt_3b067_9 ?_
  refine g_iand (pc := 12) O dJ1_charAt_3b067_12 ?_
  refine g_i2c (pc := 13) O dJ1_charAt_3b067_13 ?_
  exact g_tret (pc := 14) O dJ1_charAt_3b067_14 H.1 H.2
set_option maxRecDepth 20000 in
set_option maxHeartbeats 2000000 in
theorem sJ1_charAt_3b067 {g : mg} {l : Launch} {Q : Int32 → AH → Prop} {x0 : Nat} (hx0 : x0 < 5) {x1 : Int32} {h : AH} (H : SpV g l mJ0_checkIndex_df160 h [.int x1, .int (I (txL.getD x0 0 : Nat))] (fun hv1 => ∃ j2 : Nat, x1 = I (j2 : Int) ∧ j2 < txL.getD x0 0 ∧ (narrow .char (.int ((((((txB.getD x0 []).getD j2 0) &&& (I 255))).toUInt32 % 65536).toInt32)) = .int ((((((txB.getD x0 []).getD j2 0) &&& (I 255))).toUInt32 % 65536).toInt32) ∧ Q ((((((txB.getD x0 []).getD j2 0) &&& (I 255))).toUInt32 % 65536).toInt32) hv1))) : SpI g l mJ1_charAt_3b067 h [.ref (1020 + x0), .int x1] Q := spI_of (by decide) (leb rfl) (fun X O => bJ1_charAt_3b067_0 O hx0 H)
set_option maxRecDepth 20000 in
set_option maxHeartbeats 2000000 in
theorem bJ0_coder_7d493_0 {g : mg} {l : Launch} {X : XT} {Q : Int32 → AH → Prop} (O : Ok (FF g l X) RJ0 cJ0_coder_7d493 1 mJ0_coder_7d493.2.2.2.2 (some .byte)) {x0 : Nat} (hx0 : x0 < 5) {h : AH} (H : (((I 1) = 0) → (narrow .byte (.int (I 1)) = .int (I 1) ∧ Q (I 1) h)) ∧ ((¬ ((I 1) = 0)) → (narrow .byte (.int (I 0)) = .int (I 0) ∧ Q (I 0) h))) : GI g l X Q h 0 [(0, .ref (1010 + x0))] [] := by
  refine g_getsC (pc := 0) O dJ0_coder_7d493_0 ?_
  refine g_if_eq (tgt := 13) (pc := 3) O dJ0_coder_7d493_3 rfl (fun q1 => ?_) (fun q1 => ?_)
  · replace H := H.1 q1
    refine g_iconst (v := (I 1)) (pc := 13) O rfl dJ0_coder_7d493_13 ?_
    exact g_tret (pc := 14) O dJ0_coder_7d493_14 H.1 H.2
  · replace H := H.2 q1
    refine g_aloadn (pc := 6) O rfl dJ0_coder_7d493_6 ?_
    refine g_strC (pc := 7) O hx0 fs_15 dJ0_coder_7d493_7 ?_
    refine g_goto (tgt := 14) (pc := 10) O dJ0_coder_7d493_10 rfl ?_
    exact g_tret (pc := 14) O dJ0_coder_7d493_14 H.1 H.2
set_option maxRecDepth 20000 in
set_option maxHeartbeats 2000000 in
theorem sJ0_coder_7d493 {g : mg} {l : Launch} {Q : Int32 → AH → Prop} {x0 : Nat} (hx0 : x0 < 5) {h : AH} (H : (((I 1) = 0) → (narrow .byte (.int (I 1)) = .int (I 1) ∧ Q (I 1) h)) ∧ ((¬ ((I 1) = 0)) → (narrow .byte (.int (I 0)) = .int (I 0) ∧ Q (I 0) h))) : SpI g l mJ0_coder_7d493 h [.ref (1010 + x0)] Q := spI_of (by decide) (leb rfl) (fun X O => bJ0_coder_7d493_0 O hx0 H)
set_option maxRecDepth 20000 in
set_option maxHeartbeats 2000000 in
theorem bJ0_isLatin1_aae02_0 {g : mg} {l : Launch} {X : XT} {Q : Int32 → AH → Prop} (O : Ok (FF g l X) RJ0 cJ0_isLatin1_aae02 1 mJ0_isLatin1_aae02.2.2.2.2 (some .boolean)) {x0 : Nat} (hx0 : x0 < 5) {h : AH} (H : (((I 1) = 0) → (Q (I 0) h)) ∧ ((¬ ((I 1) = 0)) → (((¬ (I 0) = 0) → (Q (I 0) h)) ∧ (((I 0) = 0) → (Q (I 1) h))))) : GI g l X Q h 0 [(0, .ref (1010 + x0))] [] := by
  refine g_getsC (pc := 0) O dJ0_isLatin1_aae02_0 ?_
  refine g_if_eq (tgt := 17) (pc := 3) O dJ0_isLatin1_aae02_3 rfl (fun q1 => ?_) (fun q1 => ?_)
  · replace H := H.1 q1
    refine g_iconst (v := (I 0)) (pc := 17) O rfl dJ0_isLatin1_aae02_17 ?_
    exact g_zret (pc := 18) O dJ0_isLatin1_aae02_18 (by decide) H
  · replace H := H.2 q1
    refine g_aloadn (pc := 6) O rfl dJ0_isLatin1_aae02_6 ?_
    refine g_strC (pc := 7) O hx0 fs_15 dJ0_isLatin1_aae02_7 ?_
    refine g_if_ne (tgt := 17) (pc := 10) O dJ0_isLatin1_aae02_10 rfl (fun q2 => ?_) (fun q2 => ?_)
    · replace H := H.1 q2
      refine g_iconst (v := (I 0)) (pc := 17) O rfl dJ0_isLatin1_aae02_17 ?_
      exact g_zret (pc := 18) O dJ0_isLatin1_aae02_18 (by decide) H
    · replace H := H.2 q2
      refine g_iconst (v := (I 1)) (pc := 13) O rfl dJ0_isLatin1_aae02_13 ?_
      refine g_goto (tgt := 18) (pc := 14) O dJ0_isLatin1_aae02_14 rfl ?_
      exact g_zret (pc := 18) O dJ0_isLatin1_aae02_18 (by decide) H
set_option maxRecDepth 20000 in
set_option maxHeartbeats 2000000 in
theorem sJ0_isLatin1_aae02 {g : mg} {l : Launch} {Q : Int32 → AH → Prop} {x0 : Nat} (hx0 : x0 < 5) {h : AH} (H : (((I 1) = 0) → (Q (I 0) h)) ∧ ((¬ ((I 1) = 0)) → (((¬ (I 0) = 0) → (Q (I 0) h)) ∧ (((I 0) = 0) → (Q (I 1) h))))) : SpI g l mJ0_isLatin1_aae02 h [.ref (1010 + x0)] Q := spI_of (by decide) (leb rfl) (fun X O => bJ0_isLatin1_aae02_0 O hx0 H)
set_option maxRecDepth 20000 in
set_option maxHeartbeats 2000000 in
theorem bJ0_length_8abf5_0 {g : mg} {l : Launch} {X : XT} {Q : Int32 → AH → Prop} (O : Ok (FF g l X) RJ0 cJ0_length_8abf5 1 mJ0_length_8abf5.2.2.2.2 (some .int)) {x0 : Nat} (hx0 : x0 < 5) {h : AH} (H : SpI g l mJ0_coder_7d493 h [.ref (1010 + x0)] (fun v1 hv1 => Q ((I (txL.getD x0 0 : Nat)) >>> (v1 &&& 31)) hv1)) : GI g l X Q h 0 [(0, .ref (1010 + x0))] [] := by
  refine g_aloadn (pc := 0) O rfl dJ0_length_8abf5_0 ?_
  refine g_strV (pc := 1) O hx0 fs_9 dJ0_length_8abf5_1 ?_
  refine g_strL (pc := 4) O hx0 dJ0_length_8abf5_4 ?_
  refine g_aloadn (pc := 5) O rfl dJ0_length_8abf5_5 ?_
  refine g_xI [] [.int (I (txL.getD x0 0 : Nat))] (pc := 6) O mk_J0_coder_7d493 ml_J0_335 im_J0_coder_7d493 se_J0_coder_7d493 rfl hx0 ⟨rfl, rfl, leb rfl, leb rfl⟩ rfl (leb rfl) dJ0_length_8abf5_6 H rfl (fun v1 hv1 H => ?_)
  refine g_ishr (pc := 9) O dJ0_length_8abf5_9 ?_
  exact g_iret (pc := 10) O dJ0_length_8abf5_10 H
set_option maxRecDepth 20000 in
set_option maxHeartbeats 2000000 in
theorem sJ0_length_8abf5 {g : mg} {l : Launch} {Q : Int32 → AH → Prop} {x0 : Nat} (hx0 : x0 < 5) {h : AH} (H : SpI g l mJ0_coder_7d493 h [.ref (1010 + x0)] (fun v1 hv1 => Q ((I (txL.getD x0 0 : Nat)) >>> (v1 &&& 31)) hv1)) : SpI g l mJ0_length_8abf5 h [.ref (1010 + x0)] Q := spI_of (by decide) (leb rfl) (fun X O => bJ0_length_8abf5_0 O hx0 H)
set_option maxRecDepth 20000 in
set_option maxHeartbeats 2000000 in
theorem bJ0_charAt_5068e_0 {g : mg} {l : Launch} {X : XT} {Q : Int32 → AH → Prop} (O : Ok (FF g l X) RJ0 cJ0_charAt_5068e 2 mJ0_charAt_5068e.2.2.2.2 (some .char)) {x0 : Nat} (hx0 : x0 < 5) {x1 : Int32} {h : AH} (H : SpI g l mJ0_isLatin1_aae02 h [.ref (1010 + x0)] (fun v1 hv1 => ((v1 = 0) → (SpI g l mJ2_charAt_3b067 hv1 [.ref (1020 + x0), .int x1] (fun v3 hv3 => narrow .char (.int v3) = .int v3 ∧ Q v3 hv3))) ∧ ((¬ (v1 = 0)) → (SpI g l mJ1_charAt_3b067 hv1 [.ref (1020 + x0), .int x1] (fun v4 hv4 => narrow .char (.int v4) = .int v4 ∧ Q v4 hv4))))) : GI g l X Q h 0 [(0, .ref (1010 + x0)), (1, .int x1)] [] := by
  refine g_aloadn (pc := 0) O rfl dJ0_charAt_5068e_0 ?_
  refine g_xI [] [] (pc := 1) O mk_J0_isLatin1_aae02 ml_J0_492 im_J0_isLatin1_aae02 se_J0_isLatin1_aae02 rfl hx0 ⟨rfl, rfl, leb rfl, leb rfl⟩ rfl (leb rfl) dJ0_charAt_5068e_1 H rfl (fun v1 hv1 H => ?_)
  refine g_if_eq (tgt := 16) (pc := 4) O dJ0_charAt_5068e_4 rfl (fun q2 => ?_) (fun q2 => ?_)
  · replace H := H.1 q2
    refine g_aloadn (pc := 16) O rfl dJ0_charAt_5068e_16 ?_
    refine g_strV (pc := 17) O hx0 fs_9 dJ0_charAt_5068e_17 ?_
    refine g_iloadn (pc := 20) O rfl dJ0_charAt_5068e_20 ?_
    refine g_sI [.ref (1020 + x0), .int x1] [] (pc := 21) O mk_J2_charAt_3b067 ml_J0_498 sm_J2_charAt_3b067 ⟨rfl, rfl, leb rfl, leb rfl⟩ rfl (leb rfl) dJ0_charAt_5068e_21 H rfl (fun v3 hv3 H => ?_)
    exact g_tret (pc := 24) O dJ0_charAt_5068e_24 H.1 H.2
  · replace H := H.2 q2
    refine g_aloadn (pc := 7) O rfl dJ0_charAt_5068e_7 ?_
    refine g_strV (pc := 8) O hx0 fs_9 dJ0_charAt_5068e_8 ?_
    refine g_iloadn (pc := 11) O rfl dJ0_charAt_5068e_11 ?_
    refine g_sI [.ref (1020 + x0), .int x1] [] (pc := 12) O mk_J1_charAt_3b067 ml_J0_495 sm_J1_charAt_3b067 ⟨rfl, rfl, leb rfl, leb rfl⟩ rfl (leb rfl) dJ0_charAt_5068e_12 H rfl (fun v4 hv4 H => ?_)
    exact g_tret (pc := 15) O dJ0_charAt_5068e_15 H.1 H.2
set_option maxRecDepth 20000 in
set_option maxHeartbeats 2000000 in
theorem sJ0_charAt_5068e {g : mg} {l : Launch} {Q : Int32 → AH → Prop} {x0 : Nat} (hx0 : x0 < 5) {x1 : Int32} {h : AH} (H : SpI g l mJ0_isLatin1_aae02 h [.ref (1010 + x0)] (fun v1 hv1 => ((v1 = 0) → (SpI g l mJ2_charAt_3b067 hv1 [.ref (1020 + x0), .int x1] (fun v3 hv3 => narrow .char (.int v3) = .int v3 ∧ Q v3 hv3))) ∧ ((¬ (v1 = 0)) → (SpI g l mJ1_charAt_3b067 hv1 [.ref (1020 + x0), .int x1] (fun v4 hv4 => narrow .char (.int v4) = .int v4 ∧ Q v4 hv4))))) : SpI g l mJ0_charAt_5068e h [.ref (1010 + x0), .int x1] Q := spI_of (by decide) (leb rfl) (fun X O => bJ0_charAt_5068e_0 O hx0 H)
