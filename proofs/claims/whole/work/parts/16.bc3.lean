/-! printed by gen.py: what each stretch of code asks for (H) to come to its end, and its walk -/
set_option maxRecDepth 20000 in
set_option maxHeartbeats 2000000 in
theorem bX7_type_0 {g : mg} {l : Launch} {X : XT} {Q : Int32 → AH → Prop} (O : Ok (FF g l X) RX7 cX7_type 4 mX7_type.2.2.2.2 (some .int)) {x1 : Int64} {x3 : Int32} {h : AH} (H : ((x3 < (I 1)) → (Q (I (-1)) h)) ∧ ((¬ (x3 < (I 1))) → (((x3 ≤ (I 8)) → (SpI g l mX5_add h [.ref 1, .long x1, .int x3] (fun v3 hv3 => ((v3 = 0) → (Q (I (-3)) hv3)) ∧ ((¬ (v3 = 0)) → (Q (hv3.1 1 1) hv3))))) ∧ ((¬ (x3 ≤ (I 8))) → (Q (I (-1)) h))))) : GI g l X Q h 0 [(0, .ref 0), (1, .long x1), (3, .int x3)] [] := by
  refine g_iloadn (pc := 0) O rfl dX7_type_0 ?_
  refine g_iconst (v := (I 1)) (pc := 1) O rfl dX7_type_1 ?_
  refine g_icmp_lt (tgt := 11) (pc := 2) O dX7_type_2 rfl (fun q1 => ?_) (fun q1 => ?_)
  · replace H := H.1 q1
    refine g_iconst (v := (I (-1))) (pc := 11) O rfl dX7_type_11 ?_
    exact g_iret (pc := 12) O dX7_type_12 H
  · replace H := H.2 q1
    refine g_iloadn (pc := 5) O rfl dX7_type_5 ?_
    refine g_bipush (v := (I 8)) (pc := 6) O (by decide) dX7_type_6 ?_
    refine g_icmp_le (tgt := 13) (pc := 8) O dX7_type_8 rfl (fun q2 => ?_) (fun q2 => ?_)
    · replace H := H.1 q2
      refine g_aloadn (pc := 13) O rfl dX7_type_13 ?_
      refine g_getS (pc := 14) O cls7 fl_X7_12 dX7_type_14 rfl (ltb rfl) (ltb rfl) rfl rfl ?_
      refine g_lloadn (pc := 17) O rfl dX7_type_17 ?_
      refine g_iloadn (pc := 18) O rfl dX7_type_18 ?_
      refine g_vI [.long x1, .int x3] [] (pc := 19) O mk_X5_add ml_X7_65 im_X5_add se_X5_add cls5 rfl ⟨rfl, rfl, leb rfl, leb rfl⟩ rfl (leb rfl) dX7_type_19 H rfl (fun v3 hv3 H => ?_)
      refine g_if_eq (tgt := 35) (pc := 22) O dX7_type_22 rfl (fun q4 => ?_) (fun q4 => ?_)
      · replace H := H.1 q4
        refine g_bipush (v := (I (-3))) (pc := 35) O (by decide) dX7_type_35 ?_
        exact g_iret (pc := 37) O dX7_type_37 H
      · replace H := H.2 q4
        refine g_aloadn (pc := 25) O rfl dX7_type_25 ?_
        refine g_getS (pc := 26) O cls7 fl_X7_12 dX7_type_26 rfl (ltb rfl) (ltb rfl) rfl rfl ?_
        refine g_getI (v := hv3.1 1 1) (pc := 29) O cls5 fl_X7_69 dX7_type_29 rfl (ltb rfl) (ltb rfl) rfl rfl ?_
        refine g_goto (tgt := 37) (pc := 32) O dX7_type_32 rfl ?_
        exact g_iret (pc := 37) O dX7_type_37 H
    · replace H := H.2 q2
      refine g_iconst (v := (I (-1))) (pc := 11) O rfl dX7_type_11 ?_
      exact g_iret (pc := 12) O dX7_type_12 H
set_option maxRecDepth 20000 in
set_option maxHeartbeats 2000000 in
theorem sX7_type {g : mg} {l : Launch} {Q : Int32 → AH → Prop} {x1 : Int64} {x3 : Int32} {h : AH} (H : ((x3 < (I 1)) → (Q (I (-1)) h)) ∧ ((¬ (x3 < (I 1))) → (((x3 ≤ (I 8)) → (SpI g l mX5_add h [.ref 1, .long x1, .int x3] (fun v3 hv3 => ((v3 = 0) → (Q (I (-3)) hv3)) ∧ ((¬ (v3 = 0)) → (Q (hv3.1 1 1) hv3))))) ∧ ((¬ (x3 ≤ (I 8))) → (Q (I (-1)) h))))) : SpI g l mX7_type h [.ref 0, .long x1, .int x3] Q := spI_of (by decide) (leb rfl) (fun X O => bX7_type_0 O H)
set_option maxRecDepth 20000 in
set_option maxHeartbeats 2000000 in
theorem bX7_clear_0 {g : mg} {l : Launch} {X : XT} {Q : Int32 → AH → Prop} (O : Ok (FF g l X) RX7 cX7_clear 2 mX7_clear.2.2.2.2 (some .int))  {h : AH} (H : Q (h.1 1 1) (sI h 1 1 (I 0))) : GI g l X Q h 0 [(0, .ref 0)] [] := by
  refine g_aloadn (pc := 0) O rfl dX7_clear_0 ?_
  refine g_getS (pc := 1) O cls7 fl_X7_12 dX7_clear_1 rfl (ltb rfl) (ltb rfl) rfl rfl ?_
  refine g_getI (v := h.1 1 1) (pc := 4) O cls5 fl_X7_69 dX7_clear_4 rfl (ltb rfl) (ltb rfl) rfl rfl ?_
  refine g_istoren (lv' := [(0, .ref 0), (1, .int (h.1 1 1))]) (pc := 7) O dX7_clear_7 rfl (ltb rfl) rfl ?_
  refine g_aloadn (pc := 8) O rfl dX7_clear_8 ?_
  refine g_getS (pc := 9) O cls7 fl_X7_12 dX7_clear_9 rfl (ltb rfl) (ltb rfl) rfl rfl ?_
  refine g_iconst (v := (I 0)) (pc := 12) O rfl dX7_clear_12 ?_
  refine g_putI (pc := 13) O cls5 fl_X7_69 dX7_clear_13 rfl (ltb rfl) (leb rfl) (ltb rfl) rfl rfl (by decide +kernel) ?_
  refine g_iloadn (pc := 16) O rfl dX7_clear_16 ?_
  exact g_iret (pc := 17) O dX7_clear_17 H
set_option maxRecDepth 20000 in
set_option maxHeartbeats 2000000 in
theorem sX7_clear {g : mg} {l : Launch} {Q : Int32 → AH → Prop}  {h : AH} (H : Q (h.1 1 1) (sI h 1 1 (I 0))) : SpI g l mX7_clear h [.ref 0] Q := spI_of (by decide) (leb rfl) (fun X O => bX7_clear_0 O H)
set_option maxRecDepth 20000 in
set_option maxHeartbeats 2000000 in
theorem bX7_chip_0 {g : mg} {l : Launch} {X : XT} {Q : Int32 → AH → Prop} (O : Ok (FF g l X) RX7 cX7_chip 1 mX7_chip.2.2.2.2 (some .int))  {h : AH} (H : (((h.1 6 1) < (I 4)) → (SpV g l mX5_split h [.ref 1] (fun hv2 => ∃ j3 : Nat, (hv2.1 6 1) = I (j3 : Int) ∧ j3 < 4 ∧ (∃ b4 : Nat, hv2.2.2 7 j3 = some b4 ∧ lay b4 = (1, 5) ∧ (SpI g l mX1_read hv2 [.ref b4, .ref 1] (fun v5 hv5 => ((¬ v5 = 0) → (Q (((hv5.1 6 1) + (I 1)) - (I 1)) (sI (sI (sI hv5 1 1 (I 0)) 6 1 ((hv5.1 6 1) + (I 1))) 0 10 (I 0)))) ∧ ((v5 = 0) → (SpI g l mX5_fault hv5 [.ref 1] (fun v7 hv7 => Q ((I (-10)) - v7) hv7))))))))) ∧ ((¬ ((h.1 6 1) < (I 4))) → (Q (I (-3)) h))) : GI g l X Q h 0 [(0, .ref 0)] [] := by
  refine g_aloadn (pc := 0) O rfl dX7_chip_0 ?_
  refine g_getS (pc := 1) O cls7 fl_X7_19 dX7_chip_1 rfl (ltb rfl) (ltb rfl) rfl rfl ?_
  refine g_getI (v := h.1 6 1) (pc := 4) O cls4 fl_X7_73 dX7_chip_4 rfl (ltb rfl) (ltb rfl) rfl rfl ?_
  refine g_iconst (v := (I 4)) (pc := 7) O rfl dX7_chip_7 ?_
  refine g_icmp_lt (tgt := 14) (pc := 8) O dX7_chip_8 rfl (fun q1 => ?_) (fun q1 => ?_)
  · replace H := H.1 q1
    refine g_aloadn (pc := 14) O rfl dX7_chip_14 ?_
    refine g_getS (pc := 15) O cls7 fl_X7_12 dX7_chip_15 rfl (ltb rfl) (ltb rfl) rfl rfl ?_
    refine g_vV [] [] (pc := 18) O mk_X5_split ml_X7_76 im_X5_split se_X5_split cls5 rfl ⟨rfl, rfl, leb rfl, leb rfl⟩ rfl (leb rfl) dX7_chip_18 H rfl (fun hv2 H => ?_)
    refine g_aloadn (pc := 21) O rfl dX7_chip_21 ?_
    refine g_getS (pc := 22) O cls7 fl_X7_19 dX7_chip_22 rfl (ltb rfl) (ltb rfl) rfl rfl ?_
    refine g_getS (pc := 25) O cls4 fl_X7_79 dX7_chip_25 rfl (ltb rfl) (ltb rfl) rfl rfl ?_
    refine g_aloadn (pc := 28) O rfl dX7_chip_28 ?_
    refine g_getS (pc := 29) O cls7 fl_X7_19 dX7_chip_29 rfl (ltb rfl) (ltb rfl) rfl rfl ?_
    refine g_getI (v := hv2.1 6 1) (pc := 32) O cls4 fl_X7_73 dX7_chip_32 rfl (ltb rfl) (ltb rfl) rfl rfl ?_
    obtain ⟨j3, ej3, bj3, H⟩ := H
    obtain ⟨b4, rb4, hb4, H⟩ := H
    refine g_aald (t := 0) (j := j3) (pc := 35) O dX7_chip_35 ej3 (ltb rfl) rfl (ltb rfl) bj3 (ltb rfl) rb4 ?_
    refine g_aloadn (pc := 36) O rfl dX7_chip_36 ?_
    refine g_getS (pc := 37) O cls7 fl_X7_12 dX7_chip_37 rfl (ltb rfl) (ltb rfl) rfl rfl ?_
    refine g_vI [.ref 1] [] (pc := 40) O mk_X1_read ml_X7_83 im_X1_read se_X1_read cls1 hb4 ⟨rfl, rfl, leb rfl, leb rfl⟩ rfl (leb rfl) dX7_chip_40 H rfl (fun v5 hv5 H => ?_)
    refine g_if_ne (tgt := 57) (pc := 43) O dX7_chip_43 rfl (fun q6 => ?_) (fun q6 => ?_)
    · replace H := H.1 q6
      refine g_aloadn (pc := 57) O rfl dX7_chip_57 ?_
      refine g_getS (pc := 58) O cls7 fl_X7_12 dX7_chip_58 rfl (ltb rfl) (ltb rfl) rfl rfl ?_
      refine g_iconst (v := (I 0)) (pc := 61) O rfl dX7_chip_61 ?_
      refine g_putI (pc := 62) O cls5 fl_X7_69 dX7_chip_62 rfl (ltb rfl) (leb rfl) (ltb rfl) rfl rfl (by decide +kernel) ?_
      refine g_aloadn (pc := 65) O rfl dX7_chip_65 ?_
      refine g_getS (pc := 66) O cls7 fl_X7_19 dX7_chip_66 rfl (ltb rfl) (ltb rfl) rfl rfl ?_
      refine g_dup (pc := 69) O rfl dX7_chip_69 ?_
      refine g_getI (v := hv5.1 6 1) (pc := 70) O cls4 fl_X7_73 dX7_chip_70 rfl (ltb rfl) (ltb rfl) rfl rfl ?_
      refine g_iconst (v := (I 1)) (pc := 73) O rfl dX7_chip_73 ?_
      refine g_iadd (pc := 74) O dX7_chip_74 ?_
      refine g_putI (pc := 75) O cls4 fl_X7_73 dX7_chip_75 rfl (ltb rfl) (leb rfl) (ltb rfl) rfl rfl (by decide +kernel) ?_
      refine g_aloadn (pc := 78) O rfl dX7_chip_78 ?_
      refine g_iconst (v := (I 0)) (pc := 79) O rfl dX7_chip_79 ?_
      refine g_putZ (pc := 80) O cls7 fl_X7_93 dX7_chip_80 rfl (ltb rfl) (leb rfl) (ltb rfl) rfl rfl (by decide +kernel) (by decide) ?_
      refine g_aloadn (pc := 83) O rfl dX7_chip_83 ?_
      refine g_getS (pc := 84) O cls7 fl_X7_19 dX7_chip_84 rfl (ltb rfl) (ltb rfl) rfl rfl ?_
      refine g_getI (v := ((hv5.1 6 1) + (I 1))) (pc := 87) O cls4 fl_X7_73 dX7_chip_87 rfl (ltb rfl) (ltb rfl) rfl rfl ?_
      refine g_iconst (v := (I 1)) (pc := 90) O rfl dX7_chip_90 ?_
      refine g_isub (pc := 91) O dX7_chip_91 ?_
      exact g_iret (pc := 92) O dX7_chip_92 H
    · replace H := H.2 q6
      refine g_bipush (v := (I (-10))) (pc := 46) O (by decide) dX7_chip_46 ?_
      refine g_aloadn (pc := 48) O rfl dX7_chip_48 ?_
      refine g_getS (pc := 49) O cls7 fl_X7_12 dX7_chip_49 rfl (ltb rfl) (ltb rfl) rfl rfl ?_
      refine g_vI [] [.int (I (-10))] (pc := 52) O mk_X5_fault ml_X7_89 im_X5_fault se_X5_fault cls5 rfl ⟨rfl, rfl, leb rfl, leb rfl⟩ rfl (leb rfl) dX7_chip_52 H rfl (fun v7 hv7 H => ?_)
      refine g_isub (pc := 55) O dX7_chip_55 ?_
      exact g_iret (pc := 56) O dX7_chip_56 H
  · replace H := H.2 q1
    refine g_bipush (v := (I (-3))) (pc := 11) O (by decide) dX7_chip_11 ?_
    exact g_iret (pc := 13) O dX7_chip_13 H
set_option maxRecDepth 20000 in
set_option maxHeartbeats 2000000 in
theorem sX7_chip {g : mg} {l : Launch} {Q : Int32 → AH → Prop}  {h : AH} (H : (((h.1 6 1) < (I 4)) → (SpV g l mX5_split h [.ref 1] (fun hv2 => ∃ j3 : Nat, (hv2.1 6 1) = I (j3 : Int) ∧ j3 < 4 ∧ (∃ b4 : Nat, hv2.2.2 7 j3 = some b4 ∧ lay b4 = (1, 5) ∧ (SpI g l mX1_read hv2 [.ref b4, .ref 1] (fun v5 hv5 => ((¬ v5 = 0) → (Q (((hv5.1 6 1) + (I 1)) - (I 1)) (sI (sI (sI hv5 1 1 (I 0)) 6 1 ((hv5.1 6 1) + (I 1))) 0 10 (I 0)))) ∧ ((v5 = 0) → (SpI g l mX5_fault hv5 [.ref 1] (fun v7 hv7 => Q ((I (-10)) - v7) hv7))))))))) ∧ ((¬ ((h.1 6 1) < (I 4))) → (Q (I (-3)) h))) : SpI g l mX7_chip h [.ref 0] Q := spI_of (by decide) (leb rfl) (fun X O => bX7_chip_0 O H)
set_option maxRecDepth 20000 in
set_option maxHeartbeats 2000000 in
theorem bX7_book_0 {g : mg} {l : Launch} {X : XT} {Q : Int32 → AH → Prop} (O : Ok (FF g l X) RX7 cX7_book 2 mX7_book.2.2.2.2 (some .int))  {h : AH} (H : SpV g l mX5_split h [.ref 1] (fun hv1 => ∃ b2 : Nat, hv1.2.2 0 9 = some b2 ∧ lay b2 = (0, 7) ∧ (SpI g l mX0_read hv1 [.ref b2, .ref 1] (fun v3 hv3 => ((¬ v3 = 0) → (∃ b5 : Nat, hv3.2.2 0 8 = some b5 ∧ lay b5 = (0, 7) ∧ (∃ b6 : Nat, hv3.2.2 0 9 = some b6 ∧ lay b6 = (0, 7) ∧ (Q ((sI (sI (sR (sR hv3 0 8 (some b6)) 0 9 (some b5)) 1 1 (I 0)) 0 10 (I 0)).1 b6 6) (sI (sI (sR (sR hv3 0 8 (some b6)) 0 9 (some b5)) 1 1 (I 0)) 0 10 (I 0)))))) ∧ ((v3 = 0) → (SpI g l mX5_fault hv3 [.ref 1] (fun v7 hv7 => Q ((I (-10)) - v7) hv7))))))) : GI g l X Q h 0 [(0, .ref 0)] [] := by
  refine g_aloadn (pc := 0) O rfl dX7_book_0 ?_
  refine g_getS (pc := 1) O cls7 fl_X7_12 dX7_book_1 rfl (ltb rfl) (ltb rfl) rfl rfl ?_
  refine g_vV [] [] (pc := 4) O mk_X5_split ml_X7_76 im_X5_split se_X5_split cls5 rfl ⟨rfl, rfl, leb rfl, leb rfl⟩ rfl (leb rfl) dX7_book_4 H rfl (fun hv1 H => ?_)
  refine g_aloadn (pc := 7) O rfl dX7_book_7 ?_
  obtain ⟨b2, rb2, hb2, H⟩ := H
  refine g_getR (pc := 8) O cls7 fl_X7_62 dX7_book_8 rfl (ltb rfl) (ltb rfl) rfl rfl rb2 ?_
  refine g_aloadn (pc := 11) O rfl dX7_book_11 ?_
  refine g_getS (pc := 12) O cls7 fl_X7_12 dX7_book_12 rfl (ltb rfl) (ltb rfl) rfl rfl ?_
  refine g_vI [.ref 1] [] (pc := 15) O mk_X0_read ml_X7_97 im_X0_read se_X0_read cls0 hb2 ⟨rfl, rfl, leb rfl, leb rfl⟩ rfl (leb rfl) dX7_book_15 H rfl (fun v3 hv3 H => ?_)
  refine g_if_ne (tgt := 32) (pc := 18) O dX7_book_18 rfl (fun q4 => ?_) (fun q4 => ?_)
  · replace H := H.1 q4
    refine g_aloadn (pc := 32) O rfl dX7_book_32 ?_
    obtain ⟨b5, rb5, hb5, H⟩ := H
    refine g_getR (pc := 33) O cls7 fl_X7_58 dX7_book_33 rfl (ltb rfl) (ltb rfl) rfl rfl rb5 ?_
    refine g_astoren (lv' := [(0, .ref 0), (1, .ref b5)]) (pc := 36) O dX7_book_36 rfl (ltb rfl) rfl ?_
    refine g_aloadn (pc := 37) O rfl dX7_book_37 ?_
    refine g_aloadn (pc := 38) O rfl dX7_book_38 ?_
    obtain ⟨b6, rb6, hb6, H⟩ := H
    refine g_getR (pc := 39) O cls7 fl_X7_62 dX7_book_39 rfl (ltb rfl) (ltb rfl) rfl rfl rb6 ?_
    refine g_putR (ty := (.object "CoatRows$Book")) (pc := 42) O cls7 fl_X7_58 dX7_book_42 rfl (ltb rfl) (leb rfl) (ltb rfl) rfl rfl rfl (by decide +kernel) rfl rfl ?_
    refine g_aloadn (pc := 45) O rfl dX7_book_45 ?_
    refine g_aloadn (pc := 46) O rfl dX7_book_46 ?_
    refine g_putR (ty := (.object "CoatRows$Book")) (pc := 47) O cls7 fl_X7_62 dX7_book_47 rfl (ltb rfl) (leb rfl) (ltb rfl) rfl rfl rfl (by decide +kernel) rfl rfl ?_
    refine g_aloadn (pc := 50) O rfl dX7_book_50 ?_
    refine g_getS (pc := 51) O cls7 fl_X7_12 dX7_book_51 rfl (ltb rfl) (ltb rfl) rfl rfl ?_
    refine g_iconst (v := (I 0)) (pc := 54) O rfl dX7_book_54 ?_
    refine g_putI (pc := 55) O cls5 fl_X7_69 dX7_book_55 rfl (ltb rfl) (leb rfl) (ltb rfl) rfl rfl (by decide +kernel) ?_
    refine g_aloadn (pc := 58) O rfl dX7_book_58 ?_
    refine g_iconst (v := (I 0)) (pc := 59) O rfl dX7_book_59 ?_
    refine g_putZ (pc := 60) O cls7 fl_X7_93 dX7_book_60 rfl (ltb rfl) (leb rfl) (ltb rfl) rfl rfl (by decide +kernel) (by decide) ?_
    refine g_aloadn (pc := 63) O rfl dX7_book_63 ?_
    refine g_getR (pc := 64) O cls7 fl_X7_58 dX7_book_64 rfl (ltb rfl) (ltb rfl) rfl rfl rfl ?_
    refine g_getI (v := (sI (sI (sR (sR hv3 0 8 (some b6)) 0 9 (some b5)) 1 1 (I 0)) 0 10 (I 0)).1 b6 6) (pc := 67) O cls0 fl_X7_98 dX7_book_67 hb6 (lay_lt hb6 (by decide)) (ltb rfl) rfl rfl ?_
    exact g_iret (pc := 70) O dX7_book_70 H
  · replace H := H.2 q4
    refine g_bipush (v := (I (-10))) (pc := 21) O (by decide) dX7_book_21 ?_
    refine g_aloadn (pc := 23) O rfl dX7_book_23 ?_
    refine g_getS (pc := 24) O cls7 fl_X7_12 dX7_book_24 rfl (ltb rfl) (ltb rfl) rfl rfl ?_
    refine g_vI [] [.int (I (-10))] (pc := 27) O mk_X5_fault ml_X7_89 im_X5_fault se_X5_fault cls5 rfl ⟨rfl, rfl, leb rfl, leb rfl⟩ rfl (leb rfl) dX7_book_27 H rfl (fun v7 hv7 H => ?_)
    refine g_isub (pc := 30) O dX7_book_30 ?_
    exact g_iret (pc := 31) O dX7_book_31 H
set_option maxRecDepth 20000 in
set_option maxHeartbeats 2000000 in
theorem sX7_book {g : mg} {l : Launch} {Q : Int32 → AH → Prop}  {h : AH} (H : SpV g l mX5_split h [.ref 1] (fun hv1 => ∃ b2 : Nat, hv1.2.2 0 9 = some b2 ∧ lay b2 = (0, 7) ∧ (SpI g l mX0_read hv1 [.ref b2, .ref 1] (fun v3 hv3 => ((¬ v3 = 0) → (∃ b5 : Nat, hv3.2.2 0 8 = some b5 ∧ lay b5 = (0, 7) ∧ (∃ b6 : Nat, hv3.2.2 0 9 = some b6 ∧ lay b6 = (0, 7) ∧ (Q ((sI (sI (sR (sR hv3 0 8 (some b6)) 0 9 (some b5)) 1 1 (I 0)) 0 10 (I 0)).1 b6 6) (sI (sI (sR (sR hv3 0 8 (some b6)) 0 9 (some b5)) 1 1 (I 0)) 0 10 (I 0)))))) ∧ ((v3 = 0) → (SpI g l mX5_fault hv3 [.ref 1] (fun v7 hv7 => Q ((I (-10)) - v7) hv7))))))) : SpI g l mX7_book h [.ref 0] Q := spI_of (by decide) (leb rfl) (fun X O => bX7_book_0 O H)
set_option maxRecDepth 20000 in
set_option maxHeartbeats 2000000 in
theorem bX7_drop_0 {g : mg} {l : Launch} {X : XT} {Q : Int32 → AH → Prop} (O : Ok (FF g l X) RX7 cX7_drop 2 mX7_drop.2.2.2.2 (some .int)) {x1 : Int32} {h : AH} (H : SpI g l mX7_isChip h [.ref 0, .int x1] (fun v1 hv1 => ((¬ v1 = 0) → (SpV g l mX4_takeOut hv1 [.ref 6, .int x1] (fun hv3 => Q (hv3.1 6 1) (sI hv3 0 10 (I 0))))) ∧ ((v1 = 0) → (Q (I (-1)) hv1)))) : GI g l X Q h 0 [(0, .ref 0), (1, .int x1)] [] := by
  refine g_aloadn (pc := 0) O rfl dX7_drop_0 ?_
  refine g_iloadn (pc := 1) O rfl dX7_drop_1 ?_
  refine g_vI [.int x1] [] (pc := 2) O mk_X7_isChip ml_X7_101 im_X7_isChip se_X7_isChip cls7 rfl ⟨rfl, rfl, leb rfl, leb rfl⟩ rfl (leb rfl) dX7_drop_2 H rfl (fun v1 hv1 H => ?_)
  refine g_if_ne (tgt := 10) (pc := 5) O dX7_drop_5 rfl (fun q2 => ?_) (fun q2 => ?_)
  · replace H := H.1 q2
    refine g_aloadn (pc := 10) O rfl dX7_drop_10 ?_
    refine g_getS (pc := 11) O cls7 fl_X7_19 dX7_drop_11 rfl (ltb rfl) (ltb rfl) rfl rfl ?_
    refine g_iloadn (pc := 14) O rfl dX7_drop_14 ?_
    refine g_vV [.int x1] [] (pc := 15) O mk_X4_takeOut ml_X7_105 im_X4_takeOut se_X4_takeOut cls4 rfl ⟨rfl, rfl, leb rfl, leb rfl⟩ rfl (leb rfl) dX7_drop_15 H rfl (fun hv3 H => ?_)
    refine g_aloadn (pc := 18) O rfl dX7_drop_18 ?_
    refine g_iconst (v := (I 0)) (pc := 19) O rfl dX7_drop_19 ?_
    refine g_putZ (pc := 20) O cls7 fl_X7_93 dX7_drop_20 rfl (ltb rfl) (leb rfl) (ltb rfl) rfl rfl (by decide +kernel) (by decide) ?_
    refine g_aloadn (pc := 23) O rfl dX7_drop_23 ?_
    refine g_getS (pc := 24) O cls7 fl_X7_19 dX7_drop_24 rfl (ltb rfl) (ltb rfl) rfl rfl ?_
    refine g_getI (v := hv3.1 6 1) (pc := 27) O cls4 fl_X7_73 dX7_drop_27 rfl (ltb rfl) (ltb rfl) rfl rfl ?_
    exact g_iret (pc := 30) O dX7_drop_30 H
  · replace H := H.2 q2
    refine g_iconst (v := (I (-1))) (pc := 8) O rfl dX7_drop_8 ?_
    exact g_iret (pc := 9) O dX7_drop_9 H
set_option maxRecDepth 20000 in
set_option maxHeartbeats 2000000 in
theorem sX7_drop {g : mg} {l : Launch} {Q : Int32 → AH → Prop} {x1 : Int32} {h : AH} (H : SpI g l mX7_isChip h [.ref 0, .int x1] (fun v1 hv1 => ((¬ v1 = 0) → (SpV g l mX4_takeOut hv1 [.ref 6, .int x1] (fun hv3 => Q (hv3.1 6 1) (sI hv3 0 10 (I 0))))) ∧ ((v1 = 0) → (Q (I (-1)) hv1)))) : SpI g l mX7_drop h [.ref 0, .int x1] Q := spI_of (by decide) (leb rfl) (fun X O => bX7_drop_0 O H)
set_option maxRecDepth 20000 in
set_option maxHeartbeats 2000000 in
theorem bX7_about_0 {g : mg} {l : Launch} {X : XT} {Q : Int32 → AH → Prop} (O : Ok (FF g l X) RX7 cX7_about 4 mX7_about.2.2.2.2 (some .int)) {x1 : Int32} {x2 : Int32} {h : AH} (H : SpI g l mX7_isChip h [.ref 0, .int x1] (fun v1 hv1 => ((¬ v1 = 0) → (∃ j3 : Nat, x1 = I (j3 : Int) ∧ j3 < 4 ∧ (∃ b4 : Nat, hv1.2.2 7 j3 = some b4 ∧ lay b4 = (1, 5) ∧ ((x2 = I 0 → (Q (hv1.1 b4 2) hv1)) ∧ (x2 = I 1 → ((((hv1.1 b4 4) = 0) → (Q (I 0) hv1)) ∧ ((¬ ((hv1.1 b4 4) = 0)) → (Q (I 1) hv1)))) ∧ (x2 = I 2 → (Q (hv1.1 b4 3) hv1)) ∧ ((∀ j : Nat, j < 3 → ¬ x2 = I (j : Int)) → (Q (I (-1)) hv1)))))) ∧ ((v1 = 0) → (Q (I (-1)) hv1)))) : GI g l X Q h 0 [(0, .ref 0), (1, .int x1), (2, .int x2)] [] := by
  refine g_aloadn (pc := 0) O rfl dX7_about_0 ?_
  refine g_iloadn (pc := 1) O rfl dX7_about_1 ?_
  refine g_vI [.int x1] [] (pc := 2) O mk_X7_isChip ml_X7_101 im_X7_isChip se_X7_isChip cls7 rfl ⟨rfl, rfl, leb rfl, leb rfl⟩ rfl (leb rfl) dX7_about_2 H rfl (fun v1 hv1 H => ?_)
  refine g_if_ne (tgt := 10) (pc := 5) O dX7_about_5 rfl (fun q2 => ?_) (fun q2 => ?_)
  · replace H := H.1 q2
    refine g_aloadn (pc := 10) O rfl dX7_about_10 ?_
    refine g_getS (pc := 11) O cls7 fl_X7_19 dX7_about_11 rfl (ltb rfl) (ltb rfl) rfl rfl ?_
    refine g_getS (pc := 14) O cls4 fl_X7_79 dX7_about_14 rfl (ltb rfl) (ltb rfl) rfl rfl ?_
    refine g_iloadn (pc := 17) O rfl dX7_about_17 ?_
    obtain ⟨j3, ej3, bj3, H⟩ := H
    obtain ⟨b4, rb4, hb4, H⟩ := H
    refine g_aald (t := 0) (j := j3) (pc := 18) O dX7_about_18 ej3 (ltb rfl) rfl (ltb rfl) bj3 (ltb rfl) rb4 ?_
    refine g_astoren (lv' := [(0, .ref 0), (1, .int x1), (2, .int x2), (3, .ref b4)]) (pc := 19) O dX7_about_19 rfl (ltb rfl) rfl ?_
    refine g_iloadn (pc := 20) O rfl dX7_about_20 ?_
    refine g_tab (n := 3) (pc := 21) O dX7_about_21 rfl rfl (leb rfl) (fun j hj q => ?_) (fun q => ?_)
    · match j, hj, q with
      | 0, _, q =>
        refine ⟨48, rfl, ?_⟩
        replace H := H.1 q
        refine g_aloadn (pc := 48) O rfl dX7_about_48 ?_
        refine g_getI (v := hv1.1 b4 2) (pc := 49) O cls1 fl_X7_109 dX7_about_49 hb4 (lay_lt hb4 (by decide)) (ltb rfl) rfl rfl ?_
        exact g_iret (pc := 52) O dX7_about_52 H
      | 1, _, q =>
        refine ⟨53, rfl, ?_⟩
        replace H := H.2.1 q
        refine g_aloadn (pc := 53) O rfl dX7_about_53 ?_
        refine g_getI (v := hv1.1 b4 4) (pc := 54) O cls1 fl_X7_112 dX7_about_54 hb4 (lay_lt hb4 (by decide)) (ltb rfl) rfl rfl ?_
        refine g_if_eq (tgt := 64) (pc := 57) O dX7_about_57 rfl (fun q5 => ?_) (fun q5 => ?_)
        · replace H := H.1 q5
          refine g_iconst (v := (I 0)) (pc := 64) O rfl dX7_about_64 ?_
          exact g_iret (pc := 65) O dX7_about_65 H
        · replace H := H.2 q5
          refine g_iconst (v := (I 1)) (pc := 60) O rfl dX7_about_60 ?_
          refine g_goto (tgt := 65) (pc := 61) O dX7_about_61 rfl ?_
          exact g_iret (pc := 65) O dX7_about_65 H
      | 2, _, q =>
        refine ⟨66, rfl, ?_⟩
        replace H := H.2.2.1 q
        refine g_aloadn (pc := 66) O rfl dX7_about_66 ?_
        refine g_getI (v := hv1.1 b4 3) (pc := 67) O cls1 fl_X7_115 dX7_about_67 hb4 (lay_lt hb4 (by decide)) (ltb rfl) rfl rfl ?_
        exact g_iret (pc := 70) O dX7_about_70 H
      | j + 3, hj, _ => exact absurd hj (by omega)
    · refine ⟨71, rfl, ?_⟩
      replace H := H.2.2.2 q
      refine g_iconst (v := (I (-1))) (pc := 71) O rfl dX7_about_71 ?_
      exact g_iret (pc := 72) O dX7_about_72 H
  · replace H := H.2 q2
    refine g_iconst (v := (I (-1))) (pc := 8) O rfl dX7_about_8 ?_
    exact g_iret (pc := 9) O dX7_about_9 H
set_option maxRecDepth 20000 in
set_option maxHeartbeats 2000000 in
theorem sX7_about {g : mg} {l : Launch} {Q : Int32 → AH → Prop} {x1 : Int32} {x2 : Int32} {h : AH} (H : SpI g l mX7_isChip h [.ref 0, .int x1] (fun v1 hv1 => ((¬ v1 = 0) → (∃ j3 : Nat, x1 = I (j3 : Int) ∧ j3 < 4 ∧ (∃ b4 : Nat, hv1.2.2 7 j3 = some b4 ∧ lay b4 = (1, 5) ∧ ((x2 = I 0 → (Q (hv1.1 b4 2) hv1)) ∧ (x2 = I 1 → ((((hv1.1 b4 4) = 0) → (Q (I 0) hv1)) ∧ ((¬ ((hv1.1 b4 4) = 0)) → (Q (I 1) hv1)))) ∧ (x2 = I 2 → (Q (hv1.1 b4 3) hv1)) ∧ ((∀ j : Nat, j < 3 → ¬ x2 = I (j : Int)) → (Q (I (-1)) hv1)))))) ∧ ((v1 = 0) → (Q (I (-1)) hv1)))) : SpI g l mX7_about h [.ref 0, .int x1, .int x2] Q := spI_of (by decide) (leb rfl) (fun X O => bX7_about_0 O H)
set_option maxRecDepth 20000 in
set_option maxHeartbeats 2000000 in
theorem bX7_coat_0 {g : mg} {l : Launch} {X : XT} {Q : Int32 → AH → Prop} (O : Ok (FF g l X) RX7 cX7_coat 4 mX7_coat.2.2.2.2 (some .int)) {x1 : Int32} {x2 : Int32} {x3 : Int32} {h : AH} (H : SpI g l mX7_isCoat h [.ref 0, .int x1, .int x2] (fun v1 hv1 => ((¬ v1 = 0) → ((x3 = I 0 → (∃ j3 : Nat, x1 = I (j3 : Int) ∧ j3 < 4 ∧ (∃ b4 : Nat, hv1.2.2 7 j3 = some b4 ∧ lay b4 = (1, 5) ∧ (∃ j5 : Nat, x2 = I (j5 : Int) ∧ j5 < 10 ∧ (Q (hv1.1 (b4 + 1) j5) hv1))))) ∧ (x3 = I 1 → (∃ j6 : Nat, x1 = I (j6 : Int) ∧ j6 < 4 ∧ (∃ b7 : Nat, hv1.2.2 7 j6 = some b7 ∧ lay b7 = (1, 5) ∧ (∃ j8 : Nat, x2 = I (j8 : Int) ∧ j8 < 10 ∧ (Q (hv1.1 (b7 + 2) j8) hv1))))) ∧ (x3 = I 2 → (SpV g l mX7_settle hv1 [.ref 0] (fun hv9 => SpI g l mX7_paintingOf hv9 [.ref 0, .int x1, .int x2] (fun v10 hv10 => Q v10 hv10)))) ∧ ((∀ j : Nat, j < 3 → ¬ x3 = I (j : Int)) → (Q (I (-1)) hv1)))) ∧ ((v1 = 0) → (Q (I (-1)) hv1)))) : GIA g l X Q h 0 [(0, .ref 0), (1, .int x1), (2, .int x2), (3, .int x3)] [] := by
  refine g_aloadn (pc := 0) O rfl dX7_coat_0 ?_
  refine g_iloadn (pc := 1) O rfl dX7_coat_1 ?_
  refine g_iloadn (pc := 2) O rfl dX7_coat_2 ?_
  refine g_vI0 [.int x1, .int x2] [] (pc := 3) O mk_X7_isCoat ml_X7_118 im_X7_isCoat se_X7_isCoat cls7 rfl ⟨rfl, rfl, leb rfl, leb rfl⟩ rfl (leb rfl) dX7_coat_3 H rfl (fun v1 hv1 H => ?_)
  refine g_if_ne (tgt := 11) (pc := 6) O dX7_coat_6 rfl (fun q2 => ?_) (fun q2 => ?_)
  · replace H := H.1 q2
    refine g_iloadn (pc := 11) O rfl dX7_coat_11 ?_
    refine g_tab (n := 3) (pc := 12) O dX7_coat_12 rfl rfl (leb rfl) (fun j hj q => ?_) (fun q => ?_)
    · match j, hj, q with
      | 0, _, q =>
        refine ⟨40, rfl, ?_⟩
        replace H := H.1 q
        refine g_wR ?_
        refine g_aloadn (pc := 40) O rfl dX7_coat_40 ?_
        refine g_getS (pc := 41) O cls7 fl_X7_19 dX7_coat_41 rfl (ltb rfl) (ltb rfl) rfl rfl ?_
        refine g_getS (pc := 44) O cls4 fl_X7_79 dX7_coat_44 rfl (ltb rfl) (ltb rfl) rfl rfl ?_
        refine g_iloadn (pc := 47) O rfl dX7_coat_47 ?_
        obtain ⟨j3, ej3, bj3, H⟩ := H
        obtain ⟨b4, rb4, hb4, H⟩ := H
        refine g_aald (t := 0) (j := j3) (pc := 48) O dX7_coat_48 ej3 (ltb rfl) rfl (ltb rfl) bj3 (ltb rfl) rb4 ?_
        refine g_getS (pc := 49) O cls1 fl_X7_122 dX7_coat_49 hb4 (lay_lt hb4 (by decide)) (ltb rfl) rfl (sr_chip0 hb4) ?_
        refine g_iloadn (pc := 52) O rfl dX7_coat_52 ?_
        obtain ⟨j5, ej5, bj5, H⟩ := H
        refine g_iald (j := j5) (pc := 53) O dX7_coat_53 ej5 (lay_chip0 hb4) (lay_lt (lay_chip0 hb4) (by decide)) bj5 (ltb rfl) rfl ?_
        exact g_iret (pc := 54) O dX7_coat_54 H
      | 1, _, q =>
        refine ⟨55, rfl, ?_⟩
        replace H := H.2.1 q
        refine g_wR ?_
        refine g_aloadn (pc := 55) O rfl dX7_coat_55 ?_
        refine g_getS (pc := 56) O cls7 fl_X7_19 dX7_coat_56 rfl (ltb rfl) (ltb rfl) rfl rfl ?_
        refine g_getS (pc := 59) O cls4 fl_X7_79 dX7_coat_59 rfl (ltb rfl) (ltb rfl) rfl rfl ?_
        refine g_iloadn (pc := 62) O rfl dX7_coat_62 ?_
        obtain ⟨j6, ej6, bj6, H⟩ := H
        obtain ⟨b7, rb7, hb7, H⟩ := H
        refine g_aald (t := 0) (j := j6) (pc := 63) O dX7_coat_63 ej6 (ltb rfl) rfl (ltb rfl) bj6 (ltb rfl) rb7 ?_
        refine g_getS (pc := 64) O cls1 fl_X7_125 dX7_coat_64 hb7 (lay_lt hb7 (by decide)) (ltb rfl) rfl (sr_chip1 hb7) ?_
        refine g_iloadn (pc := 67) O rfl dX7_coat_67 ?_
        obtain ⟨j8, ej8, bj8, H⟩ := H
        refine g_iald (j := j8) (pc := 68) O dX7_coat_68 ej8 (lay_chip1 hb7) (lay_lt (lay_chip1 hb7) (by decide)) bj8 (ltb rfl) rfl ?_
        exact g_iret (pc := 69) O dX7_coat_69 H
      | 2, _, q =>
        refine ⟨70, rfl, ?_⟩
        replace H := H.2.2.1 q
        refine g_aloadn (pc := 70) O rfl dX7_coat_70 ?_
        refine g_vVA [] [] (pc := 71) O mk_X7_settle ml_X7_128 im_X7_settle se_X7_settle cls7 rfl ⟨leb rfl, leb rfl, leb rfl, leb rfl⟩ rfl (leb rfl) dX7_coat_71 H rfl (fun hv9 H => ?_)
        refine g_aloadn (pc := 74) O rfl dX7_coat_74 ?_
        refine g_iloadn (pc := 75) O rfl dX7_coat_75 ?_
        refine g_iloadn (pc := 76) O rfl dX7_coat_76 ?_
        refine g_vI [.int x1, .int x2] [] (pc := 77) O mk_X7_paintingOf ml_X7_131 im_X7_paintingOf se_X7_paintingOf cls7 rfl ⟨rfl, rfl, leb rfl, leb rfl⟩ rfl (leb rfl) dX7_coat_77 H rfl (fun v10 hv10 H => ?_)
        exact g_iret (pc := 80) O dX7_coat_80 H
      | j + 3, hj, _ => exact absurd hj (by omega)
    · refine ⟨81, rfl, ?_⟩
      replace H := H.2.2.2 q
      refine g_wR ?_
      refine g_iconst (v := (I (-1))) (pc := 81) O rfl dX7_coat_81 ?_
      exact g_iret (pc := 82) O dX7_coat_82 H
  · replace H := H.2 q2
    refine g_wR ?_
    refine g_iconst (v := (I (-1))) (pc := 9) O rfl dX7_coat_9 ?_
    exact g_iret (pc := 10) O dX7_coat_10 H
set_option maxRecDepth 20000 in
set_option maxHeartbeats 2000000 in
theorem sX7_coat {g : mg} {l : Launch} {Q : Int32 → AH → Prop} {x1 : Int32} {x2 : Int32} {x3 : Int32} {h : AH} (H : SpI g l mX7_isCoat h [.ref 0, .int x1, .int x2] (fun v1 hv1 => ((¬ v1 = 0) → ((x3 = I 0 → (∃ j3 : Nat, x1 = I (j3 : Int) ∧ j3 < 4 ∧ (∃ b4 : Nat, hv1.2.2 7 j3 = some b4 ∧ lay b4 = (1, 5) ∧ (∃ j5 : Nat, x2 = I (j5 : Int) ∧ j5 < 10 ∧ (Q (hv1.1 (b4 + 1) j5) hv1))))) ∧ (x3 = I 1 → (∃ j6 : Nat, x1 = I (j6 : Int) ∧ j6 < 4 ∧ (∃ b7 : Nat, hv1.2.2 7 j6 = some b7 ∧ lay b7 = (1, 5) ∧ (∃ j8 : Nat, x2 = I (j8 : Int) ∧ j8 < 10 ∧ (Q (hv1.1 (b7 + 2) j8) hv1))))) ∧ (x3 = I 2 → (SpV g l mX7_settle hv1 [.ref 0] (fun hv9 => SpI g l mX7_paintingOf hv9 [.ref 0, .int x1, .int x2] (fun v10 hv10 => Q v10 hv10)))) ∧ ((∀ j : Nat, j < 3 → ¬ x3 = I (j : Int)) → (Q (I (-1)) hv1)))) ∧ ((v1 = 0) → (Q (I (-1)) hv1)))) : SpI g l mX7_coat h [.ref 0, .int x1, .int x2, .int x3] Q := spI_ofA (by decide) (leb rfl) (fun X O => bX7_coat_0 O H)
set_option maxRecDepth 20000 in
set_option maxHeartbeats 2000000 in
theorem bX7_colour_0 {g : mg} {l : Launch} {X : XT} {Q : Int32 → AH → Prop} (O : Ok (FF g l X) RX7 cX7_colour 3 mX7_colour.2.2.2.2 (some .int)) {x1 : Int32} {x2 : Int32} {h : AH} (H : ((x1 < 0) → (Q (I (-1)) h)) ∧ ((¬ (x1 < 0)) → (((x1 < (I 12)) → ((x2 = I 0 → (∃ b3 : Nat, h.2.2 0 8 = some b3 ∧ lay b3 = (0, 7) ∧ (∃ j4 : Nat, x1 = I (j4 : Int) ∧ j4 < 12 ∧ (Q (h.1 (b3 + 1) j4) h)))) ∧ (x2 = I 1 → (∃ b5 : Nat, h.2.2 0 8 = some b5 ∧ lay b5 = (0, 7) ∧ (∃ j6 : Nat, x1 = I (j6 : Int) ∧ j6 < 12 ∧ (Q (h.1 (b5 + 2) j6) h)))) ∧ (x2 = I 2 → (∃ b7 : Nat, h.2.2 0 8 = some b7 ∧ lay b7 = (0, 7) ∧ (∃ j8 : Nat, x1 = I (j8 : Int) ∧ j8 < 12 ∧ (Q (h.1 (b7 + 3) j8) h)))) ∧ ((∀ j : Nat, j < 3 → ¬ x2 = I (j : Int)) → (Q (I (-1)) h)))) ∧ ((¬ (x1 < (I 12))) → (Q (I (-1)) h))))) : GI g l X Q h 0 [(0, .ref 0), (1, .int x1), (2, .int x2)] [] := by
  refine g_iloadn (pc := 0) O rfl dX7_colour_0 ?_
  refine g_if_lt (tgt := 10) (pc := 1) O dX7_colour_1 rfl (fun q1 => ?_) (fun q1 => ?_)
  · replace H := H.1 q1
    refine g_iconst (v := (I (-1))) (pc := 10) O rfl dX7_colour_10 ?_
    exact g_iret (pc := 11) O dX7_colour_11 H
  · replace H := H.2 q1
    refine g_iloadn (pc := 4) O rfl dX7_colour_4 ?_
    refine g_bipush (v := (I 12)) (pc := 5) O (by decide) dX7_colour_5 ?_
    refine g_icmp_lt (tgt := 12) (pc := 7) O dX7_colour_7 rfl (fun q2 => ?_) (fun q2 => ?_)
    · replace H := H.1 q2
      refine g_iloadn (pc := 12) O rfl dX7_colour_12 ?_
      refine g_tab (n := 3) (pc := 13) O dX7_colour_13 rfl rfl (leb rfl) (fun j hj q => ?_) (fun q => ?_)
      · match j, hj, q with
        | 0, _, q =>
          refine ⟨40, rfl, ?_⟩
          replace H := H.1 q
          refine g_aloadn (pc := 40) O rfl dX7_colour_40 ?_
          obtain ⟨b3, rb3, hb3, H⟩ := H
          refine g_getR (pc := 41) O cls7 fl_X7_58 dX7_colour_41 rfl (ltb rfl) (ltb rfl) rfl rfl rb3 ?_
          refine g_getS (pc := 44) O cls0 fl_X7_135 dX7_colour_44 hb3 (lay_lt hb3 (by decide)) (ltb rfl) rfl (sr_book0 hb3) ?_
          refine g_iloadn (pc := 47) O rfl dX7_colour_47 ?_
          obtain ⟨j4, ej4, bj4, H⟩ := H
          refine g_iald (j := j4) (pc := 48) O dX7_colour_48 ej4 (lay_book0 hb3) (lay_lt (lay_book0 hb3) (by decide)) bj4 (ltb rfl) rfl ?_
          exact g_iret (pc := 49) O dX7_colour_49 H
        | 1, _, q =>
          refine ⟨50, rfl, ?_⟩
          replace H := H.2.1 q
          refine g_aloadn (pc := 50) O rfl dX7_colour_50 ?_
          obtain ⟨b5, rb5, hb5, H⟩ := H
          refine g_getR (pc := 51) O cls7 fl_X7_58 dX7_colour_51 rfl (ltb rfl) (ltb rfl) rfl rfl rb5 ?_
          refine g_getS (pc := 54) O cls0 fl_X7_138 dX7_colour_54 hb5 (lay_lt hb5 (by decide)) (ltb rfl) rfl (sr_book1 hb5) ?_
          refine g_iloadn (pc := 57) O rfl dX7_colour_57 ?_
          obtain ⟨j6, ej6, bj6, H⟩ := H
          refine g_iald (j := j6) (pc := 58) O dX7_colour_58 ej6 (lay_book1 hb5) (lay_lt (lay_book1 hb5) (by decide)) bj6 (ltb rfl) rfl ?_
          exact g_iret (pc := 59) O dX7_colour_59 H
        | 2, _, q =>
          refine ⟨60, rfl, ?_⟩
          replace H := H.2.2.1 q
          refine g_aloadn (pc := 60) O rfl dX7_colour_60 ?_
          obtain ⟨b7, rb7, hb7, H⟩ := H
          refine g_getR (pc := 61) O cls7 fl_X7_58 dX7_colour_61 rfl (ltb rfl) (ltb rfl) rfl rfl rb7 ?_
          refine g_getS (pc := 64) O cls0 fl_X7_141 dX7_colour_64 hb7 (lay_lt hb7 (by decide)) (ltb rfl) rfl (sr_book2 hb7) ?_
          refine g_iloadn (pc := 67) O rfl dX7_colour_67 ?_
          obtain ⟨j8, ej8, bj8, H⟩ := H
          refine g_iald (j := j8) (pc := 68) O dX7_colour_68 ej8 (lay_book2 hb7) (lay_lt (lay_book2 hb7) (by decide)) bj8 (ltb rfl) rfl ?_
          exact g_iret (pc := 69) O dX7_colour_69 H
        | j + 3, hj, _ => exact absurd hj (by omega)
      · refine ⟨70, rfl, ?_⟩
        replace H := H.2.2.2 q
        refine g_iconst (v := (I (-1))) (pc := 70) O rfl dX7_colour_70 ?_
        exact g_iret (pc := 71) O dX7_colour_71 H
    · replace H := H.2 q2
      refine g_iconst (v := (I (-1))) (pc := 10) O rfl dX7_colour_10 ?_
      exact g_iret (pc := 11) O dX7_colour_11 H
set_option maxRecDepth 20000 in
set_option maxHeartbeats 2000000 in
theorem sX7_colour {g : mg} {l : Launch} {Q : Int32 → AH → Prop} {x1 : Int32} {x2 : Int32} {h : AH} (H : ((x1 < 0) → (Q (I (-1)) h)) ∧ ((¬ (x1 < 0)) → (((x1 < (I 12)) → ((x2 = I 0 → (∃ b3 : Nat, h.2.2 0 8 = some b3 ∧ lay b3 = (0, 7) ∧ (∃ j4 : Nat, x1 = I (j4 : Int) ∧ j4 < 12 ∧ (Q (h.1 (b3 + 1) j4) h)))) ∧ (x2 = I 1 → (∃ b5 : Nat, h.2.2 0 8 = some b5 ∧ lay b5 = (0, 7) ∧ (∃ j6 : Nat, x1 = I (j6 : Int) ∧ j6 < 12 ∧ (Q (h.1 (b5 + 2) j6) h)))) ∧ (x2 = I 2 → (∃ b7 : Nat, h.2.2 0 8 = some b7 ∧ lay b7 = (0, 7) ∧ (∃ j8 : Nat, x1 = I (j8 : Int) ∧ j8 < 12 ∧ (Q (h.1 (b7 + 3) j8) h)))) ∧ ((∀ j : Nat, j < 3 → ¬ x2 = I (j : Int)) → (Q (I (-1)) h)))) ∧ ((¬ (x1 < (I 12))) → (Q (I (-1)) h))))) : SpI g l mX7_colour h [.ref 0, .int x1, .int x2] Q := spI_of (by decide) (leb rfl) (fun X O => bX7_colour_0 O H)
set_option maxRecDepth 20000 in
set_option maxHeartbeats 2000000 in
theorem bX7_tune_0 {g : mg} {l : Launch} {X : XT} {Q : Int32 → AH → Prop} (O : Ok (FF g l X) RX7 cX7_tune 4 mX7_tune.2.2.2.2 (some .int)) {x1 : Int32} {x2 : Int32} {h : AH} (H : ((x1 < 0) → (Q (I (-1)) h)) ∧ ((¬ (x1 < 0)) → ((((I 5) ≤ x1) → (Q (I (-1)) h)) ∧ ((¬ ((I 5) ≤ x1)) → (∃ j3 : Nat, x1 = I (j3 : Int) ∧ j3 < 5 ∧ (((x2 < ((tuLo).getD j3 0)) → (Q (I (-1)) h)) ∧ ((¬ (x2 < ((tuLo).getD j3 0))) → (∃ j5 : Nat, x1 = I (j5 : Int) ∧ j5 < 5 ∧ (((x2 ≤ ((tuHi).getD j5 0)) → (∃ j7 : Nat, x1 = I (j7 : Int) ∧ j7 < 5 ∧ (∃ j8 : Nat, x1 = I (j8 : Int) ∧ j8 < 5 ∧ (((¬ x1 = (I 2)) → (Q (h.1 21 j7) (sI h 21 j8 x2))) ∧ ((x1 = (I 2)) → ((((h.1 21 j7) = x2) → (Q (h.1 21 j7) (sI h 21 j8 x2))) ∧ ((¬ ((h.1 21 j7) = x2)) → (Q (h.1 21 j7) (sI (sI h 21 j8 x2) 0 10 (I 0)))))))))) ∧ ((¬ (x2 ≤ ((tuHi).getD j5 0))) → (Q (I (-1)) h))))))))))) : GI g l X Q h 0 [(0, .ref 0), (1, .int x1), (2, .int x2)] [] := by
  refine g_iloadn (pc := 0) O rfl dX7_tune_0 ?_
  refine g_if_lt (tgt := 31) (pc := 1) O dX7_tune_1 rfl (fun q1 => ?_) (fun q1 => ?_)
  · replace H := H.1 q1
    refine g_iconst (v := (I (-1))) (pc := 31) O rfl dX7_tune_31 ?_
    exact g_iret (pc := 32) O dX7_tune_32 H
  · replace H := H.2 q1
    refine g_iloadn (pc := 4) O rfl dX7_tune_4 ?_
    refine g_aloadn (pc := 5) O rfl dX7_tune_5 ?_
    refine g_getS (pc := 6) O cls7 fl_X7_27 dX7_tune_6 rfl (ltb rfl) (ltb rfl) rfl rfl ?_
    refine g_alen (pc := 9) O dX7_tune_9 rfl (ltb rfl) ?_
    refine g_icmp_ge (tgt := 31) (pc := 10) O dX7_tune_10 rfl (fun q2 => ?_) (fun q2 => ?_)
    · replace H := H.1 q2
      refine g_iconst (v := (I (-1))) (pc := 31) O rfl dX7_tune_31 ?_
      exact g_iret (pc := 32) O dX7_tune_32 H
    · replace H := H.2 q2
      refine g_iloadn (pc := 13) O rfl dX7_tune_13 ?_
      refine g_gets1001 (pc := 14) O dX7_tune_14 ?_
      refine g_iloadn (pc := 17) O rfl dX7_tune_17 ?_
      obtain ⟨j3, ej3, bj3, H⟩ := H
      refine g_tald1001 (pc := 18) O dX7_tune_18 ej3 bj3 ?_
      refine g_icmp_lt (tgt := 31) (pc := 19) O dX7_tune_19 rfl (fun q4 => ?_) (fun q4 => ?_)
      · replace H := H.1 q4
        refine g_iconst (v := (I (-1))) (pc := 31) O rfl dX7_tune_31 ?_
        exact g_iret (pc := 32) O dX7_tune_32 H
      · replace H := H.2 q4
        refine g_iloadn (pc := 22) O rfl dX7_tune_22 ?_
        refine g_gets1002 (pc := 23) O dX7_tune_23 ?_
        refine g_iloadn (pc := 26) O rfl dX7_tune_26 ?_
        obtain ⟨j5, ej5, bj5, H⟩ := H
        refine g_tald1002 (pc := 27) O dX7_tune_27 ej5 bj5 ?_
        refine g_icmp_le (tgt := 33) (pc := 28) O dX7_tune_28 rfl (fun q6 => ?_) (fun q6 => ?_)
        · replace H := H.1 q6
          refine g_aloadn (pc := 33) O rfl dX7_tune_33 ?_
          refine g_getS (pc := 34) O cls7 fl_X7_27 dX7_tune_34 rfl (ltb rfl) (ltb rfl) rfl rfl ?_
          refine g_iloadn (pc := 37) O rfl dX7_tune_37 ?_
          obtain ⟨j7, ej7, bj7, H⟩ := H
          refine g_iald (j := j7) (pc := 38) O dX7_tune_38 ej7 rfl (ltb rfl) bj7 (ltb rfl) rfl ?_
          refine g_istoren (lv' := [(0, .ref 0), (1, .int x1), (2, .int x2), (3, .int (h.1 21 j7))]) (pc := 39) O dX7_tune_39 rfl (ltb rfl) rfl ?_
          refine g_aloadn (pc := 40) O rfl dX7_tune_40 ?_
          refine g_getS (pc := 41) O cls7 fl_X7_27 dX7_tune_41 rfl (ltb rfl) (ltb rfl) rfl rfl ?_
          refine g_iloadn (pc := 44) O rfl dX7_tune_44 ?_
          refine g_iloadn (pc := 45) O rfl dX7_tune_45 ?_
          obtain ⟨j8, ej8, bj8, H⟩ := H
          refine g_iast (j := j8) (pc := 46) O dX7_tune_46 ej8 rfl (ltb rfl) (leb rfl) bj8 (ltb rfl) ?_
          refine g_iloadn (pc := 47) O rfl dX7_tune_47 ?_
          refine g_iconst (v := (I 2)) (pc := 48) O rfl dX7_tune_48 ?_
          refine g_icmp_ne (tgt := 62) (pc := 49) O dX7_tune_49 rfl (fun q9 => ?_) (fun q9 => ?_)
          · replace H := H.1 q9
            refine g_iloadn (pc := 62) O rfl dX7_tune_62 ?_
            exact g_iret (pc := 63) O dX7_tune_63 H
          · replace H := H.2 q9
            refine g_iloadn (pc := 52) O rfl dX7_tune_52 ?_
            refine g_iloadn (pc := 53) O rfl dX7_tune_53 ?_
            refine g_icmp_eq (tgt := 62) (pc := 54) O dX7_tune_54 rfl (fun q10 => ?_) (fun q10 => ?_)
            · replace H := H.1 q10
              refine g_iloadn (pc := 62) O rfl dX7_tune_62 ?_
              exact g_iret (pc := 63) O dX7_tune_63 H
            · replace H := H.2 q10
              refine g_aloadn (pc := 57) O rfl dX7_tune_57 ?_
              refine g_iconst (v := (I 0)) (pc := 58) O rfl dX7_tune_58 ?_
              refine g_putZ (pc := 59) O cls7 fl_X7_93 dX7_tune_59 rfl (ltb rfl) (leb rfl) (ltb rfl) rfl rfl (by decide +kernel) (by decide) ?_
              refine g_iloadn (pc := 62) O rfl dX7_tune_62 ?_
              exact g_iret (pc := 63) O dX7_tune_63 H
        · replace H := H.2 q6
          refine g_iconst (v := (I (-1))) (pc := 31) O rfl dX7_tune_31 ?_
          exact g_iret (pc := 32) O dX7_tune_32 H
set_option maxRecDepth 20000 in
set_option maxHeartbeats 2000000 in
theorem sX7_tune {g : mg} {l : Launch} {Q : Int32 → AH → Prop} {x1 : Int32} {x2 : Int32} {h : AH} (H : ((x1 < 0) → (Q (I (-1)) h)) ∧ ((¬ (x1 < 0)) → ((((I 5) ≤ x1) → (Q (I (-1)) h)) ∧ ((¬ ((I 5) ≤ x1)) → (∃ j3 : Nat, x1 = I (j3 : Int) ∧ j3 < 5 ∧ (((x2 < ((tuLo).getD j3 0)) → (Q (I (-1)) h)) ∧ ((¬ (x2 < ((tuLo).getD j3 0))) → (∃ j5 : Nat, x1 = I (j5 : Int) ∧ j5 < 5 ∧ (((x2 ≤ ((tuHi).getD j5 0)) → (∃ j7 : Nat, x1 = I (j7 : Int) ∧ j7 < 5 ∧ (∃ j8 : Nat, x1 = I (j8 : Int) ∧ j8 < 5 ∧ (((¬ x1 = (I 2)) → (Q (h.1 21 j7) (sI h 21 j8 x2))) ∧ ((x1 = (I 2)) → ((((h.1 21 j7) = x2) → (Q (h.1 21 j7) (sI h 21 j8 x2))) ∧ ((¬ ((h.1 21 j7) = x2)) → (Q (h.1 21 j7) (sI (sI h 21 j8 x2) 0 10 (I 0)))))))))) ∧ ((¬ (x2 ≤ ((tuHi).getD j5 0))) → (Q (I (-1)) h))))))))))) : SpI g l mX7_tune h [.ref 0, .int x1, .int x2] Q := spI_of (by decide) (leb rfl) (fun X O => bX7_tune_0 O H)
set_option maxRecDepth 20000 in
set_option maxHeartbeats 2000000 in
theorem bX7_least_0 {g : mg} {l : Launch} {X : XT} {Q : Int32 → AH → Prop} (O : Ok (FF g l X) RX7 cX7_least 3 mX7_least.2.2.2.2 (some .int)) {x1 : Int32} {x2 : Int32} {h : AH} (H : SpI g l mX7_areTwo h [.ref 0, .int x1, .int x2] (fun v1 hv1 => ((¬ v1 = 0) → (SpV g l mX7_lay hv1 [.ref 0, .int x1, .int x2] (fun hv3 => SpI g l mX2_leastCost hv3 [.ref 23] (fun v4 hv4 => Q v4 hv4)))) ∧ ((v1 = 0) → (Q (I (-1)) hv1)))) : GI g l X Q h 0 [(0, .ref 0), (1, .int x1), (2, .int x2)] [] := by
  refine g_aloadn (pc := 0) O rfl dX7_least_0 ?_
  refine g_iloadn (pc := 1) O rfl dX7_least_1 ?_
  refine g_iloadn (pc := 2) O rfl dX7_least_2 ?_
  refine g_vI [.int x1, .int x2] [] (pc := 3) O mk_X7_areTwo ml_X7_150 im_X7_areTwo se_X7_areTwo cls7 rfl ⟨rfl, rfl, leb rfl, leb rfl⟩ rfl (leb rfl) dX7_least_3 H rfl (fun v1 hv1 H => ?_)
  refine g_if_ne (tgt := 11) (pc := 6) O dX7_least_6 rfl (fun q2 => ?_) (fun q2 => ?_)
  · replace H := H.1 q2
    refine g_aloadn (pc := 11) O rfl dX7_least_11 ?_
    refine g_iloadn (pc := 12) O rfl dX7_least_12 ?_
    refine g_iloadn (pc := 13) O rfl dX7_least_13 ?_
    refine g_vV [.int x1, .int x2] [] (pc := 14) O mk_X7_lay ml_X7_153 im_X7_lay se_X7_lay cls7 rfl ⟨rfl, rfl, leb rfl, leb rfl⟩ rfl (leb rfl) dX7_least_14 H rfl (fun hv3 H => ?_)
    refine g_aloadn (pc := 17) O rfl dX7_least_17 ?_
    refine g_getS (pc := 18) O cls7 fl_X7_37 dX7_least_18 rfl (ltb rfl) (ltb rfl) rfl rfl ?_
    refine g_vI [] [] (pc := 21) O mk_X2_leastCost ml_X7_157 im_X2_leastCost se_X2_leastCost cls2 rfl ⟨rfl, rfl, leb rfl, leb rfl⟩ rfl (leb rfl) dX7_least_21 H rfl (fun v4 hv4 H => ?_)
    exact g_iret (pc := 24) O dX7_least_24 H
  · replace H := H.2 q2
    refine g_iconst (v := (I (-1))) (pc := 9) O rfl dX7_least_9 ?_
    exact g_iret (pc := 10) O dX7_least_10 H
set_option maxRecDepth 20000 in
set_option maxHeartbeats 2000000 in
theorem sX7_least {g : mg} {l : Launch} {Q : Int32 → AH → Prop} {x1 : Int32} {x2 : Int32} {h : AH} (H : SpI g l mX7_areTwo h [.ref 0, .int x1, .int x2] (fun v1 hv1 => ((¬ v1 = 0) → (SpV g l mX7_lay hv1 [.ref 0, .int x1, .int x2] (fun hv3 => SpI g l mX2_leastCost hv3 [.ref 23] (fun v4 hv4 => Q v4 hv4)))) ∧ ((v1 = 0) → (Q (I (-1)) hv1)))) : SpI g l mX7_least h [.ref 0, .int x1, .int x2] Q := spI_of (by decide) (leb rfl) (fun X O => bX7_least_0 O H)
set_option maxRecDepth 20000 in
set_option maxHeartbeats 2000000 in
theorem bX7_ways_0 {g : mg} {l : Launch} {X : XT} {Q : Int64 → AH → Prop} (O : Ok (FF g l X) RX7 cX7_ways 3 mX7_ways.2.2.2.2 (some .long)) {x1 : Int32} {x2 : Int32} {h : AH} (H : SpI g l mX7_areTwo h [.ref 0, .int x1, .int x2] (fun v1 hv1 => ((¬ v1 = 0) → (SpV g l mX7_lay hv1 [.ref 0, .int x1, .int x2] (fun hv3 => SpL g l mX2_leastWays hv3 [.ref 23] (fun v4 hv4 => Q v4 hv4)))) ∧ ((v1 = 0) → (Q (-1) hv1)))) : GL g l X Q h 0 [(0, .ref 0), (1, .int x1), (2, .int x2)] [] := by
  refine g_aloadn (pc := 0) O rfl dX7_ways_0 ?_
  refine g_iloadn (pc := 1) O rfl dX7_ways_1 ?_
  refine g_iloadn (pc := 2) O rfl dX7_ways_2 ?_
  refine g_vI [.int x1, .int x2] [] (pc := 3) O mk_X7_areTwo ml_X7_150 im_X7_areTwo se_X7_areTwo cls7 rfl ⟨rfl, rfl, leb rfl, leb rfl⟩ rfl (leb rfl) dX7_ways_3 H rfl (fun v1 hv1 H => ?_)
  refine g_if_ne (tgt := 13) (pc := 6) O dX7_ways_6 rfl (fun q2 => ?_) (fun q2 => ?_)
  · replace H := H.1 q2
    refine g_aloadn (pc := 13) O rfl dX7_ways_13 ?_
    refine g_iloadn (pc := 14) O rfl dX7_ways_14 ?_
    refine g_iloadn (pc := 15) O rfl dX7_ways_15 ?_
    refine g_vV [.int x1, .int x2] [] (pc := 16) O mk_X7_lay ml_X7_153 im_X7_lay se_X7_lay cls7 rfl ⟨rfl, rfl, leb rfl, leb rfl⟩ rfl (leb rfl) dX7_ways_16 H rfl (fun hv3 H => ?_)
    refine g_aloadn (pc := 19) O rfl dX7_ways_19 ?_
    refine g_getS (pc := 20) O cls7 fl_X7_37 dX7_ways_20 rfl (ltb rfl) (ltb rfl) rfl rfl ?_
    refine g_vL [] [] (pc := 23) O mk_X2_leastWays ml_X7_162 im_X2_leastWays se_X2_leastWays cls2 rfl ⟨rfl, rfl, leb rfl, leb rfl⟩ rfl (leb rfl) dX7_ways_23 H rfl (fun v4 hv4 H => ?_)
    exact g_lret (pc := 26) O dX7_ways_26 H
  · replace H := H.2 q2
    refine g_ldc2 (pc := 9) O co_X7_160 dX7_ways_9 ?_
    exact g_lret (pc := 12) O dX7_ways_12 H
set_option maxRecDepth 20000 in
set_option maxHeartbeats 2000000 in
theorem sX7_ways {g : mg} {l : Launch} {Q : Int64 → AH → Prop} {x1 : Int32} {x2 : Int32} {h : AH} (H : SpI g l mX7_areTwo h [.ref 0, .int x1, .int x2] (fun v1 hv1 => ((¬ v1 = 0) → (SpV g l mX7_lay hv1 [.ref 0, .int x1, .int x2] (fun hv3 => SpL g l mX2_leastWays hv3 [.ref 23] (fun v4 hv4 => Q v4 hv4)))) ∧ ((v1 = 0) → (Q (-1) hv1)))) : SpL g l mX7_ways h [.ref 0, .int x1, .int x2] Q := spL_of (by decide) (leb rfl) (fun X O => bX7_ways_0 O H)
set_option maxRecDepth 20000 in
set_option maxHeartbeats 2000000 in
theorem bX7_laid_0 {g : mg} {l : Launch} {X : XT} {Q : Int32 → AH → Prop} (O : Ok (FF g l X) RX7 cX7_laid 4 mX7_laid.2.2.2.2 (some .int)) {x1 : Int32} {x2 : Int32} {x3 : Int32} {h : AH} (H : SpI g l mX7_areTwo h [.ref 0, .int x1, .int x2] (fun v1 hv1 => ((v1 = 0) → (Q (I (-1)) hv1)) ∧ ((¬ (v1 = 0)) → (SpI g l mX7_isCoat hv1 [.ref 0, .int x1, .int x3] (fun v3 hv3 => ((¬ v3 = 0) → (SpV g l mX7_lay hv3 [.ref 0, .int x1, .int x2] (fun hv5 => SpI g l mX2_beside hv5 [.ref 23, .int x3] (fun v6 hv6 => Q v6 hv6)))) ∧ ((v3 = 0) → (Q (I (-1)) hv3))))))) : GI g l X Q h 0 [(0, .ref 0), (1, .int x1), (2, .int x2), (3, .int x3)] [] := by
  refine g_aloadn (pc := 0) O rfl dX7_laid_0 ?_
  refine g_iloadn (pc := 1) O rfl dX7_laid_1 ?_
  refine g_iloadn (pc := 2) O rfl dX7_laid_2 ?_
  refine g_vI [.int x1, .int x2] [] (pc := 3) O mk_X7_areTwo ml_X7_150 im_X7_areTwo se_X7_areTwo cls7 rfl ⟨rfl, rfl, leb rfl, leb rfl⟩ rfl (leb rfl) dX7_laid_3 H rfl (fun v1 hv1 H => ?_)
  refine g_if_eq (tgt := 18) (pc := 6) O dX7_laid_6 rfl (fun q2 => ?_) (fun q2 => ?_)
  · replace H := H.1 q2
    refine g_iconst (v := (I (-1))) (pc := 18) O rfl dX7_laid_18 ?_
    exact g_iret (pc := 19) O dX7_laid_19 H
  · replace H := H.2 q2
    refine g_aloadn (pc := 9) O rfl dX7_laid_9 ?_
    refine g_iloadn (pc := 10) O rfl dX7_laid_10 ?_
    refine g_iloadn (pc := 11) O rfl dX7_laid_11 ?_
    refine g_vI [.int x1, .int x3] [] (pc := 12) O mk_X7_isCoat ml_X7_118 im_X7_isCoat se_X7_isCoat cls7 rfl ⟨rfl, rfl, leb rfl, leb rfl⟩ rfl (leb rfl) dX7_laid_12 H rfl (fun v3 hv3 H => ?_)
    refine g_if_ne (tgt := 20) (pc := 15) O dX7_laid_15 rfl (fun q4 => ?_) (fun q4 => ?_)
    · replace H := H.1 q4
      refine g_aloadn (pc := 20) O rfl dX7_laid_20 ?_
      refine g_iloadn (pc := 21) O rfl dX7_laid_21 ?_
      refine g_iloadn (pc := 22) O rfl dX7_laid_22 ?_
      refine g_vV [.int x1, .int x2] [] (pc := 23) O mk_X7_lay ml_X7_153 im_X7_lay se_X7_lay cls7 rfl ⟨rfl, rfl, leb rfl, leb rfl⟩ rfl (leb rfl) dX7_laid_23 H rfl (fun hv5 H => ?_)
      refine g_aloadn (pc := 26) O rfl dX7_laid_26 ?_
      refine g_getS (pc := 27) O cls7 fl_X7_37 dX7_laid_27 rfl (ltb rfl) (ltb rfl) rfl rfl ?_
      refine g_iloadn (pc := 30) O rfl dX7_laid_30 ?_
      refine g_vI [.int x3] [] (pc := 31) O mk_X2_beside ml_X7_166 im_X2_beside se_X2_beside cls2 rfl ⟨rfl, rfl, leb rfl, leb rfl⟩ rfl (leb rfl) dX7_laid_31 H rfl (fun v6 hv6 H => ?_)
      exact g_iret (pc := 34) O dX7_laid_34 H
    · replace H := H.2 q4
      refine g_iconst (v := (I (-1))) (pc := 18) O rfl dX7_laid_18 ?_
      exact g_iret (pc := 19) O dX7_laid_19 H
set_option maxRecDepth 20000 in
set_option maxHeartbeats 2000000 in
theorem sX7_laid {g : mg} {l : Launch} {Q : Int32 → AH → Prop} {x1 : Int32} {x2 : Int32} {x3 : Int32} {h : AH} (H : SpI g l mX7_areTwo h [.ref 0, .int x1, .int x2] (fun v1 hv1 => ((v1 = 0) → (Q (I (-1)) hv1)) ∧ ((¬ (v1 = 0)) → (SpI g l mX7_isCoat hv1 [.ref 0, .int x1, .int x3] (fun v3 hv3 => ((¬ v3 = 0) → (SpV g l mX7_lay hv3 [.ref 0, .int x1, .int x2] (fun hv5 => SpI g l mX2_beside hv5 [.ref 23, .int x3] (fun v6 hv6 => Q v6 hv6)))) ∧ ((v3 = 0) → (Q (I (-1)) hv3))))))) : SpI g l mX7_laid h [.ref 0, .int x1, .int x2, .int x3] Q := spI_of (by decide) (leb rfl) (fun X O => bX7_laid_0 O H)
set_option maxRecDepth 20000 in
set_option maxHeartbeats 2000000 in
theorem bX7_painting_0 {g : mg} {l : Launch} {X : XT} {Q : Int32 → AH → Prop} (O : Ok (FF g l X) RX7 cX7_painting 2 mX7_painting.2.2.2.2 (some .int)) {x1 : Int32} {h : AH} (H : SpV g l mX7_settle h [.ref 0] (fun hv1 => ((¬ x1 = (I (-1))) → (SpI g l mX7_isPainting hv1 [.ref 0, .int x1] (fun v3 hv3 => ((v3 = 0) → (Q (I (-1)) hv3)) ∧ ((¬ (v3 = 0)) → (∃ j5 : Nat, x1 = I (j5 : Int) ∧ j5 < 40 ∧ (Q (hv3.1 27 j5) hv3)))))) ∧ ((x1 = (I (-1))) → (Q (hv1.1 26 0) hv1)))) : GIA g l X Q h 0 [(0, .ref 0), (1, .int x1)] [] := by
  refine g_aloadn (pc := 0) O rfl dX7_painting_0 ?_
  refine g_vVA [] [] (pc := 1) O mk_X7_settle ml_X7_128 im_X7_settle se_X7_settle cls7 rfl ⟨leb rfl, leb rfl, leb rfl, leb rfl⟩ rfl (leb rfl) dX7_painting_1 H rfl (fun hv1 H => ?_)
  refine g_iloadn (pc := 4) O rfl dX7_painting_4 ?_
  refine g_iconst (v := (I (-1))) (pc := 5) O rfl dX7_painting_5 ?_
  refine g_icmp_ne (tgt := 17) (pc := 6) O dX7_painting_6 rfl (fun q2 => ?_) (fun q2 => ?_)
  · replace H := H.1 q2
    refine g_aloadn (pc := 17) O rfl dX7_painting_17 ?_
    refine g_iloadn (pc := 18) O rfl dX7_painting_18 ?_
    refine g_vI [.int x1] [] (pc := 19) O mk_X7_isPainting ml_X7_171 im_X7_isPainting se_X7_isPainting cls7 rfl ⟨rfl, rfl, leb rfl, leb rfl⟩ rfl (leb rfl) dX7_painting_19 H rfl (fun v3 hv3 H => ?_)
    refine g_if_eq (tgt := 37) (pc := 22) O dX7_painting_22 rfl (fun q4 => ?_) (fun q4 => ?_)
    · replace H := H.1 q4
      refine g_iconst (v := (I (-1))) (pc := 37) O rfl dX7_painting_37 ?_
      exact g_iret (pc := 38) O dX7_painting_38 H
    · replace H := H.2 q4
      refine g_aloadn (pc := 25) O rfl dX7_painting_25 ?_
      refine g_getS (pc := 26) O cls7 fl_X7_44 dX7_painting_26 rfl (ltb rfl) (ltb rfl) rfl rfl ?_
      refine g_getS (pc := 29) O cls3 fl_X7_174 dX7_painting_29 rfl (ltb rfl) (ltb rfl) rfl rfl ?_
      refine g_iloadn (pc := 32) O rfl dX7_painting_32 ?_
      obtain ⟨j5, ej5, bj5, H⟩ := H
      refine g_iald (j := j5) (pc := 33) O dX7_painting_33 ej5 rfl (ltb rfl) bj5 (ltb rfl) rfl ?_
      refine g_goto (tgt := 38) (pc := 34) O dX7_painting_34 rfl ?_
      exact g_iret (pc := 38) O dX7_painting_38 H
  · replace H := H.2 q2
    refine g_aloadn (pc := 9) O rfl dX7_painting_9 ?_
    refine g_getS (pc := 10) O cls7 fl_X7_44 dX7_painting_10 rfl (ltb rfl) (ltb rfl) rfl rfl ?_
    refine g_getI (v := hv1.1 26 0) (pc := 13) O cls3 fl_X7_170 dX7_painting_13 rfl (ltb rfl) (ltb rfl) rfl rfl ?_
    exact g_iret (pc := 16) O dX7_painting_16 H
set_option maxRecDepth 20000 in
set_option maxHeartbeats 2000000 in
theorem sX7_painting {g : mg} {l : Launch} {Q : Int32 → AH → Prop} {x1 : Int32} {h : AH} (H : SpV g l mX7_settle h [.ref 0] (fun hv1 => ((¬ x1 = (I (-1))) → (SpI g l mX7_isPainting hv1 [.ref 0, .int x1] (fun v3 hv3 => ((v3 = 0) → (Q (I (-1)) hv3)) ∧ ((¬ (v3 = 0)) → (∃ j5 : Nat, x1 = I (j5 : Int) ∧ j5 < 40 ∧ (Q (hv3.1 27 j5) hv3)))))) ∧ ((x1 = (I (-1))) → (Q (hv1.1 26 0) hv1)))) : SpI g l mX7_painting h [.ref 0, .int x1] Q := spI_ofA (by decide) (leb rfl) (fun X O => bX7_painting_0 O H)
set_option maxRecDepth 20000 in
set_option maxHeartbeats 2000000 in
theorem bX7_had_0 {g : mg} {l : Launch} {X : XT} {Q : Int32 → AH → Prop} (O : Ok (FF g l X) RX7 cX7_had 2 mX7_had.2.2.2.2 (some .int)) {x1 : Int32} {h : AH} (H : SpV g l mX7_settle h [.ref 0] (fun hv1 => SpI g l mX7_isPainting hv1 [.ref 0, .int x1] (fun v2 hv2 => ((v2 = 0) → (Q (I (-1)) hv2)) ∧ ((¬ (v2 = 0)) → (∃ j4 : Nat, x1 = I (j4 : Int) ∧ j4 < 40 ∧ (Q (hv2.1 28 j4) hv2)))))) : GIA g l X Q h 0 [(0, .ref 0), (1, .int x1)] [] := by
  refine g_aloadn (pc := 0) O rfl dX7_had_0 ?_
  refine g_vVA [] [] (pc := 1) O mk_X7_settle ml_X7_128 im_X7_settle se_X7_settle cls7 rfl ⟨leb rfl, leb rfl, leb rfl, leb rfl⟩ rfl (leb rfl) dX7_had_1 H rfl (fun hv1 H => ?_)
  refine g_aloadn (pc := 4) O rfl dX7_had_4 ?_
  refine g_iloadn (pc := 5) O rfl dX7_had_5 ?_
  refine g_vI [.int x1] [] (pc := 6) O mk_X7_isPainting ml_X7_171 im_X7_isPainting se_X7_isPainting cls7 rfl ⟨rfl, rfl, leb rfl, leb rfl⟩ rfl (leb rfl) dX7_had_6 H rfl (fun v2 hv2 H => ?_)
  refine g_if_eq (tgt := 24) (pc := 9) O dX7_had_9 rfl (fun q3 => ?_) (fun q3 => ?_)
  · replace H := H.1 q3
    refine g_iconst (v := (I (-1))) (pc := 24) O rfl dX7_had_24 ?_
    exact g_iret (pc := 25) O dX7_had_25 H
  · replace H := H.2 q3
    refine g_aloadn (pc := 12) O rfl dX7_had_12 ?_
    refine g_getS (pc := 13) O cls7 fl_X7_44 dX7_had_13 rfl (ltb rfl) (ltb rfl) rfl rfl ?_
    refine g_getS (pc := 16) O cls3 fl_X7_175 dX7_had_16 rfl (ltb rfl) (ltb rfl) rfl rfl ?_
    refine g_iloadn (pc := 19) O rfl dX7_had_19 ?_
    obtain ⟨j4, ej4, bj4, H⟩ := H
    refine g_iald (j := j4) (pc := 20) O dX7_had_20 ej4 rfl (ltb rfl) bj4 (ltb rfl) rfl ?_
    refine g_goto (tgt := 25) (pc := 21) O dX7_had_21 rfl ?_
    exact g_iret (pc := 25) O dX7_had_25 H
set_option maxRecDepth 20000 in
set_option maxHeartbeats 2000000 in
theorem sX7_had {g : mg} {l : Launch} {Q : Int32 → AH → Prop} {x1 : Int32} {h : AH} (H : SpV g l mX7_settle h [.ref 0] (fun hv1 => SpI g l mX7_isPainting hv1 [.ref 0, .int x1] (fun v2 hv2 => ((v2 = 0) → (Q (I (-1)) hv2)) ∧ ((¬ (v2 = 0)) → (∃ j4 : Nat, x1 = I (j4 : Int) ∧ j4 < 40 ∧ (Q (hv2.1 28 j4) hv2)))))) : SpI g l mX7_had h [.ref 0, .int x1] Q := spI_ofA (by decide) (leb rfl) (fun X O => bX7_had_0 O H)
set_option maxRecDepth 20000 in
set_option maxHeartbeats 2000000 in
theorem bX7_face_0 {g : mg} {l : Launch} {X : XT} {Q : Int32 → AH → Prop} (O : Ok (FF g l X) RX7 cX7_face 3 mX7_face.2.2.2.2 (some .int)) {x1 : Int32} {x2 : Int32} {h : AH} (H : SpI g l mX7_isChip h [.ref 0, .int x1] (fun v1 hv1 => ((¬ v1 = 0) → (SpV g l mX7_settle hv1 [.ref 0] (fun hv3 => (x2 = I 0 → (SpI g l mX7_missedBy hv3 [.ref 0, .int x1] (fun v4 hv4 => Q v4 hv4))) ∧ (x2 = I 1 → (SpI g l mX7_paintingOf hv3 [.ref 0, .int x1, .int (I 0)] (fun v5 hv5 => Q v5 hv5))) ∧ (x2 = I 2 → (SpI g l mX7_ageOf hv3 [.ref 0, .int x1] (fun v6 hv6 => Q v6 hv6))) ∧ (x2 = I 3 → (SpI g l mX7_movedFrom hv3 [.ref 0, .int x1] (fun v7 hv7 => Q v7 hv7))) ∧ ((∀ j : Nat, j < 4 → ¬ x2 = I (j : Int)) → (Q (I (-1)) hv3))))) ∧ ((v1 = 0) → (Q (I (-1)) hv1)))) : GIA g l X Q h 0 [(0, .ref 0), (1, .int x1), (2, .int x2)] [] := by
  refine g_aloadn (pc := 0) O rfl dX7_face_0 ?_
  refine g_iloadn (pc := 1) O rfl dX7_face_1 ?_
  refine g_vI0 [.int x1] [] (pc := 2) O mk_X7_isChip ml_X7_101 im_X7_isChip se_X7_isChip cls7 rfl ⟨rfl, rfl, leb rfl, leb rfl⟩ rfl (leb rfl) dX7_face_2 H rfl (fun v1 hv1 H => ?_)
  refine g_if_ne (tgt := 10) (pc := 5) O dX7_face_5 rfl (fun q2 => ?_) (fun q2 => ?_)
  · replace H := H.1 q2
    refine g_aloadn (pc := 10) O rfl dX7_face_10 ?_
    refine g_vVA [] [] (pc := 11) O mk_X7_settle ml_X7_128 im_X7_settle se_X7_settle cls7 rfl ⟨leb rfl, leb rfl, leb rfl, leb rfl⟩ rfl (leb rfl) dX7_face_11 H rfl (fun hv3 H => ?_)
    refine g_iloadn (pc := 14) O rfl dX7_face_14 ?_
    refine g_tab (n := 4) (pc := 15) O dX7_face_15 rfl rfl (leb rfl) (fun j hj q => ?_) (fun q => ?_)
    · match j, hj, q with
      | 0, _, q =>
        refine ⟨44, rfl, ?_⟩
        replace H := H.1 q
        refine g_aloadn (pc := 44) O rfl dX7_face_44 ?_
        refine g_iloadn (pc := 45) O rfl dX7_face_45 ?_
        refine g_vI [.int x1] [] (pc := 46) O mk_X7_missedBy ml_X7_178 im_X7_missedBy se_X7_missedBy cls7 rfl ⟨rfl, rfl, leb rfl, leb rfl⟩ rfl (leb rfl) dX7_face_46 H rfl (fun v4 hv4 H => ?_)
        exact g_iret (pc := 49) O dX7_face_49 H
      | 1, _, q =>
        refine ⟨50, rfl, ?_⟩
        replace H := H.2.1 q
        refine g_aloadn (pc := 50) O rfl dX7_face_50 ?_
        refine g_iloadn (pc := 51) O rfl dX7_face_51 ?_
        refine g_iconst (v := (I 0)) (pc := 52) O rfl dX7_face_52 ?_
        refine g_vI [.int x1, .int (I 0)] [] (pc := 53) O mk_X7_paintingOf ml_X7_131 im_X7_paintingOf se_X7_paintingOf cls7 rfl ⟨rfl, rfl, leb rfl, leb rfl⟩ rfl (leb rfl) dX7_face_53 H rfl (fun v5 hv5 H => ?_)
        exact g_iret (pc := 56) O dX7_face_56 H
      | 2, _, q =>
        refine ⟨57, rfl, ?_⟩
        replace H := H.2.2.1 q
        refine g_aloadn (pc := 57) O rfl dX7_face_57 ?_
        refine g_iloadn (pc := 58) O rfl dX7_face_58 ?_
        refine g_vI [.int x1] [] (pc := 59) O mk_X7_ageOf ml_X7_181 im_X7_ageOf se_X7_ageOf cls7 rfl ⟨rfl, rfl, leb rfl, leb rfl⟩ rfl (leb rfl) dX7_face_59 H rfl (fun v6 hv6 H => ?_)
        exact g_iret (pc := 62) O dX7_face_62 H
      | 3, _, q =>
        refine ⟨63, rfl, ?_⟩
        replace H := H.2.2.2.1 q
        refine g_aloadn (pc := 63) O rfl dX7_face_63 ?_
        refine g_iloadn (pc := 64) O rfl dX7_face_64 ?_
        refine g_vI [.int x1] [] (pc := 65) O mk_X7_movedFrom ml_X7_184 im_X7_movedFrom se_X7_movedFrom cls7 rfl ⟨rfl, rfl, leb rfl, leb rfl⟩ rfl (leb rfl) dX7_face_65 H rfl (fun v7 hv7 H => ?_)
        exact g_iret (pc := 68) O dX7_face_68 H
      | j + 4, hj, _ => exact absurd hj (by omega)
    · refine ⟨69, rfl, ?_⟩
      replace H := H.2.2.2.2 q
      refine g_iconst (v := (I (-1))) (pc := 69) O rfl dX7_face_69 ?_
      exact g_iret (pc := 70) O dX7_face_70 H
  · replace H := H.2 q2
    refine g_wR ?_
    refine g_iconst (v := (I (-1))) (pc := 8) O rfl dX7_face_8 ?_
    exact g_iret (pc := 9) O dX7_face_9 H
set_option maxRecDepth 20000 in
set_option maxHeartbeats 2000000 in
theorem sX7_face {g : mg} {l : Launch} {Q : Int32 → AH → Prop} {x1 : Int32} {x2 : Int32} {h : AH} (H : SpI g l mX7_isChip h [.ref 0, .int x1] (fun v1 hv1 => ((¬ v1 = 0) → (SpV g l mX7_settle hv1 [.ref 0] (fun hv3 => (x2 = I 0 → (SpI g l mX7_missedBy hv3 [.ref 0, .int x1] (fun v4 hv4 => Q v4 hv4))) ∧ (x2 = I 1 → (SpI g l mX7_paintingOf hv3 [.ref 0, .int x1, .int (I 0)] (fun v5 hv5 => Q v5 hv5))) ∧ (x2 = I 2 → (SpI g l mX7_ageOf hv3 [.ref 0, .int x1] (fun v6 hv6 => Q v6 hv6))) ∧ (x2 = I 3 → (SpI g l mX7_movedFrom hv3 [.ref 0, .int x1] (fun v7 hv7 => Q v7 hv7))) ∧ ((∀ j : Nat, j < 4 → ¬ x2 = I (j : Int)) → (Q (I (-1)) hv3))))) ∧ ((v1 = 0) → (Q (I (-1)) hv1)))) : SpI g l mX7_face h [.ref 0, .int x1, .int x2] Q := spI_ofA (by decide) (leb rfl) (fun X O => bX7_face_0 O H)
set_option maxRecDepth 20000 in
set_option maxHeartbeats 2000000 in
theorem bX7_span_0 {g : mg} {l : Launch} {X : XT} {Q : Int32 → AH → Prop} (O : Ok (FF g l X) RX7 cX7_span 3 mX7_span.2.2.2.2 (some .int)) {x1 : Int32} {x2 : Int32} {h : AH} (H : SpV g l mX7_settle h [.ref 0] (fun hv1 => SpI g l mX7_isPainting hv1 [.ref 0, .int x1] (fun v2 hv2 => ((v2 = 0) → (Q (I (-1)) hv2)) ∧ ((¬ (v2 = 0)) → (((x2 < 0) → (Q (I (-1)) hv2)) ∧ ((¬ (x2 < 0)) → (((x2 ≤ (I 1)) → (∃ b6 : Nat, hv2.2.2 0 8 = some b6 ∧ lay b6 = (0, 7) ∧ (SpV g l mX6_find hv2 [.ref 37, .ref 26, .ref b6, .int (hv2.1 21 3)] (fun hv8 => ((¬ (hv8.1 37 0) = 0) → (((¬ x2 = 0) → (∃ j11 : Nat, x1 = I (j11 : Int) ∧ j11 < 40 ∧ (Q (hv8.1 39 j11) hv8))) ∧ ((x2 = 0) → (∃ j12 : Nat, x1 = I (j12 : Int) ∧ j12 < 40 ∧ (Q (hv8.1 38 j12) hv8))))) ∧ (((hv8.1 37 0) = 0) → (Q (I (-9)) hv8)))))) ∧ ((¬ (x2 ≤ (I 1))) → (Q (I (-1)) hv2))))))))) : GIA g l X Q h 0 [(0, .ref 0), (1, .int x1), (2, .int x2)] [] := by
  refine g_aloadn (pc := 0) O rfl dX7_span_0 ?_
  refine g_vVA [] [] (pc := 1) O mk_X7_settle ml_X7_128 im_X7_settle se_X7_settle cls7 rfl ⟨leb rfl, leb rfl, leb rfl, leb rfl⟩ rfl (leb rfl) dX7_span_1 H rfl (fun hv1 H => ?_)
  refine g_aloadn (pc := 4) O rfl dX7_span_4 ?_
  refine g_iloadn (pc := 5) O rfl dX7_span_5 ?_
  refine g_vI [.int x1] [] (pc := 6) O mk_X7_isPainting ml_X7_171 im_X7_isPainting se_X7_isPainting cls7 rfl ⟨rfl, rfl, leb rfl, leb rfl⟩ rfl (leb rfl) dX7_span_6 H rfl (fun v2 hv2 H => ?_)
  refine g_if_eq (tgt := 21) (pc := 9) O dX7_span_9 rfl (fun q3 => ?_) (fun q3 => ?_)
  · replace H := H.1 q3
    refine g_iconst (v := (I (-1))) (pc := 21) O rfl dX7_span_21 ?_
    exact g_iret (pc := 22) O dX7_span_22 H
  · replace H := H.2 q3
    refine g_iloadn (pc := 12) O rfl dX7_span_12 ?_
    refine g_if_lt (tgt := 21) (pc := 13) O dX7_span_13 rfl (fun q4 => ?_) (fun q4 => ?_)
    · replace H := H.1 q4
      refine g_iconst (v := (I (-1))) (pc := 21) O rfl dX7_span_21 ?_
      exact g_iret (pc := 22) O dX7_span_22 H
    · replace H := H.2 q4
      refine g_iloadn (pc := 16) O rfl dX7_span_16 ?_
      refine g_iconst (v := (I 1)) (pc := 17) O rfl dX7_span_17 ?_
      refine g_icmp_le (tgt := 23) (pc := 18) O dX7_span_18 rfl (fun q5 => ?_) (fun q5 => ?_)
      · replace H := H.1 q5
        refine g_aloadn (pc := 23) O rfl dX7_span_23 ?_
        refine g_getS (pc := 24) O cls7 fl_X7_51 dX7_span_24 rfl (ltb rfl) (ltb rfl) rfl rfl ?_
        refine g_aloadn (pc := 27) O rfl dX7_span_27 ?_
        refine g_getS (pc := 28) O cls7 fl_X7_44 dX7_span_28 rfl (ltb rfl) (ltb rfl) rfl rfl ?_
        refine g_aloadn (pc := 31) O rfl dX7_span_31 ?_
        obtain ⟨b6, rb6, hb6, H⟩ := H
        refine g_getR (pc := 32) O cls7 fl_X7_58 dX7_span_32 rfl (ltb rfl) (ltb rfl) rfl rfl rb6 ?_
        refine g_aloadn (pc := 35) O rfl dX7_span_35 ?_
        refine g_getS (pc := 36) O cls7 fl_X7_27 dX7_span_36 rfl (ltb rfl) (ltb rfl) rfl rfl ?_
        refine g_iconst (v := (I 3)) (pc := 39) O rfl dX7_span_39 ?_
        refine g_iald (j := 3) (pc := 40) O dX7_span_40 rfl rfl (ltb rfl) (ltb rfl) (ltb rfl) rfl ?_
        refine g_vV [.ref 26, .ref b6, .int (hv2.1 21 3)] [] (pc := 41) O mk_X6_find ml_X7_187 im_X6_find se_X6_find cls6 rfl ⟨rfl, rfl, leb rfl, leb rfl⟩ rfl (leb rfl) dX7_span_41 H rfl (fun hv8 H => ?_)
        refine g_aloadn (pc := 44) O rfl dX7_span_44 ?_
        refine g_getS (pc := 45) O cls7 fl_X7_51 dX7_span_45 rfl (ltb rfl) (ltb rfl) rfl rfl ?_
        refine g_getI (v := hv8.1 37 0) (pc := 48) O cls6 fl_X7_191 dX7_span_48 rfl (ltb rfl) (ltb rfl) rfl rfl ?_
        refine g_if_ne (tgt := 57) (pc := 51) O dX7_span_51 rfl (fun q9 => ?_) (fun q9 => ?_)
        · replace H := H.1 q9
          refine g_iloadn (pc := 57) O rfl dX7_span_57 ?_
          refine g_if_ne (tgt := 73) (pc := 58) O dX7_span_58 rfl (fun q10 => ?_) (fun q10 => ?_)
          · replace H := H.1 q10
            refine g_aloadn (pc := 73) O rfl dX7_span_73 ?_
            refine g_getS (pc := 74) O cls7 fl_X7_51 dX7_span_74 rfl (ltb rfl) (ltb rfl) rfl rfl ?_
            refine g_getS (pc := 77) O cls6 fl_X7_197 dX7_span_77 rfl (ltb rfl) (ltb rfl) rfl rfl ?_
            refine g_iloadn (pc := 80) O rfl dX7_span_80 ?_
            obtain ⟨j11, ej11, bj11, H⟩ := H
            refine g_iald (j := j11) (pc := 81) O dX7_span_81 ej11 rfl (ltb rfl) bj11 (ltb rfl) rfl ?_
            exact g_iret (pc := 82) O dX7_span_82 H
          · replace H := H.2 q10
            refine g_aloadn (pc := 61) O rfl dX7_span_61 ?_
            refine g_getS (pc := 62) O cls7 fl_X7_51 dX7_span_62 rfl (ltb rfl) (ltb rfl) rfl rfl ?_
            refine g_getS (pc := 65) O cls6 fl_X7_194 dX7_span_65 rfl (ltb rfl) (ltb rfl) rfl rfl ?_
            refine g_iloadn (pc := 68) O rfl dX7_span_68 ?_
            obtain ⟨j12, ej12, bj12, H⟩ := H
            refine g_iald (j := j12) (pc := 69) O dX7_span_69 ej12 rfl (ltb rfl) bj12 (ltb rfl) rfl ?_
            refine g_goto (tgt := 82) (pc := 70) O dX7_span_70 rfl ?_
            exact g_iret (pc := 82) O dX7_span_82 H
        · replace H := H.2 q9
          refine g_bipush (v := (I (-9))) (pc := 54) O (by decide) dX7_span_54 ?_
          exact g_iret (pc := 56) O dX7_span_56 H
      · replace H := H.2 q5
        refine g_iconst (v := (I (-1))) (pc := 21) O rfl dX7_span_21 ?_
        exact g_iret (pc := 22) O dX7_span_22 H
set_option maxRecDepth 20000 in
set_option maxHeartbeats 2000000 in
theorem sX7_span {g : mg} {l : Launch} {Q : Int32 → AH → Prop} {x1 : Int32} {x2 : Int32} {h : AH} (H : SpV g l mX7_settle h [.ref 0] (fun hv1 => SpI g l mX7_isPainting hv1 [.ref 0, .int x1] (fun v2 hv2 => ((v2 = 0) → (Q (I (-1)) hv2)) ∧ ((¬ (v2 = 0)) → (((x2 < 0) → (Q (I (-1)) hv2)) ∧ ((¬ (x2 < 0)) → (((x2 ≤ (I 1)) → (∃ b6 : Nat, hv2.2.2 0 8 = some b6 ∧ lay b6 = (0, 7) ∧ (SpV g l mX6_find hv2 [.ref 37, .ref 26, .ref b6, .int (hv2.1 21 3)] (fun hv8 => ((¬ (hv8.1 37 0) = 0) → (((¬ x2 = 0) → (∃ j11 : Nat, x1 = I (j11 : Int) ∧ j11 < 40 ∧ (Q (hv8.1 39 j11) hv8))) ∧ ((x2 = 0) → (∃ j12 : Nat, x1 = I (j12 : Int) ∧ j12 < 40 ∧ (Q (hv8.1 38 j12) hv8))))) ∧ (((hv8.1 37 0) = 0) → (Q (I (-9)) hv8)))))) ∧ ((¬ (x2 ≤ (I 1))) → (Q (I (-1)) hv2))))))))) : SpI g l mX7_span h [.ref 0, .int x1, .int x2] Q := spI_ofA (by decide) (leb rfl) (fun X O => bX7_span_0 O H)
set_option maxRecDepth 20000 in
set_option maxHeartbeats 2000000 in
theorem bX7_day_0 {g : mg} {l : Launch} {X : XT} {Q : Int32 → AH → Prop} (O : Ok (FF g l X) RX7 cX7_day 3 mX7_day.2.2.2.2 (some .int)) {x1 : Int32} {x2 : Int32} {h : AH} (H : SpI g l mX7_isChip h [.ref 0, .int x1] (fun v1 hv1 => ((v1 = 0) → (Q (I (-1)) hv1)) ∧ ((¬ (v1 = 0)) → (((x2 < 0) → (Q (I (-1)) hv1)) ∧ ((¬ (x2 < 0)) → (((x2 ≤ (I 999)) → (SpV g l mX7_settle hv1 [.ref 0] (fun hv5 => ∃ b6 : Nat, hv5.2.2 0 8 = some b6 ∧ lay b6 = (0, 7) ∧ (SpV g l mX6_find hv5 [.ref 37, .ref 26, .ref b6, .int (hv5.1 21 3)] (fun hv8 => (((hv8.1 37 0) = 0) → (Q (I 0) hv8)) ∧ ((¬ ((hv8.1 37 0) = 0)) → (SpI g l mX7_lastCoats hv8 [.ref 0, .int x1, .int x2] (fun v10 hv10 => Q v10 hv10)))))))) ∧ ((¬ (x2 ≤ (I 999))) → (Q (I (-1)) hv1)))))))) : GIA g l X Q h 0 [(0, .ref 0), (1, .int x1), (2, .int x2)] [] := by
  refine g_aloadn (pc := 0) O rfl dX7_day_0 ?_
  refine g_iloadn (pc := 1) O rfl dX7_day_1 ?_
  refine g_vI0 [.int x1] [] (pc := 2) O mk_X7_isChip ml_X7_101 im_X7_isChip se_X7_isChip cls7 rfl ⟨rfl, rfl, leb rfl, leb rfl⟩ rfl (leb rfl) dX7_day_2 H rfl (fun v1 hv1 H => ?_)
  refine g_if_eq (tgt := 19) (pc := 5) O dX7_day_5 rfl (fun q2 => ?_) (fun q2 => ?_)
  · replace H := H.1 q2
    refine g_wR ?_
    refine g_iconst (v := (I (-1))) (pc := 19) O rfl dX7_day_19 ?_
    exact g_iret (pc := 20) O dX7_day_20 H
  · replace H := H.2 q2
    refine g_iloadn (pc := 8) O rfl dX7_day_8 ?_
    refine g_if_lt (tgt := 19) (pc := 9) O dX7_day_9 rfl (fun q3 => ?_) (fun q3 => ?_)
    · replace H := H.1 q3
      refine g_wR ?_
      refine g_iconst (v := (I (-1))) (pc := 19) O rfl dX7_day_19 ?_
      exact g_iret (pc := 20) O dX7_day_20 H
    · replace H := H.2 q3
      refine g_iloadn (pc := 12) O rfl dX7_day_12 ?_
      refine g_sipush (v := (I 999)) (pc := 13) O (by decide) dX7_day_13 ?_
      refine g_icmp_le (tgt := 21) (pc := 16) O dX7_day_16 rfl (fun q4 => ?_) (fun q4 => ?_)
      · replace H := H.1 q4
        refine g_aloadn (pc := 21) O rfl dX7_day_21 ?_
        refine g_vVA [] [] (pc := 22) O mk_X7_settle ml_X7_128 im_X7_settle se_X7_settle cls7 rfl ⟨leb rfl, leb rfl, leb rfl, leb rfl⟩ rfl (leb rfl) dX7_day_22 H rfl (fun hv5 H => ?_)
        refine g_aloadn (pc := 25) O rfl dX7_day_25 ?_
        refine g_getS (pc := 26) O cls7 fl_X7_51 dX7_day_26 rfl (ltb rfl) (ltb rfl) rfl rfl ?_
        refine g_aloadn (pc := 29) O rfl dX7_day_29 ?_
        refine g_getS (pc := 30) O cls7 fl_X7_44 dX7_day_30 rfl (ltb rfl) (ltb rfl) rfl rfl ?_
        refine g_aloadn (pc := 33) O rfl dX7_day_33 ?_
        obtain ⟨b6, rb6, hb6, H⟩ := H
        refine g_getR (pc := 34) O cls7 fl_X7_58 dX7_day_34 rfl (ltb rfl) (ltb rfl) rfl rfl rb6 ?_
        refine g_aloadn (pc := 37) O rfl dX7_day_37 ?_
        refine g_getS (pc := 38) O cls7 fl_X7_27 dX7_day_38 rfl (ltb rfl) (ltb rfl) rfl rfl ?_
        refine g_iconst (v := (I 3)) (pc := 41) O rfl dX7_day_41 ?_
        refine g_iald (j := 3) (pc := 42) O dX7_day_42 rfl rfl (ltb rfl) (ltb rfl) (ltb rfl) rfl ?_
        refine g_vV [.ref 26, .ref b6, .int (hv5.1 21 3)] [] (pc := 43) O mk_X6_find ml_X7_187 im_X6_find se_X6_find cls6 rfl ⟨rfl, rfl, leb rfl, leb rfl⟩ rfl (leb rfl) dX7_day_43 H rfl (fun hv8 H => ?_)
        refine g_aloadn (pc := 46) O rfl dX7_day_46 ?_
        refine g_getS (pc := 47) O cls7 fl_X7_51 dX7_day_47 rfl (ltb rfl) (ltb rfl) rfl rfl ?_
        refine g_getI (v := hv8.1 37 0) (pc := 50) O cls6 fl_X7_191 dX7_day_50 rfl (ltb rfl) (ltb rfl) rfl rfl ?_
        refine g_if_eq (tgt := 65) (pc := 53) O dX7_day_53 rfl (fun q9 => ?_) (fun q9 => ?_)
        · replace H := H.1 q9
          refine g_iconst (v := (I 0)) (pc := 65) O rfl dX7_day_65 ?_
          exact g_iret (pc := 66) O dX7_day_66 H
        · replace H := H.2 q9
          refine g_aloadn (pc := 56) O rfl dX7_day_56 ?_
          refine g_iloadn (pc := 57) O rfl dX7_day_57 ?_
          refine g_iloadn (pc := 58) O rfl dX7_day_58 ?_
          refine g_vI [.int x1, .int x2] [] (pc := 59) O mk_X7_lastCoats ml_X7_200 im_X7_lastCoats se_X7_lastCoats cls7 rfl ⟨rfl, rfl, leb rfl, leb rfl⟩ rfl (leb rfl) dX7_day_59 H rfl (fun v10 hv10 H => ?_)
          refine g_goto (tgt := 66) (pc := 62) O dX7_day_62 rfl ?_
          exact g_iret (pc := 66) O dX7_day_66 H
      · replace H := H.2 q4
        refine g_wR ?_
        refine g_iconst (v := (I (-1))) (pc := 19) O rfl dX7_day_19 ?_
        exact g_iret (pc := 20) O dX7_day_20 H
set_option maxRecDepth 20000 in
set_option maxHeartbeats 2000000 in
theorem sX7_day {g : mg} {l : Launch} {Q : Int32 → AH → Prop} {x1 : Int32} {x2 : Int32} {h : AH} (H : SpI g l mX7_isChip h [.ref 0, .int x1] (fun v1 hv1 => ((v1 = 0) → (Q (I (-1)) hv1)) ∧ ((¬ (v1 = 0)) → (((x2 < 0) → (Q (I (-1)) hv1)) ∧ ((¬ (x2 < 0)) → (((x2 ≤ (I 999)) → (SpV g l mX7_settle hv1 [.ref 0] (fun hv5 => ∃ b6 : Nat, hv5.2.2 0 8 = some b6 ∧ lay b6 = (0, 7) ∧ (SpV g l mX6_find hv5 [.ref 37, .ref 26, .ref b6, .int (hv5.1 21 3)] (fun hv8 => (((hv8.1 37 0) = 0) → (Q (I 0) hv8)) ∧ ((¬ ((hv8.1 37 0) = 0)) → (SpI g l mX7_lastCoats hv8 [.ref 0, .int x1, .int x2] (fun v10 hv10 => Q v10 hv10)))))))) ∧ ((¬ (x2 ≤ (I 999))) → (Q (I (-1)) hv1)))))))) : SpI g l mX7_day h [.ref 0, .int x1, .int x2] Q := spI_ofA (by decide) (leb rfl) (fun X O => bX7_day_0 O H)
set_option maxRecDepth 20000 in
set_option maxHeartbeats 2000000 in
theorem bX7_bill_0 {g : mg} {l : Launch} {X : XT} {Q : Int32 → AH → Prop} (O : Ok (FF g l X) RX7 cX7_bill 3 mX7_bill.2.2.2.2 (some .int)) {x1 : Int32} {x2 : Int32} {h : AH} (H : ((x1 < 0) → (Q (I (-1)) h)) ∧ ((¬ (x1 < 0)) → (∃ b2 : Nat, h.2.2 0 8 = some b2 ∧ lay b2 = (0, 7) ∧ (((x1 < (h.1 b2 5)) → ((x2 = I 0 → (∃ b4 : Nat, h.2.2 0 8 = some b4 ∧ lay b4 = (0, 7) ∧ (∃ j5 : Nat, x1 = I (j5 : Int) ∧ j5 < 8 ∧ (Q (h.1 (b4 + 4) j5) h)))) ∧ (x2 = I 1 → (∃ b6 : Nat, h.2.2 0 8 = some b6 ∧ lay b6 = (0, 7) ∧ (∃ j7 : Nat, x1 = I (j7 : Int) ∧ j7 < 8 ∧ (Q (h.1 (b6 + 5) j7) h)))) ∧ (¬ x2 = I 0 → ¬ x2 = I 1 → (Q (I (-1)) h)))) ∧ ((¬ (x1 < (h.1 b2 5))) → (Q (I (-1)) h)))))) : GI g l X Q h 0 [(0, .ref 0), (1, .int x1), (2, .int x2)] [] := by
  refine g_iloadn (pc := 0) O rfl dX7_bill_0 ?_
  refine g_if_lt (tgt := 15) (pc := 1) O dX7_bill_1 rfl (fun q1 => ?_) (fun q1 => ?_)
  · replace H := H.1 q1
    refine g_iconst (v := (I (-1))) (pc := 15) O rfl dX7_bill_15 ?_
    exact g_iret (pc := 16) O dX7_bill_16 H
  · replace H := H.2 q1
    refine g_iloadn (pc := 4) O rfl dX7_bill_4 ?_
    refine g_aloadn (pc := 5) O rfl dX7_bill_5 ?_
    obtain ⟨b2, rb2, hb2, H⟩ := H
    refine g_getR (pc := 6) O cls7 fl_X7_58 dX7_bill_6 rfl (ltb rfl) (ltb rfl) rfl rfl rb2 ?_
    refine g_getI (v := h.1 b2 5) (pc := 9) O cls0 fl_X7_203 dX7_bill_9 hb2 (lay_lt hb2 (by decide)) (ltb rfl) rfl rfl ?_
    refine g_icmp_lt (tgt := 17) (pc := 12) O dX7_bill_12 rfl (fun q3 => ?_) (fun q3 => ?_)
    · replace H := H.1 q3
      refine g_iloadn (pc := 17) O rfl dX7_bill_17 ?_
      refine g_look2 (t0 := 44) (t1 := 54) (t2 := 64) (pc := 18) O dX7_bill_18 rfl rfl rfl (fun q => ?_) (fun q => ?_) (fun q q2 => ?_)
      · replace H := H.1 q
        refine g_aloadn (pc := 44) O rfl dX7_bill_44 ?_
        obtain ⟨b4, rb4, hb4, H⟩ := H
        refine g_getR (pc := 45) O cls7 fl_X7_58 dX7_bill_45 rfl (ltb rfl) (ltb rfl) rfl rfl rb4 ?_
        refine g_getS (pc := 48) O cls0 fl_X7_206 dX7_bill_48 hb4 (lay_lt hb4 (by decide)) (ltb rfl) rfl (sr_book3 hb4) ?_
        refine g_iloadn (pc := 51) O rfl dX7_bill_51 ?_
        obtain ⟨j5, ej5, bj5, H⟩ := H
        refine g_iald (j := j5) (pc := 52) O dX7_bill_52 ej5 (lay_book3 hb4) (lay_lt (lay_book3 hb4) (by decide)) bj5 (ltb rfl) rfl ?_
        exact g_iret (pc := 53) O dX7_bill_53 H
      · replace H := H.2.1 q
        refine g_aloadn (pc := 54) O rfl dX7_bill_54 ?_
        obtain ⟨b6, rb6, hb6, H⟩ := H
        refine g_getR (pc := 55) O cls7 fl_X7_58 dX7_bill_55 rfl (ltb rfl) (ltb rfl) rfl rfl rb6 ?_
        refine g_getS (pc := 58) O cls0 fl_X7_209 dX7_bill_58 hb6 (lay_lt hb6 (by decide)) (ltb rfl) rfl (sr_book4 hb6) ?_
        refine g_iloadn (pc := 61) O rfl dX7_bill_61 ?_
        obtain ⟨j7, ej7, bj7, H⟩ := H
        refine g_iald (j := j7) (pc := 62) O dX7_bill_62 ej7 (lay_book4 hb6) (lay_lt (lay_book4 hb6) (by decide)) bj7 (ltb rfl) rfl ?_
        exact g_iret (pc := 63) O dX7_bill_63 H
      · replace H := H.2.2 q q2
        refine g_iconst (v := (I (-1))) (pc := 64) O rfl dX7_bill_64 ?_
        exact g_iret (pc := 65) O dX7_bill_65 H
    · replace H := H.2 q3
      refine g_iconst (v := (I (-1))) (pc := 15) O rfl dX7_bill_15 ?_
      exact g_iret (pc := 16) O dX7_bill_16 H
set_option maxRecDepth 20000 in
set_option maxHeartbeats 2000000 in
theorem sX7_bill {g : mg} {l : Launch} {Q : Int32 → AH → Prop} {x1 : Int32} {x2 : Int32} {h : AH} (H : ((x1 < 0) → (Q (I (-1)) h)) ∧ ((¬ (x1 < 0)) → (∃ b2 : Nat, h.2.2 0 8 = some b2 ∧ lay b2 = (0, 7) ∧ (((x1 < (h.1 b2 5)) → ((x2 = I 0 → (∃ b4 : Nat, h.2.2 0 8 = some b4 ∧ lay b4 = (0, 7) ∧ (∃ j5 : Nat, x1 = I (j5 : Int) ∧ j5 < 8 ∧ (Q (h.1 (b4 + 4) j5) h)))) ∧ (x2 = I 1 → (∃ b6 : Nat, h.2.2 0 8 = some b6 ∧ lay b6 = (0, 7) ∧ (∃ j7 : Nat, x1 = I (j7 : Int) ∧ j7 < 8 ∧ (Q (h.1 (b6 + 5) j7) h)))) ∧ (¬ x2 = I 0 → ¬ x2 = I 1 → (Q (I (-1)) h)))) ∧ ((¬ (x1 < (h.1 b2 5))) → (Q (I (-1)) h)))))) : SpI g l mX7_bill h [.ref 0, .int x1, .int x2] Q := spI_of (by decide) (leb rfl) (fun X O => bX7_bill_0 O H)
set_option maxRecDepth 20000 in
set_option maxHeartbeats 2000000 in
theorem bX7_billed_0 {g : mg} {l : Launch} {X : XT} {Q : Int32 → AH → Prop} (O : Ok (FF g l X) RX7 cX7_billed 2 mX7_billed.2.2.2.2 (some .int)) {x1 : Int32} {h : AH} (H : SpV g l mX7_settle h [.ref 0] (fun hv1 => ((x1 = (I (-1))) → (GI g l X Q hv1 19 [(0, .ref 0), (1, .int x1)] [])) ∧ ((¬ (x1 = (I (-1)))) → (SpI g l mX7_isPainting hv1 [.ref 0, .int x1] (fun v3 hv3 => ((¬ v3 = 0) → (GI g l X Q hv3 19 [(0, .ref 0), (1, .int x1)] [])) ∧ ((v3 = 0) → (Q (I (-1)) hv3))))))) : GIA g l X Q h 0 [(0, .ref 0), (1, .int x1)] [] := by
  refine g_aloadn (pc := 0) O rfl dX7_billed_0 ?_
  refine g_vVA [] [] (pc := 1) O mk_X7_settle ml_X7_128 im_X7_settle se_X7_settle cls7 rfl ⟨leb rfl, leb rfl, leb rfl, leb rfl⟩ rfl (leb rfl) dX7_billed_1 H rfl (fun hv1 H => ?_)
  refine g_iloadn (pc := 4) O rfl dX7_billed_4 ?_
  refine g_iconst (v := (I (-1))) (pc := 5) O rfl dX7_billed_5 ?_
  refine g_icmp_eq (tgt := 19) (pc := 6) O dX7_billed_6 rfl (fun q2 => ?_) (fun q2 => ?_)
  · replace H := H.1 q2
    exact H
  · replace H := H.2 q2
    refine g_aloadn (pc := 9) O rfl dX7_billed_9 ?_
    refine g_iloadn (pc := 10) O rfl dX7_billed_10 ?_
    refine g_vI [.int x1] [] (pc := 11) O mk_X7_isPainting ml_X7_171 im_X7_isPainting se_X7_isPainting cls7 rfl ⟨rfl, rfl, leb rfl, leb rfl⟩ rfl (leb rfl) dX7_billed_11 H rfl (fun v3 hv3 H => ?_)
    refine g_if_ne (tgt := 19) (pc := 14) O dX7_billed_14 rfl (fun q4 => ?_) (fun q4 => ?_)
    · replace H := H.1 q4
      exact H
    · replace H := H.2 q4
      refine g_iconst (v := (I (-1))) (pc := 17) O rfl dX7_billed_17 ?_
      exact g_iret (pc := 18) O dX7_billed_18 H
set_option maxRecDepth 20000 in
set_option maxHeartbeats 2000000 in
theorem bX7_billed_19 {g : mg} {l : Launch} {X : XT} {Q : Int32 → AH → Prop} (O : Ok (FF g l X) RX7 cX7_billed 2 mX7_billed.2.2.2.2 (some .int)) {x1 : Int32} {h : AH} (H : ∃ b1 : Nat, h.2.2 0 8 = some b1 ∧ lay b1 = (0, 7) ∧ (SpV g l mX6_find h [.ref 37, .ref 26, .ref b1, .int (h.1 21 3)] (fun hv3 => ∃ b4 : Nat, hv3.2.2 0 8 = some b4 ∧ lay b4 = (0, 7) ∧ (SpV g l mX6_match hv3 [.ref 37, .ref 26, .ref b4] (fun hv5 => ((¬ x1 = (I (-1))) → (∃ j7 : Nat, x1 = I (j7 : Int) ∧ j7 < 40 ∧ (Q (hv5.1 40 j7) hv5))) ∧ ((x1 = (I (-1))) → (Q (hv5.1 37 3) hv5))))))) : GI g l X Q h 19 [(0, .ref 0), (1, .int x1)] [] := by
  refine g_aloadn (pc := 19) O rfl dX7_billed_19 ?_
  refine g_getS (pc := 20) O cls7 fl_X7_51 dX7_billed_20 rfl (ltb rfl) (ltb rfl) rfl rfl ?_
  refine g_aloadn (pc := 23) O rfl dX7_billed_23 ?_
  refine g_getS (pc := 24) O cls7 fl_X7_44 dX7_billed_24 rfl (ltb rfl) (ltb rfl) rfl rfl ?_
  refine g_aloadn (pc := 27) O rfl dX7_billed_27 ?_
  obtain ⟨b1, rb1, hb1, H⟩ := H
  refine g_getR (pc := 28) O cls7 fl_X7_58 dX7_billed_28 rfl (ltb rfl) (ltb rfl) rfl rfl rb1 ?_
  refine g_aloadn (pc := 31) O rfl dX7_billed_31 ?_
  refine g_getS (pc := 32) O cls7 fl_X7_27 dX7_billed_32 rfl (ltb rfl) (ltb rfl) rfl rfl ?_
  refine g_iconst (v := (I 3)) (pc := 35) O rfl dX7_billed_35 ?_
  refine g_iald (j := 3) (pc := 36) O dX7_billed_36 rfl rfl (ltb rfl) (ltb rfl) (ltb rfl) rfl ?_
  refine g_vV [.ref 26, .ref b1, .int (h.1 21 3)] [] (pc := 37) O mk_X6_find ml_X7_187 im_X6_find se_X6_find cls6 rfl ⟨rfl, rfl, leb rfl, leb rfl⟩ rfl (leb rfl) dX7_billed_37 H rfl (fun hv3 H => ?_)
  refine g_aloadn (pc := 40) O rfl dX7_billed_40 ?_
  refine g_getS (pc := 41) O cls7 fl_X7_51 dX7_billed_41 rfl (ltb rfl) (ltb rfl) rfl rfl ?_
  refine g_aloadn (pc := 44) O rfl dX7_billed_44 ?_
  refine g_getS (pc := 45) O cls7 fl_X7_44 dX7_billed_45 rfl (ltb rfl) (ltb rfl) rfl rfl ?_
  refine g_aloadn (pc := 48) O rfl dX7_billed_48 ?_
  obtain ⟨b4, rb4, hb4, H⟩ := H
  refine g_getR (pc := 49) O cls7 fl_X7_58 dX7_billed_49 rfl (ltb rfl) (ltb rfl) rfl rfl rb4 ?_
  refine g_vV [.ref 26, .ref b4] [] (pc := 52) O mk_X6_match ml_X7_212 im_X6_match se_X6_match cls6 rfl ⟨rfl, rfl, leb rfl, leb rfl⟩ rfl (leb rfl) dX7_billed_52 H rfl (fun hv5 H => ?_)
  refine g_iloadn (pc := 55) O rfl dX7_billed_55 ?_
  refine g_iconst (v := (I (-1))) (pc := 56) O rfl dX7_billed_56 ?_
  refine g_icmp_ne (tgt := 70) (pc := 57) O dX7_billed_57 rfl (fun q6 => ?_) (fun q6 => ?_)
  · replace H := H.1 q6
    refine g_aloadn (pc := 70) O rfl dX7_billed_70 ?_
    refine g_getS (pc := 71) O cls7 fl_X7_51 dX7_billed_71 rfl (ltb rfl) (ltb rfl) rfl rfl ?_
    refine g_getS (pc := 74) O cls6 fl_X7_219 dX7_billed_74 rfl (ltb rfl) (ltb rfl) rfl rfl ?_
    refine g_iloadn (pc := 77) O rfl dX7_billed_77 ?_
    obtain ⟨j7, ej7, bj7, H⟩ := H
    refine g_iald (j := j7) (pc := 78) O dX7_billed_78 ej7 rfl (ltb rfl) bj7 (ltb rfl) rfl ?_
    exact g_iret (pc := 79) O dX7_billed_79 H
  · replace H := H.2 q6
    refine g_aloadn (pc := 60) O rfl dX7_billed_60 ?_
    refine g_getS (pc := 61) O cls7 fl_X7_51 dX7_billed_61 rfl (ltb rfl) (ltb rfl) rfl rfl ?_
    refine g_getI (v := hv5.1 37 3) (pc := 64) O cls6 fl_X7_216 dX7_billed_64 rfl (ltb rfl) (ltb rfl) rfl rfl ?_
    refine g_goto (tgt := 79) (pc := 67) O dX7_billed_67 rfl ?_
    exact g_iret (pc := 79) O dX7_billed_79 H
set_option maxRecDepth 20000 in
set_option maxHeartbeats 2000000 in
theorem sX7_billed {g : mg} {l : Launch} {Q : Int32 → AH → Prop} {x1 : Int32} {h : AH} (H : ∀ X, Ok (FF g l X) RX7 cX7_billed 2 mX7_billed.2.2.2.2 (some .int) → SpV g l mX7_settle h [.ref 0] (fun hv1 => ((x1 = (I (-1))) → (GI g l X Q hv1 19 [(0, .ref 0), (1, .int x1)] [])) ∧ ((¬ (x1 = (I (-1)))) → (SpI g l mX7_isPainting hv1 [.ref 0, .int x1] (fun v3 hv3 => ((¬ v3 = 0) → (GI g l X Q hv3 19 [(0, .ref 0), (1, .int x1)] [])) ∧ ((v3 = 0) → (Q (I (-1)) hv3))))))) : SpI g l mX7_billed h [.ref 0, .int x1] Q := spI_ofA (by decide) (leb rfl) (fun X O => bX7_billed_0 O (H X O))
set_option maxRecDepth 20000 in
set_option maxHeartbeats 2000000 in
theorem bX7_enough_0 {g : mg} {l : Launch} {X : XT} {Q : Int32 → AH → Prop} (O : Ok (FF g l X) RX7 cX7_enough 10 mX7_enough.2.2.2.2 (some .int)) {x1 : Int32} {x2 : Int32} {h : AH} (H : ((x1 < (I 1)) → (Q (I (-1)) h)) ∧ ((¬ (x1 < (I 1))) → ((((I 10) < x1) → (Q (I (-1)) h)) ∧ ((¬ ((I 10) < x1)) → (((x2 < 0) → (Q (I (-1)) h)) ∧ ((¬ (x2 < 0)) → (((x2 ≤ (I 100)) → (GI g l X Q h 31 [(0, .ref 0), (1, .int x1), (2, .int x2), (3, .long 1), (5, .long 1), (7, .int (I 1))] [])) ∧ ((¬ (x2 ≤ (I 100))) → (Q (I (-1)) h))))))))) : GI g l X Q h 0 [(0, .ref 0), (1, .int x1), (2, .int x2)] [] := by
  refine g_iloadn (pc := 0) O rfl dX7_enough_0 ?_
  refine g_iconst (v := (I 1)) (pc := 1) O rfl dX7_enough_1 ?_
  refine g_icmp_lt (tgt := 21) (pc := 2) O dX7_enough_2 rfl (fun q1 => ?_) (fun q1 => ?_)
  · replace H := H.1 q1
    refine g_iconst (v := (I (-1))) (pc := 21) O rfl dX7_enough_21 ?_
    exact g_iret (pc := 22) O dX7_enough_22 H
  · replace H := H.2 q1
    refine g_iloadn (pc := 5) O rfl dX7_enough_5 ?_
    refine g_bipush (v := (I 10)) (pc := 6) O (by decide) dX7_enough_6 ?_
    refine g_icmp_gt (tgt := 21) (pc := 8) O dX7_enough_8 rfl (fun q2 => ?_) (fun q2 => ?_)
    · replace H := H.1 q2
      refine g_iconst (v := (I (-1))) (pc := 21) O rfl dX7_enough_21 ?_
      exact g_iret (pc := 22) O dX7_enough_22 H
    · replace H := H.2 q2
      refine g_iloadn (pc := 11) O rfl dX7_enough_11 ?_
      refine g_if_lt (tgt := 21) (pc := 12) O dX7_enough_12 rfl (fun q3 => ?_) (fun q3 => ?_)
      · replace H := H.1 q3
        refine g_iconst (v := (I (-1))) (pc := 21) O rfl dX7_enough_21 ?_
        exact g_iret (pc := 22) O dX7_enough_22 H
      · replace H := H.2 q3
        refine g_iloadn (pc := 15) O rfl dX7_enough_15 ?_
        refine g_bipush (v := (I 100)) (pc := 16) O (by decide) dX7_enough_16 ?_
        refine g_icmp_le (tgt := 23) (pc := 18) O dX7_enough_18 rfl (fun q4 => ?_) (fun q4 => ?_)
        · replace H := H.1 q4
          refine g_lconst (v := 1) (pc := 23) O (by decide) dX7_enough_23 ?_
          refine g_lstoren (lv' := [(0, .ref 0), (1, .int x1), (2, .int x2), (3, .long 1)]) (pc := 24) O dX7_enough_24 rfl (ltb rfl) rfl ?_
          refine g_lconst (v := 1) (pc := 25) O (by decide) dX7_enough_25 ?_
          refine g_lstore (lv' := [(0, .ref 0), (1, .int x1), (2, .int x2), (3, .long 1), (5, .long 1)]) (pc := 26) O dX7_enough_26 (ltb rfl) rfl ?_
          refine g_iconst (v := (I 1)) (pc := 28) O rfl dX7_enough_28 ?_
          refine g_istore (lv' := [(0, .ref 0), (1, .int x1), (2, .int x2), (3, .long 1), (5, .long 1), (7, .int (I 1))]) (pc := 29) O dX7_enough_29 (ltb rfl) rfl ?_
          exact H
        · replace H := H.2 q4
          refine g_iconst (v := (I (-1))) (pc := 21) O rfl dX7_enough_21 ?_
          exact g_iret (pc := 22) O dX7_enough_22 H
set_option maxRecDepth 20000 in
set_option maxHeartbeats 2000000 in
theorem bX7_enough_31 {g : mg} {l : Launch} {X : XT} {Q : Int32 → AH → Prop} (O : Ok (FF g l X) RX7 cX7_enough 10 mX7_enough.2.2.2.2 (some .int)) {x1 : Int32} {x2 : Int32} {x3 : Int64} {x5 : Int64} {x7 : Int32} {h : AH} (H : (((I 9) < x7) → (Q (I (-9)) h)) ∧ ((¬ ((I 9) < x7)) → ((((lg_cmp (x3 * (10)) 0) ≤ 0) → (SpL g l mX7_oddsOfAll h [.int x1, .long 0] (fun v4 hv4 => (((lg_cmp v4 ((x2).toInt64 * (10000))) < 0) → (GI g l X Q hv4 31 [(0, .ref 0), (1, .int x1), (2, .int x2), (3, .long (x3 * (10))), (5, .long (x5 * ((h.1 21 4)).toInt64)), (7, .int (x7 + I 1))] [])) ∧ ((¬ ((lg_cmp v4 ((x2).toInt64 * (10000))) < 0)) → (Q x7 hv4))))) ∧ ((¬ ((lg_cmp (x3 * (10)) 0) ≤ 0)) → (¬ (x3 * (10)) = 0 ∧ (SpL g l mX7_oddsOfAll h [.int x1, .long (((1000000) * ((x3 * (10)) - (x5 * ((h.1 21 4)).toInt64))) / (x3 * (10)))] (fun v6 hv6 => (((lg_cmp v6 ((x2).toInt64 * (10000))) < 0) → (GI g l X Q hv6 31 [(0, .ref 0), (1, .int x1), (2, .int x2), (3, .long (x3 * (10))), (5, .long (x5 * ((h.1 21 4)).toInt64)), (7, .int (x7 + I 1))] [])) ∧ ((¬ ((lg_cmp v6 ((x2).toInt64 * (10000))) < 0)) → (Q x7 hv6))))))))) : GI g l X Q h 31 [(0, .ref 0), (1, .int x1), (2, .int x2), (3, .long x3), (5, .long x5), (7, .int x7)] [] := by
  refine g_iload (pc := 31) O rfl dX7_enough_31 ?_
  refine g_bipush (v := (I 9)) (pc := 33) O (by decide) dX7_enough_33 ?_
  refine g_icmp_gt (tgt := 103) (pc := 35) O dX7_enough_35 rfl (fun q1 => ?_) (fun q1 => ?_)
  · replace H := H.1 q1
    refine g_bipush (v := (I (-9))) (pc := 103) O (by decide) dX7_enough_103 ?_
    exact g_iret (pc := 105) O dX7_enough_105 H
  · replace H := H.2 q1
    refine g_lloadn (pc := 38) O rfl dX7_enough_38 ?_
    refine g_ldc2 (pc := 39) O co_X7_222 dX7_enough_39 ?_
    refine g_lmul (pc := 42) O dX7_enough_42 ?_
    refine g_lstoren (lv' := [(0, .ref 0), (1, .int x1), (2, .int x2), (3, .long (x3 * (10))), (5, .long x5), (7, .int x7)]) (pc := 43) O dX7_enough_43 rfl (ltb rfl) rfl ?_
    refine g_lload (pc := 44) O rfl dX7_enough_44 ?_
    refine g_aloadn (pc := 46) O rfl dX7_enough_46 ?_
    refine g_getS (pc := 47) O cls7 fl_X7_27 dX7_enough_47 rfl (ltb rfl) (ltb rfl) rfl rfl ?_
    refine g_iconst (v := (I 4)) (pc := 50) O rfl dX7_enough_50 ?_
    refine g_iald (j := 4) (pc := 51) O dX7_enough_51 rfl rfl (ltb rfl) (ltb rfl) (ltb rfl) rfl ?_
    refine g_i2l (pc := 52) O dX7_enough_52 ?_
    refine g_lmul (pc := 53) O dX7_enough_53 ?_
    refine g_lstore (lv' := [(0, .ref 0), (1, .int x1), (2, .int x2), (3, .long (x3 * (10))), (5, .long (x5 * ((h.1 21 4)).toInt64)), (7, .int x7)]) (pc := 54) O dX7_enough_54 (ltb rfl) rfl ?_
    refine g_lloadn (pc := 56) O rfl dX7_enough_56 ?_
    refine g_lconst (v := 0) (pc := 57) O (by decide) dX7_enough_57 ?_
    refine g_lcmp (pc := 58) O dX7_enough_58 ?_
    refine g_if_le (tgt := 75) (pc := 59) O dX7_enough_59 rfl (fun q3 => ?_) (fun q3 => ?_)
    · replace H := H.1 q3
      refine g_lconst (v := 0) (pc := 75) O (by decide) dX7_enough_75 ?_
      refine g_lstore (lv' := [(0, .ref 0), (1, .int x1), (2, .int x2), (3, .long (x3 * (10))), (5, .long (x5 * ((h.1 21 4)).toInt64)), (7, .int x7), (8, .long 0)]) (pc := 76) O dX7_enough_76 (ltb rfl) rfl ?_
      refine g_iloadn (pc := 78) O rfl dX7_enough_78 ?_
      refine g_lload (pc := 79) O rfl dX7_enough_79 ?_
      refine g_sL [.int x1, .long 0] [] (pc := 81) O mk_X7_oddsOfAll ml_X7_226 sm_X7_oddsOfAll ⟨rfl, rfl, leb rfl, leb rfl⟩ rfl (leb rfl) dX7_enough_81 H rfl (fun v4 hv4 H => ?_)
      refine g_iloadn (pc := 84) O rfl dX7_enough_84 ?_
      refine g_i2l (pc := 85) O dX7_enough_85 ?_
      refine g_ldc2 (pc := 86) O co_X7_230 dX7_enough_86 ?_
      refine g_lmul (pc := 89) O dX7_enough_89 ?_
      refine g_lcmp (pc := 90) O dX7_enough_90 ?_
      refine g_if_lt (tgt := 97) (pc := 91) O dX7_enough_91 rfl (fun q5 => ?_) (fun q5 => ?_)
      · replace H := H.1 q5
        refine g_iinc (lv' := [(0, .ref 0), (1, .int x1), (2, .int x2), (3, .long (x3 * (10))), (5, .long (x5 * ((h.1 21 4)).toInt64)), (7, .int (x7 + I 1)), (8, .long 0)]) (pc := 97) O dX7_enough_97 rfl rfl (ltb rfl) rfl ?_
        refine g_goto (tgt := 31) (pc := 100) O dX7_enough_100 rfl ?_
        refine g_sub [0, 1, 2, 3, 4, 5] rfl ?_
        exact H
      · replace H := H.2 q5
        refine g_iload (pc := 94) O rfl dX7_enough_94 ?_
        exact g_iret (pc := 96) O dX7_enough_96 H
    · replace H := H.2 q3
      refine g_ldc2 (pc := 62) O co_X7_224 dX7_enough_62 ?_
      refine g_lloadn (pc := 65) O rfl dX7_enough_65 ?_
      refine g_lload (pc := 66) O rfl dX7_enough_66 ?_
      refine g_lsub (pc := 68) O dX7_enough_68 ?_
      refine g_lmul (pc := 69) O dX7_enough_69 ?_
      refine g_lloadn (pc := 70) O rfl dX7_enough_70 ?_
      obtain ⟨q8, H⟩ := H
      refine g_ldiv (pc := 71) O q8 dX7_enough_71 ?_
      refine g_goto (tgt := 76) (pc := 72) O dX7_enough_72 rfl ?_
      refine g_lstore (lv' := [(0, .ref 0), (1, .int x1), (2, .int x2), (3, .long (x3 * (10))), (5, .long (x5 * ((h.1 21 4)).toInt64)), (7, .int x7), (8, .long (((1000000) * ((x3 * (10)) - (x5 * ((h.1 21 4)).toInt64))) / (x3 * (10))))]) (pc := 76) O dX7_enough_76 (ltb rfl) rfl ?_
      refine g_iloadn (pc := 78) O rfl dX7_enough_78 ?_
      refine g_lload (pc := 79) O rfl dX7_enough_79 ?_
      refine g_sL [.int x1, .long (((1000000) * ((x3 * (10)) - (x5 * ((h.1 21 4)).toInt64))) / (x3 * (10)))] [] (pc := 81) O mk_X7_oddsOfAll ml_X7_226 sm_X7_oddsOfAll ⟨rfl, rfl, leb rfl, leb rfl⟩ rfl (leb rfl) dX7_enough_81 H rfl (fun v6 hv6 H => ?_)
      refine g_iloadn (pc := 84) O rfl dX7_enough_84 ?_
      refine g_i2l (pc := 85) O dX7_enough_85 ?_
      refine g_ldc2 (pc := 86) O co_X7_230 dX7_enough_86 ?_
      refine g_lmul (pc := 89) O dX7_enough_89 ?_
      refine g_lcmp (pc := 90) O dX7_enough_90 ?_
      refine g_if_lt (tgt := 97) (pc := 91) O dX7_enough_91 rfl (fun q7 => ?_) (fun q7 => ?_)
      · replace H := H.1 q7
        refine g_iinc (lv' := [(0, .ref 0), (1, .int x1), (2, .int x2), (3, .long (x3 * (10))), (5, .long (x5 * ((h.1 21 4)).toInt64)), (7, .int (x7 + I 1)), (8, .long (((1000000) * ((x3 * (10)) - (x5 * ((h.1 21 4)).toInt64))) / (x3 * (10))))]) (pc := 97) O dX7_enough_97 rfl rfl (ltb rfl) rfl ?_
        refine g_goto (tgt := 31) (pc := 100) O dX7_enough_100 rfl ?_
        refine g_sub [0, 1, 2, 3, 4, 5] rfl ?_
        exact H
      · replace H := H.2 q7
        refine g_iload (pc := 94) O rfl dX7_enough_94 ?_
        exact g_iret (pc := 96) O dX7_enough_96 H
set_option maxRecDepth 20000 in
set_option maxHeartbeats 2000000 in
theorem sX7_enough {g : mg} {l : Launch} {Q : Int32 → AH → Prop} {x1 : Int32} {x2 : Int32} {h : AH} (H : ∀ X, Ok (FF g l X) RX7 cX7_enough 10 mX7_enough.2.2.2.2 (some .int) → ((x1 < (I 1)) → (Q (I (-1)) h)) ∧ ((¬ (x1 < (I 1))) → ((((I 10) < x1) → (Q (I (-1)) h)) ∧ ((¬ ((I 10) < x1)) → (((x2 < 0) → (Q (I (-1)) h)) ∧ ((¬ (x2 < 0)) → (((x2 ≤ (I 100)) → (GI g l X Q h 31 [(0, .ref 0), (1, .int x1), (2, .int x2), (3, .long 1), (5, .long 1), (7, .int (I 1))] [])) ∧ ((¬ (x2 ≤ (I 100))) → (Q (I (-1)) h))))))))) : SpI g l mX7_enough h [.ref 0, .int x1, .int x2] Q := spI_of (by decide) (leb rfl) (fun X O => bX7_enough_0 O (H X O))
set_option maxRecDepth 20000 in
set_option maxHeartbeats 2000000 in
theorem bX7_next_0 {g : mg} {l : Launch} {X : XT} {Q : Int32 → AH → Prop} (O : Ok (FF g l X) RX7 cX7_next 6 mX7_next.2.2.2.2 (some .int))  {h : AH} (H : SpV g l mX7_settle h [.ref 0] (fun hv1 => GI g l X Q hv1 11 [(0, .ref 0), (1, .int (I (-9))), (2, .int (I (-1))), (3, .int (I 0))] [])) : GIA g l X Q h 0 [(0, .ref 0)] [] := by
  refine g_aloadn (pc := 0) O rfl dX7_next_0 ?_
  refine g_vVA [] [] (pc := 1) O mk_X7_settle ml_X7_128 im_X7_settle se_X7_settle cls7 rfl ⟨leb rfl, leb rfl, leb rfl, leb rfl⟩ rfl (leb rfl) dX7_next_1 H rfl (fun hv1 H => ?_)
  refine g_bipush (v := (I (-9))) (pc := 4) O (by decide) dX7_next_4 ?_
  refine g_istoren (lv' := [(0, .ref 0), (1, .int (I (-9)))]) (pc := 6) O dX7_next_6 rfl (ltb rfl) rfl ?_
  refine g_iconst (v := (I (-1))) (pc := 7) O rfl dX7_next_7 ?_
  refine g_istoren (lv' := [(0, .ref 0), (1, .int (I (-9))), (2, .int (I (-1)))]) (pc := 8) O dX7_next_8 rfl (ltb rfl) rfl ?_
  refine g_iconst (v := (I 0)) (pc := 9) O rfl dX7_next_9 ?_
  refine g_istoren (lv' := [(0, .ref 0), (1, .int (I (-9))), (2, .int (I (-1))), (3, .int (I 0))]) (pc := 10) O dX7_next_10 rfl (ltb rfl) rfl ?_
  exact H
set_option maxRecDepth 20000 in
set_option maxHeartbeats 2000000 in
theorem bX7_next_11 {g : mg} {l : Launch} {X : XT} {Q : Int32 → AH → Prop} (O : Ok (FF g l X) RX7 cX7_next 6 mX7_next.2.2.2.2 (some .int)) {x1 : Int32} {x2 : Int32} {x3 : Int32} {h : AH} (H : (((I 6) ≤ x3) → (Q x1 h)) ∧ ((¬ ((I 6) ≤ x3)) → (SpI g l mX4_inRoom h [.ref 6, .int x3] (fun v2 hv2 => ((¬ v2 = 0) → (SpI g l mX3_notIn hv2 [.ref 26, .int v2] (fun v4 hv4 => ((v4 ≤ x2) → (GI g l X Q hv4 11 [(0, .ref 0), (1, .int x1), (2, .int x2), (3, .int (x3 + I 1))] [])) ∧ ((¬ (v4 ≤ x2)) → (GI g l X Q hv4 11 [(0, .ref 0), (1, .int x3), (2, .int v4), (3, .int (x3 + I 1))] []))))) ∧ ((v2 = 0) → ((((I (-1)) ≤ x2) → (GI g l X Q hv2 11 [(0, .ref 0), (1, .int x1), (2, .int x2), (3, .int (x3 + I 1))] [])) ∧ ((¬ ((I (-1)) ≤ x2)) → (GI g l X Q hv2 11 [(0, .ref 0), (1, .int x3), (2, .int (I (-1))), (3, .int (x3 + I 1))] [])))))))) : GI g l X Q h 11 [(0, .ref 0), (1, .int x1), (2, .int x2), (3, .int x3)] [] := by
  refine g_iloadn (pc := 11) O rfl dX7_next_11 ?_
  refine g_bipush (v := (I 6)) (pc := 12) O (by decide) dX7_next_12 ?_
  refine g_icmp_ge (tgt := 64) (pc := 14) O dX7_next_14 rfl (fun q1 => ?_) (fun q1 => ?_)
  · replace H := H.1 q1
    refine g_iloadn (pc := 64) O rfl dX7_next_64 ?_
    exact g_iret (pc := 65) O dX7_next_65 H
  · replace H := H.2 q1
    refine g_aloadn (pc := 17) O rfl dX7_next_17 ?_
    refine g_getS (pc := 18) O cls7 fl_X7_19 dX7_next_18 rfl (ltb rfl) (ltb rfl) rfl rfl ?_
    refine g_iloadn (pc := 21) O rfl dX7_next_21 ?_
    refine g_vI [.int x3] [] (pc := 22) O mk_X4_inRoom ml_X7_232 im_X4_inRoom se_X4_inRoom cls4 rfl ⟨rfl, rfl, leb rfl, leb rfl⟩ rfl (leb rfl) dX7_next_22 H rfl (fun v2 hv2 H => ?_)
    refine g_istore (lv' := [(0, .ref 0), (1, .int x1), (2, .int x2), (3, .int x3), (4, .int v2)]) (pc := 25) O dX7_next_25 (ltb rfl) rfl ?_
    refine g_iload (pc := 27) O rfl dX7_next_27 ?_
    refine g_if_ne (tgt := 36) (pc := 29) O dX7_next_29 rfl (fun q3 => ?_) (fun q3 => ?_)
    · replace H := H.1 q3
      refine g_aloadn (pc := 36) O rfl dX7_next_36 ?_
      refine g_getS (pc := 37) O cls7 fl_X7_44 dX7_next_37 rfl (ltb rfl) (ltb rfl) rfl rfl ?_
      refine g_iload (pc := 40) O rfl dX7_next_40 ?_
      refine g_vI [.int v2] [] (pc := 42) O mk_X3_notIn ml_X7_235 im_X3_notIn se_X3_notIn cls3 rfl ⟨rfl, rfl, leb rfl, leb rfl⟩ rfl (leb rfl) dX7_next_42 H rfl (fun v4 hv4 H => ?_)
      refine g_istore (lv' := [(0, .ref 0), (1, .int x1), (2, .int x2), (3, .int x3), (4, .int v2), (5, .int v4)]) (pc := 45) O dX7_next_45 (ltb rfl) rfl ?_
      refine g_iload (pc := 47) O rfl dX7_next_47 ?_
      refine g_iloadn (pc := 49) O rfl dX7_next_49 ?_
      refine g_icmp_le (tgt := 58) (pc := 50) O dX7_next_50 rfl (fun q5 => ?_) (fun q5 => ?_)
      · replace H := H.1 q5
        refine g_iinc (lv' := [(0, .ref 0), (1, .int x1), (2, .int x2), (3, .int (x3 + I 1)), (4, .int v2), (5, .int v4)]) (pc := 58) O dX7_next_58 rfl rfl (ltb rfl) rfl ?_
        refine g_goto (tgt := 11) (pc := 61) O dX7_next_61 rfl ?_
        refine g_sub [0, 1, 2, 3] rfl ?_
        exact H
      · replace H := H.2 q5
        refine g_iloadn (pc := 53) O rfl dX7_next_53 ?_
        refine g_istoren (lv' := [(0, .ref 0), (1, .int x3), (2, .int x2), (3, .int x3), (4, .int v2), (5, .int v4)]) (pc := 54) O dX7_next_54 rfl (ltb rfl) rfl ?_
        refine g_iload (pc := 55) O rfl dX7_next_55 ?_
        refine g_istoren (lv' := [(0, .ref 0), (1, .int x3), (2, .int v4), (3, .int x3), (4, .int v2), (5, .int v4)]) (pc := 57) O dX7_next_57 rfl (ltb rfl) rfl ?_
        refine g_iinc (lv' := [(0, .ref 0), (1, .int x3), (2, .int v4), (3, .int (x3 + I 1)), (4, .int v2), (5, .int v4)]) (pc := 58) O dX7_next_58 rfl rfl (ltb rfl) rfl ?_
        refine g_goto (tgt := 11) (pc := 61) O dX7_next_61 rfl ?_
        refine g_sub [0, 1, 2, 3] rfl ?_
        exact H
    · replace H := H.2 q3
      refine g_iconst (v := (I (-1))) (pc := 32) O rfl dX7_next_32 ?_
      refine g_goto (tgt := 45) (pc := 33) O dX7_next_33 rfl ?_
      refine g_istore (lv' := [(0, .ref 0), (1, .int x1), (2, .int x2), (3, .int x3), (4, .int v2), (5, .int (I (-1)))]) (pc := 45) O dX7_next_45 (ltb rfl) rfl ?_
      refine g_iload (pc := 47) O rfl dX7_next_47 ?_
      refine g_iloadn (pc := 49) O rfl dX7_next_49 ?_
      refine g_icmp_le (tgt := 58) (pc := 50) O dX7_next_50 rfl (fun q6 => ?_) (fun q6 => ?_)
      · replace H := H.1 q6
        refine g_iinc (lv' := [(0, .ref 0), (1, .int x1), (2, .int x2), (3, .int (x3 + I 1)), (4, .int v2), (5, .int (I (-1)))]) (pc := 58) O dX7_next_58 rfl rfl (ltb rfl) rfl ?_
        refine g_goto (tgt := 11) (pc := 61) O dX7_next_61 rfl ?_
        refine g_sub [0, 1, 2, 3] rfl ?_
        exact H
      · replace H := H.2 q6
        refine g_iloadn (pc := 53) O rfl dX7_next_53 ?_
        refine g_istoren (lv' := [(0, .ref 0), (1, .int x3), (2, .int x2), (3, .int x3), (4, .int v2), (5, .int (I (-1)))]) (pc := 54) O dX7_next_54 rfl (ltb rfl) rfl ?_
        refine g_iload (pc := 55) O rfl dX7_next_55 ?_
        refine g_istoren (lv' := [(0, .ref 0), (1, .int x3), (2, .int (I (-1))), (3, .int x3), (4, .int v2), (5, .int (I (-1)))]) (pc := 57) O dX7_next_57 rfl (ltb rfl) rfl ?_
        refine g_iinc (lv' := [(0, .ref 0), (1, .int x3), (2, .int (I (-1))), (3, .int (x3 + I 1)), (4, .int v2), (5, .int (I (-1)))]) (pc := 58) O dX7_next_58 rfl rfl (ltb rfl) rfl ?_
        refine g_goto (tgt := 11) (pc := 61) O dX7_next_61 rfl ?_
        refine g_sub [0, 1, 2, 3] rfl ?_
        exact H
set_option maxRecDepth 20000 in
set_option maxHeartbeats 2000000 in
theorem sX7_next {g : mg} {l : Launch} {Q : Int32 → AH → Prop}  {h : AH} (H : ∀ X, Ok (FF g l X) RX7 cX7_next 6 mX7_next.2.2.2.2 (some .int) → SpV g l mX7_settle h [.ref 0] (fun hv1 => GI g l X Q hv1 11 [(0, .ref 0), (1, .int (I (-9))), (2, .int (I (-1))), (3, .int (I 0))] [])) : SpI g l mX7_next h [.ref 0] Q := spI_ofA (by decide) (leb rfl) (fun X O => bX7_next_0 O (H X O))
set_option maxRecDepth 20000 in
set_option maxHeartbeats 2000000 in
theorem bX7_rank_0 {g : mg} {l : Launch} {X : XT} {Q : Int32 → AH → Prop} (O : Ok (FF g l X) RX7 cX7_rank 4 mX7_rank.2.2.2.2 (some .int)) {x1 : Int32} {x2 : Int32} {x3 : Int32} {h : AH} (H : SpI g l mX7_isCoat h [.ref 0, .int x2, .int x3] (fun v1 hv1 => ((¬ v1 = 0) → (SpV g l mX7_settle hv1 [.ref 0] (fun hv3 => (x1 = I 0 → (SpI g l mX7_asCoat hv3 [.ref 0, .int x2, .int x3] (fun v4 hv4 => Q v4 hv4))) ∧ (x1 = I 1 → (SpI g l mX7_asWhole hv3 [.ref 0, .int x2, .int x3] (fun v5 hv5 => Q v5 hv5))) ∧ (x1 = I 2 → (SpI g l mX7_asUnder hv3 [.ref 0, .int x2, .int x3] (fun v6 hv6 => Q v6 hv6))) ∧ (x1 = I 3 → (SpI g l mX7_asPatch hv3 [.ref 0, .int x2, .int x3] (fun v7 hv7 => Q v7 hv7))) ∧ (x1 = I 4 → (SpI g l mX7_asScraped hv3 [.ref 0, .int x2, .int x3] (fun v8 hv8 => Q v8 hv8))) ∧ (x1 = I 5 → (SpI g l mX7_asVarnish hv3 [.ref 0, .int x2, .int x3] (fun v9 hv9 => Q v9 hv9))) ∧ ((∀ j : Nat, j < 6 → ¬ x1 = I (j : Int)) → (Q (-1000000) hv3))))) ∧ ((v1 = 0) → (Q (-1000000) hv1)))) : GIA g l X Q h 0 [(0, .ref 0), (1, .int x1), (2, .int x2), (3, .int x3)] [] := by
  refine g_aloadn (pc := 0) O rfl dX7_rank_0 ?_
  refine g_iloadn (pc := 1) O rfl dX7_rank_1 ?_
  refine g_iloadn (pc := 2) O rfl dX7_rank_2 ?_
  refine g_vI0 [.int x2, .int x3] [] (pc := 3) O mk_X7_isCoat ml_X7_118 im_X7_isCoat se_X7_isCoat cls7 rfl ⟨rfl, rfl, leb rfl, leb rfl⟩ rfl (leb rfl) dX7_rank_3 H rfl (fun v1 hv1 H => ?_)
  refine g_if_ne (tgt := 12) (pc := 6) O dX7_rank_6 rfl (fun q2 => ?_) (fun q2 => ?_)
  · replace H := H.1 q2
    refine g_aloadn (pc := 12) O rfl dX7_rank_12 ?_
    refine g_vVA [] [] (pc := 13) O mk_X7_settle ml_X7_128 im_X7_settle se_X7_settle cls7 rfl ⟨leb rfl, leb rfl, leb rfl, leb rfl⟩ rfl (leb rfl) dX7_rank_13 H rfl (fun hv3 H => ?_)
    refine g_iloadn (pc := 16) O rfl dX7_rank_16 ?_
    refine g_tab (n := 6) (pc := 17) O dX7_rank_17 rfl rfl (leb rfl) (fun j hj q => ?_) (fun q => ?_)
    · match j, hj, q with
      | 0, _, q =>
        refine ⟨56, rfl, ?_⟩
        replace H := H.1 q
        refine g_aloadn (pc := 56) O rfl dX7_rank_56 ?_
        refine g_iloadn (pc := 57) O rfl dX7_rank_57 ?_
        refine g_iloadn (pc := 58) O rfl dX7_rank_58 ?_
        refine g_vI [.int x2, .int x3] [] (pc := 59) O mk_X7_asCoat ml_X7_239 im_X7_asCoat se_X7_asCoat cls7 rfl ⟨rfl, rfl, leb rfl, leb rfl⟩ rfl (leb rfl) dX7_rank_59 H rfl (fun v4 hv4 H => ?_)
        exact g_iret (pc := 62) O dX7_rank_62 H
      | 1, _, q =>
        refine ⟨63, rfl, ?_⟩
        replace H := H.2.1 q
        refine g_aloadn (pc := 63) O rfl dX7_rank_63 ?_
        refine g_iloadn (pc := 64) O rfl dX7_rank_64 ?_
        refine g_iloadn (pc := 65) O rfl dX7_rank_65 ?_
        refine g_vI [.int x2, .int x3] [] (pc := 66) O mk_X7_asWhole ml_X7_242 im_X7_asWhole se_X7_asWhole cls7 rfl ⟨rfl, rfl, leb rfl, leb rfl⟩ rfl (leb rfl) dX7_rank_66 H rfl (fun v5 hv5 H => ?_)
        exact g_iret (pc := 69) O dX7_rank_69 H
      | 2, _, q =>
        refine ⟨70, rfl, ?_⟩
        replace H := H.2.2.1 q
        refine g_aloadn (pc := 70) O rfl dX7_rank_70 ?_
        refine g_iloadn (pc := 71) O rfl dX7_rank_71 ?_
        refine g_iloadn (pc := 72) O rfl dX7_rank_72 ?_
        refine g_vI [.int x2, .int x3] [] (pc := 73) O mk_X7_asUnder ml_X7_245 im_X7_asUnder se_X7_asUnder cls7 rfl ⟨rfl, rfl, leb rfl, leb rfl⟩ rfl (leb rfl) dX7_rank_73 H rfl (fun v6 hv6 H => ?_)
        exact g_iret (pc := 76) O dX7_rank_76 H
      | 3, _, q =>
        refine ⟨77, rfl, ?_⟩
        replace H := H.2.2.2.1 q
        refine g_aloadn (pc := 77) O rfl dX7_rank_77 ?_
        refine g_iloadn (pc := 78) O rfl dX7_rank_78 ?_
        refine g_iloadn (pc := 79) O rfl dX7_rank_79 ?_
        refine g_vI [.int x2, .int x3] [] (pc := 80) O mk_X7_asPatch ml_X7_248 im_X7_asPatch se_X7_asPatch cls7 rfl ⟨rfl, rfl, leb rfl, leb rfl⟩ rfl (leb rfl) dX7_rank_80 H rfl (fun v7 hv7 H => ?_)
        exact g_iret (pc := 83) O dX7_rank_83 H
      | 4, _, q =>
        refine ⟨84, rfl, ?_⟩
        replace H := H.2.2.2.2.1 q
        refine g_aloadn (pc := 84) O rfl dX7_rank_84 ?_
        refine g_iloadn (pc := 85) O rfl dX7_rank_85 ?_
        refine g_iloadn (pc := 86) O rfl dX7_rank_86 ?_
        refine g_vI [.int x2, .int x3] [] (pc := 87) O mk_X7_asScraped ml_X7_251 im_X7_asScraped se_X7_asScraped cls7 rfl ⟨rfl, rfl, leb rfl, leb rfl⟩ rfl (leb rfl) dX7_rank_87 H rfl (fun v8 hv8 H => ?_)
        exact g_iret (pc := 90) O dX7_rank_90 H
      | 5, _, q =>
        refine ⟨91, rfl, ?_⟩
        replace H := H.2.2.2.2.2.1 q
        refine g_aloadn (pc := 91) O rfl dX7_rank_91 ?_
        refine g_iloadn (pc := 92) O rfl dX7_rank_92 ?_
        refine g_iloadn (pc := 93) O rfl dX7_rank_93 ?_
        refine g_vI [.int x2, .int x3] [] (pc := 94) O mk_X7_asVarnish ml_X7_254 im_X7_asVarnish se_X7_asVarnish cls7 rfl ⟨rfl, rfl, leb rfl, leb rfl⟩ rfl (leb rfl) dX7_rank_94 H rfl (fun v9 hv9 H => ?_)
        exact g_iret (pc := 97) O dX7_rank_97 H
      | j + 6, hj, _ => exact absurd hj (by omega)
    · refine ⟨98, rfl, ?_⟩
      replace H := H.2.2.2.2.2.2 q
      refine g_ldc (pc := 98) O co_X7_238 dX7_rank_98 ?_
      exact g_iret (pc := 100) O dX7_rank_100 H
  · replace H := H.2 q2
    refine g_wR ?_
    refine g_ldc (pc := 9) O co_X7_238 dX7_rank_9 ?_
    exact g_iret (pc := 11) O dX7_rank_11 H
set_option maxRecDepth 20000 in
set_option maxHeartbeats 2000000 in
theorem sX7_rank {g : mg} {l : Launch} {Q : Int32 → AH → Prop} {x1 : Int32} {x2 : Int32} {x3 : Int32} {h : AH} (H : SpI g l mX7_isCoat h [.ref 0, .int x2, .int x3] (fun v1 hv1 => ((¬ v1 = 0) → (SpV g l mX7_settle hv1 [.ref 0] (fun hv3 => (x1 = I 0 → (SpI g l mX7_asCoat hv3 [.ref 0, .int x2, .int x3] (fun v4 hv4 => Q v4 hv4))) ∧ (x1 = I 1 → (SpI g l mX7_asWhole hv3 [.ref 0, .int x2, .int x3] (fun v5 hv5 => Q v5 hv5))) ∧ (x1 = I 2 → (SpI g l mX7_asUnder hv3 [.ref 0, .int x2, .int x3] (fun v6 hv6 => Q v6 hv6))) ∧ (x1 = I 3 → (SpI g l mX7_asPatch hv3 [.ref 0, .int x2, .int x3] (fun v7 hv7 => Q v7 hv7))) ∧ (x1 = I 4 → (SpI g l mX7_asScraped hv3 [.ref 0, .int x2, .int x3] (fun v8 hv8 => Q v8 hv8))) ∧ (x1 = I 5 → (SpI g l mX7_asVarnish hv3 [.ref 0, .int x2, .int x3] (fun v9 hv9 => Q v9 hv9))) ∧ ((∀ j : Nat, j < 6 → ¬ x1 = I (j : Int)) → (Q (-1000000) hv3))))) ∧ ((v1 = 0) → (Q (-1000000) hv1)))) : SpI g l mX7_rank h [.ref 0, .int x1, .int x2, .int x3] Q := spI_ofA (by decide) (leb rfl) (fun X O => bX7_rank_0 O H)
set_option maxRecDepth 20000 in
set_option maxHeartbeats 2000000 in
theorem bX7_keep_0 {g : mg} {l : Launch} {X : XT} {Q : Int32 → AH → Prop} (O : Ok (FF g l X) RX7 cX7_keep 2 mX7_keep.2.2.2.2 (some .int)) {x1 : Int32} {h : AH} (H : ((x1 < 0) → (Q (I (-1)) h)) ∧ ((¬ (x1 < 0)) → (((x1 < (I 2)) → (∃ j3 : Nat, x1 = I (j3 : Int) ∧ j3 < 2 ∧ (∃ b4 : Nat, h.2.2 20 j3 = some b4 ∧ lay b4 = (4, 3) ∧ (SpV g l mX4_copy h [.ref b4, .ref 6] (fun hv5 => ∃ j6 : Nat, x1 = I (j6 : Int) ∧ j6 < 2 ∧ (∃ b7 : Nat, hv5.2.2 20 j6 = some b7 ∧ lay b7 = (4, 3) ∧ (Q ((sI hv5 b7 2 (I 1)).1 6 1) (sI hv5 b7 2 (I 1))))))))) ∧ ((¬ (x1 < (I 2))) → (Q (I (-1)) h))))) : GI g l X Q h 0 [(0, .ref 0), (1, .int x1)] [] := by
  refine g_iloadn (pc := 0) O rfl dX7_keep_0 ?_
  refine g_if_lt (tgt := 9) (pc := 1) O dX7_keep_1 rfl (fun q1 => ?_) (fun q1 => ?_)
  · replace H := H.1 q1
    refine g_iconst (v := (I (-1))) (pc := 9) O rfl dX7_keep_9 ?_
    exact g_iret (pc := 10) O dX7_keep_10 H
  · replace H := H.2 q1
    refine g_iloadn (pc := 4) O rfl dX7_keep_4 ?_
    refine g_iconst (v := (I 2)) (pc := 5) O rfl dX7_keep_5 ?_
    refine g_icmp_lt (tgt := 11) (pc := 6) O dX7_keep_6 rfl (fun q2 => ?_) (fun q2 => ?_)
    · replace H := H.1 q2
      refine g_aloadn (pc := 11) O rfl dX7_keep_11 ?_
      refine g_getS (pc := 12) O cls7 fl_X7_23 dX7_keep_12 rfl (ltb rfl) (ltb rfl) rfl rfl ?_
      refine g_iloadn (pc := 15) O rfl dX7_keep_15 ?_
      obtain ⟨j3, ej3, bj3, H⟩ := H
      obtain ⟨b4, rb4, hb4, H⟩ := H
      refine g_aald (t := 1) (j := j3) (pc := 16) O dX7_keep_16 ej3 (ltb rfl) rfl (ltb rfl) bj3 (ltb rfl) rb4 ?_
      refine g_aloadn (pc := 17) O rfl dX7_keep_17 ?_
      refine g_getS (pc := 18) O cls7 fl_X7_19 dX7_keep_18 rfl (ltb rfl) (ltb rfl) rfl rfl ?_
      refine g_vV [.ref 6] [] (pc := 21) O mk_X4_copy ml_X7_257 im_X4_copy se_X4_copy cls4 hb4 ⟨rfl, rfl, leb rfl, leb rfl⟩ rfl (leb rfl) dX7_keep_21 H rfl (fun hv5 H => ?_)
      refine g_aloadn (pc := 24) O rfl dX7_keep_24 ?_
      refine g_getS (pc := 25) O cls7 fl_X7_23 dX7_keep_25 rfl (ltb rfl) (ltb rfl) rfl rfl ?_
      refine g_iloadn (pc := 28) O rfl dX7_keep_28 ?_
      obtain ⟨j6, ej6, bj6, H⟩ := H
      obtain ⟨b7, rb7, hb7, H⟩ := H
      refine g_aald (t := 1) (j := j6) (pc := 29) O dX7_keep_29 ej6 (ltb rfl) rfl (ltb rfl) bj6 (ltb rfl) rb7 ?_
      refine g_iconst (v := (I 1)) (pc := 30) O rfl dX7_keep_30 ?_
      refine g_putZ (pc := 31) O cls4 fl_X7_261 dX7_keep_31 hb7 (lay_lt hb7 (by decide)) (leb rfl) (ltb rfl) rfl rfl (by decide +kernel) (by decide) ?_
      refine g_aloadn (pc := 34) O rfl dX7_keep_34 ?_
      refine g_getS (pc := 35) O cls7 fl_X7_19 dX7_keep_35 rfl (ltb rfl) (ltb rfl) rfl rfl ?_
      refine g_getI (v := (sI hv5 b7 2 (I 1)).1 6 1) (pc := 38) O cls4 fl_X7_73 dX7_keep_38 rfl (ltb rfl) (ltb rfl) rfl rfl ?_
      exact g_iret (pc := 41) O dX7_keep_41 H
    · replace H := H.2 q2
      refine g_iconst (v := (I (-1))) (pc := 9) O rfl dX7_keep_9 ?_
      exact g_iret (pc := 10) O dX7_keep_10 H
set_option maxRecDepth 20000 in
set_option maxHeartbeats 2000000 in
theorem sX7_keep {g : mg} {l : Launch} {Q : Int32 → AH → Prop} {x1 : Int32} {h : AH} (H : ((x1 < 0) → (Q (I (-1)) h)) ∧ ((¬ (x1 < 0)) → (((x1 < (I 2)) → (∃ j3 : Nat, x1 = I (j3 : Int) ∧ j3 < 2 ∧ (∃ b4 : Nat, h.2.2 20 j3 = some b4 ∧ lay b4 = (4, 3) ∧ (SpV g l mX4_copy h [.ref b4, .ref 6] (fun hv5 => ∃ j6 : Nat, x1 = I (j6 : Int) ∧ j6 < 2 ∧ (∃ b7 : Nat, hv5.2.2 20 j6 = some b7 ∧ lay b7 = (4, 3) ∧ (Q ((sI hv5 b7 2 (I 1)).1 6 1) (sI hv5 b7 2 (I 1))))))))) ∧ ((¬ (x1 < (I 2))) → (Q (I (-1)) h))))) : SpI g l mX7_keep h [.ref 0, .int x1] Q := spI_of (by decide) (leb rfl) (fun X O => bX7_keep_0 O H)
set_option maxRecDepth 20000 in
set_option maxHeartbeats 2000000 in
theorem bX7_back_0 {g : mg} {l : Launch} {X : XT} {Q : Int32 → AH → Prop} (O : Ok (FF g l X) RX7 cX7_back 2 mX7_back.2.2.2.2 (some .int)) {x1 : Int32} {h : AH} (H : ((x1 < 0) → (Q (I (-1)) h)) ∧ ((¬ (x1 < 0)) → (((x1 < (I 2)) → (∃ j3 : Nat, x1 = I (j3 : Int) ∧ j3 < 2 ∧ (∃ b4 : Nat, h.2.2 20 j3 = some b4 ∧ lay b4 = (4, 3) ∧ (((¬ (h.1 b4 2) = 0) → (∃ j6 : Nat, x1 = I (j6 : Int) ∧ j6 < 2 ∧ (∃ b7 : Nat, h.2.2 20 j6 = some b7 ∧ lay b7 = (4, 3) ∧ (SpV g l mX4_copy h [.ref 6, .ref b7] (fun hv8 => Q (hv8.1 6 1) (sI hv8 0 10 (I 0))))))) ∧ (((h.1 b4 2) = 0) → (Q (I (-2)) h)))))) ∧ ((¬ (x1 < (I 2))) → (Q (I (-1)) h))))) : GI g l X Q h 0 [(0, .ref 0), (1, .int x1)] [] := by
  refine g_iloadn (pc := 0) O rfl dX7_back_0 ?_
  refine g_if_lt (tgt := 9) (pc := 1) O dX7_back_1 rfl (fun q1 => ?_) (fun q1 => ?_)
  · replace H := H.1 q1
    refine g_iconst (v := (I (-1))) (pc := 9) O rfl dX7_back_9 ?_
    exact g_iret (pc := 10) O dX7_back_10 H
  · replace H := H.2 q1
    refine g_iloadn (pc := 4) O rfl dX7_back_4 ?_
    refine g_iconst (v := (I 2)) (pc := 5) O rfl dX7_back_5 ?_
    refine g_icmp_lt (tgt := 11) (pc := 6) O dX7_back_6 rfl (fun q2 => ?_) (fun q2 => ?_)
    · replace H := H.1 q2
      refine g_aloadn (pc := 11) O rfl dX7_back_11 ?_
      refine g_getS (pc := 12) O cls7 fl_X7_23 dX7_back_12 rfl (ltb rfl) (ltb rfl) rfl rfl ?_
      refine g_iloadn (pc := 15) O rfl dX7_back_15 ?_
      obtain ⟨j3, ej3, bj3, H⟩ := H
      obtain ⟨b4, rb4, hb4, H⟩ := H
      refine g_aald (t := 1) (j := j3) (pc := 16) O dX7_back_16 ej3 (ltb rfl) rfl (ltb rfl) bj3 (ltb rfl) rb4 ?_
      refine g_getI (v := h.1 b4 2) (pc := 17) O cls4 fl_X7_261 dX7_back_17 hb4 (lay_lt hb4 (by decide)) (ltb rfl) rfl rfl ?_
      refine g_if_ne (tgt := 26) (pc := 20) O dX7_back_20 rfl (fun q5 => ?_) (fun q5 => ?_)
      · replace H := H.1 q5
        refine g_aloadn (pc := 26) O rfl dX7_back_26 ?_
        refine g_getS (pc := 27) O cls7 fl_X7_19 dX7_back_27 rfl (ltb rfl) (ltb rfl) rfl rfl ?_
        refine g_aloadn (pc := 30) O rfl dX7_back_30 ?_
        refine g_getS (pc := 31) O cls7 fl_X7_23 dX7_back_31 rfl (ltb rfl) (ltb rfl) rfl rfl ?_
        refine g_iloadn (pc := 34) O rfl dX7_back_34 ?_
        obtain ⟨j6, ej6, bj6, H⟩ := H
        obtain ⟨b7, rb7, hb7, H⟩ := H
        refine g_aald (t := 1) (j := j6) (pc := 35) O dX7_back_35 ej6 (ltb rfl) rfl (ltb rfl) bj6 (ltb rfl) rb7 ?_
        refine g_vV [.ref b7] [] (pc := 36) O mk_X4_copy ml_X7_257 im_X4_copy se_X4_copy cls4 rfl ⟨rfl, rfl, leb rfl, leb rfl⟩ rfl (leb rfl) dX7_back_36 H rfl (fun hv8 H => ?_)
        refine g_aloadn (pc := 39) O rfl dX7_back_39 ?_
        refine g_iconst (v := (I 0)) (pc := 40) O rfl dX7_back_40 ?_
        refine g_putZ (pc := 41) O cls7 fl_X7_93 dX7_back_41 rfl (ltb rfl) (leb rfl) (ltb rfl) rfl rfl (by decide +kernel) (by decide) ?_
        refine g_aloadn (pc := 44) O rfl dX7_back_44 ?_
        refine g_getS (pc := 45) O cls7 fl_X7_19 dX7_back_45 rfl (ltb rfl) (ltb rfl) rfl rfl ?_
        refine g_getI (v := hv8.1 6 1) (pc := 48) O cls4 fl_X7_73 dX7_back_48 rfl (ltb rfl) (ltb rfl) rfl rfl ?_
        exact g_iret (pc := 51) O dX7_back_51 H
      · replace H := H.2 q5
        refine g_bipush (v := (I (-2))) (pc := 23) O (by decide) dX7_back_23 ?_
        exact g_iret (pc := 25) O dX7_back_25 H
    · replace H := H.2 q2
      refine g_iconst (v := (I (-1))) (pc := 9) O rfl dX7_back_9 ?_
      exact g_iret (pc := 10) O dX7_back_10 H
set_option maxRecDepth 20000 in
set_option maxHeartbeats 2000000 in
theorem sX7_back {g : mg} {l : Launch} {Q : Int32 → AH → Prop} {x1 : Int32} {h : AH} (H : ((x1 < 0) → (Q (I (-1)) h)) ∧ ((¬ (x1 < 0)) → (((x1 < (I 2)) → (∃ j3 : Nat, x1 = I (j3 : Int) ∧ j3 < 2 ∧ (∃ b4 : Nat, h.2.2 20 j3 = some b4 ∧ lay b4 = (4, 3) ∧ (((¬ (h.1 b4 2) = 0) → (∃ j6 : Nat, x1 = I (j6 : Int) ∧ j6 < 2 ∧ (∃ b7 : Nat, h.2.2 20 j6 = some b7 ∧ lay b7 = (4, 3) ∧ (SpV g l mX4_copy h [.ref 6, .ref b7] (fun hv8 => Q (hv8.1 6 1) (sI hv8 0 10 (I 0))))))) ∧ (((h.1 b4 2) = 0) → (Q (I (-2)) h)))))) ∧ ((¬ (x1 < (I 2))) → (Q (I (-1)) h))))) : SpI g l mX7_back h [.ref 0, .int x1] Q := spI_of (by decide) (leb rfl) (fun X O => bX7_back_0 O H)
set_option maxRecDepth 20000 in
set_option maxHeartbeats 2000000 in
theorem bX7_count_0 {g : mg} {l : Launch} {X : XT} {Q : Int32 → AH → Prop} (O : Ok (FF g l X) RX7 cX7_count 2 mX7_count.2.2.2.2 (some .int)) {x1 : Int32} {h : AH} (H : (x1 = I 0 → (Q (h.1 6 1) h)) ∧ (x1 = I 1 → (SpI g l mX4_coats h [.ref 6] (fun v1 hv1 => Q v1 hv1))) ∧ (x1 = I 2 → (∃ b2 : Nat, h.2.2 0 8 = some b2 ∧ lay b2 = (0, 7) ∧ (Q (h.1 b2 5) h))) ∧ (x1 = I 3 → (Q (h.1 1 1) h)) ∧ ((∀ j : Nat, j < 4 → ¬ x1 = I (j : Int)) → (Q (I (-1)) h))) : GI g l X Q h 0 [(0, .ref 0), (1, .int x1)] [] := by
  refine g_iloadn (pc := 0) O rfl dX7_count_0 ?_
  refine g_tab (n := 4) (pc := 1) O dX7_count_1 rfl rfl (leb rfl) (fun j hj q => ?_) (fun q => ?_)
  · match j, hj, q with
    | 0, _, q =>
      refine ⟨32, rfl, ?_⟩
      replace H := H.1 q
      refine g_aloadn (pc := 32) O rfl dX7_count_32 ?_
      refine g_getS (pc := 33) O cls7 fl_X7_19 dX7_count_33 rfl (ltb rfl) (ltb rfl) rfl rfl ?_
      refine g_getI (v := h.1 6 1) (pc := 36) O cls4 fl_X7_73 dX7_count_36 rfl (ltb rfl) (ltb rfl) rfl rfl ?_
      exact g_iret (pc := 39) O dX7_count_39 H
    | 1, _, q =>
      refine ⟨40, rfl, ?_⟩
      replace H := H.2.1 q
      refine g_aloadn (pc := 40) O rfl dX7_count_40 ?_
      refine g_getS (pc := 41) O cls7 fl_X7_19 dX7_count_41 rfl (ltb rfl) (ltb rfl) rfl rfl ?_
      refine g_vI [] [] (pc := 44) O mk_X4_coats ml_X7_264 im_X4_coats se_X4_coats cls4 rfl ⟨rfl, rfl, leb rfl, leb rfl⟩ rfl (leb rfl) dX7_count_44 H rfl (fun v1 hv1 H => ?_)
      exact g_iret (pc := 47) O dX7_count_47 H
    | 2, _, q =>
      refine ⟨48, rfl, ?_⟩
      replace H := H.2.2.1 q
      refine g_aloadn (pc := 48) O rfl dX7_count_48 ?_
      obtain ⟨b2, rb2, hb2, H⟩ := H
      refine g_getR (pc := 49) O cls7 fl_X7_58 dX7_count_49 rfl (ltb rfl) (ltb rfl) rfl rfl rb2 ?_
      refine g_getI (v := h.1 b2 5) (pc := 52) O cls0 fl_X7_203 dX7_count_52 hb2 (lay_lt hb2 (by decide)) (ltb rfl) rfl rfl ?_
      exact g_iret (pc := 55) O dX7_count_55 H
    | 3, _, q =>
      refine ⟨56, rfl, ?_⟩
      replace H := H.2.2.2.1 q
      refine g_aloadn (pc := 56) O rfl dX7_count_56 ?_
      refine g_getS (pc := 57) O cls7 fl_X7_12 dX7_count_57 rfl (ltb rfl) (ltb rfl) rfl rfl ?_
      refine g_getI (v := h.1 1 1) (pc := 60) O cls5 fl_X7_69 dX7_count_60 rfl (ltb rfl) (ltb rfl) rfl rfl ?_
      exact g_iret (pc := 63) O dX7_count_63 H
    | j + 4, hj, _ => exact absurd hj (by omega)
  · refine ⟨64, rfl, ?_⟩
    replace H := H.2.2.2.2 q
    refine g_iconst (v := (I (-1))) (pc := 64) O rfl dX7_count_64 ?_
    exact g_iret (pc := 65) O dX7_count_65 H
set_option maxRecDepth 20000 in
set_option maxHeartbeats 2000000 in
theorem sX7_count {g : mg} {l : Launch} {Q : Int32 → AH → Prop} {x1 : Int32} {h : AH} (H : (x1 = I 0 → (Q (h.1 6 1) h)) ∧ (x1 = I 1 → (SpI g l mX4_coats h [.ref 6] (fun v1 hv1 => Q v1 hv1))) ∧ (x1 = I 2 → (∃ b2 : Nat, h.2.2 0 8 = some b2 ∧ lay b2 = (0, 7) ∧ (Q (h.1 b2 5) h))) ∧ (x1 = I 3 → (Q (h.1 1 1) h)) ∧ ((∀ j : Nat, j < 4 → ¬ x1 = I (j : Int)) → (Q (I (-1)) h))) : SpI g l mX7_count h [.ref 0, .int x1] Q := spI_of (by decide) (leb rfl) (fun X O => bX7_count_0 O H)
set_option maxRecDepth 20000 in
set_option maxHeartbeats 2000000 in
theorem bX7_trace_0 {g : mg} {l : Launch} {X : XT} {Q : Int64 → AH → Prop} (O : Ok (FF g l X) RX7 cX7_trace 1 mX7_trace.2.2.2.2 (some .long))  {h : AH} (H : Q (h.2.1 0 11) h) : GL g l X Q h 0 [(0, .ref 0)] [] := by
  refine g_aloadn (pc := 0) O rfl dX7_trace_0 ?_
  refine g_getL (v := h.2.1 0 11) (pc := 1) O cls7 fl_X7_267 dX7_trace_1 rfl (ltb rfl) (ltb rfl) rfl rfl ?_
  exact g_lret (pc := 4) O dX7_trace_4 H
set_option maxRecDepth 20000 in
set_option maxHeartbeats 2000000 in
theorem sX7_trace {g : mg} {l : Launch} {Q : Int64 → AH → Prop}  {h : AH} (H : Q (h.2.1 0 11) h) : SpL g l mX7_trace h [.ref 0] Q := spL_of (by decide) (leb rfl) (fun X O => bX7_trace_0 O H)
set_option maxRecDepth 20000 in
set_option maxHeartbeats 2000000 in
theorem bX7_isChip_0 {g : mg} {l : Launch} {X : XT} {Q : Int32 → AH → Prop} (O : Ok (FF g l X) RX7 cX7_isChip 2 mX7_isChip.2.2.2.2 (some .boolean)) {x1 : Int32} {h : AH} (H : ((x1 < 0) → (Q (I 0) h)) ∧ ((¬ (x1 < 0)) → ((((h.1 6 1) ≤ x1) → (Q (I 0) h)) ∧ ((¬ ((h.1 6 1) ≤ x1)) → (Q (I 1) h))))) : GI g l X Q h 0 [(0, .ref 0), (1, .int x1)] [] := by
  refine g_iloadn (pc := 0) O rfl dX7_isChip_0 ?_
  refine g_if_lt (tgt := 19) (pc := 1) O dX7_isChip_1 rfl (fun q1 => ?_) (fun q1 => ?_)
  · replace H := H.1 q1
    refine g_iconst (v := (I 0)) (pc := 19) O rfl dX7_isChip_19 ?_
    exact g_zret (pc := 20) O dX7_isChip_20 (by decide) H
  · replace H := H.2 q1
    refine g_iloadn (pc := 4) O rfl dX7_isChip_4 ?_
    refine g_aloadn (pc := 5) O rfl dX7_isChip_5 ?_
    refine g_getS (pc := 6) O cls7 fl_X7_19 dX7_isChip_6 rfl (ltb rfl) (ltb rfl) rfl rfl ?_
    refine g_getI (v := h.1 6 1) (pc := 9) O cls4 fl_X7_73 dX7_isChip_9 rfl (ltb rfl) (ltb rfl) rfl rfl ?_
    refine g_icmp_ge (tgt := 19) (pc := 12) O dX7_isChip_12 rfl (fun q2 => ?_) (fun q2 => ?_)
    · replace H := H.1 q2
      refine g_iconst (v := (I 0)) (pc := 19) O rfl dX7_isChip_19 ?_
      exact g_zret (pc := 20) O dX7_isChip_20 (by decide) H
    · replace H := H.2 q2
      refine g_iconst (v := (I 1)) (pc := 15) O rfl dX7_isChip_15 ?_
      refine g_goto (tgt := 20) (pc := 16) O dX7_isChip_16 rfl ?_
      exact g_zret (pc := 20) O dX7_isChip_20 (by decide) H
set_option maxRecDepth 20000 in
set_option maxHeartbeats 2000000 in
theorem sX7_isChip {g : mg} {l : Launch} {Q : Int32 → AH → Prop} {x1 : Int32} {h : AH} (H : ((x1 < 0) → (Q (I 0) h)) ∧ ((¬ (x1 < 0)) → ((((h.1 6 1) ≤ x1) → (Q (I 0) h)) ∧ ((¬ ((h.1 6 1) ≤ x1)) → (Q (I 1) h))))) : SpI g l mX7_isChip h [.ref 0, .int x1] Q := spI_of (by decide) (leb rfl) (fun X O => bX7_isChip_0 O H)
set_option maxRecDepth 20000 in
set_option maxHeartbeats 2000000 in
theorem bX7_isCoat_0 {g : mg} {l : Launch} {X : XT} {Q : Int32 → AH → Prop} (O : Ok (FF g l X) RX7 cX7_isCoat 3 mX7_isCoat.2.2.2.2 (some .boolean)) {x1 : Int32} {x2 : Int32} {h : AH} (H : SpI g l mX7_isChip h [.ref 0, .int x1] (fun v1 hv1 => ((v1 = 0) → (Q (I 0) hv1)) ∧ ((¬ (v1 = 0)) → (((x2 < 0) → (Q (I 0) hv1)) ∧ ((¬ (x2 < 0)) → (∃ j4 : Nat, x1 = I (j4 : Int) ∧ j4 < 4 ∧ (∃ b5 : Nat, hv1.2.2 7 j4 = some b5 ∧ lay b5 = (1, 5) ∧ ((((hv1.1 b5 3) ≤ x2) → (Q (I 0) hv1)) ∧ ((¬ ((hv1.1 b5 3) ≤ x2)) → (Q (I 1) hv1)))))))))) : GI g l X Q h 0 [(0, .ref 0), (1, .int x1), (2, .int x2)] [] := by
  refine g_aloadn (pc := 0) O rfl dX7_isCoat_0 ?_
  refine g_iloadn (pc := 1) O rfl dX7_isCoat_1 ?_
  refine g_vI [.int x1] [] (pc := 2) O mk_X7_isChip ml_X7_101 im_X7_isChip se_X7_isChip cls7 rfl ⟨rfl, rfl, leb rfl, leb rfl⟩ rfl (leb rfl) dX7_isCoat_2 H rfl (fun v1 hv1 H => ?_)
  refine g_if_eq (tgt := 32) (pc := 5) O dX7_isCoat_5 rfl (fun q2 => ?_) (fun q2 => ?_)
  · replace H := H.1 q2
    refine g_iconst (v := (I 0)) (pc := 32) O rfl dX7_isCoat_32 ?_
    exact g_zret (pc := 33) O dX7_isCoat_33 (by decide) H
  · replace H := H.2 q2
    refine g_iloadn (pc := 8) O rfl dX7_isCoat_8 ?_
    refine g_if_lt (tgt := 32) (pc := 9) O dX7_isCoat_9 rfl (fun q3 => ?_) (fun q3 => ?_)
    · replace H := H.1 q3
      refine g_iconst (v := (I 0)) (pc := 32) O rfl dX7_isCoat_32 ?_
      exact g_zret (pc := 33) O dX7_isCoat_33 (by decide) H
    · replace H := H.2 q3
      refine g_iloadn (pc := 12) O rfl dX7_isCoat_12 ?_
      refine g_aloadn (pc := 13) O rfl dX7_isCoat_13 ?_
      refine g_getS (pc := 14) O cls7 fl_X7_19 dX7_isCoat_14 rfl (ltb rfl) (ltb rfl) rfl rfl ?_
      refine g_getS (pc := 17) O cls4 fl_X7_79 dX7_isCoat_17 rfl (ltb rfl) (ltb rfl) rfl rfl ?_
      refine g_iloadn (pc := 20) O rfl dX7_isCoat_20 ?_
      obtain ⟨j4, ej4, bj4, H⟩ := H
      obtain ⟨b5, rb5, hb5, H⟩ := H
      refine g_aald (t := 0) (j := j4) (pc := 21) O dX7_isCoat_21 ej4 (ltb rfl) rfl (ltb rfl) bj4 (ltb rfl) rb5 ?_
      refine g_getI (v := hv1.1 b5 3) (pc := 22) O cls1 fl_X7_115 dX7_isCoat_22 hb5 (lay_lt hb5 (by decide)) (ltb rfl) rfl rfl ?_
      refine g_icmp_ge (tgt := 32) (pc := 25) O dX7_isCoat_25 rfl (fun q6 => ?_) (fun q6 => ?_)
      · replace H := H.1 q6
        refine g_iconst (v := (I 0)) (pc := 32) O rfl dX7_isCoat_32 ?_
        exact g_zret (pc := 33) O dX7_isCoat_33 (by decide) H
      · replace H := H.2 q6
        refine g_iconst (v := (I 1)) (pc := 28) O rfl dX7_isCoat_28 ?_
        refine g_goto (tgt := 33) (pc := 29) O dX7_isCoat_29 rfl ?_
        exact g_zret (pc := 33) O dX7_isCoat_33 (by decide) H
set_option maxRecDepth 20000 in
set_option maxHeartbeats 2000000 in
theorem sX7_isCoat {g : mg} {l : Launch} {Q : Int32 → AH → Prop} {x1 : Int32} {x2 : Int32} {h : AH} (H : SpI g l mX7_isChip h [.ref 0, .int x1] (fun v1 hv1 => ((v1 = 0) → (Q (I 0) hv1)) ∧ ((¬ (v1 = 0)) → (((x2 < 0) → (Q (I 0) hv1)) ∧ ((¬ (x2 < 0)) → (∃ j4 : Nat, x1 = I (j4 : Int) ∧ j4 < 4 ∧ (∃ b5 : Nat, hv1.2.2 7 j4 = some b5 ∧ lay b5 = (1, 5) ∧ ((((hv1.1 b5 3) ≤ x2) → (Q (I 0) hv1)) ∧ ((¬ ((hv1.1 b5 3) ≤ x2)) → (Q (I 1) hv1)))))))))) : SpI g l mX7_isCoat h [.ref 0, .int x1, .int x2] Q := spI_of (by decide) (leb rfl) (fun X O => bX7_isCoat_0 O H)
set_option maxRecDepth 20000 in
set_option maxHeartbeats 2000000 in
theorem bX7_areTwo_0 {g : mg} {l : Launch} {X : XT} {Q : Int32 → AH → Prop} (O : Ok (FF g l X) RX7 cX7_areTwo 3 mX7_areTwo.2.2.2.2 (some .boolean)) {x1 : Int32} {x2 : Int32} {h : AH} (H : SpI g l mX7_isChip h [.ref 0, .int x1] (fun v1 hv1 => ((v1 = 0) → (Q (I 0) hv1)) ∧ ((¬ (v1 = 0)) → (SpI g l mX7_isChip hv1 [.ref 0, .int x2] (fun v3 hv3 => ((v3 = 0) → (Q (I 0) hv3)) ∧ ((¬ (v3 = 0)) → (((x1 = x2) → (Q (I 0) hv3)) ∧ ((¬ (x1 = x2)) → (Q (I 1) hv3))))))))) : GI g l X Q h 0 [(0, .ref 0), (1, .int x1), (2, .int x2)] [] := by
  refine g_aloadn (pc := 0) O rfl dX7_areTwo_0 ?_
  refine g_iloadn (pc := 1) O rfl dX7_areTwo_1 ?_
  refine g_vI [.int x1] [] (pc := 2) O mk_X7_isChip ml_X7_101 im_X7_isChip se_X7_isChip cls7 rfl ⟨rfl, rfl, leb rfl, leb rfl⟩ rfl (leb rfl) dX7_areTwo_2 H rfl (fun v1 hv1 H => ?_)
  refine g_if_eq (tgt := 25) (pc := 5) O dX7_areTwo_5 rfl (fun q2 => ?_) (fun q2 => ?_)
  · replace H := H.1 q2
    refine g_iconst (v := (I 0)) (pc := 25) O rfl dX7_areTwo_25 ?_
    exact g_zret (pc := 26) O dX7_areTwo_26 (by decide) H
  · replace H := H.2 q2
    refine g_aloadn (pc := 8) O rfl dX7_areTwo_8 ?_
    refine g_iloadn (pc := 9) O rfl dX7_areTwo_9 ?_
    refine g_vI [.int x2] [] (pc := 10) O mk_X7_isChip ml_X7_101 im_X7_isChip se_X7_isChip cls7 rfl ⟨rfl, rfl, leb rfl, leb rfl⟩ rfl (leb rfl) dX7_areTwo_10 H rfl (fun v3 hv3 H => ?_)
    refine g_if_eq (tgt := 25) (pc := 13) O dX7_areTwo_13 rfl (fun q4 => ?_) (fun q4 => ?_)
    · replace H := H.1 q4
      refine g_iconst (v := (I 0)) (pc := 25) O rfl dX7_areTwo_25 ?_
      exact g_zret (pc := 26) O dX7_areTwo_26 (by decide) H
    · replace H := H.2 q4
      refine g_iloadn (pc := 16) O rfl dX7_areTwo_16 ?_
      refine g_iloadn (pc := 17) O rfl dX7_areTwo_17 ?_
      refine g_icmp_eq (tgt := 25) (pc := 18) O dX7_areTwo_18 rfl (fun q5 => ?_) (fun q5 => ?_)
      · replace H := H.1 q5
        refine g_iconst (v := (I 0)) (pc := 25) O rfl dX7_areTwo_25 ?_
        exact g_zret (pc := 26) O dX7_areTwo_26 (by decide) H
      · replace H := H.2 q5
        refine g_iconst (v := (I 1)) (pc := 21) O rfl dX7_areTwo_21 ?_
        refine g_goto (tgt := 26) (pc := 22) O dX7_areTwo_22 rfl ?_
        exact g_zret (pc := 26) O dX7_areTwo_26 (by decide) H
set_option maxRecDepth 20000 in
set_option maxHeartbeats 2000000 in
theorem sX7_areTwo {g : mg} {l : Launch} {Q : Int32 → AH → Prop} {x1 : Int32} {x2 : Int32} {h : AH} (H : SpI g l mX7_isChip h [.ref 0, .int x1] (fun v1 hv1 => ((v1 = 0) → (Q (I 0) hv1)) ∧ ((¬ (v1 = 0)) → (SpI g l mX7_isChip hv1 [.ref 0, .int x2] (fun v3 hv3 => ((v3 = 0) → (Q (I 0) hv3)) ∧ ((¬ (v3 = 0)) → (((x1 = x2) → (Q (I 0) hv3)) ∧ ((¬ (x1 = x2)) → (Q (I 1) hv3))))))))) : SpI g l mX7_areTwo h [.ref 0, .int x1, .int x2] Q := spI_of (by decide) (leb rfl) (fun X O => bX7_areTwo_0 O H)
set_option maxRecDepth 20000 in
set_option maxHeartbeats 2000000 in
theorem bX7_isPainting_0 {g : mg} {l : Launch} {X : XT} {Q : Int32 → AH → Prop} (O : Ok (FF g l X) RX7 cX7_isPainting 2 mX7_isPainting.2.2.2.2 (some .boolean)) {x1 : Int32} {h : AH} (H : ((x1 < 0) → (Q (I 0) h)) ∧ ((¬ (x1 < 0)) → ((((h.1 26 0) ≤ x1) → (Q (I 0) h)) ∧ ((¬ ((h.1 26 0) ≤ x1)) → (Q (I 1) h))))) : GI g l X Q h 0 [(0, .ref 0), (1, .int x1)] [] := by
  refine g_iloadn (pc := 0) O rfl dX7_isPainting_0 ?_
  refine g_if_lt (tgt := 19) (pc := 1) O dX7_isPainting_1 rfl (fun q1 => ?_) (fun q1 => ?_)
  · replace H := H.1 q1
    refine g_iconst (v := (I 0)) (pc := 19) O rfl dX7_isPainting_19 ?_
    exact g_zret (pc := 20) O dX7_isPainting_20 (by decide) H
  · replace H := H.2 q1
    refine g_iloadn (pc := 4) O rfl dX7_isPainting_4 ?_
    refine g_aloadn (pc := 5) O rfl dX7_isPainting_5 ?_
    refine g_getS (pc := 6) O cls7 fl_X7_44 dX7_isPainting_6 rfl (ltb rfl) (ltb rfl) rfl rfl ?_
    refine g_getI (v := h.1 26 0) (pc := 9) O cls3 fl_X7_170 dX7_isPainting_9 rfl (ltb rfl) (ltb rfl) rfl rfl ?_
    refine g_icmp_ge (tgt := 19) (pc := 12) O dX7_isPainting_12 rfl (fun q2 => ?_) (fun q2 => ?_)
    · replace H := H.1 q2
      refine g_iconst (v := (I 0)) (pc := 19) O rfl dX7_isPainting_19 ?_
      exact g_zret (pc := 20) O dX7_isPainting_20 (by decide) H
    · replace H := H.2 q2
      refine g_iconst (v := (I 1)) (pc := 15) O rfl dX7_isPainting_15 ?_
      refine g_goto (tgt := 20) (pc := 16) O dX7_isPainting_16 rfl ?_
      exact g_zret (pc := 20) O dX7_isPainting_20 (by decide) H
set_option maxRecDepth 20000 in
set_option maxHeartbeats 2000000 in
theorem sX7_isPainting {g : mg} {l : Launch} {Q : Int32 → AH → Prop} {x1 : Int32} {h : AH} (H : ((x1 < 0) → (Q (I 0) h)) ∧ ((¬ (x1 < 0)) → ((((h.1 26 0) ≤ x1) → (Q (I 0) h)) ∧ ((¬ ((h.1 26 0) ≤ x1)) → (Q (I 1) h))))) : SpI g l mX7_isPainting h [.ref 0, .int x1] Q := spI_of (by decide) (leb rfl) (fun X O => bX7_isPainting_0 O H)
set_option maxRecDepth 20000 in
set_option maxHeartbeats 2000000 in
theorem bX7_findSame_0 {g : mg} {l : Launch} {X : XT} {Q : AH → Prop} (O : Ok (FF g l X) RX7 cX7_findSame 2 mX7_findSame.2.2.2.2 none)  {h : AH} (H : GV g l X Q h 2 [(0, .ref 0), (1, .int (I 0))] []) : GV g l X Q h 0 [(0, .ref 0)] [] := by
  refine g_iconst (v := (I 0)) (pc := 0) O rfl dX7_findSame_0 ?_
  refine g_istoren (lv' := [(0, .ref 0), (1, .int (I 0))]) (pc := 1) O dX7_findSame_1 rfl (ltb rfl) rfl ?_
  exact H
set_option maxRecDepth 20000 in
set_option maxHeartbeats 2000000 in
theorem bX7_findSame_2 {g : mg} {l : Launch} {X : XT} {Q : AH → Prop} (O : Ok (FF g l X) RX7 cX7_findSame 2 mX7_findSame.2.2.2.2 none) {x1 : Int32} {h : AH} (H : (((I 12) ≤ x1) → (Q h)) ∧ ((¬ ((I 12) ≤ x1)) → (((¬ (h.1 21 2) = 0) → (∃ j4 : Nat, x1 = I (j4 : Int) ∧ j4 < 12 ∧ (GV g l X Q (sI h 22 j4 (((I 1) <<< (x1 &&& 31)) ||| (I 0))) 2 [(0, .ref 0), (1, .int (x1 + I 1))] []))) ∧ (((h.1 21 2) = 0) → (∃ b5 : Nat, h.2.2 0 8 = some b5 ∧ lay b5 = (0, 7) ∧ (∃ j6 : Nat, x1 = I (j6 : Int) ∧ j6 < 12 ∧ (∃ j7 : Nat, x1 = I (j7 : Int) ∧ j7 < 12 ∧ (GV g l X Q (sI h 22 j7 (((I 1) <<< (x1 &&& 31)) ||| (h.1 (b5 + 3) j6))) 2 [(0, .ref 0), (1, .int (x1 + I 1))] [])))))))) : GV g l X Q h 2 [(0, .ref 0), (1, .int x1)] [] := by
  refine g_iloadn (pc := 2) O rfl dX7_findSame_2 ?_
  refine g_bipush (v := (I 12)) (pc := 3) O (by decide) dX7_findSame_3 ?_
  refine g_icmp_ge (tgt := 46) (pc := 5) O dX7_findSame_5 rfl (fun q1 => ?_) (fun q1 => ?_)
  · replace H := H.1 q1
    exact g_vret (pc := 46) O dX7_findSame_46 H
  · replace H := H.2 q1
    refine g_aloadn (pc := 8) O rfl dX7_findSame_8 ?_
    refine g_getS (pc := 9) O cls7 fl_X7_31 dX7_findSame_9 rfl (ltb rfl) (ltb rfl) rfl rfl ?_
    refine g_iloadn (pc := 12) O rfl dX7_findSame_12 ?_
    refine g_iconst (v := (I 1)) (pc := 13) O rfl dX7_findSame_13 ?_
    refine g_iloadn (pc := 14) O rfl dX7_findSame_14 ?_
    refine g_ishl (pc := 15) O dX7_findSame_15 ?_
    refine g_aloadn (pc := 16) O rfl dX7_findSame_16 ?_
    refine g_getS (pc := 17) O cls7 fl_X7_27 dX7_findSame_17 rfl (ltb rfl) (ltb rfl) rfl rfl ?_
    refine g_iconst (v := (I 2)) (pc := 20) O rfl dX7_findSame_20 ?_
    refine g_iald (j := 2) (pc := 21) O dX7_findSame_21 rfl rfl (ltb rfl) (ltb rfl) (ltb rfl) rfl ?_
    refine g_if_ne (tgt := 37) (pc := 22) O dX7_findSame_22 rfl (fun q3 => ?_) (fun q3 => ?_)
    · replace H := H.1 q3
      refine g_iconst (v := (I 0)) (pc := 37) O rfl dX7_findSame_37 ?_
      refine g_ior (pc := 38) O dX7_findSame_38 ?_
      obtain ⟨j4, ej4, bj4, H⟩ := H
      refine g_iast (j := j4) (pc := 39) O dX7_findSame_39 ej4 rfl (ltb rfl) (leb rfl) bj4 (ltb rfl) ?_
      refine g_iinc (lv' := [(0, .ref 0), (1, .int (x1 + I 1))]) (pc := 40) O dX7_findSame_40 rfl rfl (ltb rfl) rfl ?_
      refine g_goto (tgt := 2) (pc := 43) O dX7_findSame_43 rfl ?_
      exact H
    · replace H := H.2 q3
      refine g_aloadn (pc := 25) O rfl dX7_findSame_25 ?_
      obtain ⟨b5, rb5, hb5, H⟩ := H
      refine g_getR (pc := 26) O cls7 fl_X7_58 dX7_findSame_26 rfl (ltb rfl) (ltb rfl) rfl rfl rb5 ?_
      refine g_getS (pc := 29) O cls0 fl_X7_141 dX7_findSame_29 hb5 (lay_lt hb5 (by decide)) (ltb rfl) rfl (sr_book2 hb5) ?_
      refine g_iloadn (pc := 32) O rfl dX7_findSame_32 ?_
      obtain ⟨j6, ej6, bj6, H⟩ := H
      refine g_iald (j := j6) (pc := 33) O dX7_findSame_33 ej6 (lay_book2 hb5) (lay_lt (lay_book2 hb5) (by decide)) bj6 (ltb rfl) rfl ?_
      refine g_goto (tgt := 38) (pc := 34) O dX7_findSame_34 rfl ?_
      refine g_ior (pc := 38) O dX7_findSame_38 ?_
      obtain ⟨j7, ej7, bj7, H⟩ := H
      refine g_iast (j := j7) (pc := 39) O dX7_findSame_39 ej7 rfl (ltb rfl) (leb rfl) bj7 (ltb rfl) ?_
      refine g_iinc (lv' := [(0, .ref 0), (1, .int (x1 + I 1))]) (pc := 40) O dX7_findSame_40 rfl rfl (ltb rfl) rfl ?_
      refine g_goto (tgt := 2) (pc := 43) O dX7_findSame_43 rfl ?_
      exact H
set_option maxRecDepth 20000 in
set_option maxHeartbeats 2000000 in
theorem sX7_findSame {g : mg} {l : Launch} {Q : AH → Prop}  {h : AH} (H : ∀ X, Ok (FF g l X) RX7 cX7_findSame 2 mX7_findSame.2.2.2.2 none → GV g l X Q h 2 [(0, .ref 0), (1, .int (I 0))] []) : SpV g l mX7_findSame h [.ref 0] Q := spV_of (by decide) (leb rfl) (fun X O => bX7_findSame_0 O (H X O))
set_option maxRecDepth 20000 in
set_option maxHeartbeats 2000000 in
theorem bX7_lay_0 {g : mg} {l : Launch} {X : XT} {Q : AH → Prop} (O : Ok (FF g l X) RX7 cX7_lay 3 mX7_lay.2.2.2.2 none) {x1 : Int32} {x2 : Int32} {h : AH} (H : SpV g l mX7_findSame h [.ref 0] (fun hv1 => ∃ j2 : Nat, x1 = I (j2 : Int) ∧ j2 < 4 ∧ (∃ b3 : Nat, hv1.2.2 7 j2 = some b3 ∧ lay b3 = (1, 5) ∧ (∃ j4 : Nat, x2 = I (j4 : Int) ∧ j4 < 4 ∧ (∃ b5 : Nat, hv1.2.2 7 j4 = some b5 ∧ lay b5 = (1, 5) ∧ (SpV g l mX2_lay hv1 [.ref 23, .ref b3, .ref b5, .ref 22, .int (hv1.1 21 0), .int (hv1.1 21 1)] (fun hv8 => Q hv8))))))) : GV g l X Q h 0 [(0, .ref 0), (1, .int x1), (2, .int x2)] [] := by
  refine g_aloadn (pc := 0) O rfl dX7_lay_0 ?_
  refine g_vV [] [] (pc := 1) O mk_X7_findSame ml_X7_271 im_X7_findSame se_X7_findSame cls7 rfl ⟨rfl, rfl, leb rfl, leb rfl⟩ rfl (leb rfl) dX7_lay_1 H rfl (fun hv1 H => ?_)
  refine g_aloadn (pc := 4) O rfl dX7_lay_4 ?_
  refine g_getS (pc := 5) O cls7 fl_X7_37 dX7_lay_5 rfl (ltb rfl) (ltb rfl) rfl rfl ?_
  refine g_aloadn (pc := 8) O rfl dX7_lay_8 ?_
  refine g_getS (pc := 9) O cls7 fl_X7_19 dX7_lay_9 rfl (ltb rfl) (ltb rfl) rfl rfl ?_
  refine g_getS (pc := 12) O cls4 fl_X7_79 dX7_lay_12 rfl (ltb rfl) (ltb rfl) rfl rfl ?_
  refine g_iloadn (pc := 15) O rfl dX7_lay_15 ?_
  obtain ⟨j2, ej2, bj2, H⟩ := H
  obtain ⟨b3, rb3, hb3, H⟩ := H
  refine g_aald (t := 0) (j := j2) (pc := 16) O dX7_lay_16 ej2 (ltb rfl) rfl (ltb rfl) bj2 (ltb rfl) rb3 ?_
  refine g_aloadn (pc := 17) O rfl dX7_lay_17 ?_
  refine g_getS (pc := 18) O cls7 fl_X7_19 dX7_lay_18 rfl (ltb rfl) (ltb rfl) rfl rfl ?_
  refine g_getS (pc := 21) O cls4 fl_X7_79 dX7_lay_21 rfl (ltb rfl) (ltb rfl) rfl rfl ?_
  refine g_iloadn (pc := 24) O rfl dX7_lay_24 ?_
  obtain ⟨j4, ej4, bj4, H⟩ := H
  obtain ⟨b5, rb5, hb5, H⟩ := H
  refine g_aald (t := 0) (j := j4) (pc := 25) O dX7_lay_25 ej4 (ltb rfl) rfl (ltb rfl) bj4 (ltb rfl) rb5 ?_
  refine g_aloadn (pc := 26) O rfl dX7_lay_26 ?_
  refine g_getS (pc := 27) O cls7 fl_X7_31 dX7_lay_27 rfl (ltb rfl) (ltb rfl) rfl rfl ?_
  refine g_aloadn (pc := 30) O rfl dX7_lay_30 ?_
  refine g_getS (pc := 31) O cls7 fl_X7_27 dX7_lay_31 rfl (ltb rfl) (ltb rfl) rfl rfl ?_
  refine g_iconst (v := (I 0)) (pc := 34) O rfl dX7_lay_34 ?_
  refine g_iald (j := 0) (pc := 35) O dX7_lay_35 rfl rfl (ltb rfl) (ltb rfl) (ltb rfl) rfl ?_
  refine g_aloadn (pc := 36) O rfl dX7_lay_36 ?_
  refine g_getS (pc := 37) O cls7 fl_X7_27 dX7_lay_37 rfl (ltb rfl) (ltb rfl) rfl rfl ?_
  refine g_iconst (v := (I 1)) (pc := 40) O rfl dX7_lay_40 ?_
  refine g_iald (j := 1) (pc := 41) O dX7_lay_41 rfl rfl (ltb rfl) (ltb rfl) (ltb rfl) rfl ?_
  refine g_vV [.ref b3, .ref b5, .ref 22, .int (hv1.1 21 0), .int (hv1.1 21 1)] [] (pc := 42) O mk_X2_lay ml_X7_274 im_X2_lay se_X2_lay cls2 rfl ⟨rfl, rfl, leb rfl, leb rfl⟩ rfl (leb rfl) dX7_lay_42 H rfl (fun hv8 H => ?_)
  exact g_vret (pc := 45) O dX7_lay_45 H
set_option maxRecDepth 20000 in
set_option maxHeartbeats 2000000 in
theorem sX7_lay {g : mg} {l : Launch} {Q : AH → Prop} {x1 : Int32} {x2 : Int32} {h : AH} (H : SpV g l mX7_findSame h [.ref 0] (fun hv1 => ∃ j2 : Nat, x1 = I (j2 : Int) ∧ j2 < 4 ∧ (∃ b3 : Nat, hv1.2.2 7 j2 = some b3 ∧ lay b3 = (1, 5) ∧ (∃ j4 : Nat, x2 = I (j4 : Int) ∧ j4 < 4 ∧ (∃ b5 : Nat, hv1.2.2 7 j4 = some b5 ∧ lay b5 = (1, 5) ∧ (SpV g l mX2_lay hv1 [.ref 23, .ref b3, .ref b5, .ref 22, .int (hv1.1 21 0), .int (hv1.1 21 1)] (fun hv8 => Q hv8))))))) : SpV g l mX7_lay h [.ref 0, .int x1, .int x2] Q := spV_of (by decide) (leb rfl) (fun X O => bX7_lay_0 O H)
set_option maxRecDepth 20000 in
set_option maxHeartbeats 2000000 in
theorem bX7_settle_0 {g : mg} {l : Launch} {X : XT} {Q : AH → Prop} (O : Ok (FF g l X) RX7 cX7_settle 1 mX7_settle.2.2.2.2 none)  {h : AH} (H : ((¬ (h.1 0 10) = 0) → (Q h)) ∧ (((h.1 0 10) = 0) → (SpV g l mX7_findSame h [.ref 0] (fun hv2 => SpV g l mX3_find hv2 [.ref 26, .ref 6, .ref 22] (fun hv3 => Q (sI hv3 0 10 (I 1))))))) : GVA g l X Q h 0 [(0, .ref 0)] [] := by
  refine g_aloadn (pc := 0) O rfl dX7_settle_0 ?_
  refine g_getI (v := h.1 0 10) (pc := 1) O cls7 fl_X7_93 dX7_settle_1 rfl (ltb rfl) (ltb rfl) rfl rfl ?_
  refine g_if_ne (tgt := 31) (pc := 4) O dX7_settle_4 rfl (fun q1 => ?_) (fun q1 => ?_)
  · replace H := H.1 q1
    refine g_wR ?_
    exact g_vret (pc := 31) O dX7_settle_31 H
  · replace H := H.2 q1
    refine g_aloadn (pc := 7) O rfl dX7_settle_7 ?_
    refine g_vV0 [] [] (pc := 8) O mk_X7_findSame ml_X7_271 im_X7_findSame se_X7_findSame cls7 rfl ⟨rfl, rfl, leb rfl, leb rfl⟩ rfl (leb rfl) dX7_settle_8 H rfl (fun hv2 H => ?_)
    refine g_aloadn (pc := 11) O rfl dX7_settle_11 ?_
    refine g_getS (pc := 12) O cls7 fl_X7_44 dX7_settle_12 rfl (ltb rfl) (ltb rfl) rfl rfl ?_
    refine g_aloadn (pc := 15) O rfl dX7_settle_15 ?_
    refine g_getS (pc := 16) O cls7 fl_X7_19 dX7_settle_16 rfl (ltb rfl) (ltb rfl) rfl rfl ?_
    refine g_aloadn (pc := 19) O rfl dX7_settle_19 ?_
    refine g_getS (pc := 20) O cls7 fl_X7_31 dX7_settle_20 rfl (ltb rfl) (ltb rfl) rfl rfl ?_
    refine g_vVA [.ref 6, .ref 22] [] (pc := 23) O mk_X3_find ml_X7_277 im_X3_find se_X3_find cls3 rfl ⟨leb rfl, leb rfl, leb rfl, leb rfl⟩ rfl (leb rfl) dX7_settle_23 H rfl (fun hv3 H => ?_)
    refine g_aloadn (pc := 26) O rfl dX7_settle_26 ?_
    refine g_iconst (v := (I 1)) (pc := 27) O rfl dX7_settle_27 ?_
    refine g_putZ (pc := 28) O cls7 fl_X7_93 dX7_settle_28 rfl (ltb rfl) (leb rfl) (ltb rfl) rfl rfl (by decide +kernel) (by decide) ?_
    exact g_vret (pc := 31) O dX7_settle_31 H
set_option maxRecDepth 20000 in
set_option maxHeartbeats 2000000 in
theorem sX7_settle {g : mg} {l : Launch} {Q : AH → Prop}  {h : AH} (H : ((¬ (h.1 0 10) = 0) → (Q h)) ∧ (((h.1 0 10) = 0) → (SpV g l mX7_findSame h [.ref 0] (fun hv2 => SpV g l mX3_find hv2 [.ref 26, .ref 6, .ref 22] (fun hv3 => Q (sI hv3 0 10 (I 1))))))) : SpV g l mX7_settle h [.ref 0] Q := spV_ofA (by decide) (leb rfl) (fun X O => bX7_settle_0 O H)
set_option maxRecDepth 20000 in
set_option maxHeartbeats 2000000 in
theorem bX7_paintingOf_0 {g : mg} {l : Launch} {X : XT} {Q : Int32 → AH → Prop} (O : Ok (FF g l X) RX7 cX7_paintingOf 3 mX7_paintingOf.2.2.2.2 (some .int)) {x1 : Int32} {x2 : Int32} {h : AH} (H : ∃ j1 : Nat, ((x1 * (I 10)) + x2) = I (j1 : Int) ∧ j1 < 40 ∧ (Q (h.1 30 j1) h)) : GI g l X Q h 0 [(0, .ref 0), (1, .int x1), (2, .int x2)] [] := by
  refine g_aloadn (pc := 0) O rfl dX7_paintingOf_0 ?_
  refine g_getS (pc := 1) O cls7 fl_X7_44 dX7_paintingOf_1 rfl (ltb rfl) (ltb rfl) rfl rfl ?_
  refine g_getS (pc := 4) O cls3 fl_X7_280 dX7_paintingOf_4 rfl (ltb rfl) (ltb rfl) rfl rfl ?_
  refine g_iloadn (pc := 7) O rfl dX7_paintingOf_7 ?_
  refine g_bipush (v := (I 10)) (pc := 8) O (by decide) dX7_paintingOf_8 ?_
  refine g_imul (pc := 10) O dX7_paintingOf_10 ?_
  refine g_iloadn (pc := 11) O rfl dX7_paintingOf_11 ?_
  refine g_iadd (pc := 12) O dX7_paintingOf_12 ?_
  obtain ⟨j1, ej1, bj1, H⟩ := H
  refine g_iald (j := j1) (pc := 13) O dX7_paintingOf_13 ej1 rfl (ltb rfl) bj1 (ltb rfl) rfl ?_
  exact g_iret (pc := 14) O dX7_paintingOf_14 H
set_option maxRecDepth 20000 in
set_option maxHeartbeats 2000000 in
theorem sX7_paintingOf {g : mg} {l : Launch} {Q : Int32 → AH → Prop} {x1 : Int32} {x2 : Int32} {h : AH} (H : ∃ j1 : Nat, ((x1 * (I 10)) + x2) = I (j1 : Int) ∧ j1 < 40 ∧ (Q (h.1 30 j1) h)) : SpI g l mX7_paintingOf h [.ref 0, .int x1, .int x2] Q := spI_of (by decide) (leb rfl) (fun X O => bX7_paintingOf_0 O H)
set_option maxRecDepth 20000 in
set_option maxHeartbeats 2000000 in
theorem bX7_missedBy_0 {g : mg} {l : Launch} {X : XT} {Q : Int32 → AH → Prop} (O : Ok (FF g l X) RX7 cX7_missedBy 3 mX7_missedBy.2.2.2.2 (some .int)) {x1 : Int32} {h : AH} (H : ∃ j1 : Nat, x1 = I (j1 : Int) ∧ j1 < 4 ∧ (∃ b2 : Nat, h.2.2 7 j1 = some b2 ∧ lay b2 = (1, 5) ∧ (SpI g l mX7_paintingOf h [.ref 0, .int x1, .int ((h.1 b2 3) - (I 1))] (fun v3 hv3 => SpI g l mX7_paintingOf hv3 [.ref 0, .int x1, .int (I 0)] (fun v4 hv4 => Q (((v3 - v4) + (I 1)) - (h.1 b2 3)) hv4))))) : GI g l X Q h 0 [(0, .ref 0), (1, .int x1)] [] := by
  refine g_aloadn (pc := 0) O rfl dX7_missedBy_0 ?_
  refine g_getS (pc := 1) O cls7 fl_X7_19 dX7_missedBy_1 rfl (ltb rfl) (ltb rfl) rfl rfl ?_
  refine g_getS (pc := 4) O cls4 fl_X7_79 dX7_missedBy_4 rfl (ltb rfl) (ltb rfl) rfl rfl ?_
  refine g_iloadn (pc := 7) O rfl dX7_missedBy_7 ?_
  obtain ⟨j1, ej1, bj1, H⟩ := H
  obtain ⟨b2, rb2, hb2, H⟩ := H
  refine g_aald (t := 0) (j := j1) (pc := 8) O dX7_missedBy_8 ej1 (ltb rfl) rfl (ltb rfl) bj1 (ltb rfl) rb2 ?_
  refine g_getI (v := h.1 b2 3) (pc := 9) O cls1 fl_X7_115 dX7_missedBy_9 hb2 (lay_lt hb2 (by decide)) (ltb rfl) rfl rfl ?_
  refine g_istoren (lv' := [(0, .ref 0), (1, .int x1), (2, .int (h.1 b2 3))]) (pc := 12) O dX7_missedBy_12 rfl (ltb rfl) rfl ?_
  refine g_aloadn (pc := 13) O rfl dX7_missedBy_13 ?_
  refine g_iloadn (pc := 14) O rfl dX7_missedBy_14 ?_
  refine g_iloadn (pc := 15) O rfl dX7_missedBy_15 ?_
  refine g_iconst (v := (I 1)) (pc := 16) O rfl dX7_missedBy_16 ?_
  refine g_isub (pc := 17) O dX7_missedBy_17 ?_
  refine g_vI [.int x1, .int ((h.1 b2 3) - (I 1))] [] (pc := 18) O mk_X7_paintingOf ml_X7_131 im_X7_paintingOf se_X7_paintingOf cls7 rfl ⟨rfl, rfl, leb rfl, leb rfl⟩ rfl (leb rfl) dX7_missedBy_18 H rfl (fun v3 hv3 H => ?_)
  refine g_aloadn (pc := 21) O rfl dX7_missedBy_21 ?_
  refine g_iloadn (pc := 22) O rfl dX7_missedBy_22 ?_
  refine g_iconst (v := (I 0)) (pc := 23) O rfl dX7_missedBy_23 ?_
  refine g_vI [.int x1, .int (I 0)] [.int v3] (pc := 24) O mk_X7_paintingOf ml_X7_131 im_X7_paintingOf se_X7_paintingOf cls7 rfl ⟨rfl, rfl, leb rfl, leb rfl⟩ rfl (leb rfl) dX7_missedBy_24 H rfl (fun v4 hv4 H => ?_)
  refine g_isub (pc := 27) O dX7_missedBy_27 ?_
  refine g_iconst (v := (I 1)) (pc := 28) O rfl dX7_missedBy_28 ?_
  refine g_iadd (pc := 29) O dX7_missedBy_29 ?_
  refine g_iloadn (pc := 30) O rfl dX7_missedBy_30 ?_
  refine g_isub (pc := 31) O dX7_missedBy_31 ?_
  exact g_iret (pc := 32) O dX7_missedBy_32 H
set_option maxRecDepth 20000 in
set_option maxHeartbeats 2000000 in
theorem sX7_missedBy {g : mg} {l : Launch} {Q : Int32 → AH → Prop} {x1 : Int32} {h : AH} (H : ∃ j1 : Nat, x1 = I (j1 : Int) ∧ j1 < 4 ∧ (∃ b2 : Nat, h.2.2 7 j1 = some b2 ∧ lay b2 = (1, 5) ∧ (SpI g l mX7_paintingOf h [.ref 0, .int x1, .int ((h.1 b2 3) - (I 1))] (fun v3 hv3 => SpI g l mX7_paintingOf hv3 [.ref 0, .int x1, .int (I 0)] (fun v4 hv4 => Q (((v3 - v4) + (I 1)) - (h.1 b2 3)) hv4))))) : SpI g l mX7_missedBy h [.ref 0, .int x1] Q := spI_of (by decide) (leb rfl) (fun X O => bX7_missedBy_0 O H)
set_option maxRecDepth 20000 in
set_option maxHeartbeats 2000000 in
theorem bX7_ageOf_0 {g : mg} {l : Launch} {X : XT} {Q : Int32 → AH → Prop} (O : Ok (FF g l X) RX7 cX7_ageOf 2 mX7_ageOf.2.2.2.2 (some .int)) {x1 : Int32} {h : AH} (H : SpI g l mX7_paintingOf h [.ref 0, .int x1, .int (I 0)] (fun v1 hv1 => ((¬ v1 = 0) → (∃ j3 : Nat, x1 = I (j3 : Int) ∧ j3 < 4 ∧ (∃ b4 : Nat, hv1.2.2 7 j3 = some b4 ∧ lay b4 = (1, 5) ∧ ((((hv1.1 b4 4) = 0) → (Q (I 2) hv1)) ∧ ((¬ ((hv1.1 b4 4) = 0)) → (Q (I 1) hv1)))))) ∧ ((v1 = 0) → (Q (I 0) hv1)))) : GI g l X Q h 0 [(0, .ref 0), (1, .int x1)] [] := by
  refine g_aloadn (pc := 0) O rfl dX7_ageOf_0 ?_
  refine g_iloadn (pc := 1) O rfl dX7_ageOf_1 ?_
  refine g_iconst (v := (I 0)) (pc := 2) O rfl dX7_ageOf_2 ?_
  refine g_vI [.int x1, .int (I 0)] [] (pc := 3) O mk_X7_paintingOf ml_X7_131 im_X7_paintingOf se_X7_paintingOf cls7 rfl ⟨rfl, rfl, leb rfl, leb rfl⟩ rfl (leb rfl) dX7_ageOf_3 H rfl (fun v1 hv1 H => ?_)
  refine g_if_ne (tgt := 11) (pc := 6) O dX7_ageOf_6 rfl (fun q2 => ?_) (fun q2 => ?_)
  · replace H := H.1 q2
    refine g_aloadn (pc := 11) O rfl dX7_ageOf_11 ?_
    refine g_getS (pc := 12) O cls7 fl_X7_19 dX7_ageOf_12 rfl (ltb rfl) (ltb rfl) rfl rfl ?_
    refine g_getS (pc := 15) O cls4 fl_X7_79 dX7_ageOf_15 rfl (ltb rfl) (ltb rfl) rfl rfl ?_
    refine g_iloadn (pc := 18) O rfl dX7_ageOf_18 ?_
    obtain ⟨j3, ej3, bj3, H⟩ := H
    obtain ⟨b4, rb4, hb4, H⟩ := H
    refine g_aald (t := 0) (j := j3) (pc := 19) O dX7_ageOf_19 ej3 (ltb rfl) rfl (ltb rfl) bj3 (ltb rfl) rb4 ?_
    refine g_getI (v := hv1.1 b4 4) (pc := 20) O cls1 fl_X7_112 dX7_ageOf_20 hb4 (lay_lt hb4 (by decide)) (ltb rfl) rfl rfl ?_
    refine g_if_eq (tgt := 30) (pc := 23) O dX7_ageOf_23 rfl (fun q5 => ?_) (fun q5 => ?_)
    · replace H := H.1 q5
      refine g_iconst (v := (I 2)) (pc := 30) O rfl dX7_ageOf_30 ?_
      exact g_iret (pc := 31) O dX7_ageOf_31 H
    · replace H := H.2 q5
      refine g_iconst (v := (I 1)) (pc := 26) O rfl dX7_ageOf_26 ?_
      refine g_goto (tgt := 31) (pc := 27) O dX7_ageOf_27 rfl ?_
      exact g_iret (pc := 31) O dX7_ageOf_31 H
  · replace H := H.2 q2
    refine g_iconst (v := (I 0)) (pc := 9) O rfl dX7_ageOf_9 ?_
    exact g_iret (pc := 10) O dX7_ageOf_10 H
set_option maxRecDepth 20000 in
set_option maxHeartbeats 2000000 in
theorem sX7_ageOf {g : mg} {l : Launch} {Q : Int32 → AH → Prop} {x1 : Int32} {h : AH} (H : SpI g l mX7_paintingOf h [.ref 0, .int x1, .int (I 0)] (fun v1 hv1 => ((¬ v1 = 0) → (∃ j3 : Nat, x1 = I (j3 : Int) ∧ j3 < 4 ∧ (∃ b4 : Nat, hv1.2.2 7 j3 = some b4 ∧ lay b4 = (1, 5) ∧ ((((hv1.1 b4 4) = 0) → (Q (I 2) hv1)) ∧ ((¬ ((hv1.1 b4 4) = 0)) → (Q (I 1) hv1)))))) ∧ ((v1 = 0) → (Q (I 0) hv1)))) : SpI g l mX7_ageOf h [.ref 0, .int x1] Q := spI_of (by decide) (leb rfl) (fun X O => bX7_ageOf_0 O H)
set_option maxRecDepth 20000 in
set_option maxHeartbeats 2000000 in
theorem bX7_movedFrom_0 {g : mg} {l : Launch} {X : XT} {Q : Int32 → AH → Prop} (O : Ok (FF g l X) RX7 cX7_movedFrom 8 mX7_movedFrom.2.2.2.2 (some .int)) {x1 : Int32} {h : AH} (H : ∃ j1 : Nat, x1 = I (j1 : Int) ∧ j1 < 4 ∧ (∃ b2 : Nat, h.2.2 7 j1 = some b2 ∧ lay b2 = (1, 5) ∧ (GI g l X Q h 22 [(0, .ref 0), (1, .int x1), (2, .int (h.1 b2 2)), (3, .int (I (-9))), (4, .int (I 0)), (5, .int (I 0))] []))) : GI g l X Q h 0 [(0, .ref 0), (1, .int x1)] [] := by
  refine g_aloadn (pc := 0) O rfl dX7_movedFrom_0 ?_
  refine g_getS (pc := 1) O cls7 fl_X7_19 dX7_movedFrom_1 rfl (ltb rfl) (ltb rfl) rfl rfl ?_
  refine g_getS (pc := 4) O cls4 fl_X7_79 dX7_movedFrom_4 rfl (ltb rfl) (ltb rfl) rfl rfl ?_
  refine g_iloadn (pc := 7) O rfl dX7_movedFrom_7 ?_
  obtain ⟨j1, ej1, bj1, H⟩ := H
  obtain ⟨b2, rb2, hb2, H⟩ := H
  refine g_aald (t := 0) (j := j1) (pc := 8) O dX7_movedFrom_8 ej1 (ltb rfl) rfl (ltb rfl) bj1 (ltb rfl) rb2 ?_
  refine g_getI (v := h.1 b2 2) (pc := 9) O cls1 fl_X7_109 dX7_movedFrom_9 hb2 (lay_lt hb2 (by decide)) (ltb rfl) rfl rfl ?_
  refine g_istoren (lv' := [(0, .ref 0), (1, .int x1), (2, .int (h.1 b2 2))]) (pc := 12) O dX7_movedFrom_12 rfl (ltb rfl) rfl ?_
  refine g_bipush (v := (I (-9))) (pc := 13) O (by decide) dX7_movedFrom_13 ?_
  refine g_istoren (lv' := [(0, .ref 0), (1, .int x1), (2, .int (h.1 b2 2)), (3, .int (I (-9)))]) (pc := 15) O dX7_movedFrom_15 rfl (ltb rfl) rfl ?_
  refine g_iconst (v := (I 0)) (pc := 16) O rfl dX7_movedFrom_16 ?_
  refine g_istore (lv' := [(0, .ref 0), (1, .int x1), (2, .int (h.1 b2 2)), (3, .int (I (-9))), (4, .int (I 0))]) (pc := 17) O dX7_movedFrom_17 (ltb rfl) rfl ?_
  refine g_iconst (v := (I 0)) (pc := 19) O rfl dX7_movedFrom_19 ?_
  refine g_istore (lv' := [(0, .ref 0), (1, .int x1), (2, .int (h.1 b2 2)), (3, .int (I (-9))), (4, .int (I 0)), (5, .int (I 0))]) (pc := 20) O dX7_movedFrom_20 (ltb rfl) rfl ?_
  exact H
set_option maxRecDepth 20000 in
set_option maxHeartbeats 2000000 in
theorem bX7_movedFrom_22 {g : mg} {l : Launch} {X : XT} {Q : Int32 → AH → Prop} (O : Ok (FF g l X) RX7 cX7_movedFrom 8 mX7_movedFrom.2.2.2.2 (some .int)) {x1 : Int32} {x2 : Int32} {x3 : Int32} {x4 : Int32} {x5 : Int32} {h : AH} (H : (((h.1 6 1) ≤ x5) → (Q x3 h)) ∧ ((¬ ((h.1 6 1) ≤ x5)) → (((¬ x5 = x1) → (SpV g l mX7_lay h [.ref 0, .int x1, .int x5] (fun hv3 => SpI g l mX2_leastCost hv3 [.ref 23] (fun v4 hv4 => ((¬ v4 = x4) → (GI g l X Q hv4 88 [(0, .ref 0), (1, .int x1), (2, .int x2), (3, .int x3), (4, .int x4), (5, .int x5), (6, .int v4)] [.int (I 0)])) ∧ ((v4 = x4) → (∃ j6 : Nat, x5 = I (j6 : Int) ∧ j6 < 4 ∧ (∃ b7 : Nat, hv4.2.2 7 j6 = some b7 ∧ lay b7 = (1, 5) ∧ (((¬ (hv4.1 b7 2) = x2) → (GI g l X Q hv4 88 [(0, .ref 0), (1, .int x1), (2, .int x2), (3, .int x3), (4, .int x4), (5, .int x5), (6, .int v4)] [.int (I 0)])) ∧ (((hv4.1 b7 2) = x2) → (GI g l X Q hv4 88 [(0, .ref 0), (1, .int x1), (2, .int x2), (3, .int x3), (4, .int x4), (5, .int x5), (6, .int v4)] [.int (I 1)])))))))))) ∧ ((x5 = x1) → (GI g l X Q h 22 [(0, .ref 0), (1, .int x1), (2, .int x2), (3, .int x3), (4, .int x4), (5, .int (x5 + I 1))] []))))) : GI g l X Q h 22 [(0, .ref 0), (1, .int x1), (2, .int x2), (3, .int x3), (4, .int x4), (5, .int x5)] [] := by
  refine g_iload (pc := 22) O rfl dX7_movedFrom_22 ?_
  refine g_aloadn (pc := 24) O rfl dX7_movedFrom_24 ?_
  refine g_getS (pc := 25) O cls7 fl_X7_19 dX7_movedFrom_25 rfl (ltb rfl) (ltb rfl) rfl rfl ?_
  refine g_getI (v := h.1 6 1) (pc := 28) O cls4 fl_X7_73 dX7_movedFrom_28 rfl (ltb rfl) (ltb rfl) rfl rfl ?_
  refine g_icmp_ge (tgt := 132) (pc := 31) O dX7_movedFrom_31 rfl (fun q1 => ?_) (fun q1 => ?_)
  · replace H := H.1 q1
    refine g_iloadn (pc := 132) O rfl dX7_movedFrom_132 ?_
    exact g_iret (pc := 133) O dX7_movedFrom_133 H
  · replace H := H.2 q1
    refine g_iload (pc := 34) O rfl dX7_movedFrom_34 ?_
    refine g_iloadn (pc := 36) O rfl dX7_movedFrom_36 ?_
    refine g_icmp_ne (tgt := 43) (pc := 37) O dX7_movedFrom_37 rfl (fun q2 => ?_) (fun q2 => ?_)
    · replace H := H.1 q2
      refine g_aloadn (pc := 43) O rfl dX7_movedFrom_43 ?_
      refine g_iloadn (pc := 44) O rfl dX7_movedFrom_44 ?_
      refine g_iload (pc := 45) O rfl dX7_movedFrom_45 ?_
      refine g_vV [.int x1, .int x5] [] (pc := 47) O mk_X7_lay ml_X7_153 im_X7_lay se_X7_lay cls7 rfl ⟨rfl, rfl, leb rfl, leb rfl⟩ rfl (leb rfl) dX7_movedFrom_47 H rfl (fun hv3 H => ?_)
      refine g_aloadn (pc := 50) O rfl dX7_movedFrom_50 ?_
      refine g_getS (pc := 51) O cls7 fl_X7_37 dX7_movedFrom_51 rfl (ltb rfl) (ltb rfl) rfl rfl ?_
      refine g_vI [] [] (pc := 54) O mk_X2_leastCost ml_X7_157 im_X2_leastCost se_X2_leastCost cls2 rfl ⟨rfl, rfl, leb rfl, leb rfl⟩ rfl (leb rfl) dX7_movedFrom_54 H rfl (fun v4 hv4 H => ?_)
      refine g_istore (lv' := [(0, .ref 0), (1, .int x1), (2, .int x2), (3, .int x3), (4, .int x4), (5, .int x5), (6, .int v4)]) (pc := 57) O dX7_movedFrom_57 (ltb rfl) rfl ?_
      refine g_iload (pc := 59) O rfl dX7_movedFrom_59 ?_
      refine g_iload (pc := 61) O rfl dX7_movedFrom_61 ?_
      refine g_icmp_ne (tgt := 87) (pc := 63) O dX7_movedFrom_63 rfl (fun q5 => ?_) (fun q5 => ?_)
      · replace H := H.1 q5
        refine g_iconst (v := (I 0)) (pc := 87) O rfl dX7_movedFrom_87 ?_
        exact H
      · replace H := H.2 q5
        refine g_aloadn (pc := 66) O rfl dX7_movedFrom_66 ?_
        refine g_getS (pc := 67) O cls7 fl_X7_19 dX7_movedFrom_67 rfl (ltb rfl) (ltb rfl) rfl rfl ?_
        refine g_getS (pc := 70) O cls4 fl_X7_79 dX7_movedFrom_70 rfl (ltb rfl) (ltb rfl) rfl rfl ?_
        refine g_iload (pc := 73) O rfl dX7_movedFrom_73 ?_
        obtain ⟨j6, ej6, bj6, H⟩ := H
        obtain ⟨b7, rb7, hb7, H⟩ := H
        refine g_aald (t := 0) (j := j6) (pc := 75) O dX7_movedFrom_75 ej6 (ltb rfl) rfl (ltb rfl) bj6 (ltb rfl) rb7 ?_
        refine g_getI (v := hv4.1 b7 2) (pc := 76) O cls1 fl_X7_109 dX7_movedFrom_76 hb7 (lay_lt hb7 (by decide)) (ltb rfl) rfl rfl ?_
        refine g_iloadn (pc := 79) O rfl dX7_movedFrom_79 ?_
        refine g_icmp_ne (tgt := 87) (pc := 80) O dX7_movedFrom_80 rfl (fun q8 => ?_) (fun q8 => ?_)
        · replace H := H.1 q8
          refine g_iconst (v := (I 0)) (pc := 87) O rfl dX7_movedFrom_87 ?_
          exact H
        · replace H := H.2 q8
          refine g_iconst (v := (I 1)) (pc := 83) O rfl dX7_movedFrom_83 ?_
          refine g_goto (tgt := 88) (pc := 84) O dX7_movedFrom_84 rfl ?_
          exact H
    · replace H := H.2 q2
      refine g_goto (tgt := 126) (pc := 40) O dX7_movedFrom_40 rfl ?_
      refine g_iinc (lv' := [(0, .ref 0), (1, .int x1), (2, .int x2), (3, .int x3), (4, .int x4), (5, .int (x5 + I 1))]) (pc := 126) O dX7_movedFrom_126 rfl rfl (ltb rfl) rfl ?_
      refine g_goto (tgt := 22) (pc := 129) O dX7_movedFrom_129 rfl ?_
      exact H
set_option maxRecDepth 20000 in
set_option maxHeartbeats 2000000 in
theorem bX7_movedFrom_88 {g : mg} {l : Launch} {X : XT} {Q : Int32 → AH → Prop} (O : Ok (FF g l X) RX7 cX7_movedFrom 8 mX7_movedFrom.2.2.2.2 (some .int)) {x1 : Int32} {x2 : Int32} {x3 : Int32} {x4 : Int32} {x5 : Int32} {x6 : Int32} {s0 : Int32} {h : AH} (H : ((x3 = (I (-9))) → (∃ j2 : Nat, x5 = I (j2 : Int) ∧ j2 < 4 ∧ (∃ b3 : Nat, h.2.2 7 j2 = some b3 ∧ lay b3 = (1, 5) ∧ (GI g l X Q h 22 [(0, .ref 0), (1, .int x1), (2, .int x2), (3, .int (h.1 b3 2)), (4, .int x6), (5, .int (x5 + I 1))] [])))) ∧ ((¬ (x3 = (I (-9)))) → (((x6 < x4) → (∃ j5 : Nat, x5 = I (j5 : Int) ∧ j5 < 4 ∧ (∃ b6 : Nat, h.2.2 7 j5 = some b6 ∧ lay b6 = (1, 5) ∧ (GI g l X Q h 22 [(0, .ref 0), (1, .int x1), (2, .int x2), (3, .int (h.1 b6 2)), (4, .int x6), (5, .int (x5 + I 1))] [])))) ∧ ((¬ (x6 < x4)) → (((s0 = 0) → (GI g l X Q h 22 [(0, .ref 0), (1, .int x1), (2, .int x2), (3, .int x3), (4, .int x4), (5, .int (x5 + I 1))] [])) ∧ ((¬ (s0 = 0)) → (∃ j8 : Nat, x5 = I (j8 : Int) ∧ j8 < 4 ∧ (∃ b9 : Nat, h.2.2 7 j8 = some b9 ∧ lay b9 = (1, 5) ∧ (GI g l X Q h 22 [(0, .ref 0), (1, .int x1), (2, .int x2), (3, .int (h.1 b9 2)), (4, .int x6), (5, .int (x5 + I 1))] []))))))))) : GI g l X Q h 88 [(0, .ref 0), (1, .int x1), (2, .int x2), (3, .int x3), (4, .int x4), (5, .int x5), (6, .int x6)] [.int s0] := by
  refine g_istore (lv' := [(0, .ref 0), (1, .int x1), (2, .int x2), (3, .int x3), (4, .int x4), (5, .int x5), (6, .int x6), (7, .int s0)]) (pc := 88) O dX7_movedFrom_88 (ltb rfl) rfl ?_
  refine g_iloadn (pc := 90) O rfl dX7_movedFrom_90 ?_
  refine g_bipush (v := (I (-9))) (pc := 91) O (by decide) dX7_movedFrom_91 ?_
  refine g_icmp_eq (tgt := 108) (pc := 93) O dX7_movedFrom_93 rfl (fun q1 => ?_) (fun q1 => ?_)
  · replace H := H.1 q1
    refine g_aloadn (pc := 108) O rfl dX7_movedFrom_108 ?_
    refine g_getS (pc := 109) O cls7 fl_X7_19 dX7_movedFrom_109 rfl (ltb rfl) (ltb rfl) rfl rfl ?_
    refine g_getS (pc := 112) O cls4 fl_X7_79 dX7_movedFrom_112 rfl (ltb rfl) (ltb rfl) rfl rfl ?_
    refine g_iload (pc := 115) O rfl dX7_movedFrom_115 ?_
    obtain ⟨j2, ej2, bj2, H⟩ := H
    obtain ⟨b3, rb3, hb3, H⟩ := H
    refine g_aald (t := 0) (j := j2) (pc := 117) O dX7_movedFrom_117 ej2 (ltb rfl) rfl (ltb rfl) bj2 (ltb rfl) rb3 ?_
    refine g_getI (v := h.1 b3 2) (pc := 118) O cls1 fl_X7_109 dX7_movedFrom_118 hb3 (lay_lt hb3 (by decide)) (ltb rfl) rfl rfl ?_
    refine g_istoren (lv' := [(0, .ref 0), (1, .int x1), (2, .int x2), (3, .int (h.1 b3 2)), (4, .int x4), (5, .int x5), (6, .int x6), (7, .int s0)]) (pc := 121) O dX7_movedFrom_121 rfl (ltb rfl) rfl ?_
    refine g_iload (pc := 122) O rfl dX7_movedFrom_122 ?_
    refine g_istore (lv' := [(0, .ref 0), (1, .int x1), (2, .int x2), (3, .int (h.1 b3 2)), (4, .int x6), (5, .int x5), (6, .int x6), (7, .int s0)]) (pc := 124) O dX7_movedFrom_124 (ltb rfl) rfl ?_
    refine g_iinc (lv' := [(0, .ref 0), (1, .int x1), (2, .int x2), (3, .int (h.1 b3 2)), (4, .int x6), (5, .int (x5 + I 1)), (6, .int x6), (7, .int s0)]) (pc := 126) O dX7_movedFrom_126 rfl rfl (ltb rfl) rfl ?_
    refine g_goto (tgt := 22) (pc := 129) O dX7_movedFrom_129 rfl ?_
    refine g_sub [0, 1, 2, 3, 4, 5] rfl ?_
    exact H
  · replace H := H.2 q1
    refine g_iload (pc := 96) O rfl dX7_movedFrom_96 ?_
    refine g_iload (pc := 98) O rfl dX7_movedFrom_98 ?_
    refine g_icmp_lt (tgt := 108) (pc := 100) O dX7_movedFrom_100 rfl (fun q4 => ?_) (fun q4 => ?_)
    · replace H := H.1 q4
      refine g_aloadn (pc := 108) O rfl dX7_movedFrom_108 ?_
      refine g_getS (pc := 109) O cls7 fl_X7_19 dX7_movedFrom_109 rfl (ltb rfl) (ltb rfl) rfl rfl ?_
      refine g_getS (pc := 112) O cls4 fl_X7_79 dX7_movedFrom_112 rfl (ltb rfl) (ltb rfl) rfl rfl ?_
      refine g_iload (pc := 115) O rfl dX7_movedFrom_115 ?_
      obtain ⟨j5, ej5, bj5, H⟩ := H
      obtain ⟨b6, rb6, hb6, H⟩ := H
      refine g_aald (t := 0) (j := j5) (pc := 117) O dX7_movedFrom_117 ej5 (ltb rfl) rfl (ltb rfl) bj5 (ltb rfl) rb6 ?_
      refine g_getI (v := h.1 b6 2) (pc := 118) O cls1 fl_X7_109 dX7_movedFrom_118 hb6 (lay_lt hb6 (by decide)) (ltb rfl) rfl rfl ?_
      refine g_istoren (lv' := [(0, .ref 0), (1, .int x1), (2, .int x2), (3, .int (h.1 b6 2)), (4, .int x4), (5, .int x5), (6, .int x6), (7, .int s0)]) (pc := 121) O dX7_movedFrom_121 rfl (ltb rfl) rfl ?_
      refine g_iload (pc := 122) O rfl dX7_movedFrom_122 ?_
      refine g_istore (lv' := [(0, .ref 0), (1, .int x1), (2, .int x2), (3, .int (h.1 b6 2)), (4, .int x6), (5, .int x5), (6, .int x6), (7, .int s0)]) (pc := 124) O dX7_movedFrom_124 (ltb rfl) rfl ?_
      refine g_iinc (lv' := [(0, .ref 0), (1, .int x1), (2, .int x2), (3, .int (h.1 b6 2)), (4, .int x6), (5, .int (x5 + I 1)), (6, .int x6), (7, .int s0)]) (pc := 126) O dX7_movedFrom_126 rfl rfl (ltb rfl) rfl ?_
      refine g_goto (tgt := 22) (pc := 129) O dX7_movedFrom_129 rfl ?_
      refine g_sub [0, 1, 2, 3, 4, 5] rfl ?_
      exact H
    · replace H := H.2 q4
      refine g_iload (pc := 103) O rfl dX7_movedFrom_103 ?_
      refine g_if_eq (tgt := 126) (pc := 105) O dX7_movedFrom_105 rfl (fun q7 => ?_) (fun q7 => ?_)
      · replace H := H.1 q7
        refine g_iinc (lv' := [(0, .ref 0), (1, .int x1), (2, .int x2), (3, .int x3), (4, .int x4), (5, .int (x5 + I 1)), (6, .int x6), (7, .int s0)]) (pc := 126) O dX7_movedFrom_126 rfl rfl (ltb rfl) rfl ?_
        refine g_goto (tgt := 22) (pc := 129) O dX7_movedFrom_129 rfl ?_
        refine g_sub [0, 1, 2, 3, 4, 5] rfl ?_
        exact H
      · replace H := H.2 q7
        refine g_aloadn (pc := 108) O rfl dX7_movedFrom_108 ?_
        refine g_getS (pc := 109) O cls7 fl_X7_19 dX7_movedFrom_109 rfl (ltb rfl) (ltb rfl) rfl rfl ?_
        refine g_getS (pc := 112) O cls4 fl_X7_79 dX7_movedFrom_112 rfl (ltb rfl) (ltb rfl) rfl rfl ?_
        refine g_iload (pc := 115) O rfl dX7_movedFrom_115 ?_
        obtain ⟨j8, ej8, bj8, H⟩ := H
        obtain ⟨b9, rb9, hb9, H⟩ := H
        refine g_aald (t := 0) (j := j8) (pc := 117) O dX7_movedFrom_117 ej8 (ltb rfl) rfl (ltb rfl) bj8 (ltb rfl) rb9 ?_
        refine g_getI (v := h.1 b9 2) (pc := 118) O cls1 fl_X7_109 dX7_movedFrom_118 hb9 (lay_lt hb9 (by decide)) (ltb rfl) rfl rfl ?_
        refine g_istoren (lv' := [(0, .ref 0), (1, .int x1), (2, .int x2), (3, .int (h.1 b9 2)), (4, .int x4), (5, .int x5), (6, .int x6), (7, .int s0)]) (pc := 121) O dX7_movedFrom_121 rfl (ltb rfl) rfl ?_
        refine g_iload (pc := 122) O rfl dX7_movedFrom_122 ?_
        refine g_istore (lv' := [(0, .ref 0), (1, .int x1), (2, .int x2), (3, .int (h.1 b9 2)), (4, .int x6), (5, .int x5), (6, .int x6), (7, .int s0)]) (pc := 124) O dX7_movedFrom_124 (ltb rfl) rfl ?_
        refine g_iinc (lv' := [(0, .ref 0), (1, .int x1), (2, .int x2), (3, .int (h.1 b9 2)), (4, .int x6), (5, .int (x5 + I 1)), (6, .int x6), (7, .int s0)]) (pc := 126) O dX7_movedFrom_126 rfl rfl (ltb rfl) rfl ?_
        refine g_goto (tgt := 22) (pc := 129) O dX7_movedFrom_129 rfl ?_
        refine g_sub [0, 1, 2, 3, 4, 5] rfl ?_
        exact H
set_option maxRecDepth 20000 in
set_option maxHeartbeats 2000000 in
theorem sX7_movedFrom {g : mg} {l : Launch} {Q : Int32 → AH → Prop} {x1 : Int32} {h : AH} (H : ∀ X, Ok (FF g l X) RX7 cX7_movedFrom 8 mX7_movedFrom.2.2.2.2 (some .int) → ∃ j1 : Nat, x1 = I (j1 : Int) ∧ j1 < 4 ∧ (∃ b2 : Nat, h.2.2 7 j1 = some b2 ∧ lay b2 = (1, 5) ∧ (GI g l X Q h 22 [(0, .ref 0), (1, .int x1), (2, .int (h.1 b2 2)), (3, .int (I (-9))), (4, .int (I 0)), (5, .int (I 0))] []))) : SpI g l mX7_movedFrom h [.ref 0, .int x1] Q := spI_of (by decide) (leb rfl) (fun X O => bX7_movedFrom_0 O (H X O))
set_option maxRecDepth 20000 in
set_option maxHeartbeats 2000000 in
theorem bX7_lastCoats_0 {g : mg} {l : Launch} {X : XT} {Q : Int32 → AH → Prop} (O : Ok (FF g l X) RX7 cX7_lastCoats 7 mX7_lastCoats.2.2.2.2 (some .int)) {x1 : Int32} {x2 : Int32} {h : AH} (H : SpI g l mX7_paintingOf h [.ref 0, .int x1, .int (I 0)] (fun v1 hv1 => ∃ j2 : Nat, v1 = I (j2 : Int) ∧ j2 < 40 ∧ ((((hv1.1 39 j2) ≤ x2) → (∃ j4 : Nat, x1 = I (j4 : Int) ∧ j4 < 4 ∧ (∃ b5 : Nat, hv1.2.2 7 j4 = some b5 ∧ lay b5 = (1, 5) ∧ (GI g l X Q hv1 43 [(0, .ref 0), (1, .int x1), (2, .int x2), (3, .int (I 0)), (4, .int (hv1.1 b5 3)), (5, .int (I 0))] [])))) ∧ ((¬ ((hv1.1 39 j2) ≤ x2)) → (∃ j6 : Nat, x1 = I (j6 : Int) ∧ j6 < 4 ∧ (∃ b7 : Nat, hv1.2.2 7 j6 = some b7 ∧ lay b7 = (1, 5) ∧ (GI g l X Q hv1 43 [(0, .ref 0), (1, .int x1), (2, .int x2), (3, .int (I 1024)), (4, .int (hv1.1 b7 3)), (5, .int (I 0))] []))))))) : GI g l X Q h 0 [(0, .ref 0), (1, .int x1), (2, .int x2)] [] := by
  refine g_aloadn (pc := 0) O rfl dX7_lastCoats_0 ?_
  refine g_getS (pc := 1) O cls7 fl_X7_51 dX7_lastCoats_1 rfl (ltb rfl) (ltb rfl) rfl rfl ?_
  refine g_getS (pc := 4) O cls6 fl_X7_197 dX7_lastCoats_4 rfl (ltb rfl) (ltb rfl) rfl rfl ?_
  refine g_aloadn (pc := 7) O rfl dX7_lastCoats_7 ?_
  refine g_iloadn (pc := 8) O rfl dX7_lastCoats_8 ?_
  refine g_iconst (v := (I 0)) (pc := 9) O rfl dX7_lastCoats_9 ?_
  refine g_vI [.int x1, .int (I 0)] [.ref 39] (pc := 10) O mk_X7_paintingOf ml_X7_131 im_X7_paintingOf se_X7_paintingOf cls7 rfl ⟨rfl, rfl, leb rfl, leb rfl⟩ rfl (leb rfl) dX7_lastCoats_10 H rfl (fun v1 hv1 H => ?_)
  obtain ⟨j2, ej2, bj2, H⟩ := H
  refine g_iald (j := j2) (pc := 13) O dX7_lastCoats_13 ej2 rfl (ltb rfl) bj2 (ltb rfl) rfl ?_
  refine g_iloadn (pc := 14) O rfl dX7_lastCoats_14 ?_
  refine g_icmp_le (tgt := 24) (pc := 15) O dX7_lastCoats_15 rfl (fun q3 => ?_) (fun q3 => ?_)
  · replace H := H.1 q3
    refine g_iconst (v := (I 0)) (pc := 24) O rfl dX7_lastCoats_24 ?_
    refine g_istoren (lv' := [(0, .ref 0), (1, .int x1), (2, .int x2), (3, .int (I 0))]) (pc := 25) O dX7_lastCoats_25 rfl (ltb rfl) rfl ?_
    refine g_aloadn (pc := 26) O rfl dX7_lastCoats_26 ?_
    refine g_getS (pc := 27) O cls7 fl_X7_19 dX7_lastCoats_27 rfl (ltb rfl) (ltb rfl) rfl rfl ?_
    refine g_getS (pc := 30) O cls4 fl_X7_79 dX7_lastCoats_30 rfl (ltb rfl) (ltb rfl) rfl rfl ?_
    refine g_iloadn (pc := 33) O rfl dX7_lastCoats_33 ?_
    obtain ⟨j4, ej4, bj4, H⟩ := H
    obtain ⟨b5, rb5, hb5, H⟩ := H
    refine g_aald (t := 0) (j := j4) (pc := 34) O dX7_lastCoats_34 ej4 (ltb rfl) rfl (ltb rfl) bj4 (ltb rfl) rb5 ?_
    refine g_getI (v := hv1.1 b5 3) (pc := 35) O cls1 fl_X7_115 dX7_lastCoats_35 hb5 (lay_lt hb5 (by decide)) (ltb rfl) rfl rfl ?_
    refine g_istore (lv' := [(0, .ref 0), (1, .int x1), (2, .int x2), (3, .int (I 0)), (4, .int (hv1.1 b5 3))]) (pc := 38) O dX7_lastCoats_38 (ltb rfl) rfl ?_
    refine g_iconst (v := (I 0)) (pc := 40) O rfl dX7_lastCoats_40 ?_
    refine g_istore (lv' := [(0, .ref 0), (1, .int x1), (2, .int x2), (3, .int (I 0)), (4, .int (hv1.1 b5 3)), (5, .int (I 0))]) (pc := 41) O dX7_lastCoats_41 (ltb rfl) rfl ?_
    exact H
  · replace H := H.2 q3
    refine g_sipush (v := (I 1024)) (pc := 18) O (by decide) dX7_lastCoats_18 ?_
    refine g_goto (tgt := 25) (pc := 21) O dX7_lastCoats_21 rfl ?_
    refine g_istoren (lv' := [(0, .ref 0), (1, .int x1), (2, .int x2), (3, .int (I 1024))]) (pc := 25) O dX7_lastCoats_25 rfl (ltb rfl) rfl ?_
    refine g_aloadn (pc := 26) O rfl dX7_lastCoats_26 ?_
    refine g_getS (pc := 27) O cls7 fl_X7_19 dX7_lastCoats_27 rfl (ltb rfl) (ltb rfl) rfl rfl ?_
    refine g_getS (pc := 30) O cls4 fl_X7_79 dX7_lastCoats_30 rfl (ltb rfl) (ltb rfl) rfl rfl ?_
    refine g_iloadn (pc := 33) O rfl dX7_lastCoats_33 ?_
    obtain ⟨j6, ej6, bj6, H⟩ := H
    obtain ⟨b7, rb7, hb7, H⟩ := H
    refine g_aald (t := 0) (j := j6) (pc := 34) O dX7_lastCoats_34 ej6 (ltb rfl) rfl (ltb rfl) bj6 (ltb rfl) rb7 ?_
    refine g_getI (v := hv1.1 b7 3) (pc := 35) O cls1 fl_X7_115 dX7_lastCoats_35 hb7 (lay_lt hb7 (by decide)) (ltb rfl) rfl rfl ?_
    refine g_istore (lv' := [(0, .ref 0), (1, .int x1), (2, .int x2), (3, .int (I 1024)), (4, .int (hv1.1 b7 3))]) (pc := 38) O dX7_lastCoats_38 (ltb rfl) rfl ?_
    refine g_iconst (v := (I 0)) (pc := 40) O rfl dX7_lastCoats_40 ?_
    refine g_istore (lv' := [(0, .ref 0), (1, .int x1), (2, .int x2), (3, .int (I 1024)), (4, .int (hv1.1 b7 3)), (5, .int (I 0))]) (pc := 41) O dX7_lastCoats_41 (ltb rfl) rfl ?_
    exact H
set_option maxRecDepth 20000 in
set_option maxHeartbeats 2000000 in
theorem bX7_lastCoats_43 {g : mg} {l : Launch} {X : XT} {Q : Int32 → AH → Prop} (O : Ok (FF g l X) RX7 cX7_lastCoats 7 mX7_lastCoats.2.2.2.2 (some .int)) {x1 : Int32} {x2 : Int32} {x3 : Int32} {x4 : Int32} {x5 : Int32} {h : AH} (H : ((x4 ≤ x5) → (Q x3 h)) ∧ ((¬ (x4 ≤ x5)) → (SpI g l mX7_paintingOf h [.ref 0, .int x1, .int x5] (fun v2 hv2 => ∃ j3 : Nat, v2 = I (j3 : Int) ∧ j3 < 40 ∧ (((x2 < (hv2.1 38 j3)) → (GI g l X Q hv2 74 [(0, .ref 0), (1, .int x1), (2, .int x2), (3, .int x3), (4, .int x4), (5, .int x5)] [.int (I 0)])) ∧ ((¬ (x2 < (hv2.1 38 j3))) → (GI g l X Q hv2 74 [(0, .ref 0), (1, .int x1), (2, .int x2), (3, .int x3), (4, .int x4), (5, .int x5)] [.int (I 1)]))))))) : GI g l X Q h 43 [(0, .ref 0), (1, .int x1), (2, .int x2), (3, .int x3), (4, .int x4), (5, .int x5)] [] := by
  refine g_iload (pc := 43) O rfl dX7_lastCoats_43 ?_
  refine g_iload (pc := 45) O rfl dX7_lastCoats_45 ?_
  refine g_icmp_ge (tgt := 124) (pc := 47) O dX7_lastCoats_47 rfl (fun q1 => ?_) (fun q1 => ?_)
  · replace H := H.1 q1
    refine g_iloadn (pc := 124) O rfl dX7_lastCoats_124 ?_
    exact g_iret (pc := 125) O dX7_lastCoats_125 H
  · replace H := H.2 q1
    refine g_aloadn (pc := 50) O rfl dX7_lastCoats_50 ?_
    refine g_getS (pc := 51) O cls7 fl_X7_51 dX7_lastCoats_51 rfl (ltb rfl) (ltb rfl) rfl rfl ?_
    refine g_getS (pc := 54) O cls6 fl_X7_194 dX7_lastCoats_54 rfl (ltb rfl) (ltb rfl) rfl rfl ?_
    refine g_aloadn (pc := 57) O rfl dX7_lastCoats_57 ?_
    refine g_iloadn (pc := 58) O rfl dX7_lastCoats_58 ?_
    refine g_iload (pc := 59) O rfl dX7_lastCoats_59 ?_
    refine g_vI [.int x1, .int x5] [.ref 38] (pc := 61) O mk_X7_paintingOf ml_X7_131 im_X7_paintingOf se_X7_paintingOf cls7 rfl ⟨rfl, rfl, leb rfl, leb rfl⟩ rfl (leb rfl) dX7_lastCoats_61 H rfl (fun v2 hv2 H => ?_)
    obtain ⟨j3, ej3, bj3, H⟩ := H
    refine g_iald (j := j3) (pc := 64) O dX7_lastCoats_64 ej3 rfl (ltb rfl) bj3 (ltb rfl) rfl ?_
    refine g_iloadn (pc := 65) O rfl dX7_lastCoats_65 ?_
    refine g_icmp_gt (tgt := 73) (pc := 66) O dX7_lastCoats_66 rfl (fun q4 => ?_) (fun q4 => ?_)
    · replace H := H.1 q4
      refine g_iconst (v := (I 0)) (pc := 73) O rfl dX7_lastCoats_73 ?_
      exact H
    · replace H := H.2 q4
      refine g_iconst (v := (I 1)) (pc := 69) O rfl dX7_lastCoats_69 ?_
      refine g_goto (tgt := 74) (pc := 70) O dX7_lastCoats_70 rfl ?_
      exact H
set_option maxRecDepth 20000 in
set_option maxHeartbeats 2000000 in
theorem bX7_lastCoats_74 {g : mg} {l : Launch} {X : XT} {Q : Int32 → AH → Prop} (O : Ok (FF g l X) RX7 cX7_lastCoats 7 mX7_lastCoats.2.2.2.2 (some .int)) {x1 : Int32} {x2 : Int32} {x3 : Int32} {x4 : Int32} {x5 : Int32} {s0 : Int32} {h : AH} (H : ((s0 = 0) → (GI g l X Q h 43 [(0, .ref 0), (1, .int x1), (2, .int x2), (3, .int x3), (4, .int x4), (5, .int (x5 + I 1))] [])) ∧ ((¬ (s0 = 0)) → (((x5 = (x4 - (I 1))) → (GI g l X Q h 43 [(0, .ref 0), (1, .int x1), (2, .int x2), (3, .int (x3 ||| ((I 1) <<< (x5 &&& 31)))), (4, .int x4), (5, .int (x5 + I 1))] [])) ∧ ((¬ (x5 = (x4 - (I 1)))) → (SpI g l mX7_paintingOf h [.ref 0, .int x1, .int (x5 + (I 1))] (fun v3 hv3 => ∃ j4 : Nat, v3 = I (j4 : Int) ∧ j4 < 40 ∧ ((((hv3.1 39 j4) ≤ x2) → (GI g l X Q hv3 43 [(0, .ref 0), (1, .int x1), (2, .int x2), (3, .int x3), (4, .int x4), (5, .int (x5 + I 1))] [])) ∧ ((¬ ((hv3.1 39 j4) ≤ x2)) → (GI g l X Q hv3 43 [(0, .ref 0), (1, .int x1), (2, .int x2), (3, .int (x3 ||| ((I 1) <<< (x5 &&& 31)))), (4, .int x4), (5, .int (x5 + I 1))] []))))))))) : GI g l X Q h 74 [(0, .ref 0), (1, .int x1), (2, .int x2), (3, .int x3), (4, .int x4), (5, .int x5)] [.int s0] := by
  refine g_istore (lv' := [(0, .ref 0), (1, .int x1), (2, .int x2), (3, .int x3), (4, .int x4), (5, .int x5), (6, .int s0)]) (pc := 74) O dX7_lastCoats_74 (ltb rfl) rfl ?_
  refine g_iload (pc := 76) O rfl dX7_lastCoats_76 ?_
  refine g_if_eq (tgt := 118) (pc := 78) O dX7_lastCoats_78 rfl (fun q1 => ?_) (fun q1 => ?_)
  · replace H := H.1 q1
    refine g_iinc (lv' := [(0, .ref 0), (1, .int x1), (2, .int x2), (3, .int x3), (4, .int x4), (5, .int (x5 + I 1)), (6, .int s0)]) (pc := 118) O dX7_lastCoats_118 rfl rfl (ltb rfl) rfl ?_
    refine g_goto (tgt := 43) (pc := 121) O dX7_lastCoats_121 rfl ?_
    refine g_sub [0, 1, 2, 3, 4, 5] rfl ?_
    exact H
  · replace H := H.2 q1
    refine g_iload (pc := 81) O rfl dX7_lastCoats_81 ?_
    refine g_iload (pc := 83) O rfl dX7_lastCoats_83 ?_
    refine g_iconst (v := (I 1)) (pc := 85) O rfl dX7_lastCoats_85 ?_
    refine g_isub (pc := 86) O dX7_lastCoats_86 ?_
    refine g_icmp_eq (tgt := 111) (pc := 87) O dX7_lastCoats_87 rfl (fun q2 => ?_) (fun q2 => ?_)
    · replace H := H.1 q2
      refine g_iloadn (pc := 111) O rfl dX7_lastCoats_111 ?_
      refine g_iconst (v := (I 1)) (pc := 112) O rfl dX7_lastCoats_112 ?_
      refine g_iload (pc := 113) O rfl dX7_lastCoats_113 ?_
      refine g_ishl (pc := 115) O dX7_lastCoats_115 ?_
      refine g_ior (pc := 116) O dX7_lastCoats_116 ?_
      refine g_istoren (lv' := [(0, .ref 0), (1, .int x1), (2, .int x2), (3, .int (x3 ||| ((I 1) <<< (x5 &&& 31)))), (4, .int x4), (5, .int x5), (6, .int s0)]) (pc := 117) O dX7_lastCoats_117 rfl (ltb rfl) rfl ?_
      refine g_iinc (lv' := [(0, .ref 0), (1, .int x1), (2, .int x2), (3, .int (x3 ||| ((I 1) <<< (x5 &&& 31)))), (4, .int x4), (5, .int (x5 + I 1)), (6, .int s0)]) (pc := 118) O dX7_lastCoats_118 rfl rfl (ltb rfl) rfl ?_
      refine g_goto (tgt := 43) (pc := 121) O dX7_lastCoats_121 rfl ?_
      refine g_sub [0, 1, 2, 3, 4, 5] rfl ?_
      exact H
    · replace H := H.2 q2
      refine g_aloadn (pc := 90) O rfl dX7_lastCoats_90 ?_
      refine g_getS (pc := 91) O cls7 fl_X7_51 dX7_lastCoats_91 rfl (ltb rfl) (ltb rfl) rfl rfl ?_
      refine g_getS (pc := 94) O cls6 fl_X7_197 dX7_lastCoats_94 rfl (ltb rfl) (ltb rfl) rfl rfl ?_
      refine g_aloadn (pc := 97) O rfl dX7_lastCoats_97 ?_
      refine g_iloadn (pc := 98) O rfl dX7_lastCoats_98 ?_
      refine g_iload (pc := 99) O rfl dX7_lastCoats_99 ?_
      refine g_iconst (v := (I 1)) (pc := 101) O rfl dX7_lastCoats_101 ?_
      refine g_iadd (pc := 102) O dX7_lastCoats_102 ?_
      refine g_vI [.int x1, .int (x5 + (I 1))] [.ref 39] (pc := 103) O mk_X7_paintingOf ml_X7_131 im_X7_paintingOf se_X7_paintingOf cls7 rfl ⟨rfl, rfl, leb rfl, leb rfl⟩ rfl (leb rfl) dX7_lastCoats_103 H rfl (fun v3 hv3 H => ?_)
      obtain ⟨j4, ej4, bj4, H⟩ := H
      refine g_iald (j := j4) (pc := 106) O dX7_lastCoats_106 ej4 rfl (ltb rfl) bj4 (ltb rfl) rfl ?_
      refine g_iloadn (pc := 107) O rfl dX7_lastCoats_107 ?_
      refine g_icmp_le (tgt := 118) (pc := 108) O dX7_lastCoats_108 rfl (fun q5 => ?_) (fun q5 => ?_)
      · replace H := H.1 q5
        refine g_iinc (lv' := [(0, .ref 0), (1, .int x1), (2, .int x2), (3, .int x3), (4, .int x4), (5, .int (x5 + I 1)), (6, .int s0)]) (pc := 118) O dX7_lastCoats_118 rfl rfl (ltb rfl) rfl ?_
        refine g_goto (tgt := 43) (pc := 121) O dX7_lastCoats_121 rfl ?_
        refine g_sub [0, 1, 2, 3, 4, 5] rfl ?_
        exact H
      · replace H := H.2 q5
        refine g_iloadn (pc := 111) O rfl dX7_lastCoats_111 ?_
        refine g_iconst (v := (I 1)) (pc := 112) O rfl dX7_lastCoats_112 ?_
        refine g_iload (pc := 113) O rfl dX7_lastCoats_113 ?_
        refine g_ishl (pc := 115) O dX7_lastCoats_115 ?_
        refine g_ior (pc := 116) O dX7_lastCoats_116 ?_
        refine g_istoren (lv' := [(0, .ref 0), (1, .int x1), (2, .int x2), (3, .int (x3 ||| ((I 1) <<< (x5 &&& 31)))), (4, .int x4), (5, .int x5), (6, .int s0)]) (pc := 117) O dX7_lastCoats_117 rfl (ltb rfl) rfl ?_
        refine g_iinc (lv' := [(0, .ref 0), (1, .int x1), (2, .int x2), (3, .int (x3 ||| ((I 1) <<< (x5 &&& 31)))), (4, .int x4), (5, .int (x5 + I 1)), (6, .int s0)]) (pc := 118) O dX7_lastCoats_118 rfl rfl (ltb rfl) rfl ?_
        refine g_goto (tgt := 43) (pc := 121) O dX7_lastCoats_121 rfl ?_
        refine g_sub [0, 1, 2, 3, 4, 5] rfl ?_
        exact H
set_option maxRecDepth 20000 in
set_option maxHeartbeats 2000000 in
theorem sX7_lastCoats {g : mg} {l : Launch} {Q : Int32 → AH → Prop} {x1 : Int32} {x2 : Int32} {h : AH} (H : ∀ X, Ok (FF g l X) RX7 cX7_lastCoats 7 mX7_lastCoats.2.2.2.2 (some .int) → SpI g l mX7_paintingOf h [.ref 0, .int x1, .int (I 0)] (fun v1 hv1 => ∃ j2 : Nat, v1 = I (j2 : Int) ∧ j2 < 40 ∧ ((((hv1.1 39 j2) ≤ x2) → (∃ j4 : Nat, x1 = I (j4 : Int) ∧ j4 < 4 ∧ (∃ b5 : Nat, hv1.2.2 7 j4 = some b5 ∧ lay b5 = (1, 5) ∧ (GI g l X Q hv1 43 [(0, .ref 0), (1, .int x1), (2, .int x2), (3, .int (I 0)), (4, .int (hv1.1 b5 3)), (5, .int (I 0))] [])))) ∧ ((¬ ((hv1.1 39 j2) ≤ x2)) → (∃ j6 : Nat, x1 = I (j6 : Int) ∧ j6 < 4 ∧ (∃ b7 : Nat, hv1.2.2 7 j6 = some b7 ∧ lay b7 = (1, 5) ∧ (GI g l X Q hv1 43 [(0, .ref 0), (1, .int x1), (2, .int x2), (3, .int (I 1024)), (4, .int (hv1.1 b7 3)), (5, .int (I 0))] []))))))) : SpI g l mX7_lastCoats h [.ref 0, .int x1, .int x2] Q := spI_of (by decide) (leb rfl) (fun X O => bX7_lastCoats_0 O (H X O))
set_option maxRecDepth 20000 in
set_option maxHeartbeats 2000000 in
theorem bX7_oddsOfAll_0 {g : mg} {l : Launch} {X : XT} {Q : Int64 → AH → Prop} (O : Ok (FF g l X) RX7 cX7_oddsOfAll 6 mX7_oddsOfAll.2.2.2.2 (some .long)) {x0 : Int32} {x1 : Int64} {h : AH} (H : GL g l X Q h 7 [(0, .int x0), (1, .long x1), (3, .long (1000000)), (5, .int (I 0))] []) : GL g l X Q h 0 [(0, .int x0), (1, .long x1)] [] := by
  refine g_ldc2 (pc := 0) O co_X7_224 dX7_oddsOfAll_0 ?_
  refine g_lstoren (lv' := [(0, .int x0), (1, .long x1), (3, .long (1000000))]) (pc := 3) O dX7_oddsOfAll_3 rfl (ltb rfl) rfl ?_
  refine g_iconst (v := (I 0)) (pc := 4) O rfl dX7_oddsOfAll_4 ?_
  refine g_istore (lv' := [(0, .int x0), (1, .long x1), (3, .long (1000000)), (5, .int (I 0))]) (pc := 5) O dX7_oddsOfAll_5 (ltb rfl) rfl ?_
  exact H
set_option maxRecDepth 20000 in
set_option maxHeartbeats 2000000 in
theorem bX7_oddsOfAll_7 {g : mg} {l : Launch} {X : XT} {Q : Int64 → AH → Prop} (O : Ok (FF g l X) RX7 cX7_oddsOfAll 6 mX7_oddsOfAll.2.2.2.2 (some .long)) {x0 : Int32} {x1 : Int64} {x3 : Int64} {x5 : Int32} {h : AH} (H : ((x0 ≤ x5) → (Q x3 h)) ∧ ((¬ (x0 ≤ x5)) → (GL g l X Q h 7 [(0, .int x0), (1, .long x1), (3, .long ((x3 * x1) / (1000000))), (5, .int (x5 + I 1))] []))) : GL g l X Q h 7 [(0, .int x0), (1, .long x1), (3, .long x3), (5, .int x5)] [] := by
  refine g_iload (pc := 7) O rfl dX7_oddsOfAll_7 ?_
  refine g_iloadn (pc := 9) O rfl dX7_oddsOfAll_9 ?_
  refine g_icmp_ge (tgt := 27) (pc := 10) O dX7_oddsOfAll_10 rfl (fun q1 => ?_) (fun q1 => ?_)
  · replace H := H.1 q1
    refine g_lloadn (pc := 27) O rfl dX7_oddsOfAll_27 ?_
    exact g_lret (pc := 28) O dX7_oddsOfAll_28 H
  · replace H := H.2 q1
    refine g_lloadn (pc := 13) O rfl dX7_oddsOfAll_13 ?_
    refine g_lloadn (pc := 14) O rfl dX7_oddsOfAll_14 ?_
    refine g_lmul (pc := 15) O dX7_oddsOfAll_15 ?_
    refine g_ldc2 (pc := 16) O co_X7_224 dX7_oddsOfAll_16 ?_
    refine g_ldiv (pc := 19) O (by decide) dX7_oddsOfAll_19 ?_
    refine g_lstoren (lv' := [(0, .int x0), (1, .long x1), (3, .long ((x3 * x1) / (1000000))), (5, .int x5)]) (pc := 20) O dX7_oddsOfAll_20 rfl (ltb rfl) rfl ?_
    refine g_iinc (lv' := [(0, .int x0), (1, .long x1), (3, .long ((x3 * x1) / (1000000))), (5, .int (x5 + I 1))]) (pc := 21) O dX7_oddsOfAll_21 rfl rfl (ltb rfl) rfl ?_
    refine g_goto (tgt := 7) (pc := 24) O dX7_oddsOfAll_24 rfl ?_
    exact H
set_option maxRecDepth 20000 in
set_option maxHeartbeats 2000000 in
theorem sX7_oddsOfAll {g : mg} {l : Launch} {Q : Int64 → AH → Prop} {x0 : Int32} {x1 : Int64} {h : AH} (H : ∀ X, Ok (FF g l X) RX7 cX7_oddsOfAll 6 mX7_oddsOfAll.2.2.2.2 (some .long) → GL g l X Q h 7 [(0, .int x0), (1, .long x1), (3, .long (1000000)), (5, .int (I 0))] []) : SpL g l mX7_oddsOfAll h [.int x0, .long x1] Q := spL_of (by decide) (leb rfl) (fun X O => bX7_oddsOfAll_0 O (H X O))
set_option maxRecDepth 20000 in
set_option maxHeartbeats 2000000 in
theorem bX7_asCoat_0 {g : mg} {l : Launch} {X : XT} {Q : Int32 → AH → Prop} (O : Ok (FF g l X) RX7 cX7_asCoat 3 mX7_asCoat.2.2.2.2 (some .int)) {x1 : Int32} {x2 : Int32} {h : AH} (H : ∃ j1 : Nat, x1 = I (j1 : Int) ∧ j1 < 4 ∧ (∃ b2 : Nat, h.2.2 7 j1 = some b2 ∧ lay b2 = (1, 5) ∧ (∃ j3 : Nat, x2 = I (j3 : Int) ∧ j3 < 10 ∧ (Q ((h.1 (b2 + 1) j3) + (I 1)) (sL h 0 11 ((h.2.1 0 11) + 1)))))) : GI g l X Q h 0 [(0, .ref 0), (1, .int x1), (2, .int x2)] [] := by
  refine g_aloadn (pc := 0) O rfl dX7_asCoat_0 ?_
  refine g_dup (pc := 1) O rfl dX7_asCoat_1 ?_
  refine g_getL (v := h.2.1 0 11) (pc := 2) O cls7 fl_X7_267 dX7_asCoat_2 rfl (ltb rfl) (ltb rfl) rfl rfl ?_
  refine g_lconst (v := 1) (pc := 5) O (by decide) dX7_asCoat_5 ?_
  refine g_ladd (pc := 6) O dX7_asCoat_6 ?_
  refine g_putL (pc := 7) O cls7 fl_X7_267 dX7_asCoat_7 rfl (ltb rfl) (leb rfl) (ltb rfl) rfl rfl (by decide +kernel) ?_
  refine g_aloadn (pc := 10) O rfl dX7_asCoat_10 ?_
  refine g_getS (pc := 11) O cls7 fl_X7_19 dX7_asCoat_11 rfl (ltb rfl) (ltb rfl) rfl rfl ?_
  refine g_getS (pc := 14) O cls4 fl_X7_79 dX7_asCoat_14 rfl (ltb rfl) (ltb rfl) rfl rfl ?_
  refine g_iloadn (pc := 17) O rfl dX7_asCoat_17 ?_
  obtain ⟨j1, ej1, bj1, H⟩ := H
  obtain ⟨b2, rb2, hb2, H⟩ := H
  refine g_aald (t := 0) (j := j1) (pc := 18) O dX7_asCoat_18 ej1 (ltb rfl) rfl (ltb rfl) bj1 (ltb rfl) rb2 ?_
  refine g_getS (pc := 19) O cls1 fl_X7_122 dX7_asCoat_19 hb2 (lay_lt hb2 (by decide)) (ltb rfl) rfl (sr_chip0 hb2) ?_
  refine g_iloadn (pc := 22) O rfl dX7_asCoat_22 ?_
  obtain ⟨j3, ej3, bj3, H⟩ := H
  refine g_iald (j := j3) (pc := 23) O dX7_asCoat_23 ej3 (lay_chip0 hb2) (lay_lt (lay_chip0 hb2) (by decide)) bj3 (ltb rfl) rfl ?_
  refine g_iconst (v := (I 1)) (pc := 24) O rfl dX7_asCoat_24 ?_
  refine g_iadd (pc := 25) O dX7_asCoat_25 ?_
  exact g_iret (pc := 26) O dX7_asCoat_26 H
set_option maxRecDepth 20000 in
set_option maxHeartbeats 2000000 in
theorem sX7_asCoat {g : mg} {l : Launch} {Q : Int32 → AH → Prop} {x1 : Int32} {x2 : Int32} {h : AH} (H : ∃ j1 : Nat, x1 = I (j1 : Int) ∧ j1 < 4 ∧ (∃ b2 : Nat, h.2.2 7 j1 = some b2 ∧ lay b2 = (1, 5) ∧ (∃ j3 : Nat, x2 = I (j3 : Int) ∧ j3 < 10 ∧ (Q ((h.1 (b2 + 1) j3) + (I 1)) (sL h 0 11 ((h.2.1 0 11) + 1)))))) : SpI g l mX7_asCoat h [.ref 0, .int x1, .int x2] Q := spI_of (by decide) (leb rfl) (fun X O => bX7_asCoat_0 O H)
set_option maxRecDepth 20000 in
set_option maxHeartbeats 2000000 in
theorem bX7_asWhole_0 {g : mg} {l : Launch} {X : XT} {Q : Int32 → AH → Prop} (O : Ok (FF g l X) RX7 cX7_asWhole 3 mX7_asWhole.2.2.2.2 (some .int)) {x1 : Int32} {x2 : Int32} {h : AH} (H : SpI g l mX7_asCoat (sL h 0 11 ((h.2.1 0 11) + (10))) [.ref 0, .int x1, .int x2] (fun v1 hv1 => SpI g l mX7_paintingOf hv1 [.ref 0, .int x1, .int x2] (fun v2 hv2 => ∃ j3 : Nat, v2 = I (j3 : Int) ∧ j3 < 40 ∧ (SpI g l mJ6_bitCount_0f7a4 hv2 [.int (hv2.1 28 j3)] (fun v4 hv4 => Q (v1 * v4) hv4))))) : GI g l X Q h 0 [(0, .ref 0), (1, .int x1), (2, .int x2)] [] := by
  refine g_aloadn (pc := 0) O rfl dX7_asWhole_0 ?_
  refine g_dup (pc := 1) O rfl dX7_asWhole_1 ?_
  refine g_getL (v := h.2.1 0 11) (pc := 2) O cls7 fl_X7_267 dX7_asWhole_2 rfl (ltb rfl) (ltb rfl) rfl rfl ?_
  refine g_ldc2 (pc := 5) O co_X7_222 dX7_asWhole_5 ?_
  refine g_ladd (pc := 8) O dX7_asWhole_8 ?_
  refine g_putL (pc := 9) O cls7 fl_X7_267 dX7_asWhole_9 rfl (ltb rfl) (leb rfl) (ltb rfl) rfl rfl (by decide +kernel) ?_
  refine g_aloadn (pc := 12) O rfl dX7_asWhole_12 ?_
  refine g_iloadn (pc := 13) O rfl dX7_asWhole_13 ?_
  refine g_iloadn (pc := 14) O rfl dX7_asWhole_14 ?_
  refine g_vI [.int x1, .int x2] [] (pc := 15) O mk_X7_asCoat ml_X7_239 im_X7_asCoat se_X7_asCoat cls7 rfl ⟨rfl, rfl, leb rfl, leb rfl⟩ rfl (leb rfl) dX7_asWhole_15 H rfl (fun v1 hv1 H => ?_)
  refine g_aloadn (pc := 18) O rfl dX7_asWhole_18 ?_
  refine g_getS (pc := 19) O cls7 fl_X7_44 dX7_asWhole_19 rfl (ltb rfl) (ltb rfl) rfl rfl ?_
  refine g_getS (pc := 22) O cls3 fl_X7_175 dX7_asWhole_22 rfl (ltb rfl) (ltb rfl) rfl rfl ?_
  refine g_aloadn (pc := 25) O rfl dX7_asWhole_25 ?_
  refine g_iloadn (pc := 26) O rfl dX7_asWhole_26 ?_
  refine g_iloadn (pc := 27) O rfl dX7_asWhole_27 ?_
  refine g_vI [.int x1, .int x2] [.ref 28, .int v1] (pc := 28) O mk_X7_paintingOf ml_X7_131 im_X7_paintingOf se_X7_paintingOf cls7 rfl ⟨rfl, rfl, leb rfl, leb rfl⟩ rfl (leb rfl) dX7_asWhole_28 H rfl (fun v2 hv2 H => ?_)
  obtain ⟨j3, ej3, bj3, H⟩ := H
  refine g_iald (j := j3) (pc := 31) O dX7_asWhole_31 ej3 rfl (ltb rfl) bj3 (ltb rfl) rfl ?_
  refine g_sI [.int (hv2.1 28 j3)] [.int v1] (pc := 32) O mk_J6_bitCount_0f7a4 ml_X7_283 sm_J6_bitCount_0f7a4 ⟨rfl, rfl, leb rfl, leb rfl⟩ rfl (leb rfl) dX7_asWhole_32 H rfl (fun v4 hv4 H => ?_)
  refine g_imul (pc := 35) O dX7_asWhole_35 ?_
  exact g_iret (pc := 36) O dX7_asWhole_36 H
set_option maxRecDepth 20000 in
set_option maxHeartbeats 2000000 in
theorem sX7_asWhole {g : mg} {l : Launch} {Q : Int32 → AH → Prop} {x1 : Int32} {x2 : Int32} {h : AH} (H : SpI g l mX7_asCoat (sL h 0 11 ((h.2.1 0 11) + (10))) [.ref 0, .int x1, .int x2] (fun v1 hv1 => SpI g l mX7_paintingOf hv1 [.ref 0, .int x1, .int x2] (fun v2 hv2 => ∃ j3 : Nat, v2 = I (j3 : Int) ∧ j3 < 40 ∧ (SpI g l mJ6_bitCount_0f7a4 hv2 [.int (hv2.1 28 j3)] (fun v4 hv4 => Q (v1 * v4) hv4))))) : SpI g l mX7_asWhole h [.ref 0, .int x1, .int x2] Q := spI_of (by decide) (leb rfl) (fun X O => bX7_asWhole_0 O H)
set_option maxRecDepth 20000 in
set_option maxHeartbeats 2000000 in
theorem bX7_asUnder_0 {g : mg} {l : Launch} {X : XT} {Q : Int32 → AH → Prop} (O : Ok (FF g l X) RX7 cX7_asUnder 3 mX7_asUnder.2.2.2.2 (some .int)) {x1 : Int32} {x2 : Int32} {h : AH} (H : SpI g l mX7_asCoat (sL h 0 11 ((h.2.1 0 11) + (100))) [.ref 0, .int x1, .int x2] (fun v1 hv1 => ∃ j2 : Nat, x1 = I (j2 : Int) ∧ j2 < 4 ∧ (∃ b3 : Nat, hv1.2.2 7 j2 = some b3 ∧ lay b3 = (1, 5) ∧ (∃ j4 : Nat, x2 = I (j4 : Int) ∧ j4 < 10 ∧ (Q (v1 + (hv1.1 (b3 + 2) j4)) hv1))))) : GI g l X Q h 0 [(0, .ref 0), (1, .int x1), (2, .int x2)] [] := by
  refine g_aloadn (pc := 0) O rfl dX7_asUnder_0 ?_
  refine g_dup (pc := 1) O rfl dX7_asUnder_1 ?_
  refine g_getL (v := h.2.1 0 11) (pc := 2) O cls7 fl_X7_267 dX7_asUnder_2 rfl (ltb rfl) (ltb rfl) rfl rfl ?_
  refine g_ldc2 (pc := 5) O co_X7_288 dX7_asUnder_5 ?_
  refine g_ladd (pc := 8) O dX7_asUnder_8 ?_
  refine g_putL (pc := 9) O cls7 fl_X7_267 dX7_asUnder_9 rfl (ltb rfl) (leb rfl) (ltb rfl) rfl rfl (by decide +kernel) ?_
  refine g_aloadn (pc := 12) O rfl dX7_asUnder_12 ?_
  refine g_iloadn (pc := 13) O rfl dX7_asUnder_13 ?_
  refine g_iloadn (pc := 14) O rfl dX7_asUnder_14 ?_
  refine g_vI [.int x1, .int x2] [] (pc := 15) O mk_X7_asCoat ml_X7_239 im_X7_asCoat se_X7_asCoat cls7 rfl ⟨rfl, rfl, leb rfl, leb rfl⟩ rfl (leb rfl) dX7_asUnder_15 H rfl (fun v1 hv1 H => ?_)
  refine g_aloadn (pc := 18) O rfl dX7_asUnder_18 ?_
  refine g_getS (pc := 19) O cls7 fl_X7_19 dX7_asUnder_19 rfl (ltb rfl) (ltb rfl) rfl rfl ?_
  refine g_getS (pc := 22) O cls4 fl_X7_79 dX7_asUnder_22 rfl (ltb rfl) (ltb rfl) rfl rfl ?_
  refine g_iloadn (pc := 25) O rfl dX7_asUnder_25 ?_
  obtain ⟨j2, ej2, bj2, H⟩ := H
  obtain ⟨b3, rb3, hb3, H⟩ := H
  refine g_aald (t := 0) (j := j2) (pc := 26) O dX7_asUnder_26 ej2 (ltb rfl) rfl (ltb rfl) bj2 (ltb rfl) rb3 ?_
  refine g_getS (pc := 27) O cls1 fl_X7_125 dX7_asUnder_27 hb3 (lay_lt hb3 (by decide)) (ltb rfl) rfl (sr_chip1 hb3) ?_
  refine g_iloadn (pc := 30) O rfl dX7_asUnder_30 ?_
  obtain ⟨j4, ej4, bj4, H⟩ := H
  refine g_iald (j := j4) (pc := 31) O dX7_asUnder_31 ej4 (lay_chip1 hb3) (lay_lt (lay_chip1 hb3) (by decide)) bj4 (ltb rfl) rfl ?_
  refine g_iadd (pc := 32) O dX7_asUnder_32 ?_
  exact g_iret (pc := 33) O dX7_asUnder_33 H
set_option maxRecDepth 20000 in
set_option maxHeartbeats 2000000 in
theorem sX7_asUnder {g : mg} {l : Launch} {Q : Int32 → AH → Prop} {x1 : Int32} {x2 : Int32} {h : AH} (H : SpI g l mX7_asCoat (sL h 0 11 ((h.2.1 0 11) + (100))) [.ref 0, .int x1, .int x2] (fun v1 hv1 => ∃ j2 : Nat, x1 = I (j2 : Int) ∧ j2 < 4 ∧ (∃ b3 : Nat, hv1.2.2 7 j2 = some b3 ∧ lay b3 = (1, 5) ∧ (∃ j4 : Nat, x2 = I (j4 : Int) ∧ j4 < 10 ∧ (Q (v1 + (hv1.1 (b3 + 2) j4)) hv1))))) : SpI g l mX7_asUnder h [.ref 0, .int x1, .int x2] Q := spI_of (by decide) (leb rfl) (fun X O => bX7_asUnder_0 O H)
set_option maxRecDepth 20000 in
set_option maxHeartbeats 2000000 in
theorem bX7_asPatch_0 {g : mg} {l : Launch} {X : XT} {Q : Int32 → AH → Prop} (O : Ok (FF g l X) RX7 cX7_asPatch 3 mX7_asPatch.2.2.2.2 (some .int)) {x1 : Int32} {x2 : Int32} {h : AH} (H : SpI g l mX7_asWhole (sL h 0 11 ((h.2.1 0 11) + (1000))) [.ref 0, .int x1, .int x2] (fun v1 hv1 => Q (v1 - x2) hv1)) : GI g l X Q h 0 [(0, .ref 0), (1, .int x1), (2, .int x2)] [] := by
  refine g_aloadn (pc := 0) O rfl dX7_asPatch_0 ?_
  refine g_dup (pc := 1) O rfl dX7_asPatch_1 ?_
  refine g_getL (v := h.2.1 0 11) (pc := 2) O cls7 fl_X7_267 dX7_asPatch_2 rfl (ltb rfl) (ltb rfl) rfl rfl ?_
  refine g_ldc2 (pc := 5) O co_X7_290 dX7_asPatch_5 ?_
  refine g_ladd (pc := 8) O dX7_asPatch_8 ?_
  refine g_putL (pc := 9) O cls7 fl_X7_267 dX7_asPatch_9 rfl (ltb rfl) (leb rfl) (ltb rfl) rfl rfl (by decide +kernel) ?_
  refine g_aloadn (pc := 12) O rfl dX7_asPatch_12 ?_
  refine g_iloadn (pc := 13) O rfl dX7_asPatch_13 ?_
  refine g_iloadn (pc := 14) O rfl dX7_asPatch_14 ?_
  refine g_vI [.int x1, .int x2] [] (pc := 15) O mk_X7_asWhole ml_X7_242 im_X7_asWhole se_X7_asWhole cls7 rfl ⟨rfl, rfl, leb rfl, leb rfl⟩ rfl (leb rfl) dX7_asPatch_15 H rfl (fun v1 hv1 H => ?_)
  refine g_iloadn (pc := 18) O rfl dX7_asPatch_18 ?_
  refine g_isub (pc := 19) O dX7_asPatch_19 ?_
  exact g_iret (pc := 20) O dX7_asPatch_20 H
set_option maxRecDepth 20000 in
set_option maxHeartbeats 2000000 in
theorem sX7_asPatch {g : mg} {l : Launch} {Q : Int32 → AH → Prop} {x1 : Int32} {x2 : Int32} {h : AH} (H : SpI g l mX7_asWhole (sL h 0 11 ((h.2.1 0 11) + (1000))) [.ref 0, .int x1, .int x2] (fun v1 hv1 => Q (v1 - x2) hv1)) : SpI g l mX7_asPatch h [.ref 0, .int x1, .int x2] Q := spI_of (by decide) (leb rfl) (fun X O => bX7_asPatch_0 O H)
set_option maxRecDepth 20000 in
set_option maxHeartbeats 2000000 in
theorem bX7_asScraped_0 {g : mg} {l : Launch} {X : XT} {Q : Int32 → AH → Prop} (O : Ok (FF g l X) RX7 cX7_asScraped 3 mX7_asScraped.2.2.2.2 (some .int)) {x1 : Int32} {x2 : Int32} {h : AH} (H : SpI g l mX7_asUnder (sL h 0 11 ((h.2.1 0 11) + (10000))) [.ref 0, .int x1, .int x2] (fun v1 hv1 => Q ((I 2) * v1) hv1)) : GI g l X Q h 0 [(0, .ref 0), (1, .int x1), (2, .int x2)] [] := by
  refine g_aloadn (pc := 0) O rfl dX7_asScraped_0 ?_
  refine g_dup (pc := 1) O rfl dX7_asScraped_1 ?_
  refine g_getL (v := h.2.1 0 11) (pc := 2) O cls7 fl_X7_267 dX7_asScraped_2 rfl (ltb rfl) (ltb rfl) rfl rfl ?_
  refine g_ldc2 (pc := 5) O co_X7_230 dX7_asScraped_5 ?_
  refine g_ladd (pc := 8) O dX7_asScraped_8 ?_
  refine g_putL (pc := 9) O cls7 fl_X7_267 dX7_asScraped_9 rfl (ltb rfl) (leb rfl) (ltb rfl) rfl rfl (by decide +kernel) ?_
  refine g_iconst (v := (I 2)) (pc := 12) O rfl dX7_asScraped_12 ?_
  refine g_aloadn (pc := 13) O rfl dX7_asScraped_13 ?_
  refine g_iloadn (pc := 14) O rfl dX7_asScraped_14 ?_
  refine g_iloadn (pc := 15) O rfl dX7_asScraped_15 ?_
  refine g_vI [.int x1, .int x2] [.int (I 2)] (pc := 16) O mk_X7_asUnder ml_X7_245 im_X7_asUnder se_X7_asUnder cls7 rfl ⟨rfl, rfl, leb rfl, leb rfl⟩ rfl (leb rfl) dX7_asScraped_16 H rfl (fun v1 hv1 H => ?_)
  refine g_imul (pc := 19) O dX7_asScraped_19 ?_
  exact g_iret (pc := 20) O dX7_asScraped_20 H
set_option maxRecDepth 20000 in
set_option maxHeartbeats 2000000 in
theorem sX7_asScraped {g : mg} {l : Launch} {Q : Int32 → AH → Prop} {x1 : Int32} {x2 : Int32} {h : AH} (H : SpI g l mX7_asUnder (sL h 0 11 ((h.2.1 0 11) + (10000))) [.ref 0, .int x1, .int x2] (fun v1 hv1 => Q ((I 2) * v1) hv1)) : SpI g l mX7_asScraped h [.ref 0, .int x1, .int x2] Q := spI_of (by decide) (leb rfl) (fun X O => bX7_asScraped_0 O H)
set_option maxRecDepth 20000 in
set_option maxHeartbeats 2000000 in
theorem bX7_asVarnish_0 {g : mg} {l : Launch} {X : XT} {Q : Int32 → AH → Prop} (O : Ok (FF g l X) RX7 cX7_asVarnish 3 mX7_asVarnish.2.2.2.2 (some .int)) {x1 : Int32} {x2 : Int32} {h : AH} (H : SpI g l mX7_asCoat (sL h 0 11 ((h.2.1 0 11) + (100000))) [.ref 0, .int x1, .int x2] (fun v1 hv1 => ∃ j2 : Nat, x1 = I (j2 : Int) ∧ j2 < 4 ∧ (∃ b3 : Nat, hv1.2.2 7 j2 = some b3 ∧ lay b3 = (1, 5) ∧ ((((hv1.1 b3 4) = 0) → (Q (v1 + (I 0)) hv1)) ∧ ((¬ ((hv1.1 b3 4) = 0)) → (Q (v1 + (I 20)) hv1)))))) : GI g l X Q h 0 [(0, .ref 0), (1, .int x1), (2, .int x2)] [] := by
  refine g_aloadn (pc := 0) O rfl dX7_asVarnish_0 ?_
  refine g_dup (pc := 1) O rfl dX7_asVarnish_1 ?_
  refine g_getL (v := h.2.1 0 11) (pc := 2) O cls7 fl_X7_267 dX7_asVarnish_2 rfl (ltb rfl) (ltb rfl) rfl rfl ?_
  refine g_ldc2 (pc := 5) O co_X7_292 dX7_asVarnish_5 ?_
  refine g_ladd (pc := 8) O dX7_asVarnish_8 ?_
  refine g_putL (pc := 9) O cls7 fl_X7_267 dX7_asVarnish_9 rfl (ltb rfl) (leb rfl) (ltb rfl) rfl rfl (by decide +kernel) ?_
  refine g_aloadn (pc := 12) O rfl dX7_asVarnish_12 ?_
  refine g_iloadn (pc := 13) O rfl dX7_asVarnish_13 ?_
  refine g_iloadn (pc := 14) O rfl dX7_asVarnish_14 ?_
  refine g_vI [.int x1, .int x2] [] (pc := 15) O mk_X7_asCoat ml_X7_239 im_X7_asCoat se_X7_asCoat cls7 rfl ⟨rfl, rfl, leb rfl, leb rfl⟩ rfl (leb rfl) dX7_asVarnish_15 H rfl (fun v1 hv1 H => ?_)
  refine g_aloadn (pc := 18) O rfl dX7_asVarnish_18 ?_
  refine g_getS (pc := 19) O cls7 fl_X7_19 dX7_asVarnish_19 rfl (ltb rfl) (ltb rfl) rfl rfl ?_
  refine g_getS (pc := 22) O cls4 fl_X7_79 dX7_asVarnish_22 rfl (ltb rfl) (ltb rfl) rfl rfl ?_
  refine g_iloadn (pc := 25) O rfl dX7_asVarnish_25 ?_
  obtain ⟨j2, ej2, bj2, H⟩ := H
  obtain ⟨b3, rb3, hb3, H⟩ := H
  refine g_aald (t := 0) (j := j2) (pc := 26) O dX7_asVarnish_26 ej2 (ltb rfl) rfl (ltb rfl) bj2 (ltb rfl) rb3 ?_
  refine g_getI (v := hv1.1 b3 4) (pc := 27) O cls1 fl_X7_112 dX7_asVarnish_27 hb3 (lay_lt hb3 (by decide)) (ltb rfl) rfl rfl ?_
  refine g_if_eq (tgt := 38) (pc := 30) O dX7_asVarnish_30 rfl (fun q4 => ?_) (fun q4 => ?_)
  · replace H := H.1 q4
    refine g_iconst (v := (I 0)) (pc := 38) O rfl dX7_asVarnish_38 ?_
    refine g_iadd (pc := 39) O dX7_asVarnish_39 ?_
    exact g_iret (pc := 40) O dX7_asVarnish_40 H
  · replace H := H.2 q4
    refine g_bipush (v := (I 20)) (pc := 33) O (by decide) dX7_asVarnish_33 ?_
    refine g_goto (tgt := 39) (pc := 35) O dX7_asVarnish_35 rfl ?_
    refine g_iadd (pc := 39) O dX7_asVarnish_39 ?_
    exact g_iret (pc := 40) O dX7_asVarnish_40 H
set_option maxRecDepth 20000 in
set_option maxHeartbeats 2000000 in
theorem sX7_asVarnish {g : mg} {l : Launch} {Q : Int32 → AH → Prop} {x1 : Int32} {x2 : Int32} {h : AH} (H : SpI g l mX7_asCoat (sL h 0 11 ((h.2.1 0 11) + (100000))) [.ref 0, .int x1, .int x2] (fun v1 hv1 => ∃ j2 : Nat, x1 = I (j2 : Int) ∧ j2 < 4 ∧ (∃ b3 : Nat, hv1.2.2 7 j2 = some b3 ∧ lay b3 = (1, 5) ∧ ((((hv1.1 b3 4) = 0) → (Q (v1 + (I 0)) hv1)) ∧ ((¬ ((hv1.1 b3 4) = 0)) → (Q (v1 + (I 20)) hv1)))))) : SpI g l mX7_asVarnish h [.ref 0, .int x1, .int x2] Q := spI_of (by decide) (leb rfl) (fun X O => bX7_asVarnish_0 O H)
