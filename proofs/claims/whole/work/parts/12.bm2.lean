/-! printed by gen.py: what each stretch of code asks for (H) to come to its end, and its walk -/
set_option maxRecDepth 20000 in
set_option maxHeartbeats 2000000 in
theorem bX8_isChipAt_0 {g : mg} {l : Launch} {X : XT} {Q : Int32 → AH → Prop} (O : Ok (FF g l X) RX8 cX8_isChipAt 2 mX8_isChipAt.2.2.2.2 (some .boolean)) {x1 : Int32} {h : AH} (H : SpI g l mX8_in h [.int x1, .int (I 0), .int ((h.1 82 6) - (I 1))] (fun v1 hv1 => (v1 = 0 ∨ v1 = 1) ∧ Q v1 hv1)) : GI g l X Q h 0 [(0, .ref 82), (1, .int x1)] [] := by
  refine g_iloadn (pc := 0) O rfl dX8_isChipAt_0 ?_
  refine g_iconst (v := (I 0)) (pc := 1) O rfl dX8_isChipAt_1 ?_
  refine g_aloadn (pc := 2) O rfl dX8_isChipAt_2 ?_
  refine g_getI (v := h.1 82 6) (pc := 3) O cls8 fl_X8_173 dX8_isChipAt_3 rfl (ltb rfl) (ltb rfl) rfl rfl ?_
  refine g_iconst (v := (I 1)) (pc := 6) O rfl dX8_isChipAt_6 ?_
  refine g_isub (pc := 7) O dX8_isChipAt_7 ?_
  refine g_sI [.int x1, .int (I 0), .int ((h.1 82 6) - (I 1))] [] (pc := 8) O mk_X8_in ml_X8_116 sm_X8_in ⟨rfl, rfl, leb rfl, leb rfl⟩ rfl (leb rfl) dX8_isChipAt_8 H rfl (fun v1 hv1 H => ?_)
  exact g_zret (pc := 11) O dX8_isChipAt_11 H.1 H.2
set_option maxRecDepth 20000 in
set_option maxHeartbeats 2000000 in
theorem sX8_isChipAt {g : mg} {l : Launch} {Q : Int32 → AH → Prop} {x1 : Int32} {h : AH} (H : SpI g l mX8_in h [.int x1, .int (I 0), .int ((h.1 82 6) - (I 1))] (fun v1 hv1 => (v1 = 0 ∨ v1 = 1) ∧ Q v1 hv1)) : SpI g l mX8_isChipAt h [.ref 82, .int x1] Q := spI_of (by decide) (leb rfl) (fun X O => bX8_isChipAt_0 O H)
set_option maxRecDepth 20000 in
set_option maxHeartbeats 2000000 in
theorem bX8_drop_0 {g : mg} {l : Launch} {X : XT} {Q : Int32 → AH → Prop} (O : Ok (FF g l X) RX8 cX8_drop 4 mX8_drop.2.2.2.2 (some .int)) {x1 : Int32} {h : AH} (H : SpI g l mX8_isChipAt h [.ref 82, .int x1] (fun v1 hv1 => ((¬ v1 = 0) → (GI g l X Q (sI hv1 82 6 ((hv1.1 82 6) - (I 1))) 22 [(0, .ref 82), (2, .int x1)] [])) ∧ ((v1 = 0) → (Q (I (-1)) hv1)))) : GI g l X Q h 0 [(0, .ref 82), (1, .int x1)] [] := by
  refine g_aloadn (pc := 0) O rfl dX8_drop_0 ?_
  refine g_iloadn (pc := 1) O rfl dX8_drop_1 ?_
  refine g_vI [.int x1] [] (pc := 2) O mk_X8_isChipAt ml_X8_199 im_X8_isChipAt se_X8_isChipAt cls8 rfl ⟨rfl, rfl, leb rfl, leb rfl⟩ rfl (leb rfl) dX8_drop_2 H rfl (fun v1 hv1 H => ?_)
  refine g_if_ne (tgt := 10) (pc := 5) O dX8_drop_5 rfl (fun q2 => ?_) (fun q2 => ?_)
  · replace H := H.1 q2
    refine g_aloadn (pc := 10) O rfl dX8_drop_10 ?_
    refine g_dup (pc := 11) O rfl dX8_drop_11 ?_
    refine g_getI (v := hv1.1 82 6) (pc := 12) O cls8 fl_X8_173 dX8_drop_12 rfl (ltb rfl) (ltb rfl) rfl rfl ?_
    refine g_iconst (v := (I 1)) (pc := 15) O rfl dX8_drop_15 ?_
    refine g_isub (pc := 16) O dX8_drop_16 ?_
    refine g_putI (pc := 17) O cls8 fl_X8_173 dX8_drop_17 rfl (ltb rfl) (leb rfl) (ltb rfl) rfl rfl (by decide +kernel) ?_
    refine g_iloadn (pc := 20) O rfl dX8_drop_20 ?_
    refine g_istoren (lv' := [(0, .ref 82), (1, .int x1), (2, .int x1)]) (pc := 21) O dX8_drop_21 rfl (ltb rfl) rfl ?_
    refine g_sub [0, 2] rfl ?_
    exact H
  · replace H := H.2 q2
    refine g_iconst (v := (I (-1))) (pc := 8) O rfl dX8_drop_8 ?_
    exact g_iret (pc := 9) O dX8_drop_9 H
set_option maxRecDepth 20000 in
set_option maxHeartbeats 2000000 in
theorem bX8_drop_22 {g : mg} {l : Launch} {X : XT} {Q : Int32 → AH → Prop} (O : Ok (FF g l X) RX8 cX8_drop 4 mX8_drop.2.2.2.2 (some .int)) {x2 : Int32} {h : AH} (H : (((h.1 82 6) ≤ x2) → (Q (h.1 82 6) (sI h 82 41 (I 0)))) ∧ ((¬ ((h.1 82 6) ≤ x2)) → (∃ j2 : Nat, (x2 + (I 1)) = I (j2 : Int) ∧ j2 < 4 ∧ (∃ j3 : Nat, x2 = I (j3 : Int) ∧ j3 < 4 ∧ (∃ j4 : Nat, (x2 + (I 1)) = I (j4 : Int) ∧ j4 < 4 ∧ (∃ j5 : Nat, x2 = I (j5 : Int) ∧ j5 < 4 ∧ (∃ j6 : Nat, (x2 + (I 1)) = I (j6 : Int) ∧ j6 < 4 ∧ (∃ j7 : Nat, x2 = I (j7 : Int) ∧ j7 < 4 ∧ (GI g l X Q (sI (sI (sI h 84 j3 (h.1 84 j2)) 85 j5 (h.1 85 j4)) 86 j7 (h.1 86 j6)) 74 [(0, .ref 82), (2, .int x2), (3, .int (I 0))] []))))))))) : GI g l X Q h 22 [(0, .ref 82), (2, .int x2)] [] := by
  refine g_iloadn (pc := 22) O rfl dX8_drop_22 ?_
  refine g_aloadn (pc := 23) O rfl dX8_drop_23 ?_
  refine g_getI (v := h.1 82 6) (pc := 24) O cls8 fl_X8_173 dX8_drop_24 rfl (ltb rfl) (ltb rfl) rfl rfl ?_
  refine g_icmp_ge (tgt := 140) (pc := 27) O dX8_drop_27 rfl (fun q1 => ?_) (fun q1 => ?_)
  · replace H := H.1 q1
    refine g_aloadn (pc := 140) O rfl dX8_drop_140 ?_
    refine g_iconst (v := (I 0)) (pc := 141) O rfl dX8_drop_141 ?_
    refine g_putZ (pc := 142) O cls8 fl_X8_180 dX8_drop_142 rfl (ltb rfl) (leb rfl) (ltb rfl) rfl rfl (by decide +kernel) (by decide) ?_
    refine g_aloadn (pc := 145) O rfl dX8_drop_145 ?_
    refine g_getI (v := h.1 82 6) (pc := 146) O cls8 fl_X8_173 dX8_drop_146 rfl (ltb rfl) (ltb rfl) rfl rfl ?_
    exact g_iret (pc := 149) O dX8_drop_149 H
  · replace H := H.2 q1
    refine g_aloadn (pc := 30) O rfl dX8_drop_30 ?_
    refine g_getS (pc := 31) O cls8 fl_X8_13 dX8_drop_31 rfl (ltb rfl) (ltb rfl) rfl rfl ?_
    refine g_iloadn (pc := 34) O rfl dX8_drop_34 ?_
    refine g_aloadn (pc := 35) O rfl dX8_drop_35 ?_
    refine g_getS (pc := 36) O cls8 fl_X8_13 dX8_drop_36 rfl (ltb rfl) (ltb rfl) rfl rfl ?_
    refine g_iloadn (pc := 39) O rfl dX8_drop_39 ?_
    refine g_iconst (v := (I 1)) (pc := 40) O rfl dX8_drop_40 ?_
    refine g_iadd (pc := 41) O dX8_drop_41 ?_
    obtain ⟨j2, ej2, bj2, H⟩ := H
    refine g_iald (j := j2) (pc := 42) O dX8_drop_42 ej2 rfl (ltb rfl) bj2 (ltb rfl) rfl ?_
    obtain ⟨j3, ej3, bj3, H⟩ := H
    refine g_iast (j := j3) (pc := 43) O dX8_drop_43 ej3 rfl (ltb rfl) (leb rfl) bj3 (ltb rfl) ?_
    refine g_aloadn (pc := 44) O rfl dX8_drop_44 ?_
    refine g_getS (pc := 45) O cls8 fl_X8_16 dX8_drop_45 rfl (ltb rfl) (ltb rfl) rfl rfl ?_
    refine g_iloadn (pc := 48) O rfl dX8_drop_48 ?_
    refine g_aloadn (pc := 49) O rfl dX8_drop_49 ?_
    refine g_getS (pc := 50) O cls8 fl_X8_16 dX8_drop_50 rfl (ltb rfl) (ltb rfl) rfl rfl ?_
    refine g_iloadn (pc := 53) O rfl dX8_drop_53 ?_
    refine g_iconst (v := (I 1)) (pc := 54) O rfl dX8_drop_54 ?_
    refine g_iadd (pc := 55) O dX8_drop_55 ?_
    obtain ⟨j4, ej4, bj4, H⟩ := H
    refine g_iald (j := j4) (pc := 56) O dX8_drop_56 ej4 rfl (ltb rfl) bj4 (ltb rfl) rfl ?_
    obtain ⟨j5, ej5, bj5, H⟩ := H
    refine g_iast (j := j5) (pc := 57) O dX8_drop_57 ej5 rfl (ltb rfl) (leb rfl) bj5 (ltb rfl) ?_
    refine g_aloadn (pc := 58) O rfl dX8_drop_58 ?_
    refine g_getS (pc := 59) O cls8 fl_X8_19 dX8_drop_59 rfl (ltb rfl) (ltb rfl) rfl rfl ?_
    refine g_iloadn (pc := 62) O rfl dX8_drop_62 ?_
    refine g_aloadn (pc := 63) O rfl dX8_drop_63 ?_
    refine g_getS (pc := 64) O cls8 fl_X8_19 dX8_drop_64 rfl (ltb rfl) (ltb rfl) rfl rfl ?_
    refine g_iloadn (pc := 67) O rfl dX8_drop_67 ?_
    refine g_iconst (v := (I 1)) (pc := 68) O rfl dX8_drop_68 ?_
    refine g_iadd (pc := 69) O dX8_drop_69 ?_
    obtain ⟨j6, ej6, bj6, H⟩ := H
    refine g_iald (j := j6) (pc := 70) O dX8_drop_70 ej6 rfl (ltb rfl) bj6 (ltb rfl) rfl ?_
    obtain ⟨j7, ej7, bj7, H⟩ := H
    refine g_iast (j := j7) (pc := 71) O dX8_drop_71 ej7 rfl (ltb rfl) (leb rfl) bj7 (ltb rfl) ?_
    refine g_iconst (v := (I 0)) (pc := 72) O rfl dX8_drop_72 ?_
    refine g_istoren (lv' := [(0, .ref 82), (2, .int x2), (3, .int (I 0))]) (pc := 73) O dX8_drop_73 rfl (ltb rfl) rfl ?_
    exact H
set_option maxRecDepth 20000 in
set_option maxHeartbeats 2000000 in
theorem bX8_drop_74 {g : mg} {l : Launch} {X : XT} {Q : Int32 → AH → Prop} (O : Ok (FF g l X) RX8 cX8_drop 4 mX8_drop.2.2.2.2 (some .int)) {x2 : Int32} {x3 : Int32} {h : AH} (H : (((I 10) ≤ x3) → (GI g l X Q h 22 [(0, .ref 82), (2, .int (x2 + I 1))] [])) ∧ ((¬ ((I 10) ≤ x3)) → (∃ j2 : Nat, (((I 10) * (x2 + (I 1))) + x3) = I (j2 : Int) ∧ j2 < 40 ∧ (∃ j3 : Nat, (((I 10) * x2) + x3) = I (j3 : Int) ∧ j3 < 40 ∧ (∃ j4 : Nat, (((I 10) * (x2 + (I 1))) + x3) = I (j4 : Int) ∧ j4 < 40 ∧ (∃ j5 : Nat, (((I 10) * x2) + x3) = I (j5 : Int) ∧ j5 < 40 ∧ (GI g l X Q (sI (sI h 87 j3 (h.1 87 j2)) 88 j5 (h.1 88 j4)) 74 [(0, .ref 82), (2, .int x2), (3, .int (x3 + I 1))] []))))))) : GI g l X Q h 74 [(0, .ref 82), (2, .int x2), (3, .int x3)] [] := by
  refine g_iloadn (pc := 74) O rfl dX8_drop_74 ?_
  refine g_bipush (v := (I 10)) (pc := 75) O (by decide) dX8_drop_75 ?_
  refine g_icmp_ge (tgt := 134) (pc := 77) O dX8_drop_77 rfl (fun q1 => ?_) (fun q1 => ?_)
  · replace H := H.1 q1
    refine g_iinc (lv' := [(0, .ref 82), (2, .int (x2 + I 1)), (3, .int x3)]) (pc := 134) O dX8_drop_134 rfl rfl (ltb rfl) rfl ?_
    refine g_goto (tgt := 22) (pc := 137) O dX8_drop_137 rfl ?_
    refine g_sub [0, 1] rfl ?_
    exact H
  · replace H := H.2 q1
    refine g_aloadn (pc := 80) O rfl dX8_drop_80 ?_
    refine g_getS (pc := 81) O cls8 fl_X8_22 dX8_drop_81 rfl (ltb rfl) (ltb rfl) rfl rfl ?_
    refine g_bipush (v := (I 10)) (pc := 84) O (by decide) dX8_drop_84 ?_
    refine g_iloadn (pc := 86) O rfl dX8_drop_86 ?_
    refine g_imul (pc := 87) O dX8_drop_87 ?_
    refine g_iloadn (pc := 88) O rfl dX8_drop_88 ?_
    refine g_iadd (pc := 89) O dX8_drop_89 ?_
    refine g_aloadn (pc := 90) O rfl dX8_drop_90 ?_
    refine g_getS (pc := 91) O cls8 fl_X8_22 dX8_drop_91 rfl (ltb rfl) (ltb rfl) rfl rfl ?_
    refine g_bipush (v := (I 10)) (pc := 94) O (by decide) dX8_drop_94 ?_
    refine g_iloadn (pc := 96) O rfl dX8_drop_96 ?_
    refine g_iconst (v := (I 1)) (pc := 97) O rfl dX8_drop_97 ?_
    refine g_iadd (pc := 98) O dX8_drop_98 ?_
    refine g_imul (pc := 99) O dX8_drop_99 ?_
    refine g_iloadn (pc := 100) O rfl dX8_drop_100 ?_
    refine g_iadd (pc := 101) O dX8_drop_101 ?_
    obtain ⟨j2, ej2, bj2, H⟩ := H
    refine g_iald (j := j2) (pc := 102) O dX8_drop_102 ej2 rfl (ltb rfl) bj2 (ltb rfl) rfl ?_
    obtain ⟨j3, ej3, bj3, H⟩ := H
    refine g_iast (j := j3) (pc := 103) O dX8_drop_103 ej3 rfl (ltb rfl) (leb rfl) bj3 (ltb rfl) ?_
    refine g_aloadn (pc := 104) O rfl dX8_drop_104 ?_
    refine g_getS (pc := 105) O cls8 fl_X8_25 dX8_drop_105 rfl (ltb rfl) (ltb rfl) rfl rfl ?_
    refine g_bipush (v := (I 10)) (pc := 108) O (by decide) dX8_drop_108 ?_
    refine g_iloadn (pc := 110) O rfl dX8_drop_110 ?_
    refine g_imul (pc := 111) O dX8_drop_111 ?_
    refine g_iloadn (pc := 112) O rfl dX8_drop_112 ?_
    refine g_iadd (pc := 113) O dX8_drop_113 ?_
    refine g_aloadn (pc := 114) O rfl dX8_drop_114 ?_
    refine g_getS (pc := 115) O cls8 fl_X8_25 dX8_drop_115 rfl (ltb rfl) (ltb rfl) rfl rfl ?_
    refine g_bipush (v := (I 10)) (pc := 118) O (by decide) dX8_drop_118 ?_
    refine g_iloadn (pc := 120) O rfl dX8_drop_120 ?_
    refine g_iconst (v := (I 1)) (pc := 121) O rfl dX8_drop_121 ?_
    refine g_iadd (pc := 122) O dX8_drop_122 ?_
    refine g_imul (pc := 123) O dX8_drop_123 ?_
    refine g_iloadn (pc := 124) O rfl dX8_drop_124 ?_
    refine g_iadd (pc := 125) O dX8_drop_125 ?_
    obtain ⟨j4, ej4, bj4, H⟩ := H
    refine g_iald (j := j4) (pc := 126) O dX8_drop_126 ej4 rfl (ltb rfl) bj4 (ltb rfl) rfl ?_
    obtain ⟨j5, ej5, bj5, H⟩ := H
    refine g_iast (j := j5) (pc := 127) O dX8_drop_127 ej5 rfl (ltb rfl) (leb rfl) bj5 (ltb rfl) ?_
    refine g_iinc (lv' := [(0, .ref 82), (2, .int x2), (3, .int (x3 + I 1))]) (pc := 128) O dX8_drop_128 rfl rfl (ltb rfl) rfl ?_
    refine g_goto (tgt := 74) (pc := 131) O dX8_drop_131 rfl ?_
    exact H
set_option maxRecDepth 20000 in
set_option maxHeartbeats 2000000 in
theorem sX8_drop {g : mg} {l : Launch} {Q : Int32 → AH → Prop} {x1 : Int32} {h : AH} (H : ∀ X, Ok (FF g l X) RX8 cX8_drop 4 mX8_drop.2.2.2.2 (some .int) → SpI g l mX8_isChipAt h [.ref 82, .int x1] (fun v1 hv1 => ((¬ v1 = 0) → (GI g l X Q (sI hv1 82 6 ((hv1.1 82 6) - (I 1))) 22 [(0, .ref 82), (2, .int x1)] [])) ∧ ((v1 = 0) → (Q (I (-1)) hv1)))) : SpI g l mX8_drop h [.ref 82, .int x1] Q := spI_of (by decide) (leb rfl) (fun X O => bX8_drop_0 O (H X O))
set_option maxRecDepth 20000 in
set_option maxHeartbeats 2000000 in
theorem bX8_about_0 {g : mg} {l : Launch} {X : XT} {Q : Int32 → AH → Prop} (O : Ok (FF g l X) RX8 cX8_about 3 mX8_about.2.2.2.2 (some .int)) {x1 : Int32} {x2 : Int32} {h : AH} (H : SpI g l mX8_isChipAt h [.ref 82, .int x1] (fun v1 hv1 => ((v1 = 0) → (Q (I (-1)) hv1)) ∧ ((¬ (v1 = 0)) → (SpI g l mX8_in hv1 [.int x2, .int (I 0), .int (I 2)] (fun v3 hv3 => ((¬ v3 = 0) → (((¬ x2 = 0) → (((¬ x2 = (I 1)) → (∃ j7 : Nat, x1 = I (j7 : Int) ∧ j7 < 4 ∧ (Q (hv3.1 86 j7) hv3))) ∧ ((x2 = (I 1)) → (∃ j8 : Nat, x1 = I (j8 : Int) ∧ j8 < 4 ∧ (Q (hv3.1 85 j8) hv3))))) ∧ ((x2 = 0) → (∃ j9 : Nat, x1 = I (j9 : Int) ∧ j9 < 4 ∧ (Q (hv3.1 84 j9) hv3))))) ∧ ((v3 = 0) → (Q (I (-1)) hv3))))))) : GI g l X Q h 0 [(0, .ref 82), (1, .int x1), (2, .int x2)] [] := by
  refine g_aloadn (pc := 0) O rfl dX8_about_0 ?_
  refine g_iloadn (pc := 1) O rfl dX8_about_1 ?_
  refine g_vI [.int x1] [] (pc := 2) O mk_X8_isChipAt ml_X8_199 im_X8_isChipAt se_X8_isChipAt cls8 rfl ⟨rfl, rfl, leb rfl, leb rfl⟩ rfl (leb rfl) dX8_about_2 H rfl (fun v1 hv1 H => ?_)
  refine g_if_eq (tgt := 17) (pc := 5) O dX8_about_5 rfl (fun q2 => ?_) (fun q2 => ?_)
  · replace H := H.1 q2
    refine g_iconst (v := (I (-1))) (pc := 17) O rfl dX8_about_17 ?_
    exact g_iret (pc := 18) O dX8_about_18 H
  · replace H := H.2 q2
    refine g_iloadn (pc := 8) O rfl dX8_about_8 ?_
    refine g_iconst (v := (I 0)) (pc := 9) O rfl dX8_about_9 ?_
    refine g_iconst (v := (I 2)) (pc := 10) O rfl dX8_about_10 ?_
    refine g_sI [.int x2, .int (I 0), .int (I 2)] [] (pc := 11) O mk_X8_in ml_X8_116 sm_X8_in ⟨rfl, rfl, leb rfl, leb rfl⟩ rfl (leb rfl) dX8_about_11 H rfl (fun v3 hv3 H => ?_)
    refine g_if_ne (tgt := 19) (pc := 14) O dX8_about_14 rfl (fun q4 => ?_) (fun q4 => ?_)
    · replace H := H.1 q4
      refine g_iloadn (pc := 19) O rfl dX8_about_19 ?_
      refine g_if_ne (tgt := 32) (pc := 20) O dX8_about_20 rfl (fun q5 => ?_) (fun q5 => ?_)
      · replace H := H.1 q5
        refine g_iloadn (pc := 32) O rfl dX8_about_32 ?_
        refine g_iconst (v := (I 1)) (pc := 33) O rfl dX8_about_33 ?_
        refine g_icmp_ne (tgt := 46) (pc := 34) O dX8_about_34 rfl (fun q6 => ?_) (fun q6 => ?_)
        · replace H := H.1 q6
          refine g_aloadn (pc := 46) O rfl dX8_about_46 ?_
          refine g_getS (pc := 47) O cls8 fl_X8_19 dX8_about_47 rfl (ltb rfl) (ltb rfl) rfl rfl ?_
          refine g_iloadn (pc := 50) O rfl dX8_about_50 ?_
          obtain ⟨j7, ej7, bj7, H⟩ := H
          refine g_iald (j := j7) (pc := 51) O dX8_about_51 ej7 rfl (ltb rfl) bj7 (ltb rfl) rfl ?_
          exact g_iret (pc := 52) O dX8_about_52 H
        · replace H := H.2 q6
          refine g_aloadn (pc := 37) O rfl dX8_about_37 ?_
          refine g_getS (pc := 38) O cls8 fl_X8_16 dX8_about_38 rfl (ltb rfl) (ltb rfl) rfl rfl ?_
          refine g_iloadn (pc := 41) O rfl dX8_about_41 ?_
          obtain ⟨j8, ej8, bj8, H⟩ := H
          refine g_iald (j := j8) (pc := 42) O dX8_about_42 ej8 rfl (ltb rfl) bj8 (ltb rfl) rfl ?_
          refine g_goto (tgt := 52) (pc := 43) O dX8_about_43 rfl ?_
          exact g_iret (pc := 52) O dX8_about_52 H
      · replace H := H.2 q5
        refine g_aloadn (pc := 23) O rfl dX8_about_23 ?_
        refine g_getS (pc := 24) O cls8 fl_X8_13 dX8_about_24 rfl (ltb rfl) (ltb rfl) rfl rfl ?_
        refine g_iloadn (pc := 27) O rfl dX8_about_27 ?_
        obtain ⟨j9, ej9, bj9, H⟩ := H
        refine g_iald (j := j9) (pc := 28) O dX8_about_28 ej9 rfl (ltb rfl) bj9 (ltb rfl) rfl ?_
        refine g_goto (tgt := 52) (pc := 29) O dX8_about_29 rfl ?_
        exact g_iret (pc := 52) O dX8_about_52 H
    · replace H := H.2 q4
      refine g_iconst (v := (I (-1))) (pc := 17) O rfl dX8_about_17 ?_
      exact g_iret (pc := 18) O dX8_about_18 H
set_option maxRecDepth 20000 in
set_option maxHeartbeats 2000000 in
theorem sX8_about {g : mg} {l : Launch} {Q : Int32 → AH → Prop} {x1 : Int32} {x2 : Int32} {h : AH} (H : SpI g l mX8_isChipAt h [.ref 82, .int x1] (fun v1 hv1 => ((v1 = 0) → (Q (I (-1)) hv1)) ∧ ((¬ (v1 = 0)) → (SpI g l mX8_in hv1 [.int x2, .int (I 0), .int (I 2)] (fun v3 hv3 => ((¬ v3 = 0) → (((¬ x2 = 0) → (((¬ x2 = (I 1)) → (∃ j7 : Nat, x1 = I (j7 : Int) ∧ j7 < 4 ∧ (Q (hv3.1 86 j7) hv3))) ∧ ((x2 = (I 1)) → (∃ j8 : Nat, x1 = I (j8 : Int) ∧ j8 < 4 ∧ (Q (hv3.1 85 j8) hv3))))) ∧ ((x2 = 0) → (∃ j9 : Nat, x1 = I (j9 : Int) ∧ j9 < 4 ∧ (Q (hv3.1 84 j9) hv3))))) ∧ ((v3 = 0) → (Q (I (-1)) hv3))))))) : SpI g l mX8_about h [.ref 82, .int x1, .int x2] Q := spI_of (by decide) (leb rfl) (fun X O => bX8_about_0 O H)
set_option maxRecDepth 20000 in
set_option maxHeartbeats 2000000 in
theorem bX8_isCoat_0 {g : mg} {l : Launch} {X : XT} {Q : Int32 → AH → Prop} (O : Ok (FF g l X) RX8 cX8_isCoat 3 mX8_isCoat.2.2.2.2 (some .boolean)) {x1 : Int32} {x2 : Int32} {h : AH} (H : SpI g l mX8_isChipAt h [.ref 82, .int x1] (fun v1 hv1 => ((v1 = 0) → (Q (I 0) hv1)) ∧ ((¬ (v1 = 0)) → (∃ j3 : Nat, x1 = I (j3 : Int) ∧ j3 < 4 ∧ (SpI g l mX8_in hv1 [.int x2, .int (I 0), .int ((hv1.1 86 j3) - (I 1))] (fun v4 hv4 => ((v4 = 0) → (Q (I 0) hv4)) ∧ ((¬ (v4 = 0)) → (Q (I 1) hv4)))))))) : GI g l X Q h 0 [(0, .ref 82), (1, .int x1), (2, .int x2)] [] := by
  refine g_aloadn (pc := 0) O rfl dX8_isCoat_0 ?_
  refine g_iloadn (pc := 1) O rfl dX8_isCoat_1 ?_
  refine g_vI [.int x1] [] (pc := 2) O mk_X8_isChipAt ml_X8_199 im_X8_isChipAt se_X8_isChipAt cls8 rfl ⟨rfl, rfl, leb rfl, leb rfl⟩ rfl (leb rfl) dX8_isCoat_2 H rfl (fun v1 hv1 H => ?_)
  refine g_if_eq (tgt := 28) (pc := 5) O dX8_isCoat_5 rfl (fun q2 => ?_) (fun q2 => ?_)
  · replace H := H.1 q2
    refine g_iconst (v := (I 0)) (pc := 28) O rfl dX8_isCoat_28 ?_
    exact g_zret (pc := 29) O dX8_isCoat_29 (by decide) H
  · replace H := H.2 q2
    refine g_iloadn (pc := 8) O rfl dX8_isCoat_8 ?_
    refine g_iconst (v := (I 0)) (pc := 9) O rfl dX8_isCoat_9 ?_
    refine g_aloadn (pc := 10) O rfl dX8_isCoat_10 ?_
    refine g_getS (pc := 11) O cls8 fl_X8_19 dX8_isCoat_11 rfl (ltb rfl) (ltb rfl) rfl rfl ?_
    refine g_iloadn (pc := 14) O rfl dX8_isCoat_14 ?_
    obtain ⟨j3, ej3, bj3, H⟩ := H
    refine g_iald (j := j3) (pc := 15) O dX8_isCoat_15 ej3 rfl (ltb rfl) bj3 (ltb rfl) rfl ?_
    refine g_iconst (v := (I 1)) (pc := 16) O rfl dX8_isCoat_16 ?_
    refine g_isub (pc := 17) O dX8_isCoat_17 ?_
    refine g_sI [.int x2, .int (I 0), .int ((hv1.1 86 j3) - (I 1))] [] (pc := 18) O mk_X8_in ml_X8_116 sm_X8_in ⟨rfl, rfl, leb rfl, leb rfl⟩ rfl (leb rfl) dX8_isCoat_18 H rfl (fun v4 hv4 H => ?_)
    refine g_if_eq (tgt := 28) (pc := 21) O dX8_isCoat_21 rfl (fun q5 => ?_) (fun q5 => ?_)
    · replace H := H.1 q5
      refine g_iconst (v := (I 0)) (pc := 28) O rfl dX8_isCoat_28 ?_
      exact g_zret (pc := 29) O dX8_isCoat_29 (by decide) H
    · replace H := H.2 q5
      refine g_iconst (v := (I 1)) (pc := 24) O rfl dX8_isCoat_24 ?_
      refine g_goto (tgt := 29) (pc := 25) O dX8_isCoat_25 rfl ?_
      exact g_zret (pc := 29) O dX8_isCoat_29 (by decide) H
set_option maxRecDepth 20000 in
set_option maxHeartbeats 2000000 in
theorem sX8_isCoat {g : mg} {l : Launch} {Q : Int32 → AH → Prop} {x1 : Int32} {x2 : Int32} {h : AH} (H : SpI g l mX8_isChipAt h [.ref 82, .int x1] (fun v1 hv1 => ((v1 = 0) → (Q (I 0) hv1)) ∧ ((¬ (v1 = 0)) → (∃ j3 : Nat, x1 = I (j3 : Int) ∧ j3 < 4 ∧ (SpI g l mX8_in hv1 [.int x2, .int (I 0), .int ((hv1.1 86 j3) - (I 1))] (fun v4 hv4 => ((v4 = 0) → (Q (I 0) hv4)) ∧ ((¬ (v4 = 0)) → (Q (I 1) hv4)))))))) : SpI g l mX8_isCoat h [.ref 82, .int x1, .int x2] Q := spI_of (by decide) (leb rfl) (fun X O => bX8_isCoat_0 O H)
set_option maxRecDepth 20000 in
set_option maxHeartbeats 2000000 in
theorem bX8_coat_0 {g : mg} {l : Launch} {X : XT} {Q : Int32 → AH → Prop} (O : Ok (FF g l X) RX8 cX8_coat 4 mX8_coat.2.2.2.2 (some .int)) {x1 : Int32} {x2 : Int32} {x3 : Int32} {h : AH} (H : SpI g l mX8_isCoat h [.ref 82, .int x1, .int x2] (fun v1 hv1 => ((v1 = 0) → (Q (I (-1)) hv1)) ∧ ((¬ (v1 = 0)) → (SpI g l mX8_in hv1 [.int x3, .int (I 0), .int (I 2)] (fun v3 hv3 => ((¬ v3 = 0) → (((¬ x3 = (I 2)) → (((¬ x3 = 0) → (∃ j7 : Nat, (((I 10) * x1) + x2) = I (j7 : Int) ∧ j7 < 40 ∧ (Q (hv3.1 88 j7) hv3))) ∧ ((x3 = 0) → (∃ j8 : Nat, (((I 10) * x1) + x2) = I (j8 : Int) ∧ j8 < 40 ∧ (Q (hv3.1 87 j8) hv3))))) ∧ ((x3 = (I 2)) → (SpV g l mX8_make hv3 [.ref 82] (fun hv9 => ∃ j10 : Nat, (((I 10) * x1) + x2) = I (j10 : Int) ∧ j10 < 40 ∧ (Q (hv9.1 114 j10) hv9)))))) ∧ ((v3 = 0) → (Q (I (-1)) hv3))))))) : GI g l X Q h 0 [(0, .ref 82), (1, .int x1), (2, .int x2), (3, .int x3)] [] := by
  refine g_aloadn (pc := 0) O rfl dX8_coat_0 ?_
  refine g_iloadn (pc := 1) O rfl dX8_coat_1 ?_
  refine g_iloadn (pc := 2) O rfl dX8_coat_2 ?_
  refine g_vI [.int x1, .int x2] [] (pc := 3) O mk_X8_isCoat ml_X8_202 im_X8_isCoat se_X8_isCoat cls8 rfl ⟨rfl, rfl, leb rfl, leb rfl⟩ rfl (leb rfl) dX8_coat_3 H rfl (fun v1 hv1 H => ?_)
  refine g_if_eq (tgt := 18) (pc := 6) O dX8_coat_6 rfl (fun q2 => ?_) (fun q2 => ?_)
  · replace H := H.1 q2
    refine g_iconst (v := (I (-1))) (pc := 18) O rfl dX8_coat_18 ?_
    exact g_iret (pc := 19) O dX8_coat_19 H
  · replace H := H.2 q2
    refine g_iloadn (pc := 9) O rfl dX8_coat_9 ?_
    refine g_iconst (v := (I 0)) (pc := 10) O rfl dX8_coat_10 ?_
    refine g_iconst (v := (I 2)) (pc := 11) O rfl dX8_coat_11 ?_
    refine g_sI [.int x3, .int (I 0), .int (I 2)] [] (pc := 12) O mk_X8_in ml_X8_116 sm_X8_in ⟨rfl, rfl, leb rfl, leb rfl⟩ rfl (leb rfl) dX8_coat_12 H rfl (fun v3 hv3 H => ?_)
    refine g_if_ne (tgt := 20) (pc := 15) O dX8_coat_15 rfl (fun q4 => ?_) (fun q4 => ?_)
    · replace H := H.1 q4
      refine g_iloadn (pc := 20) O rfl dX8_coat_20 ?_
      refine g_iconst (v := (I 2)) (pc := 21) O rfl dX8_coat_21 ?_
      refine g_icmp_ne (tgt := 41) (pc := 22) O dX8_coat_22 rfl (fun q5 => ?_) (fun q5 => ?_)
      · replace H := H.1 q5
        refine g_iloadn (pc := 41) O rfl dX8_coat_41 ?_
        refine g_if_ne (tgt := 59) (pc := 42) O dX8_coat_42 rfl (fun q6 => ?_) (fun q6 => ?_)
        · replace H := H.1 q6
          refine g_aloadn (pc := 59) O rfl dX8_coat_59 ?_
          refine g_getS (pc := 60) O cls8 fl_X8_25 dX8_coat_60 rfl (ltb rfl) (ltb rfl) rfl rfl ?_
          refine g_bipush (v := (I 10)) (pc := 63) O (by decide) dX8_coat_63 ?_
          refine g_iloadn (pc := 65) O rfl dX8_coat_65 ?_
          refine g_imul (pc := 66) O dX8_coat_66 ?_
          refine g_iloadn (pc := 67) O rfl dX8_coat_67 ?_
          refine g_iadd (pc := 68) O dX8_coat_68 ?_
          obtain ⟨j7, ej7, bj7, H⟩ := H
          refine g_iald (j := j7) (pc := 69) O dX8_coat_69 ej7 rfl (ltb rfl) bj7 (ltb rfl) rfl ?_
          exact g_iret (pc := 70) O dX8_coat_70 H
        · replace H := H.2 q6
          refine g_aloadn (pc := 45) O rfl dX8_coat_45 ?_
          refine g_getS (pc := 46) O cls8 fl_X8_22 dX8_coat_46 rfl (ltb rfl) (ltb rfl) rfl rfl ?_
          refine g_bipush (v := (I 10)) (pc := 49) O (by decide) dX8_coat_49 ?_
          refine g_iloadn (pc := 51) O rfl dX8_coat_51 ?_
          refine g_imul (pc := 52) O dX8_coat_52 ?_
          refine g_iloadn (pc := 53) O rfl dX8_coat_53 ?_
          refine g_iadd (pc := 54) O dX8_coat_54 ?_
          obtain ⟨j8, ej8, bj8, H⟩ := H
          refine g_iald (j := j8) (pc := 55) O dX8_coat_55 ej8 rfl (ltb rfl) bj8 (ltb rfl) rfl ?_
          refine g_goto (tgt := 70) (pc := 56) O dX8_coat_56 rfl ?_
          exact g_iret (pc := 70) O dX8_coat_70 H
      · replace H := H.2 q5
        refine g_aloadn (pc := 25) O rfl dX8_coat_25 ?_
        refine g_vV [] [] (pc := 26) O mk_X8_make ml_X8_205 im_X8_make se_X8_make cls8 rfl ⟨rfl, rfl, leb rfl, leb rfl⟩ rfl (leb rfl) dX8_coat_26 H rfl (fun hv9 H => ?_)
        refine g_aloadn (pc := 29) O rfl dX8_coat_29 ?_
        refine g_getS (pc := 30) O cls8 fl_X8_104 dX8_coat_30 rfl (ltb rfl) (ltb rfl) rfl rfl ?_
        refine g_bipush (v := (I 10)) (pc := 33) O (by decide) dX8_coat_33 ?_
        refine g_iloadn (pc := 35) O rfl dX8_coat_35 ?_
        refine g_imul (pc := 36) O dX8_coat_36 ?_
        refine g_iloadn (pc := 37) O rfl dX8_coat_37 ?_
        refine g_iadd (pc := 38) O dX8_coat_38 ?_
        obtain ⟨j10, ej10, bj10, H⟩ := H
        refine g_iald (j := j10) (pc := 39) O dX8_coat_39 ej10 rfl (ltb rfl) bj10 (ltb rfl) rfl ?_
        exact g_iret (pc := 40) O dX8_coat_40 H
    · replace H := H.2 q4
      refine g_iconst (v := (I (-1))) (pc := 18) O rfl dX8_coat_18 ?_
      exact g_iret (pc := 19) O dX8_coat_19 H
set_option maxRecDepth 20000 in
set_option maxHeartbeats 2000000 in
theorem sX8_coat {g : mg} {l : Launch} {Q : Int32 → AH → Prop} {x1 : Int32} {x2 : Int32} {x3 : Int32} {h : AH} (H : SpI g l mX8_isCoat h [.ref 82, .int x1, .int x2] (fun v1 hv1 => ((v1 = 0) → (Q (I (-1)) hv1)) ∧ ((¬ (v1 = 0)) → (SpI g l mX8_in hv1 [.int x3, .int (I 0), .int (I 2)] (fun v3 hv3 => ((¬ v3 = 0) → (((¬ x3 = (I 2)) → (((¬ x3 = 0) → (∃ j7 : Nat, (((I 10) * x1) + x2) = I (j7 : Int) ∧ j7 < 40 ∧ (Q (hv3.1 88 j7) hv3))) ∧ ((x3 = 0) → (∃ j8 : Nat, (((I 10) * x1) + x2) = I (j8 : Int) ∧ j8 < 40 ∧ (Q (hv3.1 87 j8) hv3))))) ∧ ((x3 = (I 2)) → (SpV g l mX8_make hv3 [.ref 82] (fun hv9 => ∃ j10 : Nat, (((I 10) * x1) + x2) = I (j10 : Int) ∧ j10 < 40 ∧ (Q (hv9.1 114 j10) hv9)))))) ∧ ((v3 = 0) → (Q (I (-1)) hv3))))))) : SpI g l mX8_coat h [.ref 82, .int x1, .int x2, .int x3] Q := spI_of (by decide) (leb rfl) (fun X O => bX8_coat_0 O H)
set_option maxRecDepth 20000 in
set_option maxHeartbeats 2000000 in
theorem bX8_colour_0 {g : mg} {l : Launch} {X : XT} {Q : Int32 → AH → Prop} (O : Ok (FF g l X) RX8 cX8_colour 3 mX8_colour.2.2.2.2 (some .int)) {x1 : Int32} {x2 : Int32} {h : AH} (H : SpI g l mX8_in h [.int x1, .int (I 0), .int (I 11)] (fun v1 hv1 => ((v1 = 0) → (Q (I (-1)) hv1)) ∧ ((¬ (v1 = 0)) → (SpI g l mX8_in hv1 [.int x2, .int (I 0), .int (I 2)] (fun v3 hv3 => ((¬ v3 = 0) → (((¬ x2 = 0) → (((¬ x2 = (I 1)) → (∃ j7 : Nat, x1 = I (j7 : Int) ∧ j7 < 12 ∧ (Q (hv3.1 93 j7) hv3))) ∧ ((x2 = (I 1)) → (∃ j8 : Nat, x1 = I (j8 : Int) ∧ j8 < 12 ∧ (Q (hv3.1 92 j8) hv3))))) ∧ ((x2 = 0) → (∃ j9 : Nat, x1 = I (j9 : Int) ∧ j9 < 12 ∧ (Q (hv3.1 91 j9) hv3))))) ∧ ((v3 = 0) → (Q (I (-1)) hv3))))))) : GI g l X Q h 0 [(0, .ref 82), (1, .int x1), (2, .int x2)] [] := by
  refine g_iloadn (pc := 0) O rfl dX8_colour_0 ?_
  refine g_iconst (v := (I 0)) (pc := 1) O rfl dX8_colour_1 ?_
  refine g_bipush (v := (I 11)) (pc := 2) O (by decide) dX8_colour_2 ?_
  refine g_sI [.int x1, .int (I 0), .int (I 11)] [] (pc := 4) O mk_X8_in ml_X8_116 sm_X8_in ⟨rfl, rfl, leb rfl, leb rfl⟩ rfl (leb rfl) dX8_colour_4 H rfl (fun v1 hv1 H => ?_)
  refine g_if_eq (tgt := 19) (pc := 7) O dX8_colour_7 rfl (fun q2 => ?_) (fun q2 => ?_)
  · replace H := H.1 q2
    refine g_iconst (v := (I (-1))) (pc := 19) O rfl dX8_colour_19 ?_
    exact g_iret (pc := 20) O dX8_colour_20 H
  · replace H := H.2 q2
    refine g_iloadn (pc := 10) O rfl dX8_colour_10 ?_
    refine g_iconst (v := (I 0)) (pc := 11) O rfl dX8_colour_11 ?_
    refine g_iconst (v := (I 2)) (pc := 12) O rfl dX8_colour_12 ?_
    refine g_sI [.int x2, .int (I 0), .int (I 2)] [] (pc := 13) O mk_X8_in ml_X8_116 sm_X8_in ⟨rfl, rfl, leb rfl, leb rfl⟩ rfl (leb rfl) dX8_colour_13 H rfl (fun v3 hv3 H => ?_)
    refine g_if_ne (tgt := 21) (pc := 16) O dX8_colour_16 rfl (fun q4 => ?_) (fun q4 => ?_)
    · replace H := H.1 q4
      refine g_iloadn (pc := 21) O rfl dX8_colour_21 ?_
      refine g_if_ne (tgt := 34) (pc := 22) O dX8_colour_22 rfl (fun q5 => ?_) (fun q5 => ?_)
      · replace H := H.1 q5
        refine g_iloadn (pc := 34) O rfl dX8_colour_34 ?_
        refine g_iconst (v := (I 1)) (pc := 35) O rfl dX8_colour_35 ?_
        refine g_icmp_ne (tgt := 48) (pc := 36) O dX8_colour_36 rfl (fun q6 => ?_) (fun q6 => ?_)
        · replace H := H.1 q6
          refine g_aloadn (pc := 48) O rfl dX8_colour_48 ?_
          refine g_getS (pc := 49) O cls8 fl_X8_40 dX8_colour_49 rfl (ltb rfl) (ltb rfl) rfl rfl ?_
          refine g_iloadn (pc := 52) O rfl dX8_colour_52 ?_
          obtain ⟨j7, ej7, bj7, H⟩ := H
          refine g_iald (j := j7) (pc := 53) O dX8_colour_53 ej7 rfl (ltb rfl) bj7 (ltb rfl) rfl ?_
          exact g_iret (pc := 54) O dX8_colour_54 H
        · replace H := H.2 q6
          refine g_aloadn (pc := 39) O rfl dX8_colour_39 ?_
          refine g_getS (pc := 40) O cls8 fl_X8_37 dX8_colour_40 rfl (ltb rfl) (ltb rfl) rfl rfl ?_
          refine g_iloadn (pc := 43) O rfl dX8_colour_43 ?_
          obtain ⟨j8, ej8, bj8, H⟩ := H
          refine g_iald (j := j8) (pc := 44) O dX8_colour_44 ej8 rfl (ltb rfl) bj8 (ltb rfl) rfl ?_
          refine g_goto (tgt := 54) (pc := 45) O dX8_colour_45 rfl ?_
          exact g_iret (pc := 54) O dX8_colour_54 H
      · replace H := H.2 q5
        refine g_aloadn (pc := 25) O rfl dX8_colour_25 ?_
        refine g_getS (pc := 26) O cls8 fl_X8_34 dX8_colour_26 rfl (ltb rfl) (ltb rfl) rfl rfl ?_
        refine g_iloadn (pc := 29) O rfl dX8_colour_29 ?_
        obtain ⟨j9, ej9, bj9, H⟩ := H
        refine g_iald (j := j9) (pc := 30) O dX8_colour_30 ej9 rfl (ltb rfl) bj9 (ltb rfl) rfl ?_
        refine g_goto (tgt := 54) (pc := 31) O dX8_colour_31 rfl ?_
        exact g_iret (pc := 54) O dX8_colour_54 H
    · replace H := H.2 q4
      refine g_iconst (v := (I (-1))) (pc := 19) O rfl dX8_colour_19 ?_
      exact g_iret (pc := 20) O dX8_colour_20 H
set_option maxRecDepth 20000 in
set_option maxHeartbeats 2000000 in
theorem sX8_colour {g : mg} {l : Launch} {Q : Int32 → AH → Prop} {x1 : Int32} {x2 : Int32} {h : AH} (H : SpI g l mX8_in h [.int x1, .int (I 0), .int (I 11)] (fun v1 hv1 => ((v1 = 0) → (Q (I (-1)) hv1)) ∧ ((¬ (v1 = 0)) → (SpI g l mX8_in hv1 [.int x2, .int (I 0), .int (I 2)] (fun v3 hv3 => ((¬ v3 = 0) → (((¬ x2 = 0) → (((¬ x2 = (I 1)) → (∃ j7 : Nat, x1 = I (j7 : Int) ∧ j7 < 12 ∧ (Q (hv3.1 93 j7) hv3))) ∧ ((x2 = (I 1)) → (∃ j8 : Nat, x1 = I (j8 : Int) ∧ j8 < 12 ∧ (Q (hv3.1 92 j8) hv3))))) ∧ ((x2 = 0) → (∃ j9 : Nat, x1 = I (j9 : Int) ∧ j9 < 12 ∧ (Q (hv3.1 91 j9) hv3))))) ∧ ((v3 = 0) → (Q (I (-1)) hv3))))))) : SpI g l mX8_colour h [.ref 82, .int x1, .int x2] Q := spI_of (by decide) (leb rfl) (fun X O => bX8_colour_0 O H)
set_option maxRecDepth 20000 in
set_option maxHeartbeats 2000000 in
theorem bX8_tune_0 {g : mg} {l : Launch} {X : XT} {Q : Int32 → AH → Prop} (O : Ok (FF g l X) RX8 cX8_tune 5 mX8_tune.2.2.2.2 (some .int)) {x1 : Int32} {x2 : Int32} {h : AH} (H : ((¬ x1 = 0) → (((¬ x1 = (I 1)) → (((¬ x1 = (I 2)) → (((¬ x1 = (I 3)) → (((¬ x1 = (I 4)) → (GI g l X Q h 77 [(0, .ref 82), (1, .int x1), (2, .int x2)] [])) ∧ ((x1 = (I 4)) → (SpI g l mX8_in h [.int x2, .int (I 0), .int (I 9)] (fun v6 hv6 => ((v6 = 0) → (GI g l X Q hv6 77 [(0, .ref 82), (1, .int x1), (2, .int x2)] [])) ∧ ((¬ (v6 = 0)) → (((¬ (I 1) = 0) → (∃ j9 : Nat, x1 = I (j9 : Int) ∧ j9 < 5 ∧ (∃ j10 : Nat, x1 = I (j10 : Int) ∧ j10 < 5 ∧ (Q (hv6.1 101 j9) (sI (sI hv6 101 j10 x2) 82 41 (I 0)))))) ∧ (((I 1) = 0) → (Q (I (-1)) hv6))))))))) ∧ ((x1 = (I 3)) → (SpI g l mX8_in h [.int x2, .int (I 0), .int (I 20)] (fun v11 hv11 => ((¬ v11 = 0) → (∃ j13 : Nat, x1 = I (j13 : Int) ∧ j13 < 5 ∧ (∃ j14 : Nat, x1 = I (j14 : Int) ∧ j14 < 5 ∧ (Q (hv11.1 101 j13) (sI (sI hv11 101 j14 x2) 82 41 (I 0)))))) ∧ ((v11 = 0) → (Q (I (-1)) hv11))))))) ∧ ((x1 = (I 2)) → (SpI g l mX8_in h [.int x2, .int (I 0), .int (I 1)] (fun v15 hv15 => ((¬ v15 = 0) → (∃ j17 : Nat, x1 = I (j17 : Int) ∧ j17 < 5 ∧ (∃ j18 : Nat, x1 = I (j18 : Int) ∧ j18 < 5 ∧ (Q (hv15.1 101 j17) (sI (sI hv15 101 j18 x2) 82 41 (I 0)))))) ∧ ((v15 = 0) → (Q (I (-1)) hv15))))))) ∧ ((x1 = (I 1)) → (SpI g l mX8_in h [.int x2, .int (I 0), .int (I 9)] (fun v19 hv19 => ((¬ v19 = 0) → (∃ j21 : Nat, x1 = I (j21 : Int) ∧ j21 < 5 ∧ (∃ j22 : Nat, x1 = I (j22 : Int) ∧ j22 < 5 ∧ (Q (hv19.1 101 j21) (sI (sI hv19 101 j22 x2) 82 41 (I 0)))))) ∧ ((v19 = 0) → (Q (I (-1)) hv19))))))) ∧ ((x1 = 0) → (SpI g l mX8_in h [.int x2, .int (I 1), .int (I 50)] (fun v23 hv23 => ((¬ v23 = 0) → (∃ j25 : Nat, x1 = I (j25 : Int) ∧ j25 < 5 ∧ (∃ j26 : Nat, x1 = I (j26 : Int) ∧ j26 < 5 ∧ (Q (hv23.1 101 j25) (sI (sI hv23 101 j26 x2) 82 41 (I 0)))))) ∧ ((v23 = 0) → (Q (I (-1)) hv23)))))) : GI g l X Q h 0 [(0, .ref 82), (1, .int x1), (2, .int x2)] [] := by
  refine g_iloadn (pc := 0) O rfl dX8_tune_0 ?_
  refine g_if_ne (tgt := 14) (pc := 1) O dX8_tune_1 rfl (fun q1 => ?_) (fun q1 => ?_)
  · replace H := H.1 q1
    refine g_iloadn (pc := 14) O rfl dX8_tune_14 ?_
    refine g_iconst (v := (I 1)) (pc := 15) O rfl dX8_tune_15 ?_
    refine g_icmp_ne (tgt := 29) (pc := 16) O dX8_tune_16 rfl (fun q2 => ?_) (fun q2 => ?_)
    · replace H := H.1 q2
      refine g_iloadn (pc := 29) O rfl dX8_tune_29 ?_
      refine g_iconst (v := (I 2)) (pc := 30) O rfl dX8_tune_30 ?_
      refine g_icmp_ne (tgt := 43) (pc := 31) O dX8_tune_31 rfl (fun q3 => ?_) (fun q3 => ?_)
      · replace H := H.1 q3
        refine g_iloadn (pc := 43) O rfl dX8_tune_43 ?_
        refine g_iconst (v := (I 3)) (pc := 44) O rfl dX8_tune_44 ?_
        refine g_icmp_ne (tgt := 58) (pc := 45) O dX8_tune_45 rfl (fun q4 => ?_) (fun q4 => ?_)
        · replace H := H.1 q4
          refine g_iloadn (pc := 58) O rfl dX8_tune_58 ?_
          refine g_iconst (v := (I 4)) (pc := 59) O rfl dX8_tune_59 ?_
          refine g_icmp_ne (tgt := 77) (pc := 60) O dX8_tune_60 rfl (fun q5 => ?_) (fun q5 => ?_)
          · replace H := H.1 q5
            exact H
          · replace H := H.2 q5
            refine g_iloadn (pc := 63) O rfl dX8_tune_63 ?_
            refine g_iconst (v := (I 0)) (pc := 64) O rfl dX8_tune_64 ?_
            refine g_bipush (v := (I 9)) (pc := 65) O (by decide) dX8_tune_65 ?_
            refine g_sI [.int x2, .int (I 0), .int (I 9)] [] (pc := 67) O mk_X8_in ml_X8_116 sm_X8_in ⟨rfl, rfl, leb rfl, leb rfl⟩ rfl (leb rfl) dX8_tune_67 H rfl (fun v6 hv6 H => ?_)
            refine g_if_eq (tgt := 77) (pc := 70) O dX8_tune_70 rfl (fun q7 => ?_) (fun q7 => ?_)
            · replace H := H.1 q7
              exact H
            · replace H := H.2 q7
              refine g_iconst (v := (I 1)) (pc := 73) O rfl dX8_tune_73 ?_
              refine g_goto (tgt := 78) (pc := 74) O dX8_tune_74 rfl ?_
              refine g_istoren (lv' := [(0, .ref 82), (1, .int x1), (2, .int x2), (3, .int (I 1))]) (pc := 78) O dX8_tune_78 rfl (ltb rfl) rfl ?_
              refine g_iloadn (pc := 79) O rfl dX8_tune_79 ?_
              refine g_if_ne (tgt := 85) (pc := 80) O dX8_tune_80 rfl (fun q8 => ?_) (fun q8 => ?_)
              · replace H := H.1 q8
                refine g_aloadn (pc := 85) O rfl dX8_tune_85 ?_
                refine g_getS (pc := 86) O cls8 fl_X8_64 dX8_tune_86 rfl (ltb rfl) (ltb rfl) rfl rfl ?_
                refine g_iloadn (pc := 89) O rfl dX8_tune_89 ?_
                obtain ⟨j9, ej9, bj9, H⟩ := H
                refine g_iald (j := j9) (pc := 90) O dX8_tune_90 ej9 rfl (ltb rfl) bj9 (ltb rfl) rfl ?_
                refine g_istore (lv' := [(0, .ref 82), (1, .int x1), (2, .int x2), (3, .int (I 1)), (4, .int (hv6.1 101 j9))]) (pc := 91) O dX8_tune_91 (ltb rfl) rfl ?_
                refine g_aloadn (pc := 93) O rfl dX8_tune_93 ?_
                refine g_getS (pc := 94) O cls8 fl_X8_64 dX8_tune_94 rfl (ltb rfl) (ltb rfl) rfl rfl ?_
                refine g_iloadn (pc := 97) O rfl dX8_tune_97 ?_
                refine g_iloadn (pc := 98) O rfl dX8_tune_98 ?_
                obtain ⟨j10, ej10, bj10, H⟩ := H
                refine g_iast (j := j10) (pc := 99) O dX8_tune_99 ej10 rfl (ltb rfl) (leb rfl) bj10 (ltb rfl) ?_
                refine g_aloadn (pc := 100) O rfl dX8_tune_100 ?_
                refine g_iconst (v := (I 0)) (pc := 101) O rfl dX8_tune_101 ?_
                refine g_putZ (pc := 102) O cls8 fl_X8_180 dX8_tune_102 rfl (ltb rfl) (leb rfl) (ltb rfl) rfl rfl (by decide +kernel) (by decide) ?_
                refine g_iload (pc := 105) O rfl dX8_tune_105 ?_
                exact g_iret (pc := 107) O dX8_tune_107 H
              · replace H := H.2 q8
                refine g_iconst (v := (I (-1))) (pc := 83) O rfl dX8_tune_83 ?_
                exact g_iret (pc := 84) O dX8_tune_84 H
        · replace H := H.2 q4
          refine g_iloadn (pc := 48) O rfl dX8_tune_48 ?_
          refine g_iconst (v := (I 0)) (pc := 49) O rfl dX8_tune_49 ?_
          refine g_bipush (v := (I 20)) (pc := 50) O (by decide) dX8_tune_50 ?_
          refine g_sI [.int x2, .int (I 0), .int (I 20)] [] (pc := 52) O mk_X8_in ml_X8_116 sm_X8_in ⟨rfl, rfl, leb rfl, leb rfl⟩ rfl (leb rfl) dX8_tune_52 H rfl (fun v11 hv11 H => ?_)
          refine g_goto (tgt := 78) (pc := 55) O dX8_tune_55 rfl ?_
          refine g_istoren (lv' := [(0, .ref 82), (1, .int x1), (2, .int x2), (3, .int v11)]) (pc := 78) O dX8_tune_78 rfl (ltb rfl) rfl ?_
          refine g_iloadn (pc := 79) O rfl dX8_tune_79 ?_
          refine g_if_ne (tgt := 85) (pc := 80) O dX8_tune_80 rfl (fun q12 => ?_) (fun q12 => ?_)
          · replace H := H.1 q12
            refine g_aloadn (pc := 85) O rfl dX8_tune_85 ?_
            refine g_getS (pc := 86) O cls8 fl_X8_64 dX8_tune_86 rfl (ltb rfl) (ltb rfl) rfl rfl ?_
            refine g_iloadn (pc := 89) O rfl dX8_tune_89 ?_
            obtain ⟨j13, ej13, bj13, H⟩ := H
            refine g_iald (j := j13) (pc := 90) O dX8_tune_90 ej13 rfl (ltb rfl) bj13 (ltb rfl) rfl ?_
            refine g_istore (lv' := [(0, .ref 82), (1, .int x1), (2, .int x2), (3, .int v11), (4, .int (hv11.1 101 j13))]) (pc := 91) O dX8_tune_91 (ltb rfl) rfl ?_
            refine g_aloadn (pc := 93) O rfl dX8_tune_93 ?_
            refine g_getS (pc := 94) O cls8 fl_X8_64 dX8_tune_94 rfl (ltb rfl) (ltb rfl) rfl rfl ?_
            refine g_iloadn (pc := 97) O rfl dX8_tune_97 ?_
            refine g_iloadn (pc := 98) O rfl dX8_tune_98 ?_
            obtain ⟨j14, ej14, bj14, H⟩ := H
            refine g_iast (j := j14) (pc := 99) O dX8_tune_99 ej14 rfl (ltb rfl) (leb rfl) bj14 (ltb rfl) ?_
            refine g_aloadn (pc := 100) O rfl dX8_tune_100 ?_
            refine g_iconst (v := (I 0)) (pc := 101) O rfl dX8_tune_101 ?_
            refine g_putZ (pc := 102) O cls8 fl_X8_180 dX8_tune_102 rfl (ltb rfl) (leb rfl) (ltb rfl) rfl rfl (by decide +kernel) (by decide) ?_
            refine g_iload (pc := 105) O rfl dX8_tune_105 ?_
            exact g_iret (pc := 107) O dX8_tune_107 H
          · replace H := H.2 q12
            refine g_iconst (v := (I (-1))) (pc := 83) O rfl dX8_tune_83 ?_
            exact g_iret (pc := 84) O dX8_tune_84 H
      · replace H := H.2 q3
        refine g_iloadn (pc := 34) O rfl dX8_tune_34 ?_
        refine g_iconst (v := (I 0)) (pc := 35) O rfl dX8_tune_35 ?_
        refine g_iconst (v := (I 1)) (pc := 36) O rfl dX8_tune_36 ?_
        refine g_sI [.int x2, .int (I 0), .int (I 1)] [] (pc := 37) O mk_X8_in ml_X8_116 sm_X8_in ⟨rfl, rfl, leb rfl, leb rfl⟩ rfl (leb rfl) dX8_tune_37 H rfl (fun v15 hv15 H => ?_)
        refine g_goto (tgt := 78) (pc := 40) O dX8_tune_40 rfl ?_
        refine g_istoren (lv' := [(0, .ref 82), (1, .int x1), (2, .int x2), (3, .int v15)]) (pc := 78) O dX8_tune_78 rfl (ltb rfl) rfl ?_
        refine g_iloadn (pc := 79) O rfl dX8_tune_79 ?_
        refine g_if_ne (tgt := 85) (pc := 80) O dX8_tune_80 rfl (fun q16 => ?_) (fun q16 => ?_)
        · replace H := H.1 q16
          refine g_aloadn (pc := 85) O rfl dX8_tune_85 ?_
          refine g_getS (pc := 86) O cls8 fl_X8_64 dX8_tune_86 rfl (ltb rfl) (ltb rfl) rfl rfl ?_
          refine g_iloadn (pc := 89) O rfl dX8_tune_89 ?_
          obtain ⟨j17, ej17, bj17, H⟩ := H
          refine g_iald (j := j17) (pc := 90) O dX8_tune_90 ej17 rfl (ltb rfl) bj17 (ltb rfl) rfl ?_
          refine g_istore (lv' := [(0, .ref 82), (1, .int x1), (2, .int x2), (3, .int v15), (4, .int (hv15.1 101 j17))]) (pc := 91) O dX8_tune_91 (ltb rfl) rfl ?_
          refine g_aloadn (pc := 93) O rfl dX8_tune_93 ?_
          refine g_getS (pc := 94) O cls8 fl_X8_64 dX8_tune_94 rfl (ltb rfl) (ltb rfl) rfl rfl ?_
          refine g_iloadn (pc := 97) O rfl dX8_tune_97 ?_
          refine g_iloadn (pc := 98) O rfl dX8_tune_98 ?_
          obtain ⟨j18, ej18, bj18, H⟩ := H
          refine g_iast (j := j18) (pc := 99) O dX8_tune_99 ej18 rfl (ltb rfl) (leb rfl) bj18 (ltb rfl) ?_
          refine g_aloadn (pc := 100) O rfl dX8_tune_100 ?_
          refine g_iconst (v := (I 0)) (pc := 101) O rfl dX8_tune_101 ?_
          refine g_putZ (pc := 102) O cls8 fl_X8_180 dX8_tune_102 rfl (ltb rfl) (leb rfl) (ltb rfl) rfl rfl (by decide +kernel) (by decide) ?_
          refine g_iload (pc := 105) O rfl dX8_tune_105 ?_
          exact g_iret (pc := 107) O dX8_tune_107 H
        · replace H := H.2 q16
          refine g_iconst (v := (I (-1))) (pc := 83) O rfl dX8_tune_83 ?_
          exact g_iret (pc := 84) O dX8_tune_84 H
    · replace H := H.2 q2
      refine g_iloadn (pc := 19) O rfl dX8_tune_19 ?_
      refine g_iconst (v := (I 0)) (pc := 20) O rfl dX8_tune_20 ?_
      refine g_bipush (v := (I 9)) (pc := 21) O (by decide) dX8_tune_21 ?_
      refine g_sI [.int x2, .int (I 0), .int (I 9)] [] (pc := 23) O mk_X8_in ml_X8_116 sm_X8_in ⟨rfl, rfl, leb rfl, leb rfl⟩ rfl (leb rfl) dX8_tune_23 H rfl (fun v19 hv19 H => ?_)
      refine g_goto (tgt := 78) (pc := 26) O dX8_tune_26 rfl ?_
      refine g_istoren (lv' := [(0, .ref 82), (1, .int x1), (2, .int x2), (3, .int v19)]) (pc := 78) O dX8_tune_78 rfl (ltb rfl) rfl ?_
      refine g_iloadn (pc := 79) O rfl dX8_tune_79 ?_
      refine g_if_ne (tgt := 85) (pc := 80) O dX8_tune_80 rfl (fun q20 => ?_) (fun q20 => ?_)
      · replace H := H.1 q20
        refine g_aloadn (pc := 85) O rfl dX8_tune_85 ?_
        refine g_getS (pc := 86) O cls8 fl_X8_64 dX8_tune_86 rfl (ltb rfl) (ltb rfl) rfl rfl ?_
        refine g_iloadn (pc := 89) O rfl dX8_tune_89 ?_
        obtain ⟨j21, ej21, bj21, H⟩ := H
        refine g_iald (j := j21) (pc := 90) O dX8_tune_90 ej21 rfl (ltb rfl) bj21 (ltb rfl) rfl ?_
        refine g_istore (lv' := [(0, .ref 82), (1, .int x1), (2, .int x2), (3, .int v19), (4, .int (hv19.1 101 j21))]) (pc := 91) O dX8_tune_91 (ltb rfl) rfl ?_
        refine g_aloadn (pc := 93) O rfl dX8_tune_93 ?_
        refine g_getS (pc := 94) O cls8 fl_X8_64 dX8_tune_94 rfl (ltb rfl) (ltb rfl) rfl rfl ?_
        refine g_iloadn (pc := 97) O rfl dX8_tune_97 ?_
        refine g_iloadn (pc := 98) O rfl dX8_tune_98 ?_
        obtain ⟨j22, ej22, bj22, H⟩ := H
        refine g_iast (j := j22) (pc := 99) O dX8_tune_99 ej22 rfl (ltb rfl) (leb rfl) bj22 (ltb rfl) ?_
        refine g_aloadn (pc := 100) O rfl dX8_tune_100 ?_
        refine g_iconst (v := (I 0)) (pc := 101) O rfl dX8_tune_101 ?_
        refine g_putZ (pc := 102) O cls8 fl_X8_180 dX8_tune_102 rfl (ltb rfl) (leb rfl) (ltb rfl) rfl rfl (by decide +kernel) (by decide) ?_
        refine g_iload (pc := 105) O rfl dX8_tune_105 ?_
        exact g_iret (pc := 107) O dX8_tune_107 H
      · replace H := H.2 q20
        refine g_iconst (v := (I (-1))) (pc := 83) O rfl dX8_tune_83 ?_
        exact g_iret (pc := 84) O dX8_tune_84 H
  · replace H := H.2 q1
    refine g_iloadn (pc := 4) O rfl dX8_tune_4 ?_
    refine g_iconst (v := (I 1)) (pc := 5) O rfl dX8_tune_5 ?_
    refine g_bipush (v := (I 50)) (pc := 6) O (by decide) dX8_tune_6 ?_
    refine g_sI [.int x2, .int (I 1), .int (I 50)] [] (pc := 8) O mk_X8_in ml_X8_116 sm_X8_in ⟨rfl, rfl, leb rfl, leb rfl⟩ rfl (leb rfl) dX8_tune_8 H rfl (fun v23 hv23 H => ?_)
    refine g_goto (tgt := 78) (pc := 11) O dX8_tune_11 rfl ?_
    refine g_istoren (lv' := [(0, .ref 82), (1, .int x1), (2, .int x2), (3, .int v23)]) (pc := 78) O dX8_tune_78 rfl (ltb rfl) rfl ?_
    refine g_iloadn (pc := 79) O rfl dX8_tune_79 ?_
    refine g_if_ne (tgt := 85) (pc := 80) O dX8_tune_80 rfl (fun q24 => ?_) (fun q24 => ?_)
    · replace H := H.1 q24
      refine g_aloadn (pc := 85) O rfl dX8_tune_85 ?_
      refine g_getS (pc := 86) O cls8 fl_X8_64 dX8_tune_86 rfl (ltb rfl) (ltb rfl) rfl rfl ?_
      refine g_iloadn (pc := 89) O rfl dX8_tune_89 ?_
      obtain ⟨j25, ej25, bj25, H⟩ := H
      refine g_iald (j := j25) (pc := 90) O dX8_tune_90 ej25 rfl (ltb rfl) bj25 (ltb rfl) rfl ?_
      refine g_istore (lv' := [(0, .ref 82), (1, .int x1), (2, .int x2), (3, .int v23), (4, .int (hv23.1 101 j25))]) (pc := 91) O dX8_tune_91 (ltb rfl) rfl ?_
      refine g_aloadn (pc := 93) O rfl dX8_tune_93 ?_
      refine g_getS (pc := 94) O cls8 fl_X8_64 dX8_tune_94 rfl (ltb rfl) (ltb rfl) rfl rfl ?_
      refine g_iloadn (pc := 97) O rfl dX8_tune_97 ?_
      refine g_iloadn (pc := 98) O rfl dX8_tune_98 ?_
      obtain ⟨j26, ej26, bj26, H⟩ := H
      refine g_iast (j := j26) (pc := 99) O dX8_tune_99 ej26 rfl (ltb rfl) (leb rfl) bj26 (ltb rfl) ?_
      refine g_aloadn (pc := 100) O rfl dX8_tune_100 ?_
      refine g_iconst (v := (I 0)) (pc := 101) O rfl dX8_tune_101 ?_
      refine g_putZ (pc := 102) O cls8 fl_X8_180 dX8_tune_102 rfl (ltb rfl) (leb rfl) (ltb rfl) rfl rfl (by decide +kernel) (by decide) ?_
      refine g_iload (pc := 105) O rfl dX8_tune_105 ?_
      exact g_iret (pc := 107) O dX8_tune_107 H
    · replace H := H.2 q24
      refine g_iconst (v := (I (-1))) (pc := 83) O rfl dX8_tune_83 ?_
      exact g_iret (pc := 84) O dX8_tune_84 H
set_option maxRecDepth 20000 in
set_option maxHeartbeats 2000000 in
theorem bX8_tune_77 {g : mg} {l : Launch} {X : XT} {Q : Int32 → AH → Prop} (O : Ok (FF g l X) RX8 cX8_tune 5 mX8_tune.2.2.2.2 (some .int)) {x1 : Int32} {x2 : Int32} {h : AH} (H : ((¬ (I 0) = 0) → (∃ j2 : Nat, x1 = I (j2 : Int) ∧ j2 < 5 ∧ (∃ j3 : Nat, x1 = I (j3 : Int) ∧ j3 < 5 ∧ (Q (h.1 101 j2) (sI (sI h 101 j3 x2) 82 41 (I 0)))))) ∧ (((I 0) = 0) → (Q (I (-1)) h))) : GI g l X Q h 77 [(0, .ref 82), (1, .int x1), (2, .int x2)] [] := by
  refine g_iconst (v := (I 0)) (pc := 77) O rfl dX8_tune_77 ?_
  refine g_istoren (lv' := [(0, .ref 82), (1, .int x1), (2, .int x2), (3, .int (I 0))]) (pc := 78) O dX8_tune_78 rfl (ltb rfl) rfl ?_
  refine g_iloadn (pc := 79) O rfl dX8_tune_79 ?_
  refine g_if_ne (tgt := 85) (pc := 80) O dX8_tune_80 rfl (fun q1 => ?_) (fun q1 => ?_)
  · replace H := H.1 q1
    refine g_aloadn (pc := 85) O rfl dX8_tune_85 ?_
    refine g_getS (pc := 86) O cls8 fl_X8_64 dX8_tune_86 rfl (ltb rfl) (ltb rfl) rfl rfl ?_
    refine g_iloadn (pc := 89) O rfl dX8_tune_89 ?_
    obtain ⟨j2, ej2, bj2, H⟩ := H
    refine g_iald (j := j2) (pc := 90) O dX8_tune_90 ej2 rfl (ltb rfl) bj2 (ltb rfl) rfl ?_
    refine g_istore (lv' := [(0, .ref 82), (1, .int x1), (2, .int x2), (3, .int (I 0)), (4, .int (h.1 101 j2))]) (pc := 91) O dX8_tune_91 (ltb rfl) rfl ?_
    refine g_aloadn (pc := 93) O rfl dX8_tune_93 ?_
    refine g_getS (pc := 94) O cls8 fl_X8_64 dX8_tune_94 rfl (ltb rfl) (ltb rfl) rfl rfl ?_
    refine g_iloadn (pc := 97) O rfl dX8_tune_97 ?_
    refine g_iloadn (pc := 98) O rfl dX8_tune_98 ?_
    obtain ⟨j3, ej3, bj3, H⟩ := H
    refine g_iast (j := j3) (pc := 99) O dX8_tune_99 ej3 rfl (ltb rfl) (leb rfl) bj3 (ltb rfl) ?_
    refine g_aloadn (pc := 100) O rfl dX8_tune_100 ?_
    refine g_iconst (v := (I 0)) (pc := 101) O rfl dX8_tune_101 ?_
    refine g_putZ (pc := 102) O cls8 fl_X8_180 dX8_tune_102 rfl (ltb rfl) (leb rfl) (ltb rfl) rfl rfl (by decide +kernel) (by decide) ?_
    refine g_iload (pc := 105) O rfl dX8_tune_105 ?_
    exact g_iret (pc := 107) O dX8_tune_107 H
  · replace H := H.2 q1
    refine g_iconst (v := (I (-1))) (pc := 83) O rfl dX8_tune_83 ?_
    exact g_iret (pc := 84) O dX8_tune_84 H
set_option maxRecDepth 20000 in
set_option maxHeartbeats 2000000 in
theorem sX8_tune {g : mg} {l : Launch} {Q : Int32 → AH → Prop} {x1 : Int32} {x2 : Int32} {h : AH} (H : ∀ X, Ok (FF g l X) RX8 cX8_tune 5 mX8_tune.2.2.2.2 (some .int) → ((¬ x1 = 0) → (((¬ x1 = (I 1)) → (((¬ x1 = (I 2)) → (((¬ x1 = (I 3)) → (((¬ x1 = (I 4)) → (GI g l X Q h 77 [(0, .ref 82), (1, .int x1), (2, .int x2)] [])) ∧ ((x1 = (I 4)) → (SpI g l mX8_in h [.int x2, .int (I 0), .int (I 9)] (fun v6 hv6 => ((v6 = 0) → (GI g l X Q hv6 77 [(0, .ref 82), (1, .int x1), (2, .int x2)] [])) ∧ ((¬ (v6 = 0)) → (((¬ (I 1) = 0) → (∃ j9 : Nat, x1 = I (j9 : Int) ∧ j9 < 5 ∧ (∃ j10 : Nat, x1 = I (j10 : Int) ∧ j10 < 5 ∧ (Q (hv6.1 101 j9) (sI (sI hv6 101 j10 x2) 82 41 (I 0)))))) ∧ (((I 1) = 0) → (Q (I (-1)) hv6))))))))) ∧ ((x1 = (I 3)) → (SpI g l mX8_in h [.int x2, .int (I 0), .int (I 20)] (fun v11 hv11 => ((¬ v11 = 0) → (∃ j13 : Nat, x1 = I (j13 : Int) ∧ j13 < 5 ∧ (∃ j14 : Nat, x1 = I (j14 : Int) ∧ j14 < 5 ∧ (Q (hv11.1 101 j13) (sI (sI hv11 101 j14 x2) 82 41 (I 0)))))) ∧ ((v11 = 0) → (Q (I (-1)) hv11))))))) ∧ ((x1 = (I 2)) → (SpI g l mX8_in h [.int x2, .int (I 0), .int (I 1)] (fun v15 hv15 => ((¬ v15 = 0) → (∃ j17 : Nat, x1 = I (j17 : Int) ∧ j17 < 5 ∧ (∃ j18 : Nat, x1 = I (j18 : Int) ∧ j18 < 5 ∧ (Q (hv15.1 101 j17) (sI (sI hv15 101 j18 x2) 82 41 (I 0)))))) ∧ ((v15 = 0) → (Q (I (-1)) hv15))))))) ∧ ((x1 = (I 1)) → (SpI g l mX8_in h [.int x2, .int (I 0), .int (I 9)] (fun v19 hv19 => ((¬ v19 = 0) → (∃ j21 : Nat, x1 = I (j21 : Int) ∧ j21 < 5 ∧ (∃ j22 : Nat, x1 = I (j22 : Int) ∧ j22 < 5 ∧ (Q (hv19.1 101 j21) (sI (sI hv19 101 j22 x2) 82 41 (I 0)))))) ∧ ((v19 = 0) → (Q (I (-1)) hv19))))))) ∧ ((x1 = 0) → (SpI g l mX8_in h [.int x2, .int (I 1), .int (I 50)] (fun v23 hv23 => ((¬ v23 = 0) → (∃ j25 : Nat, x1 = I (j25 : Int) ∧ j25 < 5 ∧ (∃ j26 : Nat, x1 = I (j26 : Int) ∧ j26 < 5 ∧ (Q (hv23.1 101 j25) (sI (sI hv23 101 j26 x2) 82 41 (I 0)))))) ∧ ((v23 = 0) → (Q (I (-1)) hv23)))))) : SpI g l mX8_tune h [.ref 82, .int x1, .int x2] Q := spI_of (by decide) (leb rfl) (fun X O => bX8_tune_0 O (H X O))
set_option maxRecDepth 20000 in
set_option maxHeartbeats 2000000 in
theorem bX8_isSame_0 {g : mg} {l : Launch} {X : XT} {Q : Int32 → AH → Prop} (O : Ok (FF g l X) RX8 cX8_isSame 3 mX8_isSame.2.2.2.2 (some .boolean)) {x1 : Int32} {x2 : Int32} {h : AH} (H : ((x1 = x2) → (Q (I 1) h)) ∧ ((¬ (x1 = x2)) → (((¬ (h.1 101 2) = 0) → (Q (I 0) h)) ∧ (((h.1 101 2) = 0) → (∃ j4 : Nat, x1 = I (j4 : Int) ∧ j4 < 12 ∧ (((¬ (((h.1 93 j4) >>> (x2 &&& 31)) &&& (I 1)) = (I 1)) → (Q (I 0) h)) ∧ (((((h.1 93 j4) >>> (x2 &&& 31)) &&& (I 1)) = (I 1)) → (Q (I 1) h)))))))) : GI g l X Q h 0 [(0, .ref 82), (1, .int x1), (2, .int x2)] [] := by
  refine g_iloadn (pc := 0) O rfl dX8_isSame_0 ?_
  refine g_iloadn (pc := 1) O rfl dX8_isSame_1 ?_
  refine g_icmp_eq (tgt := 28) (pc := 2) O dX8_isSame_2 rfl (fun q1 => ?_) (fun q1 => ?_)
  · replace H := H.1 q1
    refine g_iconst (v := (I 1)) (pc := 28) O rfl dX8_isSame_28 ?_
    refine g_goto (tgt := 33) (pc := 29) O dX8_isSame_29 rfl ?_
    exact g_zret (pc := 33) O dX8_isSame_33 (by decide) H
  · replace H := H.2 q1
    refine g_aloadn (pc := 5) O rfl dX8_isSame_5 ?_
    refine g_getS (pc := 6) O cls8 fl_X8_64 dX8_isSame_6 rfl (ltb rfl) (ltb rfl) rfl rfl ?_
    refine g_iconst (v := (I 2)) (pc := 9) O rfl dX8_isSame_9 ?_
    refine g_iald (j := 2) (pc := 10) O dX8_isSame_10 rfl rfl (ltb rfl) (ltb rfl) (ltb rfl) rfl ?_
    refine g_if_ne (tgt := 32) (pc := 11) O dX8_isSame_11 rfl (fun q3 => ?_) (fun q3 => ?_)
    · replace H := H.1 q3
      refine g_iconst (v := (I 0)) (pc := 32) O rfl dX8_isSame_32 ?_
      exact g_zret (pc := 33) O dX8_isSame_33 (by decide) H
    · replace H := H.2 q3
      refine g_aloadn (pc := 14) O rfl dX8_isSame_14 ?_
      refine g_getS (pc := 15) O cls8 fl_X8_40 dX8_isSame_15 rfl (ltb rfl) (ltb rfl) rfl rfl ?_
      refine g_iloadn (pc := 18) O rfl dX8_isSame_18 ?_
      obtain ⟨j4, ej4, bj4, H⟩ := H
      refine g_iald (j := j4) (pc := 19) O dX8_isSame_19 ej4 rfl (ltb rfl) bj4 (ltb rfl) rfl ?_
      refine g_iloadn (pc := 20) O rfl dX8_isSame_20 ?_
      refine g_ishr (pc := 21) O dX8_isSame_21 ?_
      refine g_iconst (v := (I 1)) (pc := 22) O rfl dX8_isSame_22 ?_
      refine g_iand (pc := 23) O dX8_isSame_23 ?_
      refine g_iconst (v := (I 1)) (pc := 24) O rfl dX8_isSame_24 ?_
      refine g_icmp_ne (tgt := 32) (pc := 25) O dX8_isSame_25 rfl (fun q5 => ?_) (fun q5 => ?_)
      · replace H := H.1 q5
        refine g_iconst (v := (I 0)) (pc := 32) O rfl dX8_isSame_32 ?_
        exact g_zret (pc := 33) O dX8_isSame_33 (by decide) H
      · replace H := H.2 q5
        refine g_iconst (v := (I 1)) (pc := 28) O rfl dX8_isSame_28 ?_
        refine g_goto (tgt := 33) (pc := 29) O dX8_isSame_29 rfl ?_
        exact g_zret (pc := 33) O dX8_isSame_33 (by decide) H
set_option maxRecDepth 20000 in
set_option maxHeartbeats 2000000 in
theorem sX8_isSame {g : mg} {l : Launch} {Q : Int32 → AH → Prop} {x1 : Int32} {x2 : Int32} {h : AH} (H : ((x1 = x2) → (Q (I 1) h)) ∧ ((¬ (x1 = x2)) → (((¬ (h.1 101 2) = 0) → (Q (I 0) h)) ∧ (((h.1 101 2) = 0) → (∃ j4 : Nat, x1 = I (j4 : Int) ∧ j4 < 12 ∧ (((¬ (((h.1 93 j4) >>> (x2 &&& 31)) &&& (I 1)) = (I 1)) → (Q (I 0) h)) ∧ (((((h.1 93 j4) >>> (x2 &&& 31)) &&& (I 1)) = (I 1)) → (Q (I 1) h)))))))) : SpI g l mX8_isSame h [.ref 82, .int x1, .int x2] Q := spI_of (by decide) (leb rfl) (fun X O => bX8_isSame_0 O H)
set_option maxRecDepth 20000 in
set_option maxHeartbeats 2000000 in
theorem bX8_costOf_0 {g : mg} {l : Launch} {X : XT} {Q : Int32 → AH → Prop} (O : Ok (FF g l X) RX8 cX8_costOf 7 mX8_costOf.2.2.2.2 (some .int)) {x1 : Int32} {x2 : Int32} {x3 : Int32} {x4 : Int32} {x5 : Int32} {h : AH} (H : ∃ j1 : Nat, (((I 10) * x1) + x3) = I (j1 : Int) ∧ j1 < 40 ∧ (∃ j2 : Nat, (((I 10) * x2) + x5) = I (j2 : Int) ∧ j2 < 40 ∧ (((0 ≤ ((h.1 88 j1) - (h.1 88 j2))) → (∃ j6 : Nat, ((((I 11) * (x3 + (I 1))) + x5) + (I 1)) = I (j6 : Int) ∧ j6 < 121 ∧ (Q ((((x5 - x4) * (h.1 101 0)) + ((h.1 101 1) * ((h.1 88 j1) - (h.1 88 j2)))) + (h.1 108 j6)) h))) ∧ ((¬ (0 ≤ ((h.1 88 j1) - (h.1 88 j2)))) → (∃ j7 : Nat, ((((I 11) * (x3 + (I 1))) + x5) + (I 1)) = I (j7 : Int) ∧ j7 < 121 ∧ (Q ((((x5 - x4) * (h.1 101 0)) + ((h.1 101 1) * (-((h.1 88 j1) - (h.1 88 j2))))) + (h.1 108 j7)) h)))))) : GI g l X Q h 0 [(0, .ref 82), (1, .int x1), (2, .int x2), (3, .int x3), (4, .int x4), (5, .int x5)] [] := by
  refine g_aloadn (pc := 0) O rfl dX8_costOf_0 ?_
  refine g_getS (pc := 1) O cls8 fl_X8_25 dX8_costOf_1 rfl (ltb rfl) (ltb rfl) rfl rfl ?_
  refine g_bipush (v := (I 10)) (pc := 4) O (by decide) dX8_costOf_4 ?_
  refine g_iloadn (pc := 6) O rfl dX8_costOf_6 ?_
  refine g_imul (pc := 7) O dX8_costOf_7 ?_
  refine g_iloadn (pc := 8) O rfl dX8_costOf_8 ?_
  refine g_iadd (pc := 9) O dX8_costOf_9 ?_
  obtain ⟨j1, ej1, bj1, H⟩ := H
  refine g_iald (j := j1) (pc := 10) O dX8_costOf_10 ej1 rfl (ltb rfl) bj1 (ltb rfl) rfl ?_
  refine g_aloadn (pc := 11) O rfl dX8_costOf_11 ?_
  refine g_getS (pc := 12) O cls8 fl_X8_25 dX8_costOf_12 rfl (ltb rfl) (ltb rfl) rfl rfl ?_
  refine g_bipush (v := (I 10)) (pc := 15) O (by decide) dX8_costOf_15 ?_
  refine g_iloadn (pc := 17) O rfl dX8_costOf_17 ?_
  refine g_imul (pc := 18) O dX8_costOf_18 ?_
  refine g_iload (pc := 19) O rfl dX8_costOf_19 ?_
  refine g_iadd (pc := 21) O dX8_costOf_21 ?_
  obtain ⟨j2, ej2, bj2, H⟩ := H
  refine g_iald (j := j2) (pc := 22) O dX8_costOf_22 ej2 rfl (ltb rfl) bj2 (ltb rfl) rfl ?_
  refine g_isub (pc := 23) O dX8_costOf_23 ?_
  refine g_istore (lv' := [(0, .ref 82), (1, .int x1), (2, .int x2), (3, .int x3), (4, .int x4), (5, .int x5), (6, .int ((h.1 88 j1) - (h.1 88 j2)))]) (pc := 24) O dX8_costOf_24 (ltb rfl) rfl ?_
  refine g_iload (pc := 26) O rfl dX8_costOf_26 ?_
  refine g_iload (pc := 28) O rfl dX8_costOf_28 ?_
  refine g_isub (pc := 30) O dX8_costOf_30 ?_
  refine g_aloadn (pc := 31) O rfl dX8_costOf_31 ?_
  refine g_getS (pc := 32) O cls8 fl_X8_64 dX8_costOf_32 rfl (ltb rfl) (ltb rfl) rfl rfl ?_
  refine g_iconst (v := (I 0)) (pc := 35) O rfl dX8_costOf_35 ?_
  refine g_iald (j := 0) (pc := 36) O dX8_costOf_36 rfl rfl (ltb rfl) (ltb rfl) (ltb rfl) rfl ?_
  refine g_imul (pc := 37) O dX8_costOf_37 ?_
  refine g_aloadn (pc := 38) O rfl dX8_costOf_38 ?_
  refine g_getS (pc := 39) O cls8 fl_X8_64 dX8_costOf_39 rfl (ltb rfl) (ltb rfl) rfl rfl ?_
  refine g_iconst (v := (I 1)) (pc := 42) O rfl dX8_costOf_42 ?_
  refine g_iald (j := 1) (pc := 43) O dX8_costOf_43 rfl rfl (ltb rfl) (ltb rfl) (ltb rfl) rfl ?_
  refine g_iload (pc := 44) O rfl dX8_costOf_44 ?_
  refine g_if_ge (tgt := 55) (pc := 46) O dX8_costOf_46 rfl (fun q5 => ?_) (fun q5 => ?_)
  · replace H := H.1 q5
    refine g_iload (pc := 55) O rfl dX8_costOf_55 ?_
    refine g_imul (pc := 57) O dX8_costOf_57 ?_
    refine g_iadd (pc := 58) O dX8_costOf_58 ?_
    refine g_aloadn (pc := 59) O rfl dX8_costOf_59 ?_
    refine g_getS (pc := 60) O cls8 fl_X8_85 dX8_costOf_60 rfl (ltb rfl) (ltb rfl) rfl rfl ?_
    refine g_bipush (v := (I 11)) (pc := 63) O (by decide) dX8_costOf_63 ?_
    refine g_iloadn (pc := 65) O rfl dX8_costOf_65 ?_
    refine g_iconst (v := (I 1)) (pc := 66) O rfl dX8_costOf_66 ?_
    refine g_iadd (pc := 67) O dX8_costOf_67 ?_
    refine g_imul (pc := 68) O dX8_costOf_68 ?_
    refine g_iload (pc := 69) O rfl dX8_costOf_69 ?_
    refine g_iadd (pc := 71) O dX8_costOf_71 ?_
    refine g_iconst (v := (I 1)) (pc := 72) O rfl dX8_costOf_72 ?_
    refine g_iadd (pc := 73) O dX8_costOf_73 ?_
    obtain ⟨j6, ej6, bj6, H⟩ := H
    refine g_iald (j := j6) (pc := 74) O dX8_costOf_74 ej6 rfl (ltb rfl) bj6 (ltb rfl) rfl ?_
    refine g_iadd (pc := 75) O dX8_costOf_75 ?_
    exact g_iret (pc := 76) O dX8_costOf_76 H
  · replace H := H.2 q5
    refine g_iload (pc := 49) O rfl dX8_costOf_49 ?_
    refine g_ineg (pc := 51) O dX8_costOf_51 ?_
    refine g_goto (tgt := 57) (pc := 52) O dX8_costOf_52 rfl ?_
    refine g_imul (pc := 57) O dX8_costOf_57 ?_
    refine g_iadd (pc := 58) O dX8_costOf_58 ?_
    refine g_aloadn (pc := 59) O rfl dX8_costOf_59 ?_
    refine g_getS (pc := 60) O cls8 fl_X8_85 dX8_costOf_60 rfl (ltb rfl) (ltb rfl) rfl rfl ?_
    refine g_bipush (v := (I 11)) (pc := 63) O (by decide) dX8_costOf_63 ?_
    refine g_iloadn (pc := 65) O rfl dX8_costOf_65 ?_
    refine g_iconst (v := (I 1)) (pc := 66) O rfl dX8_costOf_66 ?_
    refine g_iadd (pc := 67) O dX8_costOf_67 ?_
    refine g_imul (pc := 68) O dX8_costOf_68 ?_
    refine g_iload (pc := 69) O rfl dX8_costOf_69 ?_
    refine g_iadd (pc := 71) O dX8_costOf_71 ?_
    refine g_iconst (v := (I 1)) (pc := 72) O rfl dX8_costOf_72 ?_
    refine g_iadd (pc := 73) O dX8_costOf_73 ?_
    obtain ⟨j7, ej7, bj7, H⟩ := H
    refine g_iald (j := j7) (pc := 74) O dX8_costOf_74 ej7 rfl (ltb rfl) bj7 (ltb rfl) rfl ?_
    refine g_iadd (pc := 75) O dX8_costOf_75 ?_
    exact g_iret (pc := 76) O dX8_costOf_76 H
set_option maxRecDepth 20000 in
set_option maxHeartbeats 2000000 in
theorem sX8_costOf {g : mg} {l : Launch} {Q : Int32 → AH → Prop} {x1 : Int32} {x2 : Int32} {x3 : Int32} {x4 : Int32} {x5 : Int32} {h : AH} (H : ∃ j1 : Nat, (((I 10) * x1) + x3) = I (j1 : Int) ∧ j1 < 40 ∧ (∃ j2 : Nat, (((I 10) * x2) + x5) = I (j2 : Int) ∧ j2 < 40 ∧ (((0 ≤ ((h.1 88 j1) - (h.1 88 j2))) → (∃ j6 : Nat, ((((I 11) * (x3 + (I 1))) + x5) + (I 1)) = I (j6 : Int) ∧ j6 < 121 ∧ (Q ((((x5 - x4) * (h.1 101 0)) + ((h.1 101 1) * ((h.1 88 j1) - (h.1 88 j2)))) + (h.1 108 j6)) h))) ∧ ((¬ (0 ≤ ((h.1 88 j1) - (h.1 88 j2)))) → (∃ j7 : Nat, ((((I 11) * (x3 + (I 1))) + x5) + (I 1)) = I (j7 : Int) ∧ j7 < 121 ∧ (Q ((((x5 - x4) * (h.1 101 0)) + ((h.1 101 1) * (-((h.1 88 j1) - (h.1 88 j2))))) + (h.1 108 j7)) h)))))) : SpI g l mX8_costOf h [.ref 82, .int x1, .int x2, .int x3, .int x4, .int x5] Q := spI_of (by decide) (leb rfl) (fun X O => bX8_costOf_0 O H)
set_option maxRecDepth 20000 in
set_option maxHeartbeats 2000000 in
theorem bX8_areSame_0 {g : mg} {l : Launch} {X : XT} {Q : Int32 → AH → Prop} (O : Ok (FF g l X) RX8 cX8_areSame 5 mX8_areSame.2.2.2.2 (some .boolean)) {x1 : Int32} {x2 : Int32} {x3 : Int32} {x4 : Int32} {h : AH} (H : ∃ j1 : Nat, (((I 10) * x1) + x3) = I (j1 : Int) ∧ j1 < 40 ∧ (∃ j2 : Nat, (((I 10) * x2) + x4) = I (j2 : Int) ∧ j2 < 40 ∧ (SpI g l mX8_isSame h [.ref 82, .int (h.1 87 j1), .int (h.1 87 j2)] (fun v3 hv3 => (v3 = 0 ∨ v3 = 1) ∧ Q v3 hv3)))) : GI g l X Q h 0 [(0, .ref 82), (1, .int x1), (2, .int x2), (3, .int x3), (4, .int x4)] [] := by
  refine g_aloadn (pc := 0) O rfl dX8_areSame_0 ?_
  refine g_aloadn (pc := 1) O rfl dX8_areSame_1 ?_
  refine g_getS (pc := 2) O cls8 fl_X8_22 dX8_areSame_2 rfl (ltb rfl) (ltb rfl) rfl rfl ?_
  refine g_bipush (v := (I 10)) (pc := 5) O (by decide) dX8_areSame_5 ?_
  refine g_iloadn (pc := 7) O rfl dX8_areSame_7 ?_
  refine g_imul (pc := 8) O dX8_areSame_8 ?_
  refine g_iloadn (pc := 9) O rfl dX8_areSame_9 ?_
  refine g_iadd (pc := 10) O dX8_areSame_10 ?_
  obtain ⟨j1, ej1, bj1, H⟩ := H
  refine g_iald (j := j1) (pc := 11) O dX8_areSame_11 ej1 rfl (ltb rfl) bj1 (ltb rfl) rfl ?_
  refine g_aloadn (pc := 12) O rfl dX8_areSame_12 ?_
  refine g_getS (pc := 13) O cls8 fl_X8_22 dX8_areSame_13 rfl (ltb rfl) (ltb rfl) rfl rfl ?_
  refine g_bipush (v := (I 10)) (pc := 16) O (by decide) dX8_areSame_16 ?_
  refine g_iloadn (pc := 18) O rfl dX8_areSame_18 ?_
  refine g_imul (pc := 19) O dX8_areSame_19 ?_
  refine g_iload (pc := 20) O rfl dX8_areSame_20 ?_
  refine g_iadd (pc := 22) O dX8_areSame_22 ?_
  obtain ⟨j2, ej2, bj2, H⟩ := H
  refine g_iald (j := j2) (pc := 23) O dX8_areSame_23 ej2 rfl (ltb rfl) bj2 (ltb rfl) rfl ?_
  refine g_vI [.int (h.1 87 j1), .int (h.1 87 j2)] [] (pc := 24) O mk_X8_isSame ml_X8_208 im_X8_isSame se_X8_isSame cls8 rfl ⟨rfl, rfl, leb rfl, leb rfl⟩ rfl (leb rfl) dX8_areSame_24 H rfl (fun v3 hv3 H => ?_)
  exact g_zret (pc := 27) O dX8_areSame_27 H.1 H.2
set_option maxRecDepth 20000 in
set_option maxHeartbeats 2000000 in
theorem sX8_areSame {g : mg} {l : Launch} {Q : Int32 → AH → Prop} {x1 : Int32} {x2 : Int32} {x3 : Int32} {x4 : Int32} {h : AH} (H : ∃ j1 : Nat, (((I 10) * x1) + x3) = I (j1 : Int) ∧ j1 < 40 ∧ (∃ j2 : Nat, (((I 10) * x2) + x4) = I (j2 : Int) ∧ j2 < 40 ∧ (SpI g l mX8_isSame h [.ref 82, .int (h.1 87 j1), .int (h.1 87 j2)] (fun v3 hv3 => (v3 = 0 ∨ v3 = 1) ∧ Q v3 hv3)))) : SpI g l mX8_areSame h [.ref 82, .int x1, .int x2, .int x3, .int x4] Q := spI_of (by decide) (leb rfl) (fun X O => bX8_areSame_0 O H)
set_option maxRecDepth 20000 in
set_option maxHeartbeats 2000000 in
theorem bX8_lay_0 {g : mg} {l : Launch} {X : XT} {Q : AH → Prop} (O : Ok (FF g l X) RX8 cX8_lay 9 mX8_lay.2.2.2.2 none) {x1 : Int32} {x2 : Int32} {h : AH} (H : ∃ j1 : Nat, x2 = I (j1 : Int) ∧ j1 < 4 ∧ (∃ j2 : Nat, x1 = I (j2 : Int) ∧ j2 < 4 ∧ (GV g l X Q h 15 [(0, .ref 82), (1, .int x1), (2, .int x2), (3, .int (h.1 86 j1)), (4, .int (h.1 86 j2))] []))) : GV g l X Q h 0 [(0, .ref 82), (1, .int x1), (2, .int x2)] [] := by
  refine g_aloadn (pc := 0) O rfl dX8_lay_0 ?_
  refine g_getS (pc := 1) O cls8 fl_X8_19 dX8_lay_1 rfl (ltb rfl) (ltb rfl) rfl rfl ?_
  refine g_iloadn (pc := 4) O rfl dX8_lay_4 ?_
  obtain ⟨j1, ej1, bj1, H⟩ := H
  refine g_iald (j := j1) (pc := 5) O dX8_lay_5 ej1 rfl (ltb rfl) bj1 (ltb rfl) rfl ?_
  refine g_istoren (lv' := [(0, .ref 82), (1, .int x1), (2, .int x2), (3, .int (h.1 86 j1))]) (pc := 6) O dX8_lay_6 rfl (ltb rfl) rfl ?_
  refine g_aloadn (pc := 7) O rfl dX8_lay_7 ?_
  refine g_getS (pc := 8) O cls8 fl_X8_19 dX8_lay_8 rfl (ltb rfl) (ltb rfl) rfl rfl ?_
  refine g_iloadn (pc := 11) O rfl dX8_lay_11 ?_
  obtain ⟨j2, ej2, bj2, H⟩ := H
  refine g_iald (j := j2) (pc := 12) O dX8_lay_12 ej2 rfl (ltb rfl) bj2 (ltb rfl) rfl ?_
  refine g_istore (lv' := [(0, .ref 82), (1, .int x1), (2, .int x2), (3, .int (h.1 86 j1)), (4, .int (h.1 86 j2))]) (pc := 13) O dX8_lay_13 (ltb rfl) rfl ?_
  exact H
set_option maxRecDepth 20000 in
set_option maxHeartbeats 2000000 in
theorem bX8_lay_15 {g : mg} {l : Launch} {X : XT} {Q : AH → Prop} (O : Ok (FF g l X) RX8 cX8_lay 9 mX8_lay.2.2.2.2 none) {x1 : Int32} {x2 : Int32} {x3 : Int32} {x4 : Int32} {h : AH} (H : ((x4 < 0) → (Q h)) ∧ ((¬ (x4 < 0)) → (GV g l X Q h 23 [(0, .ref 82), (1, .int x1), (2, .int x2), (3, .int x3), (4, .int x4), (5, .int x3)] []))) : GV g l X Q h 15 [(0, .ref 82), (1, .int x1), (2, .int x2), (3, .int x3), (4, .int x4)] [] := by
  refine g_iload (pc := 15) O rfl dX8_lay_15 ?_
  refine g_if_lt (tgt := 254) (pc := 17) O dX8_lay_17 rfl (fun q1 => ?_) (fun q1 => ?_)
  · replace H := H.1 q1
    exact g_vret (pc := 254) O dX8_lay_254 H
  · replace H := H.2 q1
    refine g_iloadn (pc := 20) O rfl dX8_lay_20 ?_
    refine g_istore (lv' := [(0, .ref 82), (1, .int x1), (2, .int x2), (3, .int x3), (4, .int x4), (5, .int x3)]) (pc := 21) O dX8_lay_21 (ltb rfl) rfl ?_
    exact H
set_option maxRecDepth 20000 in
set_option maxHeartbeats 2000000 in
theorem bX8_lay_23 {g : mg} {l : Launch} {X : XT} {Q : AH → Prop} (O : Ok (FF g l X) RX8 cX8_lay 9 mX8_lay.2.2.2.2 none) {x1 : Int32} {x2 : Int32} {x3 : Int32} {x4 : Int32} {x5 : Int32} {h : AH} (H : ((x5 < 0) → (GV g l X Q h 15 [(0, .ref 82), (1, .int x1), (2, .int x2), (3, .int x3), (4, .int (x4 + I (-1)))] [])) ∧ ((¬ (x5 < 0)) → (∃ j2 : Nat, x1 = I (j2 : Int) ∧ j2 < 4 ∧ (((¬ x4 = (h.1 86 j2)) → (∃ j5 : Nat, ((((I 11) * x4) + x5) + (I 11)) = I (j5 : Int) ∧ j5 < 121 ∧ (∃ j6 : Nat, (((I 11) * x4) + x5) = I (j6 : Int) ∧ j6 < 121 ∧ (∃ j7 : Nat, ((((I 11) * x4) + x5) + (I 11)) = I (j7 : Int) ∧ j7 < 121 ∧ (∃ j8 : Nat, (((I 11) * x4) + x5) = I (j8 : Int) ∧ j8 < 121 ∧ (GV g l X Q (sL (sI h 108 j6 ((h.1 101 0) + (h.1 108 j5))) 109 j8 (h.2.1 109 j7)) 123 [(0, .ref 82), (1, .int x1), (2, .int x2), (3, .int x3), (4, .int x4), (5, .int x5), (6, .int (((I 11) * x4) + x5)), (7, .int x5)] [])))))) ∧ ((x4 = (h.1 86 j2)) → (∃ j10 : Nat, (((I 11) * x4) + x5) = I (j10 : Int) ∧ j10 < 121 ∧ (∃ j11 : Nat, (((I 11) * x4) + x5) = I (j11 : Int) ∧ j11 < 121 ∧ (GV g l X Q (sL (sI h 108 j10 ((x3 - x5) * (h.1 101 0))) 109 j11 1) 23 [(0, .ref 82), (1, .int x1), (2, .int x2), (3, .int x3), (4, .int x4), (5, .int (x5 + I (-1)))] [])))))))) : GV g l X Q h 23 [(0, .ref 82), (1, .int x1), (2, .int x2), (3, .int x3), (4, .int x4), (5, .int x5)] [] := by
  refine g_iload (pc := 23) O rfl dX8_lay_23 ?_
  refine g_if_lt (tgt := 248) (pc := 25) O dX8_lay_25 rfl (fun q1 => ?_) (fun q1 => ?_)
  · replace H := H.1 q1
    refine g_iinc (lv' := [(0, .ref 82), (1, .int x1), (2, .int x2), (3, .int x3), (4, .int (x4 + I (-1))), (5, .int x5)]) (pc := 248) O dX8_lay_248 rfl rfl (ltb rfl) rfl ?_
    refine g_goto (tgt := 15) (pc := 251) O dX8_lay_251 rfl ?_
    refine g_sub [0, 1, 2, 3, 4] rfl ?_
    exact H
  · replace H := H.2 q1
    refine g_bipush (v := (I 11)) (pc := 28) O (by decide) dX8_lay_28 ?_
    refine g_iload (pc := 30) O rfl dX8_lay_30 ?_
    refine g_imul (pc := 32) O dX8_lay_32 ?_
    refine g_iload (pc := 33) O rfl dX8_lay_33 ?_
    refine g_iadd (pc := 35) O dX8_lay_35 ?_
    refine g_istore (lv' := [(0, .ref 82), (1, .int x1), (2, .int x2), (3, .int x3), (4, .int x4), (5, .int x5), (6, .int (((I 11) * x4) + x5))]) (pc := 36) O dX8_lay_36 (ltb rfl) rfl ?_
    refine g_iload (pc := 38) O rfl dX8_lay_38 ?_
    refine g_aloadn (pc := 40) O rfl dX8_lay_40 ?_
    refine g_getS (pc := 41) O cls8 fl_X8_19 dX8_lay_41 rfl (ltb rfl) (ltb rfl) rfl rfl ?_
    refine g_iloadn (pc := 44) O rfl dX8_lay_44 ?_
    obtain ⟨j2, ej2, bj2, H⟩ := H
    refine g_iald (j := j2) (pc := 45) O dX8_lay_45 ej2 rfl (ltb rfl) bj2 (ltb rfl) rfl ?_
    refine g_icmp_ne (tgt := 78) (pc := 46) O dX8_lay_46 rfl (fun q3 => ?_) (fun q3 => ?_)
    · replace H := H.1 q3
      refine g_aloadn (pc := 78) O rfl dX8_lay_78 ?_
      refine g_getS (pc := 79) O cls8 fl_X8_85 dX8_lay_79 rfl (ltb rfl) (ltb rfl) rfl rfl ?_
      refine g_iload (pc := 82) O rfl dX8_lay_82 ?_
      refine g_aloadn (pc := 84) O rfl dX8_lay_84 ?_
      refine g_getS (pc := 85) O cls8 fl_X8_64 dX8_lay_85 rfl (ltb rfl) (ltb rfl) rfl rfl ?_
      refine g_iconst (v := (I 0)) (pc := 88) O rfl dX8_lay_88 ?_
      refine g_iald (j := 0) (pc := 89) O dX8_lay_89 rfl rfl (ltb rfl) (ltb rfl) (ltb rfl) rfl ?_
      refine g_aloadn (pc := 90) O rfl dX8_lay_90 ?_
      refine g_getS (pc := 91) O cls8 fl_X8_85 dX8_lay_91 rfl (ltb rfl) (ltb rfl) rfl rfl ?_
      refine g_iload (pc := 94) O rfl dX8_lay_94 ?_
      refine g_bipush (v := (I 11)) (pc := 96) O (by decide) dX8_lay_96 ?_
      refine g_iadd (pc := 98) O dX8_lay_98 ?_
      obtain ⟨j5, ej5, bj5, H⟩ := H
      refine g_iald (j := j5) (pc := 99) O dX8_lay_99 ej5 rfl (ltb rfl) bj5 (ltb rfl) rfl ?_
      refine g_iadd (pc := 100) O dX8_lay_100 ?_
      obtain ⟨j6, ej6, bj6, H⟩ := H
      refine g_iast (j := j6) (pc := 101) O dX8_lay_101 ej6 rfl (ltb rfl) (leb rfl) bj6 (ltb rfl) ?_
      refine g_aloadn (pc := 102) O rfl dX8_lay_102 ?_
      refine g_getS (pc := 103) O cls8 fl_X8_88 dX8_lay_103 rfl (ltb rfl) (ltb rfl) rfl rfl ?_
      refine g_iload (pc := 106) O rfl dX8_lay_106 ?_
      refine g_aloadn (pc := 108) O rfl dX8_lay_108 ?_
      refine g_getS (pc := 109) O cls8 fl_X8_88 dX8_lay_109 rfl (ltb rfl) (ltb rfl) rfl rfl ?_
      refine g_iload (pc := 112) O rfl dX8_lay_112 ?_
      refine g_bipush (v := (I 11)) (pc := 114) O (by decide) dX8_lay_114 ?_
      refine g_iadd (pc := 116) O dX8_lay_116 ?_
      obtain ⟨j7, ej7, bj7, H⟩ := H
      refine g_lald (j := j7) (pc := 117) O dX8_lay_117 ej7 rfl (ltb rfl) bj7 (ltb rfl) rfl ?_
      obtain ⟨j8, ej8, bj8, H⟩ := H
      refine g_last (j := j8) (pc := 118) O dX8_lay_118 ej8 rfl (ltb rfl) (leb rfl) bj8 (ltb rfl) ?_
      refine g_iload (pc := 119) O rfl dX8_lay_119 ?_
      refine g_istore (lv' := [(0, .ref 82), (1, .int x1), (2, .int x2), (3, .int x3), (4, .int x4), (5, .int x5), (6, .int (((I 11) * x4) + x5)), (7, .int x5)]) (pc := 121) O dX8_lay_121 (ltb rfl) rfl ?_
      exact H
    · replace H := H.2 q3
      refine g_aloadn (pc := 49) O rfl dX8_lay_49 ?_
      refine g_getS (pc := 50) O cls8 fl_X8_85 dX8_lay_50 rfl (ltb rfl) (ltb rfl) rfl rfl ?_
      refine g_iload (pc := 53) O rfl dX8_lay_53 ?_
      refine g_iloadn (pc := 55) O rfl dX8_lay_55 ?_
      refine g_iload (pc := 56) O rfl dX8_lay_56 ?_
      refine g_isub (pc := 58) O dX8_lay_58 ?_
      refine g_aloadn (pc := 59) O rfl dX8_lay_59 ?_
      refine g_getS (pc := 60) O cls8 fl_X8_64 dX8_lay_60 rfl (ltb rfl) (ltb rfl) rfl rfl ?_
      refine g_iconst (v := (I 0)) (pc := 63) O rfl dX8_lay_63 ?_
      refine g_iald (j := 0) (pc := 64) O dX8_lay_64 rfl rfl (ltb rfl) (ltb rfl) (ltb rfl) rfl ?_
      refine g_imul (pc := 65) O dX8_lay_65 ?_
      obtain ⟨j10, ej10, bj10, H⟩ := H
      refine g_iast (j := j10) (pc := 66) O dX8_lay_66 ej10 rfl (ltb rfl) (leb rfl) bj10 (ltb rfl) ?_
      refine g_aloadn (pc := 67) O rfl dX8_lay_67 ?_
      refine g_getS (pc := 68) O cls8 fl_X8_88 dX8_lay_68 rfl (ltb rfl) (ltb rfl) rfl rfl ?_
      refine g_iload (pc := 71) O rfl dX8_lay_71 ?_
      refine g_lconst (v := 1) (pc := 73) O (by decide) dX8_lay_73 ?_
      obtain ⟨j11, ej11, bj11, H⟩ := H
      refine g_last (j := j11) (pc := 74) O dX8_lay_74 ej11 rfl (ltb rfl) (leb rfl) bj11 (ltb rfl) ?_
      refine g_goto (tgt := 242) (pc := 75) O dX8_lay_75 rfl ?_
      refine g_iinc (lv' := [(0, .ref 82), (1, .int x1), (2, .int x2), (3, .int x3), (4, .int x4), (5, .int (x5 + I (-1))), (6, .int (((I 11) * x4) + x5))]) (pc := 242) O dX8_lay_242 rfl rfl (ltb rfl) rfl ?_
      refine g_goto (tgt := 23) (pc := 245) O dX8_lay_245 rfl ?_
      refine g_sub [0, 1, 2, 3, 4, 5] rfl ?_
      exact H
set_option maxRecDepth 20000 in
set_option maxHeartbeats 2000000 in
theorem bX8_lay_123 {g : mg} {l : Launch} {X : XT} {Q : AH → Prop} (O : Ok (FF g l X) RX8 cX8_lay 9 mX8_lay.2.2.2.2 none) {x1 : Int32} {x2 : Int32} {x3 : Int32} {x4 : Int32} {x5 : Int32} {x6 : Int32} {x7 : Int32} {h : AH} (H : ((x3 ≤ x7) → (GV g l X Q h 23 [(0, .ref 82), (1, .int x1), (2, .int x2), (3, .int x3), (4, .int x4), (5, .int (x5 + I (-1)))] [])) ∧ ((¬ (x3 ≤ x7)) → (SpI g l mX8_areSame h [.ref 82, .int x1, .int x2, .int x4, .int x7] (fun v2 hv2 => ((¬ v2 = 0) → (SpI g l mX8_costOf hv2 [.ref 82, .int x1, .int x2, .int x4, .int x5, .int x7] (fun v4 hv4 => ∃ j5 : Nat, x6 = I (j5 : Int) ∧ j5 < 121 ∧ ((((hv4.1 108 j5) ≤ v4) → (GV g l X Q hv4 188 [(0, .ref 82), (1, .int x1), (2, .int x2), (3, .int x3), (4, .int x4), (5, .int x5), (6, .int x6), (7, .int x7), (8, .int v4)] [])) ∧ ((¬ ((hv4.1 108 j5) ≤ v4)) → (∃ j7 : Nat, x6 = I (j7 : Int) ∧ j7 < 121 ∧ (∃ j8 : Nat, x6 = I (j8 : Int) ∧ j8 < 121 ∧ (GV g l X Q (sL (sI hv4 108 j7 v4) 109 j8 0) 188 [(0, .ref 82), (1, .int x1), (2, .int x2), (3, .int x3), (4, .int x4), (5, .int x5), (6, .int x6), (7, .int x7), (8, .int v4)] [])))))))) ∧ ((v2 = 0) → (GV g l X Q hv2 123 [(0, .ref 82), (1, .int x1), (2, .int x2), (3, .int x3), (4, .int x4), (5, .int x5), (6, .int x6), (7, .int (x7 + I 1))] [])))))) : GV g l X Q h 123 [(0, .ref 82), (1, .int x1), (2, .int x2), (3, .int x3), (4, .int x4), (5, .int x5), (6, .int x6), (7, .int x7)] [] := by
  refine g_iload (pc := 123) O rfl dX8_lay_123 ?_
  refine g_iloadn (pc := 125) O rfl dX8_lay_125 ?_
  refine g_icmp_ge (tgt := 242) (pc := 126) O dX8_lay_126 rfl (fun q1 => ?_) (fun q1 => ?_)
  · replace H := H.1 q1
    refine g_iinc (lv' := [(0, .ref 82), (1, .int x1), (2, .int x2), (3, .int x3), (4, .int x4), (5, .int (x5 + I (-1))), (6, .int x6), (7, .int x7)]) (pc := 242) O dX8_lay_242 rfl rfl (ltb rfl) rfl ?_
    refine g_goto (tgt := 23) (pc := 245) O dX8_lay_245 rfl ?_
    refine g_sub [0, 1, 2, 3, 4, 5] rfl ?_
    exact H
  · replace H := H.2 q1
    refine g_aloadn (pc := 129) O rfl dX8_lay_129 ?_
    refine g_iloadn (pc := 130) O rfl dX8_lay_130 ?_
    refine g_iloadn (pc := 131) O rfl dX8_lay_131 ?_
    refine g_iload (pc := 132) O rfl dX8_lay_132 ?_
    refine g_iload (pc := 134) O rfl dX8_lay_134 ?_
    refine g_vI [.int x1, .int x2, .int x4, .int x7] [] (pc := 136) O mk_X8_areSame ml_X8_211 im_X8_areSame se_X8_areSame cls8 rfl ⟨rfl, rfl, leb rfl, leb rfl⟩ rfl (leb rfl) dX8_lay_136 H rfl (fun v2 hv2 H => ?_)
    refine g_if_ne (tgt := 145) (pc := 139) O dX8_lay_139 rfl (fun q3 => ?_) (fun q3 => ?_)
    · replace H := H.1 q3
      refine g_aloadn (pc := 145) O rfl dX8_lay_145 ?_
      refine g_iloadn (pc := 146) O rfl dX8_lay_146 ?_
      refine g_iloadn (pc := 147) O rfl dX8_lay_147 ?_
      refine g_iload (pc := 148) O rfl dX8_lay_148 ?_
      refine g_iload (pc := 150) O rfl dX8_lay_150 ?_
      refine g_iload (pc := 152) O rfl dX8_lay_152 ?_
      refine g_vI [.int x1, .int x2, .int x4, .int x5, .int x7] [] (pc := 154) O mk_X8_costOf ml_X8_215 im_X8_costOf se_X8_costOf cls8 rfl ⟨rfl, rfl, leb rfl, leb rfl⟩ rfl (leb rfl) dX8_lay_154 H rfl (fun v4 hv4 H => ?_)
      refine g_istore (lv' := [(0, .ref 82), (1, .int x1), (2, .int x2), (3, .int x3), (4, .int x4), (5, .int x5), (6, .int x6), (7, .int x7), (8, .int v4)]) (pc := 157) O dX8_lay_157 (ltb rfl) rfl ?_
      refine g_iload (pc := 159) O rfl dX8_lay_159 ?_
      refine g_aloadn (pc := 161) O rfl dX8_lay_161 ?_
      refine g_getS (pc := 162) O cls8 fl_X8_85 dX8_lay_162 rfl (ltb rfl) (ltb rfl) rfl rfl ?_
      refine g_iload (pc := 165) O rfl dX8_lay_165 ?_
      obtain ⟨j5, ej5, bj5, H⟩ := H
      refine g_iald (j := j5) (pc := 167) O dX8_lay_167 ej5 rfl (ltb rfl) bj5 (ltb rfl) rfl ?_
      refine g_icmp_ge (tgt := 188) (pc := 168) O dX8_lay_168 rfl (fun q6 => ?_) (fun q6 => ?_)
      · replace H := H.1 q6
        exact H
      · replace H := H.2 q6
        refine g_aloadn (pc := 171) O rfl dX8_lay_171 ?_
        refine g_getS (pc := 172) O cls8 fl_X8_85 dX8_lay_172 rfl (ltb rfl) (ltb rfl) rfl rfl ?_
        refine g_iload (pc := 175) O rfl dX8_lay_175 ?_
        refine g_iload (pc := 177) O rfl dX8_lay_177 ?_
        obtain ⟨j7, ej7, bj7, H⟩ := H
        refine g_iast (j := j7) (pc := 179) O dX8_lay_179 ej7 rfl (ltb rfl) (leb rfl) bj7 (ltb rfl) ?_
        refine g_aloadn (pc := 180) O rfl dX8_lay_180 ?_
        refine g_getS (pc := 181) O cls8 fl_X8_88 dX8_lay_181 rfl (ltb rfl) (ltb rfl) rfl rfl ?_
        refine g_iload (pc := 184) O rfl dX8_lay_184 ?_
        refine g_lconst (v := 0) (pc := 186) O (by decide) dX8_lay_186 ?_
        obtain ⟨j8, ej8, bj8, H⟩ := H
        refine g_last (j := j8) (pc := 187) O dX8_lay_187 ej8 rfl (ltb rfl) (leb rfl) bj8 (ltb rfl) ?_
        exact H
    · replace H := H.2 q3
      refine g_goto (tgt := 236) (pc := 142) O dX8_lay_142 rfl ?_
      refine g_iinc (lv' := [(0, .ref 82), (1, .int x1), (2, .int x2), (3, .int x3), (4, .int x4), (5, .int x5), (6, .int x6), (7, .int (x7 + I 1))]) (pc := 236) O dX8_lay_236 rfl rfl (ltb rfl) rfl ?_
      refine g_goto (tgt := 123) (pc := 239) O dX8_lay_239 rfl ?_
      exact H
set_option maxRecDepth 20000 in
set_option maxHeartbeats 2000000 in
theorem bX8_lay_188 {g : mg} {l : Launch} {X : XT} {Q : AH → Prop} (O : Ok (FF g l X) RX8 cX8_lay 9 mX8_lay.2.2.2.2 none) {x1 : Int32} {x2 : Int32} {x3 : Int32} {x4 : Int32} {x5 : Int32} {x6 : Int32} {x7 : Int32} {x8 : Int32} {h : AH} (H : ∃ j1 : Nat, x6 = I (j1 : Int) ∧ j1 < 121 ∧ (∃ j2 : Nat, x6 = I (j2 : Int) ∧ j2 < 121 ∧ (((¬ x8 = (h.1 108 j2)) → (∃ j4 : Nat, x6 = I (j4 : Int) ∧ j4 < 121 ∧ (GV g l X Q (sL h 109 j4 ((h.2.1 109 j1) + 0)) 123 [(0, .ref 82), (1, .int x1), (2, .int x2), (3, .int x3), (4, .int x4), (5, .int x5), (6, .int x6), (7, .int (x7 + I 1))] []))) ∧ ((x8 = (h.1 108 j2)) → (∃ j5 : Nat, ((((I 11) * (x4 + (I 1))) + x7) + (I 1)) = I (j5 : Int) ∧ j5 < 121 ∧ (∃ j6 : Nat, x6 = I (j6 : Int) ∧ j6 < 121 ∧ (GV g l X Q (sL h 109 j6 ((h.2.1 109 j1) + (h.2.1 109 j5))) 123 [(0, .ref 82), (1, .int x1), (2, .int x2), (3, .int x3), (4, .int x4), (5, .int x5), (6, .int x6), (7, .int (x7 + I 1))] []))))))) : GV g l X Q h 188 [(0, .ref 82), (1, .int x1), (2, .int x2), (3, .int x3), (4, .int x4), (5, .int x5), (6, .int x6), (7, .int x7), (8, .int x8)] [] := by
  refine g_aloadn (pc := 188) O rfl dX8_lay_188 ?_
  refine g_getS (pc := 189) O cls8 fl_X8_88 dX8_lay_189 rfl (ltb rfl) (ltb rfl) rfl rfl ?_
  refine g_iload (pc := 192) O rfl dX8_lay_192 ?_
  refine g_aloadn (pc := 194) O rfl dX8_lay_194 ?_
  refine g_getS (pc := 195) O cls8 fl_X8_88 dX8_lay_195 rfl (ltb rfl) (ltb rfl) rfl rfl ?_
  refine g_iload (pc := 198) O rfl dX8_lay_198 ?_
  obtain ⟨j1, ej1, bj1, H⟩ := H
  refine g_lald (j := j1) (pc := 200) O dX8_lay_200 ej1 rfl (ltb rfl) bj1 (ltb rfl) rfl ?_
  refine g_iload (pc := 201) O rfl dX8_lay_201 ?_
  refine g_aloadn (pc := 203) O rfl dX8_lay_203 ?_
  refine g_getS (pc := 204) O cls8 fl_X8_85 dX8_lay_204 rfl (ltb rfl) (ltb rfl) rfl rfl ?_
  refine g_iload (pc := 207) O rfl dX8_lay_207 ?_
  obtain ⟨j2, ej2, bj2, H⟩ := H
  refine g_iald (j := j2) (pc := 209) O dX8_lay_209 ej2 rfl (ltb rfl) bj2 (ltb rfl) rfl ?_
  refine g_icmp_ne (tgt := 233) (pc := 210) O dX8_lay_210 rfl (fun q3 => ?_) (fun q3 => ?_)
  · replace H := H.1 q3
    refine g_lconst (v := 0) (pc := 233) O (by decide) dX8_lay_233 ?_
    refine g_ladd (pc := 234) O dX8_lay_234 ?_
    obtain ⟨j4, ej4, bj4, H⟩ := H
    refine g_last (j := j4) (pc := 235) O dX8_lay_235 ej4 rfl (ltb rfl) (leb rfl) bj4 (ltb rfl) ?_
    refine g_iinc (lv' := [(0, .ref 82), (1, .int x1), (2, .int x2), (3, .int x3), (4, .int x4), (5, .int x5), (6, .int x6), (7, .int (x7 + I 1)), (8, .int x8)]) (pc := 236) O dX8_lay_236 rfl rfl (ltb rfl) rfl ?_
    refine g_goto (tgt := 123) (pc := 239) O dX8_lay_239 rfl ?_
    refine g_sub [0, 1, 2, 3, 4, 5, 6, 7] rfl ?_
    exact H
  · replace H := H.2 q3
    refine g_aloadn (pc := 213) O rfl dX8_lay_213 ?_
    refine g_getS (pc := 214) O cls8 fl_X8_88 dX8_lay_214 rfl (ltb rfl) (ltb rfl) rfl rfl ?_
    refine g_bipush (v := (I 11)) (pc := 217) O (by decide) dX8_lay_217 ?_
    refine g_iload (pc := 219) O rfl dX8_lay_219 ?_
    refine g_iconst (v := (I 1)) (pc := 221) O rfl dX8_lay_221 ?_
    refine g_iadd (pc := 222) O dX8_lay_222 ?_
    refine g_imul (pc := 223) O dX8_lay_223 ?_
    refine g_iload (pc := 224) O rfl dX8_lay_224 ?_
    refine g_iadd (pc := 226) O dX8_lay_226 ?_
    refine g_iconst (v := (I 1)) (pc := 227) O rfl dX8_lay_227 ?_
    refine g_iadd (pc := 228) O dX8_lay_228 ?_
    obtain ⟨j5, ej5, bj5, H⟩ := H
    refine g_lald (j := j5) (pc := 229) O dX8_lay_229 ej5 rfl (ltb rfl) bj5 (ltb rfl) rfl ?_
    refine g_goto (tgt := 234) (pc := 230) O dX8_lay_230 rfl ?_
    refine g_ladd (pc := 234) O dX8_lay_234 ?_
    obtain ⟨j6, ej6, bj6, H⟩ := H
    refine g_last (j := j6) (pc := 235) O dX8_lay_235 ej6 rfl (ltb rfl) (leb rfl) bj6 (ltb rfl) ?_
    refine g_iinc (lv' := [(0, .ref 82), (1, .int x1), (2, .int x2), (3, .int x3), (4, .int x4), (5, .int x5), (6, .int x6), (7, .int (x7 + I 1)), (8, .int x8)]) (pc := 236) O dX8_lay_236 rfl rfl (ltb rfl) rfl ?_
    refine g_goto (tgt := 123) (pc := 239) O dX8_lay_239 rfl ?_
    refine g_sub [0, 1, 2, 3, 4, 5, 6, 7] rfl ?_
    exact H
set_option maxRecDepth 20000 in
set_option maxHeartbeats 2000000 in
theorem sX8_lay {g : mg} {l : Launch} {Q : AH → Prop} {x1 : Int32} {x2 : Int32} {h : AH} (H : ∀ X, Ok (FF g l X) RX8 cX8_lay 9 mX8_lay.2.2.2.2 none → ∃ j1 : Nat, x2 = I (j1 : Int) ∧ j1 < 4 ∧ (∃ j2 : Nat, x1 = I (j2 : Int) ∧ j2 < 4 ∧ (GV g l X Q h 15 [(0, .ref 82), (1, .int x1), (2, .int x2), (3, .int (h.1 86 j1)), (4, .int (h.1 86 j2))] []))) : SpV g l mX8_lay h [.ref 82, .int x1, .int x2] Q := spV_of (by decide) (leb rfl) (fun X O => bX8_lay_0 O (H X O))
set_option maxRecDepth 20000 in
set_option maxHeartbeats 2000000 in
theorem bX8_areTwo_0 {g : mg} {l : Launch} {X : XT} {Q : Int32 → AH → Prop} (O : Ok (FF g l X) RX8 cX8_areTwo 3 mX8_areTwo.2.2.2.2 (some .boolean)) {x1 : Int32} {x2 : Int32} {h : AH} (H : SpI g l mX8_isChipAt h [.ref 82, .int x1] (fun v1 hv1 => ((v1 = 0) → (Q (I 0) hv1)) ∧ ((¬ (v1 = 0)) → (SpI g l mX8_isChipAt hv1 [.ref 82, .int x2] (fun v3 hv3 => ((v3 = 0) → (Q (I 0) hv3)) ∧ ((¬ (v3 = 0)) → (((x1 = x2) → (Q (I 0) hv3)) ∧ ((¬ (x1 = x2)) → (Q (I 1) hv3))))))))) : GI g l X Q h 0 [(0, .ref 82), (1, .int x1), (2, .int x2)] [] := by
  refine g_aloadn (pc := 0) O rfl dX8_areTwo_0 ?_
  refine g_iloadn (pc := 1) O rfl dX8_areTwo_1 ?_
  refine g_vI [.int x1] [] (pc := 2) O mk_X8_isChipAt ml_X8_199 im_X8_isChipAt se_X8_isChipAt cls8 rfl ⟨rfl, rfl, leb rfl, leb rfl⟩ rfl (leb rfl) dX8_areTwo_2 H rfl (fun v1 hv1 H => ?_)
  refine g_if_eq (tgt := 25) (pc := 5) O dX8_areTwo_5 rfl (fun q2 => ?_) (fun q2 => ?_)
  · replace H := H.1 q2
    refine g_iconst (v := (I 0)) (pc := 25) O rfl dX8_areTwo_25 ?_
    exact g_zret (pc := 26) O dX8_areTwo_26 (by decide) H
  · replace H := H.2 q2
    refine g_aloadn (pc := 8) O rfl dX8_areTwo_8 ?_
    refine g_iloadn (pc := 9) O rfl dX8_areTwo_9 ?_
    refine g_vI [.int x2] [] (pc := 10) O mk_X8_isChipAt ml_X8_199 im_X8_isChipAt se_X8_isChipAt cls8 rfl ⟨rfl, rfl, leb rfl, leb rfl⟩ rfl (leb rfl) dX8_areTwo_10 H rfl (fun v3 hv3 H => ?_)
    refine g_if_eq (tgt := 25) (pc := 13) O dX8_areTwo_13 rfl (fun q4 => ?_) (fun q4 => ?_)
    · replace H := H.1 q4
      refine g_iconst (v := (I 0)) (pc := 25) O rfl dX8_areTwo_25 ?_
      exact g_zret (pc := 26) O dX8_areTwo_26 (by decide) H
    · replace H := H.2 q4
      refine g_iloadn (pc := 16) O rfl dX8_areTwo_16 ?_
      refine g_iloadn (pc := 17) O rfl dX8_areTwo_17 ?_
      refine g_icmp_eq (tgt := 25) (pc := 18) O dX8_areTwo_18 rfl (fun q5 => ?_) (fun q5 => ?_)
      · replace H := H.1 q5
        refine g_iconst (v := (I 0)) (pc := 25) O rfl dX8_areTwo_25 ?_
        exact g_zret (pc := 26) O dX8_areTwo_26 (by decide) H
      · replace H := H.2 q5
        refine g_iconst (v := (I 1)) (pc := 21) O rfl dX8_areTwo_21 ?_
        refine g_goto (tgt := 26) (pc := 22) O dX8_areTwo_22 rfl ?_
        exact g_zret (pc := 26) O dX8_areTwo_26 (by decide) H
set_option maxRecDepth 20000 in
set_option maxHeartbeats 2000000 in
theorem sX8_areTwo {g : mg} {l : Launch} {Q : Int32 → AH → Prop} {x1 : Int32} {x2 : Int32} {h : AH} (H : SpI g l mX8_isChipAt h [.ref 82, .int x1] (fun v1 hv1 => ((v1 = 0) → (Q (I 0) hv1)) ∧ ((¬ (v1 = 0)) → (SpI g l mX8_isChipAt hv1 [.ref 82, .int x2] (fun v3 hv3 => ((v3 = 0) → (Q (I 0) hv3)) ∧ ((¬ (v3 = 0)) → (((x1 = x2) → (Q (I 0) hv3)) ∧ ((¬ (x1 = x2)) → (Q (I 1) hv3))))))))) : SpI g l mX8_areTwo h [.ref 82, .int x1, .int x2] Q := spI_of (by decide) (leb rfl) (fun X O => bX8_areTwo_0 O H)
set_option maxRecDepth 20000 in
set_option maxHeartbeats 2000000 in
theorem bX8_least_0 {g : mg} {l : Launch} {X : XT} {Q : Int32 → AH → Prop} (O : Ok (FF g l X) RX8 cX8_least 3 mX8_least.2.2.2.2 (some .int)) {x1 : Int32} {x2 : Int32} {h : AH} (H : SpI g l mX8_areTwo h [.ref 82, .int x1, .int x2] (fun v1 hv1 => ((¬ v1 = 0) → (SpV g l mX8_lay hv1 [.ref 82, .int x1, .int x2] (fun hv3 => Q (hv3.1 108 0) hv3))) ∧ ((v1 = 0) → (Q (I (-1)) hv1)))) : GI g l X Q h 0 [(0, .ref 82), (1, .int x1), (2, .int x2)] [] := by
  refine g_aloadn (pc := 0) O rfl dX8_least_0 ?_
  refine g_iloadn (pc := 1) O rfl dX8_least_1 ?_
  refine g_iloadn (pc := 2) O rfl dX8_least_2 ?_
  refine g_vI [.int x1, .int x2] [] (pc := 3) O mk_X8_areTwo ml_X8_219 im_X8_areTwo se_X8_areTwo cls8 rfl ⟨rfl, rfl, leb rfl, leb rfl⟩ rfl (leb rfl) dX8_least_3 H rfl (fun v1 hv1 H => ?_)
  refine g_if_ne (tgt := 11) (pc := 6) O dX8_least_6 rfl (fun q2 => ?_) (fun q2 => ?_)
  · replace H := H.1 q2
    refine g_aloadn (pc := 11) O rfl dX8_least_11 ?_
    refine g_iloadn (pc := 12) O rfl dX8_least_12 ?_
    refine g_iloadn (pc := 13) O rfl dX8_least_13 ?_
    refine g_vV [.int x1, .int x2] [] (pc := 14) O mk_X8_lay ml_X8_222 im_X8_lay se_X8_lay cls8 rfl ⟨rfl, rfl, leb rfl, leb rfl⟩ rfl (leb rfl) dX8_least_14 H rfl (fun hv3 H => ?_)
    refine g_aloadn (pc := 17) O rfl dX8_least_17 ?_
    refine g_getS (pc := 18) O cls8 fl_X8_85 dX8_least_18 rfl (ltb rfl) (ltb rfl) rfl rfl ?_
    refine g_iconst (v := (I 0)) (pc := 21) O rfl dX8_least_21 ?_
    refine g_iald (j := 0) (pc := 22) O dX8_least_22 rfl rfl (ltb rfl) (ltb rfl) (ltb rfl) rfl ?_
    exact g_iret (pc := 23) O dX8_least_23 H
  · replace H := H.2 q2
    refine g_iconst (v := (I (-1))) (pc := 9) O rfl dX8_least_9 ?_
    exact g_iret (pc := 10) O dX8_least_10 H
set_option maxRecDepth 20000 in
set_option maxHeartbeats 2000000 in
theorem sX8_least {g : mg} {l : Launch} {Q : Int32 → AH → Prop} {x1 : Int32} {x2 : Int32} {h : AH} (H : SpI g l mX8_areTwo h [.ref 82, .int x1, .int x2] (fun v1 hv1 => ((¬ v1 = 0) → (SpV g l mX8_lay hv1 [.ref 82, .int x1, .int x2] (fun hv3 => Q (hv3.1 108 0) hv3))) ∧ ((v1 = 0) → (Q (I (-1)) hv1)))) : SpI g l mX8_least h [.ref 82, .int x1, .int x2] Q := spI_of (by decide) (leb rfl) (fun X O => bX8_least_0 O H)
set_option maxRecDepth 20000 in
set_option maxHeartbeats 2000000 in
theorem bX8_ways_0 {g : mg} {l : Launch} {X : XT} {Q : Int64 → AH → Prop} (O : Ok (FF g l X) RX8 cX8_ways 3 mX8_ways.2.2.2.2 (some .long)) {x1 : Int32} {x2 : Int32} {h : AH} (H : SpI g l mX8_areTwo h [.ref 82, .int x1, .int x2] (fun v1 hv1 => ((¬ v1 = 0) → (SpV g l mX8_lay hv1 [.ref 82, .int x1, .int x2] (fun hv3 => Q (hv3.2.1 109 0) hv3))) ∧ ((v1 = 0) → (Q (-1) hv1)))) : GL g l X Q h 0 [(0, .ref 82), (1, .int x1), (2, .int x2)] [] := by
  refine g_aloadn (pc := 0) O rfl dX8_ways_0 ?_
  refine g_iloadn (pc := 1) O rfl dX8_ways_1 ?_
  refine g_iloadn (pc := 2) O rfl dX8_ways_2 ?_
  refine g_vI [.int x1, .int x2] [] (pc := 3) O mk_X8_areTwo ml_X8_219 im_X8_areTwo se_X8_areTwo cls8 rfl ⟨rfl, rfl, leb rfl, leb rfl⟩ rfl (leb rfl) dX8_ways_3 H rfl (fun v1 hv1 H => ?_)
  refine g_if_ne (tgt := 13) (pc := 6) O dX8_ways_6 rfl (fun q2 => ?_) (fun q2 => ?_)
  · replace H := H.1 q2
    refine g_aloadn (pc := 13) O rfl dX8_ways_13 ?_
    refine g_iloadn (pc := 14) O rfl dX8_ways_14 ?_
    refine g_iloadn (pc := 15) O rfl dX8_ways_15 ?_
    refine g_vV [.int x1, .int x2] [] (pc := 16) O mk_X8_lay ml_X8_222 im_X8_lay se_X8_lay cls8 rfl ⟨rfl, rfl, leb rfl, leb rfl⟩ rfl (leb rfl) dX8_ways_16 H rfl (fun hv3 H => ?_)
    refine g_aloadn (pc := 19) O rfl dX8_ways_19 ?_
    refine g_getS (pc := 20) O cls8 fl_X8_88 dX8_ways_20 rfl (ltb rfl) (ltb rfl) rfl rfl ?_
    refine g_iconst (v := (I 0)) (pc := 23) O rfl dX8_ways_23 ?_
    refine g_lald (j := 0) (pc := 24) O dX8_ways_24 rfl rfl (ltb rfl) (ltb rfl) (ltb rfl) rfl ?_
    exact g_lret (pc := 25) O dX8_ways_25 H
  · replace H := H.2 q2
    refine g_ldc2 (pc := 9) O co_X8_226 dX8_ways_9 ?_
    exact g_lret (pc := 12) O dX8_ways_12 H
set_option maxRecDepth 20000 in
set_option maxHeartbeats 2000000 in
theorem sX8_ways {g : mg} {l : Launch} {Q : Int64 → AH → Prop} {x1 : Int32} {x2 : Int32} {h : AH} (H : SpI g l mX8_areTwo h [.ref 82, .int x1, .int x2] (fun v1 hv1 => ((¬ v1 = 0) → (SpV g l mX8_lay hv1 [.ref 82, .int x1, .int x2] (fun hv3 => Q (hv3.2.1 109 0) hv3))) ∧ ((v1 = 0) → (Q (-1) hv1)))) : SpL g l mX8_ways h [.ref 82, .int x1, .int x2] Q := spL_of (by decide) (leb rfl) (fun X O => bX8_ways_0 O H)
set_option maxRecDepth 20000 in
set_option maxHeartbeats 2000000 in
theorem bX8_laid_0 {g : mg} {l : Launch} {X : XT} {Q : Int32 → AH → Prop} (O : Ok (FF g l X) RX8 cX8_laid 8 mX8_laid.2.2.2.2 (some .int)) {x1 : Int32} {x2 : Int32} {x3 : Int32} {h : AH} (H : SpI g l mX8_areTwo h [.ref 82, .int x1, .int x2] (fun v1 hv1 => ((v1 = 0) → (Q (I (-1)) hv1)) ∧ ((¬ (v1 = 0)) → (∃ j3 : Nat, x1 = I (j3 : Int) ∧ j3 < 4 ∧ (SpI g l mX8_in hv1 [.int x3, .int (I 0), .int ((hv1.1 86 j3) - (I 1))] (fun v4 hv4 => ((¬ v4 = 0) → (SpV g l mX8_lay hv4 [.ref 82, .int x1, .int x2] (fun hv6 => GI g l X Q hv6 43 [(0, .ref 82), (1, .int x1), (2, .int x2), (3, .int x3), (4, .int (I 0)), (5, .int (I (-9))), (6, .int (I 0))] []))) ∧ ((v4 = 0) → (Q (I (-1)) hv4)))))))) : GI g l X Q h 0 [(0, .ref 82), (1, .int x1), (2, .int x2), (3, .int x3)] [] := by
  refine g_aloadn (pc := 0) O rfl dX8_laid_0 ?_
  refine g_iloadn (pc := 1) O rfl dX8_laid_1 ?_
  refine g_iloadn (pc := 2) O rfl dX8_laid_2 ?_
  refine g_vI [.int x1, .int x2] [] (pc := 3) O mk_X8_areTwo ml_X8_219 im_X8_areTwo se_X8_areTwo cls8 rfl ⟨rfl, rfl, leb rfl, leb rfl⟩ rfl (leb rfl) dX8_laid_3 H rfl (fun v1 hv1 H => ?_)
  refine g_if_eq (tgt := 25) (pc := 6) O dX8_laid_6 rfl (fun q2 => ?_) (fun q2 => ?_)
  · replace H := H.1 q2
    refine g_iconst (v := (I (-1))) (pc := 25) O rfl dX8_laid_25 ?_
    exact g_iret (pc := 26) O dX8_laid_26 H
  · replace H := H.2 q2
    refine g_iloadn (pc := 9) O rfl dX8_laid_9 ?_
    refine g_iconst (v := (I 0)) (pc := 10) O rfl dX8_laid_10 ?_
    refine g_aloadn (pc := 11) O rfl dX8_laid_11 ?_
    refine g_getS (pc := 12) O cls8 fl_X8_19 dX8_laid_12 rfl (ltb rfl) (ltb rfl) rfl rfl ?_
    refine g_iloadn (pc := 15) O rfl dX8_laid_15 ?_
    obtain ⟨j3, ej3, bj3, H⟩ := H
    refine g_iald (j := j3) (pc := 16) O dX8_laid_16 ej3 rfl (ltb rfl) bj3 (ltb rfl) rfl ?_
    refine g_iconst (v := (I 1)) (pc := 17) O rfl dX8_laid_17 ?_
    refine g_isub (pc := 18) O dX8_laid_18 ?_
    refine g_sI [.int x3, .int (I 0), .int ((hv1.1 86 j3) - (I 1))] [] (pc := 19) O mk_X8_in ml_X8_116 sm_X8_in ⟨rfl, rfl, leb rfl, leb rfl⟩ rfl (leb rfl) dX8_laid_19 H rfl (fun v4 hv4 H => ?_)
    refine g_if_ne (tgt := 27) (pc := 22) O dX8_laid_22 rfl (fun q5 => ?_) (fun q5 => ?_)
    · replace H := H.1 q5
      refine g_aloadn (pc := 27) O rfl dX8_laid_27 ?_
      refine g_iloadn (pc := 28) O rfl dX8_laid_28 ?_
      refine g_iloadn (pc := 29) O rfl dX8_laid_29 ?_
      refine g_vV [.int x1, .int x2] [] (pc := 30) O mk_X8_lay ml_X8_222 im_X8_lay se_X8_lay cls8 rfl ⟨rfl, rfl, leb rfl, leb rfl⟩ rfl (leb rfl) dX8_laid_30 H rfl (fun hv6 H => ?_)
      refine g_iconst (v := (I 0)) (pc := 33) O rfl dX8_laid_33 ?_
      refine g_istore (lv' := [(0, .ref 82), (1, .int x1), (2, .int x2), (3, .int x3), (4, .int (I 0))]) (pc := 34) O dX8_laid_34 (ltb rfl) rfl ?_
      refine g_bipush (v := (I (-9))) (pc := 36) O (by decide) dX8_laid_36 ?_
      refine g_istore (lv' := [(0, .ref 82), (1, .int x1), (2, .int x2), (3, .int x3), (4, .int (I 0)), (5, .int (I (-9)))]) (pc := 38) O dX8_laid_38 (ltb rfl) rfl ?_
      refine g_iconst (v := (I 0)) (pc := 40) O rfl dX8_laid_40 ?_
      refine g_istore (lv' := [(0, .ref 82), (1, .int x1), (2, .int x2), (3, .int x3), (4, .int (I 0)), (5, .int (I (-9))), (6, .int (I 0))]) (pc := 41) O dX8_laid_41 (ltb rfl) rfl ?_
      exact H
    · replace H := H.2 q5
      refine g_iconst (v := (I (-1))) (pc := 25) O rfl dX8_laid_25 ?_
      exact g_iret (pc := 26) O dX8_laid_26 H
set_option maxRecDepth 20000 in
set_option maxHeartbeats 2000000 in
theorem bX8_laid_43 {g : mg} {l : Launch} {X : XT} {Q : Int32 → AH → Prop} (O : Ok (FF g l X) RX8 cX8_laid 8 mX8_laid.2.2.2.2 (some .int)) {x1 : Int32} {x2 : Int32} {x3 : Int32} {x4 : Int32} {x5 : Int32} {x6 : Int32} {h : AH} (H : ((x3 < x6) → (Q x5 h)) ∧ ((¬ (x3 < x6)) → (∃ j2 : Nat, x2 = I (j2 : Int) ∧ j2 < 4 ∧ (GI g l X Q h 63 [(0, .ref 82), (1, .int x1), (2, .int x2), (3, .int x3), (4, .int x4), (5, .int (I (-9))), (6, .int x6), (7, .int ((h.1 86 j2) - (I 1)))] [])))) : GI g l X Q h 43 [(0, .ref 82), (1, .int x1), (2, .int x2), (3, .int x3), (4, .int x4), (5, .int x5), (6, .int x6)] [] := by
  refine g_iload (pc := 43) O rfl dX8_laid_43 ?_
  refine g_iloadn (pc := 45) O rfl dX8_laid_45 ?_
  refine g_icmp_gt (tgt := 150) (pc := 46) O dX8_laid_46 rfl (fun q1 => ?_) (fun q1 => ?_)
  · replace H := H.1 q1
    refine g_iload (pc := 150) O rfl dX8_laid_150 ?_
    exact g_iret (pc := 152) O dX8_laid_152 H
  · replace H := H.2 q1
    refine g_bipush (v := (I (-9))) (pc := 49) O (by decide) dX8_laid_49 ?_
    refine g_istore (lv' := [(0, .ref 82), (1, .int x1), (2, .int x2), (3, .int x3), (4, .int x4), (5, .int (I (-9))), (6, .int x6)]) (pc := 51) O dX8_laid_51 (ltb rfl) rfl ?_
    refine g_aloadn (pc := 53) O rfl dX8_laid_53 ?_
    refine g_getS (pc := 54) O cls8 fl_X8_19 dX8_laid_54 rfl (ltb rfl) (ltb rfl) rfl rfl ?_
    refine g_iloadn (pc := 57) O rfl dX8_laid_57 ?_
    obtain ⟨j2, ej2, bj2, H⟩ := H
    refine g_iald (j := j2) (pc := 58) O dX8_laid_58 ej2 rfl (ltb rfl) bj2 (ltb rfl) rfl ?_
    refine g_iconst (v := (I 1)) (pc := 59) O rfl dX8_laid_59 ?_
    refine g_isub (pc := 60) O dX8_laid_60 ?_
    refine g_istore (lv' := [(0, .ref 82), (1, .int x1), (2, .int x2), (3, .int x3), (4, .int x4), (5, .int (I (-9))), (6, .int x6), (7, .int ((h.1 86 j2) - (I 1)))]) (pc := 61) O dX8_laid_61 (ltb rfl) rfl ?_
    exact H
set_option maxRecDepth 20000 in
set_option maxHeartbeats 2000000 in
theorem bX8_laid_63 {g : mg} {l : Launch} {X : XT} {Q : Int32 → AH → Prop} (O : Ok (FF g l X) RX8 cX8_laid 8 mX8_laid.2.2.2.2 (some .int)) {x1 : Int32} {x2 : Int32} {x3 : Int32} {x4 : Int32} {x5 : Int32} {x6 : Int32} {x7 : Int32} {h : AH} (H : ((x7 < x4) → (((¬ x5 = (I (-9))) → (GI g l X Q h 43 [(0, .ref 82), (1, .int x1), (2, .int x2), (3, .int x3), (4, .int (x5 + (I 1))), (5, .int x5), (6, .int (x6 + I 1))] [])) ∧ ((x5 = (I (-9))) → (GI g l X Q h 43 [(0, .ref 82), (1, .int x1), (2, .int x2), (3, .int x3), (4, .int x4), (5, .int x5), (6, .int (x6 + I 1))] [])))) ∧ ((¬ (x7 < x4)) → (SpI g l mX8_areSame h [.ref 82, .int x1, .int x2, .int x6, .int x7] (fun v3 hv3 => ((v3 = 0) → (GI g l X Q hv3 63 [(0, .ref 82), (1, .int x1), (2, .int x2), (3, .int x3), (4, .int x4), (5, .int x5), (6, .int x6), (7, .int (x7 + I (-1)))] [])) ∧ ((¬ (v3 = 0)) → (SpI g l mX8_costOf hv3 [.ref 82, .int x1, .int x2, .int x6, .int x4, .int x7] (fun v5 hv5 => ∃ j6 : Nat, (((I 11) * x6) + x4) = I (j6 : Int) ∧ j6 < 121 ∧ (((¬ v5 = (hv5.1 108 j6)) → (GI g l X Q hv5 63 [(0, .ref 82), (1, .int x1), (2, .int x2), (3, .int x3), (4, .int x4), (5, .int x5), (6, .int x6), (7, .int (x7 + I (-1)))] [])) ∧ ((v5 = (hv5.1 108 j6)) → (GI g l X Q hv5 63 [(0, .ref 82), (1, .int x1), (2, .int x2), (3, .int x3), (4, .int x4), (5, .int x7), (6, .int x6), (7, .int (x7 + I (-1)))] [])))))))))) : GI g l X Q h 63 [(0, .ref 82), (1, .int x1), (2, .int x2), (3, .int x3), (4, .int x4), (5, .int x5), (6, .int x6), (7, .int x7)] [] := by
  refine g_iload (pc := 63) O rfl dX8_laid_63 ?_
  refine g_iload (pc := 65) O rfl dX8_laid_65 ?_
  refine g_icmp_lt (tgt := 126) (pc := 67) O dX8_laid_67 rfl (fun q1 => ?_) (fun q1 => ?_)
  · replace H := H.1 q1
    refine g_iload (pc := 126) O rfl dX8_laid_126 ?_
    refine g_bipush (v := (I (-9))) (pc := 128) O (by decide) dX8_laid_128 ?_
    refine g_icmp_ne (tgt := 138) (pc := 130) O dX8_laid_130 rfl (fun q2 => ?_) (fun q2 => ?_)
    · replace H := H.1 q2
      refine g_iload (pc := 138) O rfl dX8_laid_138 ?_
      refine g_iconst (v := (I 1)) (pc := 140) O rfl dX8_laid_140 ?_
      refine g_iadd (pc := 141) O dX8_laid_141 ?_
      refine g_istore (lv' := [(0, .ref 82), (1, .int x1), (2, .int x2), (3, .int x3), (4, .int (x5 + (I 1))), (5, .int x5), (6, .int x6), (7, .int x7)]) (pc := 142) O dX8_laid_142 (ltb rfl) rfl ?_
      refine g_iinc (lv' := [(0, .ref 82), (1, .int x1), (2, .int x2), (3, .int x3), (4, .int (x5 + (I 1))), (5, .int x5), (6, .int (x6 + I 1)), (7, .int x7)]) (pc := 144) O dX8_laid_144 rfl rfl (ltb rfl) rfl ?_
      refine g_goto (tgt := 43) (pc := 147) O dX8_laid_147 rfl ?_
      refine g_sub [0, 1, 2, 3, 4, 5, 6] rfl ?_
      exact H
    · replace H := H.2 q2
      refine g_iload (pc := 133) O rfl dX8_laid_133 ?_
      refine g_goto (tgt := 142) (pc := 135) O dX8_laid_135 rfl ?_
      refine g_istore (lv' := [(0, .ref 82), (1, .int x1), (2, .int x2), (3, .int x3), (4, .int x4), (5, .int x5), (6, .int x6), (7, .int x7)]) (pc := 142) O dX8_laid_142 (ltb rfl) rfl ?_
      refine g_iinc (lv' := [(0, .ref 82), (1, .int x1), (2, .int x2), (3, .int x3), (4, .int x4), (5, .int x5), (6, .int (x6 + I 1)), (7, .int x7)]) (pc := 144) O dX8_laid_144 rfl rfl (ltb rfl) rfl ?_
      refine g_goto (tgt := 43) (pc := 147) O dX8_laid_147 rfl ?_
      refine g_sub [0, 1, 2, 3, 4, 5, 6] rfl ?_
      exact H
  · replace H := H.2 q1
    refine g_aloadn (pc := 70) O rfl dX8_laid_70 ?_
    refine g_iloadn (pc := 71) O rfl dX8_laid_71 ?_
    refine g_iloadn (pc := 72) O rfl dX8_laid_72 ?_
    refine g_iload (pc := 73) O rfl dX8_laid_73 ?_
    refine g_iload (pc := 75) O rfl dX8_laid_75 ?_
    refine g_vI [.int x1, .int x2, .int x6, .int x7] [] (pc := 77) O mk_X8_areSame ml_X8_211 im_X8_areSame se_X8_areSame cls8 rfl ⟨rfl, rfl, leb rfl, leb rfl⟩ rfl (leb rfl) dX8_laid_77 H rfl (fun v3 hv3 H => ?_)
    refine g_if_eq (tgt := 116) (pc := 80) O dX8_laid_80 rfl (fun q4 => ?_) (fun q4 => ?_)
    · replace H := H.1 q4
      refine g_iload (pc := 116) O rfl dX8_laid_116 ?_
      refine g_istore (lv' := [(0, .ref 82), (1, .int x1), (2, .int x2), (3, .int x3), (4, .int x4), (5, .int x5), (6, .int x6), (7, .int x7)]) (pc := 118) O dX8_laid_118 (ltb rfl) rfl ?_
      refine g_iinc (lv' := [(0, .ref 82), (1, .int x1), (2, .int x2), (3, .int x3), (4, .int x4), (5, .int x5), (6, .int x6), (7, .int (x7 + I (-1)))]) (pc := 120) O dX8_laid_120 rfl rfl (ltb rfl) rfl ?_
      refine g_goto (tgt := 63) (pc := 123) O dX8_laid_123 rfl ?_
      exact H
    · replace H := H.2 q4
      refine g_aloadn (pc := 83) O rfl dX8_laid_83 ?_
      refine g_iloadn (pc := 84) O rfl dX8_laid_84 ?_
      refine g_iloadn (pc := 85) O rfl dX8_laid_85 ?_
      refine g_iload (pc := 86) O rfl dX8_laid_86 ?_
      refine g_iload (pc := 88) O rfl dX8_laid_88 ?_
      refine g_iload (pc := 90) O rfl dX8_laid_90 ?_
      refine g_vI [.int x1, .int x2, .int x6, .int x4, .int x7] [] (pc := 92) O mk_X8_costOf ml_X8_215 im_X8_costOf se_X8_costOf cls8 rfl ⟨rfl, rfl, leb rfl, leb rfl⟩ rfl (leb rfl) dX8_laid_92 H rfl (fun v5 hv5 H => ?_)
      refine g_aloadn (pc := 95) O rfl dX8_laid_95 ?_
      refine g_getS (pc := 96) O cls8 fl_X8_85 dX8_laid_96 rfl (ltb rfl) (ltb rfl) rfl rfl ?_
      refine g_bipush (v := (I 11)) (pc := 99) O (by decide) dX8_laid_99 ?_
      refine g_iload (pc := 101) O rfl dX8_laid_101 ?_
      refine g_imul (pc := 103) O dX8_laid_103 ?_
      refine g_iload (pc := 104) O rfl dX8_laid_104 ?_
      refine g_iadd (pc := 106) O dX8_laid_106 ?_
      obtain ⟨j6, ej6, bj6, H⟩ := H
      refine g_iald (j := j6) (pc := 107) O dX8_laid_107 ej6 rfl (ltb rfl) bj6 (ltb rfl) rfl ?_
      refine g_icmp_ne (tgt := 116) (pc := 108) O dX8_laid_108 rfl (fun q7 => ?_) (fun q7 => ?_)
      · replace H := H.1 q7
        refine g_iload (pc := 116) O rfl dX8_laid_116 ?_
        refine g_istore (lv' := [(0, .ref 82), (1, .int x1), (2, .int x2), (3, .int x3), (4, .int x4), (5, .int x5), (6, .int x6), (7, .int x7)]) (pc := 118) O dX8_laid_118 (ltb rfl) rfl ?_
        refine g_iinc (lv' := [(0, .ref 82), (1, .int x1), (2, .int x2), (3, .int x3), (4, .int x4), (5, .int x5), (6, .int x6), (7, .int (x7 + I (-1)))]) (pc := 120) O dX8_laid_120 rfl rfl (ltb rfl) rfl ?_
        refine g_goto (tgt := 63) (pc := 123) O dX8_laid_123 rfl ?_
        exact H
      · replace H := H.2 q7
        refine g_iload (pc := 111) O rfl dX8_laid_111 ?_
        refine g_goto (tgt := 118) (pc := 113) O dX8_laid_113 rfl ?_
        refine g_istore (lv' := [(0, .ref 82), (1, .int x1), (2, .int x2), (3, .int x3), (4, .int x4), (5, .int x7), (6, .int x6), (7, .int x7)]) (pc := 118) O dX8_laid_118 (ltb rfl) rfl ?_
        refine g_iinc (lv' := [(0, .ref 82), (1, .int x1), (2, .int x2), (3, .int x3), (4, .int x4), (5, .int x7), (6, .int x6), (7, .int (x7 + I (-1)))]) (pc := 120) O dX8_laid_120 rfl rfl (ltb rfl) rfl ?_
        refine g_goto (tgt := 63) (pc := 123) O dX8_laid_123 rfl ?_
        exact H
set_option maxRecDepth 20000 in
set_option maxHeartbeats 2000000 in
theorem sX8_laid {g : mg} {l : Launch} {Q : Int32 → AH → Prop} {x1 : Int32} {x2 : Int32} {x3 : Int32} {h : AH} (H : ∀ X, Ok (FF g l X) RX8 cX8_laid 8 mX8_laid.2.2.2.2 (some .int) → SpI g l mX8_areTwo h [.ref 82, .int x1, .int x2] (fun v1 hv1 => ((v1 = 0) → (Q (I (-1)) hv1)) ∧ ((¬ (v1 = 0)) → (∃ j3 : Nat, x1 = I (j3 : Int) ∧ j3 < 4 ∧ (SpI g l mX8_in hv1 [.int x3, .int (I 0), .int ((hv1.1 86 j3) - (I 1))] (fun v4 hv4 => ((¬ v4 = 0) → (SpV g l mX8_lay hv4 [.ref 82, .int x1, .int x2] (fun hv6 => GI g l X Q hv6 43 [(0, .ref 82), (1, .int x1), (2, .int x2), (3, .int x3), (4, .int (I 0)), (5, .int (I (-9))), (6, .int (I 0))] []))) ∧ ((v4 = 0) → (Q (I (-1)) hv4)))))))) : SpI g l mX8_laid h [.ref 82, .int x1, .int x2, .int x3] Q := spI_of (by decide) (leb rfl) (fun X O => bX8_laid_0 O (H X O))
set_option maxRecDepth 20000 in
set_option maxHeartbeats 2000000 in
theorem bX8_behind_0 {g : mg} {l : Launch} {X : XT} {Q : Int32 → AH → Prop} (O : Ok (FF g l X) RX8 cX8_behind 5 mX8_behind.2.2.2.2 (some .int)) {x1 : Int32} {h : AH} (H : GI g l X Q (sI h 82 50 (I 0)) 9 [(0, .ref 82), (1, .int x1), (2, .int (I 0)), (3, .int (I 0))] []) : GI g l X Q h 0 [(0, .ref 82), (1, .int x1)] [] := by
  refine g_iconst (v := (I 0)) (pc := 0) O rfl dX8_behind_0 ?_
  refine g_istoren (lv' := [(0, .ref 82), (1, .int x1), (2, .int (I 0))]) (pc := 1) O dX8_behind_1 rfl (ltb rfl) rfl ?_
  refine g_aloadn (pc := 2) O rfl dX8_behind_2 ?_
  refine g_iconst (v := (I 0)) (pc := 3) O rfl dX8_behind_3 ?_
  refine g_putZ (pc := 4) O cls8 fl_X8_228 dX8_behind_4 rfl (ltb rfl) (leb rfl) (ltb rfl) rfl rfl (by decide +kernel) (by decide) ?_
  refine g_iconst (v := (I 0)) (pc := 7) O rfl dX8_behind_7 ?_
  refine g_istoren (lv' := [(0, .ref 82), (1, .int x1), (2, .int (I 0)), (3, .int (I 0))]) (pc := 8) O dX8_behind_8 rfl (ltb rfl) rfl ?_
  exact H
set_option maxRecDepth 20000 in
set_option maxHeartbeats 2000000 in
theorem bX8_behind_9 {g : mg} {l : Launch} {X : XT} {Q : Int32 → AH → Prop} (O : Ok (FF g l X) RX8 cX8_behind 5 mX8_behind.2.2.2.2 (some .int)) {x1 : Int32} {x2 : Int32} {x3 : Int32} {h : AH} (H : (((h.1 82 6) ≤ x3) → (Q x2 h)) ∧ ((¬ ((h.1 82 6) ≤ x3)) → (∃ j2 : Nat, x3 = I (j2 : Int) ∧ j2 < 4 ∧ (∃ j3 : Nat, x3 = I (j3 : Int) ∧ j3 < 4 ∧ ((((h.1 86 j3) ≤ (h.1 111 j2)) → (GI g l X Q h 60 [(0, .ref 82), (1, .int x1), (2, .int x2), (3, .int x3)] [])) ∧ ((¬ ((h.1 86 j3) ≤ (h.1 111 j2))) → (∃ j5 : Nat, x3 = I (j5 : Int) ∧ j5 < 4 ∧ (∃ j6 : Nat, (((I 10) * x3) + (h.1 111 j5)) = I (j6 : Int) ∧ j6 < 40 ∧ (SpI g l mX8_isSame h [.ref 82, .int x1, .int (h.1 87 j6)] (fun v7 hv7 => ((v7 = 0) → (GI g l X Q hv7 60 [(0, .ref 82), (1, .int x1), (2, .int x2), (3, .int x3)] [])) ∧ ((¬ (v7 = 0)) → ((((I 1) = 0) → (∃ j10 : Nat, x3 = I (j10 : Int) ∧ j10 < 4 ∧ (GI g l X Q hv7 90 [(0, .ref 82), (1, .int x1), (2, .int x2), (3, .int x3), (4, .int (I 1))] [.int (hv7.1 111 j10), .int x3, .ref 112]))) ∧ ((¬ ((I 1) = 0)) → (∃ j11 : Nat, x3 = I (j11 : Int) ∧ j11 < 4 ∧ (GI g l X Q hv7 90 [(0, .ref 82), (1, .int x1), (2, .int x2), (3, .int x3), (4, .int (I 1))] [.int ((hv7.1 111 j11) + (I 1)), .int x3, .ref 112]))))))))))))))) : GI g l X Q h 9 [(0, .ref 82), (1, .int x1), (2, .int x2), (3, .int x3)] [] := by
  refine g_iloadn (pc := 9) O rfl dX8_behind_9 ?_
  refine g_aloadn (pc := 10) O rfl dX8_behind_10 ?_
  refine g_getI (v := h.1 82 6) (pc := 11) O cls8 fl_X8_173 dX8_behind_11 rfl (ltb rfl) (ltb rfl) rfl rfl ?_
  refine g_icmp_ge (tgt := 130) (pc := 14) O dX8_behind_14 rfl (fun q1 => ?_) (fun q1 => ?_)
  · replace H := H.1 q1
    refine g_iloadn (pc := 130) O rfl dX8_behind_130 ?_
    exact g_iret (pc := 131) O dX8_behind_131 H
  · replace H := H.2 q1
    refine g_aloadn (pc := 17) O rfl dX8_behind_17 ?_
    refine g_getS (pc := 18) O cls8 fl_X8_95 dX8_behind_18 rfl (ltb rfl) (ltb rfl) rfl rfl ?_
    refine g_iloadn (pc := 21) O rfl dX8_behind_21 ?_
    obtain ⟨j2, ej2, bj2, H⟩ := H
    refine g_iald (j := j2) (pc := 22) O dX8_behind_22 ej2 rfl (ltb rfl) bj2 (ltb rfl) rfl ?_
    refine g_aloadn (pc := 23) O rfl dX8_behind_23 ?_
    refine g_getS (pc := 24) O cls8 fl_X8_19 dX8_behind_24 rfl (ltb rfl) (ltb rfl) rfl rfl ?_
    refine g_iloadn (pc := 27) O rfl dX8_behind_27 ?_
    obtain ⟨j3, ej3, bj3, H⟩ := H
    refine g_iald (j := j3) (pc := 28) O dX8_behind_28 ej3 rfl (ltb rfl) bj3 (ltb rfl) rfl ?_
    refine g_icmp_ge (tgt := 60) (pc := 29) O dX8_behind_29 rfl (fun q4 => ?_) (fun q4 => ?_)
    · replace H := H.1 q4
      exact H
    · replace H := H.2 q4
      refine g_aloadn (pc := 32) O rfl dX8_behind_32 ?_
      refine g_iloadn (pc := 33) O rfl dX8_behind_33 ?_
      refine g_aloadn (pc := 34) O rfl dX8_behind_34 ?_
      refine g_getS (pc := 35) O cls8 fl_X8_22 dX8_behind_35 rfl (ltb rfl) (ltb rfl) rfl rfl ?_
      refine g_bipush (v := (I 10)) (pc := 38) O (by decide) dX8_behind_38 ?_
      refine g_iloadn (pc := 40) O rfl dX8_behind_40 ?_
      refine g_imul (pc := 41) O dX8_behind_41 ?_
      refine g_aloadn (pc := 42) O rfl dX8_behind_42 ?_
      refine g_getS (pc := 43) O cls8 fl_X8_95 dX8_behind_43 rfl (ltb rfl) (ltb rfl) rfl rfl ?_
      refine g_iloadn (pc := 46) O rfl dX8_behind_46 ?_
      obtain ⟨j5, ej5, bj5, H⟩ := H
      refine g_iald (j := j5) (pc := 47) O dX8_behind_47 ej5 rfl (ltb rfl) bj5 (ltb rfl) rfl ?_
      refine g_iadd (pc := 48) O dX8_behind_48 ?_
      obtain ⟨j6, ej6, bj6, H⟩ := H
      refine g_iald (j := j6) (pc := 49) O dX8_behind_49 ej6 rfl (ltb rfl) bj6 (ltb rfl) rfl ?_
      refine g_vI [.int x1, .int (h.1 87 j6)] [] (pc := 50) O mk_X8_isSame ml_X8_208 im_X8_isSame se_X8_isSame cls8 rfl ⟨rfl, rfl, leb rfl, leb rfl⟩ rfl (leb rfl) dX8_behind_50 H rfl (fun v7 hv7 H => ?_)
      refine g_if_eq (tgt := 60) (pc := 53) O dX8_behind_53 rfl (fun q8 => ?_) (fun q8 => ?_)
      · replace H := H.1 q8
        exact H
      · replace H := H.2 q8
        refine g_iconst (v := (I 1)) (pc := 56) O rfl dX8_behind_56 ?_
        refine g_goto (tgt := 61) (pc := 57) O dX8_behind_57 rfl ?_
        refine g_istore (lv' := [(0, .ref 82), (1, .int x1), (2, .int x2), (3, .int x3), (4, .int (I 1))]) (pc := 61) O dX8_behind_61 (ltb rfl) rfl ?_
        refine g_aloadn (pc := 63) O rfl dX8_behind_63 ?_
        refine g_getS (pc := 64) O cls8 fl_X8_98 dX8_behind_64 rfl (ltb rfl) (ltb rfl) rfl rfl ?_
        refine g_iloadn (pc := 67) O rfl dX8_behind_67 ?_
        refine g_iload (pc := 68) O rfl dX8_behind_68 ?_
        refine g_if_eq (tgt := 84) (pc := 70) O dX8_behind_70 rfl (fun q9 => ?_) (fun q9 => ?_)
        · replace H := H.1 q9
          refine g_aloadn (pc := 84) O rfl dX8_behind_84 ?_
          refine g_getS (pc := 85) O cls8 fl_X8_95 dX8_behind_85 rfl (ltb rfl) (ltb rfl) rfl rfl ?_
          refine g_iloadn (pc := 88) O rfl dX8_behind_88 ?_
          obtain ⟨j10, ej10, bj10, H⟩ := H
          refine g_iald (j := j10) (pc := 89) O dX8_behind_89 ej10 rfl (ltb rfl) bj10 (ltb rfl) rfl ?_
          exact H
        · replace H := H.2 q9
          refine g_aloadn (pc := 73) O rfl dX8_behind_73 ?_
          refine g_getS (pc := 74) O cls8 fl_X8_95 dX8_behind_74 rfl (ltb rfl) (ltb rfl) rfl rfl ?_
          refine g_iloadn (pc := 77) O rfl dX8_behind_77 ?_
          obtain ⟨j11, ej11, bj11, H⟩ := H
          refine g_iald (j := j11) (pc := 78) O dX8_behind_78 ej11 rfl (ltb rfl) bj11 (ltb rfl) rfl ?_
          refine g_iconst (v := (I 1)) (pc := 79) O rfl dX8_behind_79 ?_
          refine g_iadd (pc := 80) O dX8_behind_80 ?_
          refine g_goto (tgt := 90) (pc := 81) O dX8_behind_81 rfl ?_
          exact H
set_option maxRecDepth 20000 in
set_option maxHeartbeats 2000000 in
theorem bX8_behind_60 {g : mg} {l : Launch} {X : XT} {Q : Int32 → AH → Prop} (O : Ok (FF g l X) RX8 cX8_behind 5 mX8_behind.2.2.2.2 (some .int)) {x1 : Int32} {x2 : Int32} {x3 : Int32} {h : AH} (H : (((I 0) = 0) → (∃ j2 : Nat, x3 = I (j2 : Int) ∧ j2 < 4 ∧ (GI g l X Q h 90 [(0, .ref 82), (1, .int x1), (2, .int x2), (3, .int x3), (4, .int (I 0))] [.int (h.1 111 j2), .int x3, .ref 112]))) ∧ ((¬ ((I 0) = 0)) → (∃ j3 : Nat, x3 = I (j3 : Int) ∧ j3 < 4 ∧ (GI g l X Q h 90 [(0, .ref 82), (1, .int x1), (2, .int x2), (3, .int x3), (4, .int (I 0))] [.int ((h.1 111 j3) + (I 1)), .int x3, .ref 112])))) : GI g l X Q h 60 [(0, .ref 82), (1, .int x1), (2, .int x2), (3, .int x3)] [] := by
  refine g_iconst (v := (I 0)) (pc := 60) O rfl dX8_behind_60 ?_
  refine g_istore (lv' := [(0, .ref 82), (1, .int x1), (2, .int x2), (3, .int x3), (4, .int (I 0))]) (pc := 61) O dX8_behind_61 (ltb rfl) rfl ?_
  refine g_aloadn (pc := 63) O rfl dX8_behind_63 ?_
  refine g_getS (pc := 64) O cls8 fl_X8_98 dX8_behind_64 rfl (ltb rfl) (ltb rfl) rfl rfl ?_
  refine g_iloadn (pc := 67) O rfl dX8_behind_67 ?_
  refine g_iload (pc := 68) O rfl dX8_behind_68 ?_
  refine g_if_eq (tgt := 84) (pc := 70) O dX8_behind_70 rfl (fun q1 => ?_) (fun q1 => ?_)
  · replace H := H.1 q1
    refine g_aloadn (pc := 84) O rfl dX8_behind_84 ?_
    refine g_getS (pc := 85) O cls8 fl_X8_95 dX8_behind_85 rfl (ltb rfl) (ltb rfl) rfl rfl ?_
    refine g_iloadn (pc := 88) O rfl dX8_behind_88 ?_
    obtain ⟨j2, ej2, bj2, H⟩ := H
    refine g_iald (j := j2) (pc := 89) O dX8_behind_89 ej2 rfl (ltb rfl) bj2 (ltb rfl) rfl ?_
    exact H
  · replace H := H.2 q1
    refine g_aloadn (pc := 73) O rfl dX8_behind_73 ?_
    refine g_getS (pc := 74) O cls8 fl_X8_95 dX8_behind_74 rfl (ltb rfl) (ltb rfl) rfl rfl ?_
    refine g_iloadn (pc := 77) O rfl dX8_behind_77 ?_
    obtain ⟨j3, ej3, bj3, H⟩ := H
    refine g_iald (j := j3) (pc := 78) O dX8_behind_78 ej3 rfl (ltb rfl) bj3 (ltb rfl) rfl ?_
    refine g_iconst (v := (I 1)) (pc := 79) O rfl dX8_behind_79 ?_
    refine g_iadd (pc := 80) O dX8_behind_80 ?_
    refine g_goto (tgt := 90) (pc := 81) O dX8_behind_81 rfl ?_
    exact H
set_option maxRecDepth 20000 in
set_option maxHeartbeats 2000000 in
theorem bX8_behind_90 {g : mg} {l : Launch} {X : XT} {Q : Int32 → AH → Prop} (O : Ok (FF g l X) RX8 cX8_behind 5 mX8_behind.2.2.2.2 (some .int)) {x1 : Int32} {x2 : Int32} {x3 : Int32} {x4 : Int32} {s0 ns0 : Nat} (hs0 : lay s0 = (100, ns0)) (ks0 : ns0 < 2 ^ 31) {s1 : Int32} {s2 : Int32} {h : AH} (H : ∃ j1 : Nat, s1 = I (j1 : Int) ∧ j1 < ns0 ∧ (((¬ ((sI h s0 j1 s2).1 82 50) = 0) → (∃ j3 : Nat, x3 = I (j3 : Int) ∧ j3 < 4 ∧ (GI g l X Q (sI (sI h s0 j1 s2) 82 50 (I 1)) 9 [(0, .ref 82), (1, .int x1), (2, .int (((I 11) * x2) + ((sI h s0 j1 s2).1 112 j3))), (3, .int (x3 + I 1))] []))) ∧ ((((sI h s0 j1 s2).1 82 50) = 0) → (((x4 = 0) → (∃ j5 : Nat, x3 = I (j5 : Int) ∧ j5 < 4 ∧ (GI g l X Q (sI (sI h s0 j1 s2) 82 50 (I 0)) 9 [(0, .ref 82), (1, .int x1), (2, .int (((I 11) * x2) + ((sI h s0 j1 s2).1 112 j5))), (3, .int (x3 + I 1))] []))) ∧ ((¬ (x4 = 0)) → (∃ j6 : Nat, x3 = I (j6 : Int) ∧ j6 < 4 ∧ (GI g l X Q (sI (sI h s0 j1 s2) 82 50 (I 1)) 9 [(0, .ref 82), (1, .int x1), (2, .int (((I 11) * x2) + ((sI h s0 j1 s2).1 112 j6))), (3, .int (x3 + I 1))] []))))))) : GI g l X Q h 90 [(0, .ref 82), (1, .int x1), (2, .int x2), (3, .int x3), (4, .int x4)] [.int s2, .int s1, .ref s0] := by
  obtain ⟨j1, ej1, bj1, H⟩ := H
  refine g_iast (j := j1) (pc := 90) O dX8_behind_90 ej1 hs0 (lay_lt hs0 (by decide)) (leb rfl) bj1 ks0 ?_
  refine g_aloadn (pc := 91) O rfl dX8_behind_91 ?_
  refine g_aloadn (pc := 92) O rfl dX8_behind_92 ?_
  refine g_getI (v := (sI h s0 j1 s2).1 82 50) (pc := 93) O cls8 fl_X8_228 dX8_behind_93 rfl (ltb rfl) (ltb rfl) rfl rfl ?_
  refine g_if_ne (tgt := 104) (pc := 96) O dX8_behind_96 rfl (fun q2 => ?_) (fun q2 => ?_)
  · replace H := H.1 q2
    refine g_iconst (v := (I 1)) (pc := 104) O rfl dX8_behind_104 ?_
    refine g_goto (tgt := 109) (pc := 105) O dX8_behind_105 rfl ?_
    refine g_putZ (pc := 109) O cls8 fl_X8_228 dX8_behind_109 rfl (ltb rfl) (leb rfl) (ltb rfl) rfl rfl (by decide +kernel) (by decide) ?_
    refine g_bipush (v := (I 11)) (pc := 112) O (by decide) dX8_behind_112 ?_
    refine g_iloadn (pc := 114) O rfl dX8_behind_114 ?_
    refine g_imul (pc := 115) O dX8_behind_115 ?_
    refine g_aloadn (pc := 116) O rfl dX8_behind_116 ?_
    refine g_getS (pc := 117) O cls8 fl_X8_98 dX8_behind_117 rfl (ltb rfl) (ltb rfl) rfl rfl ?_
    refine g_iloadn (pc := 120) O rfl dX8_behind_120 ?_
    obtain ⟨j3, ej3, bj3, H⟩ := H
    refine g_iald (j := j3) (pc := 121) O dX8_behind_121 ej3 rfl (ltb rfl) bj3 (ltb rfl) rfl ?_
    refine g_iadd (pc := 122) O dX8_behind_122 ?_
    refine g_istoren (lv' := [(0, .ref 82), (1, .int x1), (2, .int (((I 11) * x2) + ((sI h s0 j1 s2).1 112 j3))), (3, .int x3), (4, .int x4)]) (pc := 123) O dX8_behind_123 rfl (ltb rfl) rfl ?_
    refine g_iinc (lv' := [(0, .ref 82), (1, .int x1), (2, .int (((I 11) * x2) + ((sI h s0 j1 s2).1 112 j3))), (3, .int (x3 + I 1)), (4, .int x4)]) (pc := 124) O dX8_behind_124 rfl rfl (ltb rfl) rfl ?_
    refine g_goto (tgt := 9) (pc := 127) O dX8_behind_127 rfl ?_
    refine g_sub [0, 1, 2, 3] rfl ?_
    exact H
  · replace H := H.2 q2
    refine g_iload (pc := 99) O rfl dX8_behind_99 ?_
    refine g_if_eq (tgt := 108) (pc := 101) O dX8_behind_101 rfl (fun q4 => ?_) (fun q4 => ?_)
    · replace H := H.1 q4
      refine g_iconst (v := (I 0)) (pc := 108) O rfl dX8_behind_108 ?_
      refine g_putZ (pc := 109) O cls8 fl_X8_228 dX8_behind_109 rfl (ltb rfl) (leb rfl) (ltb rfl) rfl rfl (by decide +kernel) (by decide) ?_
      refine g_bipush (v := (I 11)) (pc := 112) O (by decide) dX8_behind_112 ?_
      refine g_iloadn (pc := 114) O rfl dX8_behind_114 ?_
      refine g_imul (pc := 115) O dX8_behind_115 ?_
      refine g_aloadn (pc := 116) O rfl dX8_behind_116 ?_
      refine g_getS (pc := 117) O cls8 fl_X8_98 dX8_behind_117 rfl (ltb rfl) (ltb rfl) rfl rfl ?_
      refine g_iloadn (pc := 120) O rfl dX8_behind_120 ?_
      obtain ⟨j5, ej5, bj5, H⟩ := H
      refine g_iald (j := j5) (pc := 121) O dX8_behind_121 ej5 rfl (ltb rfl) bj5 (ltb rfl) rfl ?_
      refine g_iadd (pc := 122) O dX8_behind_122 ?_
      refine g_istoren (lv' := [(0, .ref 82), (1, .int x1), (2, .int (((I 11) * x2) + ((sI h s0 j1 s2).1 112 j5))), (3, .int x3), (4, .int x4)]) (pc := 123) O dX8_behind_123 rfl (ltb rfl) rfl ?_
      refine g_iinc (lv' := [(0, .ref 82), (1, .int x1), (2, .int (((I 11) * x2) + ((sI h s0 j1 s2).1 112 j5))), (3, .int (x3 + I 1)), (4, .int x4)]) (pc := 124) O dX8_behind_124 rfl rfl (ltb rfl) rfl ?_
      refine g_goto (tgt := 9) (pc := 127) O dX8_behind_127 rfl ?_
      refine g_sub [0, 1, 2, 3] rfl ?_
      exact H
    · replace H := H.2 q4
      refine g_iconst (v := (I 1)) (pc := 104) O rfl dX8_behind_104 ?_
      refine g_goto (tgt := 109) (pc := 105) O dX8_behind_105 rfl ?_
      refine g_putZ (pc := 109) O cls8 fl_X8_228 dX8_behind_109 rfl (ltb rfl) (leb rfl) (ltb rfl) rfl rfl (by decide +kernel) (by decide) ?_
      refine g_bipush (v := (I 11)) (pc := 112) O (by decide) dX8_behind_112 ?_
      refine g_iloadn (pc := 114) O rfl dX8_behind_114 ?_
      refine g_imul (pc := 115) O dX8_behind_115 ?_
      refine g_aloadn (pc := 116) O rfl dX8_behind_116 ?_
      refine g_getS (pc := 117) O cls8 fl_X8_98 dX8_behind_117 rfl (ltb rfl) (ltb rfl) rfl rfl ?_
      refine g_iloadn (pc := 120) O rfl dX8_behind_120 ?_
      obtain ⟨j6, ej6, bj6, H⟩ := H
      refine g_iald (j := j6) (pc := 121) O dX8_behind_121 ej6 rfl (ltb rfl) bj6 (ltb rfl) rfl ?_
      refine g_iadd (pc := 122) O dX8_behind_122 ?_
      refine g_istoren (lv' := [(0, .ref 82), (1, .int x1), (2, .int (((I 11) * x2) + ((sI h s0 j1 s2).1 112 j6))), (3, .int x3), (4, .int x4)]) (pc := 123) O dX8_behind_123 rfl (ltb rfl) rfl ?_
      refine g_iinc (lv' := [(0, .ref 82), (1, .int x1), (2, .int (((I 11) * x2) + ((sI h s0 j1 s2).1 112 j6))), (3, .int (x3 + I 1)), (4, .int x4)]) (pc := 124) O dX8_behind_124 rfl rfl (ltb rfl) rfl ?_
      refine g_goto (tgt := 9) (pc := 127) O dX8_behind_127 rfl ?_
      refine g_sub [0, 1, 2, 3] rfl ?_
      exact H
set_option maxRecDepth 20000 in
set_option maxHeartbeats 2000000 in
theorem sX8_behind {g : mg} {l : Launch} {Q : Int32 → AH → Prop} {x1 : Int32} {h : AH} (H : ∀ X, Ok (FF g l X) RX8 cX8_behind 5 mX8_behind.2.2.2.2 (some .int) → GI g l X Q (sI h 82 50 (I 0)) 9 [(0, .ref 82), (1, .int x1), (2, .int (I 0)), (3, .int (I 0))] []) : SpI g l mX8_behind h [.ref 82, .int x1] Q := spI_of (by decide) (leb rfl) (fun X O => bX8_behind_0 O (H X O))
set_option maxRecDepth 20000 in
set_option maxHeartbeats 2000000 in
theorem bX8_make_0 {g : mg} {l : Launch} {X : XT} {Q : AH → Prop} (O : Ok (FF g l X) RX8 cX8_make 3 mX8_make.2.2.2.2 none)  {h : AH} (H : (((h.1 82 41) = 0) → (GV g l X Q (sI h 82 41 (I 1)) 17 [(0, .ref 82), (1, .int (I 1)), (2, .int (I 0))] [])) ∧ ((¬ ((h.1 82 41) = 0)) → (Q h))) : GV g l X Q h 0 [(0, .ref 82)] [] := by
  refine g_aloadn (pc := 0) O rfl dX8_make_0 ?_
  refine g_getI (v := h.1 82 41) (pc := 1) O cls8 fl_X8_180 dX8_make_1 rfl (ltb rfl) (ltb rfl) rfl rfl ?_
  refine g_if_eq (tgt := 8) (pc := 4) O dX8_make_4 rfl (fun q1 => ?_) (fun q1 => ?_)
  · replace H := H.1 q1
    refine g_aloadn (pc := 8) O rfl dX8_make_8 ?_
    refine g_iconst (v := (I 1)) (pc := 9) O rfl dX8_make_9 ?_
    refine g_putZ (pc := 10) O cls8 fl_X8_180 dX8_make_10 rfl (ltb rfl) (leb rfl) (ltb rfl) rfl rfl (by decide +kernel) (by decide) ?_
    refine g_iconst (v := (I 1)) (pc := 13) O rfl dX8_make_13 ?_
    refine g_istoren (lv' := [(0, .ref 82), (1, .int (I 1))]) (pc := 14) O dX8_make_14 rfl (ltb rfl) rfl ?_
    refine g_iconst (v := (I 0)) (pc := 15) O rfl dX8_make_15 ?_
    refine g_istoren (lv' := [(0, .ref 82), (1, .int (I 1)), (2, .int (I 0))]) (pc := 16) O dX8_make_16 rfl (ltb rfl) rfl ?_
    exact H
  · replace H := H.2 q1
    exact g_vret (pc := 7) O dX8_make_7 H
set_option maxRecDepth 20000 in
set_option maxHeartbeats 2000000 in
theorem bX8_make_17 {g : mg} {l : Launch} {X : XT} {Q : AH → Prop} (O : Ok (FF g l X) RX8 cX8_make 3 mX8_make.2.2.2.2 none) {x1 : Int32} {x2 : Int32} {h : AH} (H : (((h.1 82 6) ≤ x2) → (GV g l X Q h 40 [(0, .ref 82), (2, .int (x1 - (I 1)))] [])) ∧ ((¬ ((h.1 82 6) ≤ x2)) → (GV g l X Q h 17 [(0, .ref 82), (1, .int ((I 11) * x1)), (2, .int (x2 + I 1))] []))) : GV g l X Q h 17 [(0, .ref 82), (1, .int x1), (2, .int x2)] [] := by
  refine g_iloadn (pc := 17) O rfl dX8_make_17 ?_
  refine g_aloadn (pc := 18) O rfl dX8_make_18 ?_
  refine g_getI (v := h.1 82 6) (pc := 19) O cls8 fl_X8_173 dX8_make_19 rfl (ltb rfl) (ltb rfl) rfl rfl ?_
  refine g_icmp_ge (tgt := 36) (pc := 22) O dX8_make_22 rfl (fun q1 => ?_) (fun q1 => ?_)
  · replace H := H.1 q1
    refine g_iloadn (pc := 36) O rfl dX8_make_36 ?_
    refine g_iconst (v := (I 1)) (pc := 37) O rfl dX8_make_37 ?_
    refine g_isub (pc := 38) O dX8_make_38 ?_
    refine g_istoren (lv' := [(0, .ref 82), (1, .int x1), (2, .int (x1 - (I 1)))]) (pc := 39) O dX8_make_39 rfl (ltb rfl) rfl ?_
    refine g_sub [0, 2] rfl ?_
    exact H
  · replace H := H.2 q1
    refine g_bipush (v := (I 11)) (pc := 25) O (by decide) dX8_make_25 ?_
    refine g_iloadn (pc := 27) O rfl dX8_make_27 ?_
    refine g_imul (pc := 28) O dX8_make_28 ?_
    refine g_istoren (lv' := [(0, .ref 82), (1, .int ((I 11) * x1)), (2, .int x2)]) (pc := 29) O dX8_make_29 rfl (ltb rfl) rfl ?_
    refine g_iinc (lv' := [(0, .ref 82), (1, .int ((I 11) * x1)), (2, .int (x2 + I 1))]) (pc := 30) O dX8_make_30 rfl rfl (ltb rfl) rfl ?_
    refine g_goto (tgt := 17) (pc := 33) O dX8_make_33 rfl ?_
    exact H
set_option maxRecDepth 20000 in
set_option maxHeartbeats 2000000 in
theorem bX8_make_40 {g : mg} {l : Launch} {X : XT} {Q : AH → Prop} (O : Ok (FF g l X) RX8 cX8_make 3 mX8_make.2.2.2.2 none) {x2 : Int32} {h : AH} (H : ((x2 < 0) → (GV g l X Q h 57 [(0, .ref 82), (2, .int (I 0))] [])) ∧ ((¬ (x2 < 0)) → (SpV g l mX8_weigh h [.ref 82, .int x2] (fun hv2 => GV g l X Q hv2 40 [(0, .ref 82), (2, .int (x2 + I (-1)))] [])))) : GV g l X Q h 40 [(0, .ref 82), (2, .int x2)] [] := by
  refine g_iloadn (pc := 40) O rfl dX8_make_40 ?_
  refine g_if_lt (tgt := 55) (pc := 41) O dX8_make_41 rfl (fun q1 => ?_) (fun q1 => ?_)
  · replace H := H.1 q1
    refine g_iconst (v := (I 0)) (pc := 55) O rfl dX8_make_55 ?_
    refine g_istoren (lv' := [(0, .ref 82), (2, .int (I 0))]) (pc := 56) O dX8_make_56 rfl (ltb rfl) rfl ?_
    exact H
  · replace H := H.2 q1
    refine g_aloadn (pc := 44) O rfl dX8_make_44 ?_
    refine g_iloadn (pc := 45) O rfl dX8_make_45 ?_
    refine g_vV [.int x2] [] (pc := 46) O mk_X8_weigh ml_X8_231 im_X8_weigh se_X8_weigh cls8 rfl ⟨rfl, rfl, leb rfl, leb rfl⟩ rfl (leb rfl) dX8_make_46 H rfl (fun hv2 H => ?_)
    refine g_iinc (lv' := [(0, .ref 82), (2, .int (x2 + I (-1)))]) (pc := 49) O dX8_make_49 rfl rfl (ltb rfl) rfl ?_
    refine g_goto (tgt := 40) (pc := 52) O dX8_make_52 rfl ?_
    exact H
set_option maxRecDepth 20000 in
set_option maxHeartbeats 2000000 in
theorem bX8_make_57 {g : mg} {l : Launch} {X : XT} {Q : AH → Prop} (O : Ok (FF g l X) RX8 cX8_make 3 mX8_make.2.2.2.2 none) {x2 : Int32} {h : AH} (H : (((h.1 82 6) ≤ x2) → (GV g l X Q (sI h 82 38 (I 0)) 85 [(0, .ref 82), (2, .int (I 0))] [])) ∧ ((¬ ((h.1 82 6) ≤ x2)) → (∃ j2 : Nat, x2 = I (j2 : Int) ∧ j2 < 4 ∧ (GV g l X Q (sI h 111 j2 (I 0)) 57 [(0, .ref 82), (2, .int (x2 + I 1))] [])))) : GV g l X Q h 57 [(0, .ref 82), (2, .int x2)] [] := by
  refine g_iloadn (pc := 57) O rfl dX8_make_57 ?_
  refine g_aloadn (pc := 58) O rfl dX8_make_58 ?_
  refine g_getI (v := h.1 82 6) (pc := 59) O cls8 fl_X8_173 dX8_make_59 rfl (ltb rfl) (ltb rfl) rfl rfl ?_
  refine g_icmp_ge (tgt := 78) (pc := 62) O dX8_make_62 rfl (fun q1 => ?_) (fun q1 => ?_)
  · replace H := H.1 q1
    refine g_aloadn (pc := 78) O rfl dX8_make_78 ?_
    refine g_iconst (v := (I 0)) (pc := 79) O rfl dX8_make_79 ?_
    refine g_putI (pc := 80) O cls8 fl_X8_235 dX8_make_80 rfl (ltb rfl) (leb rfl) (ltb rfl) rfl rfl (by decide +kernel) ?_
    refine g_iconst (v := (I 0)) (pc := 83) O rfl dX8_make_83 ?_
    refine g_istoren (lv' := [(0, .ref 82), (2, .int (I 0))]) (pc := 84) O dX8_make_84 rfl (ltb rfl) rfl ?_
    exact H
  · replace H := H.2 q1
    refine g_aloadn (pc := 65) O rfl dX8_make_65 ?_
    refine g_getS (pc := 66) O cls8 fl_X8_95 dX8_make_66 rfl (ltb rfl) (ltb rfl) rfl rfl ?_
    refine g_iloadn (pc := 69) O rfl dX8_make_69 ?_
    refine g_iconst (v := (I 0)) (pc := 70) O rfl dX8_make_70 ?_
    obtain ⟨j2, ej2, bj2, H⟩ := H
    refine g_iast (j := j2) (pc := 71) O dX8_make_71 ej2 rfl (ltb rfl) (leb rfl) bj2 (ltb rfl) ?_
    refine g_iinc (lv' := [(0, .ref 82), (2, .int (x2 + I 1))]) (pc := 72) O dX8_make_72 rfl rfl (ltb rfl) rfl ?_
    refine g_goto (tgt := 57) (pc := 75) O dX8_make_75 rfl ?_
    exact H
set_option maxRecDepth 20000 in
set_option maxHeartbeats 2000000 in
theorem bX8_make_85 {g : mg} {l : Launch} {X : XT} {Q : AH → Prop} (O : Ok (FF g l X) RX8 cX8_make 3 mX8_make.2.2.2.2 none) {x2 : Int32} {h : AH} (H : (((h.1 82 6) ≤ 0) → (SpV g l mX8_years h [.ref 82] (fun hv2 => Q hv2))) ∧ ((¬ ((h.1 82 6) ≤ 0)) → (∃ j3 : Nat, x2 = I (j3 : Int) ∧ j3 < 14641 ∧ ((((h.1 110 j3) ≤ 0) → (SpV g l mX8_years h [.ref 82] (fun hv5 => Q hv5))) ∧ ((¬ ((h.1 110 j3) ≤ 0)) → (SpI g l mX8_goOn h [.ref 82, .int x2] (fun v6 hv6 => GV g l X Q hv6 85 [(0, .ref 82), (2, .int v6)] []))))))) : GV g l X Q h 85 [(0, .ref 82), (2, .int x2)] [] := by
  refine g_aloadn (pc := 85) O rfl dX8_make_85 ?_
  refine g_getI (v := h.1 82 6) (pc := 86) O cls8 fl_X8_173 dX8_make_86 rfl (ltb rfl) (ltb rfl) rfl rfl ?_
  refine g_if_le (tgt := 110) (pc := 89) O dX8_make_89 rfl (fun q1 => ?_) (fun q1 => ?_)
  · replace H := H.1 q1
    refine g_aloadn (pc := 110) O rfl dX8_make_110 ?_
    refine g_vV [] [] (pc := 111) O mk_X8_years ml_X8_242 im_X8_years se_X8_years cls8 rfl ⟨rfl, rfl, leb rfl, leb rfl⟩ rfl (leb rfl) dX8_make_111 H rfl (fun hv2 H => ?_)
    exact g_vret (pc := 114) O dX8_make_114 H
  · replace H := H.2 q1
    refine g_aloadn (pc := 92) O rfl dX8_make_92 ?_
    refine g_getS (pc := 93) O cls8 fl_X8_92 dX8_make_93 rfl (ltb rfl) (ltb rfl) rfl rfl ?_
    refine g_iloadn (pc := 96) O rfl dX8_make_96 ?_
    obtain ⟨j3, ej3, bj3, H⟩ := H
    refine g_iald (j := j3) (pc := 97) O dX8_make_97 ej3 rfl (ltb rfl) bj3 (ltb rfl) rfl ?_
    refine g_if_le (tgt := 110) (pc := 98) O dX8_make_98 rfl (fun q4 => ?_) (fun q4 => ?_)
    · replace H := H.1 q4
      refine g_aloadn (pc := 110) O rfl dX8_make_110 ?_
      refine g_vV [] [] (pc := 111) O mk_X8_years ml_X8_242 im_X8_years se_X8_years cls8 rfl ⟨rfl, rfl, leb rfl, leb rfl⟩ rfl (leb rfl) dX8_make_111 H rfl (fun hv5 H => ?_)
      exact g_vret (pc := 114) O dX8_make_114 H
    · replace H := H.2 q4
      refine g_aloadn (pc := 101) O rfl dX8_make_101 ?_
      refine g_iloadn (pc := 102) O rfl dX8_make_102 ?_
      refine g_vI [.int x2] [] (pc := 103) O mk_X8_goOn ml_X8_238 im_X8_goOn se_X8_goOn cls8 rfl ⟨rfl, rfl, leb rfl, leb rfl⟩ rfl (leb rfl) dX8_make_103 H rfl (fun v6 hv6 H => ?_)
      refine g_istoren (lv' := [(0, .ref 82), (2, .int v6)]) (pc := 106) O dX8_make_106 rfl (ltb rfl) rfl ?_
      refine g_goto (tgt := 85) (pc := 107) O dX8_make_107 rfl ?_
      exact H
set_option maxRecDepth 20000 in
set_option maxHeartbeats 2000000 in
theorem sX8_make {g : mg} {l : Launch} {Q : AH → Prop}  {h : AH} (H : ∀ X, Ok (FF g l X) RX8 cX8_make 3 mX8_make.2.2.2.2 none → (((h.1 82 41) = 0) → (GV g l X Q (sI h 82 41 (I 1)) 17 [(0, .ref 82), (1, .int (I 1)), (2, .int (I 0))] [])) ∧ ((¬ ((h.1 82 41) = 0)) → (Q h))) : SpV g l mX8_make h [.ref 82] Q := spV_of (by decide) (leb rfl) (fun X O => bX8_make_0 O (H X O))
set_option maxRecDepth 20000 in
set_option maxHeartbeats 2000000 in
theorem bX8_weigh_0 {g : mg} {l : Launch} {X : XT} {Q : AH → Prop} (O : Ok (FF g l X) RX8 cX8_weigh 8 mX8_weigh.2.2.2.2 none) {x1 : Int32} {h : AH} (H : GV g l X Q h 15 [(0, .ref 82), (1, .int x1), (2, .int x1), (3, .int (I 1)), (4, .int (I 1)), (5, .int ((h.1 82 6) - (I 1)))] []) : GV g l X Q h 0 [(0, .ref 82), (1, .int x1)] [] := by
  refine g_iloadn (pc := 0) O rfl dX8_weigh_0 ?_
  refine g_istoren (lv' := [(0, .ref 82), (1, .int x1), (2, .int x1)]) (pc := 1) O dX8_weigh_1 rfl (ltb rfl) rfl ?_
  refine g_iconst (v := (I 1)) (pc := 2) O rfl dX8_weigh_2 ?_
  refine g_istoren (lv' := [(0, .ref 82), (1, .int x1), (2, .int x1), (3, .int (I 1))]) (pc := 3) O dX8_weigh_3 rfl (ltb rfl) rfl ?_
  refine g_iconst (v := (I 1)) (pc := 4) O rfl dX8_weigh_4 ?_
  refine g_istore (lv' := [(0, .ref 82), (1, .int x1), (2, .int x1), (3, .int (I 1)), (4, .int (I 1))]) (pc := 5) O dX8_weigh_5 (ltb rfl) rfl ?_
  refine g_aloadn (pc := 7) O rfl dX8_weigh_7 ?_
  refine g_getI (v := h.1 82 6) (pc := 8) O cls8 fl_X8_173 dX8_weigh_8 rfl (ltb rfl) (ltb rfl) rfl rfl ?_
  refine g_iconst (v := (I 1)) (pc := 11) O rfl dX8_weigh_11 ?_
  refine g_isub (pc := 12) O dX8_weigh_12 ?_
  refine g_istore (lv' := [(0, .ref 82), (1, .int x1), (2, .int x1), (3, .int (I 1)), (4, .int (I 1)), (5, .int ((h.1 82 6) - (I 1)))]) (pc := 13) O dX8_weigh_13 (ltb rfl) rfl ?_
  exact H
set_option maxRecDepth 20000 in
set_option maxHeartbeats 2000000 in
theorem bX8_weigh_15 {g : mg} {l : Launch} {X : XT} {Q : AH → Prop} (O : Ok (FF g l X) RX8 cX8_weigh 8 mX8_weigh.2.2.2.2 none) {x1 : Int32} {x2 : Int32} {x3 : Int32} {x4 : Int32} {x5 : Int32} {h : AH} (H : ((x5 < 0) → (∃ j2 : Nat, x1 = I (j2 : Int) ∧ j2 < 14641 ∧ (((x3 = 0) → (Q (sI h 110 j2 (I 0)))) ∧ ((¬ (x3 = 0)) → (((x4 = 0) → (GV g l X Q (sI h 110 j2 (I 0)) 122 [(0, .ref 82), (1, .int x1), (5, .int (I 99)), (6, .int (I 0))] [])) ∧ ((¬ (x4 = 0)) → (Q (sI h 110 j2 (I 0))))))))) ∧ ((¬ (x5 < 0)) → (∃ j5 : Nat, x5 = I (j5 : Int) ∧ j5 < 4 ∧ (((x3 = 0) → (GV g l X Q (sI h 111 j5 (x2 - x2 / (I 11) * (I 11))) 61 [(0, .ref 82), (1, .int x1), (2, .int (x2 / (I 11))), (4, .int x4), (5, .int x5)] [])) ∧ ((¬ (x3 = 0)) → (∃ j7 : Nat, x5 = I (j7 : Int) ∧ j7 < 4 ∧ (∃ j8 : Nat, x5 = I (j8 : Int) ∧ j8 < 4 ∧ ((((h.1 86 j8) < ((sI h 111 j5 (x2 - x2 / (I 11) * (I 11))).1 111 j7)) → (GV g l X Q (sI h 111 j5 (x2 - x2 / (I 11) * (I 11))) 61 [(0, .ref 82), (1, .int x1), (2, .int (x2 / (I 11))), (4, .int x4), (5, .int x5)] [])) ∧ ((¬ ((h.1 86 j8) < ((sI h 111 j5 (x2 - x2 / (I 11) * (I 11))).1 111 j7))) → (((x4 = 0) → (GV g l X Q (sI h 111 j5 (x2 - x2 / (I 11) * (I 11))) 15 [(0, .ref 82), (1, .int x1), (2, .int (x2 / (I 11))), (3, .int (I 1)), (4, .int (I 0)), (5, .int (x5 + I (-1)))] [])) ∧ ((¬ (x4 = 0)) → (∃ j11 : Nat, x5 = I (j11 : Int) ∧ j11 < 4 ∧ (∃ j12 : Nat, x5 = I (j12 : Int) ∧ j12 < 4 ∧ (((¬ ((sI h 111 j5 (x2 - x2 / (I 11) * (I 11))).1 111 j11) = (h.1 86 j12)) → (GV g l X Q (sI h 111 j5 (x2 - x2 / (I 11) * (I 11))) 15 [(0, .ref 82), (1, .int x1), (2, .int (x2 / (I 11))), (3, .int (I 1)), (4, .int (I 0)), (5, .int (x5 + I (-1)))] [])) ∧ ((((sI h 111 j5 (x2 - x2 / (I 11) * (I 11))).1 111 j11) = (h.1 86 j12)) → (GV g l X Q (sI h 111 j5 (x2 - x2 / (I 11) * (I 11))) 15 [(0, .ref 82), (1, .int x1), (2, .int (x2 / (I 11))), (3, .int (I 1)), (4, .int (I 1)), (5, .int (x5 + I (-1)))] [])))))))))))))))) : GV g l X Q h 15 [(0, .ref 82), (1, .int x1), (2, .int x2), (3, .int x3), (4, .int x4), (5, .int x5)] [] := by
  refine g_iload (pc := 15) O rfl dX8_weigh_15 ?_
  refine g_if_lt (tgt := 98) (pc := 17) O dX8_weigh_17 rfl (fun q1 => ?_) (fun q1 => ?_)
  · replace H := H.1 q1
    refine g_aloadn (pc := 98) O rfl dX8_weigh_98 ?_
    refine g_getS (pc := 99) O cls8 fl_X8_92 dX8_weigh_99 rfl (ltb rfl) (ltb rfl) rfl rfl ?_
    refine g_iloadn (pc := 102) O rfl dX8_weigh_102 ?_
    refine g_iconst (v := (I 0)) (pc := 103) O rfl dX8_weigh_103 ?_
    obtain ⟨j2, ej2, bj2, H⟩ := H
    refine g_iast (j := j2) (pc := 104) O dX8_weigh_104 ej2 rfl (ltb rfl) (leb rfl) bj2 (ltb rfl) ?_
    refine g_iloadn (pc := 105) O rfl dX8_weigh_105 ?_
    refine g_if_eq (tgt := 114) (pc := 106) O dX8_weigh_106 rfl (fun q3 => ?_) (fun q3 => ?_)
    · replace H := H.1 q3
      exact g_vret (pc := 114) O dX8_weigh_114 H
    · replace H := H.2 q3
      refine g_iload (pc := 109) O rfl dX8_weigh_109 ?_
      refine g_if_eq (tgt := 115) (pc := 111) O dX8_weigh_111 rfl (fun q4 => ?_) (fun q4 => ?_)
      · replace H := H.1 q4
        refine g_bipush (v := (I 99)) (pc := 115) O (by decide) dX8_weigh_115 ?_
        refine g_istore (lv' := [(0, .ref 82), (1, .int x1), (2, .int x2), (3, .int x3), (4, .int x4), (5, .int (I 99))]) (pc := 117) O dX8_weigh_117 (ltb rfl) rfl ?_
        refine g_iconst (v := (I 0)) (pc := 119) O rfl dX8_weigh_119 ?_
        refine g_istore (lv' := [(0, .ref 82), (1, .int x1), (2, .int x2), (3, .int x3), (4, .int x4), (5, .int (I 99)), (6, .int (I 0))]) (pc := 120) O dX8_weigh_120 (ltb rfl) rfl ?_
        refine g_sub [0, 1, 5, 6] rfl ?_
        exact H
      · replace H := H.2 q4
        exact g_vret (pc := 114) O dX8_weigh_114 H
  · replace H := H.2 q1
    refine g_aloadn (pc := 20) O rfl dX8_weigh_20 ?_
    refine g_getS (pc := 21) O cls8 fl_X8_95 dX8_weigh_21 rfl (ltb rfl) (ltb rfl) rfl rfl ?_
    refine g_iload (pc := 24) O rfl dX8_weigh_24 ?_
    refine g_iloadn (pc := 26) O rfl dX8_weigh_26 ?_
    refine g_bipush (v := (I 11)) (pc := 27) O (by decide) dX8_weigh_27 ?_
    refine g_irem (pc := 29) O (by decide) dX8_weigh_29 ?_
    obtain ⟨j5, ej5, bj5, H⟩ := H
    refine g_iast (j := j5) (pc := 30) O dX8_weigh_30 ej5 rfl (ltb rfl) (leb rfl) bj5 (ltb rfl) ?_
    refine g_iloadn (pc := 31) O rfl dX8_weigh_31 ?_
    refine g_bipush (v := (I 11)) (pc := 32) O (by decide) dX8_weigh_32 ?_
    refine g_idiv (pc := 34) O (by decide) dX8_weigh_34 ?_
    refine g_istoren (lv' := [(0, .ref 82), (1, .int x1), (2, .int (x2 / (I 11))), (3, .int x3), (4, .int x4), (5, .int x5)]) (pc := 35) O dX8_weigh_35 rfl (ltb rfl) rfl ?_
    refine g_iloadn (pc := 36) O rfl dX8_weigh_36 ?_
    refine g_if_eq (tgt := 61) (pc := 37) O dX8_weigh_37 rfl (fun q6 => ?_) (fun q6 => ?_)
    · replace H := H.1 q6
      refine g_sub [0, 1, 2, 4, 5] rfl ?_
      exact H
    · replace H := H.2 q6
      refine g_aloadn (pc := 40) O rfl dX8_weigh_40 ?_
      refine g_getS (pc := 41) O cls8 fl_X8_95 dX8_weigh_41 rfl (ltb rfl) (ltb rfl) rfl rfl ?_
      refine g_iload (pc := 44) O rfl dX8_weigh_44 ?_
      obtain ⟨j7, ej7, bj7, H⟩ := H
      refine g_iald (j := j7) (pc := 46) O dX8_weigh_46 ej7 rfl (ltb rfl) bj7 (ltb rfl) rfl ?_
      refine g_aloadn (pc := 47) O rfl dX8_weigh_47 ?_
      refine g_getS (pc := 48) O cls8 fl_X8_19 dX8_weigh_48 rfl (ltb rfl) (ltb rfl) rfl rfl ?_
      refine g_iload (pc := 51) O rfl dX8_weigh_51 ?_
      obtain ⟨j8, ej8, bj8, H⟩ := H
      refine g_iald (j := j8) (pc := 53) O dX8_weigh_53 ej8 rfl (ltb rfl) bj8 (ltb rfl) rfl ?_
      refine g_icmp_gt (tgt := 61) (pc := 54) O dX8_weigh_54 rfl (fun q9 => ?_) (fun q9 => ?_)
      · replace H := H.1 q9
        refine g_sub [0, 1, 2, 4, 5] rfl ?_
        exact H
      · replace H := H.2 q9
        refine g_iconst (v := (I 1)) (pc := 57) O rfl dX8_weigh_57 ?_
        refine g_goto (tgt := 62) (pc := 58) O dX8_weigh_58 rfl ?_
        refine g_istoren (lv' := [(0, .ref 82), (1, .int x1), (2, .int (x2 / (I 11))), (3, .int (I 1)), (4, .int x4), (5, .int x5)]) (pc := 62) O dX8_weigh_62 rfl (ltb rfl) rfl ?_
        refine g_iload (pc := 63) O rfl dX8_weigh_63 ?_
        refine g_if_eq (tgt := 89) (pc := 65) O dX8_weigh_65 rfl (fun q10 => ?_) (fun q10 => ?_)
        · replace H := H.1 q10
          refine g_iconst (v := (I 0)) (pc := 89) O rfl dX8_weigh_89 ?_
          refine g_istore (lv' := [(0, .ref 82), (1, .int x1), (2, .int (x2 / (I 11))), (3, .int (I 1)), (4, .int (I 0)), (5, .int x5)]) (pc := 90) O dX8_weigh_90 (ltb rfl) rfl ?_
          refine g_iinc (lv' := [(0, .ref 82), (1, .int x1), (2, .int (x2 / (I 11))), (3, .int (I 1)), (4, .int (I 0)), (5, .int (x5 + I (-1)))]) (pc := 92) O dX8_weigh_92 rfl rfl (ltb rfl) rfl ?_
          refine g_goto (tgt := 15) (pc := 95) O dX8_weigh_95 rfl ?_
          exact H
        · replace H := H.2 q10
          refine g_aloadn (pc := 68) O rfl dX8_weigh_68 ?_
          refine g_getS (pc := 69) O cls8 fl_X8_95 dX8_weigh_69 rfl (ltb rfl) (ltb rfl) rfl rfl ?_
          refine g_iload (pc := 72) O rfl dX8_weigh_72 ?_
          obtain ⟨j11, ej11, bj11, H⟩ := H
          refine g_iald (j := j11) (pc := 74) O dX8_weigh_74 ej11 rfl (ltb rfl) bj11 (ltb rfl) rfl ?_
          refine g_aloadn (pc := 75) O rfl dX8_weigh_75 ?_
          refine g_getS (pc := 76) O cls8 fl_X8_19 dX8_weigh_76 rfl (ltb rfl) (ltb rfl) rfl rfl ?_
          refine g_iload (pc := 79) O rfl dX8_weigh_79 ?_
          obtain ⟨j12, ej12, bj12, H⟩ := H
          refine g_iald (j := j12) (pc := 81) O dX8_weigh_81 ej12 rfl (ltb rfl) bj12 (ltb rfl) rfl ?_
          refine g_icmp_ne (tgt := 89) (pc := 82) O dX8_weigh_82 rfl (fun q13 => ?_) (fun q13 => ?_)
          · replace H := H.1 q13
            refine g_iconst (v := (I 0)) (pc := 89) O rfl dX8_weigh_89 ?_
            refine g_istore (lv' := [(0, .ref 82), (1, .int x1), (2, .int (x2 / (I 11))), (3, .int (I 1)), (4, .int (I 0)), (5, .int x5)]) (pc := 90) O dX8_weigh_90 (ltb rfl) rfl ?_
            refine g_iinc (lv' := [(0, .ref 82), (1, .int x1), (2, .int (x2 / (I 11))), (3, .int (I 1)), (4, .int (I 0)), (5, .int (x5 + I (-1)))]) (pc := 92) O dX8_weigh_92 rfl rfl (ltb rfl) rfl ?_
            refine g_goto (tgt := 15) (pc := 95) O dX8_weigh_95 rfl ?_
            exact H
          · replace H := H.2 q13
            refine g_iconst (v := (I 1)) (pc := 85) O rfl dX8_weigh_85 ?_
            refine g_goto (tgt := 90) (pc := 86) O dX8_weigh_86 rfl ?_
            refine g_istore (lv' := [(0, .ref 82), (1, .int x1), (2, .int (x2 / (I 11))), (3, .int (I 1)), (4, .int (I 1)), (5, .int x5)]) (pc := 90) O dX8_weigh_90 (ltb rfl) rfl ?_
            refine g_iinc (lv' := [(0, .ref 82), (1, .int x1), (2, .int (x2 / (I 11))), (3, .int (I 1)), (4, .int (I 1)), (5, .int (x5 + I (-1)))]) (pc := 92) O dX8_weigh_92 rfl rfl (ltb rfl) rfl ?_
            refine g_goto (tgt := 15) (pc := 95) O dX8_weigh_95 rfl ?_
            exact H
set_option maxRecDepth 20000 in
set_option maxHeartbeats 2000000 in
theorem bX8_weigh_61 {g : mg} {l : Launch} {X : XT} {Q : AH → Prop} (O : Ok (FF g l X) RX8 cX8_weigh 8 mX8_weigh.2.2.2.2 none) {x1 : Int32} {x2 : Int32} {x4 : Int32} {x5 : Int32} {h : AH} (H : ((x4 = 0) → (GV g l X Q h 15 [(0, .ref 82), (1, .int x1), (2, .int x2), (3, .int (I 0)), (4, .int (I 0)), (5, .int (x5 + I (-1)))] [])) ∧ ((¬ (x4 = 0)) → (∃ j2 : Nat, x5 = I (j2 : Int) ∧ j2 < 4 ∧ (∃ j3 : Nat, x5 = I (j3 : Int) ∧ j3 < 4 ∧ (((¬ (h.1 111 j2) = (h.1 86 j3)) → (GV g l X Q h 15 [(0, .ref 82), (1, .int x1), (2, .int x2), (3, .int (I 0)), (4, .int (I 0)), (5, .int (x5 + I (-1)))] [])) ∧ (((h.1 111 j2) = (h.1 86 j3)) → (GV g l X Q h 15 [(0, .ref 82), (1, .int x1), (2, .int x2), (3, .int (I 0)), (4, .int (I 1)), (5, .int (x5 + I (-1)))] []))))))) : GV g l X Q h 61 [(0, .ref 82), (1, .int x1), (2, .int x2), (4, .int x4), (5, .int x5)] [] := by
  refine g_iconst (v := (I 0)) (pc := 61) O rfl dX8_weigh_61 ?_
  refine g_istoren (lv' := [(0, .ref 82), (1, .int x1), (2, .int x2), (3, .int (I 0)), (4, .int x4), (5, .int x5)]) (pc := 62) O dX8_weigh_62 rfl (ltb rfl) rfl ?_
  refine g_iload (pc := 63) O rfl dX8_weigh_63 ?_
  refine g_if_eq (tgt := 89) (pc := 65) O dX8_weigh_65 rfl (fun q1 => ?_) (fun q1 => ?_)
  · replace H := H.1 q1
    refine g_iconst (v := (I 0)) (pc := 89) O rfl dX8_weigh_89 ?_
    refine g_istore (lv' := [(0, .ref 82), (1, .int x1), (2, .int x2), (3, .int (I 0)), (4, .int (I 0)), (5, .int x5)]) (pc := 90) O dX8_weigh_90 (ltb rfl) rfl ?_
    refine g_iinc (lv' := [(0, .ref 82), (1, .int x1), (2, .int x2), (3, .int (I 0)), (4, .int (I 0)), (5, .int (x5 + I (-1)))]) (pc := 92) O dX8_weigh_92 rfl rfl (ltb rfl) rfl ?_
    refine g_goto (tgt := 15) (pc := 95) O dX8_weigh_95 rfl ?_
    exact H
  · replace H := H.2 q1
    refine g_aloadn (pc := 68) O rfl dX8_weigh_68 ?_
    refine g_getS (pc := 69) O cls8 fl_X8_95 dX8_weigh_69 rfl (ltb rfl) (ltb rfl) rfl rfl ?_
    refine g_iload (pc := 72) O rfl dX8_weigh_72 ?_
    obtain ⟨j2, ej2, bj2, H⟩ := H
    refine g_iald (j := j2) (pc := 74) O dX8_weigh_74 ej2 rfl (ltb rfl) bj2 (ltb rfl) rfl ?_
    refine g_aloadn (pc := 75) O rfl dX8_weigh_75 ?_
    refine g_getS (pc := 76) O cls8 fl_X8_19 dX8_weigh_76 rfl (ltb rfl) (ltb rfl) rfl rfl ?_
    refine g_iload (pc := 79) O rfl dX8_weigh_79 ?_
    obtain ⟨j3, ej3, bj3, H⟩ := H
    refine g_iald (j := j3) (pc := 81) O dX8_weigh_81 ej3 rfl (ltb rfl) bj3 (ltb rfl) rfl ?_
    refine g_icmp_ne (tgt := 89) (pc := 82) O dX8_weigh_82 rfl (fun q4 => ?_) (fun q4 => ?_)
    · replace H := H.1 q4
      refine g_iconst (v := (I 0)) (pc := 89) O rfl dX8_weigh_89 ?_
      refine g_istore (lv' := [(0, .ref 82), (1, .int x1), (2, .int x2), (3, .int (I 0)), (4, .int (I 0)), (5, .int x5)]) (pc := 90) O dX8_weigh_90 (ltb rfl) rfl ?_
      refine g_iinc (lv' := [(0, .ref 82), (1, .int x1), (2, .int x2), (3, .int (I 0)), (4, .int (I 0)), (5, .int (x5 + I (-1)))]) (pc := 92) O dX8_weigh_92 rfl rfl (ltb rfl) rfl ?_
      refine g_goto (tgt := 15) (pc := 95) O dX8_weigh_95 rfl ?_
      exact H
    · replace H := H.2 q4
      refine g_iconst (v := (I 1)) (pc := 85) O rfl dX8_weigh_85 ?_
      refine g_goto (tgt := 90) (pc := 86) O dX8_weigh_86 rfl ?_
      refine g_istore (lv' := [(0, .ref 82), (1, .int x1), (2, .int x2), (3, .int (I 0)), (4, .int (I 1)), (5, .int x5)]) (pc := 90) O dX8_weigh_90 (ltb rfl) rfl ?_
      refine g_iinc (lv' := [(0, .ref 82), (1, .int x1), (2, .int x2), (3, .int (I 0)), (4, .int (I 1)), (5, .int (x5 + I (-1)))]) (pc := 92) O dX8_weigh_92 rfl rfl (ltb rfl) rfl ?_
      refine g_goto (tgt := 15) (pc := 95) O dX8_weigh_95 rfl ?_
      exact H
set_option maxRecDepth 20000 in
set_option maxHeartbeats 2000000 in
theorem bX8_weigh_122 {g : mg} {l : Launch} {X : XT} {Q : AH → Prop} (O : Ok (FF g l X) RX8 cX8_weigh 8 mX8_weigh.2.2.2.2 none) {x1 : Int32} {x5 : Int32} {x6 : Int32} {h : AH} (H : (((I 12) ≤ x6) → (∃ j2 : Nat, x1 = I (j2 : Int) ∧ j2 < 14641 ∧ (Q (sI h 110 j2 x5)))) ∧ ((¬ ((I 12) ≤ x6)) → (SpI g l mX8_behind h [.ref 82, .int x6] (fun v3 hv3 => (((hv3.1 82 50) = 0) → (GV g l X Q hv3 122 [(0, .ref 82), (1, .int x1), (5, .int x5), (6, .int (x6 + I 1))] [])) ∧ ((¬ ((hv3.1 82 50) = 0)) → (∃ j5 : Nat, v3 = I (j5 : Int) ∧ j5 < 14641 ∧ (((x5 ≤ ((hv3.1 110 j5) + (I 1))) → (GV g l X Q hv3 122 [(0, .ref 82), (1, .int x1), (5, .int x5), (6, .int (x6 + I 1))] [])) ∧ ((¬ (x5 ≤ ((hv3.1 110 j5) + (I 1)))) → (∃ j7 : Nat, v3 = I (j7 : Int) ∧ j7 < 14641 ∧ (GV g l X Q hv3 122 [(0, .ref 82), (1, .int x1), (5, .int ((hv3.1 110 j7) + (I 1))), (6, .int (x6 + I 1))] [])))))))))) : GV g l X Q h 122 [(0, .ref 82), (1, .int x1), (5, .int x5), (6, .int x6)] [] := by
  refine g_iload (pc := 122) O rfl dX8_weigh_122 ?_
  refine g_bipush (v := (I 12)) (pc := 124) O (by decide) dX8_weigh_124 ?_
  refine g_icmp_ge (tgt := 180) (pc := 126) O dX8_weigh_126 rfl (fun q1 => ?_) (fun q1 => ?_)
  · replace H := H.1 q1
    refine g_aloadn (pc := 180) O rfl dX8_weigh_180 ?_
    refine g_getS (pc := 181) O cls8 fl_X8_92 dX8_weigh_181 rfl (ltb rfl) (ltb rfl) rfl rfl ?_
    refine g_iloadn (pc := 184) O rfl dX8_weigh_184 ?_
    refine g_iload (pc := 185) O rfl dX8_weigh_185 ?_
    obtain ⟨j2, ej2, bj2, H⟩ := H
    refine g_iast (j := j2) (pc := 187) O dX8_weigh_187 ej2 rfl (ltb rfl) (leb rfl) bj2 (ltb rfl) ?_
    exact g_vret (pc := 188) O dX8_weigh_188 H
  · replace H := H.2 q1
    refine g_aloadn (pc := 129) O rfl dX8_weigh_129 ?_
    refine g_iload (pc := 130) O rfl dX8_weigh_130 ?_
    refine g_vI [.int x6] [] (pc := 132) O mk_X8_behind ml_X8_245 im_X8_behind se_X8_behind cls8 rfl ⟨rfl, rfl, leb rfl, leb rfl⟩ rfl (leb rfl) dX8_weigh_132 H rfl (fun v3 hv3 H => ?_)
    refine g_istore (lv' := [(0, .ref 82), (1, .int x1), (5, .int x5), (6, .int x6), (7, .int v3)]) (pc := 135) O dX8_weigh_135 (ltb rfl) rfl ?_
    refine g_aloadn (pc := 137) O rfl dX8_weigh_137 ?_
    refine g_getI (v := hv3.1 82 50) (pc := 138) O cls8 fl_X8_228 dX8_weigh_138 rfl (ltb rfl) (ltb rfl) rfl rfl ?_
    refine g_if_eq (tgt := 170) (pc := 141) O dX8_weigh_141 rfl (fun q4 => ?_) (fun q4 => ?_)
    · replace H := H.1 q4
      refine g_iload (pc := 170) O rfl dX8_weigh_170 ?_
      refine g_istore (lv' := [(0, .ref 82), (1, .int x1), (5, .int x5), (6, .int x6), (7, .int v3)]) (pc := 172) O dX8_weigh_172 (ltb rfl) rfl ?_
      refine g_iinc (lv' := [(0, .ref 82), (1, .int x1), (5, .int x5), (6, .int (x6 + I 1)), (7, .int v3)]) (pc := 174) O dX8_weigh_174 rfl rfl (ltb rfl) rfl ?_
      refine g_goto (tgt := 122) (pc := 177) O dX8_weigh_177 rfl ?_
      refine g_sub [0, 1, 2, 3] rfl ?_
      exact H
    · replace H := H.2 q4
      refine g_aloadn (pc := 144) O rfl dX8_weigh_144 ?_
      refine g_getS (pc := 145) O cls8 fl_X8_92 dX8_weigh_145 rfl (ltb rfl) (ltb rfl) rfl rfl ?_
      refine g_iload (pc := 148) O rfl dX8_weigh_148 ?_
      obtain ⟨j5, ej5, bj5, H⟩ := H
      refine g_iald (j := j5) (pc := 150) O dX8_weigh_150 ej5 rfl (ltb rfl) bj5 (ltb rfl) rfl ?_
      refine g_iconst (v := (I 1)) (pc := 151) O rfl dX8_weigh_151 ?_
      refine g_iadd (pc := 152) O dX8_weigh_152 ?_
      refine g_iload (pc := 153) O rfl dX8_weigh_153 ?_
      refine g_icmp_ge (tgt := 170) (pc := 155) O dX8_weigh_155 rfl (fun q6 => ?_) (fun q6 => ?_)
      · replace H := H.1 q6
        refine g_iload (pc := 170) O rfl dX8_weigh_170 ?_
        refine g_istore (lv' := [(0, .ref 82), (1, .int x1), (5, .int x5), (6, .int x6), (7, .int v3)]) (pc := 172) O dX8_weigh_172 (ltb rfl) rfl ?_
        refine g_iinc (lv' := [(0, .ref 82), (1, .int x1), (5, .int x5), (6, .int (x6 + I 1)), (7, .int v3)]) (pc := 174) O dX8_weigh_174 rfl rfl (ltb rfl) rfl ?_
        refine g_goto (tgt := 122) (pc := 177) O dX8_weigh_177 rfl ?_
        refine g_sub [0, 1, 2, 3] rfl ?_
        exact H
      · replace H := H.2 q6
        refine g_aloadn (pc := 158) O rfl dX8_weigh_158 ?_
        refine g_getS (pc := 159) O cls8 fl_X8_92 dX8_weigh_159 rfl (ltb rfl) (ltb rfl) rfl rfl ?_
        refine g_iload (pc := 162) O rfl dX8_weigh_162 ?_
        obtain ⟨j7, ej7, bj7, H⟩ := H
        refine g_iald (j := j7) (pc := 164) O dX8_weigh_164 ej7 rfl (ltb rfl) bj7 (ltb rfl) rfl ?_
        refine g_iconst (v := (I 1)) (pc := 165) O rfl dX8_weigh_165 ?_
        refine g_iadd (pc := 166) O dX8_weigh_166 ?_
        refine g_goto (tgt := 172) (pc := 167) O dX8_weigh_167 rfl ?_
        refine g_istore (lv' := [(0, .ref 82), (1, .int x1), (5, .int ((hv3.1 110 j7) + (I 1))), (6, .int x6), (7, .int v3)]) (pc := 172) O dX8_weigh_172 (ltb rfl) rfl ?_
        refine g_iinc (lv' := [(0, .ref 82), (1, .int x1), (5, .int ((hv3.1 110 j7) + (I 1))), (6, .int (x6 + I 1)), (7, .int v3)]) (pc := 174) O dX8_weigh_174 rfl rfl (ltb rfl) rfl ?_
        refine g_goto (tgt := 122) (pc := 177) O dX8_weigh_177 rfl ?_
        refine g_sub [0, 1, 2, 3] rfl ?_
        exact H
set_option maxRecDepth 20000 in
set_option maxHeartbeats 2000000 in
theorem sX8_weigh {g : mg} {l : Launch} {Q : AH → Prop} {x1 : Int32} {h : AH} (H : ∀ X, Ok (FF g l X) RX8 cX8_weigh 8 mX8_weigh.2.2.2.2 none → GV g l X Q h 15 [(0, .ref 82), (1, .int x1), (2, .int x1), (3, .int (I 1)), (4, .int (I 1)), (5, .int ((h.1 82 6) - (I 1)))] []) : SpV g l mX8_weigh h [.ref 82, .int x1] Q := spV_of (by decide) (leb rfl) (fun X O => bX8_weigh_0 O (H X O))
set_option maxRecDepth 20000 in
set_option maxHeartbeats 2000000 in
theorem bX8_goOn_0 {g : mg} {l : Launch} {X : XT} {Q : Int32 → AH → Prop} (O : Ok (FF g l X) RX8 cX8_goOn 5 mX8_goOn.2.2.2.2 (some .int)) {x1 : Int32} {h : AH} (H : SpI g l mX8_behind h [.ref 82, .int (I 0)] (fun v1 hv1 => GI g l X Q hv1 8 [(0, .ref 82), (1, .int x1), (2, .int (I 0)), (3, .int v1)] [])) : GI g l X Q h 0 [(0, .ref 82), (1, .int x1)] [] := by
  refine g_iconst (v := (I 0)) (pc := 0) O rfl dX8_goOn_0 ?_
  refine g_istoren (lv' := [(0, .ref 82), (1, .int x1), (2, .int (I 0))]) (pc := 1) O dX8_goOn_1 rfl (ltb rfl) rfl ?_
  refine g_aloadn (pc := 2) O rfl dX8_goOn_2 ?_
  refine g_iconst (v := (I 0)) (pc := 3) O rfl dX8_goOn_3 ?_
  refine g_vI [.int (I 0)] [] (pc := 4) O mk_X8_behind ml_X8_245 im_X8_behind se_X8_behind cls8 rfl ⟨rfl, rfl, leb rfl, leb rfl⟩ rfl (leb rfl) dX8_goOn_4 H rfl (fun v1 hv1 H => ?_)
  refine g_istoren (lv' := [(0, .ref 82), (1, .int x1), (2, .int (I 0)), (3, .int v1)]) (pc := 7) O dX8_goOn_7 rfl (ltb rfl) rfl ?_
  exact H
set_option maxRecDepth 20000 in
set_option maxHeartbeats 2000000 in
theorem bX8_goOn_8 {g : mg} {l : Launch} {X : XT} {Q : Int32 → AH → Prop} (O : Ok (FF g l X) RX8 cX8_goOn 5 mX8_goOn.2.2.2.2 (some .int)) {x1 : Int32} {x2 : Int32} {x3 : Int32} {h : AH} (H : (((h.1 82 50) = 0) → (SpI g l mX8_behind h [.ref 82, .int (x2 + I 1)] (fun v2 hv2 => GI g l X Q hv2 8 [(0, .ref 82), (1, .int x1), (2, .int (x2 + I 1)), (3, .int v2)] []))) ∧ ((¬ ((h.1 82 50) = 0)) → (∃ j3 : Nat, x3 = I (j3 : Int) ∧ j3 < 14641 ∧ (∃ j4 : Nat, x1 = I (j4 : Int) ∧ j4 < 14641 ∧ (((((h.1 110 j3) + (I 1)) = (h.1 110 j4)) → (∃ j6 : Nat, (h.1 82 38) = I (j6 : Int) ∧ j6 < 40 ∧ (GI g l X Q (sI h 113 j6 x2) 57 [(0, .ref 82), (3, .int x3), (4, .int (I 0))] []))) ∧ ((¬ (((h.1 110 j3) + (I 1)) = (h.1 110 j4))) → (SpI g l mX8_behind h [.ref 82, .int (x2 + I 1)] (fun v7 hv7 => GI g l X Q hv7 8 [(0, .ref 82), (1, .int x1), (2, .int (x2 + I 1)), (3, .int v7)] [])))))))) : GI g l X Q h 8 [(0, .ref 82), (1, .int x1), (2, .int x2), (3, .int x3)] [] := by
  refine g_aloadn (pc := 8) O rfl dX8_goOn_8 ?_
  refine g_getI (v := h.1 82 50) (pc := 9) O cls8 fl_X8_228 dX8_goOn_9 rfl (ltb rfl) (ltb rfl) rfl rfl ?_
  refine g_if_eq (tgt := 32) (pc := 12) O dX8_goOn_12 rfl (fun q1 => ?_) (fun q1 => ?_)
  · replace H := H.1 q1
    refine g_iinc (lv' := [(0, .ref 82), (1, .int x1), (2, .int (x2 + I 1)), (3, .int x3)]) (pc := 32) O dX8_goOn_32 rfl rfl (ltb rfl) rfl ?_
    refine g_aloadn (pc := 35) O rfl dX8_goOn_35 ?_
    refine g_iloadn (pc := 36) O rfl dX8_goOn_36 ?_
    refine g_vI [.int (x2 + I 1)] [] (pc := 37) O mk_X8_behind ml_X8_245 im_X8_behind se_X8_behind cls8 rfl ⟨rfl, rfl, leb rfl, leb rfl⟩ rfl (leb rfl) dX8_goOn_37 H rfl (fun v2 hv2 H => ?_)
    refine g_istoren (lv' := [(0, .ref 82), (1, .int x1), (2, .int (x2 + I 1)), (3, .int v2)]) (pc := 40) O dX8_goOn_40 rfl (ltb rfl) rfl ?_
    refine g_goto (tgt := 8) (pc := 41) O dX8_goOn_41 rfl ?_
    exact H
  · replace H := H.2 q1
    refine g_aloadn (pc := 15) O rfl dX8_goOn_15 ?_
    refine g_getS (pc := 16) O cls8 fl_X8_92 dX8_goOn_16 rfl (ltb rfl) (ltb rfl) rfl rfl ?_
    refine g_iloadn (pc := 19) O rfl dX8_goOn_19 ?_
    obtain ⟨j3, ej3, bj3, H⟩ := H
    refine g_iald (j := j3) (pc := 20) O dX8_goOn_20 ej3 rfl (ltb rfl) bj3 (ltb rfl) rfl ?_
    refine g_iconst (v := (I 1)) (pc := 21) O rfl dX8_goOn_21 ?_
    refine g_iadd (pc := 22) O dX8_goOn_22 ?_
    refine g_aloadn (pc := 23) O rfl dX8_goOn_23 ?_
    refine g_getS (pc := 24) O cls8 fl_X8_92 dX8_goOn_24 rfl (ltb rfl) (ltb rfl) rfl rfl ?_
    refine g_iloadn (pc := 27) O rfl dX8_goOn_27 ?_
    obtain ⟨j4, ej4, bj4, H⟩ := H
    refine g_iald (j := j4) (pc := 28) O dX8_goOn_28 ej4 rfl (ltb rfl) bj4 (ltb rfl) rfl ?_
    refine g_icmp_eq (tgt := 44) (pc := 29) O dX8_goOn_29 rfl (fun q5 => ?_) (fun q5 => ?_)
    · replace H := H.1 q5
      refine g_aloadn (pc := 44) O rfl dX8_goOn_44 ?_
      refine g_getS (pc := 45) O cls8 fl_X8_101 dX8_goOn_45 rfl (ltb rfl) (ltb rfl) rfl rfl ?_
      refine g_aloadn (pc := 48) O rfl dX8_goOn_48 ?_
      refine g_getI (v := h.1 82 38) (pc := 49) O cls8 fl_X8_235 dX8_goOn_49 rfl (ltb rfl) (ltb rfl) rfl rfl ?_
      refine g_iloadn (pc := 52) O rfl dX8_goOn_52 ?_
      obtain ⟨j6, ej6, bj6, H⟩ := H
      refine g_iast (j := j6) (pc := 53) O dX8_goOn_53 ej6 rfl (ltb rfl) (leb rfl) bj6 (ltb rfl) ?_
      refine g_iconst (v := (I 0)) (pc := 54) O rfl dX8_goOn_54 ?_
      refine g_istore (lv' := [(0, .ref 82), (1, .int x1), (2, .int x2), (3, .int x3), (4, .int (I 0))]) (pc := 55) O dX8_goOn_55 (ltb rfl) rfl ?_
      refine g_sub [0, 3, 4] rfl ?_
      exact H
    · replace H := H.2 q5
      refine g_iinc (lv' := [(0, .ref 82), (1, .int x1), (2, .int (x2 + I 1)), (3, .int x3)]) (pc := 32) O dX8_goOn_32 rfl rfl (ltb rfl) rfl ?_
      refine g_aloadn (pc := 35) O rfl dX8_goOn_35 ?_
      refine g_iloadn (pc := 36) O rfl dX8_goOn_36 ?_
      refine g_vI [.int (x2 + I 1)] [] (pc := 37) O mk_X8_behind ml_X8_245 im_X8_behind se_X8_behind cls8 rfl ⟨rfl, rfl, leb rfl, leb rfl⟩ rfl (leb rfl) dX8_goOn_37 H rfl (fun v7 hv7 H => ?_)
      refine g_istoren (lv' := [(0, .ref 82), (1, .int x1), (2, .int (x2 + I 1)), (3, .int v7)]) (pc := 40) O dX8_goOn_40 rfl (ltb rfl) rfl ?_
      refine g_goto (tgt := 8) (pc := 41) O dX8_goOn_41 rfl ?_
      exact H
set_option maxRecDepth 20000 in
set_option maxHeartbeats 2000000 in
theorem bX8_goOn_57 {g : mg} {l : Launch} {X : XT} {Q : Int32 → AH → Prop} (O : Ok (FF g l X) RX8 cX8_goOn 5 mX8_goOn.2.2.2.2 (some .int)) {x3 : Int32} {x4 : Int32} {h : AH} (H : (((h.1 82 6) ≤ x4) → (Q x3 (sI h 82 38 ((h.1 82 38) + (I 1))))) ∧ ((¬ ((h.1 82 6) ≤ x4)) → (∃ j2 : Nat, x4 = I (j2 : Int) ∧ j2 < 4 ∧ (∃ j3 : Nat, x4 = I (j3 : Int) ∧ j3 < 4 ∧ ((((h.1 112 j2) ≤ (h.1 111 j3)) → (∃ j5 : Nat, x4 = I (j5 : Int) ∧ j5 < 4 ∧ (∃ j6 : Nat, x4 = I (j6 : Int) ∧ j6 < 4 ∧ (GI g l X Q (sI h 111 j6 (h.1 112 j5)) 57 [(0, .ref 82), (3, .int x3), (4, .int (x4 + I 1))] [])))) ∧ ((¬ ((h.1 112 j2) ≤ (h.1 111 j3))) → (∃ j7 : Nat, x4 = I (j7 : Int) ∧ j7 < 4 ∧ (∃ j8 : Nat, (((I 10) * x4) + (h.1 111 j7)) = I (j8 : Int) ∧ j8 < 40 ∧ (∃ j9 : Nat, x4 = I (j9 : Int) ∧ j9 < 4 ∧ (∃ j10 : Nat, x4 = I (j10 : Int) ∧ j10 < 4 ∧ (GI g l X Q (sI (sI h 114 j8 (h.1 82 38)) 111 j10 (h.1 112 j9)) 57 [(0, .ref 82), (3, .int x3), (4, .int (x4 + I 1))] []))))))))))) : GI g l X Q h 57 [(0, .ref 82), (3, .int x3), (4, .int x4)] [] := by
  refine g_iload (pc := 57) O rfl dX8_goOn_57 ?_
  refine g_aloadn (pc := 59) O rfl dX8_goOn_59 ?_
  refine g_getI (v := h.1 82 6) (pc := 60) O cls8 fl_X8_173 dX8_goOn_60 rfl (ltb rfl) (ltb rfl) rfl rfl ?_
  refine g_icmp_ge (tgt := 125) (pc := 63) O dX8_goOn_63 rfl (fun q1 => ?_) (fun q1 => ?_)
  · replace H := H.1 q1
    refine g_aloadn (pc := 125) O rfl dX8_goOn_125 ?_
    refine g_dup (pc := 126) O rfl dX8_goOn_126 ?_
    refine g_getI (v := h.1 82 38) (pc := 127) O cls8 fl_X8_235 dX8_goOn_127 rfl (ltb rfl) (ltb rfl) rfl rfl ?_
    refine g_iconst (v := (I 1)) (pc := 130) O rfl dX8_goOn_130 ?_
    refine g_iadd (pc := 131) O dX8_goOn_131 ?_
    refine g_putI (pc := 132) O cls8 fl_X8_235 dX8_goOn_132 rfl (ltb rfl) (leb rfl) (ltb rfl) rfl rfl (by decide +kernel) ?_
    refine g_iloadn (pc := 135) O rfl dX8_goOn_135 ?_
    exact g_iret (pc := 136) O dX8_goOn_136 H
  · replace H := H.2 q1
    refine g_aloadn (pc := 66) O rfl dX8_goOn_66 ?_
    refine g_getS (pc := 67) O cls8 fl_X8_98 dX8_goOn_67 rfl (ltb rfl) (ltb rfl) rfl rfl ?_
    refine g_iload (pc := 70) O rfl dX8_goOn_70 ?_
    obtain ⟨j2, ej2, bj2, H⟩ := H
    refine g_iald (j := j2) (pc := 72) O dX8_goOn_72 ej2 rfl (ltb rfl) bj2 (ltb rfl) rfl ?_
    refine g_aloadn (pc := 73) O rfl dX8_goOn_73 ?_
    refine g_getS (pc := 74) O cls8 fl_X8_95 dX8_goOn_74 rfl (ltb rfl) (ltb rfl) rfl rfl ?_
    refine g_iload (pc := 77) O rfl dX8_goOn_77 ?_
    obtain ⟨j3, ej3, bj3, H⟩ := H
    refine g_iald (j := j3) (pc := 79) O dX8_goOn_79 ej3 rfl (ltb rfl) bj3 (ltb rfl) rfl ?_
    refine g_icmp_le (tgt := 105) (pc := 80) O dX8_goOn_80 rfl (fun q4 => ?_) (fun q4 => ?_)
    · replace H := H.1 q4
      refine g_aloadn (pc := 105) O rfl dX8_goOn_105 ?_
      refine g_getS (pc := 106) O cls8 fl_X8_95 dX8_goOn_106 rfl (ltb rfl) (ltb rfl) rfl rfl ?_
      refine g_iload (pc := 109) O rfl dX8_goOn_109 ?_
      refine g_aloadn (pc := 111) O rfl dX8_goOn_111 ?_
      refine g_getS (pc := 112) O cls8 fl_X8_98 dX8_goOn_112 rfl (ltb rfl) (ltb rfl) rfl rfl ?_
      refine g_iload (pc := 115) O rfl dX8_goOn_115 ?_
      obtain ⟨j5, ej5, bj5, H⟩ := H
      refine g_iald (j := j5) (pc := 117) O dX8_goOn_117 ej5 rfl (ltb rfl) bj5 (ltb rfl) rfl ?_
      obtain ⟨j6, ej6, bj6, H⟩ := H
      refine g_iast (j := j6) (pc := 118) O dX8_goOn_118 ej6 rfl (ltb rfl) (leb rfl) bj6 (ltb rfl) ?_
      refine g_iinc (lv' := [(0, .ref 82), (3, .int x3), (4, .int (x4 + I 1))]) (pc := 119) O dX8_goOn_119 rfl rfl (ltb rfl) rfl ?_
      refine g_goto (tgt := 57) (pc := 122) O dX8_goOn_122 rfl ?_
      exact H
    · replace H := H.2 q4
      refine g_aloadn (pc := 83) O rfl dX8_goOn_83 ?_
      refine g_getS (pc := 84) O cls8 fl_X8_104 dX8_goOn_84 rfl (ltb rfl) (ltb rfl) rfl rfl ?_
      refine g_bipush (v := (I 10)) (pc := 87) O (by decide) dX8_goOn_87 ?_
      refine g_iload (pc := 89) O rfl dX8_goOn_89 ?_
      refine g_imul (pc := 91) O dX8_goOn_91 ?_
      refine g_aloadn (pc := 92) O rfl dX8_goOn_92 ?_
      refine g_getS (pc := 93) O cls8 fl_X8_95 dX8_goOn_93 rfl (ltb rfl) (ltb rfl) rfl rfl ?_
      refine g_iload (pc := 96) O rfl dX8_goOn_96 ?_
      obtain ⟨j7, ej7, bj7, H⟩ := H
      refine g_iald (j := j7) (pc := 98) O dX8_goOn_98 ej7 rfl (ltb rfl) bj7 (ltb rfl) rfl ?_
      refine g_iadd (pc := 99) O dX8_goOn_99 ?_
      refine g_aloadn (pc := 100) O rfl dX8_goOn_100 ?_
      refine g_getI (v := h.1 82 38) (pc := 101) O cls8 fl_X8_235 dX8_goOn_101 rfl (ltb rfl) (ltb rfl) rfl rfl ?_
      obtain ⟨j8, ej8, bj8, H⟩ := H
      refine g_iast (j := j8) (pc := 104) O dX8_goOn_104 ej8 rfl (ltb rfl) (leb rfl) bj8 (ltb rfl) ?_
      refine g_aloadn (pc := 105) O rfl dX8_goOn_105 ?_
      refine g_getS (pc := 106) O cls8 fl_X8_95 dX8_goOn_106 rfl (ltb rfl) (ltb rfl) rfl rfl ?_
      refine g_iload (pc := 109) O rfl dX8_goOn_109 ?_
      refine g_aloadn (pc := 111) O rfl dX8_goOn_111 ?_
      refine g_getS (pc := 112) O cls8 fl_X8_98 dX8_goOn_112 rfl (ltb rfl) (ltb rfl) rfl rfl ?_
      refine g_iload (pc := 115) O rfl dX8_goOn_115 ?_
      obtain ⟨j9, ej9, bj9, H⟩ := H
      refine g_iald (j := j9) (pc := 117) O dX8_goOn_117 ej9 rfl (ltb rfl) bj9 (ltb rfl) rfl ?_
      obtain ⟨j10, ej10, bj10, H⟩ := H
      refine g_iast (j := j10) (pc := 118) O dX8_goOn_118 ej10 rfl (ltb rfl) (leb rfl) bj10 (ltb rfl) ?_
      refine g_iinc (lv' := [(0, .ref 82), (3, .int x3), (4, .int (x4 + I 1))]) (pc := 119) O dX8_goOn_119 rfl rfl (ltb rfl) rfl ?_
      refine g_goto (tgt := 57) (pc := 122) O dX8_goOn_122 rfl ?_
      exact H
set_option maxRecDepth 20000 in
set_option maxHeartbeats 2000000 in
theorem sX8_goOn {g : mg} {l : Launch} {Q : Int32 → AH → Prop} {x1 : Int32} {h : AH} (H : ∀ X, Ok (FF g l X) RX8 cX8_goOn 5 mX8_goOn.2.2.2.2 (some .int) → SpI g l mX8_behind h [.ref 82, .int (I 0)] (fun v1 hv1 => GI g l X Q hv1 8 [(0, .ref 82), (1, .int x1), (2, .int (I 0)), (3, .int v1)] [])) : SpI g l mX8_goOn h [.ref 82, .int x1] Q := spI_of (by decide) (leb rfl) (fun X O => bX8_goOn_0 O (H X O))
