/-! printed by gen.py: what each stretch of code asks for (H) to come to its end, and its walk -/
set_option maxRecDepth 20000 in
set_option maxHeartbeats 2000000 in
theorem bX8_in_0 {g : mg} {l : Launch} {X : XT} {Q : Int32 → AH → Prop} (O : Ok (FF g l X) RX8 cX8_in 3 mX8_in.2.2.2.2 (some .boolean)) {x0 : Int32} {x1 : Int32} {x2 : Int32} {h : AH} (H : ((x0 < x1) → (Q (I 0) h)) ∧ ((¬ (x0 < x1)) → (((x2 < x0) → (Q (I 0) h)) ∧ ((¬ (x2 < x0)) → (Q (I 1) h))))) : GI g l X Q h 0 [(0, .int x0), (1, .int x1), (2, .int x2)] [] := by
  refine g_iloadn (pc := 0) O rfl dX8_in_0 ?_
  refine g_iloadn (pc := 1) O rfl dX8_in_1 ?_
  refine g_icmp_lt (tgt := 14) (pc := 2) O dX8_in_2 rfl (fun q1 => ?_) (fun q1 => ?_)
  · replace H := H.1 q1
    refine g_iconst (v := (I 0)) (pc := 14) O rfl dX8_in_14 ?_
    exact g_zret (pc := 15) O dX8_in_15 (by decide) H
  · replace H := H.2 q1
    refine g_iloadn (pc := 5) O rfl dX8_in_5 ?_
    refine g_iloadn (pc := 6) O rfl dX8_in_6 ?_
    refine g_icmp_gt (tgt := 14) (pc := 7) O dX8_in_7 rfl (fun q2 => ?_) (fun q2 => ?_)
    · replace H := H.1 q2
      refine g_iconst (v := (I 0)) (pc := 14) O rfl dX8_in_14 ?_
      exact g_zret (pc := 15) O dX8_in_15 (by decide) H
    · replace H := H.2 q2
      refine g_iconst (v := (I 1)) (pc := 10) O rfl dX8_in_10 ?_
      refine g_goto (tgt := 15) (pc := 11) O dX8_in_11 rfl ?_
      exact g_zret (pc := 15) O dX8_in_15 (by decide) H
set_option maxRecDepth 20000 in
set_option maxHeartbeats 2000000 in
theorem sX8_in {g : mg} {l : Launch} {Q : Int32 → AH → Prop} {x0 : Int32} {x1 : Int32} {x2 : Int32} {h : AH} (H : ((x0 < x1) → (Q (I 0) h)) ∧ ((¬ (x0 < x1)) → (((x2 < x0) → (Q (I 0) h)) ∧ ((¬ (x2 < x0)) → (Q (I 1) h))))) : SpI g l mX8_in h [.int x0, .int x1, .int x2] Q := spI_of (by decide) (leb rfl) (fun X O => bX8_in_0 O H)
set_option maxRecDepth 20000 in
set_option maxHeartbeats 2000000 in
theorem bX8_type_0 {g : mg} {l : Launch} {X : XT} {Q : Int32 → AH → Prop} (O : Ok (FF g l X) RX8 cX8_type 5 mX8_type.2.2.2.2 (some .int)) {x1 : Int64} {x3 : Int32} {h : AH} (H : SpI g l mX8_in h [.int x3, .int (I 1), .int (I 8)] (fun v1 hv1 => ((¬ v1 = 0) → (((((hv1.1 82 1) + x3) ≤ (I 400)) → (GI g l X Q hv1 32 [(0, .ref 82), (1, .long x1), (4, .int (x3 - (I 1)))] [])) ∧ ((¬ (((hv1.1 82 1) + x3) ≤ (I 400))) → (Q (I (-3)) hv1)))) ∧ ((v1 = 0) → (Q (I (-1)) hv1)))) : GI g l X Q h 0 [(0, .ref 82), (1, .long x1), (3, .int x3)] [] := by
  refine g_iloadn (pc := 0) O rfl dX8_type_0 ?_
  refine g_iconst (v := (I 1)) (pc := 1) O rfl dX8_type_1 ?_
  refine g_bipush (v := (I 8)) (pc := 2) O (by decide) dX8_type_2 ?_
  refine g_sI [.int x3, .int (I 1), .int (I 8)] [] (pc := 4) O mk_X8_in ml_X8_116 sm_X8_in ⟨rfl, rfl, leb rfl, leb rfl⟩ rfl (leb rfl) dX8_type_4 H rfl (fun v1 hv1 H => ?_)
  refine g_if_ne (tgt := 12) (pc := 7) O dX8_type_7 rfl (fun q2 => ?_) (fun q2 => ?_)
  · replace H := H.1 q2
    refine g_aloadn (pc := 12) O rfl dX8_type_12 ?_
    refine g_getI (pc := 13) O cls8 fl_X8_120 dX8_type_13 rfl (ltb rfl) (ltb rfl) rfl rfl ?_
    refine g_iloadn (pc := 16) O rfl dX8_type_16 ?_
    refine g_iadd (pc := 17) O dX8_type_17 ?_
    refine g_sipush (v := (I 400)) (pc := 18) O (by decide) dX8_type_18 ?_
    refine g_icmp_le (tgt := 27) (pc := 21) O dX8_type_21 rfl (fun q3 => ?_) (fun q3 => ?_)
    · replace H := H.1 q3
      refine g_iloadn (pc := 27) O rfl dX8_type_27 ?_
      refine g_iconst (v := (I 1)) (pc := 28) O rfl dX8_type_28 ?_
      refine g_isub (pc := 29) O dX8_type_29 ?_
      refine g_istore (lv' := [(0, .ref 82), (1, .long x1), (3, .int x3), (4, .int (x3 - (I 1)))]) (pc := 30) O dX8_type_30 (ltb rfl) rfl ?_
      refine g_sub [0, 1, 3] rfl ?_
      exact H
    · replace H := H.2 q3
      refine g_bipush (v := (I (-3))) (pc := 24) O (by decide) dX8_type_24 ?_
      exact g_iret (pc := 26) O dX8_type_26 H
  · replace H := H.2 q2
    refine g_iconst (v := (I (-1))) (pc := 10) O rfl dX8_type_10 ?_
    exact g_iret (pc := 11) O dX8_type_11 H
set_option maxRecDepth 20000 in
set_option maxHeartbeats 2000000 in
theorem bX8_type_32 {g : mg} {l : Launch} {X : XT} {Q : Int32 → AH → Prop} (O : Ok (FF g l X) RX8 cX8_type 5 mX8_type.2.2.2.2 (some .int)) {x1 : Int64} {x4 : Int32} {h : AH} (H : ((x4 < 0) → (Q (h.1 82 1) h)) ∧ ((¬ (x4 < 0)) → (∃ j2 : Nat, (h.1 82 1) = I (j2 : Int) ∧ j2 < 400 ∧ (GI g l X Q (sI (sI h 83 j2 ((((x1 >>> ((((I 8) * x4)).toInt64 &&& 63)) &&& (255))).toInt32)) 82 1 ((h.1 82 1) + (I 1))) 32 [(0, .ref 82), (1, .long x1), (4, .int (x4 + I (-1)))] [])))) : GI g l X Q h 32 [(0, .ref 82), (1, .long x1), (4, .int x4)] [] := by
  refine g_iload (pc := 32) O rfl dX8_type_32 ?_
  refine g_if_lt (tgt := 74) (pc := 34) O dX8_type_34 rfl (fun q1 => ?_) (fun q1 => ?_)
  · replace H := H.1 q1
    refine g_aloadn (pc := 74) O rfl dX8_type_74 ?_
    refine g_getI (pc := 75) O cls8 fl_X8_120 dX8_type_75 rfl (ltb rfl) (ltb rfl) rfl rfl ?_
    exact g_iret (pc := 78) O dX8_type_78 H
  · replace H := H.2 q1
    refine g_aloadn (pc := 37) O rfl dX8_type_37 ?_
    refine g_getS (pc := 38) O cls8 fl_X8_7 dX8_type_38 rfl (ltb rfl) (ltb rfl) rfl rfl ?_
    refine g_aloadn (pc := 41) O rfl dX8_type_41 ?_
    refine g_getI (pc := 42) O cls8 fl_X8_120 dX8_type_42 rfl (ltb rfl) (ltb rfl) rfl rfl ?_
    refine g_lloadn (pc := 45) O rfl dX8_type_45 ?_
    refine g_bipush (v := (I 8)) (pc := 46) O (by decide) dX8_type_46 ?_
    refine g_iload (pc := 48) O rfl dX8_type_48 ?_
    refine g_imul (pc := 50) O dX8_type_50 ?_
    refine g_lshr (pc := 51) O dX8_type_51 ?_
    refine g_ldc2 (pc := 52) O co_X8_124 dX8_type_52 ?_
    refine g_land (pc := 55) O dX8_type_55 ?_
    refine g_l2i (pc := 56) O dX8_type_56 ?_
    obtain ⟨j2, ej2, bj2, H⟩ := H
    refine g_iast (j := j2) (pc := 57) O dX8_type_57 ej2 rfl (ltb rfl) (leb rfl) bj2 (ltb rfl) ?_
    refine g_aloadn (pc := 58) O rfl dX8_type_58 ?_
    refine g_dup (pc := 59) O rfl dX8_type_59 ?_
    refine g_getI (pc := 60) O cls8 fl_X8_120 dX8_type_60 rfl (ltb rfl) (ltb rfl) rfl rfl ?_
    refine g_iconst (v := (I 1)) (pc := 63) O rfl dX8_type_63 ?_
    refine g_iadd (pc := 64) O dX8_type_64 ?_
    refine g_putI (pc := 65) O cls8 fl_X8_120 dX8_type_65 rfl (ltb rfl) (leb rfl) (ltb rfl) rfl rfl (by decide +kernel) ?_
    refine g_iinc (lv' := [(0, .ref 82), (1, .long x1), (4, .int (x4 + I (-1)))]) (pc := 68) O dX8_type_68 rfl rfl (ltb rfl) rfl ?_
    refine g_goto (tgt := 32) (pc := 71) O dX8_type_71 rfl ?_
    exact H
set_option maxRecDepth 20000 in
set_option maxHeartbeats 2000000 in
theorem sX8_type {g : mg} {l : Launch} {Q : Int32 → AH → Prop} {x1 : Int64} {x3 : Int32} {h : AH} (H : ∀ X, Ok (FF g l X) RX8 cX8_type 5 mX8_type.2.2.2.2 (some .int) → SpI g l mX8_in h [.int x3, .int (I 1), .int (I 8)] (fun v1 hv1 => ((¬ v1 = 0) → (((((hv1.1 82 1) + x3) ≤ (I 400)) → (GI g l X Q hv1 32 [(0, .ref 82), (1, .long x1), (4, .int (x3 - (I 1)))] [])) ∧ ((¬ (((hv1.1 82 1) + x3) ≤ (I 400))) → (Q (I (-3)) hv1)))) ∧ ((v1 = 0) → (Q (I (-1)) hv1)))) : SpI g l mX8_type h [.ref 82, .long x1, .int x3] Q := spI_of (by decide) (leb rfl) (fun X O => bX8_type_0 O (H X O))
set_option maxRecDepth 20000 in
set_option maxHeartbeats 2000000 in
theorem bX8_clear_0 {g : mg} {l : Launch} {X : XT} {Q : Int32 → AH → Prop} (O : Ok (FF g l X) RX8 cX8_clear 2 mX8_clear.2.2.2.2 (some .int))  {h : AH} (H : Q (h.1 82 1) (sI h 82 1 (I 0))) : GI g l X Q h 0 [(0, .ref 82)] [] := by
  refine g_aloadn (pc := 0) O rfl dX8_clear_0 ?_
  refine g_getI (pc := 1) O cls8 fl_X8_120 dX8_clear_1 rfl (ltb rfl) (ltb rfl) rfl rfl ?_
  refine g_istoren (lv' := [(0, .ref 82), (1, .int (h.1 82 1))]) (pc := 4) O dX8_clear_4 rfl (ltb rfl) rfl ?_
  refine g_aloadn (pc := 5) O rfl dX8_clear_5 ?_
  refine g_iconst (v := (I 0)) (pc := 6) O rfl dX8_clear_6 ?_
  refine g_putI (pc := 7) O cls8 fl_X8_120 dX8_clear_7 rfl (ltb rfl) (leb rfl) (ltb rfl) rfl rfl (by decide +kernel) ?_
  refine g_iloadn (pc := 10) O rfl dX8_clear_10 ?_
  exact g_iret (pc := 11) O dX8_clear_11 H
set_option maxRecDepth 20000 in
set_option maxHeartbeats 2000000 in
theorem sX8_clear {g : mg} {l : Launch} {Q : Int32 → AH → Prop}  {h : AH} (H : Q (h.1 82 1) (sI h 82 1 (I 0))) : SpI g l mX8_clear h [.ref 82] Q := spI_of (by decide) (leb rfl) (fun X O => bX8_clear_0 O H)
set_option maxRecDepth 20000 in
set_option maxHeartbeats 2000000 in
theorem bX8_isLetter_0 {g : mg} {l : Launch} {X : XT} {Q : Int32 → AH → Prop} (O : Ok (FF g l X) RX8 cX8_isLetter 1 mX8_isLetter.2.2.2.2 (some .boolean)) {x0 : Int32} {h : AH} (H : SpI g l mX8_in h [.int x0, .int (I 97), .int (I 122)] (fun v1 hv1 => (v1 = 0 ∨ v1 = 1) ∧ Q v1 hv1)) : GI g l X Q h 0 [(0, .int x0)] [] := by
  refine g_iloadn (pc := 0) O rfl dX8_isLetter_0 ?_
  refine g_bipush (v := (I 97)) (pc := 1) O (by decide) dX8_isLetter_1 ?_
  refine g_bipush (v := (I 122)) (pc := 3) O (by decide) dX8_isLetter_3 ?_
  refine g_sI [.int x0, .int (I 97), .int (I 122)] [] (pc := 5) O mk_X8_in ml_X8_116 sm_X8_in ⟨rfl, rfl, leb rfl, leb rfl⟩ rfl (leb rfl) dX8_isLetter_5 H rfl (fun v1 hv1 H => ?_)
  exact g_zret (pc := 8) O dX8_isLetter_8 H.1 H.2
set_option maxRecDepth 20000 in
set_option maxHeartbeats 2000000 in
theorem sX8_isLetter {g : mg} {l : Launch} {Q : Int32 → AH → Prop} {x0 : Int32} {h : AH} (H : SpI g l mX8_in h [.int x0, .int (I 97), .int (I 122)] (fun v1 hv1 => (v1 = 0 ∨ v1 = 1) ∧ Q v1 hv1)) : SpI g l mX8_isLetter h [.int x0] Q := spI_of (by decide) (leb rfl) (fun X O => bX8_isLetter_0 O H)
set_option maxRecDepth 20000 in
set_option maxHeartbeats 2000000 in
theorem bX8_isDigit_0 {g : mg} {l : Launch} {X : XT} {Q : Int32 → AH → Prop} (O : Ok (FF g l X) RX8 cX8_isDigit 1 mX8_isDigit.2.2.2.2 (some .boolean)) {x0 : Int32} {h : AH} (H : SpI g l mX8_in h [.int x0, .int (I 48), .int (I 57)] (fun v1 hv1 => (v1 = 0 ∨ v1 = 1) ∧ Q v1 hv1)) : GI g l X Q h 0 [(0, .int x0)] [] := by
  refine g_iloadn (pc := 0) O rfl dX8_isDigit_0 ?_
  refine g_bipush (v := (I 48)) (pc := 1) O (by decide) dX8_isDigit_1 ?_
  refine g_bipush (v := (I 57)) (pc := 3) O (by decide) dX8_isDigit_3 ?_
  refine g_sI [.int x0, .int (I 48), .int (I 57)] [] (pc := 5) O mk_X8_in ml_X8_116 sm_X8_in ⟨rfl, rfl, leb rfl, leb rfl⟩ rfl (leb rfl) dX8_isDigit_5 H rfl (fun v1 hv1 H => ?_)
  exact g_zret (pc := 8) O dX8_isDigit_8 H.1 H.2
set_option maxRecDepth 20000 in
set_option maxHeartbeats 2000000 in
theorem sX8_isDigit {g : mg} {l : Launch} {Q : Int32 → AH → Prop} {x0 : Int32} {h : AH} (H : SpI g l mX8_in h [.int x0, .int (I 48), .int (I 57)] (fun v1 hv1 => (v1 = 0 ∨ v1 = 1) ∧ Q v1 hv1)) : SpI g l mX8_isDigit h [.int x0] Q := spI_of (by decide) (leb rfl) (fun X O => bX8_isDigit_0 O H)
set_option maxRecDepth 20000 in
set_option maxHeartbeats 2000000 in
theorem bX8_look_0 {g : mg} {l : Launch} {X : XT} {Q : Int32 → AH → Prop} (O : Ok (FF g l X) RX8 cX8_look 1 mX8_look.2.2.2.2 (some .int))  {h : AH} (H : (((h.1 82 1) ≤ (h.1 82 2)) → (Q (I (-1)) h)) ∧ ((¬ ((h.1 82 1) ≤ (h.1 82 2))) → (∃ j2 : Nat, (h.1 82 2) = I (j2 : Int) ∧ j2 < 400 ∧ (Q (h.1 83 j2) h)))) : GI g l X Q h 0 [(0, .ref 82)] [] := by
  refine g_aloadn (pc := 0) O rfl dX8_look_0 ?_
  refine g_getI (pc := 1) O cls8 fl_X8_126 dX8_look_1 rfl (ltb rfl) (ltb rfl) rfl rfl ?_
  refine g_aloadn (pc := 4) O rfl dX8_look_4 ?_
  refine g_getI (pc := 5) O cls8 fl_X8_120 dX8_look_5 rfl (ltb rfl) (ltb rfl) rfl rfl ?_
  refine g_icmp_ge (tgt := 23) (pc := 8) O dX8_look_8 rfl (fun q1 => ?_) (fun q1 => ?_)
  · replace H := H.1 q1
    refine g_iconst (v := (I (-1))) (pc := 23) O rfl dX8_look_23 ?_
    exact g_iret (pc := 24) O dX8_look_24 H
  · replace H := H.2 q1
    refine g_aloadn (pc := 11) O rfl dX8_look_11 ?_
    refine g_getS (pc := 12) O cls8 fl_X8_7 dX8_look_12 rfl (ltb rfl) (ltb rfl) rfl rfl ?_
    refine g_aloadn (pc := 15) O rfl dX8_look_15 ?_
    refine g_getI (pc := 16) O cls8 fl_X8_126 dX8_look_16 rfl (ltb rfl) (ltb rfl) rfl rfl ?_
    obtain ⟨j2, ej2, bj2, H⟩ := H
    refine g_iald (j := j2) (pc := 19) O dX8_look_19 ej2 rfl (ltb rfl) bj2 (ltb rfl) rfl ?_
    refine g_goto (tgt := 24) (pc := 20) O dX8_look_20 rfl ?_
    exact g_iret (pc := 24) O dX8_look_24 H
set_option maxRecDepth 20000 in
set_option maxHeartbeats 2000000 in
theorem sX8_look {g : mg} {l : Launch} {Q : Int32 → AH → Prop}  {h : AH} (H : (((h.1 82 1) ≤ (h.1 82 2)) → (Q (I (-1)) h)) ∧ ((¬ ((h.1 82 1) ≤ (h.1 82 2))) → (∃ j2 : Nat, (h.1 82 2) = I (j2 : Int) ∧ j2 < 400 ∧ (Q (h.1 83 j2) h)))) : SpI g l mX8_look h [.ref 82] Q := spI_of (by decide) (leb rfl) (fun X O => bX8_look_0 O H)
set_option maxRecDepth 20000 in
set_option maxHeartbeats 2000000 in
theorem bX8_isNumber_0 {g : mg} {l : Launch} {X : XT} {Q : Int32 → AH → Prop} (O : Ok (FF g l X) RX8 cX8_isNumber 3 mX8_isNumber.2.2.2.2 (some .boolean)) {x1 : Int32} {x2 : Int32} {h : AH} (H : ((¬ (h.1 82 4) = (I 2)) → (Q (I 0) h)) ∧ (((h.1 82 4) = (I 2)) → (SpI g l mX8_in h [.int (h.1 82 5), .int x1, .int x2] (fun v2 hv2 => ((v2 = 0) → (Q (I 0) hv2)) ∧ ((¬ (v2 = 0)) → (Q (I 1) hv2)))))) : GI g l X Q h 0 [(0, .ref 82), (1, .int x1), (2, .int x2)] [] := by
  refine g_aloadn (pc := 0) O rfl dX8_isNumber_0 ?_
  refine g_getI (pc := 1) O cls8 fl_X8_136 dX8_isNumber_1 rfl (ltb rfl) (ltb rfl) rfl rfl ?_
  refine g_iconst (v := (I 2)) (pc := 4) O rfl dX8_isNumber_4 ?_
  refine g_icmp_ne (tgt := 24) (pc := 5) O dX8_isNumber_5 rfl (fun q1 => ?_) (fun q1 => ?_)
  · replace H := H.1 q1
    refine g_iconst (v := (I 0)) (pc := 24) O rfl dX8_isNumber_24 ?_
    exact g_zret (pc := 25) O dX8_isNumber_25 (by decide) H
  · replace H := H.2 q1
    refine g_aloadn (pc := 8) O rfl dX8_isNumber_8 ?_
    refine g_getI (pc := 9) O cls8 fl_X8_149 dX8_isNumber_9 rfl (ltb rfl) (ltb rfl) rfl rfl ?_
    refine g_iloadn (pc := 12) O rfl dX8_isNumber_12 ?_
    refine g_iloadn (pc := 13) O rfl dX8_isNumber_13 ?_
    refine g_sI [.int (h.1 82 5), .int x1, .int x2] [] (pc := 14) O mk_X8_in ml_X8_116 sm_X8_in ⟨rfl, rfl, leb rfl, leb rfl⟩ rfl (leb rfl) dX8_isNumber_14 H rfl (fun v2 hv2 H => ?_)
    refine g_if_eq (tgt := 24) (pc := 17) O dX8_isNumber_17 rfl (fun q3 => ?_) (fun q3 => ?_)
    · replace H := H.1 q3
      refine g_iconst (v := (I 0)) (pc := 24) O rfl dX8_isNumber_24 ?_
      exact g_zret (pc := 25) O dX8_isNumber_25 (by decide) H
    · replace H := H.2 q3
      refine g_iconst (v := (I 1)) (pc := 20) O rfl dX8_isNumber_20 ?_
      refine g_goto (tgt := 25) (pc := 21) O dX8_isNumber_21 rfl ?_
      exact g_zret (pc := 25) O dX8_isNumber_25 (by decide) H
set_option maxRecDepth 20000 in
set_option maxHeartbeats 2000000 in
theorem sX8_isNumber {g : mg} {l : Launch} {Q : Int32 → AH → Prop} {x1 : Int32} {x2 : Int32} {h : AH} (H : ((¬ (h.1 82 4) = (I 2)) → (Q (I 0) h)) ∧ (((h.1 82 4) = (I 2)) → (SpI g l mX8_in h [.int (h.1 82 5), .int x1, .int x2] (fun v2 hv2 => ((v2 = 0) → (Q (I 0) hv2)) ∧ ((¬ (v2 = 0)) → (Q (I 1) hv2)))))) : SpI g l mX8_isNumber h [.ref 82, .int x1, .int x2] Q := spI_of (by decide) (leb rfl) (fun X O => bX8_isNumber_0 O H)
set_option maxRecDepth 20000 in
set_option maxHeartbeats 2000000 in
theorem bX8_isChipAt_0 {g : mg} {l : Launch} {X : XT} {Q : Int32 → AH → Prop} (O : Ok (FF g l X) RX8 cX8_isChipAt 2 mX8_isChipAt.2.2.2.2 (some .boolean)) {x1 : Int32} {h : AH} (H : SpI g l mX8_in h [.int x1, .int (I 0), .int ((h.1 82 6) - (I 1))] (fun v1 hv1 => (v1 = 0 ∨ v1 = 1) ∧ Q v1 hv1)) : GI g l X Q h 0 [(0, .ref 82), (1, .int x1)] [] := by
  refine g_iloadn (pc := 0) O rfl dX8_isChipAt_0 ?_
  refine g_iconst (v := (I 0)) (pc := 1) O rfl dX8_isChipAt_1 ?_
  refine g_aloadn (pc := 2) O rfl dX8_isChipAt_2 ?_
  refine g_getI (pc := 3) O cls8 fl_X8_173 dX8_isChipAt_3 rfl (ltb rfl) (ltb rfl) rfl rfl ?_
  refine g_iconst (v := (I 1)) (pc := 6) O rfl dX8_isChipAt_6 ?_
  refine g_isub (pc := 7) O dX8_isChipAt_7 ?_
  refine g_sI [.int x1, .int (I 0), .int ((h.1 82 6) - (I 1))] [] (pc := 8) O mk_X8_in ml_X8_116 sm_X8_in ⟨rfl, rfl, leb rfl, leb rfl⟩ rfl (leb rfl) dX8_isChipAt_8 H rfl (fun v1 hv1 H => ?_)
  exact g_zret (pc := 11) O dX8_isChipAt_11 H.1 H.2
set_option maxRecDepth 20000 in
set_option maxHeartbeats 2000000 in
theorem sX8_isChipAt {g : mg} {l : Launch} {Q : Int32 → AH → Prop} {x1 : Int32} {h : AH} (H : SpI g l mX8_in h [.int x1, .int (I 0), .int ((h.1 82 6) - (I 1))] (fun v1 hv1 => (v1 = 0 ∨ v1 = 1) ∧ Q v1 hv1)) : SpI g l mX8_isChipAt h [.ref 82, .int x1] Q := spI_of (by decide) (leb rfl) (fun X O => bX8_isChipAt_0 O H)
set_option maxRecDepth 20000 in
set_option maxHeartbeats 2000000 in
theorem bX8_isSame_0 {g : mg} {l : Launch} {X : XT} {Q : Int32 → AH → Prop} (O : Ok (FF g l X) RX8 cX8_isSame 3 mX8_isSame.2.2.2.2 (some .boolean)) {x1 : Int32} {x2 : Int32} {h : AH} (H : ((x1 = x2) → (Q (I 1) h)) ∧ ((¬ (x1 = x2)) → (((¬ (h.1 101 2) = 0) → (Q (I 0) h)) ∧ (((h.1 101 2) = 0) → (∃ j4 : Nat, x1 = I (j4 : Int) ∧ j4 < 12 ∧ (((¬ (((h.1 93 j4) >>> (x2 &&& 31)) &&& (I 1)) = (I 1)) → (Q (I 0) h)) ∧ (((((h.1 93 j4) >>> (x2 &&& 31)) &&& (I 1)) = (I 1)) → (Q (I 1) h)))))))) : GI g l X Q h 0 [(0, .ref 82), (1, .int x1), (2, .int x2)] [] := by
  refine g_iloadn (pc := 0) O rfl dX8_isSame_0 ?_
  refine g_iloadn (pc := 1) O rfl dX8_isSame_1 ?_
  refine g_icmp_eq (tgt := 28) (pc := 2) O dX8_isSame_2 rfl (fun q1 => ?_) (fun q1 => ?_)
  · replace H := H.1 q1
    refine g_iconst (v := (I 1)) (pc := 28) O rfl dX8_isSame_28 ?_
    refine g_goto (tgt := 33) (pc := 29) O dX8_isSame_29 rfl ?_
    exact g_zret (pc := 33) O dX8_isSame_33 (by decide) H
  · replace H := H.2 q1
    refine g_aloadn (pc := 5) O rfl dX8_isSame_5 ?_
    refine g_getS (pc := 6) O cls8 fl_X8_64 dX8_isSame_6 rfl (ltb rfl) (ltb rfl) rfl rfl ?_
    refine g_iconst (v := (I 2)) (pc := 9) O rfl dX8_isSame_9 ?_
    refine g_iald (j := 2) (pc := 10) O dX8_isSame_10 rfl rfl (ltb rfl) (ltb rfl) (ltb rfl) rfl ?_
    refine g_if_ne (tgt := 32) (pc := 11) O dX8_isSame_11 rfl (fun q3 => ?_) (fun q3 => ?_)
    · replace H := H.1 q3
      refine g_iconst (v := (I 0)) (pc := 32) O rfl dX8_isSame_32 ?_
      exact g_zret (pc := 33) O dX8_isSame_33 (by decide) H
    · replace H := H.2 q3
      refine g_aloadn (pc := 14) O rfl dX8_isSame_14 ?_
      refine g_getS (pc := 15) O cls8 fl_X8_40 dX8_isSame_15 rfl (ltb rfl) (ltb rfl) rfl rfl ?_
      refine g_iloadn (pc := 18) O rfl dX8_isSame_18 ?_
      obtain ⟨j4, ej4, bj4, H⟩ := H
      refine g_iald (j := j4) (pc := 19) O dX8_isSame_19 ej4 rfl (ltb rfl) bj4 (ltb rfl) rfl ?_
      refine g_iloadn (pc := 20) O rfl dX8_isSame_20 ?_
      refine g_ishr (pc := 21) O dX8_isSame_21 ?_
      refine g_iconst (v := (I 1)) (pc := 22) O rfl dX8_isSame_22 ?_
      refine g_iand (pc := 23) O dX8_isSame_23 ?_
      refine g_iconst (v := (I 1)) (pc := 24) O rfl dX8_isSame_24 ?_
      refine g_icmp_ne (tgt := 32) (pc := 25) O dX8_isSame_25 rfl (fun q5 => ?_) (fun q5 => ?_)
      · replace H := H.1 q5
        refine g_iconst (v := (I 0)) (pc := 32) O rfl dX8_isSame_32 ?_
        exact g_zret (pc := 33) O dX8_isSame_33 (by decide) H
      · replace H := H.2 q5
        refine g_iconst (v := (I 1)) (pc := 28) O rfl dX8_isSame_28 ?_
        refine g_goto (tgt := 33) (pc := 29) O dX8_isSame_29 rfl ?_
        exact g_zret (pc := 33) O dX8_isSame_33 (by decide) H
set_option maxRecDepth 20000 in
set_option maxHeartbeats 2000000 in
theorem sX8_isSame {g : mg} {l : Launch} {Q : Int32 → AH → Prop} {x1 : Int32} {x2 : Int32} {h : AH} (H : ((x1 = x2) → (Q (I 1) h)) ∧ ((¬ (x1 = x2)) → (((¬ (h.1 101 2) = 0) → (Q (I 0) h)) ∧ (((h.1 101 2) = 0) → (∃ j4 : Nat, x1 = I (j4 : Int) ∧ j4 < 12 ∧ (((¬ (((h.1 93 j4) >>> (x2 &&& 31)) &&& (I 1)) = (I 1)) → (Q (I 0) h)) ∧ (((((h.1 93 j4) >>> (x2 &&& 31)) &&& (I 1)) = (I 1)) → (Q (I 1) h)))))))) : SpI g l mX8_isSame h [.ref 82, .int x1, .int x2] Q := spI_of (by decide) (leb rfl) (fun X O => bX8_isSame_0 O H)
set_option maxRecDepth 20000 in
set_option maxHeartbeats 2000000 in
theorem bX8_costOf_0 {g : mg} {l : Launch} {X : XT} {Q : Int32 → AH → Prop} (O : Ok (FF g l X) RX8 cX8_costOf 7 mX8_costOf.2.2.2.2 (some .int)) {x1 : Int32} {x2 : Int32} {x3 : Int32} {x4 : Int32} {x5 : Int32} {h : AH} (H : ∃ j1 : Nat, (((I 10) * x1) + x3) = I (j1 : Int) ∧ j1 < 40 ∧ (∃ j2 : Nat, (((I 10) * x2) + x5) = I (j2 : Int) ∧ j2 < 40 ∧ (((0 ≤ ((h.1 88 j1) - (h.1 88 j2))) → (∃ j6 : Nat, ((((I 11) * (x3 + (I 1))) + x5) + (I 1)) = I (j6 : Int) ∧ j6 < 121 ∧ (Q ((((x5 - x4) * (h.1 101 0)) + ((h.1 101 1) * ((h.1 88 j1) - (h.1 88 j2)))) + (h.1 108 j6)) h))) ∧ ((¬ (0 ≤ ((h.1 88 j1) - (h.1 88 j2)))) → (∃ j7 : Nat, ((((I 11) * (x3 + (I 1))) + x5) + (I 1)) = I (j7 : Int) ∧ j7 < 121 ∧ (Q ((((x5 - x4) * (h.1 101 0)) + ((h.1 101 1) * (-((h.1 88 j1) - (h.1 88 j2))))) + (h.1 108 j7)) h)))))) : GI g l X Q h 0 [(0, .ref 82), (1, .int x1), (2, .int x2), (3, .int x3), (4, .int x4), (5, .int x5)] [] := by
  refine g_aloadn (pc := 0) O rfl dX8_costOf_0 ?_
  refine g_getS (pc := 1) O cls8 fl_X8_25 dX8_costOf_1 rfl (ltb rfl) (ltb rfl) rfl rfl ?_
  refine g_bipush (v := (I 10)) (pc := 4) O (by decide) dX8_costOf_4 ?_
  refine g_iloadn (pc := 6) O rfl dX8_costOf_6 ?_
  refine g_imul (pc := 7) O dX8_costOf_7 ?_
  refine g_iloadn (pc := 8) O rfl dX8_costOf_8 ?_
  refine g_iadd (pc := 9) O dX8_costOf_9 ?_
  obtain ⟨j1, ej1, bj1, H⟩ := H
  refine g_iald (j := j1) (pc := 10) O dX8_costOf_10 ej1 rfl (ltb rfl) bj1 (ltb rfl) rfl ?_
  refine g_aloadn (pc := 11) O rfl dX8_costOf_11 ?_
  refine g_getS (pc := 12) O cls8 fl_X8_25 dX8_costOf_12 rfl (ltb rfl) (ltb rfl) rfl rfl ?_
  refine g_bipush (v := (I 10)) (pc := 15) O (by decide) dX8_costOf_15 ?_
  refine g_iloadn (pc := 17) O rfl dX8_costOf_17 ?_
  refine g_imul (pc := 18) O dX8_costOf_18 ?_
  refine g_iload (pc := 19) O rfl dX8_costOf_19 ?_
  refine g_iadd (pc := 21) O dX8_costOf_21 ?_
  obtain ⟨j2, ej2, bj2, H⟩ := H
  refine g_iald (j := j2) (pc := 22) O dX8_costOf_22 ej2 rfl (ltb rfl) bj2 (ltb rfl) rfl ?_
  refine g_isub (pc := 23) O dX8_costOf_23 ?_
  refine g_istore (lv' := [(0, .ref 82), (1, .int x1), (2, .int x2), (3, .int x3), (4, .int x4), (5, .int x5), (6, .int ((h.1 88 j1) - (h.1 88 j2)))]) (pc := 24) O dX8_costOf_24 (ltb rfl) rfl ?_
  refine g_iload (pc := 26) O rfl dX8_costOf_26 ?_
  refine g_iload (pc := 28) O rfl dX8_costOf_28 ?_
  refine g_isub (pc := 30) O dX8_costOf_30 ?_
  refine g_aloadn (pc := 31) O rfl dX8_costOf_31 ?_
  refine g_getS (pc := 32) O cls8 fl_X8_64 dX8_costOf_32 rfl (ltb rfl) (ltb rfl) rfl rfl ?_
  refine g_iconst (v := (I 0)) (pc := 35) O rfl dX8_costOf_35 ?_
  refine g_iald (j := 0) (pc := 36) O dX8_costOf_36 rfl rfl (ltb rfl) (ltb rfl) (ltb rfl) rfl ?_
  refine g_imul (pc := 37) O dX8_costOf_37 ?_
  refine g_aloadn (pc := 38) O rfl dX8_costOf_38 ?_
  refine g_getS (pc := 39) O cls8 fl_X8_64 dX8_costOf_39 rfl (ltb rfl) (ltb rfl) rfl rfl ?_
  refine g_iconst (v := (I 1)) (pc := 42) O rfl dX8_costOf_42 ?_
  refine g_iald (j := 1) (pc := 43) O dX8_costOf_43 rfl rfl (ltb rfl) (ltb rfl) (ltb rfl) rfl ?_
  refine g_iload (pc := 44) O rfl dX8_costOf_44 ?_
  refine g_if_ge (tgt := 55) (pc := 46) O dX8_costOf_46 rfl (fun q5 => ?_) (fun q5 => ?_)
  · replace H := H.1 q5
    refine g_iload (pc := 55) O rfl dX8_costOf_55 ?_
    refine g_imul (pc := 57) O dX8_costOf_57 ?_
    refine g_iadd (pc := 58) O dX8_costOf_58 ?_
    refine g_aloadn (pc := 59) O rfl dX8_costOf_59 ?_
    refine g_getS (pc := 60) O cls8 fl_X8_85 dX8_costOf_60 rfl (ltb rfl) (ltb rfl) rfl rfl ?_
    refine g_bipush (v := (I 11)) (pc := 63) O (by decide) dX8_costOf_63 ?_
    refine g_iloadn (pc := 65) O rfl dX8_costOf_65 ?_
    refine g_iconst (v := (I 1)) (pc := 66) O rfl dX8_costOf_66 ?_
    refine g_iadd (pc := 67) O dX8_costOf_67 ?_
    refine g_imul (pc := 68) O dX8_costOf_68 ?_
    refine g_iload (pc := 69) O rfl dX8_costOf_69 ?_
    refine g_iadd (pc := 71) O dX8_costOf_71 ?_
    refine g_iconst (v := (I 1)) (pc := 72) O rfl dX8_costOf_72 ?_
    refine g_iadd (pc := 73) O dX8_costOf_73 ?_
    obtain ⟨j6, ej6, bj6, H⟩ := H
    refine g_iald (j := j6) (pc := 74) O dX8_costOf_74 ej6 rfl (ltb rfl) bj6 (ltb rfl) rfl ?_
    refine g_iadd (pc := 75) O dX8_costOf_75 ?_
    exact g_iret (pc := 76) O dX8_costOf_76 H
  · replace H := H.2 q5
    refine g_iload (pc := 49) O rfl dX8_costOf_49 ?_
    refine g_ineg (pc := 51) O dX8_costOf_51 ?_
    refine g_goto (tgt := 57) (pc := 52) O dX8_costOf_52 rfl ?_
    refine g_imul (pc := 57) O dX8_costOf_57 ?_
    refine g_iadd (pc := 58) O dX8_costOf_58 ?_
    refine g_aloadn (pc := 59) O rfl dX8_costOf_59 ?_
    refine g_getS (pc := 60) O cls8 fl_X8_85 dX8_costOf_60 rfl (ltb rfl) (ltb rfl) rfl rfl ?_
    refine g_bipush (v := (I 11)) (pc := 63) O (by decide) dX8_costOf_63 ?_
    refine g_iloadn (pc := 65) O rfl dX8_costOf_65 ?_
    refine g_iconst (v := (I 1)) (pc := 66) O rfl dX8_costOf_66 ?_
    refine g_iadd (pc := 67) O dX8_costOf_67 ?_
    refine g_imul (pc := 68) O dX8_costOf_68 ?_
    refine g_iload (pc := 69) O rfl dX8_costOf_69 ?_
    refine g_iadd (pc := 71) O dX8_costOf_71 ?_
    refine g_iconst (v := (I 1)) (pc := 72) O rfl dX8_costOf_72 ?_
    refine g_iadd (pc := 73) O dX8_costOf_73 ?_
    obtain ⟨j7, ej7, bj7, H⟩ := H
    refine g_iald (j := j7) (pc := 74) O dX8_costOf_74 ej7 rfl (ltb rfl) bj7 (ltb rfl) rfl ?_
    refine g_iadd (pc := 75) O dX8_costOf_75 ?_
    exact g_iret (pc := 76) O dX8_costOf_76 H
set_option maxRecDepth 20000 in
set_option maxHeartbeats 2000000 in
theorem sX8_costOf {g : mg} {l : Launch} {Q : Int32 → AH → Prop} {x1 : Int32} {x2 : Int32} {x3 : Int32} {x4 : Int32} {x5 : Int32} {h : AH} (H : ∃ j1 : Nat, (((I 10) * x1) + x3) = I (j1 : Int) ∧ j1 < 40 ∧ (∃ j2 : Nat, (((I 10) * x2) + x5) = I (j2 : Int) ∧ j2 < 40 ∧ (((0 ≤ ((h.1 88 j1) - (h.1 88 j2))) → (∃ j6 : Nat, ((((I 11) * (x3 + (I 1))) + x5) + (I 1)) = I (j6 : Int) ∧ j6 < 121 ∧ (Q ((((x5 - x4) * (h.1 101 0)) + ((h.1 101 1) * ((h.1 88 j1) - (h.1 88 j2)))) + (h.1 108 j6)) h))) ∧ ((¬ (0 ≤ ((h.1 88 j1) - (h.1 88 j2)))) → (∃ j7 : Nat, ((((I 11) * (x3 + (I 1))) + x5) + (I 1)) = I (j7 : Int) ∧ j7 < 121 ∧ (Q ((((x5 - x4) * (h.1 101 0)) + ((h.1 101 1) * (-((h.1 88 j1) - (h.1 88 j2))))) + (h.1 108 j7)) h)))))) : SpI g l mX8_costOf h [.ref 82, .int x1, .int x2, .int x3, .int x4, .int x5] Q := spI_of (by decide) (leb rfl) (fun X O => bX8_costOf_0 O H)
set_option maxRecDepth 20000 in
set_option maxHeartbeats 2000000 in
theorem bX8_areSame_0 {g : mg} {l : Launch} {X : XT} {Q : Int32 → AH → Prop} (O : Ok (FF g l X) RX8 cX8_areSame 5 mX8_areSame.2.2.2.2 (some .boolean)) {x1 : Int32} {x2 : Int32} {x3 : Int32} {x4 : Int32} {h : AH} (H : ∃ j1 : Nat, (((I 10) * x1) + x3) = I (j1 : Int) ∧ j1 < 40 ∧ (∃ j2 : Nat, (((I 10) * x2) + x4) = I (j2 : Int) ∧ j2 < 40 ∧ (SpI g l mX8_isSame h [.ref 82, .int (h.1 87 j1), .int (h.1 87 j2)] (fun v3 hv3 => (v3 = 0 ∨ v3 = 1) ∧ Q v3 hv3)))) : GI g l X Q h 0 [(0, .ref 82), (1, .int x1), (2, .int x2), (3, .int x3), (4, .int x4)] [] := by
  refine g_aloadn (pc := 0) O rfl dX8_areSame_0 ?_
  refine g_aloadn (pc := 1) O rfl dX8_areSame_1 ?_
  refine g_getS (pc := 2) O cls8 fl_X8_22 dX8_areSame_2 rfl (ltb rfl) (ltb rfl) rfl rfl ?_
  refine g_bipush (v := (I 10)) (pc := 5) O (by decide) dX8_areSame_5 ?_
  refine g_iloadn (pc := 7) O rfl dX8_areSame_7 ?_
  refine g_imul (pc := 8) O dX8_areSame_8 ?_
  refine g_iloadn (pc := 9) O rfl dX8_areSame_9 ?_
  refine g_iadd (pc := 10) O dX8_areSame_10 ?_
  obtain ⟨j1, ej1, bj1, H⟩ := H
  refine g_iald (j := j1) (pc := 11) O dX8_areSame_11 ej1 rfl (ltb rfl) bj1 (ltb rfl) rfl ?_
  refine g_aloadn (pc := 12) O rfl dX8_areSame_12 ?_
  refine g_getS (pc := 13) O cls8 fl_X8_22 dX8_areSame_13 rfl (ltb rfl) (ltb rfl) rfl rfl ?_
  refine g_bipush (v := (I 10)) (pc := 16) O (by decide) dX8_areSame_16 ?_
  refine g_iloadn (pc := 18) O rfl dX8_areSame_18 ?_
  refine g_imul (pc := 19) O dX8_areSame_19 ?_
  refine g_iload (pc := 20) O rfl dX8_areSame_20 ?_
  refine g_iadd (pc := 22) O dX8_areSame_22 ?_
  obtain ⟨j2, ej2, bj2, H⟩ := H
  refine g_iald (j := j2) (pc := 23) O dX8_areSame_23 ej2 rfl (ltb rfl) bj2 (ltb rfl) rfl ?_
  refine g_vI [.int (h.1 87 j1), .int (h.1 87 j2)] [] (pc := 24) O mk_X8_isSame ml_X8_208 im_X8_isSame se_X8_isSame cls8 rfl ⟨rfl, rfl, leb rfl, leb rfl⟩ rfl (leb rfl) dX8_areSame_24 H rfl (fun v3 hv3 H => ?_)
  exact g_zret (pc := 27) O dX8_areSame_27 H.1 H.2
set_option maxRecDepth 20000 in
set_option maxHeartbeats 2000000 in
theorem sX8_areSame {g : mg} {l : Launch} {Q : Int32 → AH → Prop} {x1 : Int32} {x2 : Int32} {x3 : Int32} {x4 : Int32} {h : AH} (H : ∃ j1 : Nat, (((I 10) * x1) + x3) = I (j1 : Int) ∧ j1 < 40 ∧ (∃ j2 : Nat, (((I 10) * x2) + x4) = I (j2 : Int) ∧ j2 < 40 ∧ (SpI g l mX8_isSame h [.ref 82, .int (h.1 87 j1), .int (h.1 87 j2)] (fun v3 hv3 => (v3 = 0 ∨ v3 = 1) ∧ Q v3 hv3)))) : SpI g l mX8_areSame h [.ref 82, .int x1, .int x2, .int x3, .int x4] Q := spI_of (by decide) (leb rfl) (fun X O => bX8_areSame_0 O H)
set_option maxRecDepth 20000 in
set_option maxHeartbeats 2000000 in
theorem bX8_lay_0 {g : mg} {l : Launch} {X : XT} {Q : AH → Prop} (O : Ok (FF g l X) RX8 cX8_lay 9 mX8_lay.2.2.2.2 none) {x1 : Int32} {x2 : Int32} {h : AH} (H : ∃ j1 : Nat, x2 = I (j1 : Int) ∧ j1 < 4 ∧ (∃ j2 : Nat, x1 = I (j2 : Int) ∧ j2 < 4 ∧ (GV g l X Q h 15 [(0, .ref 82), (1, .int x1), (2, .int x2), (3, .int (h.1 86 j1)), (4, .int (h.1 86 j2))] []))) : GV g l X Q h 0 [(0, .ref 82), (1, .int x1), (2, .int x2)] [] := by
  refine g_aloadn (pc := 0) O rfl dX8_lay_0 ?_
  refine g_getS (pc := 1) O cls8 fl_X8_19 dX8_lay_1 rfl (ltb rfl) (ltb rfl) rfl rfl ?_
  refine g_iloadn (pc := 4) O rfl dX8_lay_4 ?_
  obtain ⟨j1, ej1, bj1, H⟩ := H
  refine g_iald (j := j1) (pc := 5) O dX8_lay_5 ej1 rfl (ltb rfl) bj1 (ltb rfl) rfl ?_
  refine g_istoren (lv' := [(0, .ref 82), (1, .int x1), (2, .int x2), (3, .int (h.1 86 j1))]) (pc := 6) O dX8_lay_6 rfl (ltb rfl) rfl ?_
  refine g_aloadn (pc := 7) O rfl dX8_lay_7 ?_
  refine g_getS (pc := 8) O cls8 fl_X8_19 dX8_lay_8 rfl (ltb rfl) (ltb rfl) rfl rfl ?_
  refine g_iloadn (pc := 11) O rfl dX8_lay_11 ?_
  obtain ⟨j2, ej2, bj2, H⟩ := H
  refine g_iald (j := j2) (pc := 12) O dX8_lay_12 ej2 rfl (ltb rfl) bj2 (ltb rfl) rfl ?_
  refine g_istore (lv' := [(0, .ref 82), (1, .int x1), (2, .int x2), (3, .int (h.1 86 j1)), (4, .int (h.1 86 j2))]) (pc := 13) O dX8_lay_13 (ltb rfl) rfl ?_
  exact H
set_option maxRecDepth 20000 in
set_option maxHeartbeats 2000000 in
theorem bX8_lay_15 {g : mg} {l : Launch} {X : XT} {Q : AH → Prop} (O : Ok (FF g l X) RX8 cX8_lay 9 mX8_lay.2.2.2.2 none) {x1 : Int32} {x2 : Int32} {x3 : Int32} {x4 : Int32} {h : AH} (H : ((x4 < 0) → (Q h)) ∧ ((¬ (x4 < 0)) → (GV g l X Q h 23 [(0, .ref 82), (1, .int x1), (2, .int x2), (3, .int x3), (4, .int x4), (5, .int x3)] []))) : GV g l X Q h 15 [(0, .ref 82), (1, .int x1), (2, .int x2), (3, .int x3), (4, .int x4)] [] := by
  refine g_iload (pc := 15) O rfl dX8_lay_15 ?_
  refine g_if_lt (tgt := 254) (pc := 17) O dX8_lay_17 rfl (fun q1 => ?_) (fun q1 => ?_)
  · replace H := H.1 q1
    exact g_vret (pc := 254) O dX8_lay_254 H
  · replace H := H.2 q1
    refine g_iloadn (pc := 20) O rfl dX8_lay_20 ?_
    refine g_istore (lv' := [(0, .ref 82), (1, .int x1), (2, .int x2), (3, .int x3), (4, .int x4), (5, .int x3)]) (pc := 21) O dX8_lay_21 (ltb rfl) rfl ?_
    exact H
set_option maxRecDepth 20000 in
set_option maxHeartbeats 2000000 in
theorem bX8_lay_23 {g : mg} {l : Launch} {X : XT} {Q : AH → Prop} (O : Ok (FF g l X) RX8 cX8_lay 9 mX8_lay.2.2.2.2 none) {x1 : Int32} {x2 : Int32} {x3 : Int32} {x4 : Int32} {x5 : Int32} {h : AH} (H : ((x5 < 0) → (GV g l X Q h 15 [(0, .ref 82), (1, .int x1), (2, .int x2), (3, .int x3), (4, .int (x4 + I (-1)))] [])) ∧ ((¬ (x5 < 0)) → (∃ j2 : Nat, x1 = I (j2 : Int) ∧ j2 < 4 ∧ (((¬ x4 = (h.1 86 j2)) → (∃ j5 : Nat, ((((I 11) * x4) + x5) + (I 11)) = I (j5 : Int) ∧ j5 < 121 ∧ (∃ j6 : Nat, (((I 11) * x4) + x5) = I (j6 : Int) ∧ j6 < 121 ∧ (∃ j7 : Nat, ((((I 11) * x4) + x5) + (I 11)) = I (j7 : Int) ∧ j7 < 121 ∧ (∃ j8 : Nat, (((I 11) * x4) + x5) = I (j8 : Int) ∧ j8 < 121 ∧ (GV g l X Q (sL (sI h 108 j6 ((h.1 101 0) + (h.1 108 j5))) 109 j8 (h.2.1 109 j7)) 123 [(0, .ref 82), (1, .int x1), (2, .int x2), (3, .int x3), (4, .int x4), (5, .int x5), (6, .int (((I 11) * x4) + x5)), (7, .int x5)] [])))))) ∧ ((x4 = (h.1 86 j2)) → (∃ j10 : Nat, (((I 11) * x4) + x5) = I (j10 : Int) ∧ j10 < 121 ∧ (∃ j11 : Nat, (((I 11) * x4) + x5) = I (j11 : Int) ∧ j11 < 121 ∧ (GV g l X Q (sL (sI h 108 j10 ((x3 - x5) * (h.1 101 0))) 109 j11 1) 23 [(0, .ref 82), (1, .int x1), (2, .int x2), (3, .int x3), (4, .int x4), (5, .int (x5 + I (-1)))] [])))))))) : GV g l X Q h 23 [(0, .ref 82), (1, .int x1), (2, .int x2), (3, .int x3), (4, .int x4), (5, .int x5)] [] := by
  refine g_iload (pc := 23) O rfl dX8_lay_23 ?_
  refine g_if_lt (tgt := 248) (pc := 25) O dX8_lay_25 rfl (fun q1 => ?_) (fun q1 => ?_)
  · replace H := H.1 q1
    refine g_iinc (lv' := [(0, .ref 82), (1, .int x1), (2, .int x2), (3, .int x3), (4, .int (x4 + I (-1))), (5, .int x5)]) (pc := 248) O dX8_lay_248 rfl rfl (ltb rfl) rfl ?_
    refine g_goto (tgt := 15) (pc := 251) O dX8_lay_251 rfl ?_
    refine g_sub [0, 1, 2, 3, 4] rfl ?_
    exact H
  · replace H := H.2 q1
    refine g_bipush (v := (I 11)) (pc := 28) O (by decide) dX8_lay_28 ?_
    refine g_iload (pc := 30) O rfl dX8_lay_30 ?_
    refine g_imul (pc := 32) O dX8_lay_32 ?_
    refine g_iload (pc := 33) O rfl dX8_lay_33 ?_
    refine g_iadd (pc := 35) O dX8_lay_35 ?_
    refine g_istore (lv' := [(0, .ref 82), (1, .int x1), (2, .int x2), (3, .int x3), (4, .int x4), (5, .int x5), (6, .int (((I 11) * x4) + x5))]) (pc := 36) O dX8_lay_36 (ltb rfl) rfl ?_
    refine g_iload (pc := 38) O rfl dX8_lay_38 ?_
    refine g_aloadn (pc := 40) O rfl dX8_lay_40 ?_
    refine g_getS (pc := 41) O cls8 fl_X8_19 dX8_lay_41 rfl (ltb rfl) (ltb rfl) rfl rfl ?_
    refine g_iloadn (pc := 44) O rfl dX8_lay_44 ?_
    obtain ⟨j2, ej2, bj2, H⟩ := H
    refine g_iald (j := j2) (pc := 45) O dX8_lay_45 ej2 rfl (ltb rfl) bj2 (ltb rfl) rfl ?_
    refine g_icmp_ne (tgt := 78) (pc := 46) O dX8_lay_46 rfl (fun q3 => ?_) (fun q3 => ?_)
    · replace H := H.1 q3
      refine g_aloadn (pc := 78) O rfl dX8_lay_78 ?_
      refine g_getS (pc := 79) O cls8 fl_X8_85 dX8_lay_79 rfl (ltb rfl) (ltb rfl) rfl rfl ?_
      refine g_iload (pc := 82) O rfl dX8_lay_82 ?_
      refine g_aloadn (pc := 84) O rfl dX8_lay_84 ?_
      refine g_getS (pc := 85) O cls8 fl_X8_64 dX8_lay_85 rfl (ltb rfl) (ltb rfl) rfl rfl ?_
      refine g_iconst (v := (I 0)) (pc := 88) O rfl dX8_lay_88 ?_
      refine g_iald (j := 0) (pc := 89) O dX8_lay_89 rfl rfl (ltb rfl) (ltb rfl) (ltb rfl) rfl ?_
      refine g_aloadn (pc := 90) O rfl dX8_lay_90 ?_
      refine g_getS (pc := 91) O cls8 fl_X8_85 dX8_lay_91 rfl (ltb rfl) (ltb rfl) rfl rfl ?_
      refine g_iload (pc := 94) O rfl dX8_lay_94 ?_
      refine g_bipush (v := (I 11)) (pc := 96) O (by decide) dX8_lay_96 ?_
      refine g_iadd (pc := 98) O dX8_lay_98 ?_
      obtain ⟨j5, ej5, bj5, H⟩ := H
      refine g_iald (j := j5) (pc := 99) O dX8_lay_99 ej5 rfl (ltb rfl) bj5 (ltb rfl) rfl ?_
      refine g_iadd (pc := 100) O dX8_lay_100 ?_
      obtain ⟨j6, ej6, bj6, H⟩ := H
      refine g_iast (j := j6) (pc := 101) O dX8_lay_101 ej6 rfl (ltb rfl) (leb rfl) bj6 (ltb rfl) ?_
      refine g_aloadn (pc := 102) O rfl dX8_lay_102 ?_
      refine g_getS (pc := 103) O cls8 fl_X8_88 dX8_lay_103 rfl (ltb rfl) (ltb rfl) rfl rfl ?_
      refine g_iload (pc := 106) O rfl dX8_lay_106 ?_
      refine g_aloadn (pc := 108) O rfl dX8_lay_108 ?_
      refine g_getS (pc := 109) O cls8 fl_X8_88 dX8_lay_109 rfl (ltb rfl) (ltb rfl) rfl rfl ?_
      refine g_iload (pc := 112) O rfl dX8_lay_112 ?_
      refine g_bipush (v := (I 11)) (pc := 114) O (by decide) dX8_lay_114 ?_
      refine g_iadd (pc := 116) O dX8_lay_116 ?_
      obtain ⟨j7, ej7, bj7, H⟩ := H
      refine g_lald (j := j7) (pc := 117) O dX8_lay_117 ej7 rfl (ltb rfl) bj7 (ltb rfl) rfl ?_
      obtain ⟨j8, ej8, bj8, H⟩ := H
      refine g_last (j := j8) (pc := 118) O dX8_lay_118 ej8 rfl (ltb rfl) (leb rfl) bj8 (ltb rfl) ?_
      refine g_iload (pc := 119) O rfl dX8_lay_119 ?_
      refine g_istore (lv' := [(0, .ref 82), (1, .int x1), (2, .int x2), (3, .int x3), (4, .int x4), (5, .int x5), (6, .int (((I 11) * x4) + x5)), (7, .int x5)]) (pc := 121) O dX8_lay_121 (ltb rfl) rfl ?_
      exact H
    · replace H := H.2 q3
      refine g_aloadn (pc := 49) O rfl dX8_lay_49 ?_
      refine g_getS (pc := 50) O cls8 fl_X8_85 dX8_lay_50 rfl (ltb rfl) (ltb rfl) rfl rfl ?_
      refine g_iload (pc := 53) O rfl dX8_lay_53 ?_
      refine g_iloadn (pc := 55) O rfl dX8_lay_55 ?_
      refine g_iload (pc := 56) O rfl dX8_lay_56 ?_
      refine g_isub (pc := 58) O dX8_lay_58 ?_
      refine g_aloadn (pc := 59) O rfl dX8_lay_59 ?_
      refine g_getS (pc := 60) O cls8 fl_X8_64 dX8_lay_60 rfl (ltb rfl) (ltb rfl) rfl rfl ?_
      refine g_iconst (v := (I 0)) (pc := 63) O rfl dX8_lay_63 ?_
      refine g_iald (j := 0) (pc := 64) O dX8_lay_64 rfl rfl (ltb rfl) (ltb rfl) (ltb rfl) rfl ?_
      refine g_imul (pc := 65) O dX8_lay_65 ?_
      obtain ⟨j10, ej10, bj10, H⟩ := H
      refine g_iast (j := j10) (pc := 66) O dX8_lay_66 ej10 rfl (ltb rfl) (leb rfl) bj10 (ltb rfl) ?_
      refine g_aloadn (pc := 67) O rfl dX8_lay_67 ?_
      refine g_getS (pc := 68) O cls8 fl_X8_88 dX8_lay_68 rfl (ltb rfl) (ltb rfl) rfl rfl ?_
      refine g_iload (pc := 71) O rfl dX8_lay_71 ?_
      refine g_lconst (v := 1) (pc := 73) O (by decide) dX8_lay_73 ?_
      obtain ⟨j11, ej11, bj11, H⟩ := H
      refine g_last (j := j11) (pc := 74) O dX8_lay_74 ej11 rfl (ltb rfl) (leb rfl) bj11 (ltb rfl) ?_
      refine g_goto (tgt := 242) (pc := 75) O dX8_lay_75 rfl ?_
      refine g_iinc (lv' := [(0, .ref 82), (1, .int x1), (2, .int x2), (3, .int x3), (4, .int x4), (5, .int (x5 + I (-1))), (6, .int (((I 11) * x4) + x5))]) (pc := 242) O dX8_lay_242 rfl rfl (ltb rfl) rfl ?_
      refine g_goto (tgt := 23) (pc := 245) O dX8_lay_245 rfl ?_
      refine g_sub [0, 1, 2, 3, 4, 5] rfl ?_
      exact H
set_option maxRecDepth 20000 in
set_option maxHeartbeats 2000000 in
theorem bX8_lay_123 {g : mg} {l : Launch} {X : XT} {Q : AH → Prop} (O : Ok (FF g l X) RX8 cX8_lay 9 mX8_lay.2.2.2.2 none) {x1 : Int32} {x2 : Int32} {x3 : Int32} {x4 : Int32} {x5 : Int32} {x6 : Int32} {x7 : Int32} {h : AH} (H : ((x3 ≤ x7) → (GV g l X Q h 23 [(0, .ref 82), (1, .int x1), (2, .int x2), (3, .int x3), (4, .int x4), (5, .int (x5 + I (-1)))] [])) ∧ ((¬ (x3 ≤ x7)) → (SpI g l mX8_areSame h [.ref 82, .int x1, .int x2, .int x4, .int x7] (fun v2 hv2 => ((¬ v2 = 0) → (SpI g l mX8_costOf hv2 [.ref 82, .int x1, .int x2, .int x4, .int x5, .int x7] (fun v4 hv4 => ∃ j5 : Nat, x6 = I (j5 : Int) ∧ j5 < 121 ∧ ((((hv4.1 108 j5) ≤ v4) → (GV g l X Q hv4 188 [(0, .ref 82), (1, .int x1), (2, .int x2), (3, .int x3), (4, .int x4), (5, .int x5), (6, .int x6), (7, .int x7), (8, .int v4)] [])) ∧ ((¬ ((hv4.1 108 j5) ≤ v4)) → (∃ j7 : Nat, x6 = I (j7 : Int) ∧ j7 < 121 ∧ (∃ j8 : Nat, x6 = I (j8 : Int) ∧ j8 < 121 ∧ (GV g l X Q (sL (sI hv4 108 j7 v4) 109 j8 0) 188 [(0, .ref 82), (1, .int x1), (2, .int x2), (3, .int x3), (4, .int x4), (5, .int x5), (6, .int x6), (7, .int x7), (8, .int v4)] [])))))))) ∧ ((v2 = 0) → (GV g l X Q hv2 123 [(0, .ref 82), (1, .int x1), (2, .int x2), (3, .int x3), (4, .int x4), (5, .int x5), (6, .int x6), (7, .int (x7 + I 1))] [])))))) : GV g l X Q h 123 [(0, .ref 82), (1, .int x1), (2, .int x2), (3, .int x3), (4, .int x4), (5, .int x5), (6, .int x6), (7, .int x7)] [] := by
  refine g_iload (pc := 123) O rfl dX8_lay_123 ?_
  refine g_iloadn (pc := 125) O rfl dX8_lay_125 ?_
  refine g_icmp_ge (tgt := 242) (pc := 126) O dX8_lay_126 rfl (fun q1 => ?_) (fun q1 => ?_)
  · replace H := H.1 q1
    refine g_iinc (lv' := [(0, .ref 82), (1, .int x1), (2, .int x2), (3, .int x3), (4, .int x4), (5, .int (x5 + I (-1))), (6, .int x6), (7, .int x7)]) (pc := 242) O dX8_lay_242 rfl rfl (ltb rfl) rfl ?_
    refine g_goto (tgt := 23) (pc := 245) O dX8_lay_245 rfl ?_
    refine g_sub [0, 1, 2, 3, 4, 5] rfl ?_
    exact H
  · replace H := H.2 q1
    refine g_aloadn (pc := 129) O rfl dX8_lay_129 ?_
    refine g_iloadn (pc := 130) O rfl dX8_lay_130 ?_
    refine g_iloadn (pc := 131) O rfl dX8_lay_131 ?_
    refine g_iload (pc := 132) O rfl dX8_lay_132 ?_
    refine g_iload (pc := 134) O rfl dX8_lay_134 ?_
    refine g_vI [.int x1, .int x2, .int x4, .int x7] [] (pc := 136) O mk_X8_areSame ml_X8_211 im_X8_areSame se_X8_areSame cls8 rfl ⟨rfl, rfl, leb rfl, leb rfl⟩ rfl (leb rfl) dX8_lay_136 H rfl (fun v2 hv2 H => ?_)
    refine g_if_ne (tgt := 145) (pc := 139) O dX8_lay_139 rfl (fun q3 => ?_) (fun q3 => ?_)
    · replace H := H.1 q3
      refine g_aloadn (pc := 145) O rfl dX8_lay_145 ?_
      refine g_iloadn (pc := 146) O rfl dX8_lay_146 ?_
      refine g_iloadn (pc := 147) O rfl dX8_lay_147 ?_
      refine g_iload (pc := 148) O rfl dX8_lay_148 ?_
      refine g_iload (pc := 150) O rfl dX8_lay_150 ?_
      refine g_iload (pc := 152) O rfl dX8_lay_152 ?_
      refine g_vI [.int x1, .int x2, .int x4, .int x5, .int x7] [] (pc := 154) O mk_X8_costOf ml_X8_215 im_X8_costOf se_X8_costOf cls8 rfl ⟨rfl, rfl, leb rfl, leb rfl⟩ rfl (leb rfl) dX8_lay_154 H rfl (fun v4 hv4 H => ?_)
      refine g_istore (lv' := [(0, .ref 82), (1, .int x1), (2, .int x2), (3, .int x3), (4, .int x4), (5, .int x5), (6, .int x6), (7, .int x7), (8, .int v4)]) (pc := 157) O dX8_lay_157 (ltb rfl) rfl ?_
      refine g_iload (pc := 159) O rfl dX8_lay_159 ?_
      refine g_aloadn (pc := 161) O rfl dX8_lay_161 ?_
      refine g_getS (pc := 162) O cls8 fl_X8_85 dX8_lay_162 rfl (ltb rfl) (ltb rfl) rfl rfl ?_
      refine g_iload (pc := 165) O rfl dX8_lay_165 ?_
      obtain ⟨j5, ej5, bj5, H⟩ := H
      refine g_iald (j := j5) (pc := 167) O dX8_lay_167 ej5 rfl (ltb rfl) bj5 (ltb rfl) rfl ?_
      refine g_icmp_ge (tgt := 188) (pc := 168) O dX8_lay_168 rfl (fun q6 => ?_) (fun q6 => ?_)
      · replace H := H.1 q6
        exact H
      · replace H := H.2 q6
        refine g_aloadn (pc := 171) O rfl dX8_lay_171 ?_
        refine g_getS (pc := 172) O cls8 fl_X8_85 dX8_lay_172 rfl (ltb rfl) (ltb rfl) rfl rfl ?_
        refine g_iload (pc := 175) O rfl dX8_lay_175 ?_
        refine g_iload (pc := 177) O rfl dX8_lay_177 ?_
        obtain ⟨j7, ej7, bj7, H⟩ := H
        refine g_iast (j := j7) (pc := 179) O dX8_lay_179 ej7 rfl (ltb rfl) (leb rfl) bj7 (ltb rfl) ?_
        refine g_aloadn (pc := 180) O rfl dX8_lay_180 ?_
        refine g_getS (pc := 181) O cls8 fl_X8_88 dX8_lay_181 rfl (ltb rfl) (ltb rfl) rfl rfl ?_
        refine g_iload (pc := 184) O rfl dX8_lay_184 ?_
        refine g_lconst (v := 0) (pc := 186) O (by decide) dX8_lay_186 ?_
        obtain ⟨j8, ej8, bj8, H⟩ := H
        refine g_last (j := j8) (pc := 187) O dX8_lay_187 ej8 rfl (ltb rfl) (leb rfl) bj8 (ltb rfl) ?_
        exact H
    · replace H := H.2 q3
      refine g_goto (tgt := 236) (pc := 142) O dX8_lay_142 rfl ?_
      refine g_iinc (lv' := [(0, .ref 82), (1, .int x1), (2, .int x2), (3, .int x3), (4, .int x4), (5, .int x5), (6, .int x6), (7, .int (x7 + I 1))]) (pc := 236) O dX8_lay_236 rfl rfl (ltb rfl) rfl ?_
      refine g_goto (tgt := 123) (pc := 239) O dX8_lay_239 rfl ?_
      exact H
set_option maxRecDepth 20000 in
set_option maxHeartbeats 2000000 in
theorem bX8_lay_188 {g : mg} {l : Launch} {X : XT} {Q : AH → Prop} (O : Ok (FF g l X) RX8 cX8_lay 9 mX8_lay.2.2.2.2 none) {x1 : Int32} {x2 : Int32} {x3 : Int32} {x4 : Int32} {x5 : Int32} {x6 : Int32} {x7 : Int32} {x8 : Int32} {h : AH} (H : ∃ j1 : Nat, x6 = I (j1 : Int) ∧ j1 < 121 ∧ (∃ j2 : Nat, x6 = I (j2 : Int) ∧ j2 < 121 ∧ (((¬ x8 = (h.1 108 j2)) → (∃ j4 : Nat, x6 = I (j4 : Int) ∧ j4 < 121 ∧ (GV g l X Q (sL h 109 j4 ((h.2.1 109 j1) + 0)) 123 [(0, .ref 82), (1, .int x1), (2, .int x2), (3, .int x3), (4, .int x4), (5, .int x5), (6, .int x6), (7, .int (x7 + I 1))] []))) ∧ ((x8 = (h.1 108 j2)) → (∃ j5 : Nat, ((((I 11) * (x4 + (I 1))) + x7) + (I 1)) = I (j5 : Int) ∧ j5 < 121 ∧ (∃ j6 : Nat, x6 = I (j6 : Int) ∧ j6 < 121 ∧ (GV g l X Q (sL h 109 j6 ((h.2.1 109 j1) + (h.2.1 109 j5))) 123 [(0, .ref 82), (1, .int x1), (2, .int x2), (3, .int x3), (4, .int x4), (5, .int x5), (6, .int x6), (7, .int (x7 + I 1))] []))))))) : GV g l X Q h 188 [(0, .ref 82), (1, .int x1), (2, .int x2), (3, .int x3), (4, .int x4), (5, .int x5), (6, .int x6), (7, .int x7), (8, .int x8)] [] := by
  refine g_aloadn (pc := 188) O rfl dX8_lay_188 ?_
  refine g_getS (pc := 189) O cls8 fl_X8_88 dX8_lay_189 rfl (ltb rfl) (ltb rfl) rfl rfl ?_
  refine g_iload (pc := 192) O rfl dX8_lay_192 ?_
  refine g_aloadn (pc := 194) O rfl dX8_lay_194 ?_
  refine g_getS (pc := 195) O cls8 fl_X8_88 dX8_lay_195 rfl (ltb rfl) (ltb rfl) rfl rfl ?_
  refine g_iload (pc := 198) O rfl dX8_lay_198 ?_
  obtain ⟨j1, ej1, bj1, H⟩ := H
  refine g_lald (j := j1) (pc := 200) O dX8_lay_200 ej1 rfl (ltb rfl) bj1 (ltb rfl) rfl ?_
  refine g_iload (pc := 201) O rfl dX8_lay_201 ?_
  refine g_aloadn (pc := 203) O rfl dX8_lay_203 ?_
  refine g_getS (pc := 204) O cls8 fl_X8_85 dX8_lay_204 rfl (ltb rfl) (ltb rfl) rfl rfl ?_
  refine g_iload (pc := 207) O rfl dX8_lay_207 ?_
  obtain ⟨j2, ej2, bj2, H⟩ := H
  refine g_iald (j := j2) (pc := 209) O dX8_lay_209 ej2 rfl (ltb rfl) bj2 (ltb rfl) rfl ?_
  refine g_icmp_ne (tgt := 233) (pc := 210) O dX8_lay_210 rfl (fun q3 => ?_) (fun q3 => ?_)
  · replace H := H.1 q3
    refine g_lconst (v := 0) (pc := 233) O (by decide) dX8_lay_233 ?_
    refine g_ladd (pc := 234) O dX8_lay_234 ?_
    obtain ⟨j4, ej4, bj4, H⟩ := H
    refine g_last (j := j4) (pc := 235) O dX8_lay_235 ej4 rfl (ltb rfl) (leb rfl) bj4 (ltb rfl) ?_
    refine g_iinc (lv' := [(0, .ref 82), (1, .int x1), (2, .int x2), (3, .int x3), (4, .int x4), (5, .int x5), (6, .int x6), (7, .int (x7 + I 1)), (8, .int x8)]) (pc := 236) O dX8_lay_236 rfl rfl (ltb rfl) rfl ?_
    refine g_goto (tgt := 123) (pc := 239) O dX8_lay_239 rfl ?_
    refine g_sub [0, 1, 2, 3, 4, 5, 6, 7] rfl ?_
    exact H
  · replace H := H.2 q3
    refine g_aloadn (pc := 213) O rfl dX8_lay_213 ?_
    refine g_getS (pc := 214) O cls8 fl_X8_88 dX8_lay_214 rfl (ltb rfl) (ltb rfl) rfl rfl ?_
    refine g_bipush (v := (I 11)) (pc := 217) O (by decide) dX8_lay_217 ?_
    refine g_iload (pc := 219) O rfl dX8_lay_219 ?_
    refine g_iconst (v := (I 1)) (pc := 221) O rfl dX8_lay_221 ?_
    refine g_iadd (pc := 222) O dX8_lay_222 ?_
    refine g_imul (pc := 223) O dX8_lay_223 ?_
    refine g_iload (pc := 224) O rfl dX8_lay_224 ?_
    refine g_iadd (pc := 226) O dX8_lay_226 ?_
    refine g_iconst (v := (I 1)) (pc := 227) O rfl dX8_lay_227 ?_
    refine g_iadd (pc := 228) O dX8_lay_228 ?_
    obtain ⟨j5, ej5, bj5, H⟩ := H
    refine g_lald (j := j5) (pc := 229) O dX8_lay_229 ej5 rfl (ltb rfl) bj5 (ltb rfl) rfl ?_
    refine g_goto (tgt := 234) (pc := 230) O dX8_lay_230 rfl ?_
    refine g_ladd (pc := 234) O dX8_lay_234 ?_
    obtain ⟨j6, ej6, bj6, H⟩ := H
    refine g_last (j := j6) (pc := 235) O dX8_lay_235 ej6 rfl (ltb rfl) (leb rfl) bj6 (ltb rfl) ?_
    refine g_iinc (lv' := [(0, .ref 82), (1, .int x1), (2, .int x2), (3, .int x3), (4, .int x4), (5, .int x5), (6, .int x6), (7, .int (x7 + I 1)), (8, .int x8)]) (pc := 236) O dX8_lay_236 rfl rfl (ltb rfl) rfl ?_
    refine g_goto (tgt := 123) (pc := 239) O dX8_lay_239 rfl ?_
    refine g_sub [0, 1, 2, 3, 4, 5, 6, 7] rfl ?_
    exact H
set_option maxRecDepth 20000 in
set_option maxHeartbeats 2000000 in
theorem sX8_lay {g : mg} {l : Launch} {Q : AH → Prop} {x1 : Int32} {x2 : Int32} {h : AH} (H : ∀ X, Ok (FF g l X) RX8 cX8_lay 9 mX8_lay.2.2.2.2 none → ∃ j1 : Nat, x2 = I (j1 : Int) ∧ j1 < 4 ∧ (∃ j2 : Nat, x1 = I (j2 : Int) ∧ j2 < 4 ∧ (GV g l X Q h 15 [(0, .ref 82), (1, .int x1), (2, .int x2), (3, .int (h.1 86 j1)), (4, .int (h.1 86 j2))] []))) : SpV g l mX8_lay h [.ref 82, .int x1, .int x2] Q := spV_of (by decide) (leb rfl) (fun X O => bX8_lay_0 O (H X O))
