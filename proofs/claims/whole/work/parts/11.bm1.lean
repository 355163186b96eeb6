/-! printed by gen.py: what each stretch of code asks for (H) to come to its end, and its walk -/
set_option maxRecDepth 20000 in
set_option maxHeartbeats 2000000 in
theorem bX8_in_0 {g : mg} {l : Launch} {X : XT} {Q : Int32 → AH → Prop} (O : Ok (FF g l X) RX8 cX8_in 3 mX8_in.2.2.2.2 (some .boolean)) {x0 : Int32} {x1 : Int32} {x2 : Int32} {h : AH} (H : ((x0 < x1) → (Q (I 0) h)) ∧ ((¬ (x0 < x1)) → (((x2 < x0) → (Q (I 0) h)) ∧ ((¬ (x2 < x0)) → (Q (I 1) h))))) : GI g l X Q h 0 [(0, .int x0), (1, .int x1), (2, .int x2)] [] := by
  refine g_iloadn (pc := 0) O rfl dX8_in_0 ?_
  refine g_iloadn (pc := 1) O rfl dX8_in_1 ?_
  refine g_icmp_lt (tgt := 14) (pc := 2) O dX8_in_2 rfl (fun q1 => ?_) (fun q1 => ?_)
  · replace H := H.1 q1
    refine g_iconst (v := (I 0)) (pc := 14) O rfl dX8_in_14 ?_
    exact g_zret (pc := 15) O dX8_in_15 (by decide) H
  · replace H := H.2 q1
    refine g_iloadn (pc := 5) O rfl dX8_in_5 ?_
    refine g_iloadn (pc := 6) O rfl dX8_in_6 ?_
    refine g_icmp_gt (tgt := 14) (pc := 7) O dX8_in_7 rfl (fun q2 => ?_) (fun q2 => ?_)
    · replace H := H.1 q2
      refine g_iconst (v := (I 0)) (pc := 14) O rfl dX8_in_14 ?_
      exact g_zret (pc := 15) O dX8_in_15 (by decide) H
    · replace H := H.2 q2
      refine g_iconst (v := (I 1)) (pc := 10) O rfl dX8_in_10 ?_
      refine g_goto (tgt := 15) (pc := 11) O dX8_in_11 rfl ?_
      exact g_zret (pc := 15) O dX8_in_15 (by decide) H
set_option maxRecDepth 20000 in
set_option maxHeartbeats 2000000 in
theorem sX8_in {g : mg} {l : Launch} {Q : Int32 → AH → Prop} {x0 : Int32} {x1 : Int32} {x2 : Int32} {h : AH} (H : ((x0 < x1) → (Q (I 0) h)) ∧ ((¬ (x0 < x1)) → (((x2 < x0) → (Q (I 0) h)) ∧ ((¬ (x2 < x0)) → (Q (I 1) h))))) : SpI g l mX8_in h [.int x0, .int x1, .int x2] Q := spI_of (by decide) (leb rfl) (fun X O => bX8_in_0 O H)
set_option maxRecDepth 20000 in
set_option maxHeartbeats 2000000 in
theorem bX8_type_0 {g : mg} {l : Launch} {X : XT} {Q : Int32 → AH → Prop} (O : Ok (FF g l X) RX8 cX8_type 5 mX8_type.2.2.2.2 (some .int)) {x1 : Int64} {x3 : Int32} {h : AH} (H : SpI g l mX8_in h [.int x3, .int (I 1), .int (I 8)] (fun v1 hv1 => ((¬ v1 = 0) → (((((hv1.1 82 1) + x3) ≤ (I 400)) → (GI g l X Q hv1 32 [(0, .ref 82), (1, .long x1), (4, .int (x3 - (I 1)))] [])) ∧ ((¬ (((hv1.1 82 1) + x3) ≤ (I 400))) → (Q (I (-3)) hv1)))) ∧ ((v1 = 0) → (Q (I (-1)) hv1)))) : GI g l X Q h 0 [(0, .ref 82), (1, .long x1), (3, .int x3)] [] := by
  refine g_iloadn (pc := 0) O rfl dX8_type_0 ?_
  refine g_iconst (v := (I 1)) (pc := 1) O rfl dX8_type_1 ?_
  refine g_bipush (v := (I 8)) (pc := 2) O (by decide) dX8_type_2 ?_
  refine g_sI [.int x3, .int (I 1), .int (I 8)] [] (pc := 4) O mk_X8_in ml_X8_116 sm_X8_in ⟨rfl, rfl, leb rfl, leb rfl⟩ rfl (leb rfl) dX8_type_4 H rfl (fun v1 hv1 H => ?_)
  refine g_if_ne (tgt := 12) (pc := 7) O dX8_type_7 rfl (fun q2 => ?_) (fun q2 => ?_)
  · replace H := H.1 q2
    refine g_aloadn (pc := 12) O rfl dX8_type_12 ?_
    refine g_getI (v := hv1.1 82 1) (pc := 13) O cls8 fl_X8_120 dX8_type_13 rfl (ltb rfl) (ltb rfl) rfl rfl ?_
    refine g_iloadn (pc := 16) O rfl dX8_type_16 ?_
    refine g_iadd (pc := 17) O dX8_type_17 ?_
    refine g_sipush (v := (I 400)) (pc := 18) O (by decide) dX8_type_18 ?_
    refine g_icmp_le (tgt := 27) (pc := 21) O dX8_type_21 rfl (fun q3 => ?_) (fun q3 => ?_)
    · replace H := H.1 q3
      refine g_iloadn (pc := 27) O rfl dX8_type_27 ?_
      refine g_iconst (v := (I 1)) (pc := 28) O rfl dX8_type_28 ?_
      refine g_isub (pc := 29) O dX8_type_29 ?_
      refine g_istore (lv' := [(0, .ref 82), (1, .long x1), (3, .int x3), (4, .int (x3 - (I 1)))]) (pc := 30) O dX8_type_30 (ltb rfl) rfl ?_
      refine g_sub [0, 1, 3] rfl ?_
      exact H
    · replace H := H.2 q3
      refine g_bipush (v := (I (-3))) (pc := 24) O (by decide) dX8_type_24 ?_
      exact g_iret (pc := 26) O dX8_type_26 H
  · replace H := H.2 q2
    refine g_iconst (v := (I (-1))) (pc := 10) O rfl dX8_type_10 ?_
    exact g_iret (pc := 11) O dX8_type_11 H
set_option maxRecDepth 20000 in
set_option maxHeartbeats 2000000 in
theorem bX8_type_32 {g : mg} {l : Launch} {X : XT} {Q : Int32 → AH → Prop} (O : Ok (FF g l X) RX8 cX8_type 5 mX8_type.2.2.2.2 (some .int)) {x1 : Int64} {x4 : Int32} {h : AH} (H : ((x4 < 0) → (Q (h.1 82 1) h)) ∧ ((¬ (x4 < 0)) → (∃ j2 : Nat, (h.1 82 1) = I (j2 : Int) ∧ j2 < 400 ∧ (GI g l X Q (sI (sI h 83 j2 ((((x1 >>> ((((I 8) * x4)).toInt64 &&& 63)) &&& (255))).toInt32)) 82 1 ((h.1 82 1) + (I 1))) 32 [(0, .ref 82), (1, .long x1), (4, .int (x4 + I (-1)))] [])))) : GI g l X Q h 32 [(0, .ref 82), (1, .long x1), (4, .int x4)] [] := by
  refine g_iload (pc := 32) O rfl dX8_type_32 ?_
  refine g_if_lt (tgt := 74) (pc := 34) O dX8_type_34 rfl (fun q1 => ?_) (fun q1 => ?_)
  · replace H := H.1 q1
    refine g_aloadn (pc := 74) O rfl dX8_type_74 ?_
    refine g_getI (v := h.1 82 1) (pc := 75) O cls8 fl_X8_120 dX8_type_75 rfl (ltb rfl) (ltb rfl) rfl rfl ?_
    exact g_iret (pc := 78) O dX8_type_78 H
  · replace H := H.2 q1
    refine g_aloadn (pc := 37) O rfl dX8_type_37 ?_
    refine g_getS (pc := 38) O cls8 fl_X8_7 dX8_type_38 rfl (ltb rfl) (ltb rfl) rfl rfl ?_
    refine g_aloadn (pc := 41) O rfl dX8_type_41 ?_
    refine g_getI (v := h.1 82 1) (pc := 42) O cls8 fl_X8_120 dX8_type_42 rfl (ltb rfl) (ltb rfl) rfl rfl ?_
    refine g_lloadn (pc := 45) O rfl dX8_type_45 ?_
    refine g_bipush (v := (I 8)) (pc := 46) O (by decide) dX8_type_46 ?_
    refine g_iload (pc := 48) O rfl dX8_type_48 ?_
    refine g_imul (pc := 50) O dX8_type_50 ?_
    refine g_lshr (pc := 51) O dX8_type_51 ?_
    refine g_ldc2 (pc := 52) O co_X8_124 dX8_type_52 ?_
    refine g_land (pc := 55) O dX8_type_55 ?_
    refine g_l2i (pc := 56) O dX8_type_56 ?_
    obtain ⟨j2, ej2, bj2, H⟩ := H
    refine g_iast (j := j2) (pc := 57) O dX8_type_57 ej2 rfl (ltb rfl) (leb rfl) bj2 (ltb rfl) ?_
    refine g_aloadn (pc := 58) O rfl dX8_type_58 ?_
    refine g_dup (pc := 59) O rfl dX8_type_59 ?_
    refine g_getI (v := h.1 82 1) (pc := 60) O cls8 fl_X8_120 dX8_type_60 rfl (ltb rfl) (ltb rfl) rfl rfl ?_
    refine g_iconst (v := (I 1)) (pc := 63) O rfl dX8_type_63 ?_
    refine g_iadd (pc := 64) O dX8_type_64 ?_
    refine g_putI (pc := 65) O cls8 fl_X8_120 dX8_type_65 rfl (ltb rfl) (leb rfl) (ltb rfl) rfl rfl (by decide +kernel) ?_
    refine g_iinc (lv' := [(0, .ref 82), (1, .long x1), (4, .int (x4 + I (-1)))]) (pc := 68) O dX8_type_68 rfl rfl (ltb rfl) rfl ?_
    refine g_goto (tgt := 32) (pc := 71) O dX8_type_71 rfl ?_
    exact H
set_option maxRecDepth 20000 in
set_option maxHeartbeats 2000000 in
theorem sX8_type {g : mg} {l : Launch} {Q : Int32 → AH → Prop} {x1 : Int64} {x3 : Int32} {h : AH} (H : ∀ X, Ok (FF g l X) RX8 cX8_type 5 mX8_type.2.2.2.2 (some .int) → SpI g l mX8_in h [.int x3, .int (I 1), .int (I 8)] (fun v1 hv1 => ((¬ v1 = 0) → (((((hv1.1 82 1) + x3) ≤ (I 400)) → (GI g l X Q hv1 32 [(0, .ref 82), (1, .long x1), (4, .int (x3 - (I 1)))] [])) ∧ ((¬ (((hv1.1 82 1) + x3) ≤ (I 400))) → (Q (I (-3)) hv1)))) ∧ ((v1 = 0) → (Q (I (-1)) hv1)))) : SpI g l mX8_type h [.ref 82, .long x1, .int x3] Q := spI_of (by decide) (leb rfl) (fun X O => bX8_type_0 O (H X O))
set_option maxRecDepth 20000 in
set_option maxHeartbeats 2000000 in
theorem bX8_clear_0 {g : mg} {l : Launch} {X : XT} {Q : Int32 → AH → Prop} (O : Ok (FF g l X) RX8 cX8_clear 2 mX8_clear.2.2.2.2 (some .int))  {h : AH} (H : Q (h.1 82 1) (sI h 82 1 (I 0))) : GI g l X Q h 0 [(0, .ref 82)] [] := by
  refine g_aloadn (pc := 0) O rfl dX8_clear_0 ?_
  refine g_getI (v := h.1 82 1) (pc := 1) O cls8 fl_X8_120 dX8_clear_1 rfl (ltb rfl) (ltb rfl) rfl rfl ?_
  refine g_istoren (lv' := [(0, .ref 82), (1, .int (h.1 82 1))]) (pc := 4) O dX8_clear_4 rfl (ltb rfl) rfl ?_
  refine g_aloadn (pc := 5) O rfl dX8_clear_5 ?_
  refine g_iconst (v := (I 0)) (pc := 6) O rfl dX8_clear_6 ?_
  refine g_putI (pc := 7) O cls8 fl_X8_120 dX8_clear_7 rfl (ltb rfl) (leb rfl) (ltb rfl) rfl rfl (by decide +kernel) ?_
  refine g_iloadn (pc := 10) O rfl dX8_clear_10 ?_
  exact g_iret (pc := 11) O dX8_clear_11 H
set_option maxRecDepth 20000 in
set_option maxHeartbeats 2000000 in
theorem sX8_clear {g : mg} {l : Launch} {Q : Int32 → AH → Prop}  {h : AH} (H : Q (h.1 82 1) (sI h 82 1 (I 0))) : SpI g l mX8_clear h [.ref 82] Q := spI_of (by decide) (leb rfl) (fun X O => bX8_clear_0 O H)
set_option maxRecDepth 20000 in
set_option maxHeartbeats 2000000 in
theorem bX8_isLetter_0 {g : mg} {l : Launch} {X : XT} {Q : Int32 → AH → Prop} (O : Ok (FF g l X) RX8 cX8_isLetter 1 mX8_isLetter.2.2.2.2 (some .boolean)) {x0 : Int32} {h : AH} (H : SpI g l mX8_in h [.int x0, .int (I 97), .int (I 122)] (fun v1 hv1 => (v1 = 0 ∨ v1 = 1) ∧ Q v1 hv1)) : GI g l X Q h 0 [(0, .int x0)] [] := by
  refine g_iloadn (pc := 0) O rfl dX8_isLetter_0 ?_
  refine g_bipush (v := (I 97)) (pc := 1) O (by decide) dX8_isLetter_1 ?_
  refine g_bipush (v := (I 122)) (pc := 3) O (by decide) dX8_isLetter_3 ?_
  refine g_sI [.int x0, .int (I 97), .int (I 122)] [] (pc := 5) O mk_X8_in ml_X8_116 sm_X8_in ⟨rfl, rfl, leb rfl, leb rfl⟩ rfl (leb rfl) dX8_isLetter_5 H rfl (fun v1 hv1 H => ?_)
  exact g_zret (pc := 8) O dX8_isLetter_8 H.1 H.2
set_option maxRecDepth 20000 in
set_option maxHeartbeats 2000000 in
theorem sX8_isLetter {g : mg} {l : Launch} {Q : Int32 → AH → Prop} {x0 : Int32} {h : AH} (H : SpI g l mX8_in h [.int x0, .int (I 97), .int (I 122)] (fun v1 hv1 => (v1 = 0 ∨ v1 = 1) ∧ Q v1 hv1)) : SpI g l mX8_isLetter h [.int x0] Q := spI_of (by decide) (leb rfl) (fun X O => bX8_isLetter_0 O H)
set_option maxRecDepth 20000 in
set_option maxHeartbeats 2000000 in
theorem bX8_isDigit_0 {g : mg} {l : Launch} {X : XT} {Q : Int32 → AH → Prop} (O : Ok (FF g l X) RX8 cX8_isDigit 1 mX8_isDigit.2.2.2.2 (some .boolean)) {x0 : Int32} {h : AH} (H : SpI g l mX8_in h [.int x0, .int (I 48), .int (I 57)] (fun v1 hv1 => (v1 = 0 ∨ v1 = 1) ∧ Q v1 hv1)) : GI g l X Q h 0 [(0, .int x0)] [] := by
  refine g_iloadn (pc := 0) O rfl dX8_isDigit_0 ?_
  refine g_bipush (v := (I 48)) (pc := 1) O (by decide) dX8_isDigit_1 ?_
  refine g_bipush (v := (I 57)) (pc := 3) O (by decide) dX8_isDigit_3 ?_
  refine g_sI [.int x0, .int (I 48), .int (I 57)] [] (pc := 5) O mk_X8_in ml_X8_116 sm_X8_in ⟨rfl, rfl, leb rfl, leb rfl⟩ rfl (leb rfl) dX8_isDigit_5 H rfl (fun v1 hv1 H => ?_)
  exact g_zret (pc := 8) O dX8_isDigit_8 H.1 H.2
set_option maxRecDepth 20000 in
set_option maxHeartbeats 2000000 in
theorem sX8_isDigit {g : mg} {l : Launch} {Q : Int32 → AH → Prop} {x0 : Int32} {h : AH} (H : SpI g l mX8_in h [.int x0, .int (I 48), .int (I 57)] (fun v1 hv1 => (v1 = 0 ∨ v1 = 1) ∧ Q v1 hv1)) : SpI g l mX8_isDigit h [.int x0] Q := spI_of (by decide) (leb rfl) (fun X O => bX8_isDigit_0 O H)
set_option maxRecDepth 20000 in
set_option maxHeartbeats 2000000 in
theorem bX8_look_0 {g : mg} {l : Launch} {X : XT} {Q : Int32 → AH → Prop} (O : Ok (FF g l X) RX8 cX8_look 1 mX8_look.2.2.2.2 (some .int))  {h : AH} (H : (((h.1 82 1) ≤ (h.1 82 2)) → (Q (I (-1)) h)) ∧ ((¬ ((h.1 82 1) ≤ (h.1 82 2))) → (∃ j2 : Nat, (h.1 82 2) = I (j2 : Int) ∧ j2 < 400 ∧ (Q (h.1 83 j2) h)))) : GI g l X Q h 0 [(0, .ref 82)] [] := by
  refine g_aloadn (pc := 0) O rfl dX8_look_0 ?_
  refine g_getI (v := h.1 82 2) (pc := 1) O cls8 fl_X8_126 dX8_look_1 rfl (ltb rfl) (ltb rfl) rfl rfl ?_
  refine g_aloadn (pc := 4) O rfl dX8_look_4 ?_
  refine g_getI (v := h.1 82 1) (pc := 5) O cls8 fl_X8_120 dX8_look_5 rfl (ltb rfl) (ltb rfl) rfl rfl ?_
  refine g_icmp_ge (tgt := 23) (pc := 8) O dX8_look_8 rfl (fun q1 => ?_) (fun q1 => ?_)
  · replace H := H.1 q1
    refine g_iconst (v := (I (-1))) (pc := 23) O rfl dX8_look_23 ?_
    exact g_iret (pc := 24) O dX8_look_24 H
  · replace H := H.2 q1
    refine g_aloadn (pc := 11) O rfl dX8_look_11 ?_
    refine g_getS (pc := 12) O cls8 fl_X8_7 dX8_look_12 rfl (ltb rfl) (ltb rfl) rfl rfl ?_
    refine g_aloadn (pc := 15) O rfl dX8_look_15 ?_
    refine g_getI (v := h.1 82 2) (pc := 16) O cls8 fl_X8_126 dX8_look_16 rfl (ltb rfl) (ltb rfl) rfl rfl ?_
    obtain ⟨j2, ej2, bj2, H⟩ := H
    refine g_iald (j := j2) (pc := 19) O dX8_look_19 ej2 rfl (ltb rfl) bj2 (ltb rfl) rfl ?_
    refine g_goto (tgt := 24) (pc := 20) O dX8_look_20 rfl ?_
    exact g_iret (pc := 24) O dX8_look_24 H
set_option maxRecDepth 20000 in
set_option maxHeartbeats 2000000 in
theorem sX8_look {g : mg} {l : Launch} {Q : Int32 → AH → Prop}  {h : AH} (H : (((h.1 82 1) ≤ (h.1 82 2)) → (Q (I (-1)) h)) ∧ ((¬ ((h.1 82 1) ≤ (h.1 82 2))) → (∃ j2 : Nat, (h.1 82 2) = I (j2 : Int) ∧ j2 < 400 ∧ (Q (h.1 83 j2) h)))) : SpI g l mX8_look h [.ref 82] Q := spI_of (by decide) (leb rfl) (fun X O => bX8_look_0 O H)
set_option maxRecDepth 20000 in
set_option maxHeartbeats 2000000 in
theorem bX8_read_0 {g : mg} {l : Launch} {X : XT} {Q : AH → Prop} (O : Ok (FF g l X) RX8 cX8_read 2 mX8_read.2.2.2.2 none)  {h : AH} (H : SpI g l mX8_look h [.ref 82] (fun v1 hv1 => ((¬ v1 = (I 32)) → (SpI g l mX8_look (sI hv1 82 3 (hv1.1 82 2)) [.ref 82] (fun v3 hv3 => ((0 ≤ v3) → (SpI g l mX8_isLetter hv3 [.int v3] (fun v5 hv5 => ((v5 = 0) → (SpI g l mX8_isDigit hv5 [.int v3] (fun v7 hv7 => ((v7 = 0) → (((¬ v3 = (I 59)) → (Q (sI (sI hv7 82 2 ((hv7.1 82 2) + (I 1))) 82 4 (I 9)))) ∧ ((v3 = (I 59)) → (Q (sI (sI hv7 82 2 ((hv7.1 82 2) + (I 1))) 82 4 (I 3)))))) ∧ ((¬ (v7 = 0)) → (GV g l X Q (sI hv7 82 5 (I 0)) 73 [(0, .ref 82), (1, .int v3)] []))))) ∧ ((¬ (v5 = 0)) → (SpV g l mX8_word hv5 [.ref 82] (fun hv10 => Q hv10)))))) ∧ ((¬ (0 ≤ v3)) → (Q (sI hv3 82 4 (I 0))))))) ∧ ((v1 = (I 32)) → (GV g l X Q (sI hv1 82 2 ((hv1.1 82 2) + (I 1))) 0 [(0, .ref 82)] [])))) : GV g l X Q h 0 [(0, .ref 82)] [] := by
  refine g_aloadn (pc := 0) O rfl dX8_read_0 ?_
  refine g_vI [] [] (pc := 1) O mk_X8_look ml_X8_129 im_X8_look se_X8_look cls8 rfl ⟨rfl, rfl, leb rfl, leb rfl⟩ rfl (leb rfl) dX8_read_1 H rfl (fun v1 hv1 H => ?_)
  refine g_bipush (v := (I 32)) (pc := 4) O (by decide) dX8_read_4 ?_
  refine g_icmp_ne (tgt := 22) (pc := 6) O dX8_read_6 rfl (fun q2 => ?_) (fun q2 => ?_)
  · replace H := H.1 q2
    refine g_aloadn (pc := 22) O rfl dX8_read_22 ?_
    refine g_aloadn (pc := 23) O rfl dX8_read_23 ?_
    refine g_getI (v := hv1.1 82 2) (pc := 24) O cls8 fl_X8_126 dX8_read_24 rfl (ltb rfl) (ltb rfl) rfl rfl ?_
    refine g_putI (pc := 27) O cls8 fl_X8_133 dX8_read_27 rfl (ltb rfl) (leb rfl) (ltb rfl) rfl rfl (by decide +kernel) ?_
    refine g_aloadn (pc := 30) O rfl dX8_read_30 ?_
    refine g_vI [] [] (pc := 31) O mk_X8_look ml_X8_129 im_X8_look se_X8_look cls8 rfl ⟨rfl, rfl, leb rfl, leb rfl⟩ rfl (leb rfl) dX8_read_31 H rfl (fun v3 hv3 H => ?_)
    refine g_istoren (lv' := [(0, .ref 82), (1, .int v3)]) (pc := 34) O dX8_read_34 rfl (ltb rfl) rfl ?_
    refine g_iloadn (pc := 35) O rfl dX8_read_35 ?_
    refine g_if_ge (tgt := 47) (pc := 36) O dX8_read_36 rfl (fun q4 => ?_) (fun q4 => ?_)
    · replace H := H.1 q4
      refine g_iloadn (pc := 47) O rfl dX8_read_47 ?_
      refine g_sI [.int v3] [] (pc := 48) O mk_X8_isLetter ml_X8_139 sm_X8_isLetter ⟨rfl, rfl, leb rfl, leb rfl⟩ rfl (leb rfl) dX8_read_48 H rfl (fun v5 hv5 H => ?_)
      refine g_if_eq (tgt := 61) (pc := 51) O dX8_read_51 rfl (fun q6 => ?_) (fun q6 => ?_)
      · replace H := H.1 q6
        refine g_iloadn (pc := 61) O rfl dX8_read_61 ?_
        refine g_sI [.int v3] [] (pc := 62) O mk_X8_isDigit ml_X8_146 sm_X8_isDigit ⟨rfl, rfl, leb rfl, leb rfl⟩ rfl (leb rfl) dX8_read_62 H rfl (fun v7 hv7 H => ?_)
        refine g_if_eq (tgt := 180) (pc := 65) O dX8_read_65 rfl (fun q8 => ?_) (fun q8 => ?_)
        · replace H := H.1 q8
          refine g_aloadn (pc := 180) O rfl dX8_read_180 ?_
          refine g_dup (pc := 181) O rfl dX8_read_181 ?_
          refine g_getI (v := hv7.1 82 2) (pc := 182) O cls8 fl_X8_126 dX8_read_182 rfl (ltb rfl) (ltb rfl) rfl rfl ?_
          refine g_iconst (v := (I 1)) (pc := 185) O rfl dX8_read_185 ?_
          refine g_iadd (pc := 186) O dX8_read_186 ?_
          refine g_putI (pc := 187) O cls8 fl_X8_126 dX8_read_187 rfl (ltb rfl) (leb rfl) (ltb rfl) rfl rfl (by decide +kernel) ?_
          refine g_aloadn (pc := 190) O rfl dX8_read_190 ?_
          refine g_iloadn (pc := 191) O rfl dX8_read_191 ?_
          refine g_bipush (v := (I 59)) (pc := 192) O (by decide) dX8_read_192 ?_
          refine g_icmp_ne (tgt := 201) (pc := 194) O dX8_read_194 rfl (fun q9 => ?_) (fun q9 => ?_)
          · replace H := H.1 q9
            refine g_bipush (v := (I 9)) (pc := 201) O (by decide) dX8_read_201 ?_
            refine g_putI (pc := 203) O cls8 fl_X8_136 dX8_read_203 rfl (ltb rfl) (leb rfl) (ltb rfl) rfl rfl (by decide +kernel) ?_
            exact g_vret (pc := 206) O dX8_read_206 H
          · replace H := H.2 q9
            refine g_iconst (v := (I 3)) (pc := 197) O rfl dX8_read_197 ?_
            refine g_goto (tgt := 203) (pc := 198) O dX8_read_198 rfl ?_
            refine g_putI (pc := 203) O cls8 fl_X8_136 dX8_read_203 rfl (ltb rfl) (leb rfl) (ltb rfl) rfl rfl (by decide +kernel) ?_
            exact g_vret (pc := 206) O dX8_read_206 H
        · replace H := H.2 q8
          refine g_aloadn (pc := 68) O rfl dX8_read_68 ?_
          refine g_iconst (v := (I 0)) (pc := 69) O rfl dX8_read_69 ?_
          refine g_putI (pc := 70) O cls8 fl_X8_149 dX8_read_70 rfl (ltb rfl) (leb rfl) (ltb rfl) rfl rfl (by decide +kernel) ?_
          exact H
      · replace H := H.2 q6
        refine g_aloadn (pc := 54) O rfl dX8_read_54 ?_
        refine g_vV [] [] (pc := 55) O mk_X8_word ml_X8_143 im_X8_word se_X8_word cls8 rfl ⟨rfl, rfl, leb rfl, leb rfl⟩ rfl (leb rfl) dX8_read_55 H rfl (fun hv10 H => ?_)
        refine g_goto (tgt := 206) (pc := 58) O dX8_read_58 rfl ?_
        exact g_vret (pc := 206) O dX8_read_206 H
    · replace H := H.2 q4
      refine g_aloadn (pc := 39) O rfl dX8_read_39 ?_
      refine g_iconst (v := (I 0)) (pc := 40) O rfl dX8_read_40 ?_
      refine g_putI (pc := 41) O cls8 fl_X8_136 dX8_read_41 rfl (ltb rfl) (leb rfl) (ltb rfl) rfl rfl (by decide +kernel) ?_
      refine g_goto (tgt := 206) (pc := 44) O dX8_read_44 rfl ?_
      exact g_vret (pc := 206) O dX8_read_206 H
  · replace H := H.2 q2
    refine g_aloadn (pc := 9) O rfl dX8_read_9 ?_
    refine g_dup (pc := 10) O rfl dX8_read_10 ?_
    refine g_getI (v := hv1.1 82 2) (pc := 11) O cls8 fl_X8_126 dX8_read_11 rfl (ltb rfl) (ltb rfl) rfl rfl ?_
    refine g_iconst (v := (I 1)) (pc := 14) O rfl dX8_read_14 ?_
    refine g_iadd (pc := 15) O dX8_read_15 ?_
    refine g_putI (pc := 16) O cls8 fl_X8_126 dX8_read_16 rfl (ltb rfl) (leb rfl) (ltb rfl) rfl rfl (by decide +kernel) ?_
    refine g_goto (tgt := 0) (pc := 19) O dX8_read_19 rfl ?_
    exact H
set_option maxRecDepth 20000 in
set_option maxHeartbeats 2000000 in
theorem bX8_read_73 {g : mg} {l : Launch} {X : XT} {Q : AH → Prop} (O : Ok (FF g l X) RX8 cX8_read 2 mX8_read.2.2.2.2 none) {x1 : Int32} {h : AH} (H : SpI g l mX8_look h [.ref 82] (fun v1 hv1 => SpI g l mX8_isDigit hv1 [.int v1] (fun v2 hv2 => ((v2 = 0) → ((((I 3) < ((hv2.1 82 2) - (hv2.1 82 3))) → (Q (sI hv2 82 4 (I 9)))) ∧ ((¬ ((I 3) < ((hv2.1 82 2) - (hv2.1 82 3)))) → (((¬ x1 = (I 48)) → (Q (sI hv2 82 4 (I 2)))) ∧ ((x1 = (I 48)) → (((((hv2.1 82 2) - (hv2.1 82 3)) ≤ (I 1)) → (Q (sI hv2 82 4 (I 2)))) ∧ ((¬ (((hv2.1 82 2) - (hv2.1 82 3)) ≤ (I 1))) → (Q (sI hv2 82 4 (I 9)))))))))) ∧ ((¬ (v2 = 0)) → ((((I 3) ≤ ((hv2.1 82 2) - (hv2.1 82 3))) → (GV g l X Q (sI (sI hv2 82 5 (hv2.1 82 5)) 82 2 ((hv2.1 82 2) + (I 1))) 73 [(0, .ref 82), (1, .int x1)] [])) ∧ ((¬ ((I 3) ≤ ((hv2.1 82 2) - (hv2.1 82 3)))) → (SpI g l mX8_look hv2 [.ref 82] (fun v8 hv8 => GV g l X Q (sI (sI hv8 82 5 ((((I 10) * (hv2.1 82 5)) + v8) - (I 48))) 82 2 ((hv8.1 82 2) + (I 1))) 73 [(0, .ref 82), (1, .int x1)] [])))))))) : GV g l X Q h 73 [(0, .ref 82), (1, .int x1)] [] := by
  refine g_aloadn (pc := 73) O rfl dX8_read_73 ?_
  refine g_vI [] [] (pc := 74) O mk_X8_look ml_X8_129 im_X8_look se_X8_look cls8 rfl ⟨rfl, rfl, leb rfl, leb rfl⟩ rfl (leb rfl) dX8_read_74 H rfl (fun v1 hv1 H => ?_)
  refine g_sI [.int v1] [] (pc := 77) O mk_X8_isDigit ml_X8_146 sm_X8_isDigit ⟨rfl, rfl, leb rfl, leb rfl⟩ rfl (leb rfl) dX8_read_77 H rfl (fun v2 hv2 H => ?_)
  refine g_if_eq (tgt := 135) (pc := 80) O dX8_read_80 rfl (fun q3 => ?_) (fun q3 => ?_)
  · replace H := H.1 q3
    refine g_aloadn (pc := 135) O rfl dX8_read_135 ?_
    refine g_aloadn (pc := 136) O rfl dX8_read_136 ?_
    refine g_getI (v := hv2.1 82 2) (pc := 137) O cls8 fl_X8_126 dX8_read_137 rfl (ltb rfl) (ltb rfl) rfl rfl ?_
    refine g_aloadn (pc := 140) O rfl dX8_read_140 ?_
    refine g_getI (v := hv2.1 82 3) (pc := 141) O cls8 fl_X8_133 dX8_read_141 rfl (ltb rfl) (ltb rfl) rfl rfl ?_
    refine g_isub (pc := 144) O dX8_read_144 ?_
    refine g_iconst (v := (I 3)) (pc := 145) O rfl dX8_read_145 ?_
    refine g_icmp_gt (tgt := 168) (pc := 146) O dX8_read_146 rfl (fun q4 => ?_) (fun q4 => ?_)
    · replace H := H.1 q4
      refine g_bipush (v := (I 9)) (pc := 168) O (by decide) dX8_read_168 ?_
      refine g_goto (tgt := 174) (pc := 170) O dX8_read_170 rfl ?_
      refine g_putI (pc := 174) O cls8 fl_X8_136 dX8_read_174 rfl (ltb rfl) (leb rfl) (ltb rfl) rfl rfl (by decide +kernel) ?_
      refine g_goto (tgt := 206) (pc := 177) O dX8_read_177 rfl ?_
      exact g_vret (pc := 206) O dX8_read_206 H
    · replace H := H.2 q4
      refine g_iloadn (pc := 149) O rfl dX8_read_149 ?_
      refine g_bipush (v := (I 48)) (pc := 150) O (by decide) dX8_read_150 ?_
      refine g_icmp_ne (tgt := 173) (pc := 152) O dX8_read_152 rfl (fun q5 => ?_) (fun q5 => ?_)
      · replace H := H.1 q5
        refine g_iconst (v := (I 2)) (pc := 173) O rfl dX8_read_173 ?_
        refine g_putI (pc := 174) O cls8 fl_X8_136 dX8_read_174 rfl (ltb rfl) (leb rfl) (ltb rfl) rfl rfl (by decide +kernel) ?_
        refine g_goto (tgt := 206) (pc := 177) O dX8_read_177 rfl ?_
        exact g_vret (pc := 206) O dX8_read_206 H
      · replace H := H.2 q5
        refine g_aloadn (pc := 155) O rfl dX8_read_155 ?_
        refine g_getI (v := hv2.1 82 2) (pc := 156) O cls8 fl_X8_126 dX8_read_156 rfl (ltb rfl) (ltb rfl) rfl rfl ?_
        refine g_aloadn (pc := 159) O rfl dX8_read_159 ?_
        refine g_getI (v := hv2.1 82 3) (pc := 160) O cls8 fl_X8_133 dX8_read_160 rfl (ltb rfl) (ltb rfl) rfl rfl ?_
        refine g_isub (pc := 163) O dX8_read_163 ?_
        refine g_iconst (v := (I 1)) (pc := 164) O rfl dX8_read_164 ?_
        refine g_icmp_le (tgt := 173) (pc := 165) O dX8_read_165 rfl (fun q6 => ?_) (fun q6 => ?_)
        · replace H := H.1 q6
          refine g_iconst (v := (I 2)) (pc := 173) O rfl dX8_read_173 ?_
          refine g_putI (pc := 174) O cls8 fl_X8_136 dX8_read_174 rfl (ltb rfl) (leb rfl) (ltb rfl) rfl rfl (by decide +kernel) ?_
          refine g_goto (tgt := 206) (pc := 177) O dX8_read_177 rfl ?_
          exact g_vret (pc := 206) O dX8_read_206 H
        · replace H := H.2 q6
          refine g_bipush (v := (I 9)) (pc := 168) O (by decide) dX8_read_168 ?_
          refine g_goto (tgt := 174) (pc := 170) O dX8_read_170 rfl ?_
          refine g_putI (pc := 174) O cls8 fl_X8_136 dX8_read_174 rfl (ltb rfl) (leb rfl) (ltb rfl) rfl rfl (by decide +kernel) ?_
          refine g_goto (tgt := 206) (pc := 177) O dX8_read_177 rfl ?_
          exact g_vret (pc := 206) O dX8_read_206 H
  · replace H := H.2 q3
    refine g_aloadn (pc := 83) O rfl dX8_read_83 ?_
    refine g_aloadn (pc := 84) O rfl dX8_read_84 ?_
    refine g_getI (v := hv2.1 82 2) (pc := 85) O cls8 fl_X8_126 dX8_read_85 rfl (ltb rfl) (ltb rfl) rfl rfl ?_
    refine g_aloadn (pc := 88) O rfl dX8_read_88 ?_
    refine g_getI (v := hv2.1 82 3) (pc := 89) O cls8 fl_X8_133 dX8_read_89 rfl (ltb rfl) (ltb rfl) rfl rfl ?_
    refine g_isub (pc := 92) O dX8_read_92 ?_
    refine g_iconst (v := (I 3)) (pc := 93) O rfl dX8_read_93 ?_
    refine g_icmp_ge (tgt := 115) (pc := 94) O dX8_read_94 rfl (fun q7 => ?_) (fun q7 => ?_)
    · replace H := H.1 q7
      refine g_aloadn (pc := 115) O rfl dX8_read_115 ?_
      refine g_getI (v := hv2.1 82 5) (pc := 116) O cls8 fl_X8_149 dX8_read_116 rfl (ltb rfl) (ltb rfl) rfl rfl ?_
      refine g_putI (pc := 119) O cls8 fl_X8_149 dX8_read_119 rfl (ltb rfl) (leb rfl) (ltb rfl) rfl rfl (by decide +kernel) ?_
      refine g_aloadn (pc := 122) O rfl dX8_read_122 ?_
      refine g_dup (pc := 123) O rfl dX8_read_123 ?_
      refine g_getI (v := hv2.1 82 2) (pc := 124) O cls8 fl_X8_126 dX8_read_124 rfl (ltb rfl) (ltb rfl) rfl rfl ?_
      refine g_iconst (v := (I 1)) (pc := 127) O rfl dX8_read_127 ?_
      refine g_iadd (pc := 128) O dX8_read_128 ?_
      refine g_putI (pc := 129) O cls8 fl_X8_126 dX8_read_129 rfl (ltb rfl) (leb rfl) (ltb rfl) rfl rfl (by decide +kernel) ?_
      refine g_goto (tgt := 73) (pc := 132) O dX8_read_132 rfl ?_
      exact H
    · replace H := H.2 q7
      refine g_bipush (v := (I 10)) (pc := 97) O (by decide) dX8_read_97 ?_
      refine g_aloadn (pc := 99) O rfl dX8_read_99 ?_
      refine g_getI (v := hv2.1 82 5) (pc := 100) O cls8 fl_X8_149 dX8_read_100 rfl (ltb rfl) (ltb rfl) rfl rfl ?_
      refine g_imul (pc := 103) O dX8_read_103 ?_
      refine g_aloadn (pc := 104) O rfl dX8_read_104 ?_
      refine g_vI [] [.int ((I 10) * (hv2.1 82 5)), .ref 82] (pc := 105) O mk_X8_look ml_X8_129 im_X8_look se_X8_look cls8 rfl ⟨rfl, rfl, leb rfl, leb rfl⟩ rfl (leb rfl) dX8_read_105 H rfl (fun v8 hv8 H => ?_)
      refine g_iadd (pc := 108) O dX8_read_108 ?_
      refine g_bipush (v := (I 48)) (pc := 109) O (by decide) dX8_read_109 ?_
      refine g_isub (pc := 111) O dX8_read_111 ?_
      refine g_goto (tgt := 119) (pc := 112) O dX8_read_112 rfl ?_
      refine g_putI (pc := 119) O cls8 fl_X8_149 dX8_read_119 rfl (ltb rfl) (leb rfl) (ltb rfl) rfl rfl (by decide +kernel) ?_
      refine g_aloadn (pc := 122) O rfl dX8_read_122 ?_
      refine g_dup (pc := 123) O rfl dX8_read_123 ?_
      refine g_getI (v := hv8.1 82 2) (pc := 124) O cls8 fl_X8_126 dX8_read_124 rfl (ltb rfl) (ltb rfl) rfl rfl ?_
      refine g_iconst (v := (I 1)) (pc := 127) O rfl dX8_read_127 ?_
      refine g_iadd (pc := 128) O dX8_read_128 ?_
      refine g_putI (pc := 129) O cls8 fl_X8_126 dX8_read_129 rfl (ltb rfl) (leb rfl) (ltb rfl) rfl rfl (by decide +kernel) ?_
      refine g_goto (tgt := 73) (pc := 132) O dX8_read_132 rfl ?_
      exact H
set_option maxRecDepth 20000 in
set_option maxHeartbeats 2000000 in
theorem sX8_read {g : mg} {l : Launch} {Q : AH → Prop}  {h : AH} (H : ∀ X, Ok (FF g l X) RX8 cX8_read 2 mX8_read.2.2.2.2 none → SpI g l mX8_look h [.ref 82] (fun v1 hv1 => ((¬ v1 = (I 32)) → (SpI g l mX8_look (sI hv1 82 3 (hv1.1 82 2)) [.ref 82] (fun v3 hv3 => ((0 ≤ v3) → (SpI g l mX8_isLetter hv3 [.int v3] (fun v5 hv5 => ((v5 = 0) → (SpI g l mX8_isDigit hv5 [.int v3] (fun v7 hv7 => ((v7 = 0) → (((¬ v3 = (I 59)) → (Q (sI (sI hv7 82 2 ((hv7.1 82 2) + (I 1))) 82 4 (I 9)))) ∧ ((v3 = (I 59)) → (Q (sI (sI hv7 82 2 ((hv7.1 82 2) + (I 1))) 82 4 (I 3)))))) ∧ ((¬ (v7 = 0)) → (GV g l X Q (sI hv7 82 5 (I 0)) 73 [(0, .ref 82), (1, .int v3)] []))))) ∧ ((¬ (v5 = 0)) → (SpV g l mX8_word hv5 [.ref 82] (fun hv10 => Q hv10)))))) ∧ ((¬ (0 ≤ v3)) → (Q (sI hv3 82 4 (I 0))))))) ∧ ((v1 = (I 32)) → (GV g l X Q (sI hv1 82 2 ((hv1.1 82 2) + (I 1))) 0 [(0, .ref 82)] [])))) : SpV g l mX8_read h [.ref 82] Q := spV_of (by decide) (leb rfl) (fun X O => bX8_read_0 O (H X O))
set_option maxRecDepth 20000 in
set_option maxHeartbeats 2000000 in
theorem bX8_word_0 {g : mg} {l : Launch} {X : XT} {Q : AH → Prop} (O : Ok (FF g l X) RX8 cX8_word 3 mX8_word.2.2.2.2 none)  {h : AH} (H : GV g l X Q h 2 [(0, .ref 82), (1, .int (I 0))] []) : GV g l X Q h 0 [(0, .ref 82)] [] := by
  refine g_iconst (v := (I 0)) (pc := 0) O rfl dX8_word_0 ?_
  refine g_istoren (lv' := [(0, .ref 82), (1, .int (I 0))]) (pc := 1) O dX8_word_1 rfl (ltb rfl) rfl ?_
  exact H
set_option maxRecDepth 20000 in
set_option maxHeartbeats 2000000 in
theorem bX8_word_2 {g : mg} {l : Launch} {X : XT} {Q : AH → Prop} (O : Ok (FF g l X) RX8 cX8_word 3 mX8_word.2.2.2.2 none) {x1 : Int32} {h : AH} (H : SpI g l mX8_look h [.ref 82] (fun v1 hv1 => SpI g l mX8_isLetter hv1 [.int v1] (fun v2 hv2 => ((v2 = 0) → (((((hv2.1 82 2) - (hv2.1 82 3)) ≤ (I 5)) → (GV g l X Q hv2 73 [(0, .ref 82), (1, .int x1)] [.int (I 0)])) ∧ ((¬ (((hv2.1 82 2) - (hv2.1 82 3)) ≤ (I 5))) → (GV g l X Q hv2 73 [(0, .ref 82), (1, .int x1)] [.int (I 1)])))) ∧ ((¬ (v2 = 0)) → ((((I 5) ≤ ((hv2.1 82 2) - (hv2.1 82 3))) → (GV g l X Q (sI hv2 82 2 ((hv2.1 82 2) + (I 1))) 2 [(0, .ref 82), (1, .int (I 0))] [])) ∧ ((¬ ((I 5) ≤ ((hv2.1 82 2) - (hv2.1 82 3)))) → (SpI g l mX8_look hv2 [.ref 82] (fun v6 hv6 => GV g l X Q (sI hv6 82 2 ((hv6.1 82 2) + (I 1))) 2 [(0, .ref 82), (1, .int ((((I 32) * x1) + v6) - (I 96)))] [])))))))) : GV g l X Q h 2 [(0, .ref 82), (1, .int x1)] [] := by
  refine g_aloadn (pc := 2) O rfl dX8_word_2 ?_
  refine g_vI [] [] (pc := 3) O mk_X8_look ml_X8_129 im_X8_look se_X8_look cls8 rfl ⟨rfl, rfl, leb rfl, leb rfl⟩ rfl (leb rfl) dX8_word_3 H rfl (fun v1 hv1 H => ?_)
  refine g_sI [.int v1] [] (pc := 6) O mk_X8_isLetter ml_X8_139 sm_X8_isLetter ⟨rfl, rfl, leb rfl, leb rfl⟩ rfl (leb rfl) dX8_word_6 H rfl (fun v2 hv2 H => ?_)
  refine g_if_eq (tgt := 55) (pc := 9) O dX8_word_9 rfl (fun q3 => ?_) (fun q3 => ?_)
  · replace H := H.1 q3
    refine g_aloadn (pc := 55) O rfl dX8_word_55 ?_
    refine g_getI (v := hv2.1 82 2) (pc := 56) O cls8 fl_X8_126 dX8_word_56 rfl (ltb rfl) (ltb rfl) rfl rfl ?_
    refine g_aloadn (pc := 59) O rfl dX8_word_59 ?_
    refine g_getI (v := hv2.1 82 3) (pc := 60) O cls8 fl_X8_133 dX8_word_60 rfl (ltb rfl) (ltb rfl) rfl rfl ?_
    refine g_isub (pc := 63) O dX8_word_63 ?_
    refine g_iconst (v := (I 5)) (pc := 64) O rfl dX8_word_64 ?_
    refine g_icmp_le (tgt := 72) (pc := 65) O dX8_word_65 rfl (fun q4 => ?_) (fun q4 => ?_)
    · replace H := H.1 q4
      refine g_iconst (v := (I 0)) (pc := 72) O rfl dX8_word_72 ?_
      exact H
    · replace H := H.2 q4
      refine g_iconst (v := (I 1)) (pc := 68) O rfl dX8_word_68 ?_
      refine g_goto (tgt := 73) (pc := 69) O dX8_word_69 rfl ?_
      exact H
  · replace H := H.2 q3
    refine g_aloadn (pc := 12) O rfl dX8_word_12 ?_
    refine g_getI (v := hv2.1 82 2) (pc := 13) O cls8 fl_X8_126 dX8_word_13 rfl (ltb rfl) (ltb rfl) rfl rfl ?_
    refine g_aloadn (pc := 16) O rfl dX8_word_16 ?_
    refine g_getI (v := hv2.1 82 3) (pc := 17) O cls8 fl_X8_133 dX8_word_17 rfl (ltb rfl) (ltb rfl) rfl rfl ?_
    refine g_isub (pc := 20) O dX8_word_20 ?_
    refine g_iconst (v := (I 5)) (pc := 21) O rfl dX8_word_21 ?_
    refine g_icmp_ge (tgt := 40) (pc := 22) O dX8_word_22 rfl (fun q5 => ?_) (fun q5 => ?_)
    · replace H := H.1 q5
      refine g_iconst (v := (I 0)) (pc := 40) O rfl dX8_word_40 ?_
      refine g_istoren (lv' := [(0, .ref 82), (1, .int (I 0))]) (pc := 41) O dX8_word_41 rfl (ltb rfl) rfl ?_
      refine g_aloadn (pc := 42) O rfl dX8_word_42 ?_
      refine g_dup (pc := 43) O rfl dX8_word_43 ?_
      refine g_getI (v := hv2.1 82 2) (pc := 44) O cls8 fl_X8_126 dX8_word_44 rfl (ltb rfl) (ltb rfl) rfl rfl ?_
      refine g_iconst (v := (I 1)) (pc := 47) O rfl dX8_word_47 ?_
      refine g_iadd (pc := 48) O dX8_word_48 ?_
      refine g_putI (pc := 49) O cls8 fl_X8_126 dX8_word_49 rfl (ltb rfl) (leb rfl) (ltb rfl) rfl rfl (by decide +kernel) ?_
      refine g_goto (tgt := 2) (pc := 52) O dX8_word_52 rfl ?_
      exact H
    · replace H := H.2 q5
      refine g_bipush (v := (I 32)) (pc := 25) O (by decide) dX8_word_25 ?_
      refine g_iloadn (pc := 27) O rfl dX8_word_27 ?_
      refine g_imul (pc := 28) O dX8_word_28 ?_
      refine g_aloadn (pc := 29) O rfl dX8_word_29 ?_
      refine g_vI [] [.int ((I 32) * x1)] (pc := 30) O mk_X8_look ml_X8_129 im_X8_look se_X8_look cls8 rfl ⟨rfl, rfl, leb rfl, leb rfl⟩ rfl (leb rfl) dX8_word_30 H rfl (fun v6 hv6 H => ?_)
      refine g_iadd (pc := 33) O dX8_word_33 ?_
      refine g_bipush (v := (I 96)) (pc := 34) O (by decide) dX8_word_34 ?_
      refine g_isub (pc := 36) O dX8_word_36 ?_
      refine g_goto (tgt := 41) (pc := 37) O dX8_word_37 rfl ?_
      refine g_istoren (lv' := [(0, .ref 82), (1, .int ((((I 32) * x1) + v6) - (I 96)))]) (pc := 41) O dX8_word_41 rfl (ltb rfl) rfl ?_
      refine g_aloadn (pc := 42) O rfl dX8_word_42 ?_
      refine g_dup (pc := 43) O rfl dX8_word_43 ?_
      refine g_getI (v := hv6.1 82 2) (pc := 44) O cls8 fl_X8_126 dX8_word_44 rfl (ltb rfl) (ltb rfl) rfl rfl ?_
      refine g_iconst (v := (I 1)) (pc := 47) O rfl dX8_word_47 ?_
      refine g_iadd (pc := 48) O dX8_word_48 ?_
      refine g_putI (pc := 49) O cls8 fl_X8_126 dX8_word_49 rfl (ltb rfl) (leb rfl) (ltb rfl) rfl rfl (by decide +kernel) ?_
      refine g_goto (tgt := 2) (pc := 52) O dX8_word_52 rfl ?_
      exact H
set_option maxRecDepth 20000 in
set_option maxHeartbeats 2000000 in
theorem bX8_word_73 {g : mg} {l : Launch} {X : XT} {Q : AH → Prop} (O : Ok (FF g l X) RX8 cX8_word 3 mX8_word.2.2.2.2 none) {x1 : Int32} {s0 : Int32} {h : AH} (H : ((s0 = 0) → (((¬ x1 = (605677)) → (((¬ x1 = (17287347)) → (((¬ x1 = (20600006)) → (((¬ x1 = (1451365)) → (((¬ x1 = (75148)) → (((¬ ((h.1 82 2) - (h.1 82 3)) = (I 1)) → (((¬ (I 9) = (I 1)) → (Q (sI (sI h 82 4 (I 9)) 82 5 (I 0)))) ∧ (((I 9) = (I 1)) → (Q (sI (sI h 82 4 (I 9)) 82 5 (x1 - (I 1))))))) ∧ ((((h.1 82 2) - (h.1 82 3)) = (I 1)) → ((((I 12) < x1) → (((¬ (I 9) = (I 1)) → (Q (sI (sI h 82 4 (I 9)) 82 5 (I 0)))) ∧ (((I 9) = (I 1)) → (Q (sI (sI h 82 4 (I 9)) 82 5 (x1 - (I 1))))))) ∧ ((¬ ((I 12) < x1)) → (((¬ (I 1) = (I 1)) → (Q (sI (sI h 82 4 (I 1)) 82 5 (I 0)))) ∧ (((I 1) = (I 1)) → (Q (sI (sI h 82 4 (I 1)) 82 5 (x1 - (I 1))))))))))) ∧ ((x1 = (75148)) → (((¬ (I 8) = (I 1)) → (Q (sI (sI h 82 4 (I 8)) 82 5 (I 0)))) ∧ (((I 8) = (I 1)) → (Q (sI (sI h 82 4 (I 8)) 82 5 (x1 - (I 1))))))))) ∧ ((x1 = (1451365)) → (((¬ (I 7) = (I 1)) → (Q (sI (sI h 82 4 (I 7)) 82 5 (I 0)))) ∧ (((I 7) = (I 1)) → (Q (sI (sI h 82 4 (I 7)) 82 5 (x1 - (I 1))))))))) ∧ ((x1 = (20600006)) → (((¬ (I 6) = (I 1)) → (Q (sI (sI h 82 4 (I 6)) 82 5 (I 0)))) ∧ (((I 6) = (I 1)) → (Q (sI (sI h 82 4 (I 6)) 82 5 (x1 - (I 1))))))))) ∧ ((x1 = (17287347)) → (((¬ (I 5) = (I 1)) → (Q (sI (sI h 82 4 (I 5)) 82 5 (I 0)))) ∧ (((I 5) = (I 1)) → (Q (sI (sI h 82 4 (I 5)) 82 5 (x1 - (I 1))))))))) ∧ ((x1 = (605677)) → (((¬ (I 4) = (I 1)) → (Q (sI (sI h 82 4 (I 4)) 82 5 (I 0)))) ∧ (((I 4) = (I 1)) → (Q (sI (sI h 82 4 (I 4)) 82 5 (x1 - (I 1))))))))) ∧ ((¬ (s0 = 0)) → (((¬ (I 9) = (I 1)) → (Q (sI (sI h 82 4 (I 9)) 82 5 (I 0)))) ∧ (((I 9) = (I 1)) → (Q (sI (sI h 82 4 (I 9)) 82 5 (x1 - (I 1)))))))) : GV g l X Q h 73 [(0, .ref 82), (1, .int x1)] [.int s0] := by
  refine g_istoren (lv' := [(0, .ref 82), (1, .int x1), (2, .int s0)]) (pc := 73) O dX8_word_73 rfl (ltb rfl) rfl ?_
  refine g_aloadn (pc := 74) O rfl dX8_word_74 ?_
  refine g_iloadn (pc := 75) O rfl dX8_word_75 ?_
  refine g_if_eq (tgt := 84) (pc := 76) O dX8_word_76 rfl (fun q1 => ?_) (fun q1 => ?_)
  · replace H := H.1 q1
    refine g_iloadn (pc := 84) O rfl dX8_word_84 ?_
    refine g_ldc (pc := 85) O co_X8_152 dX8_word_85 ?_
    refine g_icmp_ne (tgt := 94) (pc := 87) O dX8_word_87 rfl (fun q2 => ?_) (fun q2 => ?_)
    · replace H := H.1 q2
      refine g_iloadn (pc := 94) O rfl dX8_word_94 ?_
      refine g_ldc (pc := 95) O co_X8_153 dX8_word_95 ?_
      refine g_icmp_ne (tgt := 104) (pc := 97) O dX8_word_97 rfl (fun q3 => ?_) (fun q3 => ?_)
      · replace H := H.1 q3
        refine g_iloadn (pc := 104) O rfl dX8_word_104 ?_
        refine g_ldc (pc := 105) O co_X8_154 dX8_word_105 ?_
        refine g_icmp_ne (tgt := 115) (pc := 107) O dX8_word_107 rfl (fun q4 => ?_) (fun q4 => ?_)
        · replace H := H.1 q4
          refine g_iloadn (pc := 115) O rfl dX8_word_115 ?_
          refine g_ldc (pc := 116) O co_X8_155 dX8_word_116 ?_
          refine g_icmp_ne (tgt := 126) (pc := 118) O dX8_word_118 rfl (fun q5 => ?_) (fun q5 => ?_)
          · replace H := H.1 q5
            refine g_iloadn (pc := 126) O rfl dX8_word_126 ?_
            refine g_ldc (pc := 127) O co_X8_156 dX8_word_127 ?_
            refine g_icmp_ne (tgt := 137) (pc := 129) O dX8_word_129 rfl (fun q6 => ?_) (fun q6 => ?_)
            · replace H := H.1 q6
              refine g_aloadn (pc := 137) O rfl dX8_word_137 ?_
              refine g_getI (v := h.1 82 2) (pc := 138) O cls8 fl_X8_126 dX8_word_138 rfl (ltb rfl) (ltb rfl) rfl rfl ?_
              refine g_aloadn (pc := 141) O rfl dX8_word_141 ?_
              refine g_getI (v := h.1 82 3) (pc := 142) O cls8 fl_X8_133 dX8_word_142 rfl (ltb rfl) (ltb rfl) rfl rfl ?_
              refine g_isub (pc := 145) O dX8_word_145 ?_
              refine g_iconst (v := (I 1)) (pc := 146) O rfl dX8_word_146 ?_
              refine g_icmp_ne (tgt := 160) (pc := 147) O dX8_word_147 rfl (fun q7 => ?_) (fun q7 => ?_)
              · replace H := H.1 q7
                refine g_bipush (v := (I 9)) (pc := 160) O (by decide) dX8_word_160 ?_
                refine g_putI (pc := 162) O cls8 fl_X8_136 dX8_word_162 rfl (ltb rfl) (leb rfl) (ltb rfl) rfl rfl (by decide +kernel) ?_
                refine g_aloadn (pc := 165) O rfl dX8_word_165 ?_
                refine g_aloadn (pc := 166) O rfl dX8_word_166 ?_
                refine g_getI (v := (I 9)) (pc := 167) O cls8 fl_X8_136 dX8_word_167 rfl (ltb rfl) (ltb rfl) rfl rfl ?_
                refine g_iconst (v := (I 1)) (pc := 170) O rfl dX8_word_170 ?_
                refine g_icmp_ne (tgt := 180) (pc := 171) O dX8_word_171 rfl (fun q8 => ?_) (fun q8 => ?_)
                · replace H := H.1 q8
                  refine g_iconst (v := (I 0)) (pc := 180) O rfl dX8_word_180 ?_
                  refine g_putI (pc := 181) O cls8 fl_X8_149 dX8_word_181 rfl (ltb rfl) (leb rfl) (ltb rfl) rfl rfl (by decide +kernel) ?_
                  exact g_vret (pc := 184) O dX8_word_184 H
                · replace H := H.2 q8
                  refine g_iloadn (pc := 174) O rfl dX8_word_174 ?_
                  refine g_iconst (v := (I 1)) (pc := 175) O rfl dX8_word_175 ?_
                  refine g_isub (pc := 176) O dX8_word_176 ?_
                  refine g_goto (tgt := 181) (pc := 177) O dX8_word_177 rfl ?_
                  refine g_putI (pc := 181) O cls8 fl_X8_149 dX8_word_181 rfl (ltb rfl) (leb rfl) (ltb rfl) rfl rfl (by decide +kernel) ?_
                  exact g_vret (pc := 184) O dX8_word_184 H
              · replace H := H.2 q7
                refine g_iloadn (pc := 150) O rfl dX8_word_150 ?_
                refine g_bipush (v := (I 12)) (pc := 151) O (by decide) dX8_word_151 ?_
                refine g_icmp_gt (tgt := 160) (pc := 153) O dX8_word_153 rfl (fun q9 => ?_) (fun q9 => ?_)
                · replace H := H.1 q9
                  refine g_bipush (v := (I 9)) (pc := 160) O (by decide) dX8_word_160 ?_
                  refine g_putI (pc := 162) O cls8 fl_X8_136 dX8_word_162 rfl (ltb rfl) (leb rfl) (ltb rfl) rfl rfl (by decide +kernel) ?_
                  refine g_aloadn (pc := 165) O rfl dX8_word_165 ?_
                  refine g_aloadn (pc := 166) O rfl dX8_word_166 ?_
                  refine g_getI (v := (I 9)) (pc := 167) O cls8 fl_X8_136 dX8_word_167 rfl (ltb rfl) (ltb rfl) rfl rfl ?_
                  refine g_iconst (v := (I 1)) (pc := 170) O rfl dX8_word_170 ?_
                  refine g_icmp_ne (tgt := 180) (pc := 171) O dX8_word_171 rfl (fun q10 => ?_) (fun q10 => ?_)
                  · replace H := H.1 q10
                    refine g_iconst (v := (I 0)) (pc := 180) O rfl dX8_word_180 ?_
                    refine g_putI (pc := 181) O cls8 fl_X8_149 dX8_word_181 rfl (ltb rfl) (leb rfl) (ltb rfl) rfl rfl (by decide +kernel) ?_
                    exact g_vret (pc := 184) O dX8_word_184 H
                  · replace H := H.2 q10
                    refine g_iloadn (pc := 174) O rfl dX8_word_174 ?_
                    refine g_iconst (v := (I 1)) (pc := 175) O rfl dX8_word_175 ?_
                    refine g_isub (pc := 176) O dX8_word_176 ?_
                    refine g_goto (tgt := 181) (pc := 177) O dX8_word_177 rfl ?_
                    refine g_putI (pc := 181) O cls8 fl_X8_149 dX8_word_181 rfl (ltb rfl) (leb rfl) (ltb rfl) rfl rfl (by decide +kernel) ?_
                    exact g_vret (pc := 184) O dX8_word_184 H
                · replace H := H.2 q9
                  refine g_iconst (v := (I 1)) (pc := 156) O rfl dX8_word_156 ?_
                  refine g_goto (tgt := 162) (pc := 157) O dX8_word_157 rfl ?_
                  refine g_putI (pc := 162) O cls8 fl_X8_136 dX8_word_162 rfl (ltb rfl) (leb rfl) (ltb rfl) rfl rfl (by decide +kernel) ?_
                  refine g_aloadn (pc := 165) O rfl dX8_word_165 ?_
                  refine g_aloadn (pc := 166) O rfl dX8_word_166 ?_
                  refine g_getI (v := (I 1)) (pc := 167) O cls8 fl_X8_136 dX8_word_167 rfl (ltb rfl) (ltb rfl) rfl rfl ?_
                  refine g_iconst (v := (I 1)) (pc := 170) O rfl dX8_word_170 ?_
                  refine g_icmp_ne (tgt := 180) (pc := 171) O dX8_word_171 rfl (fun q11 => ?_) (fun q11 => ?_)
                  · replace H := H.1 q11
                    refine g_iconst (v := (I 0)) (pc := 180) O rfl dX8_word_180 ?_
                    refine g_putI (pc := 181) O cls8 fl_X8_149 dX8_word_181 rfl (ltb rfl) (leb rfl) (ltb rfl) rfl rfl (by decide +kernel) ?_
                    exact g_vret (pc := 184) O dX8_word_184 H
                  · replace H := H.2 q11
                    refine g_iloadn (pc := 174) O rfl dX8_word_174 ?_
                    refine g_iconst (v := (I 1)) (pc := 175) O rfl dX8_word_175 ?_
                    refine g_isub (pc := 176) O dX8_word_176 ?_
                    refine g_goto (tgt := 181) (pc := 177) O dX8_word_177 rfl ?_
                    refine g_putI (pc := 181) O cls8 fl_X8_149 dX8_word_181 rfl (ltb rfl) (leb rfl) (ltb rfl) rfl rfl (by decide +kernel) ?_
                    exact g_vret (pc := 184) O dX8_word_184 H
            · replace H := H.2 q6
              refine g_bipush (v := (I 8)) (pc := 132) O (by decide) dX8_word_132 ?_
              refine g_goto (tgt := 162) (pc := 134) O dX8_word_134 rfl ?_
              refine g_putI (pc := 162) O cls8 fl_X8_136 dX8_word_162 rfl (ltb rfl) (leb rfl) (ltb rfl) rfl rfl (by decide +kernel) ?_
              refine g_aloadn (pc := 165) O rfl dX8_word_165 ?_
              refine g_aloadn (pc := 166) O rfl dX8_word_166 ?_
              refine g_getI (v := (I 8)) (pc := 167) O cls8 fl_X8_136 dX8_word_167 rfl (ltb rfl) (ltb rfl) rfl rfl ?_
              refine g_iconst (v := (I 1)) (pc := 170) O rfl dX8_word_170 ?_
              refine g_icmp_ne (tgt := 180) (pc := 171) O dX8_word_171 rfl (fun q12 => ?_) (fun q12 => ?_)
              · replace H := H.1 q12
                refine g_iconst (v := (I 0)) (pc := 180) O rfl dX8_word_180 ?_
                refine g_putI (pc := 181) O cls8 fl_X8_149 dX8_word_181 rfl (ltb rfl) (leb rfl) (ltb rfl) rfl rfl (by decide +kernel) ?_
                exact g_vret (pc := 184) O dX8_word_184 H
              · replace H := H.2 q12
                refine g_iloadn (pc := 174) O rfl dX8_word_174 ?_
                refine g_iconst (v := (I 1)) (pc := 175) O rfl dX8_word_175 ?_
                refine g_isub (pc := 176) O dX8_word_176 ?_
                refine g_goto (tgt := 181) (pc := 177) O dX8_word_177 rfl ?_
                refine g_putI (pc := 181) O cls8 fl_X8_149 dX8_word_181 rfl (ltb rfl) (leb rfl) (ltb rfl) rfl rfl (by decide +kernel) ?_
                exact g_vret (pc := 184) O dX8_word_184 H
          · replace H := H.2 q5
            refine g_bipush (v := (I 7)) (pc := 121) O (by decide) dX8_word_121 ?_
            refine g_goto (tgt := 162) (pc := 123) O dX8_word_123 rfl ?_
            refine g_putI (pc := 162) O cls8 fl_X8_136 dX8_word_162 rfl (ltb rfl) (leb rfl) (ltb rfl) rfl rfl (by decide +kernel) ?_
            refine g_aloadn (pc := 165) O rfl dX8_word_165 ?_
            refine g_aloadn (pc := 166) O rfl dX8_word_166 ?_
            refine g_getI (v := (I 7)) (pc := 167) O cls8 fl_X8_136 dX8_word_167 rfl (ltb rfl) (ltb rfl) rfl rfl ?_
            refine g_iconst (v := (I 1)) (pc := 170) O rfl dX8_word_170 ?_
            refine g_icmp_ne (tgt := 180) (pc := 171) O dX8_word_171 rfl (fun q13 => ?_) (fun q13 => ?_)
            · replace H := H.1 q13
              refine g_iconst (v := (I 0)) (pc := 180) O rfl dX8_word_180 ?_
              refine g_putI (pc := 181) O cls8 fl_X8_149 dX8_word_181 rfl (ltb rfl) (leb rfl) (ltb rfl) rfl rfl (by decide +kernel) ?_
              exact g_vret (pc := 184) O dX8_word_184 H
            · replace H := H.2 q13
              refine g_iloadn (pc := 174) O rfl dX8_word_174 ?_
              refine g_iconst (v := (I 1)) (pc := 175) O rfl dX8_word_175 ?_
              refine g_isub (pc := 176) O dX8_word_176 ?_
              refine g_goto (tgt := 181) (pc := 177) O dX8_word_177 rfl ?_
              refine g_putI (pc := 181) O cls8 fl_X8_149 dX8_word_181 rfl (ltb rfl) (leb rfl) (ltb rfl) rfl rfl (by decide +kernel) ?_
              exact g_vret (pc := 184) O dX8_word_184 H
        · replace H := H.2 q4
          refine g_bipush (v := (I 6)) (pc := 110) O (by decide) dX8_word_110 ?_
          refine g_goto (tgt := 162) (pc := 112) O dX8_word_112 rfl ?_
          refine g_putI (pc := 162) O cls8 fl_X8_136 dX8_word_162 rfl (ltb rfl) (leb rfl) (ltb rfl) rfl rfl (by decide +kernel) ?_
          refine g_aloadn (pc := 165) O rfl dX8_word_165 ?_
          refine g_aloadn (pc := 166) O rfl dX8_word_166 ?_
          refine g_getI (v := (I 6)) (pc := 167) O cls8 fl_X8_136 dX8_word_167 rfl (ltb rfl) (ltb rfl) rfl rfl ?_
          refine g_iconst (v := (I 1)) (pc := 170) O rfl dX8_word_170 ?_
          refine g_icmp_ne (tgt := 180) (pc := 171) O dX8_word_171 rfl (fun q14 => ?_) (fun q14 => ?_)
          · replace H := H.1 q14
            refine g_iconst (v := (I 0)) (pc := 180) O rfl dX8_word_180 ?_
            refine g_putI (pc := 181) O cls8 fl_X8_149 dX8_word_181 rfl (ltb rfl) (leb rfl) (ltb rfl) rfl rfl (by decide +kernel) ?_
            exact g_vret (pc := 184) O dX8_word_184 H
          · replace H := H.2 q14
            refine g_iloadn (pc := 174) O rfl dX8_word_174 ?_
            refine g_iconst (v := (I 1)) (pc := 175) O rfl dX8_word_175 ?_
            refine g_isub (pc := 176) O dX8_word_176 ?_
            refine g_goto (tgt := 181) (pc := 177) O dX8_word_177 rfl ?_
            refine g_putI (pc := 181) O cls8 fl_X8_149 dX8_word_181 rfl (ltb rfl) (leb rfl) (ltb rfl) rfl rfl (by decide +kernel) ?_
            exact g_vret (pc := 184) O dX8_word_184 H
      · replace H := H.2 q3
        refine g_iconst (v := (I 5)) (pc := 100) O rfl dX8_word_100 ?_
        refine g_goto (tgt := 162) (pc := 101) O dX8_word_101 rfl ?_
        refine g_putI (pc := 162) O cls8 fl_X8_136 dX8_word_162 rfl (ltb rfl) (leb rfl) (ltb rfl) rfl rfl (by decide +kernel) ?_
        refine g_aloadn (pc := 165) O rfl dX8_word_165 ?_
        refine g_aloadn (pc := 166) O rfl dX8_word_166 ?_
        refine g_getI (v := (I 5)) (pc := 167) O cls8 fl_X8_136 dX8_word_167 rfl (ltb rfl) (ltb rfl) rfl rfl ?_
        refine g_iconst (v := (I 1)) (pc := 170) O rfl dX8_word_170 ?_
        refine g_icmp_ne (tgt := 180) (pc := 171) O dX8_word_171 rfl (fun q15 => ?_) (fun q15 => ?_)
        · replace H := H.1 q15
          refine g_iconst (v := (I 0)) (pc := 180) O rfl dX8_word_180 ?_
          refine g_putI (pc := 181) O cls8 fl_X8_149 dX8_word_181 rfl (ltb rfl) (leb rfl) (ltb rfl) rfl rfl (by decide +kernel) ?_
          exact g_vret (pc := 184) O dX8_word_184 H
        · replace H := H.2 q15
          refine g_iloadn (pc := 174) O rfl dX8_word_174 ?_
          refine g_iconst (v := (I 1)) (pc := 175) O rfl dX8_word_175 ?_
          refine g_isub (pc := 176) O dX8_word_176 ?_
          refine g_goto (tgt := 181) (pc := 177) O dX8_word_177 rfl ?_
          refine g_putI (pc := 181) O cls8 fl_X8_149 dX8_word_181 rfl (ltb rfl) (leb rfl) (ltb rfl) rfl rfl (by decide +kernel) ?_
          exact g_vret (pc := 184) O dX8_word_184 H
    · replace H := H.2 q2
      refine g_iconst (v := (I 4)) (pc := 90) O rfl dX8_word_90 ?_
      refine g_goto (tgt := 162) (pc := 91) O dX8_word_91 rfl ?_
      refine g_putI (pc := 162) O cls8 fl_X8_136 dX8_word_162 rfl (ltb rfl) (leb rfl) (ltb rfl) rfl rfl (by decide +kernel) ?_
      refine g_aloadn (pc := 165) O rfl dX8_word_165 ?_
      refine g_aloadn (pc := 166) O rfl dX8_word_166 ?_
      refine g_getI (v := (I 4)) (pc := 167) O cls8 fl_X8_136 dX8_word_167 rfl (ltb rfl) (ltb rfl) rfl rfl ?_
      refine g_iconst (v := (I 1)) (pc := 170) O rfl dX8_word_170 ?_
      refine g_icmp_ne (tgt := 180) (pc := 171) O dX8_word_171 rfl (fun q16 => ?_) (fun q16 => ?_)
      · replace H := H.1 q16
        refine g_iconst (v := (I 0)) (pc := 180) O rfl dX8_word_180 ?_
        refine g_putI (pc := 181) O cls8 fl_X8_149 dX8_word_181 rfl (ltb rfl) (leb rfl) (ltb rfl) rfl rfl (by decide +kernel) ?_
        exact g_vret (pc := 184) O dX8_word_184 H
      · replace H := H.2 q16
        refine g_iloadn (pc := 174) O rfl dX8_word_174 ?_
        refine g_iconst (v := (I 1)) (pc := 175) O rfl dX8_word_175 ?_
        refine g_isub (pc := 176) O dX8_word_176 ?_
        refine g_goto (tgt := 181) (pc := 177) O dX8_word_177 rfl ?_
        refine g_putI (pc := 181) O cls8 fl_X8_149 dX8_word_181 rfl (ltb rfl) (leb rfl) (ltb rfl) rfl rfl (by decide +kernel) ?_
        exact g_vret (pc := 184) O dX8_word_184 H
  · replace H := H.2 q1
    refine g_bipush (v := (I 9)) (pc := 79) O (by decide) dX8_word_79 ?_
    refine g_goto (tgt := 162) (pc := 81) O dX8_word_81 rfl ?_
    refine g_putI (pc := 162) O cls8 fl_X8_136 dX8_word_162 rfl (ltb rfl) (leb rfl) (ltb rfl) rfl rfl (by decide +kernel) ?_
    refine g_aloadn (pc := 165) O rfl dX8_word_165 ?_
    refine g_aloadn (pc := 166) O rfl dX8_word_166 ?_
    refine g_getI (v := (I 9)) (pc := 167) O cls8 fl_X8_136 dX8_word_167 rfl (ltb rfl) (ltb rfl) rfl rfl ?_
    refine g_iconst (v := (I 1)) (pc := 170) O rfl dX8_word_170 ?_
    refine g_icmp_ne (tgt := 180) (pc := 171) O dX8_word_171 rfl (fun q17 => ?_) (fun q17 => ?_)
    · replace H := H.1 q17
      refine g_iconst (v := (I 0)) (pc := 180) O rfl dX8_word_180 ?_
      refine g_putI (pc := 181) O cls8 fl_X8_149 dX8_word_181 rfl (ltb rfl) (leb rfl) (ltb rfl) rfl rfl (by decide +kernel) ?_
      exact g_vret (pc := 184) O dX8_word_184 H
    · replace H := H.2 q17
      refine g_iloadn (pc := 174) O rfl dX8_word_174 ?_
      refine g_iconst (v := (I 1)) (pc := 175) O rfl dX8_word_175 ?_
      refine g_isub (pc := 176) O dX8_word_176 ?_
      refine g_goto (tgt := 181) (pc := 177) O dX8_word_177 rfl ?_
      refine g_putI (pc := 181) O cls8 fl_X8_149 dX8_word_181 rfl (ltb rfl) (leb rfl) (ltb rfl) rfl rfl (by decide +kernel) ?_
      exact g_vret (pc := 184) O dX8_word_184 H
set_option maxRecDepth 20000 in
set_option maxHeartbeats 2000000 in
theorem sX8_word {g : mg} {l : Launch} {Q : AH → Prop}  {h : AH} (H : ∀ X, Ok (FF g l X) RX8 cX8_word 3 mX8_word.2.2.2.2 none → GV g l X Q h 2 [(0, .ref 82), (1, .int (I 0))] []) : SpV g l mX8_word h [.ref 82] Q := spV_of (by decide) (leb rfl) (fun X O => bX8_word_0 O (H X O))
set_option maxRecDepth 20000 in
set_option maxHeartbeats 2000000 in
theorem bX8_isNumber_0 {g : mg} {l : Launch} {X : XT} {Q : Int32 → AH → Prop} (O : Ok (FF g l X) RX8 cX8_isNumber 3 mX8_isNumber.2.2.2.2 (some .boolean)) {x1 : Int32} {x2 : Int32} {h : AH} (H : ((¬ (h.1 82 4) = (I 2)) → (Q (I 0) h)) ∧ (((h.1 82 4) = (I 2)) → (SpI g l mX8_in h [.int (h.1 82 5), .int x1, .int x2] (fun v2 hv2 => ((v2 = 0) → (Q (I 0) hv2)) ∧ ((¬ (v2 = 0)) → (Q (I 1) hv2)))))) : GI g l X Q h 0 [(0, .ref 82), (1, .int x1), (2, .int x2)] [] := by
  refine g_aloadn (pc := 0) O rfl dX8_isNumber_0 ?_
  refine g_getI (v := h.1 82 4) (pc := 1) O cls8 fl_X8_136 dX8_isNumber_1 rfl (ltb rfl) (ltb rfl) rfl rfl ?_
  refine g_iconst (v := (I 2)) (pc := 4) O rfl dX8_isNumber_4 ?_
  refine g_icmp_ne (tgt := 24) (pc := 5) O dX8_isNumber_5 rfl (fun q1 => ?_) (fun q1 => ?_)
  · replace H := H.1 q1
    refine g_iconst (v := (I 0)) (pc := 24) O rfl dX8_isNumber_24 ?_
    exact g_zret (pc := 25) O dX8_isNumber_25 (by decide) H
  · replace H := H.2 q1
    refine g_aloadn (pc := 8) O rfl dX8_isNumber_8 ?_
    refine g_getI (v := h.1 82 5) (pc := 9) O cls8 fl_X8_149 dX8_isNumber_9 rfl (ltb rfl) (ltb rfl) rfl rfl ?_
    refine g_iloadn (pc := 12) O rfl dX8_isNumber_12 ?_
    refine g_iloadn (pc := 13) O rfl dX8_isNumber_13 ?_
    refine g_sI [.int (h.1 82 5), .int x1, .int x2] [] (pc := 14) O mk_X8_in ml_X8_116 sm_X8_in ⟨rfl, rfl, leb rfl, leb rfl⟩ rfl (leb rfl) dX8_isNumber_14 H rfl (fun v2 hv2 H => ?_)
    refine g_if_eq (tgt := 24) (pc := 17) O dX8_isNumber_17 rfl (fun q3 => ?_) (fun q3 => ?_)
    · replace H := H.1 q3
      refine g_iconst (v := (I 0)) (pc := 24) O rfl dX8_isNumber_24 ?_
      exact g_zret (pc := 25) O dX8_isNumber_25 (by decide) H
    · replace H := H.2 q3
      refine g_iconst (v := (I 1)) (pc := 20) O rfl dX8_isNumber_20 ?_
      refine g_goto (tgt := 25) (pc := 21) O dX8_isNumber_21 rfl ?_
      exact g_zret (pc := 25) O dX8_isNumber_25 (by decide) H
set_option maxRecDepth 20000 in
set_option maxHeartbeats 2000000 in
theorem sX8_isNumber {g : mg} {l : Launch} {Q : Int32 → AH → Prop} {x1 : Int32} {x2 : Int32} {h : AH} (H : ((¬ (h.1 82 4) = (I 2)) → (Q (I 0) h)) ∧ (((h.1 82 4) = (I 2)) → (SpI g l mX8_in h [.int (h.1 82 5), .int x1, .int x2] (fun v2 hv2 => ((v2 = 0) → (Q (I 0) hv2)) ∧ ((¬ (v2 = 0)) → (Q (I 1) hv2)))))) : SpI g l mX8_isNumber h [.ref 82, .int x1, .int x2] Q := spI_of (by decide) (leb rfl) (fun X O => bX8_isNumber_0 O H)
set_option maxRecDepth 20000 in
set_option maxHeartbeats 2000000 in
theorem bX8_isChip_0 {g : mg} {l : Launch} {X : XT} {Q : Int32 → AH → Prop} (O : Ok (FF g l X) RX8 cX8_isChip 1 mX8_isChip.2.2.2.2 (some .boolean))  {h : AH} (H : SpV g l mX8_read (sI h 82 2 (I 0)) [.ref 82] (fun hv1 => (((hv1.1 82 4) = (I 4)) → (SpV g l mX8_read hv1 [.ref 82] (fun hv3 => SpI g l mX8_isNumber hv3 [.ref 82, .int (I 0), .int (I 5)] (fun v4 hv4 => ((¬ v4 = 0) → (SpV g l mX8_read (sI hv4 82 46 (hv4.1 82 5)) [.ref 82] (fun hv6 => ((¬ (hv6.1 82 4) = (I 5)) → (((¬ (hv6.1 82 4) = (I 5)) → (GI g l X Q (sI (sI hv6 82 47 (I 0)) 82 48 (I 0)) 80 [(0, .ref 82)] [])) ∧ (((hv6.1 82 4) = (I 5)) → (SpV g l mX8_read (sI hv6 82 47 (I 0)) [.ref 82] (fun hv9 => GI g l X Q (sI hv9 82 48 (I 0)) 80 [(0, .ref 82)] []))))) ∧ (((hv6.1 82 4) = (I 5)) → (((¬ (hv6.1 82 4) = (I 5)) → (GI g l X Q (sI (sI hv6 82 47 (I 1)) 82 48 (I 0)) 80 [(0, .ref 82)] [])) ∧ (((hv6.1 82 4) = (I 5)) → (SpV g l mX8_read (sI hv6 82 47 (I 1)) [.ref 82] (fun hv11 => GI g l X Q (sI hv11 82 48 (I 0)) 80 [(0, .ref 82)] [])))))))) ∧ ((v4 = 0) → (Q (I 0) hv4)))))) ∧ ((¬ ((hv1.1 82 4) = (I 4))) → (Q (I 0) hv1)))) : GI g l X Q h 0 [(0, .ref 82)] [] := by
  refine g_aloadn (pc := 0) O rfl dX8_isChip_0 ?_
  refine g_iconst (v := (I 0)) (pc := 1) O rfl dX8_isChip_1 ?_
  refine g_putI (pc := 2) O cls8 fl_X8_126 dX8_isChip_2 rfl (ltb rfl) (leb rfl) (ltb rfl) rfl rfl (by decide +kernel) ?_
  refine g_aloadn (pc := 5) O rfl dX8_isChip_5 ?_
  refine g_vV [] [] (pc := 6) O mk_X8_read ml_X8_157 im_X8_read se_X8_read cls8 rfl ⟨rfl, rfl, leb rfl, leb rfl⟩ rfl (leb rfl) dX8_isChip_6 H rfl (fun hv1 H => ?_)
  refine g_aloadn (pc := 9) O rfl dX8_isChip_9 ?_
  refine g_getI (v := hv1.1 82 4) (pc := 10) O cls8 fl_X8_136 dX8_isChip_10 rfl (ltb rfl) (ltb rfl) rfl rfl ?_
  refine g_iconst (v := (I 4)) (pc := 13) O rfl dX8_isChip_13 ?_
  refine g_icmp_eq (tgt := 19) (pc := 14) O dX8_isChip_14 rfl (fun q2 => ?_) (fun q2 => ?_)
  · replace H := H.1 q2
    refine g_aloadn (pc := 19) O rfl dX8_isChip_19 ?_
    refine g_vV [] [] (pc := 20) O mk_X8_read ml_X8_157 im_X8_read se_X8_read cls8 rfl ⟨rfl, rfl, leb rfl, leb rfl⟩ rfl (leb rfl) dX8_isChip_20 H rfl (fun hv3 H => ?_)
    refine g_aloadn (pc := 23) O rfl dX8_isChip_23 ?_
    refine g_iconst (v := (I 0)) (pc := 24) O rfl dX8_isChip_24 ?_
    refine g_iconst (v := (I 5)) (pc := 25) O rfl dX8_isChip_25 ?_
    refine g_vI [.int (I 0), .int (I 5)] [] (pc := 26) O mk_X8_isNumber ml_X8_160 im_X8_isNumber se_X8_isNumber cls8 rfl ⟨rfl, rfl, leb rfl, leb rfl⟩ rfl (leb rfl) dX8_isChip_26 H rfl (fun v4 hv4 H => ?_)
    refine g_if_ne (tgt := 34) (pc := 29) O dX8_isChip_29 rfl (fun q5 => ?_) (fun q5 => ?_)
    · replace H := H.1 q5
      refine g_aloadn (pc := 34) O rfl dX8_isChip_34 ?_
      refine g_aloadn (pc := 35) O rfl dX8_isChip_35 ?_
      refine g_getI (v := hv4.1 82 5) (pc := 36) O cls8 fl_X8_149 dX8_isChip_36 rfl (ltb rfl) (ltb rfl) rfl rfl ?_
      refine g_putI (pc := 39) O cls8 fl_X8_164 dX8_isChip_39 rfl (ltb rfl) (leb rfl) (ltb rfl) rfl rfl (by decide +kernel) ?_
      refine g_aloadn (pc := 42) O rfl dX8_isChip_42 ?_
      refine g_vV [] [] (pc := 43) O mk_X8_read ml_X8_157 im_X8_read se_X8_read cls8 rfl ⟨rfl, rfl, leb rfl, leb rfl⟩ rfl (leb rfl) dX8_isChip_43 H rfl (fun hv6 H => ?_)
      refine g_aloadn (pc := 46) O rfl dX8_isChip_46 ?_
      refine g_aloadn (pc := 47) O rfl dX8_isChip_47 ?_
      refine g_getI (v := hv6.1 82 4) (pc := 48) O cls8 fl_X8_136 dX8_isChip_48 rfl (ltb rfl) (ltb rfl) rfl rfl ?_
      refine g_iconst (v := (I 5)) (pc := 51) O rfl dX8_isChip_51 ?_
      refine g_icmp_ne (tgt := 59) (pc := 52) O dX8_isChip_52 rfl (fun q7 => ?_) (fun q7 => ?_)
      · replace H := H.1 q7
        refine g_iconst (v := (I 0)) (pc := 59) O rfl dX8_isChip_59 ?_
        refine g_putI (pc := 60) O cls8 fl_X8_167 dX8_isChip_60 rfl (ltb rfl) (leb rfl) (ltb rfl) rfl rfl (by decide +kernel) ?_
        refine g_aloadn (pc := 63) O rfl dX8_isChip_63 ?_
        refine g_getI (v := hv6.1 82 4) (pc := 64) O cls8 fl_X8_136 dX8_isChip_64 rfl (ltb rfl) (ltb rfl) rfl rfl ?_
        refine g_iconst (v := (I 5)) (pc := 67) O rfl dX8_isChip_67 ?_
        refine g_icmp_ne (tgt := 75) (pc := 68) O dX8_isChip_68 rfl (fun q8 => ?_) (fun q8 => ?_)
        · replace H := H.1 q8
          refine g_aloadn (pc := 75) O rfl dX8_isChip_75 ?_
          refine g_iconst (v := (I 0)) (pc := 76) O rfl dX8_isChip_76 ?_
          refine g_putI (pc := 77) O cls8 fl_X8_170 dX8_isChip_77 rfl (ltb rfl) (leb rfl) (ltb rfl) rfl rfl (by decide +kernel) ?_
          exact H
        · replace H := H.2 q8
          refine g_aloadn (pc := 71) O rfl dX8_isChip_71 ?_
          refine g_vV [] [] (pc := 72) O mk_X8_read ml_X8_157 im_X8_read se_X8_read cls8 rfl ⟨rfl, rfl, leb rfl, leb rfl⟩ rfl (leb rfl) dX8_isChip_72 H rfl (fun hv9 H => ?_)
          refine g_aloadn (pc := 75) O rfl dX8_isChip_75 ?_
          refine g_iconst (v := (I 0)) (pc := 76) O rfl dX8_isChip_76 ?_
          refine g_putI (pc := 77) O cls8 fl_X8_170 dX8_isChip_77 rfl (ltb rfl) (leb rfl) (ltb rfl) rfl rfl (by decide +kernel) ?_
          exact H
      · replace H := H.2 q7
        refine g_iconst (v := (I 1)) (pc := 55) O rfl dX8_isChip_55 ?_
        refine g_goto (tgt := 60) (pc := 56) O dX8_isChip_56 rfl ?_
        refine g_putI (pc := 60) O cls8 fl_X8_167 dX8_isChip_60 rfl (ltb rfl) (leb rfl) (ltb rfl) rfl rfl (by decide +kernel) ?_
        refine g_aloadn (pc := 63) O rfl dX8_isChip_63 ?_
        refine g_getI (v := hv6.1 82 4) (pc := 64) O cls8 fl_X8_136 dX8_isChip_64 rfl (ltb rfl) (ltb rfl) rfl rfl ?_
        refine g_iconst (v := (I 5)) (pc := 67) O rfl dX8_isChip_67 ?_
        refine g_icmp_ne (tgt := 75) (pc := 68) O dX8_isChip_68 rfl (fun q10 => ?_) (fun q10 => ?_)
        · replace H := H.1 q10
          refine g_aloadn (pc := 75) O rfl dX8_isChip_75 ?_
          refine g_iconst (v := (I 0)) (pc := 76) O rfl dX8_isChip_76 ?_
          refine g_putI (pc := 77) O cls8 fl_X8_170 dX8_isChip_77 rfl (ltb rfl) (leb rfl) (ltb rfl) rfl rfl (by decide +kernel) ?_
          exact H
        · replace H := H.2 q10
          refine g_aloadn (pc := 71) O rfl dX8_isChip_71 ?_
          refine g_vV [] [] (pc := 72) O mk_X8_read ml_X8_157 im_X8_read se_X8_read cls8 rfl ⟨rfl, rfl, leb rfl, leb rfl⟩ rfl (leb rfl) dX8_isChip_72 H rfl (fun hv11 H => ?_)
          refine g_aloadn (pc := 75) O rfl dX8_isChip_75 ?_
          refine g_iconst (v := (I 0)) (pc := 76) O rfl dX8_isChip_76 ?_
          refine g_putI (pc := 77) O cls8 fl_X8_170 dX8_isChip_77 rfl (ltb rfl) (leb rfl) (ltb rfl) rfl rfl (by decide +kernel) ?_
          exact H
    · replace H := H.2 q5
      refine g_iconst (v := (I 0)) (pc := 32) O rfl dX8_isChip_32 ?_
      exact g_zret (pc := 33) O dX8_isChip_33 (by decide) H
  · replace H := H.2 q2
    refine g_iconst (v := (I 0)) (pc := 17) O rfl dX8_isChip_17 ?_
    exact g_zret (pc := 18) O dX8_isChip_18 (by decide) H
set_option maxRecDepth 20000 in
set_option maxHeartbeats 2000000 in
theorem bX8_isChip_80 {g : mg} {l : Launch} {X : XT} {Q : Int32 → AH → Prop} (O : Ok (FF g l X) RX8 cX8_isChip 1 mX8_isChip.2.2.2.2 (some .boolean))  {h : AH} (H : ((¬ (h.1 82 4) = (I 1)) → (GI g l X Q h 156 [(0, .ref 82)] [])) ∧ (((h.1 82 4) = (I 1)) → ((((I 10) ≤ (h.1 82 48)) → (GI g l X Q h 156 [(0, .ref 82)] [])) ∧ ((¬ ((I 10) ≤ (h.1 82 48))) → (∃ j3 : Nat, (h.1 82 48) = I (j3 : Int) ∧ j3 < 10 ∧ (SpV g l mX8_read (sI h 89 j3 (h.1 82 5)) [.ref 82] (fun hv4 => SpI g l mX8_isNumber hv4 [.ref 82, .int (I 0), .int (I 9)] (fun v5 hv5 => ((¬ v5 = 0) → (∃ j7 : Nat, (hv5.1 82 48) = I (j7 : Int) ∧ j7 < 10 ∧ (SpV g l mX8_read (sI (sI hv5 90 j7 (hv5.1 82 5)) 82 48 ((hv5.1 82 48) + (I 1))) [.ref 82] (fun hv8 => GI g l X Q hv8 80 [(0, .ref 82)] [])))) ∧ ((v5 = 0) → (Q (I 0) hv5)))))))))) : GI g l X Q h 80 [(0, .ref 82)] [] := by
  refine g_aloadn (pc := 80) O rfl dX8_isChip_80 ?_
  refine g_getI (v := h.1 82 4) (pc := 81) O cls8 fl_X8_136 dX8_isChip_81 rfl (ltb rfl) (ltb rfl) rfl rfl ?_
  refine g_iconst (v := (I 1)) (pc := 84) O rfl dX8_isChip_84 ?_
  refine g_icmp_ne (tgt := 156) (pc := 85) O dX8_isChip_85 rfl (fun q1 => ?_) (fun q1 => ?_)
  · replace H := H.1 q1
    exact H
  · replace H := H.2 q1
    refine g_aloadn (pc := 88) O rfl dX8_isChip_88 ?_
    refine g_getI (v := h.1 82 48) (pc := 89) O cls8 fl_X8_170 dX8_isChip_89 rfl (ltb rfl) (ltb rfl) rfl rfl ?_
    refine g_bipush (v := (I 10)) (pc := 92) O (by decide) dX8_isChip_92 ?_
    refine g_icmp_ge (tgt := 156) (pc := 94) O dX8_isChip_94 rfl (fun q2 => ?_) (fun q2 => ?_)
    · replace H := H.1 q2
      exact H
    · replace H := H.2 q2
      refine g_aloadn (pc := 97) O rfl dX8_isChip_97 ?_
      refine g_getS (pc := 98) O cls8 fl_X8_28 dX8_isChip_98 rfl (ltb rfl) (ltb rfl) rfl rfl ?_
      refine g_aloadn (pc := 101) O rfl dX8_isChip_101 ?_
      refine g_getI (v := h.1 82 48) (pc := 102) O cls8 fl_X8_170 dX8_isChip_102 rfl (ltb rfl) (ltb rfl) rfl rfl ?_
      refine g_aloadn (pc := 105) O rfl dX8_isChip_105 ?_
      refine g_getI (v := h.1 82 5) (pc := 106) O cls8 fl_X8_149 dX8_isChip_106 rfl (ltb rfl) (ltb rfl) rfl rfl ?_
      obtain ⟨j3, ej3, bj3, H⟩ := H
      refine g_iast (j := j3) (pc := 109) O dX8_isChip_109 ej3 rfl (ltb rfl) (leb rfl) bj3 (ltb rfl) ?_
      refine g_aloadn (pc := 110) O rfl dX8_isChip_110 ?_
      refine g_vV [] [] (pc := 111) O mk_X8_read ml_X8_157 im_X8_read se_X8_read cls8 rfl ⟨rfl, rfl, leb rfl, leb rfl⟩ rfl (leb rfl) dX8_isChip_111 H rfl (fun hv4 H => ?_)
      refine g_aloadn (pc := 114) O rfl dX8_isChip_114 ?_
      refine g_iconst (v := (I 0)) (pc := 115) O rfl dX8_isChip_115 ?_
      refine g_bipush (v := (I 9)) (pc := 116) O (by decide) dX8_isChip_116 ?_
      refine g_vI [.int (I 0), .int (I 9)] [] (pc := 118) O mk_X8_isNumber ml_X8_160 im_X8_isNumber se_X8_isNumber cls8 rfl ⟨rfl, rfl, leb rfl, leb rfl⟩ rfl (leb rfl) dX8_isChip_118 H rfl (fun v5 hv5 H => ?_)
      refine g_if_ne (tgt := 126) (pc := 121) O dX8_isChip_121 rfl (fun q6 => ?_) (fun q6 => ?_)
      · replace H := H.1 q6
        refine g_aloadn (pc := 126) O rfl dX8_isChip_126 ?_
        refine g_getS (pc := 127) O cls8 fl_X8_31 dX8_isChip_127 rfl (ltb rfl) (ltb rfl) rfl rfl ?_
        refine g_aloadn (pc := 130) O rfl dX8_isChip_130 ?_
        refine g_getI (v := hv5.1 82 48) (pc := 131) O cls8 fl_X8_170 dX8_isChip_131 rfl (ltb rfl) (ltb rfl) rfl rfl ?_
        refine g_aloadn (pc := 134) O rfl dX8_isChip_134 ?_
        refine g_getI (v := hv5.1 82 5) (pc := 135) O cls8 fl_X8_149 dX8_isChip_135 rfl (ltb rfl) (ltb rfl) rfl rfl ?_
        obtain ⟨j7, ej7, bj7, H⟩ := H
        refine g_iast (j := j7) (pc := 138) O dX8_isChip_138 ej7 rfl (ltb rfl) (leb rfl) bj7 (ltb rfl) ?_
        refine g_aloadn (pc := 139) O rfl dX8_isChip_139 ?_
        refine g_dup (pc := 140) O rfl dX8_isChip_140 ?_
        refine g_getI (v := hv5.1 82 48) (pc := 141) O cls8 fl_X8_170 dX8_isChip_141 rfl (ltb rfl) (ltb rfl) rfl rfl ?_
        refine g_iconst (v := (I 1)) (pc := 144) O rfl dX8_isChip_144 ?_
        refine g_iadd (pc := 145) O dX8_isChip_145 ?_
        refine g_putI (pc := 146) O cls8 fl_X8_170 dX8_isChip_146 rfl (ltb rfl) (leb rfl) (ltb rfl) rfl rfl (by decide +kernel) ?_
        refine g_aloadn (pc := 149) O rfl dX8_isChip_149 ?_
        refine g_vV [] [] (pc := 150) O mk_X8_read ml_X8_157 im_X8_read se_X8_read cls8 rfl ⟨rfl, rfl, leb rfl, leb rfl⟩ rfl (leb rfl) dX8_isChip_150 H rfl (fun hv8 H => ?_)
        refine g_goto (tgt := 80) (pc := 153) O dX8_isChip_153 rfl ?_
        exact H
      · replace H := H.2 q6
        refine g_iconst (v := (I 0)) (pc := 124) O rfl dX8_isChip_124 ?_
        exact g_zret (pc := 125) O dX8_isChip_125 (by decide) H
set_option maxRecDepth 20000 in
set_option maxHeartbeats 2000000 in
theorem bX8_isChip_156 {g : mg} {l : Launch} {X : XT} {Q : Int32 → AH → Prop} (O : Ok (FF g l X) RX8 cX8_isChip 1 mX8_isChip.2.2.2.2 (some .boolean))  {h : AH} (H : ((¬ (h.1 82 4) = (I 3)) → (Q (I 0) h)) ∧ (((h.1 82 4) = (I 3)) → (((¬ (h.1 82 48) = 0) → (SpV g l mX8_read h [.ref 82] (fun hv3 => ((¬ (hv3.1 82 4) = 0) → (Q (I 0) hv3)) ∧ (((hv3.1 82 4) = 0) → (Q (I 1) hv3))))) ∧ (((h.1 82 48) = 0) → (Q (I 0) h))))) : GI g l X Q h 156 [(0, .ref 82)] [] := by
  refine g_aloadn (pc := 156) O rfl dX8_isChip_156 ?_
  refine g_getI (v := h.1 82 4) (pc := 157) O cls8 fl_X8_136 dX8_isChip_157 rfl (ltb rfl) (ltb rfl) rfl rfl ?_
  refine g_iconst (v := (I 3)) (pc := 160) O rfl dX8_isChip_160 ?_
  refine g_icmp_ne (tgt := 171) (pc := 161) O dX8_isChip_161 rfl (fun q1 => ?_) (fun q1 => ?_)
  · replace H := H.1 q1
    refine g_iconst (v := (I 0)) (pc := 171) O rfl dX8_isChip_171 ?_
    exact g_zret (pc := 172) O dX8_isChip_172 (by decide) H
  · replace H := H.2 q1
    refine g_aloadn (pc := 164) O rfl dX8_isChip_164 ?_
    refine g_getI (v := h.1 82 48) (pc := 165) O cls8 fl_X8_170 dX8_isChip_165 rfl (ltb rfl) (ltb rfl) rfl rfl ?_
    refine g_if_ne (tgt := 173) (pc := 168) O dX8_isChip_168 rfl (fun q2 => ?_) (fun q2 => ?_)
    · replace H := H.1 q2
      refine g_aloadn (pc := 173) O rfl dX8_isChip_173 ?_
      refine g_vV [] [] (pc := 174) O mk_X8_read ml_X8_157 im_X8_read se_X8_read cls8 rfl ⟨rfl, rfl, leb rfl, leb rfl⟩ rfl (leb rfl) dX8_isChip_174 H rfl (fun hv3 H => ?_)
      refine g_aloadn (pc := 177) O rfl dX8_isChip_177 ?_
      refine g_getI (v := hv3.1 82 4) (pc := 178) O cls8 fl_X8_136 dX8_isChip_178 rfl (ltb rfl) (ltb rfl) rfl rfl ?_
      refine g_if_ne (tgt := 188) (pc := 181) O dX8_isChip_181 rfl (fun q4 => ?_) (fun q4 => ?_)
      · replace H := H.1 q4
        refine g_iconst (v := (I 0)) (pc := 188) O rfl dX8_isChip_188 ?_
        exact g_zret (pc := 189) O dX8_isChip_189 (by decide) H
      · replace H := H.2 q4
        refine g_iconst (v := (I 1)) (pc := 184) O rfl dX8_isChip_184 ?_
        refine g_goto (tgt := 189) (pc := 185) O dX8_isChip_185 rfl ?_
        exact g_zret (pc := 189) O dX8_isChip_189 (by decide) H
    · replace H := H.2 q2
      refine g_iconst (v := (I 0)) (pc := 171) O rfl dX8_isChip_171 ?_
      exact g_zret (pc := 172) O dX8_isChip_172 (by decide) H
set_option maxRecDepth 20000 in
set_option maxHeartbeats 2000000 in
theorem sX8_isChip {g : mg} {l : Launch} {Q : Int32 → AH → Prop}  {h : AH} (H : ∀ X, Ok (FF g l X) RX8 cX8_isChip 1 mX8_isChip.2.2.2.2 (some .boolean) → SpV g l mX8_read (sI h 82 2 (I 0)) [.ref 82] (fun hv1 => (((hv1.1 82 4) = (I 4)) → (SpV g l mX8_read hv1 [.ref 82] (fun hv3 => SpI g l mX8_isNumber hv3 [.ref 82, .int (I 0), .int (I 5)] (fun v4 hv4 => ((¬ v4 = 0) → (SpV g l mX8_read (sI hv4 82 46 (hv4.1 82 5)) [.ref 82] (fun hv6 => ((¬ (hv6.1 82 4) = (I 5)) → (((¬ (hv6.1 82 4) = (I 5)) → (GI g l X Q (sI (sI hv6 82 47 (I 0)) 82 48 (I 0)) 80 [(0, .ref 82)] [])) ∧ (((hv6.1 82 4) = (I 5)) → (SpV g l mX8_read (sI hv6 82 47 (I 0)) [.ref 82] (fun hv9 => GI g l X Q (sI hv9 82 48 (I 0)) 80 [(0, .ref 82)] []))))) ∧ (((hv6.1 82 4) = (I 5)) → (((¬ (hv6.1 82 4) = (I 5)) → (GI g l X Q (sI (sI hv6 82 47 (I 1)) 82 48 (I 0)) 80 [(0, .ref 82)] [])) ∧ (((hv6.1 82 4) = (I 5)) → (SpV g l mX8_read (sI hv6 82 47 (I 1)) [.ref 82] (fun hv11 => GI g l X Q (sI hv11 82 48 (I 0)) 80 [(0, .ref 82)] [])))))))) ∧ ((v4 = 0) → (Q (I 0) hv4)))))) ∧ ((¬ ((hv1.1 82 4) = (I 4))) → (Q (I 0) hv1)))) : SpI g l mX8_isChip h [.ref 82] Q := spI_of (by decide) (leb rfl) (fun X O => bX8_isChip_0 O (H X O))
set_option maxRecDepth 20000 in
set_option maxHeartbeats 2000000 in
theorem bX8_chip_0 {g : mg} {l : Launch} {X : XT} {Q : Int32 → AH → Prop} (O : Ok (FF g l X) RX8 cX8_chip 2 mX8_chip.2.2.2.2 (some .int))  {h : AH} (H : ((¬ (h.1 82 6) = (I 4)) → (SpI g l mX8_isChip h [.ref 82] (fun v2 hv2 => ((¬ v2 = 0) → (∃ j4 : Nat, (hv2.1 82 6) = I (j4 : Int) ∧ j4 < 4 ∧ (∃ j5 : Nat, (hv2.1 82 6) = I (j5 : Int) ∧ j5 < 4 ∧ (∃ j6 : Nat, (hv2.1 82 6) = I (j6 : Int) ∧ j6 < 4 ∧ (GI g l X Q (sI (sI (sI hv2 84 j4 (hv2.1 82 46)) 85 j5 (hv2.1 82 47)) 86 j6 (hv2.1 82 48)) 67 [(0, .ref 82), (1, .int (I 0))] []))))) ∧ ((v2 = 0) → (Q ((I (-10)) - (hv2.1 82 3)) hv2))))) ∧ (((h.1 82 6) = (I 4)) → (Q (I (-3)) h))) : GI g l X Q h 0 [(0, .ref 82)] [] := by
  refine g_aloadn (pc := 0) O rfl dX8_chip_0 ?_
  refine g_getI (v := h.1 82 6) (pc := 1) O cls8 fl_X8_173 dX8_chip_1 rfl (ltb rfl) (ltb rfl) rfl rfl ?_
  refine g_iconst (v := (I 4)) (pc := 4) O rfl dX8_chip_4 ?_
  refine g_icmp_ne (tgt := 11) (pc := 5) O dX8_chip_5 rfl (fun q1 => ?_) (fun q1 => ?_)
  · replace H := H.1 q1
    refine g_aloadn (pc := 11) O rfl dX8_chip_11 ?_
    refine g_vI [] [] (pc := 12) O mk_X8_isChip ml_X8_176 im_X8_isChip se_X8_isChip cls8 rfl ⟨rfl, rfl, leb rfl, leb rfl⟩ rfl (leb rfl) dX8_chip_12 H rfl (fun v2 hv2 H => ?_)
    refine g_if_ne (tgt := 26) (pc := 15) O dX8_chip_15 rfl (fun q3 => ?_) (fun q3 => ?_)
    · replace H := H.1 q3
      refine g_aloadn (pc := 26) O rfl dX8_chip_26 ?_
      refine g_getS (pc := 27) O cls8 fl_X8_13 dX8_chip_27 rfl (ltb rfl) (ltb rfl) rfl rfl ?_
      refine g_aloadn (pc := 30) O rfl dX8_chip_30 ?_
      refine g_getI (v := hv2.1 82 6) (pc := 31) O cls8 fl_X8_173 dX8_chip_31 rfl (ltb rfl) (ltb rfl) rfl rfl ?_
      refine g_aloadn (pc := 34) O rfl dX8_chip_34 ?_
      refine g_getI (v := hv2.1 82 46) (pc := 35) O cls8 fl_X8_164 dX8_chip_35 rfl (ltb rfl) (ltb rfl) rfl rfl ?_
      obtain ⟨j4, ej4, bj4, H⟩ := H
      refine g_iast (j := j4) (pc := 38) O dX8_chip_38 ej4 rfl (ltb rfl) (leb rfl) bj4 (ltb rfl) ?_
      refine g_aloadn (pc := 39) O rfl dX8_chip_39 ?_
      refine g_getS (pc := 40) O cls8 fl_X8_16 dX8_chip_40 rfl (ltb rfl) (ltb rfl) rfl rfl ?_
      refine g_aloadn (pc := 43) O rfl dX8_chip_43 ?_
      refine g_getI (v := hv2.1 82 6) (pc := 44) O cls8 fl_X8_173 dX8_chip_44 rfl (ltb rfl) (ltb rfl) rfl rfl ?_
      refine g_aloadn (pc := 47) O rfl dX8_chip_47 ?_
      refine g_getI (v := hv2.1 82 47) (pc := 48) O cls8 fl_X8_167 dX8_chip_48 rfl (ltb rfl) (ltb rfl) rfl rfl ?_
      obtain ⟨j5, ej5, bj5, H⟩ := H
      refine g_iast (j := j5) (pc := 51) O dX8_chip_51 ej5 rfl (ltb rfl) (leb rfl) bj5 (ltb rfl) ?_
      refine g_aloadn (pc := 52) O rfl dX8_chip_52 ?_
      refine g_getS (pc := 53) O cls8 fl_X8_19 dX8_chip_53 rfl (ltb rfl) (ltb rfl) rfl rfl ?_
      refine g_aloadn (pc := 56) O rfl dX8_chip_56 ?_
      refine g_getI (v := hv2.1 82 6) (pc := 57) O cls8 fl_X8_173 dX8_chip_57 rfl (ltb rfl) (ltb rfl) rfl rfl ?_
      refine g_aloadn (pc := 60) O rfl dX8_chip_60 ?_
      refine g_getI (v := hv2.1 82 48) (pc := 61) O cls8 fl_X8_170 dX8_chip_61 rfl (ltb rfl) (ltb rfl) rfl rfl ?_
      obtain ⟨j6, ej6, bj6, H⟩ := H
      refine g_iast (j := j6) (pc := 64) O dX8_chip_64 ej6 rfl (ltb rfl) (leb rfl) bj6 (ltb rfl) ?_
      refine g_iconst (v := (I 0)) (pc := 65) O rfl dX8_chip_65 ?_
      refine g_istoren (lv' := [(0, .ref 82), (1, .int (I 0))]) (pc := 66) O dX8_chip_66 rfl (ltb rfl) rfl ?_
      exact H
    · replace H := H.2 q3
      refine g_bipush (v := (I (-10))) (pc := 18) O (by decide) dX8_chip_18 ?_
      refine g_aloadn (pc := 20) O rfl dX8_chip_20 ?_
      refine g_getI (v := hv2.1 82 3) (pc := 21) O cls8 fl_X8_133 dX8_chip_21 rfl (ltb rfl) (ltb rfl) rfl rfl ?_
      refine g_isub (pc := 24) O dX8_chip_24 ?_
      exact g_iret (pc := 25) O dX8_chip_25 H
  · replace H := H.2 q1
    refine g_bipush (v := (I (-3))) (pc := 8) O (by decide) dX8_chip_8 ?_
    exact g_iret (pc := 10) O dX8_chip_10 H
set_option maxRecDepth 20000 in
set_option maxHeartbeats 2000000 in
theorem bX8_chip_67 {g : mg} {l : Launch} {X : XT} {Q : Int32 → AH → Prop} (O : Ok (FF g l X) RX8 cX8_chip 2 mX8_chip.2.2.2.2 (some .int)) {x1 : Int32} {h : AH} (H : (((h.1 82 48) ≤ x1) → (Q (((h.1 82 6) + (I 1)) - (I 1)) (sI (sI (sI h 82 6 ((h.1 82 6) + (I 1))) 82 1 (I 0)) 82 41 (I 0)))) ∧ ((¬ ((h.1 82 48) ≤ x1)) → (∃ j2 : Nat, x1 = I (j2 : Int) ∧ j2 < 10 ∧ (∃ j3 : Nat, (((I 10) * (h.1 82 6)) + x1) = I (j3 : Int) ∧ j3 < 40 ∧ (∃ j4 : Nat, x1 = I (j4 : Int) ∧ j4 < 10 ∧ (∃ j5 : Nat, (((I 10) * (h.1 82 6)) + x1) = I (j5 : Int) ∧ j5 < 40 ∧ (GI g l X Q (sI (sI h 87 j3 (h.1 89 j2)) 88 j5 (h.1 90 j4)) 67 [(0, .ref 82), (1, .int (x1 + I 1))] []))))))) : GI g l X Q h 67 [(0, .ref 82), (1, .int x1)] [] := by
  refine g_iloadn (pc := 67) O rfl dX8_chip_67 ?_
  refine g_aloadn (pc := 68) O rfl dX8_chip_68 ?_
  refine g_getI (v := h.1 82 48) (pc := 69) O cls8 fl_X8_170 dX8_chip_69 rfl (ltb rfl) (ltb rfl) rfl rfl ?_
  refine g_icmp_ge (tgt := 121) (pc := 72) O dX8_chip_72 rfl (fun q1 => ?_) (fun q1 => ?_)
  · replace H := H.1 q1
    refine g_aloadn (pc := 121) O rfl dX8_chip_121 ?_
    refine g_dup (pc := 122) O rfl dX8_chip_122 ?_
    refine g_getI (v := h.1 82 6) (pc := 123) O cls8 fl_X8_173 dX8_chip_123 rfl (ltb rfl) (ltb rfl) rfl rfl ?_
    refine g_iconst (v := (I 1)) (pc := 126) O rfl dX8_chip_126 ?_
    refine g_iadd (pc := 127) O dX8_chip_127 ?_
    refine g_putI (pc := 128) O cls8 fl_X8_173 dX8_chip_128 rfl (ltb rfl) (leb rfl) (ltb rfl) rfl rfl (by decide +kernel) ?_
    refine g_aloadn (pc := 131) O rfl dX8_chip_131 ?_
    refine g_iconst (v := (I 0)) (pc := 132) O rfl dX8_chip_132 ?_
    refine g_putI (pc := 133) O cls8 fl_X8_120 dX8_chip_133 rfl (ltb rfl) (leb rfl) (ltb rfl) rfl rfl (by decide +kernel) ?_
    refine g_aloadn (pc := 136) O rfl dX8_chip_136 ?_
    refine g_iconst (v := (I 0)) (pc := 137) O rfl dX8_chip_137 ?_
    refine g_putZ (pc := 138) O cls8 fl_X8_180 dX8_chip_138 rfl (ltb rfl) (leb rfl) (ltb rfl) rfl rfl (by decide +kernel) (by decide) ?_
    refine g_aloadn (pc := 141) O rfl dX8_chip_141 ?_
    refine g_getI (v := ((h.1 82 6) + (I 1))) (pc := 142) O cls8 fl_X8_173 dX8_chip_142 rfl (ltb rfl) (ltb rfl) rfl rfl ?_
    refine g_iconst (v := (I 1)) (pc := 145) O rfl dX8_chip_145 ?_
    refine g_isub (pc := 146) O dX8_chip_146 ?_
    exact g_iret (pc := 147) O dX8_chip_147 H
  · replace H := H.2 q1
    refine g_aloadn (pc := 75) O rfl dX8_chip_75 ?_
    refine g_getS (pc := 76) O cls8 fl_X8_22 dX8_chip_76 rfl (ltb rfl) (ltb rfl) rfl rfl ?_
    refine g_bipush (v := (I 10)) (pc := 79) O (by decide) dX8_chip_79 ?_
    refine g_aloadn (pc := 81) O rfl dX8_chip_81 ?_
    refine g_getI (v := h.1 82 6) (pc := 82) O cls8 fl_X8_173 dX8_chip_82 rfl (ltb rfl) (ltb rfl) rfl rfl ?_
    refine g_imul (pc := 85) O dX8_chip_85 ?_
    refine g_iloadn (pc := 86) O rfl dX8_chip_86 ?_
    refine g_iadd (pc := 87) O dX8_chip_87 ?_
    refine g_aloadn (pc := 88) O rfl dX8_chip_88 ?_
    refine g_getS (pc := 89) O cls8 fl_X8_28 dX8_chip_89 rfl (ltb rfl) (ltb rfl) rfl rfl ?_
    refine g_iloadn (pc := 92) O rfl dX8_chip_92 ?_
    obtain ⟨j2, ej2, bj2, H⟩ := H
    refine g_iald (j := j2) (pc := 93) O dX8_chip_93 ej2 rfl (ltb rfl) bj2 (ltb rfl) rfl ?_
    obtain ⟨j3, ej3, bj3, H⟩ := H
    refine g_iast (j := j3) (pc := 94) O dX8_chip_94 ej3 rfl (ltb rfl) (leb rfl) bj3 (ltb rfl) ?_
    refine g_aloadn (pc := 95) O rfl dX8_chip_95 ?_
    refine g_getS (pc := 96) O cls8 fl_X8_25 dX8_chip_96 rfl (ltb rfl) (ltb rfl) rfl rfl ?_
    refine g_bipush (v := (I 10)) (pc := 99) O (by decide) dX8_chip_99 ?_
    refine g_aloadn (pc := 101) O rfl dX8_chip_101 ?_
    refine g_getI (v := h.1 82 6) (pc := 102) O cls8 fl_X8_173 dX8_chip_102 rfl (ltb rfl) (ltb rfl) rfl rfl ?_
    refine g_imul (pc := 105) O dX8_chip_105 ?_
    refine g_iloadn (pc := 106) O rfl dX8_chip_106 ?_
    refine g_iadd (pc := 107) O dX8_chip_107 ?_
    refine g_aloadn (pc := 108) O rfl dX8_chip_108 ?_
    refine g_getS (pc := 109) O cls8 fl_X8_31 dX8_chip_109 rfl (ltb rfl) (ltb rfl) rfl rfl ?_
    refine g_iloadn (pc := 112) O rfl dX8_chip_112 ?_
    obtain ⟨j4, ej4, bj4, H⟩ := H
    refine g_iald (j := j4) (pc := 113) O dX8_chip_113 ej4 rfl (ltb rfl) bj4 (ltb rfl) rfl ?_
    obtain ⟨j5, ej5, bj5, H⟩ := H
    refine g_iast (j := j5) (pc := 114) O dX8_chip_114 ej5 rfl (ltb rfl) (leb rfl) bj5 (ltb rfl) ?_
    refine g_iinc (lv' := [(0, .ref 82), (1, .int (x1 + I 1))]) (pc := 115) O dX8_chip_115 rfl rfl (ltb rfl) rfl ?_
    refine g_goto (tgt := 67) (pc := 118) O dX8_chip_118 rfl ?_
    exact H
set_option maxRecDepth 20000 in
set_option maxHeartbeats 2000000 in
theorem sX8_chip {g : mg} {l : Launch} {Q : Int32 → AH → Prop}  {h : AH} (H : ∀ X, Ok (FF g l X) RX8 cX8_chip 2 mX8_chip.2.2.2.2 (some .int) → ((¬ (h.1 82 6) = (I 4)) → (SpI g l mX8_isChip h [.ref 82] (fun v2 hv2 => ((¬ v2 = 0) → (∃ j4 : Nat, (hv2.1 82 6) = I (j4 : Int) ∧ j4 < 4 ∧ (∃ j5 : Nat, (hv2.1 82 6) = I (j5 : Int) ∧ j5 < 4 ∧ (∃ j6 : Nat, (hv2.1 82 6) = I (j6 : Int) ∧ j6 < 4 ∧ (GI g l X Q (sI (sI (sI hv2 84 j4 (hv2.1 82 46)) 85 j5 (hv2.1 82 47)) 86 j6 (hv2.1 82 48)) 67 [(0, .ref 82), (1, .int (I 0))] []))))) ∧ ((v2 = 0) → (Q ((I (-10)) - (hv2.1 82 3)) hv2))))) ∧ (((h.1 82 6) = (I 4)) → (Q (I (-3)) h))) : SpI g l mX8_chip h [.ref 82] Q := spI_of (by decide) (leb rfl) (fun X O => bX8_chip_0 O (H X O))
set_option maxRecDepth 20000 in
set_option maxHeartbeats 2000000 in
theorem bX8_isStuff_0 {g : mg} {l : Launch} {X : XT} {Q : Int32 → AH → Prop} (O : Ok (FF g l X) RX8 cX8_isStuff 4 mX8_isStuff.2.2.2.2 (some .boolean))  {h : AH} (H : SpV g l mX8_read h [.ref 82] (fun hv1 => (((hv1.1 82 4) = (I 1)) → (SpV g l mX8_read hv1 [.ref 82] (fun hv3 => SpI g l mX8_isNumber hv3 [.ref 82, .int (I 0), .int (I 999)] (fun v4 hv4 => ((¬ v4 = 0) → (SpV g l mX8_read hv4 [.ref 82] (fun hv6 => SpI g l mX8_isNumber hv6 [.ref 82, .int (hv4.1 82 5), .int (I 999)] (fun v7 hv7 => ((¬ v7 = 0) → (SpV g l mX8_read hv7 [.ref 82] (fun hv9 => (((hv9.1 82 4) = (I 3)) → (∃ j11 : Nat, (hv1.1 82 5) = I (j11 : Int) ∧ j11 < 12 ∧ (∃ j12 : Nat, (hv1.1 82 5) = I (j12 : Int) ∧ j12 < 12 ∧ (Q (I 1) (sI (sI hv9 96 j11 (hv4.1 82 5)) 97 j12 (hv7.1 82 5)))))) ∧ ((¬ ((hv9.1 82 4) = (I 3))) → (Q (I 0) hv9))))) ∧ ((v7 = 0) → (Q (I 0) hv7)))))) ∧ ((v4 = 0) → (Q (I 0) hv4)))))) ∧ ((¬ ((hv1.1 82 4) = (I 1))) → (Q (I 0) hv1)))) : GI g l X Q h 0 [(0, .ref 82)] [] := by
  refine g_aloadn (pc := 0) O rfl dX8_isStuff_0 ?_
  refine g_vV [] [] (pc := 1) O mk_X8_read ml_X8_157 im_X8_read se_X8_read cls8 rfl ⟨rfl, rfl, leb rfl, leb rfl⟩ rfl (leb rfl) dX8_isStuff_1 H rfl (fun hv1 H => ?_)
  refine g_aloadn (pc := 4) O rfl dX8_isStuff_4 ?_
  refine g_getI (v := hv1.1 82 4) (pc := 5) O cls8 fl_X8_136 dX8_isStuff_5 rfl (ltb rfl) (ltb rfl) rfl rfl ?_
  refine g_iconst (v := (I 1)) (pc := 8) O rfl dX8_isStuff_8 ?_
  refine g_icmp_eq (tgt := 14) (pc := 9) O dX8_isStuff_9 rfl (fun q2 => ?_) (fun q2 => ?_)
  · replace H := H.1 q2
    refine g_aloadn (pc := 14) O rfl dX8_isStuff_14 ?_
    refine g_getI (v := hv1.1 82 5) (pc := 15) O cls8 fl_X8_149 dX8_isStuff_15 rfl (ltb rfl) (ltb rfl) rfl rfl ?_
    refine g_istoren (lv' := [(0, .ref 82), (1, .int (hv1.1 82 5))]) (pc := 18) O dX8_isStuff_18 rfl (ltb rfl) rfl ?_
    refine g_aloadn (pc := 19) O rfl dX8_isStuff_19 ?_
    refine g_vV [] [] (pc := 20) O mk_X8_read ml_X8_157 im_X8_read se_X8_read cls8 rfl ⟨rfl, rfl, leb rfl, leb rfl⟩ rfl (leb rfl) dX8_isStuff_20 H rfl (fun hv3 H => ?_)
    refine g_aloadn (pc := 23) O rfl dX8_isStuff_23 ?_
    refine g_iconst (v := (I 0)) (pc := 24) O rfl dX8_isStuff_24 ?_
    refine g_sipush (v := (I 999)) (pc := 25) O (by decide) dX8_isStuff_25 ?_
    refine g_vI [.int (I 0), .int (I 999)] [] (pc := 28) O mk_X8_isNumber ml_X8_160 im_X8_isNumber se_X8_isNumber cls8 rfl ⟨rfl, rfl, leb rfl, leb rfl⟩ rfl (leb rfl) dX8_isStuff_28 H rfl (fun v4 hv4 H => ?_)
    refine g_if_ne (tgt := 36) (pc := 31) O dX8_isStuff_31 rfl (fun q5 => ?_) (fun q5 => ?_)
    · replace H := H.1 q5
      refine g_aloadn (pc := 36) O rfl dX8_isStuff_36 ?_
      refine g_getI (v := hv4.1 82 5) (pc := 37) O cls8 fl_X8_149 dX8_isStuff_37 rfl (ltb rfl) (ltb rfl) rfl rfl ?_
      refine g_istoren (lv' := [(0, .ref 82), (1, .int (hv1.1 82 5)), (2, .int (hv4.1 82 5))]) (pc := 40) O dX8_isStuff_40 rfl (ltb rfl) rfl ?_
      refine g_aloadn (pc := 41) O rfl dX8_isStuff_41 ?_
      refine g_vV [] [] (pc := 42) O mk_X8_read ml_X8_157 im_X8_read se_X8_read cls8 rfl ⟨rfl, rfl, leb rfl, leb rfl⟩ rfl (leb rfl) dX8_isStuff_42 H rfl (fun hv6 H => ?_)
      refine g_aloadn (pc := 45) O rfl dX8_isStuff_45 ?_
      refine g_iloadn (pc := 46) O rfl dX8_isStuff_46 ?_
      refine g_sipush (v := (I 999)) (pc := 47) O (by decide) dX8_isStuff_47 ?_
      refine g_vI [.int (hv4.1 82 5), .int (I 999)] [] (pc := 50) O mk_X8_isNumber ml_X8_160 im_X8_isNumber se_X8_isNumber cls8 rfl ⟨rfl, rfl, leb rfl, leb rfl⟩ rfl (leb rfl) dX8_isStuff_50 H rfl (fun v7 hv7 H => ?_)
      refine g_if_ne (tgt := 58) (pc := 53) O dX8_isStuff_53 rfl (fun q8 => ?_) (fun q8 => ?_)
      · replace H := H.1 q8
        refine g_aloadn (pc := 58) O rfl dX8_isStuff_58 ?_
        refine g_getI (v := hv7.1 82 5) (pc := 59) O cls8 fl_X8_149 dX8_isStuff_59 rfl (ltb rfl) (ltb rfl) rfl rfl ?_
        refine g_istoren (lv' := [(0, .ref 82), (1, .int (hv1.1 82 5)), (2, .int (hv4.1 82 5)), (3, .int (hv7.1 82 5))]) (pc := 62) O dX8_isStuff_62 rfl (ltb rfl) rfl ?_
        refine g_aloadn (pc := 63) O rfl dX8_isStuff_63 ?_
        refine g_vV [] [] (pc := 64) O mk_X8_read ml_X8_157 im_X8_read se_X8_read cls8 rfl ⟨rfl, rfl, leb rfl, leb rfl⟩ rfl (leb rfl) dX8_isStuff_64 H rfl (fun hv9 H => ?_)
        refine g_aloadn (pc := 67) O rfl dX8_isStuff_67 ?_
        refine g_getI (v := hv9.1 82 4) (pc := 68) O cls8 fl_X8_136 dX8_isStuff_68 rfl (ltb rfl) (ltb rfl) rfl rfl ?_
        refine g_iconst (v := (I 3)) (pc := 71) O rfl dX8_isStuff_71 ?_
        refine g_icmp_eq (tgt := 77) (pc := 72) O dX8_isStuff_72 rfl (fun q10 => ?_) (fun q10 => ?_)
        · replace H := H.1 q10
          refine g_aloadn (pc := 77) O rfl dX8_isStuff_77 ?_
          refine g_getS (pc := 78) O cls8 fl_X8_49 dX8_isStuff_78 rfl (ltb rfl) (ltb rfl) rfl rfl ?_
          refine g_iloadn (pc := 81) O rfl dX8_isStuff_81 ?_
          refine g_iloadn (pc := 82) O rfl dX8_isStuff_82 ?_
          obtain ⟨j11, ej11, bj11, H⟩ := H
          refine g_iast (j := j11) (pc := 83) O dX8_isStuff_83 ej11 rfl (ltb rfl) (leb rfl) bj11 (ltb rfl) ?_
          refine g_aloadn (pc := 84) O rfl dX8_isStuff_84 ?_
          refine g_getS (pc := 85) O cls8 fl_X8_52 dX8_isStuff_85 rfl (ltb rfl) (ltb rfl) rfl rfl ?_
          refine g_iloadn (pc := 88) O rfl dX8_isStuff_88 ?_
          refine g_iloadn (pc := 89) O rfl dX8_isStuff_89 ?_
          obtain ⟨j12, ej12, bj12, H⟩ := H
          refine g_iast (j := j12) (pc := 90) O dX8_isStuff_90 ej12 rfl (ltb rfl) (leb rfl) bj12 (ltb rfl) ?_
          refine g_iconst (v := (I 1)) (pc := 91) O rfl dX8_isStuff_91 ?_
          exact g_zret (pc := 92) O dX8_isStuff_92 (by decide) H
        · replace H := H.2 q10
          refine g_iconst (v := (I 0)) (pc := 75) O rfl dX8_isStuff_75 ?_
          exact g_zret (pc := 76) O dX8_isStuff_76 (by decide) H
      · replace H := H.2 q8
        refine g_iconst (v := (I 0)) (pc := 56) O rfl dX8_isStuff_56 ?_
        exact g_zret (pc := 57) O dX8_isStuff_57 (by decide) H
    · replace H := H.2 q5
      refine g_iconst (v := (I 0)) (pc := 34) O rfl dX8_isStuff_34 ?_
      exact g_zret (pc := 35) O dX8_isStuff_35 (by decide) H
  · replace H := H.2 q2
    refine g_iconst (v := (I 0)) (pc := 12) O rfl dX8_isStuff_12 ?_
    exact g_zret (pc := 13) O dX8_isStuff_13 (by decide) H
set_option maxRecDepth 20000 in
set_option maxHeartbeats 2000000 in
theorem sX8_isStuff {g : mg} {l : Launch} {Q : Int32 → AH → Prop}  {h : AH} (H : SpV g l mX8_read h [.ref 82] (fun hv1 => (((hv1.1 82 4) = (I 1)) → (SpV g l mX8_read hv1 [.ref 82] (fun hv3 => SpI g l mX8_isNumber hv3 [.ref 82, .int (I 0), .int (I 999)] (fun v4 hv4 => ((¬ v4 = 0) → (SpV g l mX8_read hv4 [.ref 82] (fun hv6 => SpI g l mX8_isNumber hv6 [.ref 82, .int (hv4.1 82 5), .int (I 999)] (fun v7 hv7 => ((¬ v7 = 0) → (SpV g l mX8_read hv7 [.ref 82] (fun hv9 => (((hv9.1 82 4) = (I 3)) → (∃ j11 : Nat, (hv1.1 82 5) = I (j11 : Int) ∧ j11 < 12 ∧ (∃ j12 : Nat, (hv1.1 82 5) = I (j12 : Int) ∧ j12 < 12 ∧ (Q (I 1) (sI (sI hv9 96 j11 (hv4.1 82 5)) 97 j12 (hv7.1 82 5)))))) ∧ ((¬ ((hv9.1 82 4) = (I 3))) → (Q (I 0) hv9))))) ∧ ((v7 = 0) → (Q (I 0) hv7)))))) ∧ ((v4 = 0) → (Q (I 0) hv4)))))) ∧ ((¬ ((hv1.1 82 4) = (I 1))) → (Q (I 0) hv1)))) : SpI g l mX8_isStuff h [.ref 82] Q := spI_of (by decide) (leb rfl) (fun X O => bX8_isStuff_0 O H)
set_option maxRecDepth 20000 in
set_option maxHeartbeats 2000000 in
theorem bX8_areAlike_0 {g : mg} {l : Launch} {X : XT} {Q : Int32 → AH → Prop} (O : Ok (FF g l X) RX8 cX8_areAlike 3 mX8_areAlike.2.2.2.2 (some .boolean))  {h : AH} (H : SpV g l mX8_read h [.ref 82] (fun hv1 => (((hv1.1 82 4) = (I 1)) → (SpV g l mX8_read hv1 [.ref 82] (fun hv3 => ((¬ (hv3.1 82 4) = (I 1)) → (Q (I 0) hv3)) ∧ (((hv3.1 82 4) = (I 1)) → (((¬ (hv3.1 82 5) = (hv1.1 82 5)) → (SpV g l mX8_read hv3 [.ref 82] (fun hv6 => (((hv6.1 82 4) = (I 3)) → (∃ j8 : Nat, (hv1.1 82 5) = I (j8 : Int) ∧ j8 < 12 ∧ (∃ j9 : Nat, (hv1.1 82 5) = I (j9 : Int) ∧ j9 < 12 ∧ (∃ j10 : Nat, (hv3.1 82 5) = I (j10 : Int) ∧ j10 < 12 ∧ (∃ j11 : Nat, (hv3.1 82 5) = I (j11 : Int) ∧ j11 < 12 ∧ (Q (I 1) (sI (sI hv6 98 j9 ((hv6.1 98 j8) ||| ((I 1) <<< ((hv3.1 82 5) &&& 31)))) 98 j11 (((sI hv6 98 j9 ((hv6.1 98 j8) ||| ((I 1) <<< ((hv3.1 82 5) &&& 31)))).1 98 j10) ||| ((I 1) <<< ((hv1.1 82 5) &&& 31)))))))))) ∧ ((¬ ((hv6.1 82 4) = (I 3))) → (Q (I 0) hv6))))) ∧ (((hv3.1 82 5) = (hv1.1 82 5)) → (Q (I 0) hv3))))))) ∧ ((¬ ((hv1.1 82 4) = (I 1))) → (Q (I 0) hv1)))) : GI g l X Q h 0 [(0, .ref 82)] [] := by
  refine g_aloadn (pc := 0) O rfl dX8_areAlike_0 ?_
  refine g_vV [] [] (pc := 1) O mk_X8_read ml_X8_157 im_X8_read se_X8_read cls8 rfl ⟨rfl, rfl, leb rfl, leb rfl⟩ rfl (leb rfl) dX8_areAlike_1 H rfl (fun hv1 H => ?_)
  refine g_aloadn (pc := 4) O rfl dX8_areAlike_4 ?_
  refine g_getI (v := hv1.1 82 4) (pc := 5) O cls8 fl_X8_136 dX8_areAlike_5 rfl (ltb rfl) (ltb rfl) rfl rfl ?_
  refine g_iconst (v := (I 1)) (pc := 8) O rfl dX8_areAlike_8 ?_
  refine g_icmp_eq (tgt := 14) (pc := 9) O dX8_areAlike_9 rfl (fun q2 => ?_) (fun q2 => ?_)
  · replace H := H.1 q2
    refine g_aloadn (pc := 14) O rfl dX8_areAlike_14 ?_
    refine g_getI (v := hv1.1 82 5) (pc := 15) O cls8 fl_X8_149 dX8_areAlike_15 rfl (ltb rfl) (ltb rfl) rfl rfl ?_
    refine g_istoren (lv' := [(0, .ref 82), (1, .int (hv1.1 82 5))]) (pc := 18) O dX8_areAlike_18 rfl (ltb rfl) rfl ?_
    refine g_aloadn (pc := 19) O rfl dX8_areAlike_19 ?_
    refine g_vV [] [] (pc := 20) O mk_X8_read ml_X8_157 im_X8_read se_X8_read cls8 rfl ⟨rfl, rfl, leb rfl, leb rfl⟩ rfl (leb rfl) dX8_areAlike_20 H rfl (fun hv3 H => ?_)
    refine g_aloadn (pc := 23) O rfl dX8_areAlike_23 ?_
    refine g_getI (v := hv3.1 82 4) (pc := 24) O cls8 fl_X8_136 dX8_areAlike_24 rfl (ltb rfl) (ltb rfl) rfl rfl ?_
    refine g_iconst (v := (I 1)) (pc := 27) O rfl dX8_areAlike_27 ?_
    refine g_icmp_ne (tgt := 39) (pc := 28) O dX8_areAlike_28 rfl (fun q4 => ?_) (fun q4 => ?_)
    · replace H := H.1 q4
      refine g_iconst (v := (I 0)) (pc := 39) O rfl dX8_areAlike_39 ?_
      exact g_zret (pc := 40) O dX8_areAlike_40 (by decide) H
    · replace H := H.2 q4
      refine g_aloadn (pc := 31) O rfl dX8_areAlike_31 ?_
      refine g_getI (v := hv3.1 82 5) (pc := 32) O cls8 fl_X8_149 dX8_areAlike_32 rfl (ltb rfl) (ltb rfl) rfl rfl ?_
      refine g_iloadn (pc := 35) O rfl dX8_areAlike_35 ?_
      refine g_icmp_ne (tgt := 41) (pc := 36) O dX8_areAlike_36 rfl (fun q5 => ?_) (fun q5 => ?_)
      · replace H := H.1 q5
        refine g_aloadn (pc := 41) O rfl dX8_areAlike_41 ?_
        refine g_getI (v := hv3.1 82 5) (pc := 42) O cls8 fl_X8_149 dX8_areAlike_42 rfl (ltb rfl) (ltb rfl) rfl rfl ?_
        refine g_istoren (lv' := [(0, .ref 82), (1, .int (hv1.1 82 5)), (2, .int (hv3.1 82 5))]) (pc := 45) O dX8_areAlike_45 rfl (ltb rfl) rfl ?_
        refine g_aloadn (pc := 46) O rfl dX8_areAlike_46 ?_
        refine g_vV [] [] (pc := 47) O mk_X8_read ml_X8_157 im_X8_read se_X8_read cls8 rfl ⟨rfl, rfl, leb rfl, leb rfl⟩ rfl (leb rfl) dX8_areAlike_47 H rfl (fun hv6 H => ?_)
        refine g_aloadn (pc := 50) O rfl dX8_areAlike_50 ?_
        refine g_getI (v := hv6.1 82 4) (pc := 51) O cls8 fl_X8_136 dX8_areAlike_51 rfl (ltb rfl) (ltb rfl) rfl rfl ?_
        refine g_iconst (v := (I 3)) (pc := 54) O rfl dX8_areAlike_54 ?_
        refine g_icmp_eq (tgt := 60) (pc := 55) O dX8_areAlike_55 rfl (fun q7 => ?_) (fun q7 => ?_)
        · replace H := H.1 q7
          refine g_aloadn (pc := 60) O rfl dX8_areAlike_60 ?_
          refine g_getS (pc := 61) O cls8 fl_X8_55 dX8_areAlike_61 rfl (ltb rfl) (ltb rfl) rfl rfl ?_
          refine g_iloadn (pc := 64) O rfl dX8_areAlike_64 ?_
          refine g_aloadn (pc := 65) O rfl dX8_areAlike_65 ?_
          refine g_getS (pc := 66) O cls8 fl_X8_55 dX8_areAlike_66 rfl (ltb rfl) (ltb rfl) rfl rfl ?_
          refine g_iloadn (pc := 69) O rfl dX8_areAlike_69 ?_
          obtain ⟨j8, ej8, bj8, H⟩ := H
          refine g_iald (j := j8) (pc := 70) O dX8_areAlike_70 ej8 rfl (ltb rfl) bj8 (ltb rfl) rfl ?_
          refine g_iconst (v := (I 1)) (pc := 71) O rfl dX8_areAlike_71 ?_
          refine g_iloadn (pc := 72) O rfl dX8_areAlike_72 ?_
          refine g_ishl (pc := 73) O dX8_areAlike_73 ?_
          refine g_ior (pc := 74) O dX8_areAlike_74 ?_
          obtain ⟨j9, ej9, bj9, H⟩ := H
          refine g_iast (j := j9) (pc := 75) O dX8_areAlike_75 ej9 rfl (ltb rfl) (leb rfl) bj9 (ltb rfl) ?_
          refine g_aloadn (pc := 76) O rfl dX8_areAlike_76 ?_
          refine g_getS (pc := 77) O cls8 fl_X8_55 dX8_areAlike_77 rfl (ltb rfl) (ltb rfl) rfl rfl ?_
          refine g_iloadn (pc := 80) O rfl dX8_areAlike_80 ?_
          refine g_aloadn (pc := 81) O rfl dX8_areAlike_81 ?_
          refine g_getS (pc := 82) O cls8 fl_X8_55 dX8_areAlike_82 rfl (ltb rfl) (ltb rfl) rfl rfl ?_
          refine g_iloadn (pc := 85) O rfl dX8_areAlike_85 ?_
          obtain ⟨j10, ej10, bj10, H⟩ := H
          refine g_iald (j := j10) (pc := 86) O dX8_areAlike_86 ej10 rfl (ltb rfl) bj10 (ltb rfl) rfl ?_
          refine g_iconst (v := (I 1)) (pc := 87) O rfl dX8_areAlike_87 ?_
          refine g_iloadn (pc := 88) O rfl dX8_areAlike_88 ?_
          refine g_ishl (pc := 89) O dX8_areAlike_89 ?_
          refine g_ior (pc := 90) O dX8_areAlike_90 ?_
          obtain ⟨j11, ej11, bj11, H⟩ := H
          refine g_iast (j := j11) (pc := 91) O dX8_areAlike_91 ej11 rfl (ltb rfl) (leb rfl) bj11 (ltb rfl) ?_
          refine g_iconst (v := (I 1)) (pc := 92) O rfl dX8_areAlike_92 ?_
          exact g_zret (pc := 93) O dX8_areAlike_93 (by decide) H
        · replace H := H.2 q7
          refine g_iconst (v := (I 0)) (pc := 58) O rfl dX8_areAlike_58 ?_
          exact g_zret (pc := 59) O dX8_areAlike_59 (by decide) H
      · replace H := H.2 q5
        refine g_iconst (v := (I 0)) (pc := 39) O rfl dX8_areAlike_39 ?_
        exact g_zret (pc := 40) O dX8_areAlike_40 (by decide) H
  · replace H := H.2 q2
    refine g_iconst (v := (I 0)) (pc := 12) O rfl dX8_areAlike_12 ?_
    exact g_zret (pc := 13) O dX8_areAlike_13 (by decide) H
set_option maxRecDepth 20000 in
set_option maxHeartbeats 2000000 in
theorem sX8_areAlike {g : mg} {l : Launch} {Q : Int32 → AH → Prop}  {h : AH} (H : SpV g l mX8_read h [.ref 82] (fun hv1 => (((hv1.1 82 4) = (I 1)) → (SpV g l mX8_read hv1 [.ref 82] (fun hv3 => ((¬ (hv3.1 82 4) = (I 1)) → (Q (I 0) hv3)) ∧ (((hv3.1 82 4) = (I 1)) → (((¬ (hv3.1 82 5) = (hv1.1 82 5)) → (SpV g l mX8_read hv3 [.ref 82] (fun hv6 => (((hv6.1 82 4) = (I 3)) → (∃ j8 : Nat, (hv1.1 82 5) = I (j8 : Int) ∧ j8 < 12 ∧ (∃ j9 : Nat, (hv1.1 82 5) = I (j9 : Int) ∧ j9 < 12 ∧ (∃ j10 : Nat, (hv3.1 82 5) = I (j10 : Int) ∧ j10 < 12 ∧ (∃ j11 : Nat, (hv3.1 82 5) = I (j11 : Int) ∧ j11 < 12 ∧ (Q (I 1) (sI (sI hv6 98 j9 ((hv6.1 98 j8) ||| ((I 1) <<< ((hv3.1 82 5) &&& 31)))) 98 j11 (((sI hv6 98 j9 ((hv6.1 98 j8) ||| ((I 1) <<< ((hv3.1 82 5) &&& 31)))).1 98 j10) ||| ((I 1) <<< ((hv1.1 82 5) &&& 31)))))))))) ∧ ((¬ ((hv6.1 82 4) = (I 3))) → (Q (I 0) hv6))))) ∧ (((hv3.1 82 5) = (hv1.1 82 5)) → (Q (I 0) hv3))))))) ∧ ((¬ ((hv1.1 82 4) = (I 1))) → (Q (I 0) hv1)))) : SpI g l mX8_areAlike h [.ref 82] Q := spI_of (by decide) (leb rfl) (fun X O => bX8_areAlike_0 O H)
set_option maxRecDepth 20000 in
set_option maxHeartbeats 2000000 in
theorem bX8_isBill_0 {g : mg} {l : Launch} {X : XT} {Q : Int32 → AH → Prop} (O : Ok (FF g l X) RX8 cX8_isBill 1 mX8_isBill.2.2.2.2 (some .boolean))  {h : AH} (H : ((¬ (h.1 82 49) = (I 8)) → (SpV g l mX8_read h [.ref 82] (fun hv2 => SpI g l mX8_isNumber hv2 [.ref 82, .int (I 0), .int (I 999)] (fun v3 hv3 => ((¬ v3 = 0) → (∃ j5 : Nat, (hv3.1 82 49) = I (j5 : Int) ∧ j5 < 8 ∧ (SpV g l mX8_read (sI hv3 99 j5 (hv3.1 82 5)) [.ref 82] (fun hv6 => (((hv6.1 82 4) = (I 1)) → (∃ j8 : Nat, (hv6.1 82 49) = I (j8 : Int) ∧ j8 < 8 ∧ (SpV g l mX8_read (sI hv6 100 j8 (hv6.1 82 5)) [.ref 82] (fun hv9 => (((hv9.1 82 4) = (I 3)) → (Q (I 1) (sI hv9 82 49 ((hv9.1 82 49) + (I 1))))) ∧ ((¬ ((hv9.1 82 4) = (I 3))) → (Q (I 0) hv9)))))) ∧ ((¬ ((hv6.1 82 4) = (I 1))) → (Q (I 0) hv6)))))) ∧ ((v3 = 0) → (Q (I 0) hv3)))))) ∧ (((h.1 82 49) = (I 8)) → (Q (I 0) h))) : GI g l X Q h 0 [(0, .ref 82)] [] := by
  refine g_aloadn (pc := 0) O rfl dX8_isBill_0 ?_
  refine g_getI (v := h.1 82 49) (pc := 1) O cls8 fl_X8_184 dX8_isBill_1 rfl (ltb rfl) (ltb rfl) rfl rfl ?_
  refine g_bipush (v := (I 8)) (pc := 4) O (by decide) dX8_isBill_4 ?_
  refine g_icmp_ne (tgt := 11) (pc := 6) O dX8_isBill_6 rfl (fun q1 => ?_) (fun q1 => ?_)
  · replace H := H.1 q1
    refine g_aloadn (pc := 11) O rfl dX8_isBill_11 ?_
    refine g_vV [] [] (pc := 12) O mk_X8_read ml_X8_157 im_X8_read se_X8_read cls8 rfl ⟨rfl, rfl, leb rfl, leb rfl⟩ rfl (leb rfl) dX8_isBill_12 H rfl (fun hv2 H => ?_)
    refine g_aloadn (pc := 15) O rfl dX8_isBill_15 ?_
    refine g_iconst (v := (I 0)) (pc := 16) O rfl dX8_isBill_16 ?_
    refine g_sipush (v := (I 999)) (pc := 17) O (by decide) dX8_isBill_17 ?_
    refine g_vI [.int (I 0), .int (I 999)] [] (pc := 20) O mk_X8_isNumber ml_X8_160 im_X8_isNumber se_X8_isNumber cls8 rfl ⟨rfl, rfl, leb rfl, leb rfl⟩ rfl (leb rfl) dX8_isBill_20 H rfl (fun v3 hv3 H => ?_)
    refine g_if_ne (tgt := 28) (pc := 23) O dX8_isBill_23 rfl (fun q4 => ?_) (fun q4 => ?_)
    · replace H := H.1 q4
      refine g_aloadn (pc := 28) O rfl dX8_isBill_28 ?_
      refine g_getS (pc := 29) O cls8 fl_X8_58 dX8_isBill_29 rfl (ltb rfl) (ltb rfl) rfl rfl ?_
      refine g_aloadn (pc := 32) O rfl dX8_isBill_32 ?_
      refine g_getI (v := hv3.1 82 49) (pc := 33) O cls8 fl_X8_184 dX8_isBill_33 rfl (ltb rfl) (ltb rfl) rfl rfl ?_
      refine g_aloadn (pc := 36) O rfl dX8_isBill_36 ?_
      refine g_getI (v := hv3.1 82 5) (pc := 37) O cls8 fl_X8_149 dX8_isBill_37 rfl (ltb rfl) (ltb rfl) rfl rfl ?_
      obtain ⟨j5, ej5, bj5, H⟩ := H
      refine g_iast (j := j5) (pc := 40) O dX8_isBill_40 ej5 rfl (ltb rfl) (leb rfl) bj5 (ltb rfl) ?_
      refine g_aloadn (pc := 41) O rfl dX8_isBill_41 ?_
      refine g_vV [] [] (pc := 42) O mk_X8_read ml_X8_157 im_X8_read se_X8_read cls8 rfl ⟨rfl, rfl, leb rfl, leb rfl⟩ rfl (leb rfl) dX8_isBill_42 H rfl (fun hv6 H => ?_)
      refine g_aloadn (pc := 45) O rfl dX8_isBill_45 ?_
      refine g_getI (v := hv6.1 82 4) (pc := 46) O cls8 fl_X8_136 dX8_isBill_46 rfl (ltb rfl) (ltb rfl) rfl rfl ?_
      refine g_iconst (v := (I 1)) (pc := 49) O rfl dX8_isBill_49 ?_
      refine g_icmp_eq (tgt := 55) (pc := 50) O dX8_isBill_50 rfl (fun q7 => ?_) (fun q7 => ?_)
      · replace H := H.1 q7
        refine g_aloadn (pc := 55) O rfl dX8_isBill_55 ?_
        refine g_getS (pc := 56) O cls8 fl_X8_61 dX8_isBill_56 rfl (ltb rfl) (ltb rfl) rfl rfl ?_
        refine g_aloadn (pc := 59) O rfl dX8_isBill_59 ?_
        refine g_getI (v := hv6.1 82 49) (pc := 60) O cls8 fl_X8_184 dX8_isBill_60 rfl (ltb rfl) (ltb rfl) rfl rfl ?_
        refine g_aloadn (pc := 63) O rfl dX8_isBill_63 ?_
        refine g_getI (v := hv6.1 82 5) (pc := 64) O cls8 fl_X8_149 dX8_isBill_64 rfl (ltb rfl) (ltb rfl) rfl rfl ?_
        obtain ⟨j8, ej8, bj8, H⟩ := H
        refine g_iast (j := j8) (pc := 67) O dX8_isBill_67 ej8 rfl (ltb rfl) (leb rfl) bj8 (ltb rfl) ?_
        refine g_aloadn (pc := 68) O rfl dX8_isBill_68 ?_
        refine g_vV [] [] (pc := 69) O mk_X8_read ml_X8_157 im_X8_read se_X8_read cls8 rfl ⟨rfl, rfl, leb rfl, leb rfl⟩ rfl (leb rfl) dX8_isBill_69 H rfl (fun hv9 H => ?_)
        refine g_aloadn (pc := 72) O rfl dX8_isBill_72 ?_
        refine g_getI (v := hv9.1 82 4) (pc := 73) O cls8 fl_X8_136 dX8_isBill_73 rfl (ltb rfl) (ltb rfl) rfl rfl ?_
        refine g_iconst (v := (I 3)) (pc := 76) O rfl dX8_isBill_76 ?_
        refine g_icmp_eq (tgt := 82) (pc := 77) O dX8_isBill_77 rfl (fun q10 => ?_) (fun q10 => ?_)
        · replace H := H.1 q10
          refine g_aloadn (pc := 82) O rfl dX8_isBill_82 ?_
          refine g_dup (pc := 83) O rfl dX8_isBill_83 ?_
          refine g_getI (v := hv9.1 82 49) (pc := 84) O cls8 fl_X8_184 dX8_isBill_84 rfl (ltb rfl) (ltb rfl) rfl rfl ?_
          refine g_iconst (v := (I 1)) (pc := 87) O rfl dX8_isBill_87 ?_
          refine g_iadd (pc := 88) O dX8_isBill_88 ?_
          refine g_putI (pc := 89) O cls8 fl_X8_184 dX8_isBill_89 rfl (ltb rfl) (leb rfl) (ltb rfl) rfl rfl (by decide +kernel) ?_
          refine g_iconst (v := (I 1)) (pc := 92) O rfl dX8_isBill_92 ?_
          exact g_zret (pc := 93) O dX8_isBill_93 (by decide) H
        · replace H := H.2 q10
          refine g_iconst (v := (I 0)) (pc := 80) O rfl dX8_isBill_80 ?_
          exact g_zret (pc := 81) O dX8_isBill_81 (by decide) H
      · replace H := H.2 q7
        refine g_iconst (v := (I 0)) (pc := 53) O rfl dX8_isBill_53 ?_
        exact g_zret (pc := 54) O dX8_isBill_54 (by decide) H
    · replace H := H.2 q4
      refine g_iconst (v := (I 0)) (pc := 26) O rfl dX8_isBill_26 ?_
      exact g_zret (pc := 27) O dX8_isBill_27 (by decide) H
  · replace H := H.2 q1
    refine g_iconst (v := (I 0)) (pc := 9) O rfl dX8_isBill_9 ?_
    exact g_zret (pc := 10) O dX8_isBill_10 (by decide) H
set_option maxRecDepth 20000 in
set_option maxHeartbeats 2000000 in
theorem sX8_isBill {g : mg} {l : Launch} {Q : Int32 → AH → Prop}  {h : AH} (H : ((¬ (h.1 82 49) = (I 8)) → (SpV g l mX8_read h [.ref 82] (fun hv2 => SpI g l mX8_isNumber hv2 [.ref 82, .int (I 0), .int (I 999)] (fun v3 hv3 => ((¬ v3 = 0) → (∃ j5 : Nat, (hv3.1 82 49) = I (j5 : Int) ∧ j5 < 8 ∧ (SpV g l mX8_read (sI hv3 99 j5 (hv3.1 82 5)) [.ref 82] (fun hv6 => (((hv6.1 82 4) = (I 1)) → (∃ j8 : Nat, (hv6.1 82 49) = I (j8 : Int) ∧ j8 < 8 ∧ (SpV g l mX8_read (sI hv6 100 j8 (hv6.1 82 5)) [.ref 82] (fun hv9 => (((hv9.1 82 4) = (I 3)) → (Q (I 1) (sI hv9 82 49 ((hv9.1 82 49) + (I 1))))) ∧ ((¬ ((hv9.1 82 4) = (I 3))) → (Q (I 0) hv9)))))) ∧ ((¬ ((hv6.1 82 4) = (I 1))) → (Q (I 0) hv6)))))) ∧ ((v3 = 0) → (Q (I 0) hv3)))))) ∧ (((h.1 82 49) = (I 8)) → (Q (I 0) h))) : SpI g l mX8_isBill h [.ref 82] Q := spI_of (by decide) (leb rfl) (fun X O => bX8_isBill_0 O H)
set_option maxRecDepth 20000 in
set_option maxHeartbeats 2000000 in
theorem bX8_book_0 {g : mg} {l : Launch} {X : XT} {Q : Int32 → AH → Prop} (O : Ok (FF g l X) RX8 cX8_book 3 mX8_book.2.2.2.2 (some .int))  {h : AH} (H : GI g l X Q h 2 [(0, .ref 82), (1, .int (I 0))] []) : GI g l X Q h 0 [(0, .ref 82)] [] := by
  refine g_iconst (v := (I 0)) (pc := 0) O rfl dX8_book_0 ?_
  refine g_istoren (lv' := [(0, .ref 82), (1, .int (I 0))]) (pc := 1) O dX8_book_1 rfl (ltb rfl) rfl ?_
  exact H
set_option maxRecDepth 20000 in
set_option maxHeartbeats 2000000 in
theorem bX8_book_2 {g : mg} {l : Launch} {X : XT} {Q : Int32 → AH → Prop} (O : Ok (FF g l X) RX8 cX8_book 3 mX8_book.2.2.2.2 (some .int)) {x1 : Int32} {h : AH} (H : (((I 12) ≤ x1) → (SpV g l mX8_read (sI (sI h 82 49 (I 0)) 82 2 (I 0)) [.ref 82] (fun hv2 => GI g l X Q hv2 53 [(0, .ref 82), (1, .int (I 0))] []))) ∧ ((¬ ((I 12) ≤ x1)) → (∃ j3 : Nat, x1 = I (j3 : Int) ∧ j3 < 12 ∧ (∃ j4 : Nat, x1 = I (j4 : Int) ∧ j4 < 12 ∧ (∃ j5 : Nat, x1 = I (j5 : Int) ∧ j5 < 12 ∧ (GI g l X Q (sI (sI (sI h 96 j3 (I 0)) 97 j4 (I 999)) 98 j5 (I 0)) 2 [(0, .ref 82), (1, .int (x1 + I 1))] [])))))) : GI g l X Q h 2 [(0, .ref 82), (1, .int x1)] [] := by
  refine g_iloadn (pc := 2) O rfl dX8_book_2 ?_
  refine g_bipush (v := (I 12)) (pc := 3) O (by decide) dX8_book_3 ?_
  refine g_icmp_ge (tgt := 37) (pc := 5) O dX8_book_5 rfl (fun q1 => ?_) (fun q1 => ?_)
  · replace H := H.1 q1
    refine g_aloadn (pc := 37) O rfl dX8_book_37 ?_
    refine g_iconst (v := (I 0)) (pc := 38) O rfl dX8_book_38 ?_
    refine g_putI (pc := 39) O cls8 fl_X8_184 dX8_book_39 rfl (ltb rfl) (leb rfl) (ltb rfl) rfl rfl (by decide +kernel) ?_
    refine g_aloadn (pc := 42) O rfl dX8_book_42 ?_
    refine g_iconst (v := (I 0)) (pc := 43) O rfl dX8_book_43 ?_
    refine g_putI (pc := 44) O cls8 fl_X8_126 dX8_book_44 rfl (ltb rfl) (leb rfl) (ltb rfl) rfl rfl (by decide +kernel) ?_
    refine g_iconst (v := (I 0)) (pc := 47) O rfl dX8_book_47 ?_
    refine g_istoren (lv' := [(0, .ref 82), (1, .int (I 0))]) (pc := 48) O dX8_book_48 rfl (ltb rfl) rfl ?_
    refine g_aloadn (pc := 49) O rfl dX8_book_49 ?_
    refine g_vV [] [] (pc := 50) O mk_X8_read ml_X8_157 im_X8_read se_X8_read cls8 rfl ⟨rfl, rfl, leb rfl, leb rfl⟩ rfl (leb rfl) dX8_book_50 H rfl (fun hv2 H => ?_)
    exact H
  · replace H := H.2 q1
    refine g_aloadn (pc := 8) O rfl dX8_book_8 ?_
    refine g_getS (pc := 9) O cls8 fl_X8_49 dX8_book_9 rfl (ltb rfl) (ltb rfl) rfl rfl ?_
    refine g_iloadn (pc := 12) O rfl dX8_book_12 ?_
    refine g_iconst (v := (I 0)) (pc := 13) O rfl dX8_book_13 ?_
    obtain ⟨j3, ej3, bj3, H⟩ := H
    refine g_iast (j := j3) (pc := 14) O dX8_book_14 ej3 rfl (ltb rfl) (leb rfl) bj3 (ltb rfl) ?_
    refine g_aloadn (pc := 15) O rfl dX8_book_15 ?_
    refine g_getS (pc := 16) O cls8 fl_X8_52 dX8_book_16 rfl (ltb rfl) (ltb rfl) rfl rfl ?_
    refine g_iloadn (pc := 19) O rfl dX8_book_19 ?_
    refine g_sipush (v := (I 999)) (pc := 20) O (by decide) dX8_book_20 ?_
    obtain ⟨j4, ej4, bj4, H⟩ := H
    refine g_iast (j := j4) (pc := 23) O dX8_book_23 ej4 rfl (ltb rfl) (leb rfl) bj4 (ltb rfl) ?_
    refine g_aloadn (pc := 24) O rfl dX8_book_24 ?_
    refine g_getS (pc := 25) O cls8 fl_X8_55 dX8_book_25 rfl (ltb rfl) (ltb rfl) rfl rfl ?_
    refine g_iloadn (pc := 28) O rfl dX8_book_28 ?_
    refine g_iconst (v := (I 0)) (pc := 29) O rfl dX8_book_29 ?_
    obtain ⟨j5, ej5, bj5, H⟩ := H
    refine g_iast (j := j5) (pc := 30) O dX8_book_30 ej5 rfl (ltb rfl) (leb rfl) bj5 (ltb rfl) ?_
    refine g_iinc (lv' := [(0, .ref 82), (1, .int (x1 + I 1))]) (pc := 31) O dX8_book_31 rfl rfl (ltb rfl) rfl ?_
    refine g_goto (tgt := 2) (pc := 34) O dX8_book_34 rfl ?_
    exact H
set_option maxRecDepth 20000 in
set_option maxHeartbeats 2000000 in
theorem bX8_book_53 {g : mg} {l : Launch} {X : XT} {Q : Int32 → AH → Prop} (O : Ok (FF g l X) RX8 cX8_book 3 mX8_book.2.2.2.2 (some .int)) {x1 : Int32} {h : AH} (H : (((h.1 82 4) = 0) → (GI g l X Q h 138 [(0, .ref 82), (1, .int x1), (2, .int (I 0))] [])) ∧ ((¬ ((h.1 82 4) = 0)) → (((¬ (h.1 82 4) = (I 6)) → (((¬ (h.1 82 4) = (I 7)) → (((¬ (h.1 82 4) = (I 8)) → (((¬ (I 0) = 0) → (SpV g l mX8_read h [.ref 82] (fun hv6 => GI g l X Q hv6 53 [(0, .ref 82), (1, .int (x1 + I 1))] []))) ∧ (((I 0) = 0) → (Q ((I (-10)) - (h.1 82 3)) h)))) ∧ (((h.1 82 4) = (I 8)) → (SpI g l mX8_isBill h [.ref 82] (fun v7 hv7 => ((v7 = 0) → (((¬ (I 0) = 0) → (SpV g l mX8_read hv7 [.ref 82] (fun hv10 => GI g l X Q hv10 53 [(0, .ref 82), (1, .int (x1 + I 1))] []))) ∧ (((I 0) = 0) → (Q ((I (-10)) - (hv7.1 82 3)) hv7)))) ∧ ((¬ (v7 = 0)) → (((¬ (I 1) = 0) → (SpV g l mX8_read hv7 [.ref 82] (fun hv12 => GI g l X Q hv12 53 [(0, .ref 82), (1, .int (x1 + I 1))] []))) ∧ (((I 1) = 0) → (Q ((I (-10)) - (hv7.1 82 3)) hv7))))))))) ∧ (((h.1 82 4) = (I 7)) → (SpI g l mX8_areAlike h [.ref 82] (fun v13 hv13 => ((¬ v13 = 0) → (SpV g l mX8_read hv13 [.ref 82] (fun hv15 => GI g l X Q hv15 53 [(0, .ref 82), (1, .int (x1 + I 1))] []))) ∧ ((v13 = 0) → (Q ((I (-10)) - (hv13.1 82 3)) hv13))))))) ∧ (((h.1 82 4) = (I 6)) → (SpI g l mX8_isStuff h [.ref 82] (fun v16 hv16 => ((¬ v16 = 0) → (SpV g l mX8_read hv16 [.ref 82] (fun hv18 => GI g l X Q hv18 53 [(0, .ref 82), (1, .int (x1 + I 1))] []))) ∧ ((v16 = 0) → (Q ((I (-10)) - (hv16.1 82 3)) hv16)))))))) : GI g l X Q h 53 [(0, .ref 82), (1, .int x1)] [] := by
  refine g_aloadn (pc := 53) O rfl dX8_book_53 ?_
  refine g_getI (v := h.1 82 4) (pc := 54) O cls8 fl_X8_136 dX8_book_54 rfl (ltb rfl) (ltb rfl) rfl rfl ?_
  refine g_if_eq (tgt := 136) (pc := 57) O dX8_book_57 rfl (fun q1 => ?_) (fun q1 => ?_)
  · replace H := H.1 q1
    refine g_iconst (v := (I 0)) (pc := 136) O rfl dX8_book_136 ?_
    refine g_istoren (lv' := [(0, .ref 82), (1, .int x1), (2, .int (I 0))]) (pc := 137) O dX8_book_137 rfl (ltb rfl) rfl ?_
    exact H
  · replace H := H.2 q1
    refine g_aloadn (pc := 60) O rfl dX8_book_60 ?_
    refine g_getI (v := h.1 82 4) (pc := 61) O cls8 fl_X8_136 dX8_book_61 rfl (ltb rfl) (ltb rfl) rfl rfl ?_
    refine g_bipush (v := (I 6)) (pc := 64) O (by decide) dX8_book_64 ?_
    refine g_icmp_ne (tgt := 76) (pc := 66) O dX8_book_66 rfl (fun q2 => ?_) (fun q2 => ?_)
    · replace H := H.1 q2
      refine g_aloadn (pc := 76) O rfl dX8_book_76 ?_
      refine g_getI (v := h.1 82 4) (pc := 77) O cls8 fl_X8_136 dX8_book_77 rfl (ltb rfl) (ltb rfl) rfl rfl ?_
      refine g_bipush (v := (I 7)) (pc := 80) O (by decide) dX8_book_80 ?_
      refine g_icmp_ne (tgt := 92) (pc := 82) O dX8_book_82 rfl (fun q3 => ?_) (fun q3 => ?_)
      · replace H := H.1 q3
        refine g_aloadn (pc := 92) O rfl dX8_book_92 ?_
        refine g_getI (v := h.1 82 4) (pc := 93) O cls8 fl_X8_136 dX8_book_93 rfl (ltb rfl) (ltb rfl) rfl rfl ?_
        refine g_bipush (v := (I 8)) (pc := 96) O (by decide) dX8_book_96 ?_
        refine g_icmp_ne (tgt := 112) (pc := 98) O dX8_book_98 rfl (fun q4 => ?_) (fun q4 => ?_)
        · replace H := H.1 q4
          refine g_iconst (v := (I 0)) (pc := 112) O rfl dX8_book_112 ?_
          refine g_istoren (lv' := [(0, .ref 82), (1, .int x1), (2, .int (I 0))]) (pc := 113) O dX8_book_113 rfl (ltb rfl) rfl ?_
          refine g_iloadn (pc := 114) O rfl dX8_book_114 ?_
          refine g_if_ne (tgt := 126) (pc := 115) O dX8_book_115 rfl (fun q5 => ?_) (fun q5 => ?_)
          · replace H := H.1 q5
            refine g_iinc (lv' := [(0, .ref 82), (1, .int (x1 + I 1)), (2, .int (I 0))]) (pc := 126) O dX8_book_126 rfl rfl (ltb rfl) rfl ?_
            refine g_aloadn (pc := 129) O rfl dX8_book_129 ?_
            refine g_vV [] [] (pc := 130) O mk_X8_read ml_X8_157 im_X8_read se_X8_read cls8 rfl ⟨rfl, rfl, leb rfl, leb rfl⟩ rfl (leb rfl) dX8_book_130 H rfl (fun hv6 H => ?_)
            refine g_goto (tgt := 53) (pc := 133) O dX8_book_133 rfl ?_
            refine g_sub [0, 1] rfl ?_
            exact H
          · replace H := H.2 q5
            refine g_bipush (v := (I (-10))) (pc := 118) O (by decide) dX8_book_118 ?_
            refine g_aloadn (pc := 120) O rfl dX8_book_120 ?_
            refine g_getI (v := h.1 82 3) (pc := 121) O cls8 fl_X8_133 dX8_book_121 rfl (ltb rfl) (ltb rfl) rfl rfl ?_
            refine g_isub (pc := 124) O dX8_book_124 ?_
            exact g_iret (pc := 125) O dX8_book_125 H
        · replace H := H.2 q4
          refine g_aloadn (pc := 101) O rfl dX8_book_101 ?_
          refine g_vI [] [] (pc := 102) O mk_X8_isBill ml_X8_193 im_X8_isBill se_X8_isBill cls8 rfl ⟨rfl, rfl, leb rfl, leb rfl⟩ rfl (leb rfl) dX8_book_102 H rfl (fun v7 hv7 H => ?_)
          refine g_if_eq (tgt := 112) (pc := 105) O dX8_book_105 rfl (fun q8 => ?_) (fun q8 => ?_)
          · replace H := H.1 q8
            refine g_iconst (v := (I 0)) (pc := 112) O rfl dX8_book_112 ?_
            refine g_istoren (lv' := [(0, .ref 82), (1, .int x1), (2, .int (I 0))]) (pc := 113) O dX8_book_113 rfl (ltb rfl) rfl ?_
            refine g_iloadn (pc := 114) O rfl dX8_book_114 ?_
            refine g_if_ne (tgt := 126) (pc := 115) O dX8_book_115 rfl (fun q9 => ?_) (fun q9 => ?_)
            · replace H := H.1 q9
              refine g_iinc (lv' := [(0, .ref 82), (1, .int (x1 + I 1)), (2, .int (I 0))]) (pc := 126) O dX8_book_126 rfl rfl (ltb rfl) rfl ?_
              refine g_aloadn (pc := 129) O rfl dX8_book_129 ?_
              refine g_vV [] [] (pc := 130) O mk_X8_read ml_X8_157 im_X8_read se_X8_read cls8 rfl ⟨rfl, rfl, leb rfl, leb rfl⟩ rfl (leb rfl) dX8_book_130 H rfl (fun hv10 H => ?_)
              refine g_goto (tgt := 53) (pc := 133) O dX8_book_133 rfl ?_
              refine g_sub [0, 1] rfl ?_
              exact H
            · replace H := H.2 q9
              refine g_bipush (v := (I (-10))) (pc := 118) O (by decide) dX8_book_118 ?_
              refine g_aloadn (pc := 120) O rfl dX8_book_120 ?_
              refine g_getI (v := hv7.1 82 3) (pc := 121) O cls8 fl_X8_133 dX8_book_121 rfl (ltb rfl) (ltb rfl) rfl rfl ?_
              refine g_isub (pc := 124) O dX8_book_124 ?_
              exact g_iret (pc := 125) O dX8_book_125 H
          · replace H := H.2 q8
            refine g_iconst (v := (I 1)) (pc := 108) O rfl dX8_book_108 ?_
            refine g_goto (tgt := 113) (pc := 109) O dX8_book_109 rfl ?_
            refine g_istoren (lv' := [(0, .ref 82), (1, .int x1), (2, .int (I 1))]) (pc := 113) O dX8_book_113 rfl (ltb rfl) rfl ?_
            refine g_iloadn (pc := 114) O rfl dX8_book_114 ?_
            refine g_if_ne (tgt := 126) (pc := 115) O dX8_book_115 rfl (fun q11 => ?_) (fun q11 => ?_)
            · replace H := H.1 q11
              refine g_iinc (lv' := [(0, .ref 82), (1, .int (x1 + I 1)), (2, .int (I 1))]) (pc := 126) O dX8_book_126 rfl rfl (ltb rfl) rfl ?_
              refine g_aloadn (pc := 129) O rfl dX8_book_129 ?_
              refine g_vV [] [] (pc := 130) O mk_X8_read ml_X8_157 im_X8_read se_X8_read cls8 rfl ⟨rfl, rfl, leb rfl, leb rfl⟩ rfl (leb rfl) dX8_book_130 H rfl (fun hv12 H => ?_)
              refine g_goto (tgt := 53) (pc := 133) O dX8_book_133 rfl ?_
              refine g_sub [0, 1] rfl ?_
              exact H
            · replace H := H.2 q11
              refine g_bipush (v := (I (-10))) (pc := 118) O (by decide) dX8_book_118 ?_
              refine g_aloadn (pc := 120) O rfl dX8_book_120 ?_
              refine g_getI (v := hv7.1 82 3) (pc := 121) O cls8 fl_X8_133 dX8_book_121 rfl (ltb rfl) (ltb rfl) rfl rfl ?_
              refine g_isub (pc := 124) O dX8_book_124 ?_
              exact g_iret (pc := 125) O dX8_book_125 H
      · replace H := H.2 q3
        refine g_aloadn (pc := 85) O rfl dX8_book_85 ?_
        refine g_vI [] [] (pc := 86) O mk_X8_areAlike ml_X8_190 im_X8_areAlike se_X8_areAlike cls8 rfl ⟨rfl, rfl, leb rfl, leb rfl⟩ rfl (leb rfl) dX8_book_86 H rfl (fun v13 hv13 H => ?_)
        refine g_goto (tgt := 113) (pc := 89) O dX8_book_89 rfl ?_
        refine g_istoren (lv' := [(0, .ref 82), (1, .int x1), (2, .int v13)]) (pc := 113) O dX8_book_113 rfl (ltb rfl) rfl ?_
        refine g_iloadn (pc := 114) O rfl dX8_book_114 ?_
        refine g_if_ne (tgt := 126) (pc := 115) O dX8_book_115 rfl (fun q14 => ?_) (fun q14 => ?_)
        · replace H := H.1 q14
          refine g_iinc (lv' := [(0, .ref 82), (1, .int (x1 + I 1)), (2, .int v13)]) (pc := 126) O dX8_book_126 rfl rfl (ltb rfl) rfl ?_
          refine g_aloadn (pc := 129) O rfl dX8_book_129 ?_
          refine g_vV [] [] (pc := 130) O mk_X8_read ml_X8_157 im_X8_read se_X8_read cls8 rfl ⟨rfl, rfl, leb rfl, leb rfl⟩ rfl (leb rfl) dX8_book_130 H rfl (fun hv15 H => ?_)
          refine g_goto (tgt := 53) (pc := 133) O dX8_book_133 rfl ?_
          refine g_sub [0, 1] rfl ?_
          exact H
        · replace H := H.2 q14
          refine g_bipush (v := (I (-10))) (pc := 118) O (by decide) dX8_book_118 ?_
          refine g_aloadn (pc := 120) O rfl dX8_book_120 ?_
          refine g_getI (v := hv13.1 82 3) (pc := 121) O cls8 fl_X8_133 dX8_book_121 rfl (ltb rfl) (ltb rfl) rfl rfl ?_
          refine g_isub (pc := 124) O dX8_book_124 ?_
          exact g_iret (pc := 125) O dX8_book_125 H
    · replace H := H.2 q2
      refine g_aloadn (pc := 69) O rfl dX8_book_69 ?_
      refine g_vI [] [] (pc := 70) O mk_X8_isStuff ml_X8_187 im_X8_isStuff se_X8_isStuff cls8 rfl ⟨rfl, rfl, leb rfl, leb rfl⟩ rfl (leb rfl) dX8_book_70 H rfl (fun v16 hv16 H => ?_)
      refine g_goto (tgt := 113) (pc := 73) O dX8_book_73 rfl ?_
      refine g_istoren (lv' := [(0, .ref 82), (1, .int x1), (2, .int v16)]) (pc := 113) O dX8_book_113 rfl (ltb rfl) rfl ?_
      refine g_iloadn (pc := 114) O rfl dX8_book_114 ?_
      refine g_if_ne (tgt := 126) (pc := 115) O dX8_book_115 rfl (fun q17 => ?_) (fun q17 => ?_)
      · replace H := H.1 q17
        refine g_iinc (lv' := [(0, .ref 82), (1, .int (x1 + I 1)), (2, .int v16)]) (pc := 126) O dX8_book_126 rfl rfl (ltb rfl) rfl ?_
        refine g_aloadn (pc := 129) O rfl dX8_book_129 ?_
        refine g_vV [] [] (pc := 130) O mk_X8_read ml_X8_157 im_X8_read se_X8_read cls8 rfl ⟨rfl, rfl, leb rfl, leb rfl⟩ rfl (leb rfl) dX8_book_130 H rfl (fun hv18 H => ?_)
        refine g_goto (tgt := 53) (pc := 133) O dX8_book_133 rfl ?_
        refine g_sub [0, 1] rfl ?_
        exact H
      · replace H := H.2 q17
        refine g_bipush (v := (I (-10))) (pc := 118) O (by decide) dX8_book_118 ?_
        refine g_aloadn (pc := 120) O rfl dX8_book_120 ?_
        refine g_getI (v := hv16.1 82 3) (pc := 121) O cls8 fl_X8_133 dX8_book_121 rfl (ltb rfl) (ltb rfl) rfl rfl ?_
        refine g_isub (pc := 124) O dX8_book_124 ?_
        exact g_iret (pc := 125) O dX8_book_125 H
set_option maxRecDepth 20000 in
set_option maxHeartbeats 2000000 in
theorem bX8_book_138 {g : mg} {l : Launch} {X : XT} {Q : Int32 → AH → Prop} (O : Ok (FF g l X) RX8 cX8_book 3 mX8_book.2.2.2.2 (some .int)) {x1 : Int32} {x2 : Int32} {h : AH} (H : (((I 12) ≤ x2) → (GI g l X Q (sI h 82 17 (h.1 82 49)) 196 [(0, .ref 82), (1, .int x1), (2, .int (I 0))] [])) ∧ ((¬ ((I 12) ≤ x2)) → (∃ j2 : Nat, x2 = I (j2 : Int) ∧ j2 < 12 ∧ (∃ j3 : Nat, x2 = I (j3 : Int) ∧ j3 < 12 ∧ (∃ j4 : Nat, x2 = I (j4 : Int) ∧ j4 < 12 ∧ (∃ j5 : Nat, x2 = I (j5 : Int) ∧ j5 < 12 ∧ (∃ j6 : Nat, x2 = I (j6 : Int) ∧ j6 < 12 ∧ (∃ j7 : Nat, x2 = I (j7 : Int) ∧ j7 < 12 ∧ (GI g l X Q (sI (sI (sI h 91 j3 (h.1 96 j2)) 92 j5 (h.1 97 j4)) 93 j7 (h.1 98 j6)) 138 [(0, .ref 82), (1, .int x1), (2, .int (x2 + I 1))] []))))))))) : GI g l X Q h 138 [(0, .ref 82), (1, .int x1), (2, .int x2)] [] := by
  refine g_iloadn (pc := 138) O rfl dX8_book_138 ?_
  refine g_bipush (v := (I 12)) (pc := 139) O (by decide) dX8_book_139 ?_
  refine g_icmp_ge (tgt := 186) (pc := 141) O dX8_book_141 rfl (fun q1 => ?_) (fun q1 => ?_)
  · replace H := H.1 q1
    refine g_aloadn (pc := 186) O rfl dX8_book_186 ?_
    refine g_aloadn (pc := 187) O rfl dX8_book_187 ?_
    refine g_getI (v := h.1 82 49) (pc := 188) O cls8 fl_X8_184 dX8_book_188 rfl (ltb rfl) (ltb rfl) rfl rfl ?_
    refine g_putI (pc := 191) O cls8 fl_X8_196 dX8_book_191 rfl (ltb rfl) (leb rfl) (ltb rfl) rfl rfl (by decide +kernel) ?_
    refine g_iconst (v := (I 0)) (pc := 194) O rfl dX8_book_194 ?_
    refine g_istoren (lv' := [(0, .ref 82), (1, .int x1), (2, .int (I 0))]) (pc := 195) O dX8_book_195 rfl (ltb rfl) rfl ?_
    exact H
  · replace H := H.2 q1
    refine g_aloadn (pc := 144) O rfl dX8_book_144 ?_
    refine g_getS (pc := 145) O cls8 fl_X8_34 dX8_book_145 rfl (ltb rfl) (ltb rfl) rfl rfl ?_
    refine g_iloadn (pc := 148) O rfl dX8_book_148 ?_
    refine g_aloadn (pc := 149) O rfl dX8_book_149 ?_
    refine g_getS (pc := 150) O cls8 fl_X8_49 dX8_book_150 rfl (ltb rfl) (ltb rfl) rfl rfl ?_
    refine g_iloadn (pc := 153) O rfl dX8_book_153 ?_
    obtain ⟨j2, ej2, bj2, H⟩ := H
    refine g_iald (j := j2) (pc := 154) O dX8_book_154 ej2 rfl (ltb rfl) bj2 (ltb rfl) rfl ?_
    obtain ⟨j3, ej3, bj3, H⟩ := H
    refine g_iast (j := j3) (pc := 155) O dX8_book_155 ej3 rfl (ltb rfl) (leb rfl) bj3 (ltb rfl) ?_
    refine g_aloadn (pc := 156) O rfl dX8_book_156 ?_
    refine g_getS (pc := 157) O cls8 fl_X8_37 dX8_book_157 rfl (ltb rfl) (ltb rfl) rfl rfl ?_
    refine g_iloadn (pc := 160) O rfl dX8_book_160 ?_
    refine g_aloadn (pc := 161) O rfl dX8_book_161 ?_
    refine g_getS (pc := 162) O cls8 fl_X8_52 dX8_book_162 rfl (ltb rfl) (ltb rfl) rfl rfl ?_
    refine g_iloadn (pc := 165) O rfl dX8_book_165 ?_
    obtain ⟨j4, ej4, bj4, H⟩ := H
    refine g_iald (j := j4) (pc := 166) O dX8_book_166 ej4 rfl (ltb rfl) bj4 (ltb rfl) rfl ?_
    obtain ⟨j5, ej5, bj5, H⟩ := H
    refine g_iast (j := j5) (pc := 167) O dX8_book_167 ej5 rfl (ltb rfl) (leb rfl) bj5 (ltb rfl) ?_
    refine g_aloadn (pc := 168) O rfl dX8_book_168 ?_
    refine g_getS (pc := 169) O cls8 fl_X8_40 dX8_book_169 rfl (ltb rfl) (ltb rfl) rfl rfl ?_
    refine g_iloadn (pc := 172) O rfl dX8_book_172 ?_
    refine g_aloadn (pc := 173) O rfl dX8_book_173 ?_
    refine g_getS (pc := 174) O cls8 fl_X8_55 dX8_book_174 rfl (ltb rfl) (ltb rfl) rfl rfl ?_
    refine g_iloadn (pc := 177) O rfl dX8_book_177 ?_
    obtain ⟨j6, ej6, bj6, H⟩ := H
    refine g_iald (j := j6) (pc := 178) O dX8_book_178 ej6 rfl (ltb rfl) bj6 (ltb rfl) rfl ?_
    obtain ⟨j7, ej7, bj7, H⟩ := H
    refine g_iast (j := j7) (pc := 179) O dX8_book_179 ej7 rfl (ltb rfl) (leb rfl) bj7 (ltb rfl) ?_
    refine g_iinc (lv' := [(0, .ref 82), (1, .int x1), (2, .int (x2 + I 1))]) (pc := 180) O dX8_book_180 rfl rfl (ltb rfl) rfl ?_
    refine g_goto (tgt := 138) (pc := 183) O dX8_book_183 rfl ?_
    exact H
set_option maxRecDepth 20000 in
set_option maxHeartbeats 2000000 in
theorem bX8_book_196 {g : mg} {l : Launch} {X : XT} {Q : Int32 → AH → Prop} (O : Ok (FF g l X) RX8 cX8_book 3 mX8_book.2.2.2.2 (some .int)) {x1 : Int32} {x2 : Int32} {h : AH} (H : (((h.1 82 17) ≤ x2) → (Q x1 (sI (sI h 82 1 (I 0)) 82 41 (I 0)))) ∧ ((¬ ((h.1 82 17) ≤ x2)) → (∃ j2 : Nat, x2 = I (j2 : Int) ∧ j2 < 8 ∧ (∃ j3 : Nat, x2 = I (j3 : Int) ∧ j3 < 8 ∧ (∃ j4 : Nat, x2 = I (j4 : Int) ∧ j4 < 8 ∧ (∃ j5 : Nat, x2 = I (j5 : Int) ∧ j5 < 8 ∧ (GI g l X Q (sI (sI h 94 j3 (h.1 99 j2)) 95 j5 (h.1 100 j4)) 196 [(0, .ref 82), (1, .int x1), (2, .int (x2 + I 1))] []))))))) : GI g l X Q h 196 [(0, .ref 82), (1, .int x1), (2, .int x2)] [] := by
  refine g_iloadn (pc := 196) O rfl dX8_book_196 ?_
  refine g_aloadn (pc := 197) O rfl dX8_book_197 ?_
  refine g_getI (v := h.1 82 17) (pc := 198) O cls8 fl_X8_196 dX8_book_198 rfl (ltb rfl) (ltb rfl) rfl rfl ?_
  refine g_icmp_ge (tgt := 234) (pc := 201) O dX8_book_201 rfl (fun q1 => ?_) (fun q1 => ?_)
  · replace H := H.1 q1
    refine g_aloadn (pc := 234) O rfl dX8_book_234 ?_
    refine g_iconst (v := (I 0)) (pc := 235) O rfl dX8_book_235 ?_
    refine g_putI (pc := 236) O cls8 fl_X8_120 dX8_book_236 rfl (ltb rfl) (leb rfl) (ltb rfl) rfl rfl (by decide +kernel) ?_
    refine g_aloadn (pc := 239) O rfl dX8_book_239 ?_
    refine g_iconst (v := (I 0)) (pc := 240) O rfl dX8_book_240 ?_
    refine g_putZ (pc := 241) O cls8 fl_X8_180 dX8_book_241 rfl (ltb rfl) (leb rfl) (ltb rfl) rfl rfl (by decide +kernel) (by decide) ?_
    refine g_iloadn (pc := 244) O rfl dX8_book_244 ?_
    exact g_iret (pc := 245) O dX8_book_245 H
  · replace H := H.2 q1
    refine g_aloadn (pc := 204) O rfl dX8_book_204 ?_
    refine g_getS (pc := 205) O cls8 fl_X8_43 dX8_book_205 rfl (ltb rfl) (ltb rfl) rfl rfl ?_
    refine g_iloadn (pc := 208) O rfl dX8_book_208 ?_
    refine g_aloadn (pc := 209) O rfl dX8_book_209 ?_
    refine g_getS (pc := 210) O cls8 fl_X8_58 dX8_book_210 rfl (ltb rfl) (ltb rfl) rfl rfl ?_
    refine g_iloadn (pc := 213) O rfl dX8_book_213 ?_
    obtain ⟨j2, ej2, bj2, H⟩ := H
    refine g_iald (j := j2) (pc := 214) O dX8_book_214 ej2 rfl (ltb rfl) bj2 (ltb rfl) rfl ?_
    obtain ⟨j3, ej3, bj3, H⟩ := H
    refine g_iast (j := j3) (pc := 215) O dX8_book_215 ej3 rfl (ltb rfl) (leb rfl) bj3 (ltb rfl) ?_
    refine g_aloadn (pc := 216) O rfl dX8_book_216 ?_
    refine g_getS (pc := 217) O cls8 fl_X8_46 dX8_book_217 rfl (ltb rfl) (ltb rfl) rfl rfl ?_
    refine g_iloadn (pc := 220) O rfl dX8_book_220 ?_
    refine g_aloadn (pc := 221) O rfl dX8_book_221 ?_
    refine g_getS (pc := 222) O cls8 fl_X8_61 dX8_book_222 rfl (ltb rfl) (ltb rfl) rfl rfl ?_
    refine g_iloadn (pc := 225) O rfl dX8_book_225 ?_
    obtain ⟨j4, ej4, bj4, H⟩ := H
    refine g_iald (j := j4) (pc := 226) O dX8_book_226 ej4 rfl (ltb rfl) bj4 (ltb rfl) rfl ?_
    obtain ⟨j5, ej5, bj5, H⟩ := H
    refine g_iast (j := j5) (pc := 227) O dX8_book_227 ej5 rfl (ltb rfl) (leb rfl) bj5 (ltb rfl) ?_
    refine g_iinc (lv' := [(0, .ref 82), (1, .int x1), (2, .int (x2 + I 1))]) (pc := 228) O dX8_book_228 rfl rfl (ltb rfl) rfl ?_
    refine g_goto (tgt := 196) (pc := 231) O dX8_book_231 rfl ?_
    exact H
set_option maxRecDepth 20000 in
set_option maxHeartbeats 2000000 in
theorem sX8_book {g : mg} {l : Launch} {Q : Int32 → AH → Prop}  {h : AH} (H : ∀ X, Ok (FF g l X) RX8 cX8_book 3 mX8_book.2.2.2.2 (some .int) → GI g l X Q h 2 [(0, .ref 82), (1, .int (I 0))] []) : SpI g l mX8_book h [.ref 82] Q := spI_of (by decide) (leb rfl) (fun X O => bX8_book_0 O (H X O))
