/-! printed by gen.py: what each stretch of code asks for (H) to come to its end, and its walk -/
set_option maxRecDepth 20000 in
set_option maxHeartbeats 2000000 in
theorem bX5_add_0 {g : mg} {l : Launch} {X : XT} {Q : Int32 → AH → Prop} (O : Ok (FF g l X) RX5 cX5_add 5 mX5_add.2.2.2.2 (some .boolean)) {x1 : Int64} {x3 : Int32} {h : AH} (H : ((x3 ≤ ((I 400) - (h.1 1 1))) → (GI g l X Q h 19 [(0, .ref 1), (1, .long x1), (4, .int (x3 - (I 1)))] [])) ∧ ((¬ (x3 ≤ ((I 400) - (h.1 1 1)))) → (Q (I 0) h))) : GI g l X Q h 0 [(0, .ref 1), (1, .long x1), (3, .int x3)] [] := by
  refine g_iloadn (pc := 0) O rfl dX5_add_0 ?_
  refine g_sipush (v := (I 400)) (pc := 1) O (by decide) dX5_add_1 ?_
  refine g_aloadn (pc := 4) O rfl dX5_add_4 ?_
  refine g_getI (v := h.1 1 1) (pc := 5) O cls5 fl_X5_25 dX5_add_5 rfl (ltb rfl) (ltb rfl) rfl rfl ?_
  refine g_isub (pc := 8) O dX5_add_8 ?_
  refine g_icmp_le (tgt := 14) (pc := 9) O dX5_add_9 rfl (fun q1 => ?_) (fun q1 => ?_)
  · replace H := H.1 q1
    refine g_iloadn (pc := 14) O rfl dX5_add_14 ?_
    refine g_iconst (v := (I 1)) (pc := 15) O rfl dX5_add_15 ?_
    refine g_isub (pc := 16) O dX5_add_16 ?_
    refine g_istore (lv' := [(0, .ref 1), (1, .long x1), (3, .int x3), (4, .int (x3 - (I 1)))]) (pc := 17) O dX5_add_17 (ltb rfl) rfl ?_
    refine g_sub [0, 1, 3] rfl ?_
    exact H
  · replace H := H.2 q1
    refine g_iconst (v := (I 0)) (pc := 12) O rfl dX5_add_12 ?_
    exact g_zret (pc := 13) O dX5_add_13 (by decide) H
set_option maxRecDepth 20000 in
set_option maxHeartbeats 2000000 in
theorem bX5_add_19 {g : mg} {l : Launch} {X : XT} {Q : Int32 → AH → Prop} (O : Ok (FF g l X) RX5 cX5_add 5 mX5_add.2.2.2.2 (some .boolean)) {x1 : Int64} {x4 : Int32} {h : AH} (H : ((x4 < 0) → (Q (I 1) h)) ∧ ((¬ (x4 < 0)) → (∃ j2 : Nat, (h.1 1 1) = I (j2 : Int) ∧ j2 < 400 ∧ (GI g l X Q (sI (sI h 2 j2 ((((((x1).toUInt64 >>> ((((I 8) * x4)).toInt64.toUInt64 &&& Int64.toUInt64 63)).toInt64).toInt32).toInt8.toInt32).toInt8.toInt32)) 1 1 ((h.1 1 1) + (I 1))) 19 [(0, .ref 1), (1, .long x1), (4, .int (x4 + I (-1)))] [])))) : GI g l X Q h 19 [(0, .ref 1), (1, .long x1), (4, .int x4)] [] := by
  refine g_iload (pc := 19) O rfl dX5_add_19 ?_
  refine g_if_lt (tgt := 58) (pc := 21) O dX5_add_21 rfl (fun q1 => ?_) (fun q1 => ?_)
  · replace H := H.1 q1
    refine g_iconst (v := (I 1)) (pc := 58) O rfl dX5_add_58 ?_
    exact g_zret (pc := 59) O dX5_add_59 (by decide) H
  · replace H := H.2 q1
    refine g_aloadn (pc := 24) O rfl dX5_add_24 ?_
    refine g_getS (pc := 25) O cls5 fl_X5_9 dX5_add_25 rfl (ltb rfl) (ltb rfl) rfl rfl ?_
    refine g_aloadn (pc := 28) O rfl dX5_add_28 ?_
    refine g_getI (v := h.1 1 1) (pc := 29) O cls5 fl_X5_25 dX5_add_29 rfl (ltb rfl) (ltb rfl) rfl rfl ?_
    refine g_lloadn (pc := 32) O rfl dX5_add_32 ?_
    refine g_bipush (v := (I 8)) (pc := 33) O (by decide) dX5_add_33 ?_
    refine g_iload (pc := 35) O rfl dX5_add_35 ?_
    refine g_imul (pc := 37) O dX5_add_37 ?_
    refine g_lushr (pc := 38) O dX5_add_38 ?_
    refine g_l2i (pc := 39) O dX5_add_39 ?_
    refine g_i2b (pc := 40) O dX5_add_40 ?_
    obtain ⟨j2, ej2, bj2, H⟩ := H
    refine g_bast (j := j2) (pc := 41) O dX5_add_41 ej2 rfl (ltb rfl) (leb rfl) bj2 (ltb rfl) ?_
    refine g_aloadn (pc := 42) O rfl dX5_add_42 ?_
    refine g_dup (pc := 43) O rfl dX5_add_43 ?_
    refine g_getI (v := h.1 1 1) (pc := 44) O cls5 fl_X5_25 dX5_add_44 rfl (ltb rfl) (ltb rfl) rfl rfl ?_
    refine g_iconst (v := (I 1)) (pc := 47) O rfl dX5_add_47 ?_
    refine g_iadd (pc := 48) O dX5_add_48 ?_
    refine g_putI (pc := 49) O cls5 fl_X5_25 dX5_add_49 rfl (ltb rfl) (leb rfl) (ltb rfl) rfl rfl (by decide +kernel) ?_
    refine g_iinc (lv' := [(0, .ref 1), (1, .long x1), (4, .int (x4 + I (-1)))]) (pc := 52) O dX5_add_52 rfl rfl (ltb rfl) rfl ?_
    refine g_goto (tgt := 19) (pc := 55) O dX5_add_55 rfl ?_
    exact H
set_option maxRecDepth 20000 in
set_option maxHeartbeats 2000000 in
theorem sX5_add {g : mg} {l : Launch} {Q : Int32 → AH → Prop} {x1 : Int64} {x3 : Int32} {h : AH} (H : ∀ X, Ok (FF g l X) RX5 cX5_add 5 mX5_add.2.2.2.2 (some .boolean) → ((x3 ≤ ((I 400) - (h.1 1 1))) → (GI g l X Q h 19 [(0, .ref 1), (1, .long x1), (4, .int (x3 - (I 1)))] [])) ∧ ((¬ (x3 ≤ ((I 400) - (h.1 1 1)))) → (Q (I 0) h))) : SpI g l mX5_add h [.ref 1, .long x1, .int x3] Q := spI_of (by decide) (leb rfl) (fun X O => bX5_add_0 O (H X O))
set_option maxRecDepth 20000 in
set_option maxHeartbeats 2000000 in
theorem bX5_split_0 {g : mg} {l : Launch} {X : XT} {Q : AH → Prop} (O : Ok (FF g l X) RX5 cX5_split 2 mX5_split.2.2.2.2 none)  {h : AH} (H : GV g l X Q (sI (sI h 1 6 (I 0)) 1 7 (I 0)) 12 [(0, .ref 1), (1, .int (I 0))] []) : GV g l X Q h 0 [(0, .ref 1)] [] := by
  refine g_aloadn (pc := 0) O rfl dX5_split_0 ?_
  refine g_iconst (v := (I 0)) (pc := 1) O rfl dX5_split_1 ?_
  refine g_putI (pc := 2) O cls5 fl_X5_29 dX5_split_2 rfl (ltb rfl) (leb rfl) (ltb rfl) rfl rfl (by decide +kernel) ?_
  refine g_aloadn (pc := 5) O rfl dX5_split_5 ?_
  refine g_iconst (v := (I 0)) (pc := 6) O rfl dX5_split_6 ?_
  refine g_putI (pc := 7) O cls5 fl_X5_32 dX5_split_7 rfl (ltb rfl) (leb rfl) (ltb rfl) rfl rfl (by decide +kernel) ?_
  refine g_iconst (v := (I 0)) (pc := 10) O rfl dX5_split_10 ?_
  refine g_istoren (lv' := [(0, .ref 1), (1, .int (I 0))]) (pc := 11) O dX5_split_11 rfl (ltb rfl) rfl ?_
  exact H
set_option maxRecDepth 20000 in
set_option maxHeartbeats 2000000 in
theorem bX5_split_12 {g : mg} {l : Launch} {X : XT} {Q : AH → Prop} (O : Ok (FF g l X) RX5 cX5_split 2 mX5_split.2.2.2.2 none) {x1 : Int32} {h : AH} (H : (((h.1 1 1) ≤ x1) → (∃ j2 : Nat, (h.1 1 6) = I (j2 : Int) ∧ j2 < 401 ∧ (∃ j3 : Nat, (h.1 1 6) = I (j3 : Int) ∧ j3 < 401 ∧ (Q (sI (sI h 3 j2 (I 0)) 5 j3 (h.1 1 1)))))) ∧ ((¬ ((h.1 1 1) ≤ x1)) → (SpI g l mX5_beginsToken h [.ref 1, .int x1] (fun v4 hv4 => ((v4 = 0) → (GV g l X Q hv4 12 [(0, .ref 1), (1, .int (x1 + I 1))] [])) ∧ ((¬ (v4 = 0)) → (∃ j6 : Nat, (hv4.1 1 6) = I (j6 : Int) ∧ j6 < 401 ∧ (SpV g l mX5_readToken (sI hv4 5 j6 x1) [.ref 1, .int x1] (fun hv7 => GV g l X Q (sI hv7 1 6 ((hv7.1 1 6) + (I 1))) 12 [(0, .ref 1), (1, .int (x1 + I 1))] [])))))))) : GV g l X Q h 12 [(0, .ref 1), (1, .int x1)] [] := by
  refine g_iloadn (pc := 12) O rfl dX5_split_12 ?_
  refine g_aloadn (pc := 13) O rfl dX5_split_13 ?_
  refine g_getI (v := h.1 1 1) (pc := 14) O cls5 fl_X5_25 dX5_split_14 rfl (ltb rfl) (ltb rfl) rfl rfl ?_
  refine g_icmp_ge (tgt := 59) (pc := 17) O dX5_split_17 rfl (fun q1 => ?_) (fun q1 => ?_)
  · replace H := H.1 q1
    refine g_aloadn (pc := 59) O rfl dX5_split_59 ?_
    refine g_getS (pc := 60) O cls5 fl_X5_15 dX5_split_60 rfl (ltb rfl) (ltb rfl) rfl rfl ?_
    refine g_aloadn (pc := 63) O rfl dX5_split_63 ?_
    refine g_getI (v := h.1 1 6) (pc := 64) O cls5 fl_X5_29 dX5_split_64 rfl (ltb rfl) (ltb rfl) rfl rfl ?_
    refine g_iconst (v := (I 0)) (pc := 67) O rfl dX5_split_67 ?_
    obtain ⟨j2, ej2, bj2, H⟩ := H
    refine g_iast (j := j2) (pc := 68) O dX5_split_68 ej2 rfl (ltb rfl) (leb rfl) bj2 (ltb rfl) ?_
    refine g_aloadn (pc := 69) O rfl dX5_split_69 ?_
    refine g_getS (pc := 70) O cls5 fl_X5_22 dX5_split_70 rfl (ltb rfl) (ltb rfl) rfl rfl ?_
    refine g_aloadn (pc := 73) O rfl dX5_split_73 ?_
    refine g_getI (v := h.1 1 6) (pc := 74) O cls5 fl_X5_29 dX5_split_74 rfl (ltb rfl) (ltb rfl) rfl rfl ?_
    refine g_aloadn (pc := 77) O rfl dX5_split_77 ?_
    refine g_getI (v := h.1 1 1) (pc := 78) O cls5 fl_X5_25 dX5_split_78 rfl (ltb rfl) (ltb rfl) rfl rfl ?_
    obtain ⟨j3, ej3, bj3, H⟩ := H
    refine g_iast (j := j3) (pc := 81) O dX5_split_81 ej3 rfl (ltb rfl) (leb rfl) bj3 (ltb rfl) ?_
    exact g_vret (pc := 82) O dX5_split_82 H
  · replace H := H.2 q1
    refine g_aloadn (pc := 20) O rfl dX5_split_20 ?_
    refine g_iloadn (pc := 21) O rfl dX5_split_21 ?_
    refine g_vI [.int x1] [] (pc := 22) O mk_X5_beginsToken ml_X5_35 im_X5_beginsToken se_X5_beginsToken cls5 rfl ⟨rfl, rfl, leb rfl, leb rfl⟩ rfl (leb rfl) dX5_split_22 H rfl (fun v4 hv4 H => ?_)
    refine g_if_eq (tgt := 53) (pc := 25) O dX5_split_25 rfl (fun q5 => ?_) (fun q5 => ?_)
    · replace H := H.1 q5
      refine g_iinc (lv' := [(0, .ref 1), (1, .int (x1 + I 1))]) (pc := 53) O dX5_split_53 rfl rfl (ltb rfl) rfl ?_
      refine g_goto (tgt := 12) (pc := 56) O dX5_split_56 rfl ?_
      exact H
    · replace H := H.2 q5
      refine g_aloadn (pc := 28) O rfl dX5_split_28 ?_
      refine g_getS (pc := 29) O cls5 fl_X5_22 dX5_split_29 rfl (ltb rfl) (ltb rfl) rfl rfl ?_
      refine g_aloadn (pc := 32) O rfl dX5_split_32 ?_
      refine g_getI (v := hv4.1 1 6) (pc := 33) O cls5 fl_X5_29 dX5_split_33 rfl (ltb rfl) (ltb rfl) rfl rfl ?_
      refine g_iloadn (pc := 36) O rfl dX5_split_36 ?_
      obtain ⟨j6, ej6, bj6, H⟩ := H
      refine g_iast (j := j6) (pc := 37) O dX5_split_37 ej6 rfl (ltb rfl) (leb rfl) bj6 (ltb rfl) ?_
      refine g_aloadn (pc := 38) O rfl dX5_split_38 ?_
      refine g_iloadn (pc := 39) O rfl dX5_split_39 ?_
      refine g_vV [.int x1] [] (pc := 40) O mk_X5_readToken ml_X5_39 im_X5_readToken se_X5_readToken cls5 rfl ⟨rfl, rfl, leb rfl, leb rfl⟩ rfl (leb rfl) dX5_split_40 H rfl (fun hv7 H => ?_)
      refine g_aloadn (pc := 43) O rfl dX5_split_43 ?_
      refine g_dup (pc := 44) O rfl dX5_split_44 ?_
      refine g_getI (v := hv7.1 1 6) (pc := 45) O cls5 fl_X5_29 dX5_split_45 rfl (ltb rfl) (ltb rfl) rfl rfl ?_
      refine g_iconst (v := (I 1)) (pc := 48) O rfl dX5_split_48 ?_
      refine g_iadd (pc := 49) O dX5_split_49 ?_
      refine g_putI (pc := 50) O cls5 fl_X5_29 dX5_split_50 rfl (ltb rfl) (leb rfl) (ltb rfl) rfl rfl (by decide +kernel) ?_
      refine g_iinc (lv' := [(0, .ref 1), (1, .int (x1 + I 1))]) (pc := 53) O dX5_split_53 rfl rfl (ltb rfl) rfl ?_
      refine g_goto (tgt := 12) (pc := 56) O dX5_split_56 rfl ?_
      exact H
set_option maxRecDepth 20000 in
set_option maxHeartbeats 2000000 in
theorem sX5_split {g : mg} {l : Launch} {Q : AH → Prop}  {h : AH} (H : ∀ X, Ok (FF g l X) RX5 cX5_split 2 mX5_split.2.2.2.2 none → GV g l X Q (sI (sI h 1 6 (I 0)) 1 7 (I 0)) 12 [(0, .ref 1), (1, .int (I 0))] []) : SpV g l mX5_split h [.ref 1] Q := spV_of (by decide) (leb rfl) (fun X O => bX5_split_0 O (H X O))
set_option maxRecDepth 20000 in
set_option maxHeartbeats 2000000 in
theorem bX5_isAt_0 {g : mg} {l : Launch} {X : XT} {Q : Int32 → AH → Prop} (O : Ok (FF g l X) RX5 cX5_isAt 2 mX5_isAt.2.2.2.2 (some .boolean)) {x1 : Int32} {h : AH} (H : ∃ j1 : Nat, (h.1 1 7) = I (j1 : Int) ∧ j1 < 401 ∧ (((¬ (h.1 3 j1) = x1) → (Q (I 0) h)) ∧ (((h.1 3 j1) = x1) → (Q (I 1) h)))) : GI g l X Q h 0 [(0, .ref 1), (1, .int x1)] [] := by
  refine g_aloadn (pc := 0) O rfl dX5_isAt_0 ?_
  refine g_getS (pc := 1) O cls5 fl_X5_15 dX5_isAt_1 rfl (ltb rfl) (ltb rfl) rfl rfl ?_
  refine g_aloadn (pc := 4) O rfl dX5_isAt_4 ?_
  refine g_getI (v := h.1 1 7) (pc := 5) O cls5 fl_X5_32 dX5_isAt_5 rfl (ltb rfl) (ltb rfl) rfl rfl ?_
  obtain ⟨j1, ej1, bj1, H⟩ := H
  refine g_iald (j := j1) (pc := 8) O dX5_isAt_8 ej1 rfl (ltb rfl) bj1 (ltb rfl) rfl ?_
  refine g_iloadn (pc := 9) O rfl dX5_isAt_9 ?_
  refine g_icmp_ne (tgt := 17) (pc := 10) O dX5_isAt_10 rfl (fun q2 => ?_) (fun q2 => ?_)
  · replace H := H.1 q2
    refine g_iconst (v := (I 0)) (pc := 17) O rfl dX5_isAt_17 ?_
    exact g_zret (pc := 18) O dX5_isAt_18 (by decide) H
  · replace H := H.2 q2
    refine g_iconst (v := (I 1)) (pc := 13) O rfl dX5_isAt_13 ?_
    refine g_goto (tgt := 18) (pc := 14) O dX5_isAt_14 rfl ?_
    exact g_zret (pc := 18) O dX5_isAt_18 (by decide) H
set_option maxRecDepth 20000 in
set_option maxHeartbeats 2000000 in
theorem sX5_isAt {g : mg} {l : Launch} {Q : Int32 → AH → Prop} {x1 : Int32} {h : AH} (H : ∃ j1 : Nat, (h.1 1 7) = I (j1 : Int) ∧ j1 < 401 ∧ (((¬ (h.1 3 j1) = x1) → (Q (I 0) h)) ∧ (((h.1 3 j1) = x1) → (Q (I 1) h)))) : SpI g l mX5_isAt h [.ref 1, .int x1] Q := spI_of (by decide) (leb rfl) (fun X O => bX5_isAt_0 O H)
set_option maxRecDepth 20000 in
set_option maxHeartbeats 2000000 in
theorem bX5_fault_0 {g : mg} {l : Launch} {X : XT} {Q : Int32 → AH → Prop} (O : Ok (FF g l X) RX5 cX5_fault 1 mX5_fault.2.2.2.2 (some .int))  {h : AH} (H : ∃ j1 : Nat, (h.1 1 7) = I (j1 : Int) ∧ j1 < 401 ∧ (Q (h.1 5 j1) h)) : GI g l X Q h 0 [(0, .ref 1)] [] := by
  refine g_aloadn (pc := 0) O rfl dX5_fault_0 ?_
  refine g_getS (pc := 1) O cls5 fl_X5_22 dX5_fault_1 rfl (ltb rfl) (ltb rfl) rfl rfl ?_
  refine g_aloadn (pc := 4) O rfl dX5_fault_4 ?_
  refine g_getI (v := h.1 1 7) (pc := 5) O cls5 fl_X5_32 dX5_fault_5 rfl (ltb rfl) (ltb rfl) rfl rfl ?_
  obtain ⟨j1, ej1, bj1, H⟩ := H
  refine g_iald (j := j1) (pc := 8) O dX5_fault_8 ej1 rfl (ltb rfl) bj1 (ltb rfl) rfl ?_
  exact g_iret (pc := 9) O dX5_fault_9 H
set_option maxRecDepth 20000 in
set_option maxHeartbeats 2000000 in
theorem sX5_fault {g : mg} {l : Launch} {Q : Int32 → AH → Prop}  {h : AH} (H : ∃ j1 : Nat, (h.1 1 7) = I (j1 : Int) ∧ j1 < 401 ∧ (Q (h.1 5 j1) h)) : SpI g l mX5_fault h [.ref 1] Q := spI_of (by decide) (leb rfl) (fun X O => bX5_fault_0 O H)
set_option maxRecDepth 20000 in
set_option maxHeartbeats 2000000 in
theorem bX5_take_0 {g : mg} {l : Launch} {X : XT} {Q : Int32 → AH → Prop} (O : Ok (FF g l X) RX5 cX5_take 2 mX5_take.2.2.2.2 (some .boolean)) {x1 : Int32} {h : AH} (H : ∃ j1 : Nat, (h.1 1 7) = I (j1 : Int) ∧ j1 < 401 ∧ (((¬ (h.1 3 j1) = x1) → (Q (I 0) h)) ∧ (((h.1 3 j1) = x1) → ((((h.1 1 7) < (h.1 1 6)) → (∃ j4 : Nat, (h.1 1 7) = I (j4 : Int) ∧ j4 < 401 ∧ (Q (I 1) (sI (sI h 1 2 (h.1 4 j4)) 1 7 ((h.1 1 7) + (I 1)))))) ∧ ((¬ ((h.1 1 7) < (h.1 1 6))) → (Q (I 0) h)))))) : GI g l X Q h 0 [(0, .ref 1), (1, .int x1)] [] := by
  refine g_aloadn (pc := 0) O rfl dX5_take_0 ?_
  refine g_getS (pc := 1) O cls5 fl_X5_15 dX5_take_1 rfl (ltb rfl) (ltb rfl) rfl rfl ?_
  refine g_aloadn (pc := 4) O rfl dX5_take_4 ?_
  refine g_getI (v := h.1 1 7) (pc := 5) O cls5 fl_X5_32 dX5_take_5 rfl (ltb rfl) (ltb rfl) rfl rfl ?_
  obtain ⟨j1, ej1, bj1, H⟩ := H
  refine g_iald (j := j1) (pc := 8) O dX5_take_8 ej1 rfl (ltb rfl) bj1 (ltb rfl) rfl ?_
  refine g_iloadn (pc := 9) O rfl dX5_take_9 ?_
  refine g_icmp_ne (tgt := 24) (pc := 10) O dX5_take_10 rfl (fun q2 => ?_) (fun q2 => ?_)
  · replace H := H.1 q2
    refine g_iconst (v := (I 0)) (pc := 24) O rfl dX5_take_24 ?_
    exact g_zret (pc := 25) O dX5_take_25 (by decide) H
  · replace H := H.2 q2
    refine g_aloadn (pc := 13) O rfl dX5_take_13 ?_
    refine g_getI (v := h.1 1 7) (pc := 14) O cls5 fl_X5_32 dX5_take_14 rfl (ltb rfl) (ltb rfl) rfl rfl ?_
    refine g_aloadn (pc := 17) O rfl dX5_take_17 ?_
    refine g_getI (v := h.1 1 6) (pc := 18) O cls5 fl_X5_29 dX5_take_18 rfl (ltb rfl) (ltb rfl) rfl rfl ?_
    refine g_icmp_lt (tgt := 26) (pc := 21) O dX5_take_21 rfl (fun q3 => ?_) (fun q3 => ?_)
    · replace H := H.1 q3
      refine g_aloadn (pc := 26) O rfl dX5_take_26 ?_
      refine g_aloadn (pc := 27) O rfl dX5_take_27 ?_
      refine g_getS (pc := 28) O cls5 fl_X5_19 dX5_take_28 rfl (ltb rfl) (ltb rfl) rfl rfl ?_
      refine g_aloadn (pc := 31) O rfl dX5_take_31 ?_
      refine g_getI (v := h.1 1 7) (pc := 32) O cls5 fl_X5_32 dX5_take_32 rfl (ltb rfl) (ltb rfl) rfl rfl ?_
      obtain ⟨j4, ej4, bj4, H⟩ := H
      refine g_iald (j := j4) (pc := 35) O dX5_take_35 ej4 rfl (ltb rfl) bj4 (ltb rfl) rfl ?_
      refine g_putI (pc := 36) O cls5 fl_X5_43 dX5_take_36 rfl (ltb rfl) (leb rfl) (ltb rfl) rfl rfl (by decide +kernel) ?_
      refine g_aloadn (pc := 39) O rfl dX5_take_39 ?_
      refine g_dup (pc := 40) O rfl dX5_take_40 ?_
      refine g_getI (v := h.1 1 7) (pc := 41) O cls5 fl_X5_32 dX5_take_41 rfl (ltb rfl) (ltb rfl) rfl rfl ?_
      refine g_iconst (v := (I 1)) (pc := 44) O rfl dX5_take_44 ?_
      refine g_iadd (pc := 45) O dX5_take_45 ?_
      refine g_putI (pc := 46) O cls5 fl_X5_32 dX5_take_46 rfl (ltb rfl) (leb rfl) (ltb rfl) rfl rfl (by decide +kernel) ?_
      refine g_iconst (v := (I 1)) (pc := 49) O rfl dX5_take_49 ?_
      exact g_zret (pc := 50) O dX5_take_50 (by decide) H
    · replace H := H.2 q3
      refine g_iconst (v := (I 0)) (pc := 24) O rfl dX5_take_24 ?_
      exact g_zret (pc := 25) O dX5_take_25 (by decide) H
set_option maxRecDepth 20000 in
set_option maxHeartbeats 2000000 in
theorem sX5_take {g : mg} {l : Launch} {Q : Int32 → AH → Prop} {x1 : Int32} {h : AH} (H : ∃ j1 : Nat, (h.1 1 7) = I (j1 : Int) ∧ j1 < 401 ∧ (((¬ (h.1 3 j1) = x1) → (Q (I 0) h)) ∧ (((h.1 3 j1) = x1) → ((((h.1 1 7) < (h.1 1 6)) → (∃ j4 : Nat, (h.1 1 7) = I (j4 : Int) ∧ j4 < 401 ∧ (Q (I 1) (sI (sI h 1 2 (h.1 4 j4)) 1 7 ((h.1 1 7) + (I 1)))))) ∧ ((¬ ((h.1 1 7) < (h.1 1 6))) → (Q (I 0) h)))))) : SpI g l mX5_take h [.ref 1, .int x1] Q := spI_of (by decide) (leb rfl) (fun X O => bX5_take_0 O H)
set_option maxRecDepth 20000 in
set_option maxHeartbeats 2000000 in
theorem bX5_takeNumber_0 {g : mg} {l : Launch} {X : XT} {Q : Int32 → AH → Prop} (O : Ok (FF g l X) RX5 cX5_takeNumber 3 mX5_takeNumber.2.2.2.2 (some .boolean)) {x1 : Int32} {x2 : Int32} {h : AH} (H : ∃ j1 : Nat, (h.1 1 7) = I (j1 : Int) ∧ j1 < 401 ∧ ((((h.1 4 j1) < x1) → (Q (I 0) h)) ∧ ((¬ ((h.1 4 j1) < x1)) → (∃ j3 : Nat, (h.1 1 7) = I (j3 : Int) ∧ j3 < 401 ∧ (((x2 < (h.1 4 j3)) → (Q (I 0) h)) ∧ ((¬ (x2 < (h.1 4 j3))) → (SpI g l mX5_take h [.ref 1, .int (I 2)] (fun v5 hv5 => ((v5 = 0) → (Q (I 0) hv5)) ∧ ((¬ (v5 = 0)) → (Q (I 1) hv5)))))))))) : GI g l X Q h 0 [(0, .ref 1), (1, .int x1), (2, .int x2)] [] := by
  refine g_aloadn (pc := 0) O rfl dX5_takeNumber_0 ?_
  refine g_getS (pc := 1) O cls5 fl_X5_19 dX5_takeNumber_1 rfl (ltb rfl) (ltb rfl) rfl rfl ?_
  refine g_aloadn (pc := 4) O rfl dX5_takeNumber_4 ?_
  refine g_getI (v := h.1 1 7) (pc := 5) O cls5 fl_X5_32 dX5_takeNumber_5 rfl (ltb rfl) (ltb rfl) rfl rfl ?_
  obtain ⟨j1, ej1, bj1, H⟩ := H
  refine g_iald (j := j1) (pc := 8) O dX5_takeNumber_8 ej1 rfl (ltb rfl) bj1 (ltb rfl) rfl ?_
  refine g_iloadn (pc := 9) O rfl dX5_takeNumber_9 ?_
  refine g_icmp_lt (tgt := 38) (pc := 10) O dX5_takeNumber_10 rfl (fun q2 => ?_) (fun q2 => ?_)
  · replace H := H.1 q2
    refine g_iconst (v := (I 0)) (pc := 38) O rfl dX5_takeNumber_38 ?_
    exact g_zret (pc := 39) O dX5_takeNumber_39 (by decide) H
  · replace H := H.2 q2
    refine g_aloadn (pc := 13) O rfl dX5_takeNumber_13 ?_
    refine g_getS (pc := 14) O cls5 fl_X5_19 dX5_takeNumber_14 rfl (ltb rfl) (ltb rfl) rfl rfl ?_
    refine g_aloadn (pc := 17) O rfl dX5_takeNumber_17 ?_
    refine g_getI (v := h.1 1 7) (pc := 18) O cls5 fl_X5_32 dX5_takeNumber_18 rfl (ltb rfl) (ltb rfl) rfl rfl ?_
    obtain ⟨j3, ej3, bj3, H⟩ := H
    refine g_iald (j := j3) (pc := 21) O dX5_takeNumber_21 ej3 rfl (ltb rfl) bj3 (ltb rfl) rfl ?_
    refine g_iloadn (pc := 22) O rfl dX5_takeNumber_22 ?_
    refine g_icmp_gt (tgt := 38) (pc := 23) O dX5_takeNumber_23 rfl (fun q4 => ?_) (fun q4 => ?_)
    · replace H := H.1 q4
      refine g_iconst (v := (I 0)) (pc := 38) O rfl dX5_takeNumber_38 ?_
      exact g_zret (pc := 39) O dX5_takeNumber_39 (by decide) H
    · replace H := H.2 q4
      refine g_aloadn (pc := 26) O rfl dX5_takeNumber_26 ?_
      refine g_iconst (v := (I 2)) (pc := 27) O rfl dX5_takeNumber_27 ?_
      refine g_vI [.int (I 2)] [] (pc := 28) O mk_X5_take ml_X5_46 im_X5_take se_X5_take cls5 rfl ⟨rfl, rfl, leb rfl, leb rfl⟩ rfl (leb rfl) dX5_takeNumber_28 H rfl (fun v5 hv5 H => ?_)
      refine g_if_eq (tgt := 38) (pc := 31) O dX5_takeNumber_31 rfl (fun q6 => ?_) (fun q6 => ?_)
      · replace H := H.1 q6
        refine g_iconst (v := (I 0)) (pc := 38) O rfl dX5_takeNumber_38 ?_
        exact g_zret (pc := 39) O dX5_takeNumber_39 (by decide) H
      · replace H := H.2 q6
        refine g_iconst (v := (I 1)) (pc := 34) O rfl dX5_takeNumber_34 ?_
        refine g_goto (tgt := 39) (pc := 35) O dX5_takeNumber_35 rfl ?_
        exact g_zret (pc := 39) O dX5_takeNumber_39 (by decide) H
set_option maxRecDepth 20000 in
set_option maxHeartbeats 2000000 in
theorem sX5_takeNumber {g : mg} {l : Launch} {Q : Int32 → AH → Prop} {x1 : Int32} {x2 : Int32} {h : AH} (H : ∃ j1 : Nat, (h.1 1 7) = I (j1 : Int) ∧ j1 < 401 ∧ ((((h.1 4 j1) < x1) → (Q (I 0) h)) ∧ ((¬ ((h.1 4 j1) < x1)) → (∃ j3 : Nat, (h.1 1 7) = I (j3 : Int) ∧ j3 < 401 ∧ (((x2 < (h.1 4 j3)) → (Q (I 0) h)) ∧ ((¬ (x2 < (h.1 4 j3))) → (SpI g l mX5_take h [.ref 1, .int (I 2)] (fun v5 hv5 => ((v5 = 0) → (Q (I 0) hv5)) ∧ ((¬ (v5 = 0)) → (Q (I 1) hv5)))))))))) : SpI g l mX5_takeNumber h [.ref 1, .int x1, .int x2] Q := spI_of (by decide) (leb rfl) (fun X O => bX5_takeNumber_0 O H)
set_option maxRecDepth 20000 in
set_option maxHeartbeats 2000000 in
theorem bX5_takeColourBut_0 {g : mg} {l : Launch} {X : XT} {Q : Int32 → AH → Prop} (O : Ok (FF g l X) RX5 cX5_takeColourBut 2 mX5_takeColourBut.2.2.2.2 (some .boolean)) {x1 : Int32} {h : AH} (H : ∃ j1 : Nat, (h.1 1 7) = I (j1 : Int) ∧ j1 < 401 ∧ ((((h.1 4 j1) = x1) → (Q (I 0) h)) ∧ ((¬ ((h.1 4 j1) = x1)) → (SpI g l mX5_take h [.ref 1, .int (I 3)] (fun v3 hv3 => ((v3 = 0) → (Q (I 0) hv3)) ∧ ((¬ (v3 = 0)) → (Q (I 1) hv3))))))) : GI g l X Q h 0 [(0, .ref 1), (1, .int x1)] [] := by
  refine g_aloadn (pc := 0) O rfl dX5_takeColourBut_0 ?_
  refine g_getS (pc := 1) O cls5 fl_X5_19 dX5_takeColourBut_1 rfl (ltb rfl) (ltb rfl) rfl rfl ?_
  refine g_aloadn (pc := 4) O rfl dX5_takeColourBut_4 ?_
  refine g_getI (v := h.1 1 7) (pc := 5) O cls5 fl_X5_32 dX5_takeColourBut_5 rfl (ltb rfl) (ltb rfl) rfl rfl ?_
  obtain ⟨j1, ej1, bj1, H⟩ := H
  refine g_iald (j := j1) (pc := 8) O dX5_takeColourBut_8 ej1 rfl (ltb rfl) bj1 (ltb rfl) rfl ?_
  refine g_iloadn (pc := 9) O rfl dX5_takeColourBut_9 ?_
  refine g_icmp_eq (tgt := 25) (pc := 10) O dX5_takeColourBut_10 rfl (fun q2 => ?_) (fun q2 => ?_)
  · replace H := H.1 q2
    refine g_iconst (v := (I 0)) (pc := 25) O rfl dX5_takeColourBut_25 ?_
    exact g_zret (pc := 26) O dX5_takeColourBut_26 (by decide) H
  · replace H := H.2 q2
    refine g_aloadn (pc := 13) O rfl dX5_takeColourBut_13 ?_
    refine g_iconst (v := (I 3)) (pc := 14) O rfl dX5_takeColourBut_14 ?_
    refine g_vI [.int (I 3)] [] (pc := 15) O mk_X5_take ml_X5_46 im_X5_take se_X5_take cls5 rfl ⟨rfl, rfl, leb rfl, leb rfl⟩ rfl (leb rfl) dX5_takeColourBut_15 H rfl (fun v3 hv3 H => ?_)
    refine g_if_eq (tgt := 25) (pc := 18) O dX5_takeColourBut_18 rfl (fun q4 => ?_) (fun q4 => ?_)
    · replace H := H.1 q4
      refine g_iconst (v := (I 0)) (pc := 25) O rfl dX5_takeColourBut_25 ?_
      exact g_zret (pc := 26) O dX5_takeColourBut_26 (by decide) H
    · replace H := H.2 q4
      refine g_iconst (v := (I 1)) (pc := 21) O rfl dX5_takeColourBut_21 ?_
      refine g_goto (tgt := 26) (pc := 22) O dX5_takeColourBut_22 rfl ?_
      exact g_zret (pc := 26) O dX5_takeColourBut_26 (by decide) H
set_option maxRecDepth 20000 in
set_option maxHeartbeats 2000000 in
theorem sX5_takeColourBut {g : mg} {l : Launch} {Q : Int32 → AH → Prop} {x1 : Int32} {h : AH} (H : ∃ j1 : Nat, (h.1 1 7) = I (j1 : Int) ∧ j1 < 401 ∧ ((((h.1 4 j1) = x1) → (Q (I 0) h)) ∧ ((¬ ((h.1 4 j1) = x1)) → (SpI g l mX5_take h [.ref 1, .int (I 3)] (fun v3 hv3 => ((v3 = 0) → (Q (I 0) hv3)) ∧ ((¬ (v3 = 0)) → (Q (I 1) hv3))))))) : SpI g l mX5_takeColourBut h [.ref 1, .int x1] Q := spI_of (by decide) (leb rfl) (fun X O => bX5_takeColourBut_0 O H)
set_option maxRecDepth 20000 in
set_option maxHeartbeats 2000000 in
theorem bX5_beginsToken_0 {g : mg} {l : Launch} {X : XT} {Q : Int32 → AH → Prop} (O : Ok (FF g l X) RX5 cX5_beginsToken 4 mX5_beginsToken.2.2.2.2 (some .boolean)) {x1 : Int32} {h : AH} (H : ∃ j1 : Nat, x1 = I (j1 : Int) ∧ j1 < 400 ∧ (((¬ (h.1 2 j1) = (I 32)) → (((¬ x1 = 0) → (∃ j4 : Nat, (x1 - (I 1)) = I (j4 : Int) ∧ j4 < 400 ∧ (SpI g l mX5_isLetter h [.int (h.1 2 j4)] (fun v5 hv5 => ((v5 = 0) → (GI g l X Q hv5 50 [(0, .ref 1), (1, .int x1)] [.int (I 0)])) ∧ ((¬ (v5 = 0)) → (∃ j7 : Nat, x1 = I (j7 : Int) ∧ j7 < 400 ∧ (SpI g l mX5_isLetter hv5 [.int (hv5.1 2 j7)] (fun v8 hv8 => ((v8 = 0) → (GI g l X Q hv8 50 [(0, .ref 1), (1, .int x1)] [.int (I 0)])) ∧ ((¬ (v8 = 0)) → (GI g l X Q hv8 50 [(0, .ref 1), (1, .int x1)] [.int (I 1)])))))))))) ∧ ((x1 = 0) → (Q (I 1) h)))) ∧ (((h.1 2 j1) = (I 32)) → (Q (I 0) h)))) : GI g l X Q h 0 [(0, .ref 1), (1, .int x1)] [] := by
  refine g_aloadn (pc := 0) O rfl dX5_beginsToken_0 ?_
  refine g_getS (pc := 1) O cls5 fl_X5_9 dX5_beginsToken_1 rfl (ltb rfl) (ltb rfl) rfl rfl ?_
  refine g_iloadn (pc := 4) O rfl dX5_beginsToken_4 ?_
  obtain ⟨j1, ej1, bj1, H⟩ := H
  refine g_bald (j := j1) (pc := 5) O dX5_beginsToken_5 ej1 rfl (ltb rfl) bj1 (ltb rfl) rfl ?_
  refine g_bipush (v := (I 32)) (pc := 6) O (by decide) dX5_beginsToken_6 ?_
  refine g_icmp_ne (tgt := 13) (pc := 8) O dX5_beginsToken_8 rfl (fun q2 => ?_) (fun q2 => ?_)
  · replace H := H.1 q2
    refine g_iloadn (pc := 13) O rfl dX5_beginsToken_13 ?_
    refine g_if_ne (tgt := 19) (pc := 14) O dX5_beginsToken_14 rfl (fun q3 => ?_) (fun q3 => ?_)
    · replace H := H.1 q3
      refine g_aloadn (pc := 19) O rfl dX5_beginsToken_19 ?_
      refine g_getS (pc := 20) O cls5 fl_X5_9 dX5_beginsToken_20 rfl (ltb rfl) (ltb rfl) rfl rfl ?_
      refine g_iloadn (pc := 23) O rfl dX5_beginsToken_23 ?_
      refine g_iconst (v := (I 1)) (pc := 24) O rfl dX5_beginsToken_24 ?_
      refine g_isub (pc := 25) O dX5_beginsToken_25 ?_
      obtain ⟨j4, ej4, bj4, H⟩ := H
      refine g_bald (j := j4) (pc := 26) O dX5_beginsToken_26 ej4 rfl (ltb rfl) bj4 (ltb rfl) rfl ?_
      refine g_sI [.int (h.1 2 j4)] [] (pc := 27) O mk_X5_isLetter ml_X5_49 sm_X5_isLetter ⟨rfl, rfl, leb rfl, leb rfl⟩ rfl (leb rfl) dX5_beginsToken_27 H rfl (fun v5 hv5 H => ?_)
      refine g_if_eq (tgt := 49) (pc := 30) O dX5_beginsToken_30 rfl (fun q6 => ?_) (fun q6 => ?_)
      · replace H := H.1 q6
        refine g_iconst (v := (I 0)) (pc := 49) O rfl dX5_beginsToken_49 ?_
        exact H
      · replace H := H.2 q6
        refine g_aloadn (pc := 33) O rfl dX5_beginsToken_33 ?_
        refine g_getS (pc := 34) O cls5 fl_X5_9 dX5_beginsToken_34 rfl (ltb rfl) (ltb rfl) rfl rfl ?_
        refine g_iloadn (pc := 37) O rfl dX5_beginsToken_37 ?_
        obtain ⟨j7, ej7, bj7, H⟩ := H
        refine g_bald (j := j7) (pc := 38) O dX5_beginsToken_38 ej7 rfl (ltb rfl) bj7 (ltb rfl) rfl ?_
        refine g_sI [.int (hv5.1 2 j7)] [] (pc := 39) O mk_X5_isLetter ml_X5_49 sm_X5_isLetter ⟨rfl, rfl, leb rfl, leb rfl⟩ rfl (leb rfl) dX5_beginsToken_39 H rfl (fun v8 hv8 H => ?_)
        refine g_if_eq (tgt := 49) (pc := 42) O dX5_beginsToken_42 rfl (fun q9 => ?_) (fun q9 => ?_)
        · replace H := H.1 q9
          refine g_iconst (v := (I 0)) (pc := 49) O rfl dX5_beginsToken_49 ?_
          exact H
        · replace H := H.2 q9
          refine g_iconst (v := (I 1)) (pc := 45) O rfl dX5_beginsToken_45 ?_
          refine g_goto (tgt := 50) (pc := 46) O dX5_beginsToken_46 rfl ?_
          exact H
    · replace H := H.2 q3
      refine g_iconst (v := (I 1)) (pc := 17) O rfl dX5_beginsToken_17 ?_
      exact g_zret (pc := 18) O dX5_beginsToken_18 (by decide) H
  · replace H := H.2 q2
    refine g_iconst (v := (I 0)) (pc := 11) O rfl dX5_beginsToken_11 ?_
    exact g_zret (pc := 12) O dX5_beginsToken_12 (by decide) H
set_option maxRecDepth 20000 in
set_option maxHeartbeats 2000000 in
theorem bX5_beginsToken_50 {g : mg} {l : Launch} {X : XT} {Q : Int32 → AH → Prop} (O : Ok (FF g l X) RX5 cX5_beginsToken 4 mX5_beginsToken.2.2.2.2 (some .boolean)) {x1 : Int32} {s0 : Int32} {h : AH} (H : ∃ j1 : Nat, (x1 - (I 1)) = I (j1 : Int) ∧ j1 < 400 ∧ (SpI g l mX5_isDigit h [.int (h.1 2 j1)] (fun v2 hv2 => ((v2 = 0) → (((¬ s0 = 0) → (Q (I 0) hv2)) ∧ ((s0 = 0) → (((¬ (I 0) = 0) → (Q (I 0) hv2)) ∧ (((I 0) = 0) → (Q (I 1) hv2)))))) ∧ ((¬ (v2 = 0)) → (∃ j6 : Nat, x1 = I (j6 : Int) ∧ j6 < 400 ∧ (SpI g l mX5_isDigit hv2 [.int (hv2.1 2 j6)] (fun v7 hv7 => ((v7 = 0) → (((¬ s0 = 0) → (Q (I 0) hv7)) ∧ ((s0 = 0) → (((¬ (I 0) = 0) → (Q (I 0) hv7)) ∧ (((I 0) = 0) → (Q (I 1) hv7)))))) ∧ ((¬ (v7 = 0)) → (((¬ s0 = 0) → (Q (I 0) hv7)) ∧ ((s0 = 0) → (((¬ (I 1) = 0) → (Q (I 0) hv7)) ∧ (((I 1) = 0) → (Q (I 1) hv7))))))))))))) : GI g l X Q h 50 [(0, .ref 1), (1, .int x1)] [.int s0] := by
  refine g_istoren (lv' := [(0, .ref 1), (1, .int x1), (2, .int s0)]) (pc := 50) O dX5_beginsToken_50 rfl (ltb rfl) rfl ?_
  refine g_aloadn (pc := 51) O rfl dX5_beginsToken_51 ?_
  refine g_getS (pc := 52) O cls5 fl_X5_9 dX5_beginsToken_52 rfl (ltb rfl) (ltb rfl) rfl rfl ?_
  refine g_iloadn (pc := 55) O rfl dX5_beginsToken_55 ?_
  refine g_iconst (v := (I 1)) (pc := 56) O rfl dX5_beginsToken_56 ?_
  refine g_isub (pc := 57) O dX5_beginsToken_57 ?_
  obtain ⟨j1, ej1, bj1, H⟩ := H
  refine g_bald (j := j1) (pc := 58) O dX5_beginsToken_58 ej1 rfl (ltb rfl) bj1 (ltb rfl) rfl ?_
  refine g_sI [.int (h.1 2 j1)] [] (pc := 59) O mk_X5_isDigit ml_X5_52 sm_X5_isDigit ⟨rfl, rfl, leb rfl, leb rfl⟩ rfl (leb rfl) dX5_beginsToken_59 H rfl (fun v2 hv2 H => ?_)
  refine g_if_eq (tgt := 81) (pc := 62) O dX5_beginsToken_62 rfl (fun q3 => ?_) (fun q3 => ?_)
  · replace H := H.1 q3
    refine g_iconst (v := (I 0)) (pc := 81) O rfl dX5_beginsToken_81 ?_
    refine g_istoren (lv' := [(0, .ref 1), (1, .int x1), (2, .int s0), (3, .int (I 0))]) (pc := 82) O dX5_beginsToken_82 rfl (ltb rfl) rfl ?_
    refine g_iloadn (pc := 83) O rfl dX5_beginsToken_83 ?_
    refine g_if_ne (tgt := 95) (pc := 84) O dX5_beginsToken_84 rfl (fun q4 => ?_) (fun q4 => ?_)
    · replace H := H.1 q4
      refine g_iconst (v := (I 0)) (pc := 95) O rfl dX5_beginsToken_95 ?_
      exact g_zret (pc := 96) O dX5_beginsToken_96 (by decide) H
    · replace H := H.2 q4
      refine g_iloadn (pc := 87) O rfl dX5_beginsToken_87 ?_
      refine g_if_ne (tgt := 95) (pc := 88) O dX5_beginsToken_88 rfl (fun q5 => ?_) (fun q5 => ?_)
      · replace H := H.1 q5
        refine g_iconst (v := (I 0)) (pc := 95) O rfl dX5_beginsToken_95 ?_
        exact g_zret (pc := 96) O dX5_beginsToken_96 (by decide) H
      · replace H := H.2 q5
        refine g_iconst (v := (I 1)) (pc := 91) O rfl dX5_beginsToken_91 ?_
        refine g_goto (tgt := 96) (pc := 92) O dX5_beginsToken_92 rfl ?_
        exact g_zret (pc := 96) O dX5_beginsToken_96 (by decide) H
  · replace H := H.2 q3
    refine g_aloadn (pc := 65) O rfl dX5_beginsToken_65 ?_
    refine g_getS (pc := 66) O cls5 fl_X5_9 dX5_beginsToken_66 rfl (ltb rfl) (ltb rfl) rfl rfl ?_
    refine g_iloadn (pc := 69) O rfl dX5_beginsToken_69 ?_
    obtain ⟨j6, ej6, bj6, H⟩ := H
    refine g_bald (j := j6) (pc := 70) O dX5_beginsToken_70 ej6 rfl (ltb rfl) bj6 (ltb rfl) rfl ?_
    refine g_sI [.int (hv2.1 2 j6)] [] (pc := 71) O mk_X5_isDigit ml_X5_52 sm_X5_isDigit ⟨rfl, rfl, leb rfl, leb rfl⟩ rfl (leb rfl) dX5_beginsToken_71 H rfl (fun v7 hv7 H => ?_)
    refine g_if_eq (tgt := 81) (pc := 74) O dX5_beginsToken_74 rfl (fun q8 => ?_) (fun q8 => ?_)
    · replace H := H.1 q8
      refine g_iconst (v := (I 0)) (pc := 81) O rfl dX5_beginsToken_81 ?_
      refine g_istoren (lv' := [(0, .ref 1), (1, .int x1), (2, .int s0), (3, .int (I 0))]) (pc := 82) O dX5_beginsToken_82 rfl (ltb rfl) rfl ?_
      refine g_iloadn (pc := 83) O rfl dX5_beginsToken_83 ?_
      refine g_if_ne (tgt := 95) (pc := 84) O dX5_beginsToken_84 rfl (fun q9 => ?_) (fun q9 => ?_)
      · replace H := H.1 q9
        refine g_iconst (v := (I 0)) (pc := 95) O rfl dX5_beginsToken_95 ?_
        exact g_zret (pc := 96) O dX5_beginsToken_96 (by decide) H
      · replace H := H.2 q9
        refine g_iloadn (pc := 87) O rfl dX5_beginsToken_87 ?_
        refine g_if_ne (tgt := 95) (pc := 88) O dX5_beginsToken_88 rfl (fun q10 => ?_) (fun q10 => ?_)
        · replace H := H.1 q10
          refine g_iconst (v := (I 0)) (pc := 95) O rfl dX5_beginsToken_95 ?_
          exact g_zret (pc := 96) O dX5_beginsToken_96 (by decide) H
        · replace H := H.2 q10
          refine g_iconst (v := (I 1)) (pc := 91) O rfl dX5_beginsToken_91 ?_
          refine g_goto (tgt := 96) (pc := 92) O dX5_beginsToken_92 rfl ?_
          exact g_zret (pc := 96) O dX5_beginsToken_96 (by decide) H
    · replace H := H.2 q8
      refine g_iconst (v := (I 1)) (pc := 77) O rfl dX5_beginsToken_77 ?_
      refine g_goto (tgt := 82) (pc := 78) O dX5_beginsToken_78 rfl ?_
      refine g_istoren (lv' := [(0, .ref 1), (1, .int x1), (2, .int s0), (3, .int (I 1))]) (pc := 82) O dX5_beginsToken_82 rfl (ltb rfl) rfl ?_
      refine g_iloadn (pc := 83) O rfl dX5_beginsToken_83 ?_
      refine g_if_ne (tgt := 95) (pc := 84) O dX5_beginsToken_84 rfl (fun q11 => ?_) (fun q11 => ?_)
      · replace H := H.1 q11
        refine g_iconst (v := (I 0)) (pc := 95) O rfl dX5_beginsToken_95 ?_
        exact g_zret (pc := 96) O dX5_beginsToken_96 (by decide) H
      · replace H := H.2 q11
        refine g_iloadn (pc := 87) O rfl dX5_beginsToken_87 ?_
        refine g_if_ne (tgt := 95) (pc := 88) O dX5_beginsToken_88 rfl (fun q12 => ?_) (fun q12 => ?_)
        · replace H := H.1 q12
          refine g_iconst (v := (I 0)) (pc := 95) O rfl dX5_beginsToken_95 ?_
          exact g_zret (pc := 96) O dX5_beginsToken_96 (by decide) H
        · replace H := H.2 q12
          refine g_iconst (v := (I 1)) (pc := 91) O rfl dX5_beginsToken_91 ?_
          refine g_goto (tgt := 96) (pc := 92) O dX5_beginsToken_92 rfl ?_
          exact g_zret (pc := 96) O dX5_beginsToken_96 (by decide) H
set_option maxRecDepth 20000 in
set_option maxHeartbeats 2000000 in
theorem sX5_beginsToken {g : mg} {l : Launch} {Q : Int32 → AH → Prop} {x1 : Int32} {h : AH} (H : ∀ X, Ok (FF g l X) RX5 cX5_beginsToken 4 mX5_beginsToken.2.2.2.2 (some .boolean) → ∃ j1 : Nat, x1 = I (j1 : Int) ∧ j1 < 400 ∧ (((¬ (h.1 2 j1) = (I 32)) → (((¬ x1 = 0) → (∃ j4 : Nat, (x1 - (I 1)) = I (j4 : Int) ∧ j4 < 400 ∧ (SpI g l mX5_isLetter h [.int (h.1 2 j4)] (fun v5 hv5 => ((v5 = 0) → (GI g l X Q hv5 50 [(0, .ref 1), (1, .int x1)] [.int (I 0)])) ∧ ((¬ (v5 = 0)) → (∃ j7 : Nat, x1 = I (j7 : Int) ∧ j7 < 400 ∧ (SpI g l mX5_isLetter hv5 [.int (hv5.1 2 j7)] (fun v8 hv8 => ((v8 = 0) → (GI g l X Q hv8 50 [(0, .ref 1), (1, .int x1)] [.int (I 0)])) ∧ ((¬ (v8 = 0)) → (GI g l X Q hv8 50 [(0, .ref 1), (1, .int x1)] [.int (I 1)])))))))))) ∧ ((x1 = 0) → (Q (I 1) h)))) ∧ (((h.1 2 j1) = (I 32)) → (Q (I 0) h)))) : SpI g l mX5_beginsToken h [.ref 1, .int x1] Q := spI_of (by decide) (leb rfl) (fun X O => bX5_beginsToken_0 O (H X O))
set_option maxRecDepth 20000 in
set_option maxHeartbeats 2000000 in
theorem bX5_readToken_0 {g : mg} {l : Launch} {X : XT} {Q : AH → Prop} (O : Ok (FF g l X) RX5 cX5_readToken 2 mX5_readToken.2.2.2.2 none) {x1 : Int32} {h : AH} (H : ∃ j1 : Nat, (h.1 1 6) = I (j1 : Int) ∧ j1 < 401 ∧ (∃ j2 : Nat, x1 = I (j2 : Int) ∧ j2 < 400 ∧ (SpI g l mX5_isDigit (sI h 4 j1 (I 0)) [.int (h.1 2 j2)] (fun v3 hv3 => ((v3 = 0) → (∃ j5 : Nat, x1 = I (j5 : Int) ∧ j5 < 400 ∧ (SpI g l mX5_isLetter hv3 [.int (hv3.1 2 j5)] (fun v6 hv6 => ((v6 = 0) → (∃ j8 : Nat, x1 = I (j8 : Int) ∧ j8 < 400 ∧ (((¬ (hv6.1 2 j8) = (I 59)) → (∃ j10 : Nat, (hv6.1 1 6) = I (j10 : Int) ∧ j10 < 401 ∧ (Q (sI hv6 3 j10 (I 9))))) ∧ (((hv6.1 2 j8) = (I 59)) → (∃ j11 : Nat, (hv6.1 1 6) = I (j11 : Int) ∧ j11 < 401 ∧ (Q (sI hv6 3 j11 (I 1)))))))) ∧ ((¬ (v6 = 0)) → (SpV g l mX5_readWord hv6 [.ref 1, .int x1] (fun hv12 => Q hv12))))))) ∧ ((¬ (v3 = 0)) → (SpV g l mX5_readNumber hv3 [.ref 1, .int x1] (fun hv13 => Q hv13))))))) : GV g l X Q h 0 [(0, .ref 1), (1, .int x1)] [] := by
  refine g_aloadn (pc := 0) O rfl dX5_readToken_0 ?_
  refine g_getS (pc := 1) O cls5 fl_X5_19 dX5_readToken_1 rfl (ltb rfl) (ltb rfl) rfl rfl ?_
  refine g_aloadn (pc := 4) O rfl dX5_readToken_4 ?_
  refine g_getI (v := h.1 1 6) (pc := 5) O cls5 fl_X5_29 dX5_readToken_5 rfl (ltb rfl) (ltb rfl) rfl rfl ?_
  refine g_iconst (v := (I 0)) (pc := 8) O rfl dX5_readToken_8 ?_
  obtain ⟨j1, ej1, bj1, H⟩ := H
  refine g_iast (j := j1) (pc := 9) O dX5_readToken_9 ej1 rfl (ltb rfl) (leb rfl) bj1 (ltb rfl) ?_
  refine g_aloadn (pc := 10) O rfl dX5_readToken_10 ?_
  refine g_getS (pc := 11) O cls5 fl_X5_9 dX5_readToken_11 rfl (ltb rfl) (ltb rfl) rfl rfl ?_
  refine g_iloadn (pc := 14) O rfl dX5_readToken_14 ?_
  obtain ⟨j2, ej2, bj2, H⟩ := H
  refine g_bald (j := j2) (pc := 15) O dX5_readToken_15 ej2 rfl (ltb rfl) bj2 (ltb rfl) rfl ?_
  refine g_sI [.int (h.1 2 j2)] [] (pc := 16) O mk_X5_isDigit ml_X5_52 sm_X5_isDigit ⟨rfl, rfl, leb rfl, leb rfl⟩ rfl (leb rfl) dX5_readToken_16 H rfl (fun v3 hv3 H => ?_)
  refine g_if_eq (tgt := 30) (pc := 19) O dX5_readToken_19 rfl (fun q4 => ?_) (fun q4 => ?_)
  · replace H := H.1 q4
    refine g_aloadn (pc := 30) O rfl dX5_readToken_30 ?_
    refine g_getS (pc := 31) O cls5 fl_X5_9 dX5_readToken_31 rfl (ltb rfl) (ltb rfl) rfl rfl ?_
    refine g_iloadn (pc := 34) O rfl dX5_readToken_34 ?_
    obtain ⟨j5, ej5, bj5, H⟩ := H
    refine g_bald (j := j5) (pc := 35) O dX5_readToken_35 ej5 rfl (ltb rfl) bj5 (ltb rfl) rfl ?_
    refine g_sI [.int (hv3.1 2 j5)] [] (pc := 36) O mk_X5_isLetter ml_X5_49 sm_X5_isLetter ⟨rfl, rfl, leb rfl, leb rfl⟩ rfl (leb rfl) dX5_readToken_36 H rfl (fun v6 hv6 H => ?_)
    refine g_if_eq (tgt := 50) (pc := 39) O dX5_readToken_39 rfl (fun q7 => ?_) (fun q7 => ?_)
    · replace H := H.1 q7
      refine g_aloadn (pc := 50) O rfl dX5_readToken_50 ?_
      refine g_getS (pc := 51) O cls5 fl_X5_15 dX5_readToken_51 rfl (ltb rfl) (ltb rfl) rfl rfl ?_
      refine g_aloadn (pc := 54) O rfl dX5_readToken_54 ?_
      refine g_getI (v := hv6.1 1 6) (pc := 55) O cls5 fl_X5_29 dX5_readToken_55 rfl (ltb rfl) (ltb rfl) rfl rfl ?_
      refine g_aloadn (pc := 58) O rfl dX5_readToken_58 ?_
      refine g_getS (pc := 59) O cls5 fl_X5_9 dX5_readToken_59 rfl (ltb rfl) (ltb rfl) rfl rfl ?_
      refine g_iloadn (pc := 62) O rfl dX5_readToken_62 ?_
      obtain ⟨j8, ej8, bj8, H⟩ := H
      refine g_bald (j := j8) (pc := 63) O dX5_readToken_63 ej8 rfl (ltb rfl) bj8 (ltb rfl) rfl ?_
      refine g_bipush (v := (I 59)) (pc := 64) O (by decide) dX5_readToken_64 ?_
      refine g_icmp_ne (tgt := 73) (pc := 66) O dX5_readToken_66 rfl (fun q9 => ?_) (fun q9 => ?_)
      · replace H := H.1 q9
        refine g_bipush (v := (I 9)) (pc := 73) O (by decide) dX5_readToken_73 ?_
        obtain ⟨j10, ej10, bj10, H⟩ := H
        refine g_iast (j := j10) (pc := 75) O dX5_readToken_75 ej10 rfl (ltb rfl) (leb rfl) bj10 (ltb rfl) ?_
        exact g_vret (pc := 76) O dX5_readToken_76 H
      · replace H := H.2 q9
        refine g_iconst (v := (I 1)) (pc := 69) O rfl dX5_readToken_69 ?_
        refine g_goto (tgt := 75) (pc := 70) O dX5_readToken_70 rfl ?_
        obtain ⟨j11, ej11, bj11, H⟩ := H
        refine g_iast (j := j11) (pc := 75) O dX5_readToken_75 ej11 rfl (ltb rfl) (leb rfl) bj11 (ltb rfl) ?_
        exact g_vret (pc := 76) O dX5_readToken_76 H
    · replace H := H.2 q7
      refine g_aloadn (pc := 42) O rfl dX5_readToken_42 ?_
      refine g_iloadn (pc := 43) O rfl dX5_readToken_43 ?_
      refine g_vV [.int x1] [] (pc := 44) O mk_X5_readWord ml_X5_58 im_X5_readWord se_X5_readWord cls5 rfl ⟨rfl, rfl, leb rfl, leb rfl⟩ rfl (leb rfl) dX5_readToken_44 H rfl (fun hv12 H => ?_)
      refine g_goto (tgt := 76) (pc := 47) O dX5_readToken_47 rfl ?_
      exact g_vret (pc := 76) O dX5_readToken_76 H
  · replace H := H.2 q4
    refine g_aloadn (pc := 22) O rfl dX5_readToken_22 ?_
    refine g_iloadn (pc := 23) O rfl dX5_readToken_23 ?_
    refine g_vV [.int x1] [] (pc := 24) O mk_X5_readNumber ml_X5_55 im_X5_readNumber se_X5_readNumber cls5 rfl ⟨rfl, rfl, leb rfl, leb rfl⟩ rfl (leb rfl) dX5_readToken_24 H rfl (fun hv13 H => ?_)
    refine g_goto (tgt := 76) (pc := 27) O dX5_readToken_27 rfl ?_
    exact g_vret (pc := 76) O dX5_readToken_76 H
set_option maxRecDepth 20000 in
set_option maxHeartbeats 2000000 in
theorem sX5_readToken {g : mg} {l : Launch} {Q : AH → Prop} {x1 : Int32} {h : AH} (H : ∃ j1 : Nat, (h.1 1 6) = I (j1 : Int) ∧ j1 < 401 ∧ (∃ j2 : Nat, x1 = I (j2 : Int) ∧ j2 < 400 ∧ (SpI g l mX5_isDigit (sI h 4 j1 (I 0)) [.int (h.1 2 j2)] (fun v3 hv3 => ((v3 = 0) → (∃ j5 : Nat, x1 = I (j5 : Int) ∧ j5 < 400 ∧ (SpI g l mX5_isLetter hv3 [.int (hv3.1 2 j5)] (fun v6 hv6 => ((v6 = 0) → (∃ j8 : Nat, x1 = I (j8 : Int) ∧ j8 < 400 ∧ (((¬ (hv6.1 2 j8) = (I 59)) → (∃ j10 : Nat, (hv6.1 1 6) = I (j10 : Int) ∧ j10 < 401 ∧ (Q (sI hv6 3 j10 (I 9))))) ∧ (((hv6.1 2 j8) = (I 59)) → (∃ j11 : Nat, (hv6.1 1 6) = I (j11 : Int) ∧ j11 < 401 ∧ (Q (sI hv6 3 j11 (I 1)))))))) ∧ ((¬ (v6 = 0)) → (SpV g l mX5_readWord hv6 [.ref 1, .int x1] (fun hv12 => Q hv12))))))) ∧ ((¬ (v3 = 0)) → (SpV g l mX5_readNumber hv3 [.ref 1, .int x1] (fun hv13 => Q hv13))))))) : SpV g l mX5_readToken h [.ref 1, .int x1] Q := spV_of (by decide) (leb rfl) (fun X O => bX5_readToken_0 O H)
set_option maxRecDepth 20000 in
set_option maxHeartbeats 2000000 in
theorem bX5_readNumber_0 {g : mg} {l : Launch} {X : XT} {Q : AH → Prop} (O : Ok (FF g l X) RX5 cX5_readNumber 5 mX5_readNumber.2.2.2.2 none) {x1 : Int32} {h : AH} (H : GV g l X Q h 4 [(0, .ref 1), (1, .int x1), (2, .int (I 0)), (3, .int x1)] []) : GV g l X Q h 0 [(0, .ref 1), (1, .int x1)] [] := by
  refine g_iconst (v := (I 0)) (pc := 0) O rfl dX5_readNumber_0 ?_
  refine g_istoren (lv' := [(0, .ref 1), (1, .int x1), (2, .int (I 0))]) (pc := 1) O dX5_readNumber_1 rfl (ltb rfl) rfl ?_
  refine g_iloadn (pc := 2) O rfl dX5_readNumber_2 ?_
  refine g_istoren (lv' := [(0, .ref 1), (1, .int x1), (2, .int (I 0)), (3, .int x1)]) (pc := 3) O dX5_readNumber_3 rfl (ltb rfl) rfl ?_
  exact H
set_option maxRecDepth 20000 in
set_option maxHeartbeats 2000000 in
theorem bX5_readNumber_4 {g : mg} {l : Launch} {X : XT} {Q : AH → Prop} (O : Ok (FF g l X) RX5 cX5_readNumber 5 mX5_readNumber.2.2.2.2 none) {x1 : Int32} {x2 : Int32} {x3 : Int32} {h : AH} (H : (((h.1 1 1) ≤ x3) → (GV g l X Q h 52 [(0, .ref 1), (1, .int x1), (2, .int x2), (3, .int x3)] [])) ∧ ((¬ ((h.1 1 1) ≤ x3)) → (∃ j2 : Nat, x3 = I (j2 : Int) ∧ j2 < 400 ∧ (SpI g l mX5_isDigit h [.int (h.1 2 j2)] (fun v3 hv3 => ((v3 = 0) → (GV g l X Q hv3 52 [(0, .ref 1), (1, .int x1), (2, .int x2), (3, .int x3)] [])) ∧ ((¬ (v3 = 0)) → ((((I 999) < x2) → (GV g l X Q hv3 4 [(0, .ref 1), (1, .int x1), (2, .int x2), (3, .int (x3 + I 1))] [])) ∧ ((¬ ((I 999) < x2)) → (∃ j6 : Nat, x3 = I (j6 : Int) ∧ j6 < 400 ∧ (GV g l X Q hv3 4 [(0, .ref 1), (1, .int x1), (2, .int ((((I 10) * x2) + (hv3.1 2 j6)) - (I 48))), (3, .int (x3 + I 1))] [])))))))))) : GV g l X Q h 4 [(0, .ref 1), (1, .int x1), (2, .int x2), (3, .int x3)] [] := by
  refine g_iloadn (pc := 4) O rfl dX5_readNumber_4 ?_
  refine g_aloadn (pc := 5) O rfl dX5_readNumber_5 ?_
  refine g_getI (v := h.1 1 1) (pc := 6) O cls5 fl_X5_25 dX5_readNumber_6 rfl (ltb rfl) (ltb rfl) rfl rfl ?_
  refine g_icmp_ge (tgt := 52) (pc := 9) O dX5_readNumber_9 rfl (fun q1 => ?_) (fun q1 => ?_)
  · replace H := H.1 q1
    exact H
  · replace H := H.2 q1
    refine g_aloadn (pc := 12) O rfl dX5_readNumber_12 ?_
    refine g_getS (pc := 13) O cls5 fl_X5_9 dX5_readNumber_13 rfl (ltb rfl) (ltb rfl) rfl rfl ?_
    refine g_iloadn (pc := 16) O rfl dX5_readNumber_16 ?_
    obtain ⟨j2, ej2, bj2, H⟩ := H
    refine g_bald (j := j2) (pc := 17) O dX5_readNumber_17 ej2 rfl (ltb rfl) bj2 (ltb rfl) rfl ?_
    refine g_sI [.int (h.1 2 j2)] [] (pc := 18) O mk_X5_isDigit ml_X5_52 sm_X5_isDigit ⟨rfl, rfl, leb rfl, leb rfl⟩ rfl (leb rfl) dX5_readNumber_18 H rfl (fun v3 hv3 H => ?_)
    refine g_if_eq (tgt := 52) (pc := 21) O dX5_readNumber_21 rfl (fun q4 => ?_) (fun q4 => ?_)
    · replace H := H.1 q4
      exact H
    · replace H := H.2 q4
      refine g_iloadn (pc := 24) O rfl dX5_readNumber_24 ?_
      refine g_sipush (v := (I 999)) (pc := 25) O (by decide) dX5_readNumber_25 ?_
      refine g_icmp_gt (tgt := 46) (pc := 28) O dX5_readNumber_28 rfl (fun q5 => ?_) (fun q5 => ?_)
      · replace H := H.1 q5
        refine g_iinc (lv' := [(0, .ref 1), (1, .int x1), (2, .int x2), (3, .int (x3 + I 1))]) (pc := 46) O dX5_readNumber_46 rfl rfl (ltb rfl) rfl ?_
        refine g_goto (tgt := 4) (pc := 49) O dX5_readNumber_49 rfl ?_
        exact H
      · replace H := H.2 q5
        refine g_bipush (v := (I 10)) (pc := 31) O (by decide) dX5_readNumber_31 ?_
        refine g_iloadn (pc := 33) O rfl dX5_readNumber_33 ?_
        refine g_imul (pc := 34) O dX5_readNumber_34 ?_
        refine g_aloadn (pc := 35) O rfl dX5_readNumber_35 ?_
        refine g_getS (pc := 36) O cls5 fl_X5_9 dX5_readNumber_36 rfl (ltb rfl) (ltb rfl) rfl rfl ?_
        refine g_iloadn (pc := 39) O rfl dX5_readNumber_39 ?_
        obtain ⟨j6, ej6, bj6, H⟩ := H
        refine g_bald (j := j6) (pc := 40) O dX5_readNumber_40 ej6 rfl (ltb rfl) bj6 (ltb rfl) rfl ?_
        refine g_iadd (pc := 41) O dX5_readNumber_41 ?_
        refine g_bipush (v := (I 48)) (pc := 42) O (by decide) dX5_readNumber_42 ?_
        refine g_isub (pc := 44) O dX5_readNumber_44 ?_
        refine g_istoren (lv' := [(0, .ref 1), (1, .int x1), (2, .int ((((I 10) * x2) + (hv3.1 2 j6)) - (I 48))), (3, .int x3)]) (pc := 45) O dX5_readNumber_45 rfl (ltb rfl) rfl ?_
        refine g_iinc (lv' := [(0, .ref 1), (1, .int x1), (2, .int ((((I 10) * x2) + (hv3.1 2 j6)) - (I 48))), (3, .int (x3 + I 1))]) (pc := 46) O dX5_readNumber_46 rfl rfl (ltb rfl) rfl ?_
        refine g_goto (tgt := 4) (pc := 49) O dX5_readNumber_49 rfl ?_
        exact H
set_option maxRecDepth 20000 in
set_option maxHeartbeats 2000000 in
theorem bX5_readNumber_52 {g : mg} {l : Launch} {X : XT} {Q : AH → Prop} (O : Ok (FF g l X) RX5 cX5_readNumber 5 mX5_readNumber.2.2.2.2 none) {x1 : Int32} {x2 : Int32} {x3 : Int32} {h : AH} (H : ∃ j1 : Nat, x1 = I (j1 : Int) ∧ j1 < 400 ∧ (((¬ (h.1 2 j1) = (I 48)) → (GV g l X Q h 74 [(0, .ref 1), (2, .int x2)] [])) ∧ (((h.1 2 j1) = (I 48)) → (((x3 ≤ (x1 + (I 1))) → (GV g l X Q h 74 [(0, .ref 1), (2, .int x2)] [])) ∧ ((¬ (x3 ≤ (x1 + (I 1)))) → ((((I 999) < x2) → (∃ j5 : Nat, (h.1 1 6) = I (j5 : Int) ∧ j5 < 401 ∧ (∃ j6 : Nat, (h.1 1 6) = I (j6 : Int) ∧ j6 < 401 ∧ (Q (sI (sI h 3 j5 (I 9)) 4 j6 x2))))) ∧ ((¬ ((I 999) < x2)) → ((((I 1) = 0) → (∃ j8 : Nat, (h.1 1 6) = I (j8 : Int) ∧ j8 < 401 ∧ (∃ j9 : Nat, (h.1 1 6) = I (j9 : Int) ∧ j9 < 401 ∧ (Q (sI (sI h 3 j8 (I 2)) 4 j9 x2))))) ∧ ((¬ ((I 1) = 0)) → (∃ j10 : Nat, (h.1 1 6) = I (j10 : Int) ∧ j10 < 401 ∧ (∃ j11 : Nat, (h.1 1 6) = I (j11 : Int) ∧ j11 < 401 ∧ (Q (sI (sI h 3 j10 (I 9)) 4 j11 x2))))))))))))) : GV g l X Q h 52 [(0, .ref 1), (1, .int x1), (2, .int x2), (3, .int x3)] [] := by
  refine g_aloadn (pc := 52) O rfl dX5_readNumber_52 ?_
  refine g_getS (pc := 53) O cls5 fl_X5_9 dX5_readNumber_53 rfl (ltb rfl) (ltb rfl) rfl rfl ?_
  refine g_iloadn (pc := 56) O rfl dX5_readNumber_56 ?_
  obtain ⟨j1, ej1, bj1, H⟩ := H
  refine g_bald (j := j1) (pc := 57) O dX5_readNumber_57 ej1 rfl (ltb rfl) bj1 (ltb rfl) rfl ?_
  refine g_bipush (v := (I 48)) (pc := 58) O (by decide) dX5_readNumber_58 ?_
  refine g_icmp_ne (tgt := 74) (pc := 60) O dX5_readNumber_60 rfl (fun q2 => ?_) (fun q2 => ?_)
  · replace H := H.1 q2
    refine g_sub [0, 2] rfl ?_
    exact H
  · replace H := H.2 q2
    refine g_iloadn (pc := 63) O rfl dX5_readNumber_63 ?_
    refine g_iloadn (pc := 64) O rfl dX5_readNumber_64 ?_
    refine g_iconst (v := (I 1)) (pc := 65) O rfl dX5_readNumber_65 ?_
    refine g_iadd (pc := 66) O dX5_readNumber_66 ?_
    refine g_icmp_le (tgt := 74) (pc := 67) O dX5_readNumber_67 rfl (fun q3 => ?_) (fun q3 => ?_)
    · replace H := H.1 q3
      refine g_sub [0, 2] rfl ?_
      exact H
    · replace H := H.2 q3
      refine g_iconst (v := (I 1)) (pc := 70) O rfl dX5_readNumber_70 ?_
      refine g_goto (tgt := 75) (pc := 71) O dX5_readNumber_71 rfl ?_
      refine g_istore (lv' := [(0, .ref 1), (1, .int x1), (2, .int x2), (3, .int x3), (4, .int (I 1))]) (pc := 75) O dX5_readNumber_75 (ltb rfl) rfl ?_
      refine g_aloadn (pc := 77) O rfl dX5_readNumber_77 ?_
      refine g_getS (pc := 78) O cls5 fl_X5_15 dX5_readNumber_78 rfl (ltb rfl) (ltb rfl) rfl rfl ?_
      refine g_aloadn (pc := 81) O rfl dX5_readNumber_81 ?_
      refine g_getI (v := h.1 1 6) (pc := 82) O cls5 fl_X5_29 dX5_readNumber_82 rfl (ltb rfl) (ltb rfl) rfl rfl ?_
      refine g_iloadn (pc := 85) O rfl dX5_readNumber_85 ?_
      refine g_sipush (v := (I 999)) (pc := 86) O (by decide) dX5_readNumber_86 ?_
      refine g_icmp_gt (tgt := 97) (pc := 89) O dX5_readNumber_89 rfl (fun q4 => ?_) (fun q4 => ?_)
      · replace H := H.1 q4
        refine g_bipush (v := (I 9)) (pc := 97) O (by decide) dX5_readNumber_97 ?_
        refine g_goto (tgt := 103) (pc := 99) O dX5_readNumber_99 rfl ?_
        obtain ⟨j5, ej5, bj5, H⟩ := H
        refine g_iast (j := j5) (pc := 103) O dX5_readNumber_103 ej5 rfl (ltb rfl) (leb rfl) bj5 (ltb rfl) ?_
        refine g_aloadn (pc := 104) O rfl dX5_readNumber_104 ?_
        refine g_getS (pc := 105) O cls5 fl_X5_19 dX5_readNumber_105 rfl (ltb rfl) (ltb rfl) rfl rfl ?_
        refine g_aloadn (pc := 108) O rfl dX5_readNumber_108 ?_
        refine g_getI (v := h.1 1 6) (pc := 109) O cls5 fl_X5_29 dX5_readNumber_109 rfl (ltb rfl) (ltb rfl) rfl rfl ?_
        refine g_iloadn (pc := 112) O rfl dX5_readNumber_112 ?_
        obtain ⟨j6, ej6, bj6, H⟩ := H
        refine g_iast (j := j6) (pc := 113) O dX5_readNumber_113 ej6 rfl (ltb rfl) (leb rfl) bj6 (ltb rfl) ?_
        exact g_vret (pc := 114) O dX5_readNumber_114 H
      · replace H := H.2 q4
        refine g_iload (pc := 92) O rfl dX5_readNumber_92 ?_
        refine g_if_eq (tgt := 102) (pc := 94) O dX5_readNumber_94 rfl (fun q7 => ?_) (fun q7 => ?_)
        · replace H := H.1 q7
          refine g_iconst (v := (I 2)) (pc := 102) O rfl dX5_readNumber_102 ?_
          obtain ⟨j8, ej8, bj8, H⟩ := H
          refine g_iast (j := j8) (pc := 103) O dX5_readNumber_103 ej8 rfl (ltb rfl) (leb rfl) bj8 (ltb rfl) ?_
          refine g_aloadn (pc := 104) O rfl dX5_readNumber_104 ?_
          refine g_getS (pc := 105) O cls5 fl_X5_19 dX5_readNumber_105 rfl (ltb rfl) (ltb rfl) rfl rfl ?_
          refine g_aloadn (pc := 108) O rfl dX5_readNumber_108 ?_
          refine g_getI (v := h.1 1 6) (pc := 109) O cls5 fl_X5_29 dX5_readNumber_109 rfl (ltb rfl) (ltb rfl) rfl rfl ?_
          refine g_iloadn (pc := 112) O rfl dX5_readNumber_112 ?_
          obtain ⟨j9, ej9, bj9, H⟩ := H
          refine g_iast (j := j9) (pc := 113) O dX5_readNumber_113 ej9 rfl (ltb rfl) (leb rfl) bj9 (ltb rfl) ?_
          exact g_vret (pc := 114) O dX5_readNumber_114 H
        · replace H := H.2 q7
          refine g_bipush (v := (I 9)) (pc := 97) O (by decide) dX5_readNumber_97 ?_
          refine g_goto (tgt := 103) (pc := 99) O dX5_readNumber_99 rfl ?_
          obtain ⟨j10, ej10, bj10, H⟩ := H
          refine g_iast (j := j10) (pc := 103) O dX5_readNumber_103 ej10 rfl (ltb rfl) (leb rfl) bj10 (ltb rfl) ?_
          refine g_aloadn (pc := 104) O rfl dX5_readNumber_104 ?_
          refine g_getS (pc := 105) O cls5 fl_X5_19 dX5_readNumber_105 rfl (ltb rfl) (ltb rfl) rfl rfl ?_
          refine g_aloadn (pc := 108) O rfl dX5_readNumber_108 ?_
          refine g_getI (v := h.1 1 6) (pc := 109) O cls5 fl_X5_29 dX5_readNumber_109 rfl (ltb rfl) (ltb rfl) rfl rfl ?_
          refine g_iloadn (pc := 112) O rfl dX5_readNumber_112 ?_
          obtain ⟨j11, ej11, bj11, H⟩ := H
          refine g_iast (j := j11) (pc := 113) O dX5_readNumber_113 ej11 rfl (ltb rfl) (leb rfl) bj11 (ltb rfl) ?_
          exact g_vret (pc := 114) O dX5_readNumber_114 H
set_option maxRecDepth 20000 in
set_option maxHeartbeats 2000000 in
theorem bX5_readNumber_74 {g : mg} {l : Launch} {X : XT} {Q : AH → Prop} (O : Ok (FF g l X) RX5 cX5_readNumber 5 mX5_readNumber.2.2.2.2 none) {x2 : Int32} {h : AH} (H : (((I 999) < x2) → (∃ j2 : Nat, (h.1 1 6) = I (j2 : Int) ∧ j2 < 401 ∧ (∃ j3 : Nat, (h.1 1 6) = I (j3 : Int) ∧ j3 < 401 ∧ (Q (sI (sI h 3 j2 (I 9)) 4 j3 x2))))) ∧ ((¬ ((I 999) < x2)) → ((((I 0) = 0) → (∃ j5 : Nat, (h.1 1 6) = I (j5 : Int) ∧ j5 < 401 ∧ (∃ j6 : Nat, (h.1 1 6) = I (j6 : Int) ∧ j6 < 401 ∧ (Q (sI (sI h 3 j5 (I 2)) 4 j6 x2))))) ∧ ((¬ ((I 0) = 0)) → (∃ j7 : Nat, (h.1 1 6) = I (j7 : Int) ∧ j7 < 401 ∧ (∃ j8 : Nat, (h.1 1 6) = I (j8 : Int) ∧ j8 < 401 ∧ (Q (sI (sI h 3 j7 (I 9)) 4 j8 x2)))))))) : GV g l X Q h 74 [(0, .ref 1), (2, .int x2)] [] := by
  refine g_iconst (v := (I 0)) (pc := 74) O rfl dX5_readNumber_74 ?_
  refine g_istore (lv' := [(0, .ref 1), (2, .int x2), (4, .int (I 0))]) (pc := 75) O dX5_readNumber_75 (ltb rfl) rfl ?_
  refine g_aloadn (pc := 77) O rfl dX5_readNumber_77 ?_
  refine g_getS (pc := 78) O cls5 fl_X5_15 dX5_readNumber_78 rfl (ltb rfl) (ltb rfl) rfl rfl ?_
  refine g_aloadn (pc := 81) O rfl dX5_readNumber_81 ?_
  refine g_getI (v := h.1 1 6) (pc := 82) O cls5 fl_X5_29 dX5_readNumber_82 rfl (ltb rfl) (ltb rfl) rfl rfl ?_
  refine g_iloadn (pc := 85) O rfl dX5_readNumber_85 ?_
  refine g_sipush (v := (I 999)) (pc := 86) O (by decide) dX5_readNumber_86 ?_
  refine g_icmp_gt (tgt := 97) (pc := 89) O dX5_readNumber_89 rfl (fun q1 => ?_) (fun q1 => ?_)
  · replace H := H.1 q1
    refine g_bipush (v := (I 9)) (pc := 97) O (by decide) dX5_readNumber_97 ?_
    refine g_goto (tgt := 103) (pc := 99) O dX5_readNumber_99 rfl ?_
    obtain ⟨j2, ej2, bj2, H⟩ := H
    refine g_iast (j := j2) (pc := 103) O dX5_readNumber_103 ej2 rfl (ltb rfl) (leb rfl) bj2 (ltb rfl) ?_
    refine g_aloadn (pc := 104) O rfl dX5_readNumber_104 ?_
    refine g_getS (pc := 105) O cls5 fl_X5_19 dX5_readNumber_105 rfl (ltb rfl) (ltb rfl) rfl rfl ?_
    refine g_aloadn (pc := 108) O rfl dX5_readNumber_108 ?_
    refine g_getI (v := h.1 1 6) (pc := 109) O cls5 fl_X5_29 dX5_readNumber_109 rfl (ltb rfl) (ltb rfl) rfl rfl ?_
    refine g_iloadn (pc := 112) O rfl dX5_readNumber_112 ?_
    obtain ⟨j3, ej3, bj3, H⟩ := H
    refine g_iast (j := j3) (pc := 113) O dX5_readNumber_113 ej3 rfl (ltb rfl) (leb rfl) bj3 (ltb rfl) ?_
    exact g_vret (pc := 114) O dX5_readNumber_114 H
  · replace H := H.2 q1
    refine g_iload (pc := 92) O rfl dX5_readNumber_92 ?_
    refine g_if_eq (tgt := 102) (pc := 94) O dX5_readNumber_94 rfl (fun q4 => ?_) (fun q4 => ?_)
    · replace H := H.1 q4
      refine g_iconst (v := (I 2)) (pc := 102) O rfl dX5_readNumber_102 ?_
      obtain ⟨j5, ej5, bj5, H⟩ := H
      refine g_iast (j := j5) (pc := 103) O dX5_readNumber_103 ej5 rfl (ltb rfl) (leb rfl) bj5 (ltb rfl) ?_
      refine g_aloadn (pc := 104) O rfl dX5_readNumber_104 ?_
      refine g_getS (pc := 105) O cls5 fl_X5_19 dX5_readNumber_105 rfl (ltb rfl) (ltb rfl) rfl rfl ?_
      refine g_aloadn (pc := 108) O rfl dX5_readNumber_108 ?_
      refine g_getI (v := h.1 1 6) (pc := 109) O cls5 fl_X5_29 dX5_readNumber_109 rfl (ltb rfl) (ltb rfl) rfl rfl ?_
      refine g_iloadn (pc := 112) O rfl dX5_readNumber_112 ?_
      obtain ⟨j6, ej6, bj6, H⟩ := H
      refine g_iast (j := j6) (pc := 113) O dX5_readNumber_113 ej6 rfl (ltb rfl) (leb rfl) bj6 (ltb rfl) ?_
      exact g_vret (pc := 114) O dX5_readNumber_114 H
    · replace H := H.2 q4
      refine g_bipush (v := (I 9)) (pc := 97) O (by decide) dX5_readNumber_97 ?_
      refine g_goto (tgt := 103) (pc := 99) O dX5_readNumber_99 rfl ?_
      obtain ⟨j7, ej7, bj7, H⟩ := H
      refine g_iast (j := j7) (pc := 103) O dX5_readNumber_103 ej7 rfl (ltb rfl) (leb rfl) bj7 (ltb rfl) ?_
      refine g_aloadn (pc := 104) O rfl dX5_readNumber_104 ?_
      refine g_getS (pc := 105) O cls5 fl_X5_19 dX5_readNumber_105 rfl (ltb rfl) (ltb rfl) rfl rfl ?_
      refine g_aloadn (pc := 108) O rfl dX5_readNumber_108 ?_
      refine g_getI (v := h.1 1 6) (pc := 109) O cls5 fl_X5_29 dX5_readNumber_109 rfl (ltb rfl) (ltb rfl) rfl rfl ?_
      refine g_iloadn (pc := 112) O rfl dX5_readNumber_112 ?_
      obtain ⟨j8, ej8, bj8, H⟩ := H
      refine g_iast (j := j8) (pc := 113) O dX5_readNumber_113 ej8 rfl (ltb rfl) (leb rfl) bj8 (ltb rfl) ?_
      exact g_vret (pc := 114) O dX5_readNumber_114 H
set_option maxRecDepth 20000 in
set_option maxHeartbeats 2000000 in
theorem sX5_readNumber {g : mg} {l : Launch} {Q : AH → Prop} {x1 : Int32} {h : AH} (H : ∀ X, Ok (FF g l X) RX5 cX5_readNumber 5 mX5_readNumber.2.2.2.2 none → GV g l X Q h 4 [(0, .ref 1), (1, .int x1), (2, .int (I 0)), (3, .int x1)] []) : SpV g l mX5_readNumber h [.ref 1, .int x1] Q := spV_of (by decide) (leb rfl) (fun X O => bX5_readNumber_0 O (H X O))
set_option maxRecDepth 20000 in
set_option maxHeartbeats 2000000 in
theorem bX5_readWord_0 {g : mg} {l : Launch} {X : XT} {Q : AH → Prop} (O : Ok (FF g l X) RX5 cX5_readWord 4 mX5_readWord.2.2.2.2 none) {x1 : Int32} {h : AH} (H : GV g l X Q h 2 [(0, .ref 1), (1, .int x1), (2, .int x1)] []) : GV g l X Q h 0 [(0, .ref 1), (1, .int x1)] [] := by
  refine g_iloadn (pc := 0) O rfl dX5_readWord_0 ?_
  refine g_istoren (lv' := [(0, .ref 1), (1, .int x1), (2, .int x1)]) (pc := 1) O dX5_readWord_1 rfl (ltb rfl) rfl ?_
  exact H
set_option maxRecDepth 20000 in
set_option maxHeartbeats 2000000 in
theorem bX5_readWord_2 {g : mg} {l : Launch} {X : XT} {Q : AH → Prop} (O : Ok (FF g l X) RX5 cX5_readWord 4 mX5_readWord.2.2.2.2 none) {x1 : Int32} {x2 : Int32} {h : AH} (H : (((h.1 1 1) ≤ x2) → (GV g l X Q h 28 [(0, .ref 1), (1, .int x1), (2, .int x2)] [])) ∧ ((¬ ((h.1 1 1) ≤ x2)) → (∃ j2 : Nat, x2 = I (j2 : Int) ∧ j2 < 400 ∧ (SpI g l mX5_isLetter h [.int (h.1 2 j2)] (fun v3 hv3 => ((v3 = 0) → (GV g l X Q hv3 28 [(0, .ref 1), (1, .int x1), (2, .int x2)] [])) ∧ ((¬ (v3 = 0)) → (GV g l X Q hv3 2 [(0, .ref 1), (1, .int x1), (2, .int (x2 + I 1))] []))))))) : GV g l X Q h 2 [(0, .ref 1), (1, .int x1), (2, .int x2)] [] := by
  refine g_iloadn (pc := 2) O rfl dX5_readWord_2 ?_
  refine g_aloadn (pc := 3) O rfl dX5_readWord_3 ?_
  refine g_getI (v := h.1 1 1) (pc := 4) O cls5 fl_X5_25 dX5_readWord_4 rfl (ltb rfl) (ltb rfl) rfl rfl ?_
  refine g_icmp_ge (tgt := 28) (pc := 7) O dX5_readWord_7 rfl (fun q1 => ?_) (fun q1 => ?_)
  · replace H := H.1 q1
    exact H
  · replace H := H.2 q1
    refine g_aloadn (pc := 10) O rfl dX5_readWord_10 ?_
    refine g_getS (pc := 11) O cls5 fl_X5_9 dX5_readWord_11 rfl (ltb rfl) (ltb rfl) rfl rfl ?_
    refine g_iloadn (pc := 14) O rfl dX5_readWord_14 ?_
    obtain ⟨j2, ej2, bj2, H⟩ := H
    refine g_bald (j := j2) (pc := 15) O dX5_readWord_15 ej2 rfl (ltb rfl) bj2 (ltb rfl) rfl ?_
    refine g_sI [.int (h.1 2 j2)] [] (pc := 16) O mk_X5_isLetter ml_X5_49 sm_X5_isLetter ⟨rfl, rfl, leb rfl, leb rfl⟩ rfl (leb rfl) dX5_readWord_16 H rfl (fun v3 hv3 H => ?_)
    refine g_if_eq (tgt := 28) (pc := 19) O dX5_readWord_19 rfl (fun q4 => ?_) (fun q4 => ?_)
    · replace H := H.1 q4
      exact H
    · replace H := H.2 q4
      refine g_iinc (lv' := [(0, .ref 1), (1, .int x1), (2, .int (x2 + I 1))]) (pc := 22) O dX5_readWord_22 rfl rfl (ltb rfl) rfl ?_
      refine g_goto (tgt := 2) (pc := 25) O dX5_readWord_25 rfl ?_
      exact H
set_option maxRecDepth 20000 in
set_option maxHeartbeats 2000000 in
theorem bX5_readWord_28 {g : mg} {l : Launch} {X : XT} {Q : AH → Prop} (O : Ok (FF g l X) RX5 cX5_readWord 4 mX5_readWord.2.2.2.2 none) {x1 : Int32} {x2 : Int32} {h : AH} (H : ((x2 ≤ (x1 + (I 1))) → (∃ j2 : Nat, x1 = I (j2 : Int) ∧ j2 < 400 ∧ ((((I 12) ≤ ((h.1 2 j2) - (I 97))) → (∃ j4 : Nat, (h.1 1 6) = I (j4 : Int) ∧ j4 < 401 ∧ (∃ j5 : Nat, (h.1 1 6) = I (j5 : Int) ∧ j5 < 401 ∧ (Q (sI (sI h 3 j4 (I 9)) 4 j5 ((h.1 2 j2) - (I 97))))))) ∧ ((¬ ((I 12) ≤ ((h.1 2 j2) - (I 97)))) → (∃ j6 : Nat, (h.1 1 6) = I (j6 : Int) ∧ j6 < 401 ∧ (∃ j7 : Nat, (h.1 1 6) = I (j7 : Int) ∧ j7 < 401 ∧ (Q (sI (sI h 3 j6 (I 3)) 4 j7 ((h.1 2 j2) - (I 97)))))))))) ∧ ((¬ (x2 ≤ (x1 + (I 1)))) → (SpI g l mX5_kindOfWord h [.ref 1, .int x1, .int x2] (fun v8 hv8 => ∃ j9 : Nat, (h.1 1 6) = I (j9 : Int) ∧ j9 < 401 ∧ (Q (sI hv8 3 j9 v8)))))) : GV g l X Q h 28 [(0, .ref 1), (1, .int x1), (2, .int x2)] [] := by
  refine g_iloadn (pc := 28) O rfl dX5_readWord_28 ?_
  refine g_iloadn (pc := 29) O rfl dX5_readWord_29 ?_
  refine g_iconst (v := (I 1)) (pc := 30) O rfl dX5_readWord_30 ?_
  refine g_iadd (pc := 31) O dX5_readWord_31 ?_
  refine g_icmp_le (tgt := 51) (pc := 32) O dX5_readWord_32 rfl (fun q1 => ?_) (fun q1 => ?_)
  · replace H := H.1 q1
    refine g_aloadn (pc := 51) O rfl dX5_readWord_51 ?_
    refine g_getS (pc := 52) O cls5 fl_X5_9 dX5_readWord_52 rfl (ltb rfl) (ltb rfl) rfl rfl ?_
    refine g_iloadn (pc := 55) O rfl dX5_readWord_55 ?_
    obtain ⟨j2, ej2, bj2, H⟩ := H
    refine g_bald (j := j2) (pc := 56) O dX5_readWord_56 ej2 rfl (ltb rfl) bj2 (ltb rfl) rfl ?_
    refine g_bipush (v := (I 97)) (pc := 57) O (by decide) dX5_readWord_57 ?_
    refine g_isub (pc := 59) O dX5_readWord_59 ?_
    refine g_istoren (lv' := [(0, .ref 1), (1, .int x1), (2, .int x2), (3, .int ((h.1 2 j2) - (I 97)))]) (pc := 60) O dX5_readWord_60 rfl (ltb rfl) rfl ?_
    refine g_aloadn (pc := 61) O rfl dX5_readWord_61 ?_
    refine g_getS (pc := 62) O cls5 fl_X5_15 dX5_readWord_62 rfl (ltb rfl) (ltb rfl) rfl rfl ?_
    refine g_aloadn (pc := 65) O rfl dX5_readWord_65 ?_
    refine g_getI (v := h.1 1 6) (pc := 66) O cls5 fl_X5_29 dX5_readWord_66 rfl (ltb rfl) (ltb rfl) rfl rfl ?_
    refine g_iloadn (pc := 69) O rfl dX5_readWord_69 ?_
    refine g_bipush (v := (I 12)) (pc := 70) O (by decide) dX5_readWord_70 ?_
    refine g_icmp_ge (tgt := 79) (pc := 72) O dX5_readWord_72 rfl (fun q3 => ?_) (fun q3 => ?_)
    · replace H := H.1 q3
      refine g_bipush (v := (I 9)) (pc := 79) O (by decide) dX5_readWord_79 ?_
      obtain ⟨j4, ej4, bj4, H⟩ := H
      refine g_iast (j := j4) (pc := 81) O dX5_readWord_81 ej4 rfl (ltb rfl) (leb rfl) bj4 (ltb rfl) ?_
      refine g_aloadn (pc := 82) O rfl dX5_readWord_82 ?_
      refine g_getS (pc := 83) O cls5 fl_X5_19 dX5_readWord_83 rfl (ltb rfl) (ltb rfl) rfl rfl ?_
      refine g_aloadn (pc := 86) O rfl dX5_readWord_86 ?_
      refine g_getI (v := h.1 1 6) (pc := 87) O cls5 fl_X5_29 dX5_readWord_87 rfl (ltb rfl) (ltb rfl) rfl rfl ?_
      refine g_iloadn (pc := 90) O rfl dX5_readWord_90 ?_
      obtain ⟨j5, ej5, bj5, H⟩ := H
      refine g_iast (j := j5) (pc := 91) O dX5_readWord_91 ej5 rfl (ltb rfl) (leb rfl) bj5 (ltb rfl) ?_
      exact g_vret (pc := 92) O dX5_readWord_92 H
    · replace H := H.2 q3
      refine g_iconst (v := (I 3)) (pc := 75) O rfl dX5_readWord_75 ?_
      refine g_goto (tgt := 81) (pc := 76) O dX5_readWord_76 rfl ?_
      obtain ⟨j6, ej6, bj6, H⟩ := H
      refine g_iast (j := j6) (pc := 81) O dX5_readWord_81 ej6 rfl (ltb rfl) (leb rfl) bj6 (ltb rfl) ?_
      refine g_aloadn (pc := 82) O rfl dX5_readWord_82 ?_
      refine g_getS (pc := 83) O cls5 fl_X5_19 dX5_readWord_83 rfl (ltb rfl) (ltb rfl) rfl rfl ?_
      refine g_aloadn (pc := 86) O rfl dX5_readWord_86 ?_
      refine g_getI (v := h.1 1 6) (pc := 87) O cls5 fl_X5_29 dX5_readWord_87 rfl (ltb rfl) (ltb rfl) rfl rfl ?_
      refine g_iloadn (pc := 90) O rfl dX5_readWord_90 ?_
      obtain ⟨j7, ej7, bj7, H⟩ := H
      refine g_iast (j := j7) (pc := 91) O dX5_readWord_91 ej7 rfl (ltb rfl) (leb rfl) bj7 (ltb rfl) ?_
      exact g_vret (pc := 92) O dX5_readWord_92 H
  · replace H := H.2 q1
    refine g_aloadn (pc := 35) O rfl dX5_readWord_35 ?_
    refine g_getS (pc := 36) O cls5 fl_X5_15 dX5_readWord_36 rfl (ltb rfl) (ltb rfl) rfl rfl ?_
    refine g_aloadn (pc := 39) O rfl dX5_readWord_39 ?_
    refine g_getI (v := h.1 1 6) (pc := 40) O cls5 fl_X5_29 dX5_readWord_40 rfl (ltb rfl) (ltb rfl) rfl rfl ?_
    refine g_aloadn (pc := 43) O rfl dX5_readWord_43 ?_
    refine g_iloadn (pc := 44) O rfl dX5_readWord_44 ?_
    refine g_iloadn (pc := 45) O rfl dX5_readWord_45 ?_
    refine g_vI [.int x1, .int x2] [.int (h.1 1 6), .ref 3] (pc := 46) O mk_X5_kindOfWord ml_X5_61 im_X5_kindOfWord se_X5_kindOfWord cls5 rfl ⟨rfl, rfl, leb rfl, leb rfl⟩ rfl (leb rfl) dX5_readWord_46 H rfl (fun v8 hv8 H => ?_)
    obtain ⟨j9, ej9, bj9, H⟩ := H
    refine g_iast (j := j9) (pc := 49) O dX5_readWord_49 ej9 rfl (ltb rfl) (leb rfl) bj9 (ltb rfl) ?_
    exact g_vret (pc := 50) O dX5_readWord_50 H
set_option maxRecDepth 20000 in
set_option maxHeartbeats 2000000 in
theorem sX5_readWord {g : mg} {l : Launch} {Q : AH → Prop} {x1 : Int32} {h : AH} (H : ∀ X, Ok (FF g l X) RX5 cX5_readWord 4 mX5_readWord.2.2.2.2 none → GV g l X Q h 2 [(0, .ref 1), (1, .int x1), (2, .int x1)] []) : SpV g l mX5_readWord h [.ref 1, .int x1] Q := spV_of (by decide) (leb rfl) (fun X O => bX5_readWord_0 O (H X O))
set_option maxRecDepth 20000 in
set_option maxHeartbeats 2000000 in
theorem bX5_kindOfWord_0 {g : mg} {l : Launch} {X : XT} {Q : Int32 → AH → Prop} (O : Ok (FF g l X) RX5 cX5_kindOfWord 3 mX5_kindOfWord.2.2.2.2 (some .int)) {x1 : Int32} {x2 : Int32} {h : AH} (H : SpI g l mX5_isWord h [.ref 1, .ref 1010, .int x1, .int x2] (fun v1 hv1 => ((v1 = 0) → (SpI g l mX5_isWord hv1 [.ref 1, .ref 1011, .int x1, .int x2] (fun v3 hv3 => ((v3 = 0) → (SpI g l mX5_isWord hv3 [.ref 1, .ref 1012, .int x1, .int x2] (fun v5 hv5 => ((v5 = 0) → (SpI g l mX5_isWord hv5 [.ref 1, .ref 1013, .int x1, .int x2] (fun v7 hv7 => ((v7 = 0) → (SpI g l mX5_isWord hv7 [.ref 1, .ref 1014, .int x1, .int x2] (fun v9 hv9 => ((v9 = 0) → (Q (I 9) hv9)) ∧ ((¬ (v9 = 0)) → (Q (I 8) hv9))))) ∧ ((¬ (v7 = 0)) → (Q (I 7) hv7))))) ∧ ((¬ (v5 = 0)) → (Q (I 6) hv5))))) ∧ ((¬ (v3 = 0)) → (Q (I 5) hv3))))) ∧ ((¬ (v1 = 0)) → (Q (I 4) hv1)))) : GI g l X Q h 0 [(0, .ref 1), (1, .int x1), (2, .int x2)] [] := by
  refine g_aloadn (pc := 0) O rfl dX5_kindOfWord_0 ?_
  refine g_ldcS0 (pc := 1) O dX5_kindOfWord_1 ?_
  refine g_iloadn (pc := 3) O rfl dX5_kindOfWord_3 ?_
  refine g_iloadn (pc := 4) O rfl dX5_kindOfWord_4 ?_
  refine g_vI [.ref 1010, .int x1, .int x2] [] (pc := 5) O mk_X5_isWord ml_X5_67 im_X5_isWord se_X5_isWord cls5 rfl ⟨rfl, rfl, leb rfl, leb rfl⟩ rfl (leb rfl) dX5_kindOfWord_5 H rfl (fun v1 hv1 H => ?_)
  refine g_if_eq (tgt := 13) (pc := 8) O dX5_kindOfWord_8 rfl (fun q2 => ?_) (fun q2 => ?_)
  · replace H := H.1 q2
    refine g_aloadn (pc := 13) O rfl dX5_kindOfWord_13 ?_
    refine g_ldcS1 (pc := 14) O dX5_kindOfWord_14 ?_
    refine g_iloadn (pc := 16) O rfl dX5_kindOfWord_16 ?_
    refine g_iloadn (pc := 17) O rfl dX5_kindOfWord_17 ?_
    refine g_vI [.ref 1011, .int x1, .int x2] [] (pc := 18) O mk_X5_isWord ml_X5_67 im_X5_isWord se_X5_isWord cls5 rfl ⟨rfl, rfl, leb rfl, leb rfl⟩ rfl (leb rfl) dX5_kindOfWord_18 H rfl (fun v3 hv3 H => ?_)
    refine g_if_eq (tgt := 26) (pc := 21) O dX5_kindOfWord_21 rfl (fun q4 => ?_) (fun q4 => ?_)
    · replace H := H.1 q4
      refine g_aloadn (pc := 26) O rfl dX5_kindOfWord_26 ?_
      refine g_ldcS2 (pc := 27) O dX5_kindOfWord_27 ?_
      refine g_iloadn (pc := 29) O rfl dX5_kindOfWord_29 ?_
      refine g_iloadn (pc := 30) O rfl dX5_kindOfWord_30 ?_
      refine g_vI [.ref 1012, .int x1, .int x2] [] (pc := 31) O mk_X5_isWord ml_X5_67 im_X5_isWord se_X5_isWord cls5 rfl ⟨rfl, rfl, leb rfl, leb rfl⟩ rfl (leb rfl) dX5_kindOfWord_31 H rfl (fun v5 hv5 H => ?_)
      refine g_if_eq (tgt := 40) (pc := 34) O dX5_kindOfWord_34 rfl (fun q6 => ?_) (fun q6 => ?_)
      · replace H := H.1 q6
        refine g_aloadn (pc := 40) O rfl dX5_kindOfWord_40 ?_
        refine g_ldcS3 (pc := 41) O dX5_kindOfWord_41 ?_
        refine g_iloadn (pc := 43) O rfl dX5_kindOfWord_43 ?_
        refine g_iloadn (pc := 44) O rfl dX5_kindOfWord_44 ?_
        refine g_vI [.ref 1013, .int x1, .int x2] [] (pc := 45) O mk_X5_isWord ml_X5_67 im_X5_isWord se_X5_isWord cls5 rfl ⟨rfl, rfl, leb rfl, leb rfl⟩ rfl (leb rfl) dX5_kindOfWord_45 H rfl (fun v7 hv7 H => ?_)
        refine g_if_eq (tgt := 54) (pc := 48) O dX5_kindOfWord_48 rfl (fun q8 => ?_) (fun q8 => ?_)
        · replace H := H.1 q8
          refine g_aloadn (pc := 54) O rfl dX5_kindOfWord_54 ?_
          refine g_ldcS4 (pc := 55) O dX5_kindOfWord_55 ?_
          refine g_iloadn (pc := 57) O rfl dX5_kindOfWord_57 ?_
          refine g_iloadn (pc := 58) O rfl dX5_kindOfWord_58 ?_
          refine g_vI [.ref 1014, .int x1, .int x2] [] (pc := 59) O mk_X5_isWord ml_X5_67 im_X5_isWord se_X5_isWord cls5 rfl ⟨rfl, rfl, leb rfl, leb rfl⟩ rfl (leb rfl) dX5_kindOfWord_59 H rfl (fun v9 hv9 H => ?_)
          refine g_if_eq (tgt := 70) (pc := 62) O dX5_kindOfWord_62 rfl (fun q10 => ?_) (fun q10 => ?_)
          · replace H := H.1 q10
            refine g_bipush (v := (I 9)) (pc := 70) O (by decide) dX5_kindOfWord_70 ?_
            exact g_iret (pc := 72) O dX5_kindOfWord_72 H
          · replace H := H.2 q10
            refine g_bipush (v := (I 8)) (pc := 65) O (by decide) dX5_kindOfWord_65 ?_
            refine g_goto (tgt := 72) (pc := 67) O dX5_kindOfWord_67 rfl ?_
            exact g_iret (pc := 72) O dX5_kindOfWord_72 H
        · replace H := H.2 q8
          refine g_bipush (v := (I 7)) (pc := 51) O (by decide) dX5_kindOfWord_51 ?_
          exact g_iret (pc := 53) O dX5_kindOfWord_53 H
      · replace H := H.2 q6
        refine g_bipush (v := (I 6)) (pc := 37) O (by decide) dX5_kindOfWord_37 ?_
        exact g_iret (pc := 39) O dX5_kindOfWord_39 H
    · replace H := H.2 q4
      refine g_iconst (v := (I 5)) (pc := 24) O rfl dX5_kindOfWord_24 ?_
      exact g_iret (pc := 25) O dX5_kindOfWord_25 H
  · replace H := H.2 q2
    refine g_iconst (v := (I 4)) (pc := 11) O rfl dX5_kindOfWord_11 ?_
    exact g_iret (pc := 12) O dX5_kindOfWord_12 H
set_option maxRecDepth 20000 in
set_option maxHeartbeats 2000000 in
theorem sX5_kindOfWord {g : mg} {l : Launch} {Q : Int32 → AH → Prop} {x1 : Int32} {x2 : Int32} {h : AH} (H : SpI g l mX5_isWord h [.ref 1, .ref 1010, .int x1, .int x2] (fun v1 hv1 => ((v1 = 0) → (SpI g l mX5_isWord hv1 [.ref 1, .ref 1011, .int x1, .int x2] (fun v3 hv3 => ((v3 = 0) → (SpI g l mX5_isWord hv3 [.ref 1, .ref 1012, .int x1, .int x2] (fun v5 hv5 => ((v5 = 0) → (SpI g l mX5_isWord hv5 [.ref 1, .ref 1013, .int x1, .int x2] (fun v7 hv7 => ((v7 = 0) → (SpI g l mX5_isWord hv7 [.ref 1, .ref 1014, .int x1, .int x2] (fun v9 hv9 => ((v9 = 0) → (Q (I 9) hv9)) ∧ ((¬ (v9 = 0)) → (Q (I 8) hv9))))) ∧ ((¬ (v7 = 0)) → (Q (I 7) hv7))))) ∧ ((¬ (v5 = 0)) → (Q (I 6) hv5))))) ∧ ((¬ (v3 = 0)) → (Q (I 5) hv3))))) ∧ ((¬ (v1 = 0)) → (Q (I 4) hv1)))) : SpI g l mX5_kindOfWord h [.ref 1, .int x1, .int x2] Q := spI_of (by decide) (leb rfl) (fun X O => bX5_kindOfWord_0 O H)
set_option maxRecDepth 20000 in
set_option maxHeartbeats 2000000 in
theorem bX5_isWord_0 {g : mg} {l : Launch} {X : XT} {Q : Int32 → AH → Prop} (O : Ok (FF g l X) RX5 cX5_isWord 5 mX5_isWord.2.2.2.2 (some .boolean)) {x1 : Nat} (hx1 : x1 < 5) {x2 : Int32} {x3 : Int32} {h : AH} (H : SpI g l mJ0_length_8abf5 h [.ref (1010 + x1)] (fun v1 hv1 => (((x3 - x2) = v1) → (GI g l X Q hv1 15 [(0, .ref 1), (1, .ref (1010 + x1)), (2, .int x2), (4, .int (I 0))] [])) ∧ ((¬ ((x3 - x2) = v1)) → (Q (I 0) hv1)))) : GI g l X Q h 0 [(0, .ref 1), (1, .ref (1010 + x1)), (2, .int x2), (3, .int x3)] [] := by
  refine g_iloadn (pc := 0) O rfl dX5_isWord_0 ?_
  refine g_iloadn (pc := 1) O rfl dX5_isWord_1 ?_
  refine g_isub (pc := 2) O dX5_isWord_2 ?_
  refine g_aloadn (pc := 3) O rfl dX5_isWord_3 ?_
  refine g_xI [] [.int (x3 - x2)] (pc := 4) O mk_J0_length_8abf5 ml_X5_79 im_J0_length_8abf5 se_J0_length_8abf5 rfl hx1 ⟨rfl, rfl, leb rfl, leb rfl⟩ rfl (leb rfl) dX5_isWord_4 H rfl (fun v1 hv1 H => ?_)
  refine g_icmp_eq (tgt := 12) (pc := 7) O dX5_isWord_7 rfl (fun q2 => ?_) (fun q2 => ?_)
  · replace H := H.1 q2
    refine g_iconst (v := (I 0)) (pc := 12) O rfl dX5_isWord_12 ?_
    refine g_istore (lv' := [(0, .ref 1), (1, .ref (1010 + x1)), (2, .int x2), (3, .int x3), (4, .int (I 0))]) (pc := 13) O dX5_isWord_13 (ltb rfl) rfl ?_
    refine g_sub [0, 1, 2, 4] rfl ?_
    exact H
  · replace H := H.2 q2
    refine g_iconst (v := (I 0)) (pc := 10) O rfl dX5_isWord_10 ?_
    exact g_zret (pc := 11) O dX5_isWord_11 (by decide) H
set_option maxRecDepth 20000 in
set_option maxHeartbeats 2000000 in
theorem bX5_isWord_15 {g : mg} {l : Launch} {X : XT} {Q : Int32 → AH → Prop} (O : Ok (FF g l X) RX5 cX5_isWord 5 mX5_isWord.2.2.2.2 (some .boolean)) {x1 : Nat} (hx1 : x1 < 5) {x2 : Int32} {x4 : Int32} {h : AH} (H : SpI g l mJ0_length_8abf5 h [.ref (1010 + x1)] (fun v1 hv1 => ((v1 ≤ x4) → (Q (I 1) hv1)) ∧ ((¬ (v1 ≤ x4)) → (∃ j3 : Nat, (x2 + x4) = I (j3 : Int) ∧ j3 < 400 ∧ (SpI g l mJ0_charAt_5068e hv1 [.ref (1010 + x1), .int x4] (fun v4 hv4 => (((hv1.1 2 j3) = v4) → (GI g l X Q hv4 15 [(0, .ref 1), (1, .ref (1010 + x1)), (2, .int x2), (4, .int (x4 + I 1))] [])) ∧ ((¬ ((hv1.1 2 j3) = v4)) → (Q (I 0) hv4)))))))) : GI g l X Q h 15 [(0, .ref 1), (1, .ref (1010 + x1)), (2, .int x2), (4, .int x4)] [] := by
  refine g_iload (pc := 15) O rfl dX5_isWord_15 ?_
  refine g_aloadn (pc := 17) O rfl dX5_isWord_17 ?_
  refine g_xI [] [.int x4] (pc := 18) O mk_J0_length_8abf5 ml_X5_79 im_J0_length_8abf5 se_J0_length_8abf5 rfl hx1 ⟨rfl, rfl, leb rfl, leb rfl⟩ rfl (leb rfl) dX5_isWord_18 H rfl (fun v1 hv1 H => ?_)
  refine g_icmp_ge (tgt := 50) (pc := 21) O dX5_isWord_21 rfl (fun q2 => ?_) (fun q2 => ?_)
  · replace H := H.1 q2
    refine g_iconst (v := (I 1)) (pc := 50) O rfl dX5_isWord_50 ?_
    exact g_zret (pc := 51) O dX5_isWord_51 (by decide) H
  · replace H := H.2 q2
    refine g_aloadn (pc := 24) O rfl dX5_isWord_24 ?_
    refine g_getS (pc := 25) O cls5 fl_X5_9 dX5_isWord_25 rfl (ltb rfl) (ltb rfl) rfl rfl ?_
    refine g_iloadn (pc := 28) O rfl dX5_isWord_28 ?_
    refine g_iload (pc := 29) O rfl dX5_isWord_29 ?_
    refine g_iadd (pc := 31) O dX5_isWord_31 ?_
    obtain ⟨j3, ej3, bj3, H⟩ := H
    refine g_bald (j := j3) (pc := 32) O dX5_isWord_32 ej3 rfl (ltb rfl) bj3 (ltb rfl) rfl ?_
    refine g_aloadn (pc := 33) O rfl dX5_isWord_33 ?_
    refine g_iload (pc := 34) O rfl dX5_isWord_34 ?_
    refine g_xI [.int x4] [.int (hv1.1 2 j3)] (pc := 36) O mk_J0_charAt_5068e ml_X5_84 im_J0_charAt_5068e se_J0_charAt_5068e rfl hx1 ⟨rfl, rfl, leb rfl, leb rfl⟩ rfl (leb rfl) dX5_isWord_36 H rfl (fun v4 hv4 H => ?_)
    refine g_icmp_eq (tgt := 44) (pc := 39) O dX5_isWord_39 rfl (fun q5 => ?_) (fun q5 => ?_)
    · replace H := H.1 q5
      refine g_iinc (lv' := [(0, .ref 1), (1, .ref (1010 + x1)), (2, .int x2), (4, .int (x4 + I 1))]) (pc := 44) O dX5_isWord_44 rfl rfl (ltb rfl) rfl ?_
      refine g_goto (tgt := 15) (pc := 47) O dX5_isWord_47 rfl ?_
      exact H
    · replace H := H.2 q5
      refine g_iconst (v := (I 0)) (pc := 42) O rfl dX5_isWord_42 ?_
      exact g_zret (pc := 43) O dX5_isWord_43 (by decide) H
set_option maxRecDepth 20000 in
set_option maxHeartbeats 2000000 in
theorem sX5_isWord {g : mg} {l : Launch} {Q : Int32 → AH → Prop} {x1 : Nat} (hx1 : x1 < 5) {x2 : Int32} {x3 : Int32} {h : AH} (H : ∀ X, Ok (FF g l X) RX5 cX5_isWord 5 mX5_isWord.2.2.2.2 (some .boolean) → SpI g l mJ0_length_8abf5 h [.ref (1010 + x1)] (fun v1 hv1 => (((x3 - x2) = v1) → (GI g l X Q hv1 15 [(0, .ref 1), (1, .ref (1010 + x1)), (2, .int x2), (4, .int (I 0))] [])) ∧ ((¬ ((x3 - x2) = v1)) → (Q (I 0) hv1)))) : SpI g l mX5_isWord h [.ref 1, .ref (1010 + x1), .int x2, .int x3] Q := spI_of (by decide) (leb rfl) (fun X O => bX5_isWord_0 O hx1 (H X O))
set_option maxRecDepth 20000 in
set_option maxHeartbeats 2000000 in
theorem bX5_isDigit_0 {g : mg} {l : Launch} {X : XT} {Q : Int32 → AH → Prop} (O : Ok (FF g l X) RX5 cX5_isDigit 1 mX5_isDigit.2.2.2.2 (some .boolean)) {x0 : Int32} {h : AH} (H : ((x0 < (I 48)) → (Q (I 0) h)) ∧ ((¬ (x0 < (I 48))) → ((((I 57) < x0) → (Q (I 0) h)) ∧ ((¬ ((I 57) < x0)) → (Q (I 1) h))))) : GI g l X Q h 0 [(0, .int x0)] [] := by
  refine g_iloadn (pc := 0) O rfl dX5_isDigit_0 ?_
  refine g_bipush (v := (I 48)) (pc := 1) O (by decide) dX5_isDigit_1 ?_
  refine g_icmp_lt (tgt := 16) (pc := 3) O dX5_isDigit_3 rfl (fun q1 => ?_) (fun q1 => ?_)
  · replace H := H.1 q1
    refine g_iconst (v := (I 0)) (pc := 16) O rfl dX5_isDigit_16 ?_
    exact g_zret (pc := 17) O dX5_isDigit_17 (by decide) H
  · replace H := H.2 q1
    refine g_iloadn (pc := 6) O rfl dX5_isDigit_6 ?_
    refine g_bipush (v := (I 57)) (pc := 7) O (by decide) dX5_isDigit_7 ?_
    refine g_icmp_gt (tgt := 16) (pc := 9) O dX5_isDigit_9 rfl (fun q2 => ?_) (fun q2 => ?_)
    · replace H := H.1 q2
      refine g_iconst (v := (I 0)) (pc := 16) O rfl dX5_isDigit_16 ?_
      exact g_zret (pc := 17) O dX5_isDigit_17 (by decide) H
    · replace H := H.2 q2
      refine g_iconst (v := (I 1)) (pc := 12) O rfl dX5_isDigit_12 ?_
      refine g_goto (tgt := 17) (pc := 13) O dX5_isDigit_13 rfl ?_
      exact g_zret (pc := 17) O dX5_isDigit_17 (by decide) H
set_option maxRecDepth 20000 in
set_option maxHeartbeats 2000000 in
theorem sX5_isDigit {g : mg} {l : Launch} {Q : Int32 → AH → Prop} {x0 : Int32} {h : AH} (H : ((x0 < (I 48)) → (Q (I 0) h)) ∧ ((¬ (x0 < (I 48))) → ((((I 57) < x0) → (Q (I 0) h)) ∧ ((¬ ((I 57) < x0)) → (Q (I 1) h))))) : SpI g l mX5_isDigit h [.int x0] Q := spI_of (by decide) (leb rfl) (fun X O => bX5_isDigit_0 O H)
set_option maxRecDepth 20000 in
set_option maxHeartbeats 2000000 in
theorem bX5_isLetter_0 {g : mg} {l : Launch} {X : XT} {Q : Int32 → AH → Prop} (O : Ok (FF g l X) RX5 cX5_isLetter 1 mX5_isLetter.2.2.2.2 (some .boolean)) {x0 : Int32} {h : AH} (H : ((x0 < (I 97)) → (Q (I 0) h)) ∧ ((¬ (x0 < (I 97))) → ((((I 122) < x0) → (Q (I 0) h)) ∧ ((¬ ((I 122) < x0)) → (Q (I 1) h))))) : GI g l X Q h 0 [(0, .int x0)] [] := by
  refine g_iloadn (pc := 0) O rfl dX5_isLetter_0 ?_
  refine g_bipush (v := (I 97)) (pc := 1) O (by decide) dX5_isLetter_1 ?_
  refine g_icmp_lt (tgt := 16) (pc := 3) O dX5_isLetter_3 rfl (fun q1 => ?_) (fun q1 => ?_)
  · replace H := H.1 q1
    refine g_iconst (v := (I 0)) (pc := 16) O rfl dX5_isLetter_16 ?_
    exact g_zret (pc := 17) O dX5_isLetter_17 (by decide) H
  · replace H := H.2 q1
    refine g_iloadn (pc := 6) O rfl dX5_isLetter_6 ?_
    refine g_bipush (v := (I 122)) (pc := 7) O (by decide) dX5_isLetter_7 ?_
    refine g_icmp_gt (tgt := 16) (pc := 9) O dX5_isLetter_9 rfl (fun q2 => ?_) (fun q2 => ?_)
    · replace H := H.1 q2
      refine g_iconst (v := (I 0)) (pc := 16) O rfl dX5_isLetter_16 ?_
      exact g_zret (pc := 17) O dX5_isLetter_17 (by decide) H
    · replace H := H.2 q2
      refine g_iconst (v := (I 1)) (pc := 12) O rfl dX5_isLetter_12 ?_
      refine g_goto (tgt := 17) (pc := 13) O dX5_isLetter_13 rfl ?_
      exact g_zret (pc := 17) O dX5_isLetter_17 (by decide) H
set_option maxRecDepth 20000 in
set_option maxHeartbeats 2000000 in
theorem sX5_isLetter {g : mg} {l : Launch} {Q : Int32 → AH → Prop} {x0 : Int32} {h : AH} (H : ((x0 < (I 97)) → (Q (I 0) h)) ∧ ((¬ (x0 < (I 97))) → ((((I 122) < x0) → (Q (I 0) h)) ∧ ((¬ ((I 122) < x0)) → (Q (I 1) h))))) : SpI g l mX5_isLetter h [.int x0] Q := spI_of (by decide) (leb rfl) (fun X O => bX5_isLetter_0 O H)
set_option maxRecDepth 20000 in
set_option maxHeartbeats 2000000 in
theorem bX1_read_0 {g : mg} {l : Launch} {X : XT} {Q : Int32 → AH → Prop} (O : Ok (FF g l X) RX1 cX1_read 2 mX1_read.2.2.2.2 (some .boolean)) {x0 : Nat} (hx0 : lay x0 = (1, 5)) {h : AH} (H : SpI g l mX5_take h [.ref 1, .int (I 4)] (fun v1 hv1 => ((v1 = 0) → (Q (I 0) hv1)) ∧ ((¬ (v1 = 0)) → (SpI g l mX5_takeNumber hv1 [.ref 1, .int (I 0), .int (I 5)] (fun v3 hv3 => ((¬ v3 = 0) → (SpI g l mX5_take (sI hv3 x0 2 (hv3.1 1 2)) [.ref 1, .int (I 5)] (fun v5 hv5 => (v5 = 0 ∨ v5 = 1) ∧ (SpI g l mX1_readCoats (sI hv5 x0 4 v5) [.ref x0, .ref 1] (fun v6 hv6 => ((v6 = 0) → (Q (I 0) hv6)) ∧ ((¬ (v6 = 0)) → (SpI g l mX5_take hv6 [.ref 1, .int (I 1)] (fun v8 hv8 => ((v8 = 0) → (Q (I 0) hv8)) ∧ ((¬ (v8 = 0)) → (SpI g l mX5_isAt hv8 [.ref 1, .int (I 0)] (fun v10 hv10 => ((v10 = 0) → (Q (I 0) hv10)) ∧ ((¬ (v10 = 0)) → (Q (I 1) hv10))))))))))))) ∧ ((v3 = 0) → (Q (I 0) hv3))))))) : GI g l X Q h 0 [(0, .ref x0), (1, .ref 1)] [] := by
  refine g_aloadn (pc := 0) O rfl dX1_read_0 ?_
  refine g_iconst (v := (I 4)) (pc := 1) O rfl dX1_read_1 ?_
  refine g_vI [.int (I 4)] [] (pc := 2) O mk_X5_take ml_X1_20 im_X5_take se_X5_take cls5 rfl ⟨rfl, rfl, leb rfl, leb rfl⟩ rfl (leb rfl) dX1_read_2 H rfl (fun v1 hv1 H => ?_)
  refine g_if_eq (tgt := 17) (pc := 5) O dX1_read_5 rfl (fun q2 => ?_) (fun q2 => ?_)
  · replace H := H.1 q2
    refine g_iconst (v := (I 0)) (pc := 17) O rfl dX1_read_17 ?_
    exact g_zret (pc := 18) O dX1_read_18 (by decide) H
  · replace H := H.2 q2
    refine g_aloadn (pc := 8) O rfl dX1_read_8 ?_
    refine g_iconst (v := (I 0)) (pc := 9) O rfl dX1_read_9 ?_
    refine g_iconst (v := (I 5)) (pc := 10) O rfl dX1_read_10 ?_
    refine g_vI [.int (I 0), .int (I 5)] [] (pc := 11) O mk_X5_takeNumber ml_X1_24 im_X5_takeNumber se_X5_takeNumber cls5 rfl ⟨rfl, rfl, leb rfl, leb rfl⟩ rfl (leb rfl) dX1_read_11 H rfl (fun v3 hv3 H => ?_)
    refine g_if_ne (tgt := 19) (pc := 14) O dX1_read_14 rfl (fun q4 => ?_) (fun q4 => ?_)
    · replace H := H.1 q4
      refine g_aloadn (pc := 19) O rfl dX1_read_19 ?_
      refine g_aloadn (pc := 20) O rfl dX1_read_20 ?_
      refine g_getI (v := hv3.1 1 2) (pc := 21) O cls5 fl_X1_28 dX1_read_21 rfl (ltb rfl) (ltb rfl) rfl rfl ?_
      refine g_putI (pc := 24) O cls1 fl_X1_32 dX1_read_24 hx0 (lay_lt hx0 (by decide)) (leb rfl) (ltb rfl) rfl rfl (by decide +kernel) ?_
      refine g_aloadn (pc := 27) O rfl dX1_read_27 ?_
      refine g_aloadn (pc := 28) O rfl dX1_read_28 ?_
      refine g_iconst (v := (I 5)) (pc := 29) O rfl dX1_read_29 ?_
      refine g_vI [.int (I 5)] [.ref x0] (pc := 30) O mk_X5_take ml_X1_20 im_X5_take se_X5_take cls5 rfl ⟨rfl, rfl, leb rfl, leb rfl⟩ rfl (leb rfl) dX1_read_30 H rfl (fun v5 hv5 H => ?_)
      obtain ⟨q12, H⟩ := H
      refine g_putZ (pc := 33) O cls1 fl_X1_35 dX1_read_33 hx0 (lay_lt hx0 (by decide)) (leb rfl) (ltb rfl) rfl rfl (by decide +kernel) q12 ?_
      refine g_aloadn (pc := 36) O rfl dX1_read_36 ?_
      refine g_aloadn (pc := 37) O rfl dX1_read_37 ?_
      refine g_vI [.ref 1] [] (pc := 38) O mk_X1_readCoats ml_X1_39 im_X1_readCoats se_X1_readCoats cls1 hx0 ⟨rfl, rfl, leb rfl, leb rfl⟩ rfl (leb rfl) dX1_read_38 H rfl (fun v6 hv6 H => ?_)
      refine g_if_eq (tgt := 64) (pc := 41) O dX1_read_41 rfl (fun q7 => ?_) (fun q7 => ?_)
      · replace H := H.1 q7
        refine g_iconst (v := (I 0)) (pc := 64) O rfl dX1_read_64 ?_
        exact g_zret (pc := 65) O dX1_read_65 (by decide) H
      · replace H := H.2 q7
        refine g_aloadn (pc := 44) O rfl dX1_read_44 ?_
        refine g_iconst (v := (I 1)) (pc := 45) O rfl dX1_read_45 ?_
        refine g_vI [.int (I 1)] [] (pc := 46) O mk_X5_take ml_X1_20 im_X5_take se_X5_take cls5 rfl ⟨rfl, rfl, leb rfl, leb rfl⟩ rfl (leb rfl) dX1_read_46 H rfl (fun v8 hv8 H => ?_)
        refine g_if_eq (tgt := 64) (pc := 49) O dX1_read_49 rfl (fun q9 => ?_) (fun q9 => ?_)
        · replace H := H.1 q9
          refine g_iconst (v := (I 0)) (pc := 64) O rfl dX1_read_64 ?_
          exact g_zret (pc := 65) O dX1_read_65 (by decide) H
        · replace H := H.2 q9
          refine g_aloadn (pc := 52) O rfl dX1_read_52 ?_
          refine g_iconst (v := (I 0)) (pc := 53) O rfl dX1_read_53 ?_
          refine g_vI [.int (I 0)] [] (pc := 54) O mk_X5_isAt ml_X1_43 im_X5_isAt se_X5_isAt cls5 rfl ⟨rfl, rfl, leb rfl, leb rfl⟩ rfl (leb rfl) dX1_read_54 H rfl (fun v10 hv10 H => ?_)
          refine g_if_eq (tgt := 64) (pc := 57) O dX1_read_57 rfl (fun q11 => ?_) (fun q11 => ?_)
          · replace H := H.1 q11
            refine g_iconst (v := (I 0)) (pc := 64) O rfl dX1_read_64 ?_
            exact g_zret (pc := 65) O dX1_read_65 (by decide) H
          · replace H := H.2 q11
            refine g_iconst (v := (I 1)) (pc := 60) O rfl dX1_read_60 ?_
            refine g_goto (tgt := 65) (pc := 61) O dX1_read_61 rfl ?_
            exact g_zret (pc := 65) O dX1_read_65 (by decide) H
    · replace H := H.2 q4
      refine g_iconst (v := (I 0)) (pc := 17) O rfl dX1_read_17 ?_
      exact g_zret (pc := 18) O dX1_read_18 (by decide) H
set_option maxRecDepth 20000 in
set_option maxHeartbeats 2000000 in
theorem sX1_read {g : mg} {l : Launch} {Q : Int32 → AH → Prop} {x0 : Nat} (hx0 : lay x0 = (1, 5)) {h : AH} (H : SpI g l mX5_take h [.ref 1, .int (I 4)] (fun v1 hv1 => ((v1 = 0) → (Q (I 0) hv1)) ∧ ((¬ (v1 = 0)) → (SpI g l mX5_takeNumber hv1 [.ref 1, .int (I 0), .int (I 5)] (fun v3 hv3 => ((¬ v3 = 0) → (SpI g l mX5_take (sI hv3 x0 2 (hv3.1 1 2)) [.ref 1, .int (I 5)] (fun v5 hv5 => (v5 = 0 ∨ v5 = 1) ∧ (SpI g l mX1_readCoats (sI hv5 x0 4 v5) [.ref x0, .ref 1] (fun v6 hv6 => ((v6 = 0) → (Q (I 0) hv6)) ∧ ((¬ (v6 = 0)) → (SpI g l mX5_take hv6 [.ref 1, .int (I 1)] (fun v8 hv8 => ((v8 = 0) → (Q (I 0) hv8)) ∧ ((¬ (v8 = 0)) → (SpI g l mX5_isAt hv8 [.ref 1, .int (I 0)] (fun v10 hv10 => ((v10 = 0) → (Q (I 0) hv10)) ∧ ((¬ (v10 = 0)) → (Q (I 1) hv10))))))))))))) ∧ ((v3 = 0) → (Q (I 0) hv3))))))) : SpI g l mX1_read h [.ref x0, .ref 1] Q := spI_of (by decide) (leb rfl) (fun X O => bX1_read_0 O hx0 H)
set_option maxRecDepth 20000 in
set_option maxHeartbeats 2000000 in
theorem bX1_readCoats_0 {g : mg} {l : Launch} {X : XT} {Q : Int32 → AH → Prop} (O : Ok (FF g l X) RX1 cX1_readCoats 2 mX1_readCoats.2.2.2.2 (some .boolean)) {x0 : Nat} (hx0 : lay x0 = (1, 5)) {h : AH} (H : GI g l X Q (sI h x0 3 (I 0)) 5 [(0, .ref x0), (1, .ref 1)] []) : GI g l X Q h 0 [(0, .ref x0), (1, .ref 1)] [] := by
  refine g_aloadn (pc := 0) O rfl dX1_readCoats_0 ?_
  refine g_iconst (v := (I 0)) (pc := 1) O rfl dX1_readCoats_1 ?_
  refine g_putI (pc := 2) O cls1 fl_X1_46 dX1_readCoats_2 hx0 (lay_lt hx0 (by decide)) (leb rfl) (ltb rfl) rfl rfl (by decide +kernel) ?_
  exact H
set_option maxRecDepth 20000 in
set_option maxHeartbeats 2000000 in
theorem bX1_readCoats_5 {g : mg} {l : Launch} {X : XT} {Q : Int32 → AH → Prop} (O : Ok (FF g l X) RX1 cX1_readCoats 2 mX1_readCoats.2.2.2.2 (some .boolean)) {x0 : Nat} (hx0 : lay x0 = (1, 5)) {h : AH} (H : (((I 10) ≤ (h.1 x0 3)) → ((((h.1 x0 3) ≤ 0) → (Q (I 0) h)) ∧ ((¬ ((h.1 x0 3) ≤ 0)) → (Q (I 1) h)))) ∧ ((¬ ((I 10) ≤ (h.1 x0 3))) → (SpI g l mX5_take h [.ref 1, .int (I 3)] (fun v3 hv3 => ((v3 = 0) → ((((hv3.1 x0 3) ≤ 0) → (Q (I 0) hv3)) ∧ ((¬ ((hv3.1 x0 3) ≤ 0)) → (Q (I 1) hv3)))) ∧ ((¬ (v3 = 0)) → (∃ j6 : Nat, (hv3.1 x0 3) = I (j6 : Int) ∧ j6 < 10 ∧ (SpI g l mX5_takeNumber (sI hv3 (x0 + 1) j6 (hv3.1 1 2)) [.ref 1, .int (I 0), .int (I 9)] (fun v7 hv7 => ((¬ v7 = 0) → (∃ j9 : Nat, (hv7.1 x0 3) = I (j9 : Int) ∧ j9 < 10 ∧ (GI g l X Q (sI (sI hv7 (x0 + 2) j9 (hv7.1 1 2)) x0 3 ((sI hv7 (x0 + 2) j9 (hv7.1 1 2)).1 x0 3 + (I 1))) 5 [(0, .ref x0), (1, .ref 1)] []))) ∧ ((v7 = 0) → (Q (I 0) hv7)))))))))) : GI g l X Q h 5 [(0, .ref x0), (1, .ref 1)] [] := by
  refine g_aloadn (pc := 5) O rfl dX1_readCoats_5 ?_
  refine g_getI (v := h.1 x0 3) (pc := 6) O cls1 fl_X1_46 dX1_readCoats_6 hx0 (lay_lt hx0 (by decide)) (ltb rfl) rfl rfl ?_
  refine g_bipush (v := (I 10)) (pc := 9) O (by decide) dX1_readCoats_9 ?_
  refine g_icmp_ge (tgt := 73) (pc := 11) O dX1_readCoats_11 rfl (fun q1 => ?_) (fun q1 => ?_)
  · replace H := H.1 q1
    refine g_aloadn (pc := 73) O rfl dX1_readCoats_73 ?_
    refine g_getI (v := h.1 x0 3) (pc := 74) O cls1 fl_X1_46 dX1_readCoats_74 hx0 (lay_lt hx0 (by decide)) (ltb rfl) rfl rfl ?_
    refine g_if_le (tgt := 84) (pc := 77) O dX1_readCoats_77 rfl (fun q2 => ?_) (fun q2 => ?_)
    · replace H := H.1 q2
      refine g_iconst (v := (I 0)) (pc := 84) O rfl dX1_readCoats_84 ?_
      exact g_zret (pc := 85) O dX1_readCoats_85 (by decide) H
    · replace H := H.2 q2
      refine g_iconst (v := (I 1)) (pc := 80) O rfl dX1_readCoats_80 ?_
      refine g_goto (tgt := 85) (pc := 81) O dX1_readCoats_81 rfl ?_
      exact g_zret (pc := 85) O dX1_readCoats_85 (by decide) H
  · replace H := H.2 q1
    refine g_aloadn (pc := 14) O rfl dX1_readCoats_14 ?_
    refine g_iconst (v := (I 3)) (pc := 15) O rfl dX1_readCoats_15 ?_
    refine g_vI [.int (I 3)] [] (pc := 16) O mk_X5_take ml_X1_20 im_X5_take se_X5_take cls5 rfl ⟨rfl, rfl, leb rfl, leb rfl⟩ rfl (leb rfl) dX1_readCoats_16 H rfl (fun v3 hv3 H => ?_)
    refine g_if_eq (tgt := 73) (pc := 19) O dX1_readCoats_19 rfl (fun q4 => ?_) (fun q4 => ?_)
    · replace H := H.1 q4
      refine g_aloadn (pc := 73) O rfl dX1_readCoats_73 ?_
      refine g_getI (v := hv3.1 x0 3) (pc := 74) O cls1 fl_X1_46 dX1_readCoats_74 hx0 (lay_lt hx0 (by decide)) (ltb rfl) rfl rfl ?_
      refine g_if_le (tgt := 84) (pc := 77) O dX1_readCoats_77 rfl (fun q5 => ?_) (fun q5 => ?_)
      · replace H := H.1 q5
        refine g_iconst (v := (I 0)) (pc := 84) O rfl dX1_readCoats_84 ?_
        exact g_zret (pc := 85) O dX1_readCoats_85 (by decide) H
      · replace H := H.2 q5
        refine g_iconst (v := (I 1)) (pc := 80) O rfl dX1_readCoats_80 ?_
        refine g_goto (tgt := 85) (pc := 81) O dX1_readCoats_81 rfl ?_
        exact g_zret (pc := 85) O dX1_readCoats_85 (by decide) H
    · replace H := H.2 q4
      refine g_aloadn (pc := 22) O rfl dX1_readCoats_22 ?_
      refine g_getS (pc := 23) O cls1 fl_X1_9 dX1_readCoats_23 hx0 (lay_lt hx0 (by decide)) (ltb rfl) rfl (sr_chip0 hx0) ?_
      refine g_aloadn (pc := 26) O rfl dX1_readCoats_26 ?_
      refine g_getI (v := hv3.1 x0 3) (pc := 27) O cls1 fl_X1_46 dX1_readCoats_27 hx0 (lay_lt hx0 (by decide)) (ltb rfl) rfl rfl ?_
      refine g_aloadn (pc := 30) O rfl dX1_readCoats_30 ?_
      refine g_getI (v := hv3.1 1 2) (pc := 31) O cls5 fl_X1_28 dX1_readCoats_31 rfl (ltb rfl) (ltb rfl) rfl rfl ?_
      obtain ⟨j6, ej6, bj6, H⟩ := H
      refine g_iast (j := j6) (pc := 34) O dX1_readCoats_34 ej6 (lay_chip0 hx0) (lay_lt (lay_chip0 hx0) (by decide)) (leb rfl) bj6 (ltb rfl) ?_
      refine g_aloadn (pc := 35) O rfl dX1_readCoats_35 ?_
      refine g_iconst (v := (I 0)) (pc := 36) O rfl dX1_readCoats_36 ?_
      refine g_bipush (v := (I 9)) (pc := 37) O (by decide) dX1_readCoats_37 ?_
      refine g_vI [.int (I 0), .int (I 9)] [] (pc := 39) O mk_X5_takeNumber ml_X1_24 im_X5_takeNumber se_X5_takeNumber cls5 rfl ⟨rfl, rfl, leb rfl, leb rfl⟩ rfl (leb rfl) dX1_readCoats_39 H rfl (fun v7 hv7 H => ?_)
      refine g_if_ne (tgt := 47) (pc := 42) O dX1_readCoats_42 rfl (fun q8 => ?_) (fun q8 => ?_)
      · replace H := H.1 q8
        refine g_aloadn (pc := 47) O rfl dX1_readCoats_47 ?_
        refine g_getS (pc := 48) O cls1 fl_X1_15 dX1_readCoats_48 hx0 (lay_lt hx0 (by decide)) (ltb rfl) rfl (sr_chip1 hx0) ?_
        refine g_aloadn (pc := 51) O rfl dX1_readCoats_51 ?_
        refine g_getI (v := hv7.1 x0 3) (pc := 52) O cls1 fl_X1_46 dX1_readCoats_52 hx0 (lay_lt hx0 (by decide)) (ltb rfl) rfl rfl ?_
        refine g_aloadn (pc := 55) O rfl dX1_readCoats_55 ?_
        refine g_getI (v := hv7.1 1 2) (pc := 56) O cls5 fl_X1_28 dX1_readCoats_56 rfl (ltb rfl) (ltb rfl) rfl rfl ?_
        obtain ⟨j9, ej9, bj9, H⟩ := H
        refine g_iast (j := j9) (pc := 59) O dX1_readCoats_59 ej9 (lay_chip1 hx0) (lay_lt (lay_chip1 hx0) (by decide)) (leb rfl) bj9 (ltb rfl) ?_
        refine g_aloadn (pc := 60) O rfl dX1_readCoats_60 ?_
        refine g_dup (pc := 61) O rfl dX1_readCoats_61 ?_
        refine g_getI (v := (sI hv7 (x0 + 2) j9 (hv7.1 1 2)).1 x0 3) (pc := 62) O cls1 fl_X1_46 dX1_readCoats_62 hx0 (lay_lt hx0 (by decide)) (ltb rfl) rfl rfl ?_
        refine g_iconst (v := (I 1)) (pc := 65) O rfl dX1_readCoats_65 ?_
        refine g_iadd (pc := 66) O dX1_readCoats_66 ?_
        refine g_putI (pc := 67) O cls1 fl_X1_46 dX1_readCoats_67 hx0 (lay_lt hx0 (by decide)) (leb rfl) (ltb rfl) rfl rfl (by decide +kernel) ?_
        refine g_goto (tgt := 5) (pc := 70) O dX1_readCoats_70 rfl ?_
        exact H
      · replace H := H.2 q8
        refine g_iconst (v := (I 0)) (pc := 45) O rfl dX1_readCoats_45 ?_
        exact g_zret (pc := 46) O dX1_readCoats_46 (by decide) H
set_option maxRecDepth 20000 in
set_option maxHeartbeats 2000000 in
theorem sX1_readCoats {g : mg} {l : Launch} {Q : Int32 → AH → Prop} {x0 : Nat} (hx0 : lay x0 = (1, 5)) {h : AH} (H : ∀ X, Ok (FF g l X) RX1 cX1_readCoats 2 mX1_readCoats.2.2.2.2 (some .boolean) → GI g l X Q (sI h x0 3 (I 0)) 5 [(0, .ref x0), (1, .ref 1)] []) : SpI g l mX1_readCoats h [.ref x0, .ref 1] Q := spI_of (by decide) (leb rfl) (fun X O => bX1_readCoats_0 O hx0 (H X O))
set_option maxRecDepth 20000 in
set_option maxHeartbeats 2000000 in
theorem bX1_copy_0 {g : mg} {l : Launch} {X : XT} {Q : AH → Prop} (O : Ok (FF g l X) RX1 cX1_copy 2 mX1_copy.2.2.2.2 none) {x0 : Nat} (hx0 : lay x0 = (1, 5)) {x1 : Nat} (hx1 : lay x1 = (1, 5)) {h : AH} (H : ((sI (sI h x0 2 (h.1 x1 2)) x0 3 ((sI h x0 2 (h.1 x1 2)).1 x1 3)).1 x1 4 = 0 ∨ (sI (sI h x0 2 (h.1 x1 2)) x0 3 ((sI h x0 2 (h.1 x1 2)).1 x1 3)).1 x1 4 = 1) ∧ (Q (cpI (cpI (sI (sI (sI h x0 2 (h.1 x1 2)) x0 3 ((sI h x0 2 (h.1 x1 2)).1 x1 3)) x0 4 ((sI (sI h x0 2 (h.1 x1 2)) x0 3 ((sI h x0 2 (h.1 x1 2)).1 x1 3)).1 x1 4)) (x1 + 1) (x0 + 1) 10) (x1 + 2) (x0 + 2) 10))) : GV g l X Q h 0 [(0, .ref x0), (1, .ref x1)] [] := by
  refine g_aloadn (pc := 0) O rfl dX1_copy_0 ?_
  refine g_aloadn (pc := 1) O rfl dX1_copy_1 ?_
  refine g_getI (v := h.1 x1 2) (pc := 2) O cls1 fl_X1_32 dX1_copy_2 hx1 (lay_lt hx1 (by decide)) (ltb rfl) rfl rfl ?_
  refine g_putI (pc := 5) O cls1 fl_X1_32 dX1_copy_5 hx0 (lay_lt hx0 (by decide)) (leb rfl) (ltb rfl) rfl rfl (by decide +kernel) ?_
  refine g_aloadn (pc := 8) O rfl dX1_copy_8 ?_
  refine g_aloadn (pc := 9) O rfl dX1_copy_9 ?_
  refine g_getI (v := (sI h x0 2 (h.1 x1 2)).1 x1 3) (pc := 10) O cls1 fl_X1_46 dX1_copy_10 hx1 (lay_lt hx1 (by decide)) (ltb rfl) rfl rfl ?_
  refine g_putI (pc := 13) O cls1 fl_X1_46 dX1_copy_13 hx0 (lay_lt hx0 (by decide)) (leb rfl) (ltb rfl) rfl rfl (by decide +kernel) ?_
  refine g_aloadn (pc := 16) O rfl dX1_copy_16 ?_
  refine g_aloadn (pc := 17) O rfl dX1_copy_17 ?_
  refine g_getI (v := (sI (sI h x0 2 (h.1 x1 2)) x0 3 ((sI h x0 2 (h.1 x1 2)).1 x1 3)).1 x1 4) (pc := 18) O cls1 fl_X1_35 dX1_copy_18 hx1 (lay_lt hx1 (by decide)) (ltb rfl) rfl rfl ?_
  obtain ⟨q1, H⟩ := H
  refine g_putZ (pc := 21) O cls1 fl_X1_35 dX1_copy_21 hx0 (lay_lt hx0 (by decide)) (leb rfl) (ltb rfl) rfl rfl (by decide +kernel) q1 ?_
  refine g_aloadn (pc := 24) O rfl dX1_copy_24 ?_
  refine g_getS (pc := 25) O cls1 fl_X1_9 dX1_copy_25 hx1 (lay_lt hx1 (by decide)) (ltb rfl) rfl (sr_chip0 hx1) ?_
  refine g_iconst (v := (I 0)) (pc := 28) O rfl dX1_copy_28 ?_
  refine g_aloadn (pc := 29) O rfl dX1_copy_29 ?_
  refine g_getS (pc := 30) O cls1 fl_X1_9 dX1_copy_30 hx0 (lay_lt hx0 (by decide)) (ltb rfl) rfl (sr_chip0 hx0) ?_
  refine g_iconst (v := (I 0)) (pc := 33) O rfl dX1_copy_33 ?_
  refine g_bipush (v := (I 10)) (pc := 34) O (by decide) dX1_copy_34 ?_
  refine g_copy (n := 10) (pc := 36) O dX1_copy_36 (lay_chip0 hx1) (lay_chip0 hx0) (lay_lt (lay_chip0 hx1) (by decide)) (lay_lt (lay_chip0 hx0) (by decide)) (leb rfl) (ltb rfl) ⟨leb rfl, leb rfl⟩ (leb rfl) rfl ?_
  refine g_aloadn (pc := 39) O rfl dX1_copy_39 ?_
  refine g_getS (pc := 40) O cls1 fl_X1_15 dX1_copy_40 hx1 (lay_lt hx1 (by decide)) (ltb rfl) rfl (sr_chip1 hx1) ?_
  refine g_iconst (v := (I 0)) (pc := 43) O rfl dX1_copy_43 ?_
  refine g_aloadn (pc := 44) O rfl dX1_copy_44 ?_
  refine g_getS (pc := 45) O cls1 fl_X1_15 dX1_copy_45 hx0 (lay_lt hx0 (by decide)) (ltb rfl) rfl (sr_chip1 hx0) ?_
  refine g_iconst (v := (I 0)) (pc := 48) O rfl dX1_copy_48 ?_
  refine g_bipush (v := (I 10)) (pc := 49) O (by decide) dX1_copy_49 ?_
  refine g_copy (n := 10) (pc := 51) O dX1_copy_51 (lay_chip1 hx1) (lay_chip1 hx0) (lay_lt (lay_chip1 hx1) (by decide)) (lay_lt (lay_chip1 hx0) (by decide)) (leb rfl) (ltb rfl) ⟨leb rfl, leb rfl⟩ (leb rfl) rfl ?_
  exact g_vret (pc := 54) O dX1_copy_54 H
set_option maxRecDepth 20000 in
set_option maxHeartbeats 2000000 in
theorem sX1_copy {g : mg} {l : Launch} {Q : AH → Prop} {x0 : Nat} (hx0 : lay x0 = (1, 5)) {x1 : Nat} (hx1 : lay x1 = (1, 5)) {h : AH} (H : ((sI (sI h x0 2 (h.1 x1 2)) x0 3 ((sI h x0 2 (h.1 x1 2)).1 x1 3)).1 x1 4 = 0 ∨ (sI (sI h x0 2 (h.1 x1 2)) x0 3 ((sI h x0 2 (h.1 x1 2)).1 x1 3)).1 x1 4 = 1) ∧ (Q (cpI (cpI (sI (sI (sI h x0 2 (h.1 x1 2)) x0 3 ((sI h x0 2 (h.1 x1 2)).1 x1 3)) x0 4 ((sI (sI h x0 2 (h.1 x1 2)) x0 3 ((sI h x0 2 (h.1 x1 2)).1 x1 3)).1 x1 4)) (x1 + 1) (x0 + 1) 10) (x1 + 2) (x0 + 2) 10))) : SpV g l mX1_copy h [.ref x0, .ref x1] Q := spV_of (by decide) (leb rfl) (fun X O => bX1_copy_0 O hx0 hx1 H)
set_option maxRecDepth 20000 in
set_option maxHeartbeats 2000000 in
theorem bX4_takeOut_0 {g : mg} {l : Launch} {X : XT} {Q : AH → Prop} (O : Ok (FF g l X) RX4 cX4_takeOut 4 mX4_takeOut.2.2.2.2 none) {x0 : Nat} (hx0 : lay x0 = (4, 3)) {x1 : Int32} {h : AH} (H : ∃ j1 : Nat, x1 = I (j1 : Int) ∧ j1 < 4 ∧ (∃ b2 : Nat, h.2.2 (x0 + 1) j1 = some b2 ∧ lay b2 = (1, 5) ∧ (GV g l X Q h 9 [(0, .ref x0), (2, .ref b2), (3, .int x1)] []))) : GV g l X Q h 0 [(0, .ref x0), (1, .int x1)] [] := by
  refine g_aloadn (pc := 0) O rfl dX4_takeOut_0 ?_
  refine g_getS (pc := 1) O cls4 fl_X4_11 dX4_takeOut_1 hx0 (lay_lt hx0 (by decide)) (ltb rfl) rfl (sr_shelf0 hx0) ?_
  refine g_iloadn (pc := 4) O rfl dX4_takeOut_4 ?_
  obtain ⟨j1, ej1, bj1, H⟩ := H
  obtain ⟨b2, rb2, hb2, H⟩ := H
  refine g_aald (t := 0) (j := j1) (pc := 5) O dX4_takeOut_5 ej1 (ltb rfl) (lay_shelf0 hx0) (lay_lt (lay_shelf0 hx0) (by decide)) bj1 (ltb rfl) rb2 ?_
  refine g_astoren (lv' := [(0, .ref x0), (1, .int x1), (2, .ref b2)]) (pc := 6) O dX4_takeOut_6 rfl (ltb rfl) rfl ?_
  refine g_iloadn (pc := 7) O rfl dX4_takeOut_7 ?_
  refine g_istoren (lv' := [(0, .ref x0), (1, .int x1), (2, .ref b2), (3, .int x1)]) (pc := 8) O dX4_takeOut_8 rfl (ltb rfl) rfl ?_
  refine g_sub [0, 2, 3] rfl ?_
  exact H
set_option maxRecDepth 20000 in
set_option maxHeartbeats 2000000 in
theorem bX4_takeOut_9 {g : mg} {l : Launch} {X : XT} {Q : AH → Prop} (O : Ok (FF g l X) RX4 cX4_takeOut 4 mX4_takeOut.2.2.2.2 none) {x0 : Nat} (hx0 : lay x0 = (4, 3)) {x2 : Nat} (hx2 : lay x2 = (1, 5)) {x3 : Int32} {h : AH} (H : (((h.1 x0 1) ≤ (x3 + (I 1))) → (∃ j2 : Nat, ((h.1 x0 1) - (I 1)) = I (j2 : Int) ∧ j2 < 4 ∧ (Q (sR (sI h x0 1 ((h.1 x0 1) - (I 1))) (x0 + 1) j2 (some x2))))) ∧ ((¬ ((h.1 x0 1) ≤ (x3 + (I 1)))) → (∃ j3 : Nat, (x3 + (I 1)) = I (j3 : Int) ∧ j3 < 4 ∧ (∃ b4 : Nat, h.2.2 (x0 + 1) j3 = some b4 ∧ lay b4 = (1, 5) ∧ (∃ j5 : Nat, x3 = I (j5 : Int) ∧ j5 < 4 ∧ (GV g l X Q (sR h (x0 + 1) j5 (some b4)) 9 [(0, .ref x0), (2, .ref x2), (3, .int (x3 + I 1))] [])))))) : GV g l X Q h 9 [(0, .ref x0), (2, .ref x2), (3, .int x3)] [] := by
  refine g_iloadn (pc := 9) O rfl dX4_takeOut_9 ?_
  refine g_iconst (v := (I 1)) (pc := 10) O rfl dX4_takeOut_10 ?_
  refine g_iadd (pc := 11) O dX4_takeOut_11 ?_
  refine g_aloadn (pc := 12) O rfl dX4_takeOut_12 ?_
  refine g_getI (v := h.1 x0 1) (pc := 13) O cls4 fl_X4_18 dX4_takeOut_13 hx0 (lay_lt hx0 (by decide)) (ltb rfl) rfl rfl ?_
  refine g_icmp_ge (tgt := 39) (pc := 16) O dX4_takeOut_16 rfl (fun q1 => ?_) (fun q1 => ?_)
  · replace H := H.1 q1
    refine g_aloadn (pc := 39) O rfl dX4_takeOut_39 ?_
    refine g_dup (pc := 40) O rfl dX4_takeOut_40 ?_
    refine g_getI (v := h.1 x0 1) (pc := 41) O cls4 fl_X4_18 dX4_takeOut_41 hx0 (lay_lt hx0 (by decide)) (ltb rfl) rfl rfl ?_
    refine g_iconst (v := (I 1)) (pc := 44) O rfl dX4_takeOut_44 ?_
    refine g_isub (pc := 45) O dX4_takeOut_45 ?_
    refine g_putI (pc := 46) O cls4 fl_X4_18 dX4_takeOut_46 hx0 (lay_lt hx0 (by decide)) (leb rfl) (ltb rfl) rfl rfl (by decide +kernel) ?_
    refine g_aloadn (pc := 49) O rfl dX4_takeOut_49 ?_
    refine g_getS (pc := 50) O cls4 fl_X4_11 dX4_takeOut_50 hx0 (lay_lt hx0 (by decide)) (ltb rfl) rfl (sr_shelf0 hx0) ?_
    refine g_aloadn (pc := 53) O rfl dX4_takeOut_53 ?_
    refine g_getI (v := ((h.1 x0 1) - (I 1))) (pc := 54) O cls4 fl_X4_18 dX4_takeOut_54 hx0 (lay_lt hx0 (by decide)) (ltb rfl) rfl (by simp [sI, sL, up]) ?_
    refine g_aloadn (pc := 57) O rfl dX4_takeOut_57 ?_
    obtain ⟨j2, ej2, bj2, H⟩ := H
    refine g_aast (t := 0) (j := j2) (pc := 58) O dX4_takeOut_58 ej2 (lay_shelf0 hx0) (lay_lt (lay_shelf0 hx0) (by decide)) (leb rfl) bj2 (ltb rfl) cls1 rfl hx2 (lay_lt hx2 (by decide)) ?_
    exact g_vret (pc := 59) O dX4_takeOut_59 H
  · replace H := H.2 q1
    refine g_aloadn (pc := 19) O rfl dX4_takeOut_19 ?_
    refine g_getS (pc := 20) O cls4 fl_X4_11 dX4_takeOut_20 hx0 (lay_lt hx0 (by decide)) (ltb rfl) rfl (sr_shelf0 hx0) ?_
    refine g_iloadn (pc := 23) O rfl dX4_takeOut_23 ?_
    refine g_aloadn (pc := 24) O rfl dX4_takeOut_24 ?_
    refine g_getS (pc := 25) O cls4 fl_X4_11 dX4_takeOut_25 hx0 (lay_lt hx0 (by decide)) (ltb rfl) rfl (sr_shelf0 hx0) ?_
    refine g_iloadn (pc := 28) O rfl dX4_takeOut_28 ?_
    refine g_iconst (v := (I 1)) (pc := 29) O rfl dX4_takeOut_29 ?_
    refine g_iadd (pc := 30) O dX4_takeOut_30 ?_
    obtain ⟨j3, ej3, bj3, H⟩ := H
    obtain ⟨b4, rb4, hb4, H⟩ := H
    refine g_aald (t := 0) (j := j3) (pc := 31) O dX4_takeOut_31 ej3 (ltb rfl) (lay_shelf0 hx0) (lay_lt (lay_shelf0 hx0) (by decide)) bj3 (ltb rfl) rb4 ?_
    obtain ⟨j5, ej5, bj5, H⟩ := H
    refine g_aast (t := 0) (j := j5) (pc := 32) O dX4_takeOut_32 ej5 (lay_shelf0 hx0) (lay_lt (lay_shelf0 hx0) (by decide)) (leb rfl) bj5 (ltb rfl) cls1 rfl hb4 (lay_lt hb4 (by decide)) ?_
    refine g_iinc (lv' := [(0, .ref x0), (2, .ref x2), (3, .int (x3 + I 1))]) (pc := 33) O dX4_takeOut_33 rfl rfl (ltb rfl) rfl ?_
    refine g_goto (tgt := 9) (pc := 36) O dX4_takeOut_36 rfl ?_
    exact H
set_option maxRecDepth 20000 in
set_option maxHeartbeats 2000000 in
theorem sX4_takeOut {g : mg} {l : Launch} {Q : AH → Prop} {x0 : Nat} (hx0 : lay x0 = (4, 3)) {x1 : Int32} {h : AH} (H : ∀ X, Ok (FF g l X) RX4 cX4_takeOut 4 mX4_takeOut.2.2.2.2 none → ∃ j1 : Nat, x1 = I (j1 : Int) ∧ j1 < 4 ∧ (∃ b2 : Nat, h.2.2 (x0 + 1) j1 = some b2 ∧ lay b2 = (1, 5) ∧ (GV g l X Q h 9 [(0, .ref x0), (2, .ref b2), (3, .int x1)] []))) : SpV g l mX4_takeOut h [.ref x0, .int x1] Q := spV_of (by decide) (leb rfl) (fun X O => bX4_takeOut_0 O hx0 (H X O))
set_option maxRecDepth 20000 in
set_option maxHeartbeats 2000000 in
theorem bX4_copy_0 {g : mg} {l : Launch} {X : XT} {Q : AH → Prop} (O : Ok (FF g l X) RX4 cX4_copy 3 mX4_copy.2.2.2.2 none) {x0 : Nat} (hx0 : lay x0 = (4, 3)) {x1 : Nat} (hx1 : lay x1 = (4, 3)) {h : AH} (H : GV g l X Q (sI h x0 1 (h.1 x1 1)) 10 [(0, .ref x0), (1, .ref x1), (2, .int (I 0))] []) : GV g l X Q h 0 [(0, .ref x0), (1, .ref x1)] [] := by
  refine g_aloadn (pc := 0) O rfl dX4_copy_0 ?_
  refine g_aloadn (pc := 1) O rfl dX4_copy_1 ?_
  refine g_getI (v := h.1 x1 1) (pc := 2) O cls4 fl_X4_18 dX4_copy_2 hx1 (lay_lt hx1 (by decide)) (ltb rfl) rfl rfl ?_
  refine g_putI (pc := 5) O cls4 fl_X4_18 dX4_copy_5 hx0 (lay_lt hx0 (by decide)) (leb rfl) (ltb rfl) rfl rfl (by decide +kernel) ?_
  refine g_iconst (v := (I 0)) (pc := 8) O rfl dX4_copy_8 ?_
  refine g_istoren (lv' := [(0, .ref x0), (1, .ref x1), (2, .int (I 0))]) (pc := 9) O dX4_copy_9 rfl (ltb rfl) rfl ?_
  exact H
set_option maxRecDepth 20000 in
set_option maxHeartbeats 2000000 in
theorem bX4_copy_10 {g : mg} {l : Launch} {X : XT} {Q : AH → Prop} (O : Ok (FF g l X) RX4 cX4_copy 3 mX4_copy.2.2.2.2 none) {x0 : Nat} (hx0 : lay x0 = (4, 3)) {x1 : Nat} (hx1 : lay x1 = (4, 3)) {x2 : Int32} {h : AH} (H : (((h.1 x0 1) ≤ x2) → (Q h)) ∧ ((¬ ((h.1 x0 1) ≤ x2)) → (∃ j2 : Nat, x2 = I (j2 : Int) ∧ j2 < 4 ∧ (∃ b3 : Nat, h.2.2 (x0 + 1) j2 = some b3 ∧ lay b3 = (1, 5) ∧ (∃ j4 : Nat, x2 = I (j4 : Int) ∧ j4 < 4 ∧ (∃ b5 : Nat, h.2.2 (x1 + 1) j4 = some b5 ∧ lay b5 = (1, 5) ∧ (SpV g l mX1_copy h [.ref b3, .ref b5] (fun hv6 => GV g l X Q hv6 10 [(0, .ref x0), (1, .ref x1), (2, .int (x2 + I 1))] [])))))))) : GV g l X Q h 10 [(0, .ref x0), (1, .ref x1), (2, .int x2)] [] := by
  refine g_iloadn (pc := 10) O rfl dX4_copy_10 ?_
  refine g_aloadn (pc := 11) O rfl dX4_copy_11 ?_
  refine g_getI (v := h.1 x0 1) (pc := 12) O cls4 fl_X4_18 dX4_copy_12 hx0 (lay_lt hx0 (by decide)) (ltb rfl) rfl rfl ?_
  refine g_icmp_ge (tgt := 39) (pc := 15) O dX4_copy_15 rfl (fun q1 => ?_) (fun q1 => ?_)
  · replace H := H.1 q1
    exact g_vret (pc := 39) O dX4_copy_39 H
  · replace H := H.2 q1
    refine g_aloadn (pc := 18) O rfl dX4_copy_18 ?_
    refine g_getS (pc := 19) O cls4 fl_X4_11 dX4_copy_19 hx0 (lay_lt hx0 (by decide)) (ltb rfl) rfl (sr_shelf0 hx0) ?_
    refine g_iloadn (pc := 22) O rfl dX4_copy_22 ?_
    obtain ⟨j2, ej2, bj2, H⟩ := H
    obtain ⟨b3, rb3, hb3, H⟩ := H
    refine g_aald (t := 0) (j := j2) (pc := 23) O dX4_copy_23 ej2 (ltb rfl) (lay_shelf0 hx0) (lay_lt (lay_shelf0 hx0) (by decide)) bj2 (ltb rfl) rb3 ?_
    refine g_aloadn (pc := 24) O rfl dX4_copy_24 ?_
    refine g_getS (pc := 25) O cls4 fl_X4_11 dX4_copy_25 hx1 (lay_lt hx1 (by decide)) (ltb rfl) rfl (sr_shelf0 hx1) ?_
    refine g_iloadn (pc := 28) O rfl dX4_copy_28 ?_
    obtain ⟨j4, ej4, bj4, H⟩ := H
    obtain ⟨b5, rb5, hb5, H⟩ := H
    refine g_aald (t := 0) (j := j4) (pc := 29) O dX4_copy_29 ej4 (ltb rfl) (lay_shelf0 hx1) (lay_lt (lay_shelf0 hx1) (by decide)) bj4 (ltb rfl) rb5 ?_
    refine g_vV [.ref b5] [] (pc := 30) O mk_X1_copy ml_X4_22 im_X1_copy se_X1_copy cls1 hb3 ⟨rfl, rfl, leb rfl, leb rfl⟩ rfl (leb rfl) dX4_copy_30 H rfl (fun hv6 H => ?_)
    refine g_iinc (lv' := [(0, .ref x0), (1, .ref x1), (2, .int (x2 + I 1))]) (pc := 33) O dX4_copy_33 rfl rfl (ltb rfl) rfl ?_
    refine g_goto (tgt := 10) (pc := 36) O dX4_copy_36 rfl ?_
    exact H
set_option maxRecDepth 20000 in
set_option maxHeartbeats 2000000 in
theorem sX4_copy {g : mg} {l : Launch} {Q : AH → Prop} {x0 : Nat} (hx0 : lay x0 = (4, 3)) {x1 : Nat} (hx1 : lay x1 = (4, 3)) {h : AH} (H : ∀ X, Ok (FF g l X) RX4 cX4_copy 3 mX4_copy.2.2.2.2 none → GV g l X Q (sI h x0 1 (h.1 x1 1)) 10 [(0, .ref x0), (1, .ref x1), (2, .int (I 0))] []) : SpV g l mX4_copy h [.ref x0, .ref x1] Q := spV_of (by decide) (leb rfl) (fun X O => bX4_copy_0 O hx0 hx1 (H X O))
set_option maxRecDepth 20000 in
set_option maxHeartbeats 2000000 in
theorem bX4_coats_0 {g : mg} {l : Launch} {X : XT} {Q : Int32 → AH → Prop} (O : Ok (FF g l X) RX4 cX4_coats 3 mX4_coats.2.2.2.2 (some .int)) {x0 : Nat} (hx0 : lay x0 = (4, 3)) {h : AH} (H : GI g l X Q h 4 [(0, .ref x0), (1, .int (I 0)), (2, .int (I 0))] []) : GI g l X Q h 0 [(0, .ref x0)] [] := by
  refine g_iconst (v := (I 0)) (pc := 0) O rfl dX4_coats_0 ?_
  refine g_istoren (lv' := [(0, .ref x0), (1, .int (I 0))]) (pc := 1) O dX4_coats_1 rfl (ltb rfl) rfl ?_
  refine g_iconst (v := (I 0)) (pc := 2) O rfl dX4_coats_2 ?_
  refine g_istoren (lv' := [(0, .ref x0), (1, .int (I 0)), (2, .int (I 0))]) (pc := 3) O dX4_coats_3 rfl (ltb rfl) rfl ?_
  exact H
set_option maxRecDepth 20000 in
set_option maxHeartbeats 2000000 in
theorem bX4_coats_4 {g : mg} {l : Launch} {X : XT} {Q : Int32 → AH → Prop} (O : Ok (FF g l X) RX4 cX4_coats 3 mX4_coats.2.2.2.2 (some .int)) {x0 : Nat} (hx0 : lay x0 = (4, 3)) {x1 : Int32} {x2 : Int32} {h : AH} (H : (((h.1 x0 1) ≤ x2) → (Q x1 h)) ∧ ((¬ ((h.1 x0 1) ≤ x2)) → (∃ j2 : Nat, x2 = I (j2 : Int) ∧ j2 < 4 ∧ (∃ b3 : Nat, h.2.2 (x0 + 1) j2 = some b3 ∧ lay b3 = (1, 5) ∧ (GI g l X Q h 4 [(0, .ref x0), (1, .int (x1 + (h.1 b3 3))), (2, .int (x2 + I 1))] []))))) : GI g l X Q h 4 [(0, .ref x0), (1, .int x1), (2, .int x2)] [] := by
  refine g_iloadn (pc := 4) O rfl dX4_coats_4 ?_
  refine g_aloadn (pc := 5) O rfl dX4_coats_5 ?_
  refine g_getI (v := h.1 x0 1) (pc := 6) O cls4 fl_X4_18 dX4_coats_6 hx0 (lay_lt hx0 (by decide)) (ltb rfl) rfl rfl ?_
  refine g_icmp_ge (tgt := 30) (pc := 9) O dX4_coats_9 rfl (fun q1 => ?_) (fun q1 => ?_)
  · replace H := H.1 q1
    refine g_iloadn (pc := 30) O rfl dX4_coats_30 ?_
    exact g_iret (pc := 31) O dX4_coats_31 H
  · replace H := H.2 q1
    refine g_iloadn (pc := 12) O rfl dX4_coats_12 ?_
    refine g_aloadn (pc := 13) O rfl dX4_coats_13 ?_
    refine g_getS (pc := 14) O cls4 fl_X4_11 dX4_coats_14 hx0 (lay_lt hx0 (by decide)) (ltb rfl) rfl (sr_shelf0 hx0) ?_
    refine g_iloadn (pc := 17) O rfl dX4_coats_17 ?_
    obtain ⟨j2, ej2, bj2, H⟩ := H
    obtain ⟨b3, rb3, hb3, H⟩ := H
    refine g_aald (t := 0) (j := j2) (pc := 18) O dX4_coats_18 ej2 (ltb rfl) (lay_shelf0 hx0) (lay_lt (lay_shelf0 hx0) (by decide)) bj2 (ltb rfl) rb3 ?_
    refine g_getI (v := h.1 b3 3) (pc := 19) O cls1 fl_X4_26 dX4_coats_19 hb3 (lay_lt hb3 (by decide)) (ltb rfl) rfl rfl ?_
    refine g_iadd (pc := 22) O dX4_coats_22 ?_
    refine g_istoren (lv' := [(0, .ref x0), (1, .int (x1 + (h.1 b3 3))), (2, .int x2)]) (pc := 23) O dX4_coats_23 rfl (ltb rfl) rfl ?_
    refine g_iinc (lv' := [(0, .ref x0), (1, .int (x1 + (h.1 b3 3))), (2, .int (x2 + I 1))]) (pc := 24) O dX4_coats_24 rfl rfl (ltb rfl) rfl ?_
    refine g_goto (tgt := 4) (pc := 27) O dX4_coats_27 rfl ?_
    exact H
set_option maxRecDepth 20000 in
set_option maxHeartbeats 2000000 in
theorem sX4_coats {g : mg} {l : Launch} {Q : Int32 → AH → Prop} {x0 : Nat} (hx0 : lay x0 = (4, 3)) {h : AH} (H : ∀ X, Ok (FF g l X) RX4 cX4_coats 3 mX4_coats.2.2.2.2 (some .int) → GI g l X Q h 4 [(0, .ref x0), (1, .int (I 0)), (2, .int (I 0))] []) : SpI g l mX4_coats h [.ref x0] Q := spI_of (by decide) (leb rfl) (fun X O => bX4_coats_0 O hx0 (H X O))
set_option maxRecDepth 20000 in
set_option maxHeartbeats 2000000 in
theorem bX4_inRoom_0 {g : mg} {l : Launch} {X : XT} {Q : Int32 → AH → Prop} (O : Ok (FF g l X) RX4 cX4_inRoom 4 mX4_inRoom.2.2.2.2 (some .int)) {x0 : Nat} (hx0 : lay x0 = (4, 3)) {x1 : Int32} {h : AH} (H : GI g l X Q h 4 [(0, .ref x0), (1, .int x1), (2, .int (I 0)), (3, .int (I 0))] []) : GI g l X Q h 0 [(0, .ref x0), (1, .int x1)] [] := by
  refine g_iconst (v := (I 0)) (pc := 0) O rfl dX4_inRoom_0 ?_
  refine g_istoren (lv' := [(0, .ref x0), (1, .int x1), (2, .int (I 0))]) (pc := 1) O dX4_inRoom_1 rfl (ltb rfl) rfl ?_
  refine g_iconst (v := (I 0)) (pc := 2) O rfl dX4_inRoom_2 ?_
  refine g_istoren (lv' := [(0, .ref x0), (1, .int x1), (2, .int (I 0)), (3, .int (I 0))]) (pc := 3) O dX4_inRoom_3 rfl (ltb rfl) rfl ?_
  exact H
set_option maxRecDepth 20000 in
set_option maxHeartbeats 2000000 in
theorem bX4_inRoom_4 {g : mg} {l : Launch} {X : XT} {Q : Int32 → AH → Prop} (O : Ok (FF g l X) RX4 cX4_inRoom 4 mX4_inRoom.2.2.2.2 (some .int)) {x0 : Nat} (hx0 : lay x0 = (4, 3)) {x1 : Int32} {x2 : Int32} {x3 : Int32} {h : AH} (H : (((h.1 x0 1) ≤ x3) → (Q x2 h)) ∧ ((¬ ((h.1 x0 1) ≤ x3)) → (∃ j2 : Nat, x3 = I (j2 : Int) ∧ j2 < 4 ∧ (∃ b3 : Nat, h.2.2 (x0 + 1) j2 = some b3 ∧ lay b3 = (1, 5) ∧ (((¬ (h.1 b3 2) = x1) → (GI g l X Q h 4 [(0, .ref x0), (1, .int x1), (2, .int x2), (3, .int (x3 + I 1))] [])) ∧ (((h.1 b3 2) = x1) → (GI g l X Q h 4 [(0, .ref x0), (1, .int x1), (2, .int (x2 ||| ((I 1) <<< (x3 &&& 31)))), (3, .int (x3 + I 1))] []))))))) : GI g l X Q h 4 [(0, .ref x0), (1, .int x1), (2, .int x2), (3, .int x3)] [] := by
  refine g_iloadn (pc := 4) O rfl dX4_inRoom_4 ?_
  refine g_aloadn (pc := 5) O rfl dX4_inRoom_5 ?_
  refine g_getI (v := h.1 x0 1) (pc := 6) O cls4 fl_X4_18 dX4_inRoom_6 hx0 (lay_lt hx0 (by decide)) (ltb rfl) rfl rfl ?_
  refine g_icmp_ge (tgt := 37) (pc := 9) O dX4_inRoom_9 rfl (fun q1 => ?_) (fun q1 => ?_)
  · replace H := H.1 q1
    refine g_iloadn (pc := 37) O rfl dX4_inRoom_37 ?_
    exact g_iret (pc := 38) O dX4_inRoom_38 H
  · replace H := H.2 q1
    refine g_aloadn (pc := 12) O rfl dX4_inRoom_12 ?_
    refine g_getS (pc := 13) O cls4 fl_X4_11 dX4_inRoom_13 hx0 (lay_lt hx0 (by decide)) (ltb rfl) rfl (sr_shelf0 hx0) ?_
    refine g_iloadn (pc := 16) O rfl dX4_inRoom_16 ?_
    obtain ⟨j2, ej2, bj2, H⟩ := H
    obtain ⟨b3, rb3, hb3, H⟩ := H
    refine g_aald (t := 0) (j := j2) (pc := 17) O dX4_inRoom_17 ej2 (ltb rfl) (lay_shelf0 hx0) (lay_lt (lay_shelf0 hx0) (by decide)) bj2 (ltb rfl) rb3 ?_
    refine g_getI (v := h.1 b3 2) (pc := 18) O cls1 fl_X4_29 dX4_inRoom_18 hb3 (lay_lt hb3 (by decide)) (ltb rfl) rfl rfl ?_
    refine g_iloadn (pc := 21) O rfl dX4_inRoom_21 ?_
    refine g_icmp_ne (tgt := 31) (pc := 22) O dX4_inRoom_22 rfl (fun q4 => ?_) (fun q4 => ?_)
    · replace H := H.1 q4
      refine g_iinc (lv' := [(0, .ref x0), (1, .int x1), (2, .int x2), (3, .int (x3 + I 1))]) (pc := 31) O dX4_inRoom_31 rfl rfl (ltb rfl) rfl ?_
      refine g_goto (tgt := 4) (pc := 34) O dX4_inRoom_34 rfl ?_
      exact H
    · replace H := H.2 q4
      refine g_iloadn (pc := 25) O rfl dX4_inRoom_25 ?_
      refine g_iconst (v := (I 1)) (pc := 26) O rfl dX4_inRoom_26 ?_
      refine g_iloadn (pc := 27) O rfl dX4_inRoom_27 ?_
      refine g_ishl (pc := 28) O dX4_inRoom_28 ?_
      refine g_ior (pc := 29) O dX4_inRoom_29 ?_
      refine g_istoren (lv' := [(0, .ref x0), (1, .int x1), (2, .int (x2 ||| ((I 1) <<< (x3 &&& 31)))), (3, .int x3)]) (pc := 30) O dX4_inRoom_30 rfl (ltb rfl) rfl ?_
      refine g_iinc (lv' := [(0, .ref x0), (1, .int x1), (2, .int (x2 ||| ((I 1) <<< (x3 &&& 31)))), (3, .int (x3 + I 1))]) (pc := 31) O dX4_inRoom_31 rfl rfl (ltb rfl) rfl ?_
      refine g_goto (tgt := 4) (pc := 34) O dX4_inRoom_34 rfl ?_
      exact H
set_option maxRecDepth 20000 in
set_option maxHeartbeats 2000000 in
theorem sX4_inRoom {g : mg} {l : Launch} {Q : Int32 → AH → Prop} {x0 : Nat} (hx0 : lay x0 = (4, 3)) {x1 : Int32} {h : AH} (H : ∀ X, Ok (FF g l X) RX4 cX4_inRoom 4 mX4_inRoom.2.2.2.2 (some .int) → GI g l X Q h 4 [(0, .ref x0), (1, .int x1), (2, .int (I 0)), (3, .int (I 0))] []) : SpI g l mX4_inRoom h [.ref x0, .int x1] Q := spI_of (by decide) (leb rfl) (fun X O => bX4_inRoom_0 O hx0 (H X O))
set_option maxRecDepth 20000 in
set_option maxHeartbeats 2000000 in
theorem bX0_empty_0 {g : mg} {l : Launch} {X : XT} {Q : AH → Prop} (O : Ok (FF g l X) RX0 cX0_empty 1 mX0_empty.2.2.2.2 none) {x0 : Nat} (hx0 : lay x0 = (0, 7)) {h : AH} (H : SpV g l mJ7_fill_53178 h [.ref (x0 + 1), .int (I 0)] (fun hv1 => SpV g l mJ7_fill_53178 hv1 [.ref (x0 + 2), .int (I 999)] (fun hv2 => SpV g l mJ7_fill_53178 hv2 [.ref (x0 + 3), .int (I 0)] (fun hv3 => Q (sI (sI hv3 x0 5 (I 0)) x0 6 (I 0)))))) : GV g l X Q h 0 [(0, .ref x0)] [] := by
  refine g_aloadn (pc := 0) O rfl dX0_empty_0 ?_
  refine g_getS (pc := 1) O cls0 fl_X0_9 dX0_empty_1 hx0 (lay_lt hx0 (by decide)) (ltb rfl) rfl (sr_book0 hx0) ?_
  refine g_iconst (v := (I 0)) (pc := 4) O rfl dX0_empty_4 ?_
  refine g_sV [.ref (x0 + 1), .int (I 0)] [] (pc := 5) O mk_J7_fill_53178 ml_X0_30 sm_J7_fill_53178 ⟨rfl, rfl, leb rfl, leb rfl⟩ rfl (leb rfl) dX0_empty_5 H rfl (fun hv1 H => ?_)
  refine g_aloadn (pc := 8) O rfl dX0_empty_8 ?_
  refine g_getS (pc := 9) O cls0 fl_X0_15 dX0_empty_9 hx0 (lay_lt hx0 (by decide)) (ltb rfl) rfl (sr_book1 hx0) ?_
  refine g_sipush (v := (I 999)) (pc := 12) O (by decide) dX0_empty_12 ?_
  refine g_sV [.ref (x0 + 2), .int (I 999)] [] (pc := 15) O mk_J7_fill_53178 ml_X0_30 sm_J7_fill_53178 ⟨rfl, rfl, leb rfl, leb rfl⟩ rfl (leb rfl) dX0_empty_15 H rfl (fun hv2 H => ?_)
  refine g_aloadn (pc := 18) O rfl dX0_empty_18 ?_
  refine g_getS (pc := 19) O cls0 fl_X0_18 dX0_empty_19 hx0 (lay_lt hx0 (by decide)) (ltb rfl) rfl (sr_book2 hx0) ?_
  refine g_iconst (v := (I 0)) (pc := 22) O rfl dX0_empty_22 ?_
  refine g_sV [.ref (x0 + 3), .int (I 0)] [] (pc := 23) O mk_J7_fill_53178 ml_X0_30 sm_J7_fill_53178 ⟨rfl, rfl, leb rfl, leb rfl⟩ rfl (leb rfl) dX0_empty_23 H rfl (fun hv3 H => ?_)
  refine g_aloadn (pc := 26) O rfl dX0_empty_26 ?_
  refine g_iconst (v := (I 0)) (pc := 27) O rfl dX0_empty_27 ?_
  refine g_putI (pc := 28) O cls0 fl_X0_36 dX0_empty_28 hx0 (lay_lt hx0 (by decide)) (leb rfl) (ltb rfl) rfl rfl (by decide +kernel) ?_
  refine g_aloadn (pc := 31) O rfl dX0_empty_31 ?_
  refine g_iconst (v := (I 0)) (pc := 32) O rfl dX0_empty_32 ?_
  refine g_putI (pc := 33) O cls0 fl_X0_40 dX0_empty_33 hx0 (lay_lt hx0 (by decide)) (leb rfl) (ltb rfl) rfl rfl (by decide +kernel) ?_
  exact g_vret (pc := 36) O dX0_empty_36 H
set_option maxRecDepth 20000 in
set_option maxHeartbeats 2000000 in
theorem sX0_empty {g : mg} {l : Launch} {Q : AH → Prop} {x0 : Nat} (hx0 : lay x0 = (0, 7)) {h : AH} (H : SpV g l mJ7_fill_53178 h [.ref (x0 + 1), .int (I 0)] (fun hv1 => SpV g l mJ7_fill_53178 hv1 [.ref (x0 + 2), .int (I 999)] (fun hv2 => SpV g l mJ7_fill_53178 hv2 [.ref (x0 + 3), .int (I 0)] (fun hv3 => Q (sI (sI hv3 x0 5 (I 0)) x0 6 (I 0)))))) : SpV g l mX0_empty h [.ref x0] Q := spV_of (by decide) (leb rfl) (fun X O => bX0_empty_0 O hx0 H)
set_option maxRecDepth 20000 in
set_option maxHeartbeats 2000000 in
theorem bX0_read_0 {g : mg} {l : Launch} {X : XT} {Q : Int32 → AH → Prop} (O : Ok (FF g l X) RX0 cX0_read 2 mX0_read.2.2.2.2 (some .boolean)) {x0 : Nat} (hx0 : lay x0 = (0, 7)) {h : AH} (H : SpV g l mX0_empty h [.ref x0] (fun hv1 => GI g l X Q hv1 4 [(0, .ref x0), (1, .ref 1)] [])) : GI g l X Q h 0 [(0, .ref x0), (1, .ref 1)] [] := by
  refine g_aloadn (pc := 0) O rfl dX0_read_0 ?_
  refine g_vV [] [] (pc := 1) O mk_X0_empty ml_X0_27 im_X0_empty se_X0_empty cls0 hx0 ⟨rfl, rfl, leb rfl, leb rfl⟩ rfl (leb rfl) dX0_read_1 H rfl (fun hv1 H => ?_)
  exact H
set_option maxRecDepth 20000 in
set_option maxHeartbeats 2000000 in
theorem bX0_read_4 {g : mg} {l : Launch} {X : XT} {Q : Int32 → AH → Prop} (O : Ok (FF g l X) RX0 cX0_read 2 mX0_read.2.2.2.2 (some .boolean)) {x0 : Nat} (hx0 : lay x0 = (0, 7)) {h : AH} (H : (((I 400) ≤ (h.1 x0 6)) → (SpI g l mX5_isAt h [.ref 1, .int (I 0)] (fun v2 hv2 => (v2 = 0 ∨ v2 = 1) ∧ Q v2 hv2))) ∧ ((¬ ((I 400) ≤ (h.1 x0 6))) → (SpI g l mX5_isAt h [.ref 1, .int (I 0)] (fun v3 hv3 => ((¬ v3 = 0) → (SpI g l mX5_isAt hv3 [.ref 1, .int (I 0)] (fun v5 hv5 => (v5 = 0 ∨ v5 = 1) ∧ Q v5 hv5))) ∧ ((v3 = 0) → (SpI g l mX0_readItem hv3 [.ref x0, .ref 1] (fun v6 hv6 => ((v6 = 0) → (Q (I 0) hv6)) ∧ ((¬ (v6 = 0)) → (SpI g l mX5_take hv6 [.ref 1, .int (I 1)] (fun v8 hv8 => ((¬ v8 = 0) → (GI g l X Q (sI hv8 x0 6 ((hv8.1 x0 6) + (I 1))) 4 [(0, .ref x0), (1, .ref 1)] [])) ∧ ((v8 = 0) → (Q (I 0) hv8)))))))))))) : GI g l X Q h 4 [(0, .ref x0), (1, .ref 1)] [] := by
  refine g_aloadn (pc := 4) O rfl dX0_read_4 ?_
  refine g_getI (v := h.1 x0 6) (pc := 5) O cls0 fl_X0_40 dX0_read_5 hx0 (lay_lt hx0 (by decide)) (ltb rfl) rfl rfl ?_
  refine g_sipush (v := (I 400)) (pc := 8) O (by decide) dX0_read_8 ?_
  refine g_icmp_ge (tgt := 53) (pc := 11) O dX0_read_11 rfl (fun q1 => ?_) (fun q1 => ?_)
  · replace H := H.1 q1
    refine g_aloadn (pc := 53) O rfl dX0_read_53 ?_
    refine g_iconst (v := (I 0)) (pc := 54) O rfl dX0_read_54 ?_
    refine g_vI [.int (I 0)] [] (pc := 55) O mk_X5_isAt ml_X0_45 im_X5_isAt se_X5_isAt cls5 rfl ⟨rfl, rfl, leb rfl, leb rfl⟩ rfl (leb rfl) dX0_read_55 H rfl (fun v2 hv2 H => ?_)
    exact g_zret (pc := 58) O dX0_read_58 H.1 H.2
  · replace H := H.2 q1
    refine g_aloadn (pc := 14) O rfl dX0_read_14 ?_
    refine g_iconst (v := (I 0)) (pc := 15) O rfl dX0_read_15 ?_
    refine g_vI [.int (I 0)] [] (pc := 16) O mk_X5_isAt ml_X0_45 im_X5_isAt se_X5_isAt cls5 rfl ⟨rfl, rfl, leb rfl, leb rfl⟩ rfl (leb rfl) dX0_read_16 H rfl (fun v3 hv3 H => ?_)
    refine g_if_ne (tgt := 53) (pc := 19) O dX0_read_19 rfl (fun q4 => ?_) (fun q4 => ?_)
    · replace H := H.1 q4
      refine g_aloadn (pc := 53) O rfl dX0_read_53 ?_
      refine g_iconst (v := (I 0)) (pc := 54) O rfl dX0_read_54 ?_
      refine g_vI [.int (I 0)] [] (pc := 55) O mk_X5_isAt ml_X0_45 im_X5_isAt se_X5_isAt cls5 rfl ⟨rfl, rfl, leb rfl, leb rfl⟩ rfl (leb rfl) dX0_read_55 H rfl (fun v5 hv5 H => ?_)
      exact g_zret (pc := 58) O dX0_read_58 H.1 H.2
    · replace H := H.2 q4
      refine g_aloadn (pc := 22) O rfl dX0_read_22 ?_
      refine g_aloadn (pc := 23) O rfl dX0_read_23 ?_
      refine g_vI [.ref 1] [] (pc := 24) O mk_X0_readItem ml_X0_49 im_X0_readItem se_X0_readItem cls0 hx0 ⟨rfl, rfl, leb rfl, leb rfl⟩ rfl (leb rfl) dX0_read_24 H rfl (fun v6 hv6 H => ?_)
      refine g_if_eq (tgt := 38) (pc := 27) O dX0_read_27 rfl (fun q7 => ?_) (fun q7 => ?_)
      · replace H := H.1 q7
        refine g_iconst (v := (I 0)) (pc := 38) O rfl dX0_read_38 ?_
        exact g_zret (pc := 39) O dX0_read_39 (by decide) H
      · replace H := H.2 q7
        refine g_aloadn (pc := 30) O rfl dX0_read_30 ?_
        refine g_iconst (v := (I 1)) (pc := 31) O rfl dX0_read_31 ?_
        refine g_vI [.int (I 1)] [] (pc := 32) O mk_X5_take ml_X0_53 im_X5_take se_X5_take cls5 rfl ⟨rfl, rfl, leb rfl, leb rfl⟩ rfl (leb rfl) dX0_read_32 H rfl (fun v8 hv8 H => ?_)
        refine g_if_ne (tgt := 40) (pc := 35) O dX0_read_35 rfl (fun q9 => ?_) (fun q9 => ?_)
        · replace H := H.1 q9
          refine g_aloadn (pc := 40) O rfl dX0_read_40 ?_
          refine g_dup (pc := 41) O rfl dX0_read_41 ?_
          refine g_getI (v := hv8.1 x0 6) (pc := 42) O cls0 fl_X0_40 dX0_read_42 hx0 (lay_lt hx0 (by decide)) (ltb rfl) rfl rfl ?_
          refine g_iconst (v := (I 1)) (pc := 45) O rfl dX0_read_45 ?_
          refine g_iadd (pc := 46) O dX0_read_46 ?_
          refine g_putI (pc := 47) O cls0 fl_X0_40 dX0_read_47 hx0 (lay_lt hx0 (by decide)) (leb rfl) (ltb rfl) rfl rfl (by decide +kernel) ?_
          refine g_goto (tgt := 4) (pc := 50) O dX0_read_50 rfl ?_
          exact H
        · replace H := H.2 q9
          refine g_iconst (v := (I 0)) (pc := 38) O rfl dX0_read_38 ?_
          exact g_zret (pc := 39) O dX0_read_39 (by decide) H
set_option maxRecDepth 20000 in
set_option maxHeartbeats 2000000 in
theorem sX0_read {g : mg} {l : Launch} {Q : Int32 → AH → Prop} {x0 : Nat} (hx0 : lay x0 = (0, 7)) {h : AH} (H : ∀ X, Ok (FF g l X) RX0 cX0_read 2 mX0_read.2.2.2.2 (some .boolean) → SpV g l mX0_empty h [.ref x0] (fun hv1 => GI g l X Q hv1 4 [(0, .ref x0), (1, .ref 1)] [])) : SpI g l mX0_read h [.ref x0, .ref 1] Q := spI_of (by decide) (leb rfl) (fun X O => bX0_read_0 O hx0 (H X O))
set_option maxRecDepth 20000 in
set_option maxHeartbeats 2000000 in
theorem bX0_readItem_0 {g : mg} {l : Launch} {X : XT} {Q : Int32 → AH → Prop} (O : Ok (FF g l X) RX0 cX0_readItem 2 mX0_readItem.2.2.2.2 (some .boolean)) {x0 : Nat} (hx0 : lay x0 = (0, 7)) {h : AH} (H : SpI g l mX5_take h [.ref 1, .int (I 6)] (fun v1 hv1 => ((v1 = 0) → (SpI g l mX5_take hv1 [.ref 1, .int (I 7)] (fun v3 hv3 => ((v3 = 0) → ((((I 8) ≤ (hv3.1 x0 5)) → (Q (I 0) hv3)) ∧ ((¬ ((I 8) ≤ (hv3.1 x0 5))) → (SpI g l mX5_take hv3 [.ref 1, .int (I 8)] (fun v6 hv6 => ((v6 = 0) → (Q (I 0) hv6)) ∧ ((¬ (v6 = 0)) → (SpI g l mX0_readBill hv6 [.ref x0, .ref 1] (fun v8 hv8 => ((v8 = 0) → (Q (I 0) hv8)) ∧ ((¬ (v8 = 0)) → (Q (I 1) hv8)))))))))) ∧ ((¬ (v3 = 0)) → (SpI g l mX0_readAlike hv3 [.ref x0, .ref 1] (fun v10 hv10 => (v10 = 0 ∨ v10 = 1) ∧ Q v10 hv10)))))) ∧ ((¬ (v1 = 0)) → (SpI g l mX0_readStuff hv1 [.ref x0, .ref 1] (fun v11 hv11 => (v11 = 0 ∨ v11 = 1) ∧ Q v11 hv11))))) : GI g l X Q h 0 [(0, .ref x0), (1, .ref 1)] [] := by
  refine g_aloadn (pc := 0) O rfl dX0_readItem_0 ?_
  refine g_bipush (v := (I 6)) (pc := 1) O (by decide) dX0_readItem_1 ?_
  refine g_vI [.int (I 6)] [] (pc := 3) O mk_X5_take ml_X0_53 im_X5_take se_X5_take cls5 rfl ⟨rfl, rfl, leb rfl, leb rfl⟩ rfl (leb rfl) dX0_readItem_3 H rfl (fun v1 hv1 H => ?_)
  refine g_if_eq (tgt := 15) (pc := 6) O dX0_readItem_6 rfl (fun q2 => ?_) (fun q2 => ?_)
  · replace H := H.1 q2
    refine g_aloadn (pc := 15) O rfl dX0_readItem_15 ?_
    refine g_bipush (v := (I 7)) (pc := 16) O (by decide) dX0_readItem_16 ?_
    refine g_vI [.int (I 7)] [] (pc := 18) O mk_X5_take ml_X0_53 im_X5_take se_X5_take cls5 rfl ⟨rfl, rfl, leb rfl, leb rfl⟩ rfl (leb rfl) dX0_readItem_18 H rfl (fun v3 hv3 H => ?_)
    refine g_if_eq (tgt := 30) (pc := 21) O dX0_readItem_21 rfl (fun q4 => ?_) (fun q4 => ?_)
    · replace H := H.1 q4
      refine g_aloadn (pc := 30) O rfl dX0_readItem_30 ?_
      refine g_getI (v := hv3.1 x0 5) (pc := 31) O cls0 fl_X0_36 dX0_readItem_31 hx0 (lay_lt hx0 (by decide)) (ltb rfl) rfl rfl ?_
      refine g_bipush (v := (I 8)) (pc := 34) O (by decide) dX0_readItem_34 ?_
      refine g_icmp_ge (tgt := 60) (pc := 36) O dX0_readItem_36 rfl (fun q5 => ?_) (fun q5 => ?_)
      · replace H := H.1 q5
        refine g_iconst (v := (I 0)) (pc := 60) O rfl dX0_readItem_60 ?_
        exact g_zret (pc := 61) O dX0_readItem_61 (by decide) H
      · replace H := H.2 q5
        refine g_aloadn (pc := 39) O rfl dX0_readItem_39 ?_
        refine g_bipush (v := (I 8)) (pc := 40) O (by decide) dX0_readItem_40 ?_
        refine g_vI [.int (I 8)] [] (pc := 42) O mk_X5_take ml_X0_53 im_X5_take se_X5_take cls5 rfl ⟨rfl, rfl, leb rfl, leb rfl⟩ rfl (leb rfl) dX0_readItem_42 H rfl (fun v6 hv6 H => ?_)
        refine g_if_eq (tgt := 60) (pc := 45) O dX0_readItem_45 rfl (fun q7 => ?_) (fun q7 => ?_)
        · replace H := H.1 q7
          refine g_iconst (v := (I 0)) (pc := 60) O rfl dX0_readItem_60 ?_
          exact g_zret (pc := 61) O dX0_readItem_61 (by decide) H
        · replace H := H.2 q7
          refine g_aloadn (pc := 48) O rfl dX0_readItem_48 ?_
          refine g_aloadn (pc := 49) O rfl dX0_readItem_49 ?_
          refine g_vI [.ref 1] [] (pc := 50) O mk_X0_readBill ml_X0_62 im_X0_readBill se_X0_readBill cls0 hx0 ⟨rfl, rfl, leb rfl, leb rfl⟩ rfl (leb rfl) dX0_readItem_50 H rfl (fun v8 hv8 H => ?_)
          refine g_if_eq (tgt := 60) (pc := 53) O dX0_readItem_53 rfl (fun q9 => ?_) (fun q9 => ?_)
          · replace H := H.1 q9
            refine g_iconst (v := (I 0)) (pc := 60) O rfl dX0_readItem_60 ?_
            exact g_zret (pc := 61) O dX0_readItem_61 (by decide) H
          · replace H := H.2 q9
            refine g_iconst (v := (I 1)) (pc := 56) O rfl dX0_readItem_56 ?_
            refine g_goto (tgt := 61) (pc := 57) O dX0_readItem_57 rfl ?_
            exact g_zret (pc := 61) O dX0_readItem_61 (by decide) H
    · replace H := H.2 q4
      refine g_aloadn (pc := 24) O rfl dX0_readItem_24 ?_
      refine g_aloadn (pc := 25) O rfl dX0_readItem_25 ?_
      refine g_vI [.ref 1] [] (pc := 26) O mk_X0_readAlike ml_X0_59 im_X0_readAlike se_X0_readAlike cls0 hx0 ⟨rfl, rfl, leb rfl, leb rfl⟩ rfl (leb rfl) dX0_readItem_26 H rfl (fun v10 hv10 H => ?_)
      exact g_zret (pc := 29) O dX0_readItem_29 H.1 H.2
  · replace H := H.2 q2
    refine g_aloadn (pc := 9) O rfl dX0_readItem_9 ?_
    refine g_aloadn (pc := 10) O rfl dX0_readItem_10 ?_
    refine g_vI [.ref 1] [] (pc := 11) O mk_X0_readStuff ml_X0_56 im_X0_readStuff se_X0_readStuff cls0 hx0 ⟨rfl, rfl, leb rfl, leb rfl⟩ rfl (leb rfl) dX0_readItem_11 H rfl (fun v11 hv11 H => ?_)
    exact g_zret (pc := 14) O dX0_readItem_14 H.1 H.2
set_option maxRecDepth 20000 in
set_option maxHeartbeats 2000000 in
theorem sX0_readItem {g : mg} {l : Launch} {Q : Int32 → AH → Prop} {x0 : Nat} (hx0 : lay x0 = (0, 7)) {h : AH} (H : SpI g l mX5_take h [.ref 1, .int (I 6)] (fun v1 hv1 => ((v1 = 0) → (SpI g l mX5_take hv1 [.ref 1, .int (I 7)] (fun v3 hv3 => ((v3 = 0) → ((((I 8) ≤ (hv3.1 x0 5)) → (Q (I 0) hv3)) ∧ ((¬ ((I 8) ≤ (hv3.1 x0 5))) → (SpI g l mX5_take hv3 [.ref 1, .int (I 8)] (fun v6 hv6 => ((v6 = 0) → (Q (I 0) hv6)) ∧ ((¬ (v6 = 0)) → (SpI g l mX0_readBill hv6 [.ref x0, .ref 1] (fun v8 hv8 => ((v8 = 0) → (Q (I 0) hv8)) ∧ ((¬ (v8 = 0)) → (Q (I 1) hv8)))))))))) ∧ ((¬ (v3 = 0)) → (SpI g l mX0_readAlike hv3 [.ref x0, .ref 1] (fun v10 hv10 => (v10 = 0 ∨ v10 = 1) ∧ Q v10 hv10)))))) ∧ ((¬ (v1 = 0)) → (SpI g l mX0_readStuff hv1 [.ref x0, .ref 1] (fun v11 hv11 => (v11 = 0 ∨ v11 = 1) ∧ Q v11 hv11))))) : SpI g l mX0_readItem h [.ref x0, .ref 1] Q := spI_of (by decide) (leb rfl) (fun X O => bX0_readItem_0 O hx0 H)
set_option maxRecDepth 20000 in
set_option maxHeartbeats 2000000 in
theorem bX0_readStuff_0 {g : mg} {l : Launch} {X : XT} {Q : Int32 → AH → Prop} (O : Ok (FF g l X) RX0 cX0_readStuff 4 mX0_readStuff.2.2.2.2 (some .boolean)) {x0 : Nat} (hx0 : lay x0 = (0, 7)) {h : AH} (H : SpI g l mX5_take h [.ref 1, .int (I 3)] (fun v1 hv1 => ((¬ v1 = 0) → (SpI g l mX5_takeNumber hv1 [.ref 1, .int (I 0), .int (I 999)] (fun v3 hv3 => ((¬ v3 = 0) → (SpI g l mX5_takeNumber hv3 [.ref 1, .int (hv3.1 1 2), .int (I 999)] (fun v5 hv5 => ((¬ v5 = 0) → (∃ j7 : Nat, (hv1.1 1 2) = I (j7 : Int) ∧ j7 < 12 ∧ (∃ j8 : Nat, (hv1.1 1 2) = I (j8 : Int) ∧ j8 < 12 ∧ (Q (I 1) (sI (sI hv5 (x0 + 1) j7 (hv3.1 1 2)) (x0 + 2) j8 ((sI hv5 (x0 + 1) j7 (hv3.1 1 2)).1 1 2)))))) ∧ ((v5 = 0) → (Q (I 0) hv5))))) ∧ ((v3 = 0) → (Q (I 0) hv3))))) ∧ ((v1 = 0) → (Q (I 0) hv1)))) : GI g l X Q h 0 [(0, .ref x0), (1, .ref 1)] [] := by
  refine g_aloadn (pc := 0) O rfl dX0_readStuff_0 ?_
  refine g_iconst (v := (I 3)) (pc := 1) O rfl dX0_readStuff_1 ?_
  refine g_vI [.int (I 3)] [] (pc := 2) O mk_X5_take ml_X0_53 im_X5_take se_X5_take cls5 rfl ⟨rfl, rfl, leb rfl, leb rfl⟩ rfl (leb rfl) dX0_readStuff_2 H rfl (fun v1 hv1 H => ?_)
  refine g_if_ne (tgt := 10) (pc := 5) O dX0_readStuff_5 rfl (fun q2 => ?_) (fun q2 => ?_)
  · replace H := H.1 q2
    refine g_aloadn (pc := 10) O rfl dX0_readStuff_10 ?_
    refine g_getI (v := hv1.1 1 2) (pc := 11) O cls5 fl_X0_65 dX0_readStuff_11 rfl (ltb rfl) (ltb rfl) rfl rfl ?_
    refine g_istoren (lv' := [(0, .ref x0), (1, .ref 1), (2, .int (hv1.1 1 2))]) (pc := 14) O dX0_readStuff_14 rfl (ltb rfl) rfl ?_
    refine g_aloadn (pc := 15) O rfl dX0_readStuff_15 ?_
    refine g_iconst (v := (I 0)) (pc := 16) O rfl dX0_readStuff_16 ?_
    refine g_sipush (v := (I 999)) (pc := 17) O (by decide) dX0_readStuff_17 ?_
    refine g_vI [.int (I 0), .int (I 999)] [] (pc := 20) O mk_X5_takeNumber ml_X0_68 im_X5_takeNumber se_X5_takeNumber cls5 rfl ⟨rfl, rfl, leb rfl, leb rfl⟩ rfl (leb rfl) dX0_readStuff_20 H rfl (fun v3 hv3 H => ?_)
    refine g_if_ne (tgt := 28) (pc := 23) O dX0_readStuff_23 rfl (fun q4 => ?_) (fun q4 => ?_)
    · replace H := H.1 q4
      refine g_aloadn (pc := 28) O rfl dX0_readStuff_28 ?_
      refine g_getI (v := hv3.1 1 2) (pc := 29) O cls5 fl_X0_65 dX0_readStuff_29 rfl (ltb rfl) (ltb rfl) rfl rfl ?_
      refine g_istoren (lv' := [(0, .ref x0), (1, .ref 1), (2, .int (hv1.1 1 2)), (3, .int (hv3.1 1 2))]) (pc := 32) O dX0_readStuff_32 rfl (ltb rfl) rfl ?_
      refine g_aloadn (pc := 33) O rfl dX0_readStuff_33 ?_
      refine g_iloadn (pc := 34) O rfl dX0_readStuff_34 ?_
      refine g_sipush (v := (I 999)) (pc := 35) O (by decide) dX0_readStuff_35 ?_
      refine g_vI [.int (hv3.1 1 2), .int (I 999)] [] (pc := 38) O mk_X5_takeNumber ml_X0_68 im_X5_takeNumber se_X5_takeNumber cls5 rfl ⟨rfl, rfl, leb rfl, leb rfl⟩ rfl (leb rfl) dX0_readStuff_38 H rfl (fun v5 hv5 H => ?_)
      refine g_if_ne (tgt := 46) (pc := 41) O dX0_readStuff_41 rfl (fun q6 => ?_) (fun q6 => ?_)
      · replace H := H.1 q6
        refine g_aloadn (pc := 46) O rfl dX0_readStuff_46 ?_
        refine g_getS (pc := 47) O cls0 fl_X0_9 dX0_readStuff_47 hx0 (lay_lt hx0 (by decide)) (ltb rfl) rfl (sr_book0 hx0) ?_
        refine g_iloadn (pc := 50) O rfl dX0_readStuff_50 ?_
        refine g_iloadn (pc := 51) O rfl dX0_readStuff_51 ?_
        obtain ⟨j7, ej7, bj7, H⟩ := H
        refine g_iast (j := j7) (pc := 52) O dX0_readStuff_52 ej7 (lay_book0 hx0) (lay_lt (lay_book0 hx0) (by decide)) (leb rfl) bj7 (ltb rfl) ?_
        refine g_aloadn (pc := 53) O rfl dX0_readStuff_53 ?_
        refine g_getS (pc := 54) O cls0 fl_X0_15 dX0_readStuff_54 hx0 (lay_lt hx0 (by decide)) (ltb rfl) rfl (sr_book1 hx0) ?_
        refine g_iloadn (pc := 57) O rfl dX0_readStuff_57 ?_
        refine g_aloadn (pc := 58) O rfl dX0_readStuff_58 ?_
        refine g_getI (v := (sI hv5 (x0 + 1) j7 (hv3.1 1 2)).1 1 2) (pc := 59) O cls5 fl_X0_65 dX0_readStuff_59 rfl (ltb rfl) (ltb rfl) rfl rfl ?_
        obtain ⟨j8, ej8, bj8, H⟩ := H
        refine g_iast (j := j8) (pc := 62) O dX0_readStuff_62 ej8 (lay_book1 hx0) (lay_lt (lay_book1 hx0) (by decide)) (leb rfl) bj8 (ltb rfl) ?_
        refine g_iconst (v := (I 1)) (pc := 63) O rfl dX0_readStuff_63 ?_
        exact g_zret (pc := 64) O dX0_readStuff_64 (by decide) H
      · replace H := H.2 q6
        refine g_iconst (v := (I 0)) (pc := 44) O rfl dX0_readStuff_44 ?_
        exact g_zret (pc := 45) O dX0_readStuff_45 (by decide) H
    · replace H := H.2 q4
      refine g_iconst (v := (I 0)) (pc := 26) O rfl dX0_readStuff_26 ?_
      exact g_zret (pc := 27) O dX0_readStuff_27 (by decide) H
  · replace H := H.2 q2
    refine g_iconst (v := (I 0)) (pc := 8) O rfl dX0_readStuff_8 ?_
    exact g_zret (pc := 9) O dX0_readStuff_9 (by decide) H
set_option maxRecDepth 20000 in
set_option maxHeartbeats 2000000 in
theorem sX0_readStuff {g : mg} {l : Launch} {Q : Int32 → AH → Prop} {x0 : Nat} (hx0 : lay x0 = (0, 7)) {h : AH} (H : SpI g l mX5_take h [.ref 1, .int (I 3)] (fun v1 hv1 => ((¬ v1 = 0) → (SpI g l mX5_takeNumber hv1 [.ref 1, .int (I 0), .int (I 999)] (fun v3 hv3 => ((¬ v3 = 0) → (SpI g l mX5_takeNumber hv3 [.ref 1, .int (hv3.1 1 2), .int (I 999)] (fun v5 hv5 => ((¬ v5 = 0) → (∃ j7 : Nat, (hv1.1 1 2) = I (j7 : Int) ∧ j7 < 12 ∧ (∃ j8 : Nat, (hv1.1 1 2) = I (j8 : Int) ∧ j8 < 12 ∧ (Q (I 1) (sI (sI hv5 (x0 + 1) j7 (hv3.1 1 2)) (x0 + 2) j8 ((sI hv5 (x0 + 1) j7 (hv3.1 1 2)).1 1 2)))))) ∧ ((v5 = 0) → (Q (I 0) hv5))))) ∧ ((v3 = 0) → (Q (I 0) hv3))))) ∧ ((v1 = 0) → (Q (I 0) hv1)))) : SpI g l mX0_readStuff h [.ref x0, .ref 1] Q := spI_of (by decide) (leb rfl) (fun X O => bX0_readStuff_0 O hx0 H)
set_option maxRecDepth 20000 in
set_option maxHeartbeats 2000000 in
theorem bX0_readAlike_0 {g : mg} {l : Launch} {X : XT} {Q : Int32 → AH → Prop} (O : Ok (FF g l X) RX0 cX0_readAlike 3 mX0_readAlike.2.2.2.2 (some .boolean)) {x0 : Nat} (hx0 : lay x0 = (0, 7)) {h : AH} (H : SpI g l mX5_take h [.ref 1, .int (I 3)] (fun v1 hv1 => ((¬ v1 = 0) → (SpI g l mX5_takeColourBut hv1 [.ref 1, .int (hv1.1 1 2)] (fun v3 hv3 => ((¬ v3 = 0) → (∃ j5 : Nat, (hv1.1 1 2) = I (j5 : Int) ∧ j5 < 12 ∧ (∃ j6 : Nat, (hv1.1 1 2) = I (j6 : Int) ∧ j6 < 12 ∧ (∃ j7 : Nat, (sI hv3 (x0 + 3) j6 ((hv3.1 (x0 + 3) j5) ||| ((I 1) <<< ((hv3.1 1 2) &&& 31)))).1 1 2 = I (j7 : Int) ∧ j7 < 12 ∧ (∃ j8 : Nat, (sI hv3 (x0 + 3) j6 ((hv3.1 (x0 + 3) j5) ||| ((I 1) <<< ((hv3.1 1 2) &&& 31)))).1 1 2 = I (j8 : Int) ∧ j8 < 12 ∧ (Q (I 1) (sI (sI hv3 (x0 + 3) j6 ((hv3.1 (x0 + 3) j5) ||| ((I 1) <<< ((hv3.1 1 2) &&& 31)))) (x0 + 3) j8 (((sI hv3 (x0 + 3) j6 ((hv3.1 (x0 + 3) j5) ||| ((I 1) <<< ((hv3.1 1 2) &&& 31)))).1 (x0 + 3) j7) ||| ((I 1) <<< ((hv1.1 1 2) &&& 31)))))))))) ∧ ((v3 = 0) → (Q (I 0) hv3))))) ∧ ((v1 = 0) → (Q (I 0) hv1)))) : GI g l X Q h 0 [(0, .ref x0), (1, .ref 1)] [] := by
  refine g_aloadn (pc := 0) O rfl dX0_readAlike_0 ?_
  refine g_iconst (v := (I 3)) (pc := 1) O rfl dX0_readAlike_1 ?_
  refine g_vI [.int (I 3)] [] (pc := 2) O mk_X5_take ml_X0_53 im_X5_take se_X5_take cls5 rfl ⟨rfl, rfl, leb rfl, leb rfl⟩ rfl (leb rfl) dX0_readAlike_2 H rfl (fun v1 hv1 H => ?_)
  refine g_if_ne (tgt := 10) (pc := 5) O dX0_readAlike_5 rfl (fun q2 => ?_) (fun q2 => ?_)
  · replace H := H.1 q2
    refine g_aloadn (pc := 10) O rfl dX0_readAlike_10 ?_
    refine g_getI (v := hv1.1 1 2) (pc := 11) O cls5 fl_X0_65 dX0_readAlike_11 rfl (ltb rfl) (ltb rfl) rfl rfl ?_
    refine g_istoren (lv' := [(0, .ref x0), (1, .ref 1), (2, .int (hv1.1 1 2))]) (pc := 14) O dX0_readAlike_14 rfl (ltb rfl) rfl ?_
    refine g_aloadn (pc := 15) O rfl dX0_readAlike_15 ?_
    refine g_iloadn (pc := 16) O rfl dX0_readAlike_16 ?_
    refine g_vI [.int (hv1.1 1 2)] [] (pc := 17) O mk_X5_takeColourBut ml_X0_72 im_X5_takeColourBut se_X5_takeColourBut cls5 rfl ⟨rfl, rfl, leb rfl, leb rfl⟩ rfl (leb rfl) dX0_readAlike_17 H rfl (fun v3 hv3 H => ?_)
    refine g_if_ne (tgt := 25) (pc := 20) O dX0_readAlike_20 rfl (fun q4 => ?_) (fun q4 => ?_)
    · replace H := H.1 q4
      refine g_aloadn (pc := 25) O rfl dX0_readAlike_25 ?_
      refine g_getS (pc := 26) O cls0 fl_X0_18 dX0_readAlike_26 hx0 (lay_lt hx0 (by decide)) (ltb rfl) rfl (sr_book2 hx0) ?_
      refine g_iloadn (pc := 29) O rfl dX0_readAlike_29 ?_
      refine g_dup2 (pc := 30) O rfl rfl dX0_readAlike_30 ?_
      obtain ⟨j5, ej5, bj5, H⟩ := H
      refine g_iald (j := j5) (pc := 31) O dX0_readAlike_31 ej5 (lay_book2 hx0) (lay_lt (lay_book2 hx0) (by decide)) bj5 (ltb rfl) rfl ?_
      refine g_iconst (v := (I 1)) (pc := 32) O rfl dX0_readAlike_32 ?_
      refine g_aloadn (pc := 33) O rfl dX0_readAlike_33 ?_
      refine g_getI (v := hv3.1 1 2) (pc := 34) O cls5 fl_X0_65 dX0_readAlike_34 rfl (ltb rfl) (ltb rfl) rfl rfl ?_
      refine g_ishl (pc := 37) O dX0_readAlike_37 ?_
      refine g_ior (pc := 38) O dX0_readAlike_38 ?_
      obtain ⟨j6, ej6, bj6, H⟩ := H
      refine g_iast (j := j6) (pc := 39) O dX0_readAlike_39 ej6 (lay_book2 hx0) (lay_lt (lay_book2 hx0) (by decide)) (leb rfl) bj6 (ltb rfl) ?_
      refine g_aloadn (pc := 40) O rfl dX0_readAlike_40 ?_
      refine g_getS (pc := 41) O cls0 fl_X0_18 dX0_readAlike_41 hx0 (lay_lt hx0 (by decide)) (ltb rfl) rfl (sr_book2 hx0) ?_
      refine g_aloadn (pc := 44) O rfl dX0_readAlike_44 ?_
      refine g_getI (v := (sI hv3 (x0 + 3) j6 ((hv3.1 (x0 + 3) j5) ||| ((I 1) <<< ((hv3.1 1 2) &&& 31)))).1 1 2) (pc := 45) O cls5 fl_X0_65 dX0_readAlike_45 rfl (ltb rfl) (ltb rfl) rfl rfl ?_
      refine g_dup2 (pc := 48) O rfl rfl dX0_readAlike_48 ?_
      obtain ⟨j7, ej7, bj7, H⟩ := H
      refine g_iald (j := j7) (pc := 49) O dX0_readAlike_49 ej7 (lay_book2 hx0) (lay_lt (lay_book2 hx0) (by decide)) bj7 (ltb rfl) rfl ?_
      refine g_iconst (v := (I 1)) (pc := 50) O rfl dX0_readAlike_50 ?_
      refine g_iloadn (pc := 51) O rfl dX0_readAlike_51 ?_
      refine g_ishl (pc := 52) O dX0_readAlike_52 ?_
      refine g_ior (pc := 53) O dX0_readAlike_53 ?_
      obtain ⟨j8, ej8, bj8, H⟩ := H
      refine g_iast (j := j8) (pc := 54) O dX0_readAlike_54 ej8 (lay_book2 hx0) (lay_lt (lay_book2 hx0) (by decide)) (leb rfl) bj8 (ltb rfl) ?_
      refine g_iconst (v := (I 1)) (pc := 55) O rfl dX0_readAlike_55 ?_
      exact g_zret (pc := 56) O dX0_readAlike_56 (by decide) H
    · replace H := H.2 q4
      refine g_iconst (v := (I 0)) (pc := 23) O rfl dX0_readAlike_23 ?_
      exact g_zret (pc := 24) O dX0_readAlike_24 (by decide) H
  · replace H := H.2 q2
    refine g_iconst (v := (I 0)) (pc := 8) O rfl dX0_readAlike_8 ?_
    exact g_zret (pc := 9) O dX0_readAlike_9 (by decide) H
set_option maxRecDepth 20000 in
set_option maxHeartbeats 2000000 in
theorem sX0_readAlike {g : mg} {l : Launch} {Q : Int32 → AH → Prop} {x0 : Nat} (hx0 : lay x0 = (0, 7)) {h : AH} (H : SpI g l mX5_take h [.ref 1, .int (I 3)] (fun v1 hv1 => ((¬ v1 = 0) → (SpI g l mX5_takeColourBut hv1 [.ref 1, .int (hv1.1 1 2)] (fun v3 hv3 => ((¬ v3 = 0) → (∃ j5 : Nat, (hv1.1 1 2) = I (j5 : Int) ∧ j5 < 12 ∧ (∃ j6 : Nat, (hv1.1 1 2) = I (j6 : Int) ∧ j6 < 12 ∧ (∃ j7 : Nat, (sI hv3 (x0 + 3) j6 ((hv3.1 (x0 + 3) j5) ||| ((I 1) <<< ((hv3.1 1 2) &&& 31)))).1 1 2 = I (j7 : Int) ∧ j7 < 12 ∧ (∃ j8 : Nat, (sI hv3 (x0 + 3) j6 ((hv3.1 (x0 + 3) j5) ||| ((I 1) <<< ((hv3.1 1 2) &&& 31)))).1 1 2 = I (j8 : Int) ∧ j8 < 12 ∧ (Q (I 1) (sI (sI hv3 (x0 + 3) j6 ((hv3.1 (x0 + 3) j5) ||| ((I 1) <<< ((hv3.1 1 2) &&& 31)))) (x0 + 3) j8 (((sI hv3 (x0 + 3) j6 ((hv3.1 (x0 + 3) j5) ||| ((I 1) <<< ((hv3.1 1 2) &&& 31)))).1 (x0 + 3) j7) ||| ((I 1) <<< ((hv1.1 1 2) &&& 31)))))))))) ∧ ((v3 = 0) → (Q (I 0) hv3))))) ∧ ((v1 = 0) → (Q (I 0) hv1)))) : SpI g l mX0_readAlike h [.ref x0, .ref 1] Q := spI_of (by decide) (leb rfl) (fun X O => bX0_readAlike_0 O hx0 H)
set_option maxRecDepth 20000 in
set_option maxHeartbeats 2000000 in
theorem bX0_readBill_0 {g : mg} {l : Launch} {X : XT} {Q : Int32 → AH → Prop} (O : Ok (FF g l X) RX0 cX0_readBill 2 mX0_readBill.2.2.2.2 (some .boolean)) {x0 : Nat} (hx0 : lay x0 = (0, 7)) {h : AH} (H : SpI g l mX5_takeNumber h [.ref 1, .int (I 0), .int (I 999)] (fun v1 hv1 => ((¬ v1 = 0) → (∃ j3 : Nat, (hv1.1 x0 5) = I (j3 : Int) ∧ j3 < 8 ∧ (SpI g l mX5_take (sI hv1 (x0 + 4) j3 (hv1.1 1 2)) [.ref 1, .int (I 3)] (fun v4 hv4 => ((¬ v4 = 0) → (∃ j6 : Nat, (hv4.1 x0 5) = I (j6 : Int) ∧ j6 < 8 ∧ (Q (I 1) (sI (sI hv4 (x0 + 5) j6 (hv4.1 1 2)) x0 5 ((sI hv4 (x0 + 5) j6 (hv4.1 1 2)).1 x0 5 + (I 1)))))) ∧ ((v4 = 0) → (Q (I 0) hv4)))))) ∧ ((v1 = 0) → (Q (I 0) hv1)))) : GI g l X Q h 0 [(0, .ref x0), (1, .ref 1)] [] := by
  refine g_aloadn (pc := 0) O rfl dX0_readBill_0 ?_
  refine g_iconst (v := (I 0)) (pc := 1) O rfl dX0_readBill_1 ?_
  refine g_sipush (v := (I 999)) (pc := 2) O (by decide) dX0_readBill_2 ?_
  refine g_vI [.int (I 0), .int (I 999)] [] (pc := 5) O mk_X5_takeNumber ml_X0_68 im_X5_takeNumber se_X5_takeNumber cls5 rfl ⟨rfl, rfl, leb rfl, leb rfl⟩ rfl (leb rfl) dX0_readBill_5 H rfl (fun v1 hv1 H => ?_)
  refine g_if_ne (tgt := 13) (pc := 8) O dX0_readBill_8 rfl (fun q2 => ?_) (fun q2 => ?_)
  · replace H := H.1 q2
    refine g_aloadn (pc := 13) O rfl dX0_readBill_13 ?_
    refine g_getS (pc := 14) O cls0 fl_X0_21 dX0_readBill_14 hx0 (lay_lt hx0 (by decide)) (ltb rfl) rfl (sr_book3 hx0) ?_
    refine g_aloadn (pc := 17) O rfl dX0_readBill_17 ?_
    refine g_getI (v := hv1.1 x0 5) (pc := 18) O cls0 fl_X0_36 dX0_readBill_18 hx0 (lay_lt hx0 (by decide)) (ltb rfl) rfl rfl ?_
    refine g_aloadn (pc := 21) O rfl dX0_readBill_21 ?_
    refine g_getI (v := hv1.1 1 2) (pc := 22) O cls5 fl_X0_65 dX0_readBill_22 rfl (ltb rfl) (ltb rfl) rfl rfl ?_
    obtain ⟨j3, ej3, bj3, H⟩ := H
    refine g_iast (j := j3) (pc := 25) O dX0_readBill_25 ej3 (lay_book3 hx0) (lay_lt (lay_book3 hx0) (by decide)) (leb rfl) bj3 (ltb rfl) ?_
    refine g_aloadn (pc := 26) O rfl dX0_readBill_26 ?_
    refine g_iconst (v := (I 3)) (pc := 27) O rfl dX0_readBill_27 ?_
    refine g_vI [.int (I 3)] [] (pc := 28) O mk_X5_take ml_X0_53 im_X5_take se_X5_take cls5 rfl ⟨rfl, rfl, leb rfl, leb rfl⟩ rfl (leb rfl) dX0_readBill_28 H rfl (fun v4 hv4 H => ?_)
    refine g_if_ne (tgt := 36) (pc := 31) O dX0_readBill_31 rfl (fun q5 => ?_) (fun q5 => ?_)
    · replace H := H.1 q5
      refine g_aloadn (pc := 36) O rfl dX0_readBill_36 ?_
      refine g_getS (pc := 37) O cls0 fl_X0_24 dX0_readBill_37 hx0 (lay_lt hx0 (by decide)) (ltb rfl) rfl (sr_book4 hx0) ?_
      refine g_aloadn (pc := 40) O rfl dX0_readBill_40 ?_
      refine g_getI (v := hv4.1 x0 5) (pc := 41) O cls0 fl_X0_36 dX0_readBill_41 hx0 (lay_lt hx0 (by decide)) (ltb rfl) rfl rfl ?_
      refine g_aloadn (pc := 44) O rfl dX0_readBill_44 ?_
      refine g_getI (v := hv4.1 1 2) (pc := 45) O cls5 fl_X0_65 dX0_readBill_45 rfl (ltb rfl) (ltb rfl) rfl rfl ?_
      obtain ⟨j6, ej6, bj6, H⟩ := H
      refine g_iast (j := j6) (pc := 48) O dX0_readBill_48 ej6 (lay_book4 hx0) (lay_lt (lay_book4 hx0) (by decide)) (leb rfl) bj6 (ltb rfl) ?_
      refine g_aloadn (pc := 49) O rfl dX0_readBill_49 ?_
      refine g_dup (pc := 50) O rfl dX0_readBill_50 ?_
      refine g_getI (v := (sI hv4 (x0 + 5) j6 (hv4.1 1 2)).1 x0 5) (pc := 51) O cls0 fl_X0_36 dX0_readBill_51 hx0 (lay_lt hx0 (by decide)) (ltb rfl) rfl rfl ?_
      refine g_iconst (v := (I 1)) (pc := 54) O rfl dX0_readBill_54 ?_
      refine g_iadd (pc := 55) O dX0_readBill_55 ?_
      refine g_putI (pc := 56) O cls0 fl_X0_36 dX0_readBill_56 hx0 (lay_lt hx0 (by decide)) (leb rfl) (ltb rfl) rfl rfl (by decide +kernel) ?_
      refine g_iconst (v := (I 1)) (pc := 59) O rfl dX0_readBill_59 ?_
      exact g_zret (pc := 60) O dX0_readBill_60 (by decide) H
    · replace H := H.2 q5
      refine g_iconst (v := (I 0)) (pc := 34) O rfl dX0_readBill_34 ?_
      exact g_zret (pc := 35) O dX0_readBill_35 (by decide) H
  · replace H := H.2 q2
    refine g_iconst (v := (I 0)) (pc := 11) O rfl dX0_readBill_11 ?_
    exact g_zret (pc := 12) O dX0_readBill_12 (by decide) H
set_option maxRecDepth 20000 in
set_option maxHeartbeats 2000000 in
theorem sX0_readBill {g : mg} {l : Launch} {Q : Int32 → AH → Prop} {x0 : Nat} (hx0 : lay x0 = (0, 7)) {h : AH} (H : SpI g l mX5_takeNumber h [.ref 1, .int (I 0), .int (I 999)] (fun v1 hv1 => ((¬ v1 = 0) → (∃ j3 : Nat, (hv1.1 x0 5) = I (j3 : Int) ∧ j3 < 8 ∧ (SpI g l mX5_take (sI hv1 (x0 + 4) j3 (hv1.1 1 2)) [.ref 1, .int (I 3)] (fun v4 hv4 => ((¬ v4 = 0) → (∃ j6 : Nat, (hv4.1 x0 5) = I (j6 : Int) ∧ j6 < 8 ∧ (Q (I 1) (sI (sI hv4 (x0 + 5) j6 (hv4.1 1 2)) x0 5 ((sI hv4 (x0 + 5) j6 (hv4.1 1 2)).1 x0 5 + (I 1)))))) ∧ ((v4 = 0) → (Q (I 0) hv4)))))) ∧ ((v1 = 0) → (Q (I 0) hv1)))) : SpI g l mX0_readBill h [.ref x0, .ref 1] Q := spI_of (by decide) (leb rfl) (fun X O => bX0_readBill_0 O hx0 H)
