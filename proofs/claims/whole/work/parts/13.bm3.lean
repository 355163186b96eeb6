/-! printed by gen.py: what each stretch of code asks for (H) to come to its end, and its walk -/
set_option maxRecDepth 20000 in
set_option maxHeartbeats 2000000 in
theorem bX8_hasPainting_0 {g : mg} {l : Launch} {X : XT} {Q : Int32 → AH → Prop} (O : Ok (FF g l X) RX8 cX8_hasPainting 5 mX8_hasPainting.2.2.2.2 (some .boolean)) {x1 : Int32} {x2 : Int32} {h : AH} (H : GI g l X Q h 5 [(0, .ref 82), (1, .int x1), (2, .int x2), (3, .int (I 0)), (4, .int (I 0))] []) : GI g l X Q h 0 [(0, .ref 82), (1, .int x1), (2, .int x2)] [] := by
  refine g_iconst (v := (I 0)) (pc := 0) O rfl dX8_hasPainting_0 ?_
  refine g_istoren (lv' := [(0, .ref 82), (1, .int x1), (2, .int x2), (3, .int (I 0))]) (pc := 1) O dX8_hasPainting_1 rfl (ltb rfl) rfl ?_
  refine g_iconst (v := (I 0)) (pc := 2) O rfl dX8_hasPainting_2 ?_
  refine g_istore (lv' := [(0, .ref 82), (1, .int x1), (2, .int x2), (3, .int (I 0)), (4, .int (I 0))]) (pc := 3) O dX8_hasPainting_3 (ltb rfl) rfl ?_
  exact H
set_option maxRecDepth 20000 in
set_option maxHeartbeats 2000000 in
theorem bX8_hasPainting_5 {g : mg} {l : Launch} {X : XT} {Q : Int32 → AH → Prop} (O : Ok (FF g l X) RX8 cX8_hasPainting 5 mX8_hasPainting.2.2.2.2 (some .boolean)) {x1 : Int32} {x2 : Int32} {x3 : Int32} {x4 : Int32} {h : AH} (H : ∃ j1 : Nat, x1 = I (j1 : Int) ∧ j1 < 4 ∧ ((((h.1 86 j1) ≤ x4) → ((x3 = 0 ∨ x3 = 1) ∧ Q x3 h)) ∧ ((¬ ((h.1 86 j1) ≤ x4)) → (((¬ x3 = 0) → (GI g l X Q h 5 [(0, .ref 82), (1, .int x1), (2, .int x2), (3, .int (I 1)), (4, .int (x4 + I 1))] [])) ∧ ((x3 = 0) → (∃ j4 : Nat, (((I 10) * x1) + x4) = I (j4 : Int) ∧ j4 < 40 ∧ (((¬ (h.1 114 j4) = x2) → (GI g l X Q h 5 [(0, .ref 82), (1, .int x1), (2, .int x2), (3, .int (I 0)), (4, .int (x4 + I 1))] [])) ∧ (((h.1 114 j4) = x2) → (GI g l X Q h 5 [(0, .ref 82), (1, .int x1), (2, .int x2), (3, .int (I 1)), (4, .int (x4 + I 1))] []))))))))) : GI g l X Q h 5 [(0, .ref 82), (1, .int x1), (2, .int x2), (3, .int x3), (4, .int x4)] [] := by
  refine g_iload (pc := 5) O rfl dX8_hasPainting_5 ?_
  refine g_aloadn (pc := 7) O rfl dX8_hasPainting_7 ?_
  refine g_getS (pc := 8) O cls8 fl_X8_19 dX8_hasPainting_8 rfl (ltb rfl) (ltb rfl) rfl rfl ?_
  refine g_iloadn (pc := 11) O rfl dX8_hasPainting_11 ?_
  obtain ⟨j1, ej1, bj1, H⟩ := H
  refine g_iald (j := j1) (pc := 12) O dX8_hasPainting_12 ej1 rfl (ltb rfl) bj1 (ltb rfl) rfl ?_
  refine g_icmp_ge (tgt := 48) (pc := 13) O dX8_hasPainting_13 rfl (fun q2 => ?_) (fun q2 => ?_)
  · replace H := H.1 q2
    refine g_iloadn (pc := 48) O rfl dX8_hasPainting_48 ?_
    exact g_zret (pc := 49) O dX8_hasPainting_49 H.1 H.2
  · replace H := H.2 q2
    refine g_iloadn (pc := 16) O rfl dX8_hasPainting_16 ?_
    refine g_if_ne (tgt := 36) (pc := 17) O dX8_hasPainting_17 rfl (fun q3 => ?_) (fun q3 => ?_)
    · replace H := H.1 q3
      refine g_iconst (v := (I 1)) (pc := 36) O rfl dX8_hasPainting_36 ?_
      refine g_goto (tgt := 41) (pc := 37) O dX8_hasPainting_37 rfl ?_
      refine g_istoren (lv' := [(0, .ref 82), (1, .int x1), (2, .int x2), (3, .int (I 1)), (4, .int x4)]) (pc := 41) O dX8_hasPainting_41 rfl (ltb rfl) rfl ?_
      refine g_iinc (lv' := [(0, .ref 82), (1, .int x1), (2, .int x2), (3, .int (I 1)), (4, .int (x4 + I 1))]) (pc := 42) O dX8_hasPainting_42 rfl rfl (ltb rfl) rfl ?_
      refine g_goto (tgt := 5) (pc := 45) O dX8_hasPainting_45 rfl ?_
      exact H
    · replace H := H.2 q3
      refine g_aloadn (pc := 20) O rfl dX8_hasPainting_20 ?_
      refine g_getS (pc := 21) O cls8 fl_X8_104 dX8_hasPainting_21 rfl (ltb rfl) (ltb rfl) rfl rfl ?_
      refine g_bipush (v := (I 10)) (pc := 24) O (by decide) dX8_hasPainting_24 ?_
      refine g_iloadn (pc := 26) O rfl dX8_hasPainting_26 ?_
      refine g_imul (pc := 27) O dX8_hasPainting_27 ?_
      refine g_iload (pc := 28) O rfl dX8_hasPainting_28 ?_
      refine g_iadd (pc := 30) O dX8_hasPainting_30 ?_
      obtain ⟨j4, ej4, bj4, H⟩ := H
      refine g_iald (j := j4) (pc := 31) O dX8_hasPainting_31 ej4 rfl (ltb rfl) bj4 (ltb rfl) rfl ?_
      refine g_iloadn (pc := 32) O rfl dX8_hasPainting_32 ?_
      refine g_icmp_ne (tgt := 40) (pc := 33) O dX8_hasPainting_33 rfl (fun q5 => ?_) (fun q5 => ?_)
      · replace H := H.1 q5
        refine g_iconst (v := (I 0)) (pc := 40) O rfl dX8_hasPainting_40 ?_
        refine g_istoren (lv' := [(0, .ref 82), (1, .int x1), (2, .int x2), (3, .int (I 0)), (4, .int x4)]) (pc := 41) O dX8_hasPainting_41 rfl (ltb rfl) rfl ?_
        refine g_iinc (lv' := [(0, .ref 82), (1, .int x1), (2, .int x2), (3, .int (I 0)), (4, .int (x4 + I 1))]) (pc := 42) O dX8_hasPainting_42 rfl rfl (ltb rfl) rfl ?_
        refine g_goto (tgt := 5) (pc := 45) O dX8_hasPainting_45 rfl ?_
        exact H
      · replace H := H.2 q5
        refine g_iconst (v := (I 1)) (pc := 36) O rfl dX8_hasPainting_36 ?_
        refine g_goto (tgt := 41) (pc := 37) O dX8_hasPainting_37 rfl ?_
        refine g_istoren (lv' := [(0, .ref 82), (1, .int x1), (2, .int x2), (3, .int (I 1)), (4, .int x4)]) (pc := 41) O dX8_hasPainting_41 rfl (ltb rfl) rfl ?_
        refine g_iinc (lv' := [(0, .ref 82), (1, .int x1), (2, .int x2), (3, .int (I 1)), (4, .int (x4 + I 1))]) (pc := 42) O dX8_hasPainting_42 rfl rfl (ltb rfl) rfl ?_
        refine g_goto (tgt := 5) (pc := 45) O dX8_hasPainting_45 rfl ?_
        exact H
set_option maxRecDepth 20000 in
set_option maxHeartbeats 2000000 in
theorem sX8_hasPainting {g : mg} {l : Launch} {Q : Int32 → AH → Prop} {x1 : Int32} {x2 : Int32} {h : AH} (H : ∀ X, Ok (FF g l X) RX8 cX8_hasPainting 5 mX8_hasPainting.2.2.2.2 (some .boolean) → GI g l X Q h 5 [(0, .ref 82), (1, .int x1), (2, .int x2), (3, .int (I 0)), (4, .int (I 0))] []) : SpI g l mX8_hasPainting h [.ref 82, .int x1, .int x2] Q := spI_of (by decide) (leb rfl) (fun X O => bX8_hasPainting_0 O (H X O))
set_option maxRecDepth 20000 in
set_option maxHeartbeats 2000000 in
theorem bX8_painting_0 {g : mg} {l : Launch} {X : XT} {Q : Int32 → AH → Prop} (O : Ok (FF g l X) RX8 cX8_painting 2 mX8_painting.2.2.2.2 (some .int)) {x1 : Int32} {h : AH} (H : SpV g l mX8_make h [.ref 82] (fun hv1 => SpI g l mX8_in hv1 [.int x1, .int (I (-1)), .int ((hv1.1 82 38) - (I 1))] (fun v2 hv2 => ((¬ v2 = 0) → (((0 ≤ x1) → (∃ j5 : Nat, x1 = I (j5 : Int) ∧ j5 < 40 ∧ (Q (hv2.1 113 j5) hv2))) ∧ ((¬ (0 ≤ x1)) → (Q (hv2.1 82 38) hv2)))) ∧ ((v2 = 0) → (Q (I (-1)) hv2))))) : GI g l X Q h 0 [(0, .ref 82), (1, .int x1)] [] := by
  refine g_aloadn (pc := 0) O rfl dX8_painting_0 ?_
  refine g_vV [] [] (pc := 1) O mk_X8_make ml_X8_205 im_X8_make se_X8_make cls8 rfl ⟨rfl, rfl, leb rfl, leb rfl⟩ rfl (leb rfl) dX8_painting_1 H rfl (fun hv1 H => ?_)
  refine g_iloadn (pc := 4) O rfl dX8_painting_4 ?_
  refine g_iconst (v := (I (-1))) (pc := 5) O rfl dX8_painting_5 ?_
  refine g_aloadn (pc := 6) O rfl dX8_painting_6 ?_
  refine g_getI (v := hv1.1 82 38) (pc := 7) O cls8 fl_X8_235 dX8_painting_7 rfl (ltb rfl) (ltb rfl) rfl rfl ?_
  refine g_iconst (v := (I 1)) (pc := 10) O rfl dX8_painting_10 ?_
  refine g_isub (pc := 11) O dX8_painting_11 ?_
  refine g_sI [.int x1, .int (I (-1)), .int ((hv1.1 82 38) - (I 1))] [] (pc := 12) O mk_X8_in ml_X8_116 sm_X8_in ⟨rfl, rfl, leb rfl, leb rfl⟩ rfl (leb rfl) dX8_painting_12 H rfl (fun v2 hv2 H => ?_)
  refine g_if_ne (tgt := 20) (pc := 15) O dX8_painting_15 rfl (fun q3 => ?_) (fun q3 => ?_)
  · replace H := H.1 q3
    refine g_iloadn (pc := 20) O rfl dX8_painting_20 ?_
    refine g_if_ge (tgt := 31) (pc := 21) O dX8_painting_21 rfl (fun q4 => ?_) (fun q4 => ?_)
    · replace H := H.1 q4
      refine g_aloadn (pc := 31) O rfl dX8_painting_31 ?_
      refine g_getS (pc := 32) O cls8 fl_X8_101 dX8_painting_32 rfl (ltb rfl) (ltb rfl) rfl rfl ?_
      refine g_iloadn (pc := 35) O rfl dX8_painting_35 ?_
      obtain ⟨j5, ej5, bj5, H⟩ := H
      refine g_iald (j := j5) (pc := 36) O dX8_painting_36 ej5 rfl (ltb rfl) bj5 (ltb rfl) rfl ?_
      exact g_iret (pc := 37) O dX8_painting_37 H
    · replace H := H.2 q4
      refine g_aloadn (pc := 24) O rfl dX8_painting_24 ?_
      refine g_getI (v := hv2.1 82 38) (pc := 25) O cls8 fl_X8_235 dX8_painting_25 rfl (ltb rfl) (ltb rfl) rfl rfl ?_
      refine g_goto (tgt := 37) (pc := 28) O dX8_painting_28 rfl ?_
      exact g_iret (pc := 37) O dX8_painting_37 H
  · replace H := H.2 q3
    refine g_iconst (v := (I (-1))) (pc := 18) O rfl dX8_painting_18 ?_
    exact g_iret (pc := 19) O dX8_painting_19 H
set_option maxRecDepth 20000 in
set_option maxHeartbeats 2000000 in
theorem sX8_painting {g : mg} {l : Launch} {Q : Int32 → AH → Prop} {x1 : Int32} {h : AH} (H : SpV g l mX8_make h [.ref 82] (fun hv1 => SpI g l mX8_in hv1 [.int x1, .int (I (-1)), .int ((hv1.1 82 38) - (I 1))] (fun v2 hv2 => ((¬ v2 = 0) → (((0 ≤ x1) → (∃ j5 : Nat, x1 = I (j5 : Int) ∧ j5 < 40 ∧ (Q (hv2.1 113 j5) hv2))) ∧ ((¬ (0 ≤ x1)) → (Q (hv2.1 82 38) hv2)))) ∧ ((v2 = 0) → (Q (I (-1)) hv2))))) : SpI g l mX8_painting h [.ref 82, .int x1] Q := spI_of (by decide) (leb rfl) (fun X O => bX8_painting_0 O H)
set_option maxRecDepth 20000 in
set_option maxHeartbeats 2000000 in
theorem bX8_had_0 {g : mg} {l : Launch} {X : XT} {Q : Int32 → AH → Prop} (O : Ok (FF g l X) RX8 cX8_had 4 mX8_had.2.2.2.2 (some .int)) {x1 : Int32} {h : AH} (H : SpV g l mX8_make h [.ref 82] (fun hv1 => SpI g l mX8_in hv1 [.int x1, .int (I 0), .int ((hv1.1 82 38) - (I 1))] (fun v2 hv2 => ((¬ v2 = 0) → (GI g l X Q hv2 24 [(0, .ref 82), (1, .int x1), (2, .int (I 0)), (3, .int (I 0))] [])) ∧ ((v2 = 0) → (Q (I (-1)) hv2))))) : GI g l X Q h 0 [(0, .ref 82), (1, .int x1)] [] := by
  refine g_aloadn (pc := 0) O rfl dX8_had_0 ?_
  refine g_vV [] [] (pc := 1) O mk_X8_make ml_X8_205 im_X8_make se_X8_make cls8 rfl ⟨rfl, rfl, leb rfl, leb rfl⟩ rfl (leb rfl) dX8_had_1 H rfl (fun hv1 H => ?_)
  refine g_iloadn (pc := 4) O rfl dX8_had_4 ?_
  refine g_iconst (v := (I 0)) (pc := 5) O rfl dX8_had_5 ?_
  refine g_aloadn (pc := 6) O rfl dX8_had_6 ?_
  refine g_getI (v := hv1.1 82 38) (pc := 7) O cls8 fl_X8_235 dX8_had_7 rfl (ltb rfl) (ltb rfl) rfl rfl ?_
  refine g_iconst (v := (I 1)) (pc := 10) O rfl dX8_had_10 ?_
  refine g_isub (pc := 11) O dX8_had_11 ?_
  refine g_sI [.int x1, .int (I 0), .int ((hv1.1 82 38) - (I 1))] [] (pc := 12) O mk_X8_in ml_X8_116 sm_X8_in ⟨rfl, rfl, leb rfl, leb rfl⟩ rfl (leb rfl) dX8_had_12 H rfl (fun v2 hv2 H => ?_)
  refine g_if_ne (tgt := 20) (pc := 15) O dX8_had_15 rfl (fun q3 => ?_) (fun q3 => ?_)
  · replace H := H.1 q3
    refine g_iconst (v := (I 0)) (pc := 20) O rfl dX8_had_20 ?_
    refine g_istoren (lv' := [(0, .ref 82), (1, .int x1), (2, .int (I 0))]) (pc := 21) O dX8_had_21 rfl (ltb rfl) rfl ?_
    refine g_iconst (v := (I 0)) (pc := 22) O rfl dX8_had_22 ?_
    refine g_istoren (lv' := [(0, .ref 82), (1, .int x1), (2, .int (I 0)), (3, .int (I 0))]) (pc := 23) O dX8_had_23 rfl (ltb rfl) rfl ?_
    exact H
  · replace H := H.2 q3
    refine g_iconst (v := (I (-1))) (pc := 18) O rfl dX8_had_18 ?_
    exact g_iret (pc := 19) O dX8_had_19 H
set_option maxRecDepth 20000 in
set_option maxHeartbeats 2000000 in
theorem bX8_had_24 {g : mg} {l : Launch} {X : XT} {Q : Int32 → AH → Prop} (O : Ok (FF g l X) RX8 cX8_had 4 mX8_had.2.2.2.2 (some .int)) {x1 : Int32} {x2 : Int32} {x3 : Int32} {h : AH} (H : (((h.1 82 6) ≤ x3) → (Q x2 h)) ∧ ((¬ ((h.1 82 6) ≤ x3)) → (SpI g l mX8_hasPainting h [.ref 82, .int x3, .int x1] (fun v2 hv2 => ((v2 = 0) → (GI g l X Q hv2 24 [(0, .ref 82), (1, .int x1), (2, .int x2), (3, .int (x3 + I 1))] [])) ∧ ((¬ (v2 = 0)) → (GI g l X Q hv2 24 [(0, .ref 82), (1, .int x1), (2, .int (x2 ||| ((I 1) <<< (x3 &&& 31)))), (3, .int (x3 + I 1))] [])))))) : GI g l X Q h 24 [(0, .ref 82), (1, .int x1), (2, .int x2), (3, .int x3)] [] := by
  refine g_iloadn (pc := 24) O rfl dX8_had_24 ?_
  refine g_aloadn (pc := 25) O rfl dX8_had_25 ?_
  refine g_getI (v := h.1 82 6) (pc := 26) O cls8 fl_X8_173 dX8_had_26 rfl (ltb rfl) (ltb rfl) rfl rfl ?_
  refine g_icmp_ge (tgt := 57) (pc := 29) O dX8_had_29 rfl (fun q1 => ?_) (fun q1 => ?_)
  · replace H := H.1 q1
    refine g_iloadn (pc := 57) O rfl dX8_had_57 ?_
    exact g_iret (pc := 58) O dX8_had_58 H
  · replace H := H.2 q1
    refine g_aloadn (pc := 32) O rfl dX8_had_32 ?_
    refine g_iloadn (pc := 33) O rfl dX8_had_33 ?_
    refine g_iloadn (pc := 34) O rfl dX8_had_34 ?_
    refine g_vI [.int x3, .int x1] [] (pc := 35) O mk_X8_hasPainting ml_X8_248 im_X8_hasPainting se_X8_hasPainting cls8 rfl ⟨rfl, rfl, leb rfl, leb rfl⟩ rfl (leb rfl) dX8_had_35 H rfl (fun v2 hv2 H => ?_)
    refine g_if_eq (tgt := 49) (pc := 38) O dX8_had_38 rfl (fun q3 => ?_) (fun q3 => ?_)
    · replace H := H.1 q3
      refine g_iloadn (pc := 49) O rfl dX8_had_49 ?_
      refine g_istoren (lv' := [(0, .ref 82), (1, .int x1), (2, .int x2), (3, .int x3)]) (pc := 50) O dX8_had_50 rfl (ltb rfl) rfl ?_
      refine g_iinc (lv' := [(0, .ref 82), (1, .int x1), (2, .int x2), (3, .int (x3 + I 1))]) (pc := 51) O dX8_had_51 rfl rfl (ltb rfl) rfl ?_
      refine g_goto (tgt := 24) (pc := 54) O dX8_had_54 rfl ?_
      exact H
    · replace H := H.2 q3
      refine g_iloadn (pc := 41) O rfl dX8_had_41 ?_
      refine g_iconst (v := (I 1)) (pc := 42) O rfl dX8_had_42 ?_
      refine g_iloadn (pc := 43) O rfl dX8_had_43 ?_
      refine g_ishl (pc := 44) O dX8_had_44 ?_
      refine g_ior (pc := 45) O dX8_had_45 ?_
      refine g_goto (tgt := 50) (pc := 46) O dX8_had_46 rfl ?_
      refine g_istoren (lv' := [(0, .ref 82), (1, .int x1), (2, .int (x2 ||| ((I 1) <<< (x3 &&& 31)))), (3, .int x3)]) (pc := 50) O dX8_had_50 rfl (ltb rfl) rfl ?_
      refine g_iinc (lv' := [(0, .ref 82), (1, .int x1), (2, .int (x2 ||| ((I 1) <<< (x3 &&& 31)))), (3, .int (x3 + I 1))]) (pc := 51) O dX8_had_51 rfl rfl (ltb rfl) rfl ?_
      refine g_goto (tgt := 24) (pc := 54) O dX8_had_54 rfl ?_
      exact H
set_option maxRecDepth 20000 in
set_option maxHeartbeats 2000000 in
theorem sX8_had {g : mg} {l : Launch} {Q : Int32 → AH → Prop} {x1 : Int32} {h : AH} (H : ∀ X, Ok (FF g l X) RX8 cX8_had 4 mX8_had.2.2.2.2 (some .int) → SpV g l mX8_make h [.ref 82] (fun hv1 => SpI g l mX8_in hv1 [.int x1, .int (I 0), .int ((hv1.1 82 38) - (I 1))] (fun v2 hv2 => ((¬ v2 = 0) → (GI g l X Q hv2 24 [(0, .ref 82), (1, .int x1), (2, .int (I 0)), (3, .int (I 0))] [])) ∧ ((v2 = 0) → (Q (I (-1)) hv2))))) : SpI g l mX8_had h [.ref 82, .int x1] Q := spI_of (by decide) (leb rfl) (fun X O => bX8_had_0 O (H X O))
set_option maxRecDepth 20000 in
set_option maxHeartbeats 2000000 in
theorem bX8_moved_0 {g : mg} {l : Launch} {X : XT} {Q : Int32 → AH → Prop} (O : Ok (FF g l X) RX8 cX8_moved 6 mX8_moved.2.2.2.2 (some .int)) {x1 : Int32} {h : AH} (H : GI g l X Q h 8 [(0, .ref 82), (1, .int x1), (2, .int (I (-1))), (3, .int (I (-9))), (4, .int (I 0))] []) : GI g l X Q h 0 [(0, .ref 82), (1, .int x1)] [] := by
  refine g_iconst (v := (I (-1))) (pc := 0) O rfl dX8_moved_0 ?_
  refine g_istoren (lv' := [(0, .ref 82), (1, .int x1), (2, .int (I (-1)))]) (pc := 1) O dX8_moved_1 rfl (ltb rfl) rfl ?_
  refine g_bipush (v := (I (-9))) (pc := 2) O (by decide) dX8_moved_2 ?_
  refine g_istoren (lv' := [(0, .ref 82), (1, .int x1), (2, .int (I (-1))), (3, .int (I (-9)))]) (pc := 4) O dX8_moved_4 rfl (ltb rfl) rfl ?_
  refine g_iconst (v := (I 0)) (pc := 5) O rfl dX8_moved_5 ?_
  refine g_istore (lv' := [(0, .ref 82), (1, .int x1), (2, .int (I (-1))), (3, .int (I (-9))), (4, .int (I 0))]) (pc := 6) O dX8_moved_6 (ltb rfl) rfl ?_
  exact H
set_option maxRecDepth 20000 in
set_option maxHeartbeats 2000000 in
theorem bX8_moved_8 {g : mg} {l : Launch} {X : XT} {Q : Int32 → AH → Prop} (O : Ok (FF g l X) RX8 cX8_moved 6 mX8_moved.2.2.2.2 (some .int)) {x1 : Int32} {x2 : Int32} {x3 : Int32} {x4 : Int32} {h : AH} (H : (((h.1 82 6) ≤ x4) → (Q x3 h)) ∧ ((¬ ((h.1 82 6) ≤ x4)) → (((¬ x4 = x1) → (SpI g l mX8_least h [.ref 82, .int x1, .int x4] (fun v3 hv3 => ((x2 < 0) → (∃ j5 : Nat, x4 = I (j5 : Int) ∧ j5 < 4 ∧ (GI g l X Q hv3 8 [(0, .ref 82), (1, .int x1), (2, .int v3), (3, .int (hv3.1 84 j5)), (4, .int (x4 + I 1))] []))) ∧ ((¬ (x2 < 0)) → (((v3 < x2) → (∃ j7 : Nat, x4 = I (j7 : Int) ∧ j7 < 4 ∧ (GI g l X Q hv3 8 [(0, .ref 82), (1, .int x1), (2, .int v3), (3, .int (hv3.1 84 j7)), (4, .int (x4 + I 1))] []))) ∧ ((¬ (v3 < x2)) → (((¬ v3 = x2) → (GI g l X Q hv3 8 [(0, .ref 82), (1, .int x1), (2, .int x2), (3, .int x3), (4, .int (x4 + I 1))] [])) ∧ ((v3 = x2) → (∃ j9 : Nat, x4 = I (j9 : Int) ∧ j9 < 4 ∧ (∃ j10 : Nat, x1 = I (j10 : Int) ∧ j10 < 4 ∧ (((¬ (hv3.1 84 j9) = (hv3.1 84 j10)) → (GI g l X Q hv3 8 [(0, .ref 82), (1, .int x1), (2, .int x2), (3, .int x3), (4, .int (x4 + I 1))] [])) ∧ (((hv3.1 84 j9) = (hv3.1 84 j10)) → (∃ j12 : Nat, x4 = I (j12 : Int) ∧ j12 < 4 ∧ (GI g l X Q hv3 8 [(0, .ref 82), (1, .int x1), (2, .int v3), (3, .int (hv3.1 84 j12)), (4, .int (x4 + I 1))] [])))))))))))))) ∧ ((x4 = x1) → (GI g l X Q h 8 [(0, .ref 82), (1, .int x1), (2, .int x2), (3, .int x3), (4, .int (x4 + I 1))] []))))) : GI g l X Q h 8 [(0, .ref 82), (1, .int x1), (2, .int x2), (3, .int x3), (4, .int x4)] [] := by
  refine g_iload (pc := 8) O rfl dX8_moved_8 ?_
  refine g_aloadn (pc := 10) O rfl dX8_moved_10 ?_
  refine g_getI (v := h.1 82 6) (pc := 11) O cls8 fl_X8_173 dX8_moved_11 rfl (ltb rfl) (ltb rfl) rfl rfl ?_
  refine g_icmp_ge (tgt := 84) (pc := 14) O dX8_moved_14 rfl (fun q1 => ?_) (fun q1 => ?_)
  · replace H := H.1 q1
    refine g_iloadn (pc := 84) O rfl dX8_moved_84 ?_
    exact g_iret (pc := 85) O dX8_moved_85 H
  · replace H := H.2 q1
    refine g_iload (pc := 17) O rfl dX8_moved_17 ?_
    refine g_iloadn (pc := 19) O rfl dX8_moved_19 ?_
    refine g_icmp_ne (tgt := 26) (pc := 20) O dX8_moved_20 rfl (fun q2 => ?_) (fun q2 => ?_)
    · replace H := H.1 q2
      refine g_aloadn (pc := 26) O rfl dX8_moved_26 ?_
      refine g_iloadn (pc := 27) O rfl dX8_moved_27 ?_
      refine g_iload (pc := 28) O rfl dX8_moved_28 ?_
      refine g_vI [.int x1, .int x4] [] (pc := 30) O mk_X8_least ml_X8_251 im_X8_least se_X8_least cls8 rfl ⟨rfl, rfl, leb rfl, leb rfl⟩ rfl (leb rfl) dX8_moved_30 H rfl (fun v3 hv3 H => ?_)
      refine g_istore (lv' := [(0, .ref 82), (1, .int x1), (2, .int x2), (3, .int x3), (4, .int x4), (5, .int v3)]) (pc := 33) O dX8_moved_33 (ltb rfl) rfl ?_
      refine g_iloadn (pc := 35) O rfl dX8_moved_35 ?_
      refine g_if_lt (tgt := 67) (pc := 36) O dX8_moved_36 rfl (fun q4 => ?_) (fun q4 => ?_)
      · replace H := H.1 q4
        refine g_iload (pc := 67) O rfl dX8_moved_67 ?_
        refine g_istoren (lv' := [(0, .ref 82), (1, .int x1), (2, .int v3), (3, .int x3), (4, .int x4), (5, .int v3)]) (pc := 69) O dX8_moved_69 rfl (ltb rfl) rfl ?_
        refine g_aloadn (pc := 70) O rfl dX8_moved_70 ?_
        refine g_getS (pc := 71) O cls8 fl_X8_13 dX8_moved_71 rfl (ltb rfl) (ltb rfl) rfl rfl ?_
        refine g_iload (pc := 74) O rfl dX8_moved_74 ?_
        obtain ⟨j5, ej5, bj5, H⟩ := H
        refine g_iald (j := j5) (pc := 76) O dX8_moved_76 ej5 rfl (ltb rfl) bj5 (ltb rfl) rfl ?_
        refine g_istoren (lv' := [(0, .ref 82), (1, .int x1), (2, .int v3), (3, .int (hv3.1 84 j5)), (4, .int x4), (5, .int v3)]) (pc := 77) O dX8_moved_77 rfl (ltb rfl) rfl ?_
        refine g_iinc (lv' := [(0, .ref 82), (1, .int x1), (2, .int v3), (3, .int (hv3.1 84 j5)), (4, .int (x4 + I 1)), (5, .int v3)]) (pc := 78) O dX8_moved_78 rfl rfl (ltb rfl) rfl ?_
        refine g_goto (tgt := 8) (pc := 81) O dX8_moved_81 rfl ?_
        refine g_sub [0, 1, 2, 3, 4] rfl ?_
        exact H
      · replace H := H.2 q4
        refine g_iload (pc := 39) O rfl dX8_moved_39 ?_
        refine g_iloadn (pc := 41) O rfl dX8_moved_41 ?_
        refine g_icmp_lt (tgt := 67) (pc := 42) O dX8_moved_42 rfl (fun q6 => ?_) (fun q6 => ?_)
        · replace H := H.1 q6
          refine g_iload (pc := 67) O rfl dX8_moved_67 ?_
          refine g_istoren (lv' := [(0, .ref 82), (1, .int x1), (2, .int v3), (3, .int x3), (4, .int x4), (5, .int v3)]) (pc := 69) O dX8_moved_69 rfl (ltb rfl) rfl ?_
          refine g_aloadn (pc := 70) O rfl dX8_moved_70 ?_
          refine g_getS (pc := 71) O cls8 fl_X8_13 dX8_moved_71 rfl (ltb rfl) (ltb rfl) rfl rfl ?_
          refine g_iload (pc := 74) O rfl dX8_moved_74 ?_
          obtain ⟨j7, ej7, bj7, H⟩ := H
          refine g_iald (j := j7) (pc := 76) O dX8_moved_76 ej7 rfl (ltb rfl) bj7 (ltb rfl) rfl ?_
          refine g_istoren (lv' := [(0, .ref 82), (1, .int x1), (2, .int v3), (3, .int (hv3.1 84 j7)), (4, .int x4), (5, .int v3)]) (pc := 77) O dX8_moved_77 rfl (ltb rfl) rfl ?_
          refine g_iinc (lv' := [(0, .ref 82), (1, .int x1), (2, .int v3), (3, .int (hv3.1 84 j7)), (4, .int (x4 + I 1)), (5, .int v3)]) (pc := 78) O dX8_moved_78 rfl rfl (ltb rfl) rfl ?_
          refine g_goto (tgt := 8) (pc := 81) O dX8_moved_81 rfl ?_
          refine g_sub [0, 1, 2, 3, 4] rfl ?_
          exact H
        · replace H := H.2 q6
          refine g_iload (pc := 45) O rfl dX8_moved_45 ?_
          refine g_iloadn (pc := 47) O rfl dX8_moved_47 ?_
          refine g_icmp_ne (tgt := 78) (pc := 48) O dX8_moved_48 rfl (fun q8 => ?_) (fun q8 => ?_)
          · replace H := H.1 q8
            refine g_iinc (lv' := [(0, .ref 82), (1, .int x1), (2, .int x2), (3, .int x3), (4, .int (x4 + I 1)), (5, .int v3)]) (pc := 78) O dX8_moved_78 rfl rfl (ltb rfl) rfl ?_
            refine g_goto (tgt := 8) (pc := 81) O dX8_moved_81 rfl ?_
            refine g_sub [0, 1, 2, 3, 4] rfl ?_
            exact H
          · replace H := H.2 q8
            refine g_aloadn (pc := 51) O rfl dX8_moved_51 ?_
            refine g_getS (pc := 52) O cls8 fl_X8_13 dX8_moved_52 rfl (ltb rfl) (ltb rfl) rfl rfl ?_
            refine g_iload (pc := 55) O rfl dX8_moved_55 ?_
            obtain ⟨j9, ej9, bj9, H⟩ := H
            refine g_iald (j := j9) (pc := 57) O dX8_moved_57 ej9 rfl (ltb rfl) bj9 (ltb rfl) rfl ?_
            refine g_aloadn (pc := 58) O rfl dX8_moved_58 ?_
            refine g_getS (pc := 59) O cls8 fl_X8_13 dX8_moved_59 rfl (ltb rfl) (ltb rfl) rfl rfl ?_
            refine g_iloadn (pc := 62) O rfl dX8_moved_62 ?_
            obtain ⟨j10, ej10, bj10, H⟩ := H
            refine g_iald (j := j10) (pc := 63) O dX8_moved_63 ej10 rfl (ltb rfl) bj10 (ltb rfl) rfl ?_
            refine g_icmp_ne (tgt := 78) (pc := 64) O dX8_moved_64 rfl (fun q11 => ?_) (fun q11 => ?_)
            · replace H := H.1 q11
              refine g_iinc (lv' := [(0, .ref 82), (1, .int x1), (2, .int x2), (3, .int x3), (4, .int (x4 + I 1)), (5, .int v3)]) (pc := 78) O dX8_moved_78 rfl rfl (ltb rfl) rfl ?_
              refine g_goto (tgt := 8) (pc := 81) O dX8_moved_81 rfl ?_
              refine g_sub [0, 1, 2, 3, 4] rfl ?_
              exact H
            · replace H := H.2 q11
              refine g_iload (pc := 67) O rfl dX8_moved_67 ?_
              refine g_istoren (lv' := [(0, .ref 82), (1, .int x1), (2, .int v3), (3, .int x3), (4, .int x4), (5, .int v3)]) (pc := 69) O dX8_moved_69 rfl (ltb rfl) rfl ?_
              refine g_aloadn (pc := 70) O rfl dX8_moved_70 ?_
              refine g_getS (pc := 71) O cls8 fl_X8_13 dX8_moved_71 rfl (ltb rfl) (ltb rfl) rfl rfl ?_
              refine g_iload (pc := 74) O rfl dX8_moved_74 ?_
              obtain ⟨j12, ej12, bj12, H⟩ := H
              refine g_iald (j := j12) (pc := 76) O dX8_moved_76 ej12 rfl (ltb rfl) bj12 (ltb rfl) rfl ?_
              refine g_istoren (lv' := [(0, .ref 82), (1, .int x1), (2, .int v3), (3, .int (hv3.1 84 j12)), (4, .int x4), (5, .int v3)]) (pc := 77) O dX8_moved_77 rfl (ltb rfl) rfl ?_
              refine g_iinc (lv' := [(0, .ref 82), (1, .int x1), (2, .int v3), (3, .int (hv3.1 84 j12)), (4, .int (x4 + I 1)), (5, .int v3)]) (pc := 78) O dX8_moved_78 rfl rfl (ltb rfl) rfl ?_
              refine g_goto (tgt := 8) (pc := 81) O dX8_moved_81 rfl ?_
              refine g_sub [0, 1, 2, 3, 4] rfl ?_
              exact H
    · replace H := H.2 q2
      refine g_goto (tgt := 78) (pc := 23) O dX8_moved_23 rfl ?_
      refine g_iinc (lv' := [(0, .ref 82), (1, .int x1), (2, .int x2), (3, .int x3), (4, .int (x4 + I 1))]) (pc := 78) O dX8_moved_78 rfl rfl (ltb rfl) rfl ?_
      refine g_goto (tgt := 8) (pc := 81) O dX8_moved_81 rfl ?_
      exact H
set_option maxRecDepth 20000 in
set_option maxHeartbeats 2000000 in
theorem sX8_moved {g : mg} {l : Launch} {Q : Int32 → AH → Prop} {x1 : Int32} {h : AH} (H : ∀ X, Ok (FF g l X) RX8 cX8_moved 6 mX8_moved.2.2.2.2 (some .int) → GI g l X Q h 8 [(0, .ref 82), (1, .int x1), (2, .int (I (-1))), (3, .int (I (-9))), (4, .int (I 0))] []) : SpI g l mX8_moved h [.ref 82, .int x1] Q := spI_of (by decide) (leb rfl) (fun X O => bX8_moved_0 O (H X O))
set_option maxRecDepth 20000 in
set_option maxHeartbeats 2000000 in
theorem bX8_face_0 {g : mg} {l : Launch} {X : XT} {Q : Int32 → AH → Prop} (O : Ok (FF g l X) RX8 cX8_face 5 mX8_face.2.2.2.2 (some .int)) {x1 : Int32} {x2 : Int32} {h : AH} (H : SpI g l mX8_isChipAt h [.ref 82, .int x1] (fun v1 hv1 => ((v1 = 0) → (Q (I (-1)) hv1)) ∧ ((¬ (v1 = 0)) → (SpI g l mX8_in hv1 [.int x2, .int (I 0), .int (I 3)] (fun v3 hv3 => ((¬ v3 = 0) → (SpV g l mX8_make hv3 [.ref 82] (fun hv5 => ∃ j6 : Nat, ((I 10) * x1) = I (j6 : Int) ∧ j6 < 40 ∧ (∃ j7 : Nat, x1 = I (j7 : Int) ∧ j7 < 4 ∧ (∃ j8 : Nat, ((((I 10) * x1) + (hv5.1 86 j7)) - (I 1)) = I (j8 : Int) ∧ j8 < 40 ∧ (((¬ x2 = 0) → (((¬ x2 = (I 1)) → (((¬ x2 = (I 2)) → (SpI g l mX8_moved hv5 [.ref 82, .int x1] (fun v12 hv12 => Q v12 hv12))) ∧ ((x2 = (I 2)) → (((¬ (hv5.1 114 j6) = 0) → (∃ j14 : Nat, x1 = I (j14 : Int) ∧ j14 < 4 ∧ (((¬ (hv5.1 85 j14) = (I 1)) → (Q (I 2) hv5)) ∧ (((hv5.1 85 j14) = (I 1)) → (Q (I 1) hv5))))) ∧ (((hv5.1 114 j6) = 0) → (Q (I 0) hv5)))))) ∧ ((x2 = (I 1)) → (Q (hv5.1 114 j6) hv5)))) ∧ ((x2 = 0) → (∃ j16 : Nat, x1 = I (j16 : Int) ∧ j16 < 4 ∧ (Q ((((hv5.1 114 j8) - (hv5.1 114 j6)) + (I 1)) - (hv5.1 86 j16)) hv5))))))))) ∧ ((v3 = 0) → (Q (I (-1)) hv3))))))) : GI g l X Q h 0 [(0, .ref 82), (1, .int x1), (2, .int x2)] [] := by
  refine g_aloadn (pc := 0) O rfl dX8_face_0 ?_
  refine g_iloadn (pc := 1) O rfl dX8_face_1 ?_
  refine g_vI [.int x1] [] (pc := 2) O mk_X8_isChipAt ml_X8_199 im_X8_isChipAt se_X8_isChipAt cls8 rfl ⟨rfl, rfl, leb rfl, leb rfl⟩ rfl (leb rfl) dX8_face_2 H rfl (fun v1 hv1 H => ?_)
  refine g_if_eq (tgt := 17) (pc := 5) O dX8_face_5 rfl (fun q2 => ?_) (fun q2 => ?_)
  · replace H := H.1 q2
    refine g_iconst (v := (I (-1))) (pc := 17) O rfl dX8_face_17 ?_
    exact g_iret (pc := 18) O dX8_face_18 H
  · replace H := H.2 q2
    refine g_iloadn (pc := 8) O rfl dX8_face_8 ?_
    refine g_iconst (v := (I 0)) (pc := 9) O rfl dX8_face_9 ?_
    refine g_iconst (v := (I 3)) (pc := 10) O rfl dX8_face_10 ?_
    refine g_sI [.int x2, .int (I 0), .int (I 3)] [] (pc := 11) O mk_X8_in ml_X8_116 sm_X8_in ⟨rfl, rfl, leb rfl, leb rfl⟩ rfl (leb rfl) dX8_face_11 H rfl (fun v3 hv3 H => ?_)
    refine g_if_ne (tgt := 19) (pc := 14) O dX8_face_14 rfl (fun q4 => ?_) (fun q4 => ?_)
    · replace H := H.1 q4
      refine g_aloadn (pc := 19) O rfl dX8_face_19 ?_
      refine g_vV [] [] (pc := 20) O mk_X8_make ml_X8_205 im_X8_make se_X8_make cls8 rfl ⟨rfl, rfl, leb rfl, leb rfl⟩ rfl (leb rfl) dX8_face_20 H rfl (fun hv5 H => ?_)
      refine g_aloadn (pc := 23) O rfl dX8_face_23 ?_
      refine g_getS (pc := 24) O cls8 fl_X8_104 dX8_face_24 rfl (ltb rfl) (ltb rfl) rfl rfl ?_
      refine g_bipush (v := (I 10)) (pc := 27) O (by decide) dX8_face_27 ?_
      refine g_iloadn (pc := 29) O rfl dX8_face_29 ?_
      refine g_imul (pc := 30) O dX8_face_30 ?_
      obtain ⟨j6, ej6, bj6, H⟩ := H
      refine g_iald (j := j6) (pc := 31) O dX8_face_31 ej6 rfl (ltb rfl) bj6 (ltb rfl) rfl ?_
      refine g_istoren (lv' := [(0, .ref 82), (1, .int x1), (2, .int x2), (3, .int (hv5.1 114 j6))]) (pc := 32) O dX8_face_32 rfl (ltb rfl) rfl ?_
      refine g_aloadn (pc := 33) O rfl dX8_face_33 ?_
      refine g_getS (pc := 34) O cls8 fl_X8_104 dX8_face_34 rfl (ltb rfl) (ltb rfl) rfl rfl ?_
      refine g_bipush (v := (I 10)) (pc := 37) O (by decide) dX8_face_37 ?_
      refine g_iloadn (pc := 39) O rfl dX8_face_39 ?_
      refine g_imul (pc := 40) O dX8_face_40 ?_
      refine g_aloadn (pc := 41) O rfl dX8_face_41 ?_
      refine g_getS (pc := 42) O cls8 fl_X8_19 dX8_face_42 rfl (ltb rfl) (ltb rfl) rfl rfl ?_
      refine g_iloadn (pc := 45) O rfl dX8_face_45 ?_
      obtain ⟨j7, ej7, bj7, H⟩ := H
      refine g_iald (j := j7) (pc := 46) O dX8_face_46 ej7 rfl (ltb rfl) bj7 (ltb rfl) rfl ?_
      refine g_iadd (pc := 47) O dX8_face_47 ?_
      refine g_iconst (v := (I 1)) (pc := 48) O rfl dX8_face_48 ?_
      refine g_isub (pc := 49) O dX8_face_49 ?_
      obtain ⟨j8, ej8, bj8, H⟩ := H
      refine g_iald (j := j8) (pc := 50) O dX8_face_50 ej8 rfl (ltb rfl) bj8 (ltb rfl) rfl ?_
      refine g_istore (lv' := [(0, .ref 82), (1, .int x1), (2, .int x2), (3, .int (hv5.1 114 j6)), (4, .int (hv5.1 114 j8))]) (pc := 51) O dX8_face_51 (ltb rfl) rfl ?_
      refine g_iloadn (pc := 53) O rfl dX8_face_53 ?_
      refine g_if_ne (tgt := 71) (pc := 54) O dX8_face_54 rfl (fun q9 => ?_) (fun q9 => ?_)
      · replace H := H.1 q9
        refine g_iloadn (pc := 71) O rfl dX8_face_71 ?_
        refine g_iconst (v := (I 1)) (pc := 72) O rfl dX8_face_72 ?_
        refine g_icmp_ne (tgt := 78) (pc := 73) O dX8_face_73 rfl (fun q10 => ?_) (fun q10 => ?_)
        · replace H := H.1 q10
          refine g_iloadn (pc := 78) O rfl dX8_face_78 ?_
          refine g_iconst (v := (I 2)) (pc := 79) O rfl dX8_face_79 ?_
          refine g_icmp_ne (tgt := 107) (pc := 80) O dX8_face_80 rfl (fun q11 => ?_) (fun q11 => ?_)
          · replace H := H.1 q11
            refine g_aloadn (pc := 107) O rfl dX8_face_107 ?_
            refine g_iloadn (pc := 108) O rfl dX8_face_108 ?_
            refine g_vI [.int x1] [] (pc := 109) O mk_X8_moved ml_X8_255 im_X8_moved se_X8_moved cls8 rfl ⟨rfl, rfl, leb rfl, leb rfl⟩ rfl (leb rfl) dX8_face_109 H rfl (fun v12 hv12 H => ?_)
            exact g_iret (pc := 112) O dX8_face_112 H
          · replace H := H.2 q11
            refine g_iloadn (pc := 83) O rfl dX8_face_83 ?_
            refine g_if_ne (tgt := 91) (pc := 84) O dX8_face_84 rfl (fun q13 => ?_) (fun q13 => ?_)
            · replace H := H.1 q13
              refine g_aloadn (pc := 91) O rfl dX8_face_91 ?_
              refine g_getS (pc := 92) O cls8 fl_X8_16 dX8_face_92 rfl (ltb rfl) (ltb rfl) rfl rfl ?_
              refine g_iloadn (pc := 95) O rfl dX8_face_95 ?_
              obtain ⟨j14, ej14, bj14, H⟩ := H
              refine g_iald (j := j14) (pc := 96) O dX8_face_96 ej14 rfl (ltb rfl) bj14 (ltb rfl) rfl ?_
              refine g_iconst (v := (I 1)) (pc := 97) O rfl dX8_face_97 ?_
              refine g_icmp_ne (tgt := 105) (pc := 98) O dX8_face_98 rfl (fun q15 => ?_) (fun q15 => ?_)
              · replace H := H.1 q15
                refine g_iconst (v := (I 2)) (pc := 105) O rfl dX8_face_105 ?_
                exact g_iret (pc := 106) O dX8_face_106 H
              · replace H := H.2 q15
                refine g_iconst (v := (I 1)) (pc := 101) O rfl dX8_face_101 ?_
                refine g_goto (tgt := 106) (pc := 102) O dX8_face_102 rfl ?_
                exact g_iret (pc := 106) O dX8_face_106 H
            · replace H := H.2 q13
              refine g_iconst (v := (I 0)) (pc := 87) O rfl dX8_face_87 ?_
              refine g_goto (tgt := 106) (pc := 88) O dX8_face_88 rfl ?_
              exact g_iret (pc := 106) O dX8_face_106 H
        · replace H := H.2 q10
          refine g_iloadn (pc := 76) O rfl dX8_face_76 ?_
          exact g_iret (pc := 77) O dX8_face_77 H
      · replace H := H.2 q9
        refine g_iload (pc := 57) O rfl dX8_face_57 ?_
        refine g_iloadn (pc := 59) O rfl dX8_face_59 ?_
        refine g_isub (pc := 60) O dX8_face_60 ?_
        refine g_iconst (v := (I 1)) (pc := 61) O rfl dX8_face_61 ?_
        refine g_iadd (pc := 62) O dX8_face_62 ?_
        refine g_aloadn (pc := 63) O rfl dX8_face_63 ?_
        refine g_getS (pc := 64) O cls8 fl_X8_19 dX8_face_64 rfl (ltb rfl) (ltb rfl) rfl rfl ?_
        refine g_iloadn (pc := 67) O rfl dX8_face_67 ?_
        obtain ⟨j16, ej16, bj16, H⟩ := H
        refine g_iald (j := j16) (pc := 68) O dX8_face_68 ej16 rfl (ltb rfl) bj16 (ltb rfl) rfl ?_
        refine g_isub (pc := 69) O dX8_face_69 ?_
        exact g_iret (pc := 70) O dX8_face_70 H
    · replace H := H.2 q4
      refine g_iconst (v := (I (-1))) (pc := 17) O rfl dX8_face_17 ?_
      exact g_iret (pc := 18) O dX8_face_18 H
set_option maxRecDepth 20000 in
set_option maxHeartbeats 2000000 in
theorem sX8_face {g : mg} {l : Launch} {Q : Int32 → AH → Prop} {x1 : Int32} {x2 : Int32} {h : AH} (H : SpI g l mX8_isChipAt h [.ref 82, .int x1] (fun v1 hv1 => ((v1 = 0) → (Q (I (-1)) hv1)) ∧ ((¬ (v1 = 0)) → (SpI g l mX8_in hv1 [.int x2, .int (I 0), .int (I 3)] (fun v3 hv3 => ((¬ v3 = 0) → (SpV g l mX8_make hv3 [.ref 82] (fun hv5 => ∃ j6 : Nat, ((I 10) * x1) = I (j6 : Int) ∧ j6 < 40 ∧ (∃ j7 : Nat, x1 = I (j7 : Int) ∧ j7 < 4 ∧ (∃ j8 : Nat, ((((I 10) * x1) + (hv5.1 86 j7)) - (I 1)) = I (j8 : Int) ∧ j8 < 40 ∧ (((¬ x2 = 0) → (((¬ x2 = (I 1)) → (((¬ x2 = (I 2)) → (SpI g l mX8_moved hv5 [.ref 82, .int x1] (fun v12 hv12 => Q v12 hv12))) ∧ ((x2 = (I 2)) → (((¬ (hv5.1 114 j6) = 0) → (∃ j14 : Nat, x1 = I (j14 : Int) ∧ j14 < 4 ∧ (((¬ (hv5.1 85 j14) = (I 1)) → (Q (I 2) hv5)) ∧ (((hv5.1 85 j14) = (I 1)) → (Q (I 1) hv5))))) ∧ (((hv5.1 114 j6) = 0) → (Q (I 0) hv5)))))) ∧ ((x2 = (I 1)) → (Q (hv5.1 114 j6) hv5)))) ∧ ((x2 = 0) → (∃ j16 : Nat, x1 = I (j16 : Int) ∧ j16 < 4 ∧ (Q ((((hv5.1 114 j8) - (hv5.1 114 j6)) + (I 1)) - (hv5.1 86 j16)) hv5))))))))) ∧ ((v3 = 0) → (Q (I (-1)) hv3))))))) : SpI g l mX8_face h [.ref 82, .int x1, .int x2] Q := spI_of (by decide) (leb rfl) (fun X O => bX8_face_0 O H)
set_option maxRecDepth 20000 in
set_option maxHeartbeats 2000000 in
theorem bX8_later_0 {g : mg} {l : Launch} {X : XT} {Q : Int32 → AH → Prop} (O : Ok (FF g l X) RX8 cX8_later 5 mX8_later.2.2.2.2 (some .int)) {x1 : Int32} {h : AH} (H : GI g l X Q h 4 [(0, .ref 82), (1, .int x1), (2, .int (I 0)), (3, .int (I 0))] []) : GI g l X Q h 0 [(0, .ref 82), (1, .int x1)] [] := by
  refine g_iconst (v := (I 0)) (pc := 0) O rfl dX8_later_0 ?_
  refine g_istoren (lv' := [(0, .ref 82), (1, .int x1), (2, .int (I 0))]) (pc := 1) O dX8_later_1 rfl (ltb rfl) rfl ?_
  refine g_iconst (v := (I 0)) (pc := 2) O rfl dX8_later_2 ?_
  refine g_istoren (lv' := [(0, .ref 82), (1, .int x1), (2, .int (I 0)), (3, .int (I 0))]) (pc := 3) O dX8_later_3 rfl (ltb rfl) rfl ?_
  exact H
set_option maxRecDepth 20000 in
set_option maxHeartbeats 2000000 in
theorem bX8_later_4 {g : mg} {l : Launch} {X : XT} {Q : Int32 → AH → Prop} (O : Ok (FF g l X) RX8 cX8_later 5 mX8_later.2.2.2.2 (some .int)) {x1 : Int32} {x2 : Int32} {x3 : Int32} {h : AH} (H : (((h.1 82 6) ≤ x3) → (Q (((h.1 101 3) * x2) + (I 1)) h)) ∧ ((¬ ((h.1 82 6) ≤ x3)) → (GI g l X Q h 15 [(0, .ref 82), (1, .int x1), (2, .int x2), (3, .int x3), (4, .int (I 0))] []))) : GI g l X Q h 4 [(0, .ref 82), (1, .int x1), (2, .int x2), (3, .int x3)] [] := by
  refine g_iloadn (pc := 4) O rfl dX8_later_4 ?_
  refine g_aloadn (pc := 5) O rfl dX8_later_5 ?_
  refine g_getI (v := h.1 82 6) (pc := 6) O cls8 fl_X8_173 dX8_later_6 rfl (ltb rfl) (ltb rfl) rfl rfl ?_
  refine g_icmp_ge (tgt := 87) (pc := 9) O dX8_later_9 rfl (fun q1 => ?_) (fun q1 => ?_)
  · replace H := H.1 q1
    refine g_aloadn (pc := 87) O rfl dX8_later_87 ?_
    refine g_getS (pc := 88) O cls8 fl_X8_64 dX8_later_88 rfl (ltb rfl) (ltb rfl) rfl rfl ?_
    refine g_iconst (v := (I 3)) (pc := 91) O rfl dX8_later_91 ?_
    refine g_iald (j := 3) (pc := 92) O dX8_later_92 rfl rfl (ltb rfl) (ltb rfl) (ltb rfl) rfl ?_
    refine g_iloadn (pc := 93) O rfl dX8_later_93 ?_
    refine g_imul (pc := 94) O dX8_later_94 ?_
    refine g_iconst (v := (I 1)) (pc := 95) O rfl dX8_later_95 ?_
    refine g_iadd (pc := 96) O dX8_later_96 ?_
    exact g_iret (pc := 97) O dX8_later_97 H
  · replace H := H.2 q1
    refine g_iconst (v := (I 0)) (pc := 12) O rfl dX8_later_12 ?_
    refine g_istore (lv' := [(0, .ref 82), (1, .int x1), (2, .int x2), (3, .int x3), (4, .int (I 0))]) (pc := 13) O dX8_later_13 (ltb rfl) rfl ?_
    exact H
set_option maxRecDepth 20000 in
set_option maxHeartbeats 2000000 in
theorem bX8_later_15 {g : mg} {l : Launch} {X : XT} {Q : Int32 → AH → Prop} (O : Ok (FF g l X) RX8 cX8_later 5 mX8_later.2.2.2.2 (some .int)) {x1 : Int32} {x2 : Int32} {x3 : Int32} {x4 : Int32} {h : AH} (H : ∃ j1 : Nat, x3 = I (j1 : Int) ∧ j1 < 4 ∧ ((((h.1 86 j1) ≤ x4) → (GI g l X Q h 4 [(0, .ref 82), (1, .int x1), (2, .int x2), (3, .int (x3 + I 1))] [])) ∧ ((¬ ((h.1 86 j1) ≤ x4)) → (∃ j3 : Nat, (((I 10) * x3) + x4) = I (j3 : Int) ∧ j3 < 40 ∧ (((¬ (h.1 114 j3) = x1) → (GI g l X Q h 15 [(0, .ref 82), (1, .int x1), (2, .int x2), (3, .int x3), (4, .int (x4 + I 1))] [])) ∧ (((h.1 114 j3) = x1) → (∃ j5 : Nat, (((I 10) * x3) + x4) = I (j5 : Int) ∧ j5 < 40 ∧ ((((h.1 88 j5) ≤ x2) → (GI g l X Q h 15 [(0, .ref 82), (1, .int x1), (2, .int x2), (3, .int x3), (4, .int (x4 + I 1))] [])) ∧ ((¬ ((h.1 88 j5) ≤ x2)) → (∃ j7 : Nat, (((I 10) * x3) + x4) = I (j7 : Int) ∧ j7 < 40 ∧ (GI g l X Q h 15 [(0, .ref 82), (1, .int x1), (2, .int (h.1 88 j7)), (3, .int x3), (4, .int (x4 + I 1))] []))))))))))) : GI g l X Q h 15 [(0, .ref 82), (1, .int x1), (2, .int x2), (3, .int x3), (4, .int x4)] [] := by
  refine g_iload (pc := 15) O rfl dX8_later_15 ?_
  refine g_aloadn (pc := 17) O rfl dX8_later_17 ?_
  refine g_getS (pc := 18) O cls8 fl_X8_19 dX8_later_18 rfl (ltb rfl) (ltb rfl) rfl rfl ?_
  refine g_iloadn (pc := 21) O rfl dX8_later_21 ?_
  obtain ⟨j1, ej1, bj1, H⟩ := H
  refine g_iald (j := j1) (pc := 22) O dX8_later_22 ej1 rfl (ltb rfl) bj1 (ltb rfl) rfl ?_
  refine g_icmp_ge (tgt := 81) (pc := 23) O dX8_later_23 rfl (fun q2 => ?_) (fun q2 => ?_)
  · replace H := H.1 q2
    refine g_iinc (lv' := [(0, .ref 82), (1, .int x1), (2, .int x2), (3, .int (x3 + I 1)), (4, .int x4)]) (pc := 81) O dX8_later_81 rfl rfl (ltb rfl) rfl ?_
    refine g_goto (tgt := 4) (pc := 84) O dX8_later_84 rfl ?_
    refine g_sub [0, 1, 2, 3] rfl ?_
    exact H
  · replace H := H.2 q2
    refine g_aloadn (pc := 26) O rfl dX8_later_26 ?_
    refine g_getS (pc := 27) O cls8 fl_X8_104 dX8_later_27 rfl (ltb rfl) (ltb rfl) rfl rfl ?_
    refine g_bipush (v := (I 10)) (pc := 30) O (by decide) dX8_later_30 ?_
    refine g_iloadn (pc := 32) O rfl dX8_later_32 ?_
    refine g_imul (pc := 33) O dX8_later_33 ?_
    refine g_iload (pc := 34) O rfl dX8_later_34 ?_
    refine g_iadd (pc := 36) O dX8_later_36 ?_
    obtain ⟨j3, ej3, bj3, H⟩ := H
    refine g_iald (j := j3) (pc := 37) O dX8_later_37 ej3 rfl (ltb rfl) bj3 (ltb rfl) rfl ?_
    refine g_iloadn (pc := 38) O rfl dX8_later_38 ?_
    refine g_icmp_ne (tgt := 73) (pc := 39) O dX8_later_39 rfl (fun q4 => ?_) (fun q4 => ?_)
    · replace H := H.1 q4
      refine g_iloadn (pc := 73) O rfl dX8_later_73 ?_
      refine g_istoren (lv' := [(0, .ref 82), (1, .int x1), (2, .int x2), (3, .int x3), (4, .int x4)]) (pc := 74) O dX8_later_74 rfl (ltb rfl) rfl ?_
      refine g_iinc (lv' := [(0, .ref 82), (1, .int x1), (2, .int x2), (3, .int x3), (4, .int (x4 + I 1))]) (pc := 75) O dX8_later_75 rfl rfl (ltb rfl) rfl ?_
      refine g_goto (tgt := 15) (pc := 78) O dX8_later_78 rfl ?_
      exact H
    · replace H := H.2 q4
      refine g_aloadn (pc := 42) O rfl dX8_later_42 ?_
      refine g_getS (pc := 43) O cls8 fl_X8_25 dX8_later_43 rfl (ltb rfl) (ltb rfl) rfl rfl ?_
      refine g_bipush (v := (I 10)) (pc := 46) O (by decide) dX8_later_46 ?_
      refine g_iloadn (pc := 48) O rfl dX8_later_48 ?_
      refine g_imul (pc := 49) O dX8_later_49 ?_
      refine g_iload (pc := 50) O rfl dX8_later_50 ?_
      refine g_iadd (pc := 52) O dX8_later_52 ?_
      obtain ⟨j5, ej5, bj5, H⟩ := H
      refine g_iald (j := j5) (pc := 53) O dX8_later_53 ej5 rfl (ltb rfl) bj5 (ltb rfl) rfl ?_
      refine g_iloadn (pc := 54) O rfl dX8_later_54 ?_
      refine g_icmp_le (tgt := 73) (pc := 55) O dX8_later_55 rfl (fun q6 => ?_) (fun q6 => ?_)
      · replace H := H.1 q6
        refine g_iloadn (pc := 73) O rfl dX8_later_73 ?_
        refine g_istoren (lv' := [(0, .ref 82), (1, .int x1), (2, .int x2), (3, .int x3), (4, .int x4)]) (pc := 74) O dX8_later_74 rfl (ltb rfl) rfl ?_
        refine g_iinc (lv' := [(0, .ref 82), (1, .int x1), (2, .int x2), (3, .int x3), (4, .int (x4 + I 1))]) (pc := 75) O dX8_later_75 rfl rfl (ltb rfl) rfl ?_
        refine g_goto (tgt := 15) (pc := 78) O dX8_later_78 rfl ?_
        exact H
      · replace H := H.2 q6
        refine g_aloadn (pc := 58) O rfl dX8_later_58 ?_
        refine g_getS (pc := 59) O cls8 fl_X8_25 dX8_later_59 rfl (ltb rfl) (ltb rfl) rfl rfl ?_
        refine g_bipush (v := (I 10)) (pc := 62) O (by decide) dX8_later_62 ?_
        refine g_iloadn (pc := 64) O rfl dX8_later_64 ?_
        refine g_imul (pc := 65) O dX8_later_65 ?_
        refine g_iload (pc := 66) O rfl dX8_later_66 ?_
        refine g_iadd (pc := 68) O dX8_later_68 ?_
        obtain ⟨j7, ej7, bj7, H⟩ := H
        refine g_iald (j := j7) (pc := 69) O dX8_later_69 ej7 rfl (ltb rfl) bj7 (ltb rfl) rfl ?_
        refine g_goto (tgt := 74) (pc := 70) O dX8_later_70 rfl ?_
        refine g_istoren (lv' := [(0, .ref 82), (1, .int x1), (2, .int (h.1 88 j7)), (3, .int x3), (4, .int x4)]) (pc := 74) O dX8_later_74 rfl (ltb rfl) rfl ?_
        refine g_iinc (lv' := [(0, .ref 82), (1, .int x1), (2, .int (h.1 88 j7)), (3, .int x3), (4, .int (x4 + I 1))]) (pc := 75) O dX8_later_75 rfl rfl (ltb rfl) rfl ?_
        refine g_goto (tgt := 15) (pc := 78) O dX8_later_78 rfl ?_
        exact H
set_option maxRecDepth 20000 in
set_option maxHeartbeats 2000000 in
theorem sX8_later {g : mg} {l : Launch} {Q : Int32 → AH → Prop} {x1 : Int32} {h : AH} (H : ∀ X, Ok (FF g l X) RX8 cX8_later 5 mX8_later.2.2.2.2 (some .int) → GI g l X Q h 4 [(0, .ref 82), (1, .int x1), (2, .int (I 0)), (3, .int (I 0))] []) : SpI g l mX8_later h [.ref 82, .int x1] Q := spI_of (by decide) (leb rfl) (fun X O => bX8_later_0 O (H X O))
set_option maxRecDepth 20000 in
set_option maxHeartbeats 2000000 in
theorem bX8_years_0 {g : mg} {l : Launch} {X : XT} {Q : AH → Prop} (O : Ok (FF g l X) RX8 cX8_years 3 mX8_years.2.2.2.2 none)  {h : AH} (H : GV g l X Q (sI h 82 44 (I 1)) 7 [(0, .ref 82), (1, .int (I 0))] []) : GV g l X Q h 0 [(0, .ref 82)] [] := by
  refine g_aloadn (pc := 0) O rfl dX8_years_0 ?_
  refine g_iconst (v := (I 1)) (pc := 1) O rfl dX8_years_1 ?_
  refine g_putZ (pc := 2) O cls8 fl_X8_258 dX8_years_2 rfl (ltb rfl) (leb rfl) (ltb rfl) rfl rfl (by decide +kernel) (by decide) ?_
  refine g_iconst (v := (I 0)) (pc := 5) O rfl dX8_years_5 ?_
  refine g_istoren (lv' := [(0, .ref 82), (1, .int (I 0))]) (pc := 6) O dX8_years_6 rfl (ltb rfl) rfl ?_
  exact H
set_option maxRecDepth 20000 in
set_option maxHeartbeats 2000000 in
theorem bX8_years_7 {g : mg} {l : Launch} {X : XT} {Q : AH → Prop} (O : Ok (FF g l X) RX8 cX8_years 3 mX8_years.2.2.2.2 none) {x1 : Int32} {h : AH} (H : (((h.1 82 38) ≤ x1) → (GV g l X Q h 125 [(0, .ref 82), (1, .int ((h.1 82 38) - (I 1)))] [])) ∧ ((¬ ((h.1 82 38) ≤ x1)) → (((¬ x1 = 0) → (∃ j3 : Nat, (x1 - (I 1)) = I (j3 : Int) ∧ j3 < 40 ∧ (SpI g l mX8_later h [.ref 82, .int (x1 - (I 1))] (fun v4 hv4 => GV g l X Q hv4 39 [(0, .ref 82), (1, .int x1)] [.int ((h.1 115 j3) + v4)])))) ∧ ((x1 = 0) → (GV g l X Q h 39 [(0, .ref 82), (1, .int x1)] [.int (I 0)]))))) : GV g l X Q h 7 [(0, .ref 82), (1, .int x1)] [] := by
  refine g_iloadn (pc := 7) O rfl dX8_years_7 ?_
  refine g_aloadn (pc := 8) O rfl dX8_years_8 ?_
  refine g_getI (v := h.1 82 38) (pc := 9) O cls8 fl_X8_235 dX8_years_9 rfl (ltb rfl) (ltb rfl) rfl rfl ?_
  refine g_icmp_ge (tgt := 118) (pc := 12) O dX8_years_12 rfl (fun q1 => ?_) (fun q1 => ?_)
  · replace H := H.1 q1
    refine g_aloadn (pc := 118) O rfl dX8_years_118 ?_
    refine g_getI (v := h.1 82 38) (pc := 119) O cls8 fl_X8_235 dX8_years_119 rfl (ltb rfl) (ltb rfl) rfl rfl ?_
    refine g_iconst (v := (I 1)) (pc := 122) O rfl dX8_years_122 ?_
    refine g_isub (pc := 123) O dX8_years_123 ?_
    refine g_istoren (lv' := [(0, .ref 82), (1, .int ((h.1 82 38) - (I 1)))]) (pc := 124) O dX8_years_124 rfl (ltb rfl) rfl ?_
    exact H
  · replace H := H.2 q1
    refine g_iloadn (pc := 15) O rfl dX8_years_15 ?_
    refine g_if_ne (tgt := 23) (pc := 16) O dX8_years_16 rfl (fun q2 => ?_) (fun q2 => ?_)
    · replace H := H.1 q2
      refine g_aloadn (pc := 23) O rfl dX8_years_23 ?_
      refine g_getS (pc := 24) O cls8 fl_X8_107 dX8_years_24 rfl (ltb rfl) (ltb rfl) rfl rfl ?_
      refine g_iloadn (pc := 27) O rfl dX8_years_27 ?_
      refine g_iconst (v := (I 1)) (pc := 28) O rfl dX8_years_28 ?_
      refine g_isub (pc := 29) O dX8_years_29 ?_
      obtain ⟨j3, ej3, bj3, H⟩ := H
      refine g_iald (j := j3) (pc := 30) O dX8_years_30 ej3 rfl (ltb rfl) bj3 (ltb rfl) rfl ?_
      refine g_aloadn (pc := 31) O rfl dX8_years_31 ?_
      refine g_iloadn (pc := 32) O rfl dX8_years_32 ?_
      refine g_iconst (v := (I 1)) (pc := 33) O rfl dX8_years_33 ?_
      refine g_isub (pc := 34) O dX8_years_34 ?_
      refine g_vI [.int (x1 - (I 1))] [.int (h.1 115 j3)] (pc := 35) O mk_X8_later ml_X8_261 im_X8_later se_X8_later cls8 rfl ⟨rfl, rfl, leb rfl, leb rfl⟩ rfl (leb rfl) dX8_years_35 H rfl (fun v4 hv4 H => ?_)
      refine g_iadd (pc := 38) O dX8_years_38 ?_
      exact H
    · replace H := H.2 q2
      refine g_iconst (v := (I 0)) (pc := 19) O rfl dX8_years_19 ?_
      refine g_goto (tgt := 39) (pc := 20) O dX8_years_20 rfl ?_
      exact H
set_option maxRecDepth 20000 in
set_option maxHeartbeats 2000000 in
theorem bX8_years_39 {g : mg} {l : Launch} {X : XT} {Q : AH → Prop} (O : Ok (FF g l X) RX8 cX8_years 3 mX8_years.2.2.2.2 none) {x1 : Int32} {s0 : Int32} {h : AH} (H : ∃ j1 : Nat, x1 = I (j1 : Int) ∧ j1 < 40 ∧ (∃ j2 : Nat, (h.1 113 j1) = I (j2 : Int) ∧ j2 < 12 ∧ (((s0 ≤ (h.1 91 j2)) → (∃ j4 : Nat, x1 = I (j4 : Int) ∧ j4 < 40 ∧ (∃ j5 : Nat, (h.1 113 j4) = I (j5 : Int) ∧ j5 < 12 ∧ (∃ j6 : Nat, x1 = I (j6 : Int) ∧ j6 < 40 ∧ ((((h.1 82 44) = 0) → (GV g l X Q (sI (sI h 115 j6 (h.1 91 j5)) 82 44 (I 0)) 7 [(0, .ref 82), (1, .int (x1 + I 1))] [])) ∧ ((¬ ((h.1 82 44) = 0)) → (∃ j8 : Nat, x1 = I (j8 : Int) ∧ j8 < 40 ∧ (∃ j9 : Nat, x1 = I (j9 : Int) ∧ j9 < 40 ∧ (∃ j10 : Nat, (h.1 113 j9) = I (j10 : Int) ∧ j10 < 12 ∧ ((((h.1 92 j10) < ((sI h 115 j6 (h.1 91 j5)).1 115 j8)) → (GV g l X Q (sI (sI h 115 j6 (h.1 91 j5)) 82 44 (I 0)) 7 [(0, .ref 82), (1, .int (x1 + I 1))] [])) ∧ ((¬ ((h.1 92 j10) < ((sI h 115 j6 (h.1 91 j5)).1 115 j8))) → (GV g l X Q (sI (sI h 115 j6 (h.1 91 j5)) 82 44 (I 1)) 7 [(0, .ref 82), (1, .int (x1 + I 1))] [])))))))))))) ∧ ((¬ (s0 ≤ (h.1 91 j2))) → (∃ j12 : Nat, x1 = I (j12 : Int) ∧ j12 < 40 ∧ ((((h.1 82 44) = 0) → (GV g l X Q (sI (sI h 115 j12 s0) 82 44 (I 0)) 7 [(0, .ref 82), (1, .int (x1 + I 1))] [])) ∧ ((¬ ((h.1 82 44) = 0)) → (∃ j14 : Nat, x1 = I (j14 : Int) ∧ j14 < 40 ∧ (∃ j15 : Nat, x1 = I (j15 : Int) ∧ j15 < 40 ∧ (∃ j16 : Nat, (h.1 113 j15) = I (j16 : Int) ∧ j16 < 12 ∧ ((((h.1 92 j16) < ((sI h 115 j12 s0).1 115 j14)) → (GV g l X Q (sI (sI h 115 j12 s0) 82 44 (I 0)) 7 [(0, .ref 82), (1, .int (x1 + I 1))] [])) ∧ ((¬ ((h.1 92 j16) < ((sI h 115 j12 s0).1 115 j14))) → (GV g l X Q (sI (sI h 115 j12 s0) 82 44 (I 1)) 7 [(0, .ref 82), (1, .int (x1 + I 1))] []))))))))))))) : GV g l X Q h 39 [(0, .ref 82), (1, .int x1)] [.int s0] := by
  refine g_istoren (lv' := [(0, .ref 82), (1, .int x1), (2, .int s0)]) (pc := 39) O dX8_years_39 rfl (ltb rfl) rfl ?_
  refine g_aloadn (pc := 40) O rfl dX8_years_40 ?_
  refine g_getS (pc := 41) O cls8 fl_X8_107 dX8_years_41 rfl (ltb rfl) (ltb rfl) rfl rfl ?_
  refine g_iloadn (pc := 44) O rfl dX8_years_44 ?_
  refine g_iloadn (pc := 45) O rfl dX8_years_45 ?_
  refine g_aloadn (pc := 46) O rfl dX8_years_46 ?_
  refine g_getS (pc := 47) O cls8 fl_X8_34 dX8_years_47 rfl (ltb rfl) (ltb rfl) rfl rfl ?_
  refine g_aloadn (pc := 50) O rfl dX8_years_50 ?_
  refine g_getS (pc := 51) O cls8 fl_X8_101 dX8_years_51 rfl (ltb rfl) (ltb rfl) rfl rfl ?_
  refine g_iloadn (pc := 54) O rfl dX8_years_54 ?_
  obtain ⟨j1, ej1, bj1, H⟩ := H
  refine g_iald (j := j1) (pc := 55) O dX8_years_55 ej1 rfl (ltb rfl) bj1 (ltb rfl) rfl ?_
  obtain ⟨j2, ej2, bj2, H⟩ := H
  refine g_iald (j := j2) (pc := 56) O dX8_years_56 ej2 rfl (ltb rfl) bj2 (ltb rfl) rfl ?_
  refine g_icmp_le (tgt := 64) (pc := 57) O dX8_years_57 rfl (fun q3 => ?_) (fun q3 => ?_)
  · replace H := H.1 q3
    refine g_aloadn (pc := 64) O rfl dX8_years_64 ?_
    refine g_getS (pc := 65) O cls8 fl_X8_34 dX8_years_65 rfl (ltb rfl) (ltb rfl) rfl rfl ?_
    refine g_aloadn (pc := 68) O rfl dX8_years_68 ?_
    refine g_getS (pc := 69) O cls8 fl_X8_101 dX8_years_69 rfl (ltb rfl) (ltb rfl) rfl rfl ?_
    refine g_iloadn (pc := 72) O rfl dX8_years_72 ?_
    obtain ⟨j4, ej4, bj4, H⟩ := H
    refine g_iald (j := j4) (pc := 73) O dX8_years_73 ej4 rfl (ltb rfl) bj4 (ltb rfl) rfl ?_
    obtain ⟨j5, ej5, bj5, H⟩ := H
    refine g_iald (j := j5) (pc := 74) O dX8_years_74 ej5 rfl (ltb rfl) bj5 (ltb rfl) rfl ?_
    obtain ⟨j6, ej6, bj6, H⟩ := H
    refine g_iast (j := j6) (pc := 75) O dX8_years_75 ej6 rfl (ltb rfl) (leb rfl) bj6 (ltb rfl) ?_
    refine g_aloadn (pc := 76) O rfl dX8_years_76 ?_
    refine g_aloadn (pc := 77) O rfl dX8_years_77 ?_
    refine g_getI (v := h.1 82 44) (pc := 78) O cls8 fl_X8_258 dX8_years_78 rfl (ltb rfl) (ltb rfl) rfl rfl ?_
    refine g_if_eq (tgt := 108) (pc := 81) O dX8_years_81 rfl (fun q7 => ?_) (fun q7 => ?_)
    · replace H := H.1 q7
      refine g_iconst (v := (I 0)) (pc := 108) O rfl dX8_years_108 ?_
      refine g_putZ (pc := 109) O cls8 fl_X8_258 dX8_years_109 rfl (ltb rfl) (leb rfl) (ltb rfl) rfl rfl (by decide +kernel) (by decide) ?_
      refine g_iinc (lv' := [(0, .ref 82), (1, .int (x1 + I 1)), (2, .int s0)]) (pc := 112) O dX8_years_112 rfl rfl (ltb rfl) rfl ?_
      refine g_goto (tgt := 7) (pc := 115) O dX8_years_115 rfl ?_
      refine g_sub [0, 1] rfl ?_
      exact H
    · replace H := H.2 q7
      refine g_aloadn (pc := 84) O rfl dX8_years_84 ?_
      refine g_getS (pc := 85) O cls8 fl_X8_107 dX8_years_85 rfl (ltb rfl) (ltb rfl) rfl rfl ?_
      refine g_iloadn (pc := 88) O rfl dX8_years_88 ?_
      obtain ⟨j8, ej8, bj8, H⟩ := H
      refine g_iald (j := j8) (pc := 89) O dX8_years_89 ej8 rfl (ltb rfl) bj8 (ltb rfl) rfl ?_
      refine g_aloadn (pc := 90) O rfl dX8_years_90 ?_
      refine g_getS (pc := 91) O cls8 fl_X8_37 dX8_years_91 rfl (ltb rfl) (ltb rfl) rfl rfl ?_
      refine g_aloadn (pc := 94) O rfl dX8_years_94 ?_
      refine g_getS (pc := 95) O cls8 fl_X8_101 dX8_years_95 rfl (ltb rfl) (ltb rfl) rfl rfl ?_
      refine g_iloadn (pc := 98) O rfl dX8_years_98 ?_
      obtain ⟨j9, ej9, bj9, H⟩ := H
      refine g_iald (j := j9) (pc := 99) O dX8_years_99 ej9 rfl (ltb rfl) bj9 (ltb rfl) rfl ?_
      obtain ⟨j10, ej10, bj10, H⟩ := H
      refine g_iald (j := j10) (pc := 100) O dX8_years_100 ej10 rfl (ltb rfl) bj10 (ltb rfl) rfl ?_
      refine g_icmp_gt (tgt := 108) (pc := 101) O dX8_years_101 rfl (fun q11 => ?_) (fun q11 => ?_)
      · replace H := H.1 q11
        refine g_iconst (v := (I 0)) (pc := 108) O rfl dX8_years_108 ?_
        refine g_putZ (pc := 109) O cls8 fl_X8_258 dX8_years_109 rfl (ltb rfl) (leb rfl) (ltb rfl) rfl rfl (by decide +kernel) (by decide) ?_
        refine g_iinc (lv' := [(0, .ref 82), (1, .int (x1 + I 1)), (2, .int s0)]) (pc := 112) O dX8_years_112 rfl rfl (ltb rfl) rfl ?_
        refine g_goto (tgt := 7) (pc := 115) O dX8_years_115 rfl ?_
        refine g_sub [0, 1] rfl ?_
        exact H
      · replace H := H.2 q11
        refine g_iconst (v := (I 1)) (pc := 104) O rfl dX8_years_104 ?_
        refine g_goto (tgt := 109) (pc := 105) O dX8_years_105 rfl ?_
        refine g_putZ (pc := 109) O cls8 fl_X8_258 dX8_years_109 rfl (ltb rfl) (leb rfl) (ltb rfl) rfl rfl (by decide +kernel) (by decide) ?_
        refine g_iinc (lv' := [(0, .ref 82), (1, .int (x1 + I 1)), (2, .int s0)]) (pc := 112) O dX8_years_112 rfl rfl (ltb rfl) rfl ?_
        refine g_goto (tgt := 7) (pc := 115) O dX8_years_115 rfl ?_
        refine g_sub [0, 1] rfl ?_
        exact H
  · replace H := H.2 q3
    refine g_iloadn (pc := 60) O rfl dX8_years_60 ?_
    refine g_goto (tgt := 75) (pc := 61) O dX8_years_61 rfl ?_
    obtain ⟨j12, ej12, bj12, H⟩ := H
    refine g_iast (j := j12) (pc := 75) O dX8_years_75 ej12 rfl (ltb rfl) (leb rfl) bj12 (ltb rfl) ?_
    refine g_aloadn (pc := 76) O rfl dX8_years_76 ?_
    refine g_aloadn (pc := 77) O rfl dX8_years_77 ?_
    refine g_getI (v := h.1 82 44) (pc := 78) O cls8 fl_X8_258 dX8_years_78 rfl (ltb rfl) (ltb rfl) rfl rfl ?_
    refine g_if_eq (tgt := 108) (pc := 81) O dX8_years_81 rfl (fun q13 => ?_) (fun q13 => ?_)
    · replace H := H.1 q13
      refine g_iconst (v := (I 0)) (pc := 108) O rfl dX8_years_108 ?_
      refine g_putZ (pc := 109) O cls8 fl_X8_258 dX8_years_109 rfl (ltb rfl) (leb rfl) (ltb rfl) rfl rfl (by decide +kernel) (by decide) ?_
      refine g_iinc (lv' := [(0, .ref 82), (1, .int (x1 + I 1)), (2, .int s0)]) (pc := 112) O dX8_years_112 rfl rfl (ltb rfl) rfl ?_
      refine g_goto (tgt := 7) (pc := 115) O dX8_years_115 rfl ?_
      refine g_sub [0, 1] rfl ?_
      exact H
    · replace H := H.2 q13
      refine g_aloadn (pc := 84) O rfl dX8_years_84 ?_
      refine g_getS (pc := 85) O cls8 fl_X8_107 dX8_years_85 rfl (ltb rfl) (ltb rfl) rfl rfl ?_
      refine g_iloadn (pc := 88) O rfl dX8_years_88 ?_
      obtain ⟨j14, ej14, bj14, H⟩ := H
      refine g_iald (j := j14) (pc := 89) O dX8_years_89 ej14 rfl (ltb rfl) bj14 (ltb rfl) rfl ?_
      refine g_aloadn (pc := 90) O rfl dX8_years_90 ?_
      refine g_getS (pc := 91) O cls8 fl_X8_37 dX8_years_91 rfl (ltb rfl) (ltb rfl) rfl rfl ?_
      refine g_aloadn (pc := 94) O rfl dX8_years_94 ?_
      refine g_getS (pc := 95) O cls8 fl_X8_101 dX8_years_95 rfl (ltb rfl) (ltb rfl) rfl rfl ?_
      refine g_iloadn (pc := 98) O rfl dX8_years_98 ?_
      obtain ⟨j15, ej15, bj15, H⟩ := H
      refine g_iald (j := j15) (pc := 99) O dX8_years_99 ej15 rfl (ltb rfl) bj15 (ltb rfl) rfl ?_
      obtain ⟨j16, ej16, bj16, H⟩ := H
      refine g_iald (j := j16) (pc := 100) O dX8_years_100 ej16 rfl (ltb rfl) bj16 (ltb rfl) rfl ?_
      refine g_icmp_gt (tgt := 108) (pc := 101) O dX8_years_101 rfl (fun q17 => ?_) (fun q17 => ?_)
      · replace H := H.1 q17
        refine g_iconst (v := (I 0)) (pc := 108) O rfl dX8_years_108 ?_
        refine g_putZ (pc := 109) O cls8 fl_X8_258 dX8_years_109 rfl (ltb rfl) (leb rfl) (ltb rfl) rfl rfl (by decide +kernel) (by decide) ?_
        refine g_iinc (lv' := [(0, .ref 82), (1, .int (x1 + I 1)), (2, .int s0)]) (pc := 112) O dX8_years_112 rfl rfl (ltb rfl) rfl ?_
        refine g_goto (tgt := 7) (pc := 115) O dX8_years_115 rfl ?_
        refine g_sub [0, 1] rfl ?_
        exact H
      · replace H := H.2 q17
        refine g_iconst (v := (I 1)) (pc := 104) O rfl dX8_years_104 ?_
        refine g_goto (tgt := 109) (pc := 105) O dX8_years_105 rfl ?_
        refine g_putZ (pc := 109) O cls8 fl_X8_258 dX8_years_109 rfl (ltb rfl) (leb rfl) (ltb rfl) rfl rfl (by decide +kernel) (by decide) ?_
        refine g_iinc (lv' := [(0, .ref 82), (1, .int (x1 + I 1)), (2, .int s0)]) (pc := 112) O dX8_years_112 rfl rfl (ltb rfl) rfl ?_
        refine g_goto (tgt := 7) (pc := 115) O dX8_years_115 rfl ?_
        refine g_sub [0, 1] rfl ?_
        exact H
set_option maxRecDepth 20000 in
set_option maxHeartbeats 2000000 in
theorem bX8_years_125 {g : mg} {l : Launch} {X : XT} {Q : AH → Prop} (O : Ok (FF g l X) RX8 cX8_years 3 mX8_years.2.2.2.2 none) {x1 : Int32} {h : AH} (H : ((x1 < 0) → (Q h)) ∧ ((¬ (x1 < 0)) → (((¬ x1 = ((h.1 82 38) - (I 1))) → (∃ j3 : Nat, (x1 + (I 1)) = I (j3 : Int) ∧ j3 < 40 ∧ (SpI g l mX8_later h [.ref 82, .int x1] (fun v4 hv4 => ∃ j5 : Nat, x1 = I (j5 : Int) ∧ j5 < 40 ∧ (∃ j6 : Nat, (hv4.1 113 j5) = I (j6 : Int) ∧ j6 < 12 ∧ ((((hv4.1 92 j6) ≤ ((h.1 116 j3) - v4)) → (∃ j8 : Nat, x1 = I (j8 : Int) ∧ j8 < 40 ∧ (∃ j9 : Nat, (hv4.1 113 j8) = I (j9 : Int) ∧ j9 < 12 ∧ (∃ j10 : Nat, x1 = I (j10 : Int) ∧ j10 < 40 ∧ (GV g l X Q (sI hv4 116 j10 (hv4.1 92 j9)) 125 [(0, .ref 82), (1, .int (x1 + I (-1)))] []))))) ∧ ((¬ ((hv4.1 92 j6) ≤ ((h.1 116 j3) - v4))) → (∃ j11 : Nat, x1 = I (j11 : Int) ∧ j11 < 40 ∧ (GV g l X Q (sI hv4 116 j11 ((h.1 116 j3) - v4)) 125 [(0, .ref 82), (1, .int (x1 + I (-1)))] []))))))))) ∧ ((x1 = ((h.1 82 38) - (I 1))) → (∃ j12 : Nat, x1 = I (j12 : Int) ∧ j12 < 40 ∧ (∃ j13 : Nat, (h.1 113 j12) = I (j13 : Int) ∧ j13 < 12 ∧ ((((h.1 92 j13) ≤ (I 999)) → (∃ j15 : Nat, x1 = I (j15 : Int) ∧ j15 < 40 ∧ (∃ j16 : Nat, (h.1 113 j15) = I (j16 : Int) ∧ j16 < 12 ∧ (∃ j17 : Nat, x1 = I (j17 : Int) ∧ j17 < 40 ∧ (GV g l X Q (sI h 116 j17 (h.1 92 j16)) 125 [(0, .ref 82), (1, .int (x1 + I (-1)))] []))))) ∧ ((¬ ((h.1 92 j13) ≤ (I 999))) → (∃ j18 : Nat, x1 = I (j18 : Int) ∧ j18 < 40 ∧ (GV g l X Q (sI h 116 j18 (I 999)) 125 [(0, .ref 82), (1, .int (x1 + I (-1)))] [])))))))))) : GV g l X Q h 125 [(0, .ref 82), (1, .int x1)] [] := by
  refine g_iloadn (pc := 125) O rfl dX8_years_125 ?_
  refine g_if_lt (tgt := 202) (pc := 126) O dX8_years_126 rfl (fun q1 => ?_) (fun q1 => ?_)
  · replace H := H.1 q1
    exact g_vret (pc := 202) O dX8_years_202 H
  · replace H := H.2 q1
    refine g_iloadn (pc := 129) O rfl dX8_years_129 ?_
    refine g_aloadn (pc := 130) O rfl dX8_years_130 ?_
    refine g_getI (v := h.1 82 38) (pc := 131) O cls8 fl_X8_235 dX8_years_131 rfl (ltb rfl) (ltb rfl) rfl rfl ?_
    refine g_iconst (v := (I 1)) (pc := 134) O rfl dX8_years_134 ?_
    refine g_isub (pc := 135) O dX8_years_135 ?_
    refine g_icmp_ne (tgt := 145) (pc := 136) O dX8_years_136 rfl (fun q2 => ?_) (fun q2 => ?_)
    · replace H := H.1 q2
      refine g_aloadn (pc := 145) O rfl dX8_years_145 ?_
      refine g_getS (pc := 146) O cls8 fl_X8_110 dX8_years_146 rfl (ltb rfl) (ltb rfl) rfl rfl ?_
      refine g_iloadn (pc := 149) O rfl dX8_years_149 ?_
      refine g_iconst (v := (I 1)) (pc := 150) O rfl dX8_years_150 ?_
      refine g_iadd (pc := 151) O dX8_years_151 ?_
      obtain ⟨j3, ej3, bj3, H⟩ := H
      refine g_iald (j := j3) (pc := 152) O dX8_years_152 ej3 rfl (ltb rfl) bj3 (ltb rfl) rfl ?_
      refine g_aloadn (pc := 153) O rfl dX8_years_153 ?_
      refine g_iloadn (pc := 154) O rfl dX8_years_154 ?_
      refine g_vI [.int x1] [.int (h.1 116 j3)] (pc := 155) O mk_X8_later ml_X8_261 im_X8_later se_X8_later cls8 rfl ⟨rfl, rfl, leb rfl, leb rfl⟩ rfl (leb rfl) dX8_years_155 H rfl (fun v4 hv4 H => ?_)
      refine g_isub (pc := 158) O dX8_years_158 ?_
      refine g_istoren (lv' := [(0, .ref 82), (1, .int x1), (2, .int ((h.1 116 j3) - v4))]) (pc := 159) O dX8_years_159 rfl (ltb rfl) rfl ?_
      refine g_aloadn (pc := 160) O rfl dX8_years_160 ?_
      refine g_getS (pc := 161) O cls8 fl_X8_110 dX8_years_161 rfl (ltb rfl) (ltb rfl) rfl rfl ?_
      refine g_iloadn (pc := 164) O rfl dX8_years_164 ?_
      refine g_iloadn (pc := 165) O rfl dX8_years_165 ?_
      refine g_aloadn (pc := 166) O rfl dX8_years_166 ?_
      refine g_getS (pc := 167) O cls8 fl_X8_37 dX8_years_167 rfl (ltb rfl) (ltb rfl) rfl rfl ?_
      refine g_aloadn (pc := 170) O rfl dX8_years_170 ?_
      refine g_getS (pc := 171) O cls8 fl_X8_101 dX8_years_171 rfl (ltb rfl) (ltb rfl) rfl rfl ?_
      refine g_iloadn (pc := 174) O rfl dX8_years_174 ?_
      obtain ⟨j5, ej5, bj5, H⟩ := H
      refine g_iald (j := j5) (pc := 175) O dX8_years_175 ej5 rfl (ltb rfl) bj5 (ltb rfl) rfl ?_
      obtain ⟨j6, ej6, bj6, H⟩ := H
      refine g_iald (j := j6) (pc := 176) O dX8_years_176 ej6 rfl (ltb rfl) bj6 (ltb rfl) rfl ?_
      refine g_icmp_ge (tgt := 184) (pc := 177) O dX8_years_177 rfl (fun q7 => ?_) (fun q7 => ?_)
      · replace H := H.1 q7
        refine g_aloadn (pc := 184) O rfl dX8_years_184 ?_
        refine g_getS (pc := 185) O cls8 fl_X8_37 dX8_years_185 rfl (ltb rfl) (ltb rfl) rfl rfl ?_
        refine g_aloadn (pc := 188) O rfl dX8_years_188 ?_
        refine g_getS (pc := 189) O cls8 fl_X8_101 dX8_years_189 rfl (ltb rfl) (ltb rfl) rfl rfl ?_
        refine g_iloadn (pc := 192) O rfl dX8_years_192 ?_
        obtain ⟨j8, ej8, bj8, H⟩ := H
        refine g_iald (j := j8) (pc := 193) O dX8_years_193 ej8 rfl (ltb rfl) bj8 (ltb rfl) rfl ?_
        obtain ⟨j9, ej9, bj9, H⟩ := H
        refine g_iald (j := j9) (pc := 194) O dX8_years_194 ej9 rfl (ltb rfl) bj9 (ltb rfl) rfl ?_
        obtain ⟨j10, ej10, bj10, H⟩ := H
        refine g_iast (j := j10) (pc := 195) O dX8_years_195 ej10 rfl (ltb rfl) (leb rfl) bj10 (ltb rfl) ?_
        refine g_iinc (lv' := [(0, .ref 82), (1, .int (x1 + I (-1))), (2, .int ((h.1 116 j3) - v4))]) (pc := 196) O dX8_years_196 rfl rfl (ltb rfl) rfl ?_
        refine g_goto (tgt := 125) (pc := 199) O dX8_years_199 rfl ?_
        refine g_sub [0, 1] rfl ?_
        exact H
      · replace H := H.2 q7
        refine g_iloadn (pc := 180) O rfl dX8_years_180 ?_
        refine g_goto (tgt := 195) (pc := 181) O dX8_years_181 rfl ?_
        obtain ⟨j11, ej11, bj11, H⟩ := H
        refine g_iast (j := j11) (pc := 195) O dX8_years_195 ej11 rfl (ltb rfl) (leb rfl) bj11 (ltb rfl) ?_
        refine g_iinc (lv' := [(0, .ref 82), (1, .int (x1 + I (-1))), (2, .int ((h.1 116 j3) - v4))]) (pc := 196) O dX8_years_196 rfl rfl (ltb rfl) rfl ?_
        refine g_goto (tgt := 125) (pc := 199) O dX8_years_199 rfl ?_
        refine g_sub [0, 1] rfl ?_
        exact H
    · replace H := H.2 q2
      refine g_sipush (v := (I 999)) (pc := 139) O (by decide) dX8_years_139 ?_
      refine g_goto (tgt := 159) (pc := 142) O dX8_years_142 rfl ?_
      refine g_istoren (lv' := [(0, .ref 82), (1, .int x1), (2, .int (I 999))]) (pc := 159) O dX8_years_159 rfl (ltb rfl) rfl ?_
      refine g_aloadn (pc := 160) O rfl dX8_years_160 ?_
      refine g_getS (pc := 161) O cls8 fl_X8_110 dX8_years_161 rfl (ltb rfl) (ltb rfl) rfl rfl ?_
      refine g_iloadn (pc := 164) O rfl dX8_years_164 ?_
      refine g_iloadn (pc := 165) O rfl dX8_years_165 ?_
      refine g_aloadn (pc := 166) O rfl dX8_years_166 ?_
      refine g_getS (pc := 167) O cls8 fl_X8_37 dX8_years_167 rfl (ltb rfl) (ltb rfl) rfl rfl ?_
      refine g_aloadn (pc := 170) O rfl dX8_years_170 ?_
      refine g_getS (pc := 171) O cls8 fl_X8_101 dX8_years_171 rfl (ltb rfl) (ltb rfl) rfl rfl ?_
      refine g_iloadn (pc := 174) O rfl dX8_years_174 ?_
      obtain ⟨j12, ej12, bj12, H⟩ := H
      refine g_iald (j := j12) (pc := 175) O dX8_years_175 ej12 rfl (ltb rfl) bj12 (ltb rfl) rfl ?_
      obtain ⟨j13, ej13, bj13, H⟩ := H
      refine g_iald (j := j13) (pc := 176) O dX8_years_176 ej13 rfl (ltb rfl) bj13 (ltb rfl) rfl ?_
      refine g_icmp_ge (tgt := 184) (pc := 177) O dX8_years_177 rfl (fun q14 => ?_) (fun q14 => ?_)
      · replace H := H.1 q14
        refine g_aloadn (pc := 184) O rfl dX8_years_184 ?_
        refine g_getS (pc := 185) O cls8 fl_X8_37 dX8_years_185 rfl (ltb rfl) (ltb rfl) rfl rfl ?_
        refine g_aloadn (pc := 188) O rfl dX8_years_188 ?_
        refine g_getS (pc := 189) O cls8 fl_X8_101 dX8_years_189 rfl (ltb rfl) (ltb rfl) rfl rfl ?_
        refine g_iloadn (pc := 192) O rfl dX8_years_192 ?_
        obtain ⟨j15, ej15, bj15, H⟩ := H
        refine g_iald (j := j15) (pc := 193) O dX8_years_193 ej15 rfl (ltb rfl) bj15 (ltb rfl) rfl ?_
        obtain ⟨j16, ej16, bj16, H⟩ := H
        refine g_iald (j := j16) (pc := 194) O dX8_years_194 ej16 rfl (ltb rfl) bj16 (ltb rfl) rfl ?_
        obtain ⟨j17, ej17, bj17, H⟩ := H
        refine g_iast (j := j17) (pc := 195) O dX8_years_195 ej17 rfl (ltb rfl) (leb rfl) bj17 (ltb rfl) ?_
        refine g_iinc (lv' := [(0, .ref 82), (1, .int (x1 + I (-1))), (2, .int (I 999))]) (pc := 196) O dX8_years_196 rfl rfl (ltb rfl) rfl ?_
        refine g_goto (tgt := 125) (pc := 199) O dX8_years_199 rfl ?_
        refine g_sub [0, 1] rfl ?_
        exact H
      · replace H := H.2 q14
        refine g_iloadn (pc := 180) O rfl dX8_years_180 ?_
        refine g_goto (tgt := 195) (pc := 181) O dX8_years_181 rfl ?_
        obtain ⟨j18, ej18, bj18, H⟩ := H
        refine g_iast (j := j18) (pc := 195) O dX8_years_195 ej18 rfl (ltb rfl) (leb rfl) bj18 (ltb rfl) ?_
        refine g_iinc (lv' := [(0, .ref 82), (1, .int (x1 + I (-1))), (2, .int (I 999))]) (pc := 196) O dX8_years_196 rfl rfl (ltb rfl) rfl ?_
        refine g_goto (tgt := 125) (pc := 199) O dX8_years_199 rfl ?_
        refine g_sub [0, 1] rfl ?_
        exact H
set_option maxRecDepth 20000 in
set_option maxHeartbeats 2000000 in
theorem sX8_years {g : mg} {l : Launch} {Q : AH → Prop}  {h : AH} (H : ∀ X, Ok (FF g l X) RX8 cX8_years 3 mX8_years.2.2.2.2 none → GV g l X Q (sI h 82 44 (I 1)) 7 [(0, .ref 82), (1, .int (I 0))] []) : SpV g l mX8_years h [.ref 82] Q := spV_of (by decide) (leb rfl) (fun X O => bX8_years_0 O (H X O))
set_option maxRecDepth 20000 in
set_option maxHeartbeats 2000000 in
theorem bX8_span_0 {g : mg} {l : Launch} {X : XT} {Q : Int32 → AH → Prop} (O : Ok (FF g l X) RX8 cX8_span 3 mX8_span.2.2.2.2 (some .int)) {x1 : Int32} {x2 : Int32} {h : AH} (H : SpV g l mX8_make h [.ref 82] (fun hv1 => SpI g l mX8_in hv1 [.int x1, .int (I 0), .int ((hv1.1 82 38) - (I 1))] (fun v2 hv2 => ((v2 = 0) → (Q (I (-1)) hv2)) ∧ ((¬ (v2 = 0)) → (SpI g l mX8_in hv2 [.int x2, .int (I 0), .int (I 1)] (fun v4 hv4 => ((¬ v4 = 0) → (((¬ (hv4.1 82 44) = 0) → (((¬ x2 = 0) → (∃ j8 : Nat, x1 = I (j8 : Int) ∧ j8 < 40 ∧ (Q (hv4.1 116 j8) hv4))) ∧ ((x2 = 0) → (∃ j9 : Nat, x1 = I (j9 : Int) ∧ j9 < 40 ∧ (Q (hv4.1 115 j9) hv4))))) ∧ (((hv4.1 82 44) = 0) → (Q (I (-9)) hv4)))) ∧ ((v4 = 0) → (Q (I (-1)) hv4)))))))) : GI g l X Q h 0 [(0, .ref 82), (1, .int x1), (2, .int x2)] [] := by
  refine g_aloadn (pc := 0) O rfl dX8_span_0 ?_
  refine g_vV [] [] (pc := 1) O mk_X8_make ml_X8_205 im_X8_make se_X8_make cls8 rfl ⟨rfl, rfl, leb rfl, leb rfl⟩ rfl (leb rfl) dX8_span_1 H rfl (fun hv1 H => ?_)
  refine g_iloadn (pc := 4) O rfl dX8_span_4 ?_
  refine g_iconst (v := (I 0)) (pc := 5) O rfl dX8_span_5 ?_
  refine g_aloadn (pc := 6) O rfl dX8_span_6 ?_
  refine g_getI (v := hv1.1 82 38) (pc := 7) O cls8 fl_X8_235 dX8_span_7 rfl (ltb rfl) (ltb rfl) rfl rfl ?_
  refine g_iconst (v := (I 1)) (pc := 10) O rfl dX8_span_10 ?_
  refine g_isub (pc := 11) O dX8_span_11 ?_
  refine g_sI [.int x1, .int (I 0), .int ((hv1.1 82 38) - (I 1))] [] (pc := 12) O mk_X8_in ml_X8_116 sm_X8_in ⟨rfl, rfl, leb rfl, leb rfl⟩ rfl (leb rfl) dX8_span_12 H rfl (fun v2 hv2 H => ?_)
  refine g_if_eq (tgt := 27) (pc := 15) O dX8_span_15 rfl (fun q3 => ?_) (fun q3 => ?_)
  · replace H := H.1 q3
    refine g_iconst (v := (I (-1))) (pc := 27) O rfl dX8_span_27 ?_
    exact g_iret (pc := 28) O dX8_span_28 H
  · replace H := H.2 q3
    refine g_iloadn (pc := 18) O rfl dX8_span_18 ?_
    refine g_iconst (v := (I 0)) (pc := 19) O rfl dX8_span_19 ?_
    refine g_iconst (v := (I 1)) (pc := 20) O rfl dX8_span_20 ?_
    refine g_sI [.int x2, .int (I 0), .int (I 1)] [] (pc := 21) O mk_X8_in ml_X8_116 sm_X8_in ⟨rfl, rfl, leb rfl, leb rfl⟩ rfl (leb rfl) dX8_span_21 H rfl (fun v4 hv4 H => ?_)
    refine g_if_ne (tgt := 29) (pc := 24) O dX8_span_24 rfl (fun q5 => ?_) (fun q5 => ?_)
    · replace H := H.1 q5
      refine g_aloadn (pc := 29) O rfl dX8_span_29 ?_
      refine g_getI (v := hv4.1 82 44) (pc := 30) O cls8 fl_X8_258 dX8_span_30 rfl (ltb rfl) (ltb rfl) rfl rfl ?_
      refine g_if_ne (tgt := 41) (pc := 33) O dX8_span_33 rfl (fun q6 => ?_) (fun q6 => ?_)
      · replace H := H.1 q6
        refine g_iloadn (pc := 41) O rfl dX8_span_41 ?_
        refine g_if_ne (tgt := 54) (pc := 42) O dX8_span_42 rfl (fun q7 => ?_) (fun q7 => ?_)
        · replace H := H.1 q7
          refine g_aloadn (pc := 54) O rfl dX8_span_54 ?_
          refine g_getS (pc := 55) O cls8 fl_X8_110 dX8_span_55 rfl (ltb rfl) (ltb rfl) rfl rfl ?_
          refine g_iloadn (pc := 58) O rfl dX8_span_58 ?_
          obtain ⟨j8, ej8, bj8, H⟩ := H
          refine g_iald (j := j8) (pc := 59) O dX8_span_59 ej8 rfl (ltb rfl) bj8 (ltb rfl) rfl ?_
          exact g_iret (pc := 60) O dX8_span_60 H
        · replace H := H.2 q7
          refine g_aloadn (pc := 45) O rfl dX8_span_45 ?_
          refine g_getS (pc := 46) O cls8 fl_X8_107 dX8_span_46 rfl (ltb rfl) (ltb rfl) rfl rfl ?_
          refine g_iloadn (pc := 49) O rfl dX8_span_49 ?_
          obtain ⟨j9, ej9, bj9, H⟩ := H
          refine g_iald (j := j9) (pc := 50) O dX8_span_50 ej9 rfl (ltb rfl) bj9 (ltb rfl) rfl ?_
          refine g_goto (tgt := 60) (pc := 51) O dX8_span_51 rfl ?_
          exact g_iret (pc := 60) O dX8_span_60 H
      · replace H := H.2 q6
        refine g_bipush (v := (I (-9))) (pc := 36) O (by decide) dX8_span_36 ?_
        refine g_goto (tgt := 60) (pc := 38) O dX8_span_38 rfl ?_
        exact g_iret (pc := 60) O dX8_span_60 H
    · replace H := H.2 q5
      refine g_iconst (v := (I (-1))) (pc := 27) O rfl dX8_span_27 ?_
      exact g_iret (pc := 28) O dX8_span_28 H
set_option maxRecDepth 20000 in
set_option maxHeartbeats 2000000 in
theorem sX8_span {g : mg} {l : Launch} {Q : Int32 → AH → Prop} {x1 : Int32} {x2 : Int32} {h : AH} (H : SpV g l mX8_make h [.ref 82] (fun hv1 => SpI g l mX8_in hv1 [.int x1, .int (I 0), .int ((hv1.1 82 38) - (I 1))] (fun v2 hv2 => ((v2 = 0) → (Q (I (-1)) hv2)) ∧ ((¬ (v2 = 0)) → (SpI g l mX8_in hv2 [.int x2, .int (I 0), .int (I 1)] (fun v4 hv4 => ((¬ v4 = 0) → (((¬ (hv4.1 82 44) = 0) → (((¬ x2 = 0) → (∃ j8 : Nat, x1 = I (j8 : Int) ∧ j8 < 40 ∧ (Q (hv4.1 116 j8) hv4))) ∧ ((x2 = 0) → (∃ j9 : Nat, x1 = I (j9 : Int) ∧ j9 < 40 ∧ (Q (hv4.1 115 j9) hv4))))) ∧ (((hv4.1 82 44) = 0) → (Q (I (-9)) hv4)))) ∧ ((v4 = 0) → (Q (I (-1)) hv4)))))))) : SpI g l mX8_span h [.ref 82, .int x1, .int x2] Q := spI_of (by decide) (leb rfl) (fun X O => bX8_span_0 O H)
set_option maxRecDepth 20000 in
set_option maxHeartbeats 2000000 in
theorem bX8_day_0 {g : mg} {l : Launch} {X : XT} {Q : Int32 → AH → Prop} (O : Ok (FF g l X) RX8 cX8_day 6 mX8_day.2.2.2.2 (some .int)) {x1 : Int32} {x2 : Int32} {h : AH} (H : SpI g l mX8_isChipAt h [.ref 82, .int x1] (fun v1 hv1 => ((v1 = 0) → (Q (I (-1)) hv1)) ∧ ((¬ (v1 = 0)) → (SpI g l mX8_in hv1 [.int x2, .int (I 0), .int (I 999)] (fun v3 hv3 => ((¬ v3 = 0) → (SpV g l mX8_make hv3 [.ref 82] (fun hv5 => ((¬ (hv5.1 82 44) = 0) → (∃ j7 : Nat, ((I 10) * x1) = I (j7 : Int) ∧ j7 < 40 ∧ (∃ j8 : Nat, (hv5.1 114 j7) = I (j8 : Int) ∧ j8 < 40 ∧ ((((hv5.1 116 j8) ≤ x2) → (GI g l X Q hv5 63 [(0, .ref 82), (1, .int x1), (2, .int x2), (3, .int (I 0)), (4, .int (I 0))] [])) ∧ ((¬ ((hv5.1 116 j8) ≤ x2)) → (GI g l X Q hv5 63 [(0, .ref 82), (1, .int x1), (2, .int x2), (3, .int (I 1024)), (4, .int (I 0))] [])))))) ∧ (((hv5.1 82 44) = 0) → (Q (I 0) hv5))))) ∧ ((v3 = 0) → (Q (I (-1)) hv3))))))) : GI g l X Q h 0 [(0, .ref 82), (1, .int x1), (2, .int x2)] [] := by
  refine g_aloadn (pc := 0) O rfl dX8_day_0 ?_
  refine g_iloadn (pc := 1) O rfl dX8_day_1 ?_
  refine g_vI [.int x1] [] (pc := 2) O mk_X8_isChipAt ml_X8_199 im_X8_isChipAt se_X8_isChipAt cls8 rfl ⟨rfl, rfl, leb rfl, leb rfl⟩ rfl (leb rfl) dX8_day_2 H rfl (fun v1 hv1 H => ?_)
  refine g_if_eq (tgt := 19) (pc := 5) O dX8_day_5 rfl (fun q2 => ?_) (fun q2 => ?_)
  · replace H := H.1 q2
    refine g_iconst (v := (I (-1))) (pc := 19) O rfl dX8_day_19 ?_
    exact g_iret (pc := 20) O dX8_day_20 H
  · replace H := H.2 q2
    refine g_iloadn (pc := 8) O rfl dX8_day_8 ?_
    refine g_iconst (v := (I 0)) (pc := 9) O rfl dX8_day_9 ?_
    refine g_sipush (v := (I 999)) (pc := 10) O (by decide) dX8_day_10 ?_
    refine g_sI [.int x2, .int (I 0), .int (I 999)] [] (pc := 13) O mk_X8_in ml_X8_116 sm_X8_in ⟨rfl, rfl, leb rfl, leb rfl⟩ rfl (leb rfl) dX8_day_13 H rfl (fun v3 hv3 H => ?_)
    refine g_if_ne (tgt := 21) (pc := 16) O dX8_day_16 rfl (fun q4 => ?_) (fun q4 => ?_)
    · replace H := H.1 q4
      refine g_aloadn (pc := 21) O rfl dX8_day_21 ?_
      refine g_vV [] [] (pc := 22) O mk_X8_make ml_X8_205 im_X8_make se_X8_make cls8 rfl ⟨rfl, rfl, leb rfl, leb rfl⟩ rfl (leb rfl) dX8_day_22 H rfl (fun hv5 H => ?_)
      refine g_aloadn (pc := 25) O rfl dX8_day_25 ?_
      refine g_getI (v := hv5.1 82 44) (pc := 26) O cls8 fl_X8_258 dX8_day_26 rfl (ltb rfl) (ltb rfl) rfl rfl ?_
      refine g_if_ne (tgt := 34) (pc := 29) O dX8_day_29 rfl (fun q6 => ?_) (fun q6 => ?_)
      · replace H := H.1 q6
        refine g_aloadn (pc := 34) O rfl dX8_day_34 ?_
        refine g_getS (pc := 35) O cls8 fl_X8_110 dX8_day_35 rfl (ltb rfl) (ltb rfl) rfl rfl ?_
        refine g_aloadn (pc := 38) O rfl dX8_day_38 ?_
        refine g_getS (pc := 39) O cls8 fl_X8_104 dX8_day_39 rfl (ltb rfl) (ltb rfl) rfl rfl ?_
        refine g_bipush (v := (I 10)) (pc := 42) O (by decide) dX8_day_42 ?_
        refine g_iloadn (pc := 44) O rfl dX8_day_44 ?_
        refine g_imul (pc := 45) O dX8_day_45 ?_
        obtain ⟨j7, ej7, bj7, H⟩ := H
        refine g_iald (j := j7) (pc := 46) O dX8_day_46 ej7 rfl (ltb rfl) bj7 (ltb rfl) rfl ?_
        obtain ⟨j8, ej8, bj8, H⟩ := H
        refine g_iald (j := j8) (pc := 47) O dX8_day_47 ej8 rfl (ltb rfl) bj8 (ltb rfl) rfl ?_
        refine g_iloadn (pc := 48) O rfl dX8_day_48 ?_
        refine g_icmp_le (tgt := 58) (pc := 49) O dX8_day_49 rfl (fun q9 => ?_) (fun q9 => ?_)
        · replace H := H.1 q9
          refine g_iconst (v := (I 0)) (pc := 58) O rfl dX8_day_58 ?_
          refine g_istoren (lv' := [(0, .ref 82), (1, .int x1), (2, .int x2), (3, .int (I 0))]) (pc := 59) O dX8_day_59 rfl (ltb rfl) rfl ?_
          refine g_iconst (v := (I 0)) (pc := 60) O rfl dX8_day_60 ?_
          refine g_istore (lv' := [(0, .ref 82), (1, .int x1), (2, .int x2), (3, .int (I 0)), (4, .int (I 0))]) (pc := 61) O dX8_day_61 (ltb rfl) rfl ?_
          exact H
        · replace H := H.2 q9
          refine g_sipush (v := (I 1024)) (pc := 52) O (by decide) dX8_day_52 ?_
          refine g_goto (tgt := 59) (pc := 55) O dX8_day_55 rfl ?_
          refine g_istoren (lv' := [(0, .ref 82), (1, .int x1), (2, .int x2), (3, .int (I 1024))]) (pc := 59) O dX8_day_59 rfl (ltb rfl) rfl ?_
          refine g_iconst (v := (I 0)) (pc := 60) O rfl dX8_day_60 ?_
          refine g_istore (lv' := [(0, .ref 82), (1, .int x1), (2, .int x2), (3, .int (I 1024)), (4, .int (I 0))]) (pc := 61) O dX8_day_61 (ltb rfl) rfl ?_
          exact H
      · replace H := H.2 q6
        refine g_iconst (v := (I 0)) (pc := 32) O rfl dX8_day_32 ?_
        exact g_iret (pc := 33) O dX8_day_33 H
    · replace H := H.2 q4
      refine g_iconst (v := (I (-1))) (pc := 19) O rfl dX8_day_19 ?_
      exact g_iret (pc := 20) O dX8_day_20 H
set_option maxRecDepth 20000 in
set_option maxHeartbeats 2000000 in
theorem bX8_day_63 {g : mg} {l : Launch} {X : XT} {Q : Int32 → AH → Prop} (O : Ok (FF g l X) RX8 cX8_day 6 mX8_day.2.2.2.2 (some .int)) {x1 : Int32} {x2 : Int32} {x3 : Int32} {x4 : Int32} {h : AH} (H : ∃ j1 : Nat, x1 = I (j1 : Int) ∧ j1 < 4 ∧ ((((h.1 86 j1) ≤ x4) → (Q x3 h)) ∧ ((¬ ((h.1 86 j1) ≤ x4)) → (∃ j3 : Nat, (((I 10) * x1) + x4) = I (j3 : Int) ∧ j3 < 40 ∧ (∃ j4 : Nat, (h.1 114 j3) = I (j4 : Int) ∧ j4 < 40 ∧ (((x2 < (h.1 115 j4)) → (GI g l X Q h 135 [(0, .ref 82), (1, .int x1), (2, .int x2), (3, .int x3), (4, .int x4)] [])) ∧ ((¬ (x2 < (h.1 115 j4))) → (∃ j6 : Nat, x1 = I (j6 : Int) ∧ j6 < 4 ∧ (((x4 = ((h.1 86 j6) - (I 1))) → (GI g l X Q h 131 [(0, .ref 82), (1, .int x1), (2, .int x2), (3, .int x3), (4, .int x4)] [])) ∧ ((¬ (x4 = ((h.1 86 j6) - (I 1)))) → (∃ j8 : Nat, ((((I 10) * x1) + x4) + (I 1)) = I (j8 : Int) ∧ j8 < 40 ∧ (∃ j9 : Nat, (h.1 114 j8) = I (j9 : Int) ∧ j9 < 40 ∧ ((((h.1 116 j9) ≤ x2) → (GI g l X Q h 135 [(0, .ref 82), (1, .int x1), (2, .int x2), (3, .int x3), (4, .int x4)] [])) ∧ ((¬ ((h.1 116 j9) ≤ x2)) → (GI g l X Q h 131 [(0, .ref 82), (1, .int x1), (2, .int x2), (3, .int x3), (4, .int x4)] []))))))))))))))) : GI g l X Q h 63 [(0, .ref 82), (1, .int x1), (2, .int x2), (3, .int x3), (4, .int x4)] [] := by
  refine g_iload (pc := 63) O rfl dX8_day_63 ?_
  refine g_aloadn (pc := 65) O rfl dX8_day_65 ?_
  refine g_getS (pc := 66) O cls8 fl_X8_19 dX8_day_66 rfl (ltb rfl) (ltb rfl) rfl rfl ?_
  refine g_iloadn (pc := 69) O rfl dX8_day_69 ?_
  obtain ⟨j1, ej1, bj1, H⟩ := H
  refine g_iald (j := j1) (pc := 70) O dX8_day_70 ej1 rfl (ltb rfl) bj1 (ltb rfl) rfl ?_
  refine g_icmp_ge (tgt := 160) (pc := 71) O dX8_day_71 rfl (fun q2 => ?_) (fun q2 => ?_)
  · replace H := H.1 q2
    refine g_iloadn (pc := 160) O rfl dX8_day_160 ?_
    exact g_iret (pc := 161) O dX8_day_161 H
  · replace H := H.2 q2
    refine g_aloadn (pc := 74) O rfl dX8_day_74 ?_
    refine g_getS (pc := 75) O cls8 fl_X8_107 dX8_day_75 rfl (ltb rfl) (ltb rfl) rfl rfl ?_
    refine g_aloadn (pc := 78) O rfl dX8_day_78 ?_
    refine g_getS (pc := 79) O cls8 fl_X8_104 dX8_day_79 rfl (ltb rfl) (ltb rfl) rfl rfl ?_
    refine g_bipush (v := (I 10)) (pc := 82) O (by decide) dX8_day_82 ?_
    refine g_iloadn (pc := 84) O rfl dX8_day_84 ?_
    refine g_imul (pc := 85) O dX8_day_85 ?_
    refine g_iload (pc := 86) O rfl dX8_day_86 ?_
    refine g_iadd (pc := 88) O dX8_day_88 ?_
    obtain ⟨j3, ej3, bj3, H⟩ := H
    refine g_iald (j := j3) (pc := 89) O dX8_day_89 ej3 rfl (ltb rfl) bj3 (ltb rfl) rfl ?_
    obtain ⟨j4, ej4, bj4, H⟩ := H
    refine g_iald (j := j4) (pc := 90) O dX8_day_90 ej4 rfl (ltb rfl) bj4 (ltb rfl) rfl ?_
    refine g_iloadn (pc := 91) O rfl dX8_day_91 ?_
    refine g_icmp_gt (tgt := 135) (pc := 92) O dX8_day_92 rfl (fun q5 => ?_) (fun q5 => ?_)
    · replace H := H.1 q5
      exact H
    · replace H := H.2 q5
      refine g_iload (pc := 95) O rfl dX8_day_95 ?_
      refine g_aloadn (pc := 97) O rfl dX8_day_97 ?_
      refine g_getS (pc := 98) O cls8 fl_X8_19 dX8_day_98 rfl (ltb rfl) (ltb rfl) rfl rfl ?_
      refine g_iloadn (pc := 101) O rfl dX8_day_101 ?_
      obtain ⟨j6, ej6, bj6, H⟩ := H
      refine g_iald (j := j6) (pc := 102) O dX8_day_102 ej6 rfl (ltb rfl) bj6 (ltb rfl) rfl ?_
      refine g_iconst (v := (I 1)) (pc := 103) O rfl dX8_day_103 ?_
      refine g_isub (pc := 104) O dX8_day_104 ?_
      refine g_icmp_eq (tgt := 131) (pc := 105) O dX8_day_105 rfl (fun q7 => ?_) (fun q7 => ?_)
      · replace H := H.1 q7
        exact H
      · replace H := H.2 q7
        refine g_aloadn (pc := 108) O rfl dX8_day_108 ?_
        refine g_getS (pc := 109) O cls8 fl_X8_110 dX8_day_109 rfl (ltb rfl) (ltb rfl) rfl rfl ?_
        refine g_aloadn (pc := 112) O rfl dX8_day_112 ?_
        refine g_getS (pc := 113) O cls8 fl_X8_104 dX8_day_113 rfl (ltb rfl) (ltb rfl) rfl rfl ?_
        refine g_bipush (v := (I 10)) (pc := 116) O (by decide) dX8_day_116 ?_
        refine g_iloadn (pc := 118) O rfl dX8_day_118 ?_
        refine g_imul (pc := 119) O dX8_day_119 ?_
        refine g_iload (pc := 120) O rfl dX8_day_120 ?_
        refine g_iadd (pc := 122) O dX8_day_122 ?_
        refine g_iconst (v := (I 1)) (pc := 123) O rfl dX8_day_123 ?_
        refine g_iadd (pc := 124) O dX8_day_124 ?_
        obtain ⟨j8, ej8, bj8, H⟩ := H
        refine g_iald (j := j8) (pc := 125) O dX8_day_125 ej8 rfl (ltb rfl) bj8 (ltb rfl) rfl ?_
        obtain ⟨j9, ej9, bj9, H⟩ := H
        refine g_iald (j := j9) (pc := 126) O dX8_day_126 ej9 rfl (ltb rfl) bj9 (ltb rfl) rfl ?_
        refine g_iloadn (pc := 127) O rfl dX8_day_127 ?_
        refine g_icmp_le (tgt := 135) (pc := 128) O dX8_day_128 rfl (fun q10 => ?_) (fun q10 => ?_)
        · replace H := H.1 q10
          exact H
        · replace H := H.2 q10
          exact H
set_option maxRecDepth 20000 in
set_option maxHeartbeats 2000000 in
theorem bX8_day_131 {g : mg} {l : Launch} {X : XT} {Q : Int32 → AH → Prop} (O : Ok (FF g l X) RX8 cX8_day 6 mX8_day.2.2.2.2 (some .int)) {x1 : Int32} {x2 : Int32} {x3 : Int32} {x4 : Int32} {h : AH} (H : (((I 1) = 0) → (GI g l X Q h 63 [(0, .ref 82), (1, .int x1), (2, .int x2), (3, .int x3), (4, .int (x4 + I 1))] [])) ∧ ((¬ ((I 1) = 0)) → (GI g l X Q h 63 [(0, .ref 82), (1, .int x1), (2, .int x2), (3, .int (x3 ||| ((I 1) <<< (x4 &&& 31)))), (4, .int (x4 + I 1))] []))) : GI g l X Q h 131 [(0, .ref 82), (1, .int x1), (2, .int x2), (3, .int x3), (4, .int x4)] [] := by
  refine g_iconst (v := (I 1)) (pc := 131) O rfl dX8_day_131 ?_
  refine g_goto (tgt := 136) (pc := 132) O dX8_day_132 rfl ?_
  refine g_istore (lv' := [(0, .ref 82), (1, .int x1), (2, .int x2), (3, .int x3), (4, .int x4), (5, .int (I 1))]) (pc := 136) O dX8_day_136 (ltb rfl) rfl ?_
  refine g_iload (pc := 138) O rfl dX8_day_138 ?_
  refine g_if_eq (tgt := 152) (pc := 140) O dX8_day_140 rfl (fun q1 => ?_) (fun q1 => ?_)
  · replace H := H.1 q1
    refine g_iloadn (pc := 152) O rfl dX8_day_152 ?_
    refine g_istoren (lv' := [(0, .ref 82), (1, .int x1), (2, .int x2), (3, .int x3), (4, .int x4), (5, .int (I 1))]) (pc := 153) O dX8_day_153 rfl (ltb rfl) rfl ?_
    refine g_iinc (lv' := [(0, .ref 82), (1, .int x1), (2, .int x2), (3, .int x3), (4, .int (x4 + I 1)), (5, .int (I 1))]) (pc := 154) O dX8_day_154 rfl rfl (ltb rfl) rfl ?_
    refine g_goto (tgt := 63) (pc := 157) O dX8_day_157 rfl ?_
    refine g_sub [0, 1, 2, 3, 4] rfl ?_
    exact H
  · replace H := H.2 q1
    refine g_iloadn (pc := 143) O rfl dX8_day_143 ?_
    refine g_iconst (v := (I 1)) (pc := 144) O rfl dX8_day_144 ?_
    refine g_iload (pc := 145) O rfl dX8_day_145 ?_
    refine g_ishl (pc := 147) O dX8_day_147 ?_
    refine g_ior (pc := 148) O dX8_day_148 ?_
    refine g_goto (tgt := 153) (pc := 149) O dX8_day_149 rfl ?_
    refine g_istoren (lv' := [(0, .ref 82), (1, .int x1), (2, .int x2), (3, .int (x3 ||| ((I 1) <<< (x4 &&& 31)))), (4, .int x4), (5, .int (I 1))]) (pc := 153) O dX8_day_153 rfl (ltb rfl) rfl ?_
    refine g_iinc (lv' := [(0, .ref 82), (1, .int x1), (2, .int x2), (3, .int (x3 ||| ((I 1) <<< (x4 &&& 31)))), (4, .int (x4 + I 1)), (5, .int (I 1))]) (pc := 154) O dX8_day_154 rfl rfl (ltb rfl) rfl ?_
    refine g_goto (tgt := 63) (pc := 157) O dX8_day_157 rfl ?_
    refine g_sub [0, 1, 2, 3, 4] rfl ?_
    exact H
set_option maxRecDepth 20000 in
set_option maxHeartbeats 2000000 in
theorem bX8_day_135 {g : mg} {l : Launch} {X : XT} {Q : Int32 → AH → Prop} (O : Ok (FF g l X) RX8 cX8_day 6 mX8_day.2.2.2.2 (some .int)) {x1 : Int32} {x2 : Int32} {x3 : Int32} {x4 : Int32} {h : AH} (H : (((I 0) = 0) → (GI g l X Q h 63 [(0, .ref 82), (1, .int x1), (2, .int x2), (3, .int x3), (4, .int (x4 + I 1))] [])) ∧ ((¬ ((I 0) = 0)) → (GI g l X Q h 63 [(0, .ref 82), (1, .int x1), (2, .int x2), (3, .int (x3 ||| ((I 1) <<< (x4 &&& 31)))), (4, .int (x4 + I 1))] []))) : GI g l X Q h 135 [(0, .ref 82), (1, .int x1), (2, .int x2), (3, .int x3), (4, .int x4)] [] := by
  refine g_iconst (v := (I 0)) (pc := 135) O rfl dX8_day_135 ?_
  refine g_istore (lv' := [(0, .ref 82), (1, .int x1), (2, .int x2), (3, .int x3), (4, .int x4), (5, .int (I 0))]) (pc := 136) O dX8_day_136 (ltb rfl) rfl ?_
  refine g_iload (pc := 138) O rfl dX8_day_138 ?_
  refine g_if_eq (tgt := 152) (pc := 140) O dX8_day_140 rfl (fun q1 => ?_) (fun q1 => ?_)
  · replace H := H.1 q1
    refine g_iloadn (pc := 152) O rfl dX8_day_152 ?_
    refine g_istoren (lv' := [(0, .ref 82), (1, .int x1), (2, .int x2), (3, .int x3), (4, .int x4), (5, .int (I 0))]) (pc := 153) O dX8_day_153 rfl (ltb rfl) rfl ?_
    refine g_iinc (lv' := [(0, .ref 82), (1, .int x1), (2, .int x2), (3, .int x3), (4, .int (x4 + I 1)), (5, .int (I 0))]) (pc := 154) O dX8_day_154 rfl rfl (ltb rfl) rfl ?_
    refine g_goto (tgt := 63) (pc := 157) O dX8_day_157 rfl ?_
    refine g_sub [0, 1, 2, 3, 4] rfl ?_
    exact H
  · replace H := H.2 q1
    refine g_iloadn (pc := 143) O rfl dX8_day_143 ?_
    refine g_iconst (v := (I 1)) (pc := 144) O rfl dX8_day_144 ?_
    refine g_iload (pc := 145) O rfl dX8_day_145 ?_
    refine g_ishl (pc := 147) O dX8_day_147 ?_
    refine g_ior (pc := 148) O dX8_day_148 ?_
    refine g_goto (tgt := 153) (pc := 149) O dX8_day_149 rfl ?_
    refine g_istoren (lv' := [(0, .ref 82), (1, .int x1), (2, .int x2), (3, .int (x3 ||| ((I 1) <<< (x4 &&& 31)))), (4, .int x4), (5, .int (I 0))]) (pc := 153) O dX8_day_153 rfl (ltb rfl) rfl ?_
    refine g_iinc (lv' := [(0, .ref 82), (1, .int x1), (2, .int x2), (3, .int (x3 ||| ((I 1) <<< (x4 &&& 31)))), (4, .int (x4 + I 1)), (5, .int (I 0))]) (pc := 154) O dX8_day_154 rfl rfl (ltb rfl) rfl ?_
    refine g_goto (tgt := 63) (pc := 157) O dX8_day_157 rfl ?_
    refine g_sub [0, 1, 2, 3, 4] rfl ?_
    exact H
set_option maxRecDepth 20000 in
set_option maxHeartbeats 2000000 in
theorem sX8_day {g : mg} {l : Launch} {Q : Int32 → AH → Prop} {x1 : Int32} {x2 : Int32} {h : AH} (H : ∀ X, Ok (FF g l X) RX8 cX8_day 6 mX8_day.2.2.2.2 (some .int) → SpI g l mX8_isChipAt h [.ref 82, .int x1] (fun v1 hv1 => ((v1 = 0) → (Q (I (-1)) hv1)) ∧ ((¬ (v1 = 0)) → (SpI g l mX8_in hv1 [.int x2, .int (I 0), .int (I 999)] (fun v3 hv3 => ((¬ v3 = 0) → (SpV g l mX8_make hv3 [.ref 82] (fun hv5 => ((¬ (hv5.1 82 44) = 0) → (∃ j7 : Nat, ((I 10) * x1) = I (j7 : Int) ∧ j7 < 40 ∧ (∃ j8 : Nat, (hv5.1 114 j7) = I (j8 : Int) ∧ j8 < 40 ∧ ((((hv5.1 116 j8) ≤ x2) → (GI g l X Q hv5 63 [(0, .ref 82), (1, .int x1), (2, .int x2), (3, .int (I 0)), (4, .int (I 0))] [])) ∧ ((¬ ((hv5.1 116 j8) ≤ x2)) → (GI g l X Q hv5 63 [(0, .ref 82), (1, .int x1), (2, .int x2), (3, .int (I 1024)), (4, .int (I 0))] [])))))) ∧ (((hv5.1 82 44) = 0) → (Q (I 0) hv5))))) ∧ ((v3 = 0) → (Q (I (-1)) hv3))))))) : SpI g l mX8_day h [.ref 82, .int x1, .int x2] Q := spI_of (by decide) (leb rfl) (fun X O => bX8_day_0 O (H X O))
set_option maxRecDepth 20000 in
set_option maxHeartbeats 2000000 in
theorem bX8_bill_0 {g : mg} {l : Launch} {X : XT} {Q : Int32 → AH → Prop} (O : Ok (FF g l X) RX8 cX8_bill 3 mX8_bill.2.2.2.2 (some .int)) {x1 : Int32} {x2 : Int32} {h : AH} (H : SpI g l mX8_in h [.int x1, .int (I 0), .int ((h.1 82 17) - (I 1))] (fun v1 hv1 => ((v1 = 0) → (Q (I (-1)) hv1)) ∧ ((¬ (v1 = 0)) → (SpI g l mX8_in hv1 [.int x2, .int (I 0), .int (I 1)] (fun v3 hv3 => ((¬ v3 = 0) → (((¬ x2 = 0) → (∃ j6 : Nat, x1 = I (j6 : Int) ∧ j6 < 8 ∧ (Q (hv3.1 95 j6) hv3))) ∧ ((x2 = 0) → (∃ j7 : Nat, x1 = I (j7 : Int) ∧ j7 < 8 ∧ (Q (hv3.1 94 j7) hv3))))) ∧ ((v3 = 0) → (Q (I (-1)) hv3))))))) : GI g l X Q h 0 [(0, .ref 82), (1, .int x1), (2, .int x2)] [] := by
  refine g_iloadn (pc := 0) O rfl dX8_bill_0 ?_
  refine g_iconst (v := (I 0)) (pc := 1) O rfl dX8_bill_1 ?_
  refine g_aloadn (pc := 2) O rfl dX8_bill_2 ?_
  refine g_getI (v := h.1 82 17) (pc := 3) O cls8 fl_X8_196 dX8_bill_3 rfl (ltb rfl) (ltb rfl) rfl rfl ?_
  refine g_iconst (v := (I 1)) (pc := 6) O rfl dX8_bill_6 ?_
  refine g_isub (pc := 7) O dX8_bill_7 ?_
  refine g_sI [.int x1, .int (I 0), .int ((h.1 82 17) - (I 1))] [] (pc := 8) O mk_X8_in ml_X8_116 sm_X8_in ⟨rfl, rfl, leb rfl, leb rfl⟩ rfl (leb rfl) dX8_bill_8 H rfl (fun v1 hv1 H => ?_)
  refine g_if_eq (tgt := 23) (pc := 11) O dX8_bill_11 rfl (fun q2 => ?_) (fun q2 => ?_)
  · replace H := H.1 q2
    refine g_iconst (v := (I (-1))) (pc := 23) O rfl dX8_bill_23 ?_
    exact g_iret (pc := 24) O dX8_bill_24 H
  · replace H := H.2 q2
    refine g_iloadn (pc := 14) O rfl dX8_bill_14 ?_
    refine g_iconst (v := (I 0)) (pc := 15) O rfl dX8_bill_15 ?_
    refine g_iconst (v := (I 1)) (pc := 16) O rfl dX8_bill_16 ?_
    refine g_sI [.int x2, .int (I 0), .int (I 1)] [] (pc := 17) O mk_X8_in ml_X8_116 sm_X8_in ⟨rfl, rfl, leb rfl, leb rfl⟩ rfl (leb rfl) dX8_bill_17 H rfl (fun v3 hv3 H => ?_)
    refine g_if_ne (tgt := 25) (pc := 20) O dX8_bill_20 rfl (fun q4 => ?_) (fun q4 => ?_)
    · replace H := H.1 q4
      refine g_iloadn (pc := 25) O rfl dX8_bill_25 ?_
      refine g_if_ne (tgt := 38) (pc := 26) O dX8_bill_26 rfl (fun q5 => ?_) (fun q5 => ?_)
      · replace H := H.1 q5
        refine g_aloadn (pc := 38) O rfl dX8_bill_38 ?_
        refine g_getS (pc := 39) O cls8 fl_X8_46 dX8_bill_39 rfl (ltb rfl) (ltb rfl) rfl rfl ?_
        refine g_iloadn (pc := 42) O rfl dX8_bill_42 ?_
        obtain ⟨j6, ej6, bj6, H⟩ := H
        refine g_iald (j := j6) (pc := 43) O dX8_bill_43 ej6 rfl (ltb rfl) bj6 (ltb rfl) rfl ?_
        exact g_iret (pc := 44) O dX8_bill_44 H
      · replace H := H.2 q5
        refine g_aloadn (pc := 29) O rfl dX8_bill_29 ?_
        refine g_getS (pc := 30) O cls8 fl_X8_43 dX8_bill_30 rfl (ltb rfl) (ltb rfl) rfl rfl ?_
        refine g_iloadn (pc := 33) O rfl dX8_bill_33 ?_
        obtain ⟨j7, ej7, bj7, H⟩ := H
        refine g_iald (j := j7) (pc := 34) O dX8_bill_34 ej7 rfl (ltb rfl) bj7 (ltb rfl) rfl ?_
        refine g_goto (tgt := 44) (pc := 35) O dX8_bill_35 rfl ?_
        exact g_iret (pc := 44) O dX8_bill_44 H
    · replace H := H.2 q4
      refine g_iconst (v := (I (-1))) (pc := 23) O rfl dX8_bill_23 ?_
      exact g_iret (pc := 24) O dX8_bill_24 H
set_option maxRecDepth 20000 in
set_option maxHeartbeats 2000000 in
theorem sX8_bill {g : mg} {l : Launch} {Q : Int32 → AH → Prop} {x1 : Int32} {x2 : Int32} {h : AH} (H : SpI g l mX8_in h [.int x1, .int (I 0), .int ((h.1 82 17) - (I 1))] (fun v1 hv1 => ((v1 = 0) → (Q (I (-1)) hv1)) ∧ ((¬ (v1 = 0)) → (SpI g l mX8_in hv1 [.int x2, .int (I 0), .int (I 1)] (fun v3 hv3 => ((¬ v3 = 0) → (((¬ x2 = 0) → (∃ j6 : Nat, x1 = I (j6 : Int) ∧ j6 < 8 ∧ (Q (hv3.1 95 j6) hv3))) ∧ ((x2 = 0) → (∃ j7 : Nat, x1 = I (j7 : Int) ∧ j7 < 8 ∧ (Q (hv3.1 94 j7) hv3))))) ∧ ((v3 = 0) → (Q (I (-1)) hv3))))))) : SpI g l mX8_bill h [.ref 82, .int x1, .int x2] Q := spI_of (by decide) (leb rfl) (fun X O => bX8_bill_0 O H)
set_option maxRecDepth 20000 in
set_option maxHeartbeats 2000000 in
theorem bX8_suits_0 {g : mg} {l : Launch} {X : XT} {Q : Int32 → AH → Prop} (O : Ok (FF g l X) RX8 cX8_suits 4 mX8_suits.2.2.2.2 (some .boolean)) {x1 : Int32} {x2 : Int32} {x3 : Int32} {h : AH} (H : (((h.1 82 44) = 0) → (Q (I 0) h)) ∧ ((¬ ((h.1 82 44) = 0)) → (∃ j2 : Nat, x1 = I (j2 : Int) ∧ j2 < 8 ∧ (∃ j3 : Nat, x2 = I (j3 : Int) ∧ j3 < 40 ∧ (((¬ (h.1 95 j2) = (h.1 113 j3)) → (Q (I 0) h)) ∧ (((h.1 95 j2) = (h.1 113 j3)) → (∃ j5 : Nat, x1 = I (j5 : Int) ∧ j5 < 8 ∧ (∃ j6 : Nat, x2 = I (j6 : Int) ∧ j6 < 40 ∧ (∃ j7 : Nat, x2 = I (j7 : Int) ∧ j7 < 40 ∧ (SpI g l mX8_in h [.int (h.1 94 j5), .int (h.1 115 j6), .int (h.1 116 j7)] (fun v8 hv8 => ((v8 = 0) → (Q (I 0) hv8)) ∧ ((¬ (v8 = 0)) → (((x3 = 0) → (Q (I 1) hv8)) ∧ ((¬ (x3 = 0)) → (∃ j11 : Nat, x1 = I (j11 : Int) ∧ j11 < 8 ∧ (∃ j12 : Nat, (x3 - (I 1)) = I (j12 : Int) ∧ j12 < 8 ∧ ((((hv8.1 94 j11) ≤ (hv8.1 94 j12)) → (Q (I 0) hv8)) ∧ ((¬ ((hv8.1 94 j11) ≤ (hv8.1 94 j12))) → (Q (I 1) hv8))))))))))))))))))) : GI g l X Q h 0 [(0, .ref 82), (1, .int x1), (2, .int x2), (3, .int x3)] [] := by
  refine g_aloadn (pc := 0) O rfl dX8_suits_0 ?_
  refine g_getI (v := h.1 82 44) (pc := 1) O cls8 fl_X8_258 dX8_suits_1 rfl (ltb rfl) (ltb rfl) rfl rfl ?_
  refine g_if_eq (tgt := 71) (pc := 4) O dX8_suits_4 rfl (fun q1 => ?_) (fun q1 => ?_)
  · replace H := H.1 q1
    refine g_iconst (v := (I 0)) (pc := 71) O rfl dX8_suits_71 ?_
    exact g_zret (pc := 72) O dX8_suits_72 (by decide) H
  · replace H := H.2 q1
    refine g_aloadn (pc := 7) O rfl dX8_suits_7 ?_
    refine g_getS (pc := 8) O cls8 fl_X8_46 dX8_suits_8 rfl (ltb rfl) (ltb rfl) rfl rfl ?_
    refine g_iloadn (pc := 11) O rfl dX8_suits_11 ?_
    obtain ⟨j2, ej2, bj2, H⟩ := H
    refine g_iald (j := j2) (pc := 12) O dX8_suits_12 ej2 rfl (ltb rfl) bj2 (ltb rfl) rfl ?_
    refine g_aloadn (pc := 13) O rfl dX8_suits_13 ?_
    refine g_getS (pc := 14) O cls8 fl_X8_101 dX8_suits_14 rfl (ltb rfl) (ltb rfl) rfl rfl ?_
    refine g_iloadn (pc := 17) O rfl dX8_suits_17 ?_
    obtain ⟨j3, ej3, bj3, H⟩ := H
    refine g_iald (j := j3) (pc := 18) O dX8_suits_18 ej3 rfl (ltb rfl) bj3 (ltb rfl) rfl ?_
    refine g_icmp_ne (tgt := 71) (pc := 19) O dX8_suits_19 rfl (fun q4 => ?_) (fun q4 => ?_)
    · replace H := H.1 q4
      refine g_iconst (v := (I 0)) (pc := 71) O rfl dX8_suits_71 ?_
      exact g_zret (pc := 72) O dX8_suits_72 (by decide) H
    · replace H := H.2 q4
      refine g_aloadn (pc := 22) O rfl dX8_suits_22 ?_
      refine g_getS (pc := 23) O cls8 fl_X8_43 dX8_suits_23 rfl (ltb rfl) (ltb rfl) rfl rfl ?_
      refine g_iloadn (pc := 26) O rfl dX8_suits_26 ?_
      obtain ⟨j5, ej5, bj5, H⟩ := H
      refine g_iald (j := j5) (pc := 27) O dX8_suits_27 ej5 rfl (ltb rfl) bj5 (ltb rfl) rfl ?_
      refine g_aloadn (pc := 28) O rfl dX8_suits_28 ?_
      refine g_getS (pc := 29) O cls8 fl_X8_107 dX8_suits_29 rfl (ltb rfl) (ltb rfl) rfl rfl ?_
      refine g_iloadn (pc := 32) O rfl dX8_suits_32 ?_
      obtain ⟨j6, ej6, bj6, H⟩ := H
      refine g_iald (j := j6) (pc := 33) O dX8_suits_33 ej6 rfl (ltb rfl) bj6 (ltb rfl) rfl ?_
      refine g_aloadn (pc := 34) O rfl dX8_suits_34 ?_
      refine g_getS (pc := 35) O cls8 fl_X8_110 dX8_suits_35 rfl (ltb rfl) (ltb rfl) rfl rfl ?_
      refine g_iloadn (pc := 38) O rfl dX8_suits_38 ?_
      obtain ⟨j7, ej7, bj7, H⟩ := H
      refine g_iald (j := j7) (pc := 39) O dX8_suits_39 ej7 rfl (ltb rfl) bj7 (ltb rfl) rfl ?_
      refine g_sI [.int (h.1 94 j5), .int (h.1 115 j6), .int (h.1 116 j7)] [] (pc := 40) O mk_X8_in ml_X8_116 sm_X8_in ⟨rfl, rfl, leb rfl, leb rfl⟩ rfl (leb rfl) dX8_suits_40 H rfl (fun v8 hv8 H => ?_)
      refine g_if_eq (tgt := 71) (pc := 43) O dX8_suits_43 rfl (fun q9 => ?_) (fun q9 => ?_)
      · replace H := H.1 q9
        refine g_iconst (v := (I 0)) (pc := 71) O rfl dX8_suits_71 ?_
        exact g_zret (pc := 72) O dX8_suits_72 (by decide) H
      · replace H := H.2 q9
        refine g_iloadn (pc := 46) O rfl dX8_suits_46 ?_
        refine g_if_eq (tgt := 67) (pc := 47) O dX8_suits_47 rfl (fun q10 => ?_) (fun q10 => ?_)
        · replace H := H.1 q10
          refine g_iconst (v := (I 1)) (pc := 67) O rfl dX8_suits_67 ?_
          refine g_goto (tgt := 72) (pc := 68) O dX8_suits_68 rfl ?_
          exact g_zret (pc := 72) O dX8_suits_72 (by decide) H
        · replace H := H.2 q10
          refine g_aloadn (pc := 50) O rfl dX8_suits_50 ?_
          refine g_getS (pc := 51) O cls8 fl_X8_43 dX8_suits_51 rfl (ltb rfl) (ltb rfl) rfl rfl ?_
          refine g_iloadn (pc := 54) O rfl dX8_suits_54 ?_
          obtain ⟨j11, ej11, bj11, H⟩ := H
          refine g_iald (j := j11) (pc := 55) O dX8_suits_55 ej11 rfl (ltb rfl) bj11 (ltb rfl) rfl ?_
          refine g_aloadn (pc := 56) O rfl dX8_suits_56 ?_
          refine g_getS (pc := 57) O cls8 fl_X8_43 dX8_suits_57 rfl (ltb rfl) (ltb rfl) rfl rfl ?_
          refine g_iloadn (pc := 60) O rfl dX8_suits_60 ?_
          refine g_iconst (v := (I 1)) (pc := 61) O rfl dX8_suits_61 ?_
          refine g_isub (pc := 62) O dX8_suits_62 ?_
          obtain ⟨j12, ej12, bj12, H⟩ := H
          refine g_iald (j := j12) (pc := 63) O dX8_suits_63 ej12 rfl (ltb rfl) bj12 (ltb rfl) rfl ?_
          refine g_icmp_le (tgt := 71) (pc := 64) O dX8_suits_64 rfl (fun q13 => ?_) (fun q13 => ?_)
          · replace H := H.1 q13
            refine g_iconst (v := (I 0)) (pc := 71) O rfl dX8_suits_71 ?_
            exact g_zret (pc := 72) O dX8_suits_72 (by decide) H
          · replace H := H.2 q13
            refine g_iconst (v := (I 1)) (pc := 67) O rfl dX8_suits_67 ?_
            refine g_goto (tgt := 72) (pc := 68) O dX8_suits_68 rfl ?_
            exact g_zret (pc := 72) O dX8_suits_72 (by decide) H
set_option maxRecDepth 20000 in
set_option maxHeartbeats 2000000 in
theorem sX8_suits {g : mg} {l : Launch} {Q : Int32 → AH → Prop} {x1 : Int32} {x2 : Int32} {x3 : Int32} {h : AH} (H : (((h.1 82 44) = 0) → (Q (I 0) h)) ∧ ((¬ ((h.1 82 44) = 0)) → (∃ j2 : Nat, x1 = I (j2 : Int) ∧ j2 < 8 ∧ (∃ j3 : Nat, x2 = I (j3 : Int) ∧ j3 < 40 ∧ (((¬ (h.1 95 j2) = (h.1 113 j3)) → (Q (I 0) h)) ∧ (((h.1 95 j2) = (h.1 113 j3)) → (∃ j5 : Nat, x1 = I (j5 : Int) ∧ j5 < 8 ∧ (∃ j6 : Nat, x2 = I (j6 : Int) ∧ j6 < 40 ∧ (∃ j7 : Nat, x2 = I (j7 : Int) ∧ j7 < 40 ∧ (SpI g l mX8_in h [.int (h.1 94 j5), .int (h.1 115 j6), .int (h.1 116 j7)] (fun v8 hv8 => ((v8 = 0) → (Q (I 0) hv8)) ∧ ((¬ (v8 = 0)) → (((x3 = 0) → (Q (I 1) hv8)) ∧ ((¬ (x3 = 0)) → (∃ j11 : Nat, x1 = I (j11 : Int) ∧ j11 < 8 ∧ (∃ j12 : Nat, (x3 - (I 1)) = I (j12 : Int) ∧ j12 < 8 ∧ ((((hv8.1 94 j11) ≤ (hv8.1 94 j12)) → (Q (I 0) hv8)) ∧ ((¬ ((hv8.1 94 j11) ≤ (hv8.1 94 j12))) → (Q (I 1) hv8))))))))))))))))))) : SpI g l mX8_suits h [.ref 82, .int x1, .int x2, .int x3] Q := spI_of (by decide) (leb rfl) (fun X O => bX8_suits_0 O H)
set_option maxRecDepth 20000 in
set_option maxHeartbeats 2000000 in
theorem bX8_billed_0 {g : mg} {l : Launch} {X : XT} {Q : Int32 → AH → Prop} (O : Ok (FF g l X) RX8 cX8_billed 6 mX8_billed.2.2.2.2 (some .int)) {x1 : Int32} {h : AH} (H : SpV g l mX8_make h [.ref 82] (fun hv1 => SpI g l mX8_in hv1 [.int x1, .int (I (-1)), .int ((hv1.1 82 38) - (I 1))] (fun v2 hv2 => ((¬ v2 = 0) → (GI g l X Q hv2 25 [(0, .ref 82), (1, .int x1), (2, .int (hv2.1 82 38))] [])) ∧ ((v2 = 0) → (Q (I (-1)) hv2))))) : GI g l X Q h 0 [(0, .ref 82), (1, .int x1)] [] := by
  refine g_aloadn (pc := 0) O rfl dX8_billed_0 ?_
  refine g_vV [] [] (pc := 1) O mk_X8_make ml_X8_205 im_X8_make se_X8_make cls8 rfl ⟨rfl, rfl, leb rfl, leb rfl⟩ rfl (leb rfl) dX8_billed_1 H rfl (fun hv1 H => ?_)
  refine g_iloadn (pc := 4) O rfl dX8_billed_4 ?_
  refine g_iconst (v := (I (-1))) (pc := 5) O rfl dX8_billed_5 ?_
  refine g_aloadn (pc := 6) O rfl dX8_billed_6 ?_
  refine g_getI (v := hv1.1 82 38) (pc := 7) O cls8 fl_X8_235 dX8_billed_7 rfl (ltb rfl) (ltb rfl) rfl rfl ?_
  refine g_iconst (v := (I 1)) (pc := 10) O rfl dX8_billed_10 ?_
  refine g_isub (pc := 11) O dX8_billed_11 ?_
  refine g_sI [.int x1, .int (I (-1)), .int ((hv1.1 82 38) - (I 1))] [] (pc := 12) O mk_X8_in ml_X8_116 sm_X8_in ⟨rfl, rfl, leb rfl, leb rfl⟩ rfl (leb rfl) dX8_billed_12 H rfl (fun v2 hv2 H => ?_)
  refine g_if_ne (tgt := 20) (pc := 15) O dX8_billed_15 rfl (fun q3 => ?_) (fun q3 => ?_)
  · replace H := H.1 q3
    refine g_aloadn (pc := 20) O rfl dX8_billed_20 ?_
    refine g_getI (v := hv2.1 82 38) (pc := 21) O cls8 fl_X8_235 dX8_billed_21 rfl (ltb rfl) (ltb rfl) rfl rfl ?_
    refine g_istoren (lv' := [(0, .ref 82), (1, .int x1), (2, .int (hv2.1 82 38))]) (pc := 24) O dX8_billed_24 rfl (ltb rfl) rfl ?_
    exact H
  · replace H := H.2 q3
    refine g_iconst (v := (I (-1))) (pc := 18) O rfl dX8_billed_18 ?_
    exact g_iret (pc := 19) O dX8_billed_19 H
set_option maxRecDepth 20000 in
set_option maxHeartbeats 2000000 in
theorem bX8_billed_25 {g : mg} {l : Launch} {X : XT} {Q : Int32 → AH → Prop} (O : Ok (FF g l X) RX8 cX8_billed 6 mX8_billed.2.2.2.2 (some .int)) {x1 : Int32} {x2 : Int32} {h : AH} (H : ((x2 < 0) → (GI g l X Q h 188 [(0, .ref 82), (1, .int x1), (2, .int (I 0)), (3, .int (h.1 117 0)), (4, .int (I 0))] [])) ∧ ((¬ (x2 < 0)) → (GI g l X Q h 31 [(0, .ref 82), (1, .int x1), (2, .int x2), (3, .int (I 0))] []))) : GI g l X Q h 25 [(0, .ref 82), (1, .int x1), (2, .int x2)] [] := by
  refine g_iloadn (pc := 25) O rfl dX8_billed_25 ?_
  refine g_if_lt (tgt := 176) (pc := 26) O dX8_billed_26 rfl (fun q1 => ?_) (fun q1 => ?_)
  · replace H := H.1 q1
    refine g_iconst (v := (I 0)) (pc := 176) O rfl dX8_billed_176 ?_
    refine g_istoren (lv' := [(0, .ref 82), (1, .int x1), (2, .int (I 0))]) (pc := 177) O dX8_billed_177 rfl (ltb rfl) rfl ?_
    refine g_aloadn (pc := 178) O rfl dX8_billed_178 ?_
    refine g_getS (pc := 179) O cls8 fl_X8_113 dX8_billed_179 rfl (ltb rfl) (ltb rfl) rfl rfl ?_
    refine g_iconst (v := (I 0)) (pc := 182) O rfl dX8_billed_182 ?_
    refine g_iald (j := 0) (pc := 183) O dX8_billed_183 rfl rfl (ltb rfl) (ltb rfl) (ltb rfl) rfl ?_
    refine g_istoren (lv' := [(0, .ref 82), (1, .int x1), (2, .int (I 0)), (3, .int (h.1 117 0))]) (pc := 184) O dX8_billed_184 rfl (ltb rfl) rfl ?_
    refine g_iconst (v := (I 0)) (pc := 185) O rfl dX8_billed_185 ?_
    refine g_istore (lv' := [(0, .ref 82), (1, .int x1), (2, .int (I 0)), (3, .int (h.1 117 0)), (4, .int (I 0))]) (pc := 186) O dX8_billed_186 (ltb rfl) rfl ?_
    exact H
  · replace H := H.2 q1
    refine g_iconst (v := (I 0)) (pc := 29) O rfl dX8_billed_29 ?_
    refine g_istoren (lv' := [(0, .ref 82), (1, .int x1), (2, .int x2), (3, .int (I 0))]) (pc := 30) O dX8_billed_30 rfl (ltb rfl) rfl ?_
    exact H
set_option maxRecDepth 20000 in
set_option maxHeartbeats 2000000 in
theorem bX8_billed_31 {g : mg} {l : Launch} {X : XT} {Q : Int32 → AH → Prop} (O : Ok (FF g l X) RX8 cX8_billed 6 mX8_billed.2.2.2.2 (some .int)) {x1 : Int32} {x2 : Int32} {x3 : Int32} {h : AH} (H : (((h.1 82 17) < x3) → (GI g l X Q h 25 [(0, .ref 82), (1, .int x1), (2, .int (x2 + I (-1)))] [])) ∧ ((¬ ((h.1 82 17) < x3)) → (((¬ x2 = (h.1 82 38)) → (∃ j3 : Nat, (((I 9) * (x2 + (I 1))) + x3) = I (j3 : Int) ∧ j3 < 369 ∧ (GI g l X Q h 69 [(0, .ref 82), (1, .int x1), (2, .int x2), (3, .int x3), (4, .int (h.1 117 j3)), (5, .int (I 0))] []))) ∧ ((x2 = (h.1 82 38)) → (GI g l X Q h 69 [(0, .ref 82), (1, .int x1), (2, .int x2), (3, .int x3), (4, .int (I 0)), (5, .int (I 0))] []))))) : GI g l X Q h 31 [(0, .ref 82), (1, .int x1), (2, .int x2), (3, .int x3)] [] := by
  refine g_iloadn (pc := 31) O rfl dX8_billed_31 ?_
  refine g_aloadn (pc := 32) O rfl dX8_billed_32 ?_
  refine g_getI (v := h.1 82 17) (pc := 33) O cls8 fl_X8_196 dX8_billed_33 rfl (ltb rfl) (ltb rfl) rfl rfl ?_
  refine g_icmp_gt (tgt := 170) (pc := 36) O dX8_billed_36 rfl (fun q1 => ?_) (fun q1 => ?_)
  · replace H := H.1 q1
    refine g_iinc (lv' := [(0, .ref 82), (1, .int x1), (2, .int (x2 + I (-1))), (3, .int x3)]) (pc := 170) O dX8_billed_170 rfl rfl (ltb rfl) rfl ?_
    refine g_goto (tgt := 25) (pc := 173) O dX8_billed_173 rfl ?_
    refine g_sub [0, 1, 2] rfl ?_
    exact H
  · replace H := H.2 q1
    refine g_iloadn (pc := 39) O rfl dX8_billed_39 ?_
    refine g_aloadn (pc := 40) O rfl dX8_billed_40 ?_
    refine g_getI (v := h.1 82 38) (pc := 41) O cls8 fl_X8_235 dX8_billed_41 rfl (ltb rfl) (ltb rfl) rfl rfl ?_
    refine g_icmp_ne (tgt := 51) (pc := 44) O dX8_billed_44 rfl (fun q2 => ?_) (fun q2 => ?_)
    · replace H := H.1 q2
      refine g_aloadn (pc := 51) O rfl dX8_billed_51 ?_
      refine g_getS (pc := 52) O cls8 fl_X8_113 dX8_billed_52 rfl (ltb rfl) (ltb rfl) rfl rfl ?_
      refine g_bipush (v := (I 9)) (pc := 55) O (by decide) dX8_billed_55 ?_
      refine g_iloadn (pc := 57) O rfl dX8_billed_57 ?_
      refine g_iconst (v := (I 1)) (pc := 58) O rfl dX8_billed_58 ?_
      refine g_iadd (pc := 59) O dX8_billed_59 ?_
      refine g_imul (pc := 60) O dX8_billed_60 ?_
      refine g_iloadn (pc := 61) O rfl dX8_billed_61 ?_
      refine g_iadd (pc := 62) O dX8_billed_62 ?_
      obtain ⟨j3, ej3, bj3, H⟩ := H
      refine g_iald (j := j3) (pc := 63) O dX8_billed_63 ej3 rfl (ltb rfl) bj3 (ltb rfl) rfl ?_
      refine g_istore (lv' := [(0, .ref 82), (1, .int x1), (2, .int x2), (3, .int x3), (4, .int (h.1 117 j3))]) (pc := 64) O dX8_billed_64 (ltb rfl) rfl ?_
      refine g_iconst (v := (I 0)) (pc := 66) O rfl dX8_billed_66 ?_
      refine g_istore (lv' := [(0, .ref 82), (1, .int x1), (2, .int x2), (3, .int x3), (4, .int (h.1 117 j3)), (5, .int (I 0))]) (pc := 67) O dX8_billed_67 (ltb rfl) rfl ?_
      exact H
    · replace H := H.2 q2
      refine g_iconst (v := (I 0)) (pc := 47) O rfl dX8_billed_47 ?_
      refine g_goto (tgt := 64) (pc := 48) O dX8_billed_48 rfl ?_
      refine g_istore (lv' := [(0, .ref 82), (1, .int x1), (2, .int x2), (3, .int x3), (4, .int (I 0))]) (pc := 64) O dX8_billed_64 (ltb rfl) rfl ?_
      refine g_iconst (v := (I 0)) (pc := 66) O rfl dX8_billed_66 ?_
      refine g_istore (lv' := [(0, .ref 82), (1, .int x1), (2, .int x2), (3, .int x3), (4, .int (I 0)), (5, .int (I 0))]) (pc := 67) O dX8_billed_67 (ltb rfl) rfl ?_
      exact H
set_option maxRecDepth 20000 in
set_option maxHeartbeats 2000000 in
theorem bX8_billed_69 {g : mg} {l : Launch} {X : XT} {Q : Int32 → AH → Prop} (O : Ok (FF g l X) RX8 cX8_billed 6 mX8_billed.2.2.2.2 (some .int)) {x1 : Int32} {x2 : Int32} {x3 : Int32} {x4 : Int32} {x5 : Int32} {h : AH} (H : (((h.1 82 17) ≤ x5) → (∃ j2 : Nat, (((I 9) * x2) + x3) = I (j2 : Int) ∧ j2 < 369 ∧ (GI g l X Q (sI h 117 j2 x4) 31 [(0, .ref 82), (1, .int x1), (2, .int x2), (3, .int (x3 + I 1))] []))) ∧ ((¬ ((h.1 82 17) ≤ x5)) → ((((h.1 82 38) ≤ x2) → (∃ j4 : Nat, (((I 9) * x2) + x3) = I (j4 : Int) ∧ j4 < 369 ∧ (GI g l X Q (sI h 117 j4 x4) 31 [(0, .ref 82), (1, .int x1), (2, .int x2), (3, .int (x3 + I 1))] []))) ∧ ((¬ ((h.1 82 38) ≤ x2)) → (SpI g l mX8_suits h [.ref 82, .int x5, .int x2, .int x3] (fun v5 hv5 => ((v5 = 0) → (GI g l X Q hv5 69 [(0, .ref 82), (1, .int x1), (2, .int x2), (3, .int x3), (4, .int x4), (5, .int (x5 + I 1))] [])) ∧ ((¬ (v5 = 0)) → (∃ j7 : Nat, ((((I 9) * (x2 + (I 1))) + x5) + (I 1)) = I (j7 : Int) ∧ j7 < 369 ∧ (((((hv5.1 117 j7) + (I 1)) ≤ x4) → (GI g l X Q hv5 69 [(0, .ref 82), (1, .int x1), (2, .int x2), (3, .int x3), (4, .int x4), (5, .int (x5 + I 1))] [])) ∧ ((¬ (((hv5.1 117 j7) + (I 1)) ≤ x4)) → (∃ j9 : Nat, ((((I 9) * (x2 + (I 1))) + x5) + (I 1)) = I (j9 : Int) ∧ j9 < 369 ∧ (GI g l X Q hv5 69 [(0, .ref 82), (1, .int x1), (2, .int x2), (3, .int x3), (4, .int ((hv5.1 117 j9) + (I 1))), (5, .int (x5 + I 1))] [])))))))))))) : GI g l X Q h 69 [(0, .ref 82), (1, .int x1), (2, .int x2), (3, .int x3), (4, .int x4), (5, .int x5)] [] := by
  refine g_iload (pc := 69) O rfl dX8_billed_69 ?_
  refine g_aloadn (pc := 71) O rfl dX8_billed_71 ?_
  refine g_getI (v := h.1 82 17) (pc := 72) O cls8 fl_X8_196 dX8_billed_72 rfl (ltb rfl) (ltb rfl) rfl rfl ?_
  refine g_icmp_ge (tgt := 151) (pc := 75) O dX8_billed_75 rfl (fun q1 => ?_) (fun q1 => ?_)
  · replace H := H.1 q1
    refine g_aloadn (pc := 151) O rfl dX8_billed_151 ?_
    refine g_getS (pc := 152) O cls8 fl_X8_113 dX8_billed_152 rfl (ltb rfl) (ltb rfl) rfl rfl ?_
    refine g_bipush (v := (I 9)) (pc := 155) O (by decide) dX8_billed_155 ?_
    refine g_iloadn (pc := 157) O rfl dX8_billed_157 ?_
    refine g_imul (pc := 158) O dX8_billed_158 ?_
    refine g_iloadn (pc := 159) O rfl dX8_billed_159 ?_
    refine g_iadd (pc := 160) O dX8_billed_160 ?_
    refine g_iload (pc := 161) O rfl dX8_billed_161 ?_
    obtain ⟨j2, ej2, bj2, H⟩ := H
    refine g_iast (j := j2) (pc := 163) O dX8_billed_163 ej2 rfl (ltb rfl) (leb rfl) bj2 (ltb rfl) ?_
    refine g_iinc (lv' := [(0, .ref 82), (1, .int x1), (2, .int x2), (3, .int (x3 + I 1)), (4, .int x4), (5, .int x5)]) (pc := 164) O dX8_billed_164 rfl rfl (ltb rfl) rfl ?_
    refine g_goto (tgt := 31) (pc := 167) O dX8_billed_167 rfl ?_
    refine g_sub [0, 1, 2, 3] rfl ?_
    exact H
  · replace H := H.2 q1
    refine g_iloadn (pc := 78) O rfl dX8_billed_78 ?_
    refine g_aloadn (pc := 79) O rfl dX8_billed_79 ?_
    refine g_getI (v := h.1 82 38) (pc := 80) O cls8 fl_X8_235 dX8_billed_80 rfl (ltb rfl) (ltb rfl) rfl rfl ?_
    refine g_icmp_ge (tgt := 151) (pc := 83) O dX8_billed_83 rfl (fun q3 => ?_) (fun q3 => ?_)
    · replace H := H.1 q3
      refine g_aloadn (pc := 151) O rfl dX8_billed_151 ?_
      refine g_getS (pc := 152) O cls8 fl_X8_113 dX8_billed_152 rfl (ltb rfl) (ltb rfl) rfl rfl ?_
      refine g_bipush (v := (I 9)) (pc := 155) O (by decide) dX8_billed_155 ?_
      refine g_iloadn (pc := 157) O rfl dX8_billed_157 ?_
      refine g_imul (pc := 158) O dX8_billed_158 ?_
      refine g_iloadn (pc := 159) O rfl dX8_billed_159 ?_
      refine g_iadd (pc := 160) O dX8_billed_160 ?_
      refine g_iload (pc := 161) O rfl dX8_billed_161 ?_
      obtain ⟨j4, ej4, bj4, H⟩ := H
      refine g_iast (j := j4) (pc := 163) O dX8_billed_163 ej4 rfl (ltb rfl) (leb rfl) bj4 (ltb rfl) ?_
      refine g_iinc (lv' := [(0, .ref 82), (1, .int x1), (2, .int x2), (3, .int (x3 + I 1)), (4, .int x4), (5, .int x5)]) (pc := 164) O dX8_billed_164 rfl rfl (ltb rfl) rfl ?_
      refine g_goto (tgt := 31) (pc := 167) O dX8_billed_167 rfl ?_
      refine g_sub [0, 1, 2, 3] rfl ?_
      exact H
    · replace H := H.2 q3
      refine g_aloadn (pc := 86) O rfl dX8_billed_86 ?_
      refine g_iload (pc := 87) O rfl dX8_billed_87 ?_
      refine g_iloadn (pc := 89) O rfl dX8_billed_89 ?_
      refine g_iloadn (pc := 90) O rfl dX8_billed_90 ?_
      refine g_vI [.int x5, .int x2, .int x3] [] (pc := 91) O mk_X8_suits ml_X8_264 im_X8_suits se_X8_suits cls8 rfl ⟨rfl, rfl, leb rfl, leb rfl⟩ rfl (leb rfl) dX8_billed_91 H rfl (fun v5 hv5 H => ?_)
      refine g_if_eq (tgt := 141) (pc := 94) O dX8_billed_94 rfl (fun q6 => ?_) (fun q6 => ?_)
      · replace H := H.1 q6
        refine g_iload (pc := 141) O rfl dX8_billed_141 ?_
        refine g_istore (lv' := [(0, .ref 82), (1, .int x1), (2, .int x2), (3, .int x3), (4, .int x4), (5, .int x5)]) (pc := 143) O dX8_billed_143 (ltb rfl) rfl ?_
        refine g_iinc (lv' := [(0, .ref 82), (1, .int x1), (2, .int x2), (3, .int x3), (4, .int x4), (5, .int (x5 + I 1))]) (pc := 145) O dX8_billed_145 rfl rfl (ltb rfl) rfl ?_
        refine g_goto (tgt := 69) (pc := 148) O dX8_billed_148 rfl ?_
        exact H
      · replace H := H.2 q6
        refine g_aloadn (pc := 97) O rfl dX8_billed_97 ?_
        refine g_getS (pc := 98) O cls8 fl_X8_113 dX8_billed_98 rfl (ltb rfl) (ltb rfl) rfl rfl ?_
        refine g_bipush (v := (I 9)) (pc := 101) O (by decide) dX8_billed_101 ?_
        refine g_iloadn (pc := 103) O rfl dX8_billed_103 ?_
        refine g_iconst (v := (I 1)) (pc := 104) O rfl dX8_billed_104 ?_
        refine g_iadd (pc := 105) O dX8_billed_105 ?_
        refine g_imul (pc := 106) O dX8_billed_106 ?_
        refine g_iload (pc := 107) O rfl dX8_billed_107 ?_
        refine g_iadd (pc := 109) O dX8_billed_109 ?_
        refine g_iconst (v := (I 1)) (pc := 110) O rfl dX8_billed_110 ?_
        refine g_iadd (pc := 111) O dX8_billed_111 ?_
        obtain ⟨j7, ej7, bj7, H⟩ := H
        refine g_iald (j := j7) (pc := 112) O dX8_billed_112 ej7 rfl (ltb rfl) bj7 (ltb rfl) rfl ?_
        refine g_iconst (v := (I 1)) (pc := 113) O rfl dX8_billed_113 ?_
        refine g_iadd (pc := 114) O dX8_billed_114 ?_
        refine g_iload (pc := 115) O rfl dX8_billed_115 ?_
        refine g_icmp_le (tgt := 141) (pc := 117) O dX8_billed_117 rfl (fun q8 => ?_) (fun q8 => ?_)
        · replace H := H.1 q8
          refine g_iload (pc := 141) O rfl dX8_billed_141 ?_
          refine g_istore (lv' := [(0, .ref 82), (1, .int x1), (2, .int x2), (3, .int x3), (4, .int x4), (5, .int x5)]) (pc := 143) O dX8_billed_143 (ltb rfl) rfl ?_
          refine g_iinc (lv' := [(0, .ref 82), (1, .int x1), (2, .int x2), (3, .int x3), (4, .int x4), (5, .int (x5 + I 1))]) (pc := 145) O dX8_billed_145 rfl rfl (ltb rfl) rfl ?_
          refine g_goto (tgt := 69) (pc := 148) O dX8_billed_148 rfl ?_
          exact H
        · replace H := H.2 q8
          refine g_aloadn (pc := 120) O rfl dX8_billed_120 ?_
          refine g_getS (pc := 121) O cls8 fl_X8_113 dX8_billed_121 rfl (ltb rfl) (ltb rfl) rfl rfl ?_
          refine g_bipush (v := (I 9)) (pc := 124) O (by decide) dX8_billed_124 ?_
          refine g_iloadn (pc := 126) O rfl dX8_billed_126 ?_
          refine g_iconst (v := (I 1)) (pc := 127) O rfl dX8_billed_127 ?_
          refine g_iadd (pc := 128) O dX8_billed_128 ?_
          refine g_imul (pc := 129) O dX8_billed_129 ?_
          refine g_iload (pc := 130) O rfl dX8_billed_130 ?_
          refine g_iadd (pc := 132) O dX8_billed_132 ?_
          refine g_iconst (v := (I 1)) (pc := 133) O rfl dX8_billed_133 ?_
          refine g_iadd (pc := 134) O dX8_billed_134 ?_
          obtain ⟨j9, ej9, bj9, H⟩ := H
          refine g_iald (j := j9) (pc := 135) O dX8_billed_135 ej9 rfl (ltb rfl) bj9 (ltb rfl) rfl ?_
          refine g_iconst (v := (I 1)) (pc := 136) O rfl dX8_billed_136 ?_
          refine g_iadd (pc := 137) O dX8_billed_137 ?_
          refine g_goto (tgt := 143) (pc := 138) O dX8_billed_138 rfl ?_
          refine g_istore (lv' := [(0, .ref 82), (1, .int x1), (2, .int x2), (3, .int x3), (4, .int ((hv5.1 117 j9) + (I 1))), (5, .int x5)]) (pc := 143) O dX8_billed_143 (ltb rfl) rfl ?_
          refine g_iinc (lv' := [(0, .ref 82), (1, .int x1), (2, .int x2), (3, .int x3), (4, .int ((hv5.1 117 j9) + (I 1))), (5, .int (x5 + I 1))]) (pc := 145) O dX8_billed_145 rfl rfl (ltb rfl) rfl ?_
          refine g_goto (tgt := 69) (pc := 148) O dX8_billed_148 rfl ?_
          exact H
set_option maxRecDepth 20000 in
set_option maxHeartbeats 2000000 in
theorem bX8_billed_188 {g : mg} {l : Launch} {X : XT} {Q : Int32 → AH → Prop} (O : Ok (FF g l X) RX8 cX8_billed 6 mX8_billed.2.2.2.2 (some .int)) {x1 : Int32} {x2 : Int32} {x3 : Int32} {x4 : Int32} {h : AH} (H : ((x1 < x4) → (Q x3 h)) ∧ ((¬ (x1 < x4)) → (GI g l X Q h 204 [(0, .ref 82), (1, .int x1), (2, .int x2), (3, .int (I 0)), (4, .int x4), (5, .int ((h.1 82 17) - (I 1)))] []))) : GI g l X Q h 188 [(0, .ref 82), (1, .int x1), (2, .int x2), (3, .int x3), (4, .int x4)] [] := by
  refine g_iload (pc := 188) O rfl dX8_billed_188 ?_
  refine g_iloadn (pc := 190) O rfl dX8_billed_190 ?_
  refine g_icmp_gt (tgt := 315) (pc := 191) O dX8_billed_191 rfl (fun q1 => ?_) (fun q1 => ?_)
  · replace H := H.1 q1
    refine g_iloadn (pc := 315) O rfl dX8_billed_315 ?_
    exact g_iret (pc := 316) O dX8_billed_316 H
  · replace H := H.2 q1
    refine g_iconst (v := (I 0)) (pc := 194) O rfl dX8_billed_194 ?_
    refine g_istoren (lv' := [(0, .ref 82), (1, .int x1), (2, .int x2), (3, .int (I 0)), (4, .int x4)]) (pc := 195) O dX8_billed_195 rfl (ltb rfl) rfl ?_
    refine g_aloadn (pc := 196) O rfl dX8_billed_196 ?_
    refine g_getI (v := h.1 82 17) (pc := 197) O cls8 fl_X8_196 dX8_billed_197 rfl (ltb rfl) (ltb rfl) rfl rfl ?_
    refine g_iconst (v := (I 1)) (pc := 200) O rfl dX8_billed_200 ?_
    refine g_isub (pc := 201) O dX8_billed_201 ?_
    refine g_istore (lv' := [(0, .ref 82), (1, .int x1), (2, .int x2), (3, .int (I 0)), (4, .int x4), (5, .int ((h.1 82 17) - (I 1)))]) (pc := 202) O dX8_billed_202 (ltb rfl) rfl ?_
    exact H
set_option maxRecDepth 20000 in
set_option maxHeartbeats 2000000 in
theorem bX8_billed_204 {g : mg} {l : Launch} {X : XT} {Q : Int32 → AH → Prop} (O : Ok (FF g l X) RX8 cX8_billed 6 mX8_billed.2.2.2.2 (some .int)) {x1 : Int32} {x2 : Int32} {x3 : Int32} {x4 : Int32} {x5 : Int32} {h : AH} (H : ((x5 < 0) → (((x3 ≤ 0) → (GI g l X Q h 188 [(0, .ref 82), (1, .int x1), (2, .int x2), (3, .int x3), (4, .int (x4 + I 1))] [])) ∧ ((¬ (x3 ≤ 0)) → (GI g l X Q h 188 [(0, .ref 82), (1, .int x1), (2, .int x3), (3, .int x3), (4, .int (x4 + I 1))] [])))) ∧ ((¬ (x5 < 0)) → (∃ j3 : Nat, (((I 9) * (x4 + (I 1))) + x2) = I (j3 : Int) ∧ j3 < 369 ∧ (∃ j4 : Nat, (((I 9) * x4) + x2) = I (j4 : Int) ∧ j4 < 369 ∧ ((((h.1 117 j3) = (h.1 117 j4)) → (((x3 ≤ 0) → (GI g l X Q h 188 [(0, .ref 82), (1, .int x1), (2, .int x2), (3, .int x3), (4, .int (x4 + I 1))] [])) ∧ ((¬ (x3 ≤ 0)) → (GI g l X Q h 188 [(0, .ref 82), (1, .int x1), (2, .int x3), (3, .int x3), (4, .int (x4 + I 1))] [])))) ∧ ((¬ ((h.1 117 j3) = (h.1 117 j4))) → (SpI g l mX8_suits h [.ref 82, .int x5, .int x4, .int x2] (fun v7 hv7 => ((v7 = 0) → (GI g l X Q hv7 204 [(0, .ref 82), (1, .int x1), (2, .int x2), (3, .int x3), (4, .int x4), (5, .int (x5 + I (-1)))] [])) ∧ ((¬ (v7 = 0)) → (∃ j9 : Nat, ((((I 9) * (x4 + (I 1))) + x5) + (I 1)) = I (j9 : Int) ∧ j9 < 369 ∧ (∃ j10 : Nat, (((I 9) * x4) + x2) = I (j10 : Int) ∧ j10 < 369 ∧ (((¬ ((hv7.1 117 j9) + (I 1)) = (hv7.1 117 j10)) → (GI g l X Q hv7 204 [(0, .ref 82), (1, .int x1), (2, .int x2), (3, .int x3), (4, .int x4), (5, .int (x5 + I (-1)))] [])) ∧ ((((hv7.1 117 j9) + (I 1)) = (hv7.1 117 j10)) → (GI g l X Q hv7 204 [(0, .ref 82), (1, .int x1), (2, .int x2), (3, .int (x5 + (I 1))), (4, .int x4), (5, .int (x5 + I (-1)))] [])))))))))))))) : GI g l X Q h 204 [(0, .ref 82), (1, .int x1), (2, .int x2), (3, .int x3), (4, .int x4), (5, .int x5)] [] := by
  refine g_iload (pc := 204) O rfl dX8_billed_204 ?_
  refine g_if_lt (tgt := 299) (pc := 206) O dX8_billed_206 rfl (fun q1 => ?_) (fun q1 => ?_)
  · replace H := H.1 q1
    refine g_iloadn (pc := 299) O rfl dX8_billed_299 ?_
    refine g_if_le (tgt := 307) (pc := 300) O dX8_billed_300 rfl (fun q2 => ?_) (fun q2 => ?_)
    · replace H := H.1 q2
      refine g_iloadn (pc := 307) O rfl dX8_billed_307 ?_
      refine g_istoren (lv' := [(0, .ref 82), (1, .int x1), (2, .int x2), (3, .int x3), (4, .int x4), (5, .int x5)]) (pc := 308) O dX8_billed_308 rfl (ltb rfl) rfl ?_
      refine g_iinc (lv' := [(0, .ref 82), (1, .int x1), (2, .int x2), (3, .int x3), (4, .int (x4 + I 1)), (5, .int x5)]) (pc := 309) O dX8_billed_309 rfl rfl (ltb rfl) rfl ?_
      refine g_goto (tgt := 188) (pc := 312) O dX8_billed_312 rfl ?_
      refine g_sub [0, 1, 2, 3, 4] rfl ?_
      exact H
    · replace H := H.2 q2
      refine g_iloadn (pc := 303) O rfl dX8_billed_303 ?_
      refine g_goto (tgt := 308) (pc := 304) O dX8_billed_304 rfl ?_
      refine g_istoren (lv' := [(0, .ref 82), (1, .int x1), (2, .int x3), (3, .int x3), (4, .int x4), (5, .int x5)]) (pc := 308) O dX8_billed_308 rfl (ltb rfl) rfl ?_
      refine g_iinc (lv' := [(0, .ref 82), (1, .int x1), (2, .int x3), (3, .int x3), (4, .int (x4 + I 1)), (5, .int x5)]) (pc := 309) O dX8_billed_309 rfl rfl (ltb rfl) rfl ?_
      refine g_goto (tgt := 188) (pc := 312) O dX8_billed_312 rfl ?_
      refine g_sub [0, 1, 2, 3, 4] rfl ?_
      exact H
  · replace H := H.2 q1
    refine g_aloadn (pc := 209) O rfl dX8_billed_209 ?_
    refine g_getS (pc := 210) O cls8 fl_X8_113 dX8_billed_210 rfl (ltb rfl) (ltb rfl) rfl rfl ?_
    refine g_bipush (v := (I 9)) (pc := 213) O (by decide) dX8_billed_213 ?_
    refine g_iload (pc := 215) O rfl dX8_billed_215 ?_
    refine g_iconst (v := (I 1)) (pc := 217) O rfl dX8_billed_217 ?_
    refine g_iadd (pc := 218) O dX8_billed_218 ?_
    refine g_imul (pc := 219) O dX8_billed_219 ?_
    refine g_iloadn (pc := 220) O rfl dX8_billed_220 ?_
    refine g_iadd (pc := 221) O dX8_billed_221 ?_
    obtain ⟨j3, ej3, bj3, H⟩ := H
    refine g_iald (j := j3) (pc := 222) O dX8_billed_222 ej3 rfl (ltb rfl) bj3 (ltb rfl) rfl ?_
    refine g_aloadn (pc := 223) O rfl dX8_billed_223 ?_
    refine g_getS (pc := 224) O cls8 fl_X8_113 dX8_billed_224 rfl (ltb rfl) (ltb rfl) rfl rfl ?_
    refine g_bipush (v := (I 9)) (pc := 227) O (by decide) dX8_billed_227 ?_
    refine g_iload (pc := 229) O rfl dX8_billed_229 ?_
    refine g_imul (pc := 231) O dX8_billed_231 ?_
    refine g_iloadn (pc := 232) O rfl dX8_billed_232 ?_
    refine g_iadd (pc := 233) O dX8_billed_233 ?_
    obtain ⟨j4, ej4, bj4, H⟩ := H
    refine g_iald (j := j4) (pc := 234) O dX8_billed_234 ej4 rfl (ltb rfl) bj4 (ltb rfl) rfl ?_
    refine g_icmp_eq (tgt := 299) (pc := 235) O dX8_billed_235 rfl (fun q5 => ?_) (fun q5 => ?_)
    · replace H := H.1 q5
      refine g_iloadn (pc := 299) O rfl dX8_billed_299 ?_
      refine g_if_le (tgt := 307) (pc := 300) O dX8_billed_300 rfl (fun q6 => ?_) (fun q6 => ?_)
      · replace H := H.1 q6
        refine g_iloadn (pc := 307) O rfl dX8_billed_307 ?_
        refine g_istoren (lv' := [(0, .ref 82), (1, .int x1), (2, .int x2), (3, .int x3), (4, .int x4), (5, .int x5)]) (pc := 308) O dX8_billed_308 rfl (ltb rfl) rfl ?_
        refine g_iinc (lv' := [(0, .ref 82), (1, .int x1), (2, .int x2), (3, .int x3), (4, .int (x4 + I 1)), (5, .int x5)]) (pc := 309) O dX8_billed_309 rfl rfl (ltb rfl) rfl ?_
        refine g_goto (tgt := 188) (pc := 312) O dX8_billed_312 rfl ?_
        refine g_sub [0, 1, 2, 3, 4] rfl ?_
        exact H
      · replace H := H.2 q6
        refine g_iloadn (pc := 303) O rfl dX8_billed_303 ?_
        refine g_goto (tgt := 308) (pc := 304) O dX8_billed_304 rfl ?_
        refine g_istoren (lv' := [(0, .ref 82), (1, .int x1), (2, .int x3), (3, .int x3), (4, .int x4), (5, .int x5)]) (pc := 308) O dX8_billed_308 rfl (ltb rfl) rfl ?_
        refine g_iinc (lv' := [(0, .ref 82), (1, .int x1), (2, .int x3), (3, .int x3), (4, .int (x4 + I 1)), (5, .int x5)]) (pc := 309) O dX8_billed_309 rfl rfl (ltb rfl) rfl ?_
        refine g_goto (tgt := 188) (pc := 312) O dX8_billed_312 rfl ?_
        refine g_sub [0, 1, 2, 3, 4] rfl ?_
        exact H
    · replace H := H.2 q5
      refine g_aloadn (pc := 238) O rfl dX8_billed_238 ?_
      refine g_iload (pc := 239) O rfl dX8_billed_239 ?_
      refine g_iload (pc := 241) O rfl dX8_billed_241 ?_
      refine g_iloadn (pc := 243) O rfl dX8_billed_243 ?_
      refine g_vI [.int x5, .int x4, .int x2] [] (pc := 244) O mk_X8_suits ml_X8_264 im_X8_suits se_X8_suits cls8 rfl ⟨rfl, rfl, leb rfl, leb rfl⟩ rfl (leb rfl) dX8_billed_244 H rfl (fun v7 hv7 H => ?_)
      refine g_if_eq (tgt := 291) (pc := 247) O dX8_billed_247 rfl (fun q8 => ?_) (fun q8 => ?_)
      · replace H := H.1 q8
        refine g_iloadn (pc := 291) O rfl dX8_billed_291 ?_
        refine g_istoren (lv' := [(0, .ref 82), (1, .int x1), (2, .int x2), (3, .int x3), (4, .int x4), (5, .int x5)]) (pc := 292) O dX8_billed_292 rfl (ltb rfl) rfl ?_
        refine g_iinc (lv' := [(0, .ref 82), (1, .int x1), (2, .int x2), (3, .int x3), (4, .int x4), (5, .int (x5 + I (-1)))]) (pc := 293) O dX8_billed_293 rfl rfl (ltb rfl) rfl ?_
        refine g_goto (tgt := 204) (pc := 296) O dX8_billed_296 rfl ?_
        exact H
      · replace H := H.2 q8
        refine g_aloadn (pc := 250) O rfl dX8_billed_250 ?_
        refine g_getS (pc := 251) O cls8 fl_X8_113 dX8_billed_251 rfl (ltb rfl) (ltb rfl) rfl rfl ?_
        refine g_bipush (v := (I 9)) (pc := 254) O (by decide) dX8_billed_254 ?_
        refine g_iload (pc := 256) O rfl dX8_billed_256 ?_
        refine g_iconst (v := (I 1)) (pc := 258) O rfl dX8_billed_258 ?_
        refine g_iadd (pc := 259) O dX8_billed_259 ?_
        refine g_imul (pc := 260) O dX8_billed_260 ?_
        refine g_iload (pc := 261) O rfl dX8_billed_261 ?_
        refine g_iadd (pc := 263) O dX8_billed_263 ?_
        refine g_iconst (v := (I 1)) (pc := 264) O rfl dX8_billed_264 ?_
        refine g_iadd (pc := 265) O dX8_billed_265 ?_
        obtain ⟨j9, ej9, bj9, H⟩ := H
        refine g_iald (j := j9) (pc := 266) O dX8_billed_266 ej9 rfl (ltb rfl) bj9 (ltb rfl) rfl ?_
        refine g_iconst (v := (I 1)) (pc := 267) O rfl dX8_billed_267 ?_
        refine g_iadd (pc := 268) O dX8_billed_268 ?_
        refine g_aloadn (pc := 269) O rfl dX8_billed_269 ?_
        refine g_getS (pc := 270) O cls8 fl_X8_113 dX8_billed_270 rfl (ltb rfl) (ltb rfl) rfl rfl ?_
        refine g_bipush (v := (I 9)) (pc := 273) O (by decide) dX8_billed_273 ?_
        refine g_iload (pc := 275) O rfl dX8_billed_275 ?_
        refine g_imul (pc := 277) O dX8_billed_277 ?_
        refine g_iloadn (pc := 278) O rfl dX8_billed_278 ?_
        refine g_iadd (pc := 279) O dX8_billed_279 ?_
        obtain ⟨j10, ej10, bj10, H⟩ := H
        refine g_iald (j := j10) (pc := 280) O dX8_billed_280 ej10 rfl (ltb rfl) bj10 (ltb rfl) rfl ?_
        refine g_icmp_ne (tgt := 291) (pc := 281) O dX8_billed_281 rfl (fun q11 => ?_) (fun q11 => ?_)
        · replace H := H.1 q11
          refine g_iloadn (pc := 291) O rfl dX8_billed_291 ?_
          refine g_istoren (lv' := [(0, .ref 82), (1, .int x1), (2, .int x2), (3, .int x3), (4, .int x4), (5, .int x5)]) (pc := 292) O dX8_billed_292 rfl (ltb rfl) rfl ?_
          refine g_iinc (lv' := [(0, .ref 82), (1, .int x1), (2, .int x2), (3, .int x3), (4, .int x4), (5, .int (x5 + I (-1)))]) (pc := 293) O dX8_billed_293 rfl rfl (ltb rfl) rfl ?_
          refine g_goto (tgt := 204) (pc := 296) O dX8_billed_296 rfl ?_
          exact H
        · replace H := H.2 q11
          refine g_iload (pc := 284) O rfl dX8_billed_284 ?_
          refine g_iconst (v := (I 1)) (pc := 286) O rfl dX8_billed_286 ?_
          refine g_iadd (pc := 287) O dX8_billed_287 ?_
          refine g_goto (tgt := 292) (pc := 288) O dX8_billed_288 rfl ?_
          refine g_istoren (lv' := [(0, .ref 82), (1, .int x1), (2, .int x2), (3, .int (x5 + (I 1))), (4, .int x4), (5, .int x5)]) (pc := 292) O dX8_billed_292 rfl (ltb rfl) rfl ?_
          refine g_iinc (lv' := [(0, .ref 82), (1, .int x1), (2, .int x2), (3, .int (x5 + (I 1))), (4, .int x4), (5, .int (x5 + I (-1)))]) (pc := 293) O dX8_billed_293 rfl rfl (ltb rfl) rfl ?_
          refine g_goto (tgt := 204) (pc := 296) O dX8_billed_296 rfl ?_
          exact H
set_option maxRecDepth 20000 in
set_option maxHeartbeats 2000000 in
theorem sX8_billed {g : mg} {l : Launch} {Q : Int32 → AH → Prop} {x1 : Int32} {h : AH} (H : ∀ X, Ok (FF g l X) RX8 cX8_billed 6 mX8_billed.2.2.2.2 (some .int) → SpV g l mX8_make h [.ref 82] (fun hv1 => SpI g l mX8_in hv1 [.int x1, .int (I (-1)), .int ((hv1.1 82 38) - (I 1))] (fun v2 hv2 => ((¬ v2 = 0) → (GI g l X Q hv2 25 [(0, .ref 82), (1, .int x1), (2, .int (hv2.1 82 38))] [])) ∧ ((v2 = 0) → (Q (I (-1)) hv2))))) : SpI g l mX8_billed h [.ref 82, .int x1] Q := spI_of (by decide) (leb rfl) (fun X O => bX8_billed_0 O (H X O))
set_option maxRecDepth 20000 in
set_option maxHeartbeats 2000000 in
theorem bX8_enough_0 {g : mg} {l : Launch} {X : XT} {Q : Int32 → AH → Prop} (O : Ok (FF g l X) RX8 cX8_enough 13 mX8_enough.2.2.2.2 (some .int)) {x1 : Int32} {x2 : Int32} {h : AH} (H : SpI g l mX8_in h [.int x1, .int (I 1), .int (I 10)] (fun v1 hv1 => ((v1 = 0) → (Q (I (-1)) hv1)) ∧ ((¬ (v1 = 0)) → (SpI g l mX8_in hv1 [.int x2, .int (I 0), .int (I 100)] (fun v3 hv3 => ((¬ v3 = 0) → (GI g l X Q hv3 30 [(0, .ref 82), (1, .int x1), (2, .int x2), (3, .long 1), (5, .long 1), (7, .int (I 1))] [])) ∧ ((v3 = 0) → (Q (I (-1)) hv3))))))) : GI g l X Q h 0 [(0, .ref 82), (1, .int x1), (2, .int x2)] [] := by
  refine g_iloadn (pc := 0) O rfl dX8_enough_0 ?_
  refine g_iconst (v := (I 1)) (pc := 1) O rfl dX8_enough_1 ?_
  refine g_bipush (v := (I 10)) (pc := 2) O (by decide) dX8_enough_2 ?_
  refine g_sI [.int x1, .int (I 1), .int (I 10)] [] (pc := 4) O mk_X8_in ml_X8_116 sm_X8_in ⟨rfl, rfl, leb rfl, leb rfl⟩ rfl (leb rfl) dX8_enough_4 H rfl (fun v1 hv1 H => ?_)
  refine g_if_eq (tgt := 20) (pc := 7) O dX8_enough_7 rfl (fun q2 => ?_) (fun q2 => ?_)
  · replace H := H.1 q2
    refine g_iconst (v := (I (-1))) (pc := 20) O rfl dX8_enough_20 ?_
    exact g_iret (pc := 21) O dX8_enough_21 H
  · replace H := H.2 q2
    refine g_iloadn (pc := 10) O rfl dX8_enough_10 ?_
    refine g_iconst (v := (I 0)) (pc := 11) O rfl dX8_enough_11 ?_
    refine g_bipush (v := (I 100)) (pc := 12) O (by decide) dX8_enough_12 ?_
    refine g_sI [.int x2, .int (I 0), .int (I 100)] [] (pc := 14) O mk_X8_in ml_X8_116 sm_X8_in ⟨rfl, rfl, leb rfl, leb rfl⟩ rfl (leb rfl) dX8_enough_14 H rfl (fun v3 hv3 H => ?_)
    refine g_if_ne (tgt := 22) (pc := 17) O dX8_enough_17 rfl (fun q4 => ?_) (fun q4 => ?_)
    · replace H := H.1 q4
      refine g_lconst (v := 1) (pc := 22) O (by decide) dX8_enough_22 ?_
      refine g_lstoren (lv' := [(0, .ref 82), (1, .int x1), (2, .int x2), (3, .long 1)]) (pc := 23) O dX8_enough_23 rfl (ltb rfl) rfl ?_
      refine g_lconst (v := 1) (pc := 24) O (by decide) dX8_enough_24 ?_
      refine g_lstore (lv' := [(0, .ref 82), (1, .int x1), (2, .int x2), (3, .long 1), (5, .long 1)]) (pc := 25) O dX8_enough_25 (ltb rfl) rfl ?_
      refine g_iconst (v := (I 1)) (pc := 27) O rfl dX8_enough_27 ?_
      refine g_istore (lv' := [(0, .ref 82), (1, .int x1), (2, .int x2), (3, .long 1), (5, .long 1), (7, .int (I 1))]) (pc := 28) O dX8_enough_28 (ltb rfl) rfl ?_
      exact H
    · replace H := H.2 q4
      refine g_iconst (v := (I (-1))) (pc := 20) O rfl dX8_enough_20 ?_
      exact g_iret (pc := 21) O dX8_enough_21 H
set_option maxRecDepth 20000 in
set_option maxHeartbeats 2000000 in
theorem bX8_enough_30 {g : mg} {l : Launch} {X : XT} {Q : Int32 → AH → Prop} (O : Ok (FF g l X) RX8 cX8_enough 13 mX8_enough.2.2.2.2 (some .int)) {x1 : Int32} {x2 : Int32} {x3 : Int64} {x5 : Int64} {x7 : Int32} {h : AH} (H : (((I 9) < x7) → (Q (I (-9)) h)) ∧ ((¬ ((I 9) < x7)) → (¬ ((10) * x3) = 0 ∧ (GI g l X Q h 75 [(0, .ref 82), (1, .int x1), (2, .int x2), (3, .long ((10) * x3)), (5, .long (((h.1 101 4)).toInt64 * x5)), (7, .int x7), (8, .long (((1000000) * (((10) * x3) - (((h.1 101 4)).toInt64 * x5))) / ((10) * x3))), (10, .long (1000000)), (12, .int (I 0))] [])))) : GI g l X Q h 30 [(0, .ref 82), (1, .int x1), (2, .int x2), (3, .long x3), (5, .long x5), (7, .int x7)] [] := by
  refine g_iload (pc := 30) O rfl dX8_enough_30 ?_
  refine g_bipush (v := (I 9)) (pc := 32) O (by decide) dX8_enough_32 ?_
  refine g_icmp_gt (tgt := 119) (pc := 34) O dX8_enough_34 rfl (fun q1 => ?_) (fun q1 => ?_)
  · replace H := H.1 q1
    refine g_bipush (v := (I (-9))) (pc := 119) O (by decide) dX8_enough_119 ?_
    exact g_iret (pc := 121) O dX8_enough_121 H
  · replace H := H.2 q1
    refine g_ldc2 (pc := 37) O co_X8_267 dX8_enough_37 ?_
    refine g_lloadn (pc := 40) O rfl dX8_enough_40 ?_
    refine g_lmul (pc := 41) O dX8_enough_41 ?_
    refine g_lstoren (lv' := [(0, .ref 82), (1, .int x1), (2, .int x2), (3, .long ((10) * x3)), (5, .long x5), (7, .int x7)]) (pc := 42) O dX8_enough_42 rfl (ltb rfl) rfl ?_
    refine g_aloadn (pc := 43) O rfl dX8_enough_43 ?_
    refine g_getS (pc := 44) O cls8 fl_X8_64 dX8_enough_44 rfl (ltb rfl) (ltb rfl) rfl rfl ?_
    refine g_iconst (v := (I 4)) (pc := 47) O rfl dX8_enough_47 ?_
    refine g_iald (j := 4) (pc := 48) O dX8_enough_48 rfl rfl (ltb rfl) (ltb rfl) (ltb rfl) rfl ?_
    refine g_i2l (pc := 49) O dX8_enough_49 ?_
    refine g_lload (pc := 50) O rfl dX8_enough_50 ?_
    refine g_lmul (pc := 52) O dX8_enough_52 ?_
    refine g_lstore (lv' := [(0, .ref 82), (1, .int x1), (2, .int x2), (3, .long ((10) * x3)), (5, .long (((h.1 101 4)).toInt64 * x5)), (7, .int x7)]) (pc := 53) O dX8_enough_53 (ltb rfl) rfl ?_
    refine g_ldc2 (pc := 55) O co_X8_269 dX8_enough_55 ?_
    refine g_lloadn (pc := 58) O rfl dX8_enough_58 ?_
    refine g_lload (pc := 59) O rfl dX8_enough_59 ?_
    refine g_lsub (pc := 61) O dX8_enough_61 ?_
    refine g_lmul (pc := 62) O dX8_enough_62 ?_
    refine g_lloadn (pc := 63) O rfl dX8_enough_63 ?_
    obtain ⟨q3, H⟩ := H
    refine g_ldiv (pc := 64) O q3 dX8_enough_64 ?_
    refine g_lstore (lv' := [(0, .ref 82), (1, .int x1), (2, .int x2), (3, .long ((10) * x3)), (5, .long (((h.1 101 4)).toInt64 * x5)), (7, .int x7), (8, .long (((1000000) * (((10) * x3) - (((h.1 101 4)).toInt64 * x5))) / ((10) * x3)))]) (pc := 65) O dX8_enough_65 (ltb rfl) rfl ?_
    refine g_ldc2 (pc := 67) O co_X8_269 dX8_enough_67 ?_
    refine g_lstore (lv' := [(0, .ref 82), (1, .int x1), (2, .int x2), (3, .long ((10) * x3)), (5, .long (((h.1 101 4)).toInt64 * x5)), (7, .int x7), (8, .long (((1000000) * (((10) * x3) - (((h.1 101 4)).toInt64 * x5))) / ((10) * x3))), (10, .long (1000000))]) (pc := 70) O dX8_enough_70 (ltb rfl) rfl ?_
    refine g_iconst (v := (I 0)) (pc := 72) O rfl dX8_enough_72 ?_
    refine g_istore (lv' := [(0, .ref 82), (1, .int x1), (2, .int x2), (3, .long ((10) * x3)), (5, .long (((h.1 101 4)).toInt64 * x5)), (7, .int x7), (8, .long (((1000000) * (((10) * x3) - (((h.1 101 4)).toInt64 * x5))) / ((10) * x3))), (10, .long (1000000)), (12, .int (I 0))]) (pc := 73) O dX8_enough_73 (ltb rfl) rfl ?_
    exact H
set_option maxRecDepth 20000 in
set_option maxHeartbeats 2000000 in
theorem bX8_enough_75 {g : mg} {l : Launch} {X : XT} {Q : Int32 → AH → Prop} (O : Ok (FF g l X) RX8 cX8_enough 13 mX8_enough.2.2.2.2 (some .int)) {x1 : Int32} {x2 : Int32} {x3 : Int64} {x5 : Int64} {x7 : Int32} {x8 : Int64} {x10 : Int64} {x12 : Int32} {h : AH} (H : ((x1 ≤ x12) → ((((lg_cmp x10 ((10000) * (x2).toInt64)) < 0) → (GI g l X Q h 30 [(0, .ref 82), (1, .int x1), (2, .int x2), (3, .long x3), (5, .long x5), (7, .int (x7 + I 1))] [])) ∧ ((¬ ((lg_cmp x10 ((10000) * (x2).toInt64)) < 0)) → (Q x7 h)))) ∧ ((¬ (x1 ≤ x12)) → (GI g l X Q h 75 [(0, .ref 82), (1, .int x1), (2, .int x2), (3, .long x3), (5, .long x5), (7, .int x7), (8, .long x8), (10, .long ((x10 * x8) / (1000000))), (12, .int (x12 + I 1))] []))) : GI g l X Q h 75 [(0, .ref 82), (1, .int x1), (2, .int x2), (3, .long x3), (5, .long x5), (7, .int x7), (8, .long x8), (10, .long x10), (12, .int x12)] [] := by
  refine g_iload (pc := 75) O rfl dX8_enough_75 ?_
  refine g_iloadn (pc := 77) O rfl dX8_enough_77 ?_
  refine g_icmp_ge (tgt := 98) (pc := 78) O dX8_enough_78 rfl (fun q1 => ?_) (fun q1 => ?_)
  · replace H := H.1 q1
    refine g_lload (pc := 98) O rfl dX8_enough_98 ?_
    refine g_ldc2 (pc := 100) O co_X8_271 dX8_enough_100 ?_
    refine g_iloadn (pc := 103) O rfl dX8_enough_103 ?_
    refine g_i2l (pc := 104) O dX8_enough_104 ?_
    refine g_lmul (pc := 105) O dX8_enough_105 ?_
    refine g_lcmp (pc := 106) O dX8_enough_106 ?_
    refine g_if_lt (tgt := 113) (pc := 107) O dX8_enough_107 rfl (fun q2 => ?_) (fun q2 => ?_)
    · replace H := H.1 q2
      refine g_iinc (lv' := [(0, .ref 82), (1, .int x1), (2, .int x2), (3, .long x3), (5, .long x5), (7, .int (x7 + I 1)), (8, .long x8), (10, .long x10), (12, .int x12)]) (pc := 113) O dX8_enough_113 rfl rfl (ltb rfl) rfl ?_
      refine g_goto (tgt := 30) (pc := 116) O dX8_enough_116 rfl ?_
      refine g_sub [0, 1, 2, 3, 4, 5] rfl ?_
      exact H
    · replace H := H.2 q2
      refine g_iload (pc := 110) O rfl dX8_enough_110 ?_
      exact g_iret (pc := 112) O dX8_enough_112 H
  · replace H := H.2 q1
    refine g_lload (pc := 81) O rfl dX8_enough_81 ?_
    refine g_lload (pc := 83) O rfl dX8_enough_83 ?_
    refine g_lmul (pc := 85) O dX8_enough_85 ?_
    refine g_ldc2 (pc := 86) O co_X8_269 dX8_enough_86 ?_
    refine g_ldiv (pc := 89) O (by decide) dX8_enough_89 ?_
    refine g_lstore (lv' := [(0, .ref 82), (1, .int x1), (2, .int x2), (3, .long x3), (5, .long x5), (7, .int x7), (8, .long x8), (10, .long ((x10 * x8) / (1000000))), (12, .int x12)]) (pc := 90) O dX8_enough_90 (ltb rfl) rfl ?_
    refine g_iinc (lv' := [(0, .ref 82), (1, .int x1), (2, .int x2), (3, .long x3), (5, .long x5), (7, .int x7), (8, .long x8), (10, .long ((x10 * x8) / (1000000))), (12, .int (x12 + I 1))]) (pc := 92) O dX8_enough_92 rfl rfl (ltb rfl) rfl ?_
    refine g_goto (tgt := 75) (pc := 95) O dX8_enough_95 rfl ?_
    exact H
set_option maxRecDepth 20000 in
set_option maxHeartbeats 2000000 in
theorem sX8_enough {g : mg} {l : Launch} {Q : Int32 → AH → Prop} {x1 : Int32} {x2 : Int32} {h : AH} (H : ∀ X, Ok (FF g l X) RX8 cX8_enough 13 mX8_enough.2.2.2.2 (some .int) → SpI g l mX8_in h [.int x1, .int (I 1), .int (I 10)] (fun v1 hv1 => ((v1 = 0) → (Q (I (-1)) hv1)) ∧ ((¬ (v1 = 0)) → (SpI g l mX8_in hv1 [.int x2, .int (I 0), .int (I 100)] (fun v3 hv3 => ((¬ v3 = 0) → (GI g l X Q hv3 30 [(0, .ref 82), (1, .int x1), (2, .int x2), (3, .long 1), (5, .long 1), (7, .int (I 1))] [])) ∧ ((v3 = 0) → (Q (I (-1)) hv3))))))) : SpI g l mX8_enough h [.ref 82, .int x1, .int x2] Q := spI_of (by decide) (leb rfl) (fun X O => bX8_enough_0 O (H X O))
set_option maxRecDepth 20000 in
set_option maxHeartbeats 2000000 in
theorem bX8_next_0 {g : mg} {l : Launch} {X : XT} {Q : Int32 → AH → Prop} (O : Ok (FF g l X) RX8 cX8_next 9 mX8_next.2.2.2.2 (some .int))  {h : AH} (H : SpV g l mX8_make h [.ref 82] (fun hv1 => GI g l X Q hv1 11 [(0, .ref 82), (1, .int (I (-9))), (2, .int (I (-1))), (3, .int (I 0))] [])) : GI g l X Q h 0 [(0, .ref 82)] [] := by
  refine g_aloadn (pc := 0) O rfl dX8_next_0 ?_
  refine g_vV [] [] (pc := 1) O mk_X8_make ml_X8_205 im_X8_make se_X8_make cls8 rfl ⟨rfl, rfl, leb rfl, leb rfl⟩ rfl (leb rfl) dX8_next_1 H rfl (fun hv1 H => ?_)
  refine g_bipush (v := (I (-9))) (pc := 4) O (by decide) dX8_next_4 ?_
  refine g_istoren (lv' := [(0, .ref 82), (1, .int (I (-9)))]) (pc := 6) O dX8_next_6 rfl (ltb rfl) rfl ?_
  refine g_iconst (v := (I (-1))) (pc := 7) O rfl dX8_next_7 ?_
  refine g_istoren (lv' := [(0, .ref 82), (1, .int (I (-9))), (2, .int (I (-1)))]) (pc := 8) O dX8_next_8 rfl (ltb rfl) rfl ?_
  refine g_iconst (v := (I 0)) (pc := 9) O rfl dX8_next_9 ?_
  refine g_istoren (lv' := [(0, .ref 82), (1, .int (I (-9))), (2, .int (I (-1))), (3, .int (I 0))]) (pc := 10) O dX8_next_10 rfl (ltb rfl) rfl ?_
  exact H
set_option maxRecDepth 20000 in
set_option maxHeartbeats 2000000 in
theorem bX8_next_11 {g : mg} {l : Launch} {X : XT} {Q : Int32 → AH → Prop} (O : Ok (FF g l X) RX8 cX8_next 9 mX8_next.2.2.2.2 (some .int)) {x1 : Int32} {x2 : Int32} {x3 : Int32} {h : AH} (H : (((I 6) ≤ x3) → (Q x1 h)) ∧ ((¬ ((I 6) ≤ x3)) → (GI g l X Q h 23 [(0, .ref 82), (1, .int x1), (2, .int x2), (3, .int x3), (4, .int (I 0)), (5, .int (I 0))] []))) : GI g l X Q h 11 [(0, .ref 82), (1, .int x1), (2, .int x2), (3, .int x3)] [] := by
  refine g_iloadn (pc := 11) O rfl dX8_next_11 ?_
  refine g_bipush (v := (I 6)) (pc := 12) O (by decide) dX8_next_12 ?_
  refine g_icmp_ge (tgt := 184) (pc := 14) O dX8_next_14 rfl (fun q1 => ?_) (fun q1 => ?_)
  · replace H := H.1 q1
    refine g_iloadn (pc := 184) O rfl dX8_next_184 ?_
    exact g_iret (pc := 185) O dX8_next_185 H
  · replace H := H.2 q1
    refine g_iconst (v := (I 0)) (pc := 17) O rfl dX8_next_17 ?_
    refine g_istore (lv' := [(0, .ref 82), (1, .int x1), (2, .int x2), (3, .int x3), (4, .int (I 0))]) (pc := 18) O dX8_next_18 (ltb rfl) rfl ?_
    refine g_iconst (v := (I 0)) (pc := 20) O rfl dX8_next_20 ?_
    refine g_istore (lv' := [(0, .ref 82), (1, .int x1), (2, .int x2), (3, .int x3), (4, .int (I 0)), (5, .int (I 0))]) (pc := 21) O dX8_next_21 (ltb rfl) rfl ?_
    exact H
set_option maxRecDepth 20000 in
set_option maxHeartbeats 2000000 in
theorem bX8_next_23 {g : mg} {l : Launch} {X : XT} {Q : Int32 → AH → Prop} (O : Ok (FF g l X) RX8 cX8_next 9 mX8_next.2.2.2.2 (some .int)) {x1 : Int32} {x2 : Int32} {x3 : Int32} {x4 : Int32} {x5 : Int32} {h : AH} (H : (((h.1 82 6) ≤ x5) → (((x4 = 0) → (GI g l X Q h 76 [(0, .ref 82), (1, .int x1), (2, .int x2), (3, .int x3), (4, .int x4), (5, .int (I (-1))), (6, .int (I 0))] [])) ∧ ((¬ (x4 = 0)) → (GI g l X Q h 76 [(0, .ref 82), (1, .int x1), (2, .int x2), (3, .int x3), (4, .int x4), (5, .int (I 0)), (6, .int (I 0))] [])))) ∧ ((¬ ((h.1 82 6) ≤ x5)) → (((¬ x4 = 0) → (GI g l X Q h 23 [(0, .ref 82), (1, .int x1), (2, .int x2), (3, .int x3), (4, .int (I 1)), (5, .int (x5 + I 1))] [])) ∧ ((x4 = 0) → (∃ j4 : Nat, x5 = I (j4 : Int) ∧ j4 < 4 ∧ (((¬ (h.1 84 j4) = x3) → (GI g l X Q h 23 [(0, .ref 82), (1, .int x1), (2, .int x2), (3, .int x3), (4, .int (I 0)), (5, .int (x5 + I 1))] [])) ∧ (((h.1 84 j4) = x3) → (GI g l X Q h 23 [(0, .ref 82), (1, .int x1), (2, .int x2), (3, .int x3), (4, .int (I 1)), (5, .int (x5 + I 1))] [])))))))) : GI g l X Q h 23 [(0, .ref 82), (1, .int x1), (2, .int x2), (3, .int x3), (4, .int x4), (5, .int x5)] [] := by
  refine g_iload (pc := 23) O rfl dX8_next_23 ?_
  refine g_aloadn (pc := 25) O rfl dX8_next_25 ?_
  refine g_getI (v := h.1 82 6) (pc := 26) O cls8 fl_X8_173 dX8_next_26 rfl (ltb rfl) (ltb rfl) rfl rfl ?_
  refine g_icmp_ge (tgt := 61) (pc := 29) O dX8_next_29 rfl (fun q1 => ?_) (fun q1 => ?_)
  · replace H := H.1 q1
    refine g_iload (pc := 61) O rfl dX8_next_61 ?_
    refine g_if_eq (tgt := 70) (pc := 63) O dX8_next_63 rfl (fun q2 => ?_) (fun q2 => ?_)
    · replace H := H.1 q2
      refine g_iconst (v := (I (-1))) (pc := 70) O rfl dX8_next_70 ?_
      refine g_istore (lv' := [(0, .ref 82), (1, .int x1), (2, .int x2), (3, .int x3), (4, .int x4), (5, .int (I (-1)))]) (pc := 71) O dX8_next_71 (ltb rfl) rfl ?_
      refine g_iconst (v := (I 0)) (pc := 73) O rfl dX8_next_73 ?_
      refine g_istore (lv' := [(0, .ref 82), (1, .int x1), (2, .int x2), (3, .int x3), (4, .int x4), (5, .int (I (-1))), (6, .int (I 0))]) (pc := 74) O dX8_next_74 (ltb rfl) rfl ?_
      exact H
    · replace H := H.2 q2
      refine g_iconst (v := (I 0)) (pc := 66) O rfl dX8_next_66 ?_
      refine g_goto (tgt := 71) (pc := 67) O dX8_next_67 rfl ?_
      refine g_istore (lv' := [(0, .ref 82), (1, .int x1), (2, .int x2), (3, .int x3), (4, .int x4), (5, .int (I 0))]) (pc := 71) O dX8_next_71 (ltb rfl) rfl ?_
      refine g_iconst (v := (I 0)) (pc := 73) O rfl dX8_next_73 ?_
      refine g_istore (lv' := [(0, .ref 82), (1, .int x1), (2, .int x2), (3, .int x3), (4, .int x4), (5, .int (I 0)), (6, .int (I 0))]) (pc := 74) O dX8_next_74 (ltb rfl) rfl ?_
      exact H
  · replace H := H.2 q1
    refine g_iload (pc := 32) O rfl dX8_next_32 ?_
    refine g_if_ne (tgt := 48) (pc := 34) O dX8_next_34 rfl (fun q3 => ?_) (fun q3 => ?_)
    · replace H := H.1 q3
      refine g_iconst (v := (I 1)) (pc := 48) O rfl dX8_next_48 ?_
      refine g_goto (tgt := 53) (pc := 49) O dX8_next_49 rfl ?_
      refine g_istore (lv' := [(0, .ref 82), (1, .int x1), (2, .int x2), (3, .int x3), (4, .int (I 1)), (5, .int x5)]) (pc := 53) O dX8_next_53 (ltb rfl) rfl ?_
      refine g_iinc (lv' := [(0, .ref 82), (1, .int x1), (2, .int x2), (3, .int x3), (4, .int (I 1)), (5, .int (x5 + I 1))]) (pc := 55) O dX8_next_55 rfl rfl (ltb rfl) rfl ?_
      refine g_goto (tgt := 23) (pc := 58) O dX8_next_58 rfl ?_
      exact H
    · replace H := H.2 q3
      refine g_aloadn (pc := 37) O rfl dX8_next_37 ?_
      refine g_getS (pc := 38) O cls8 fl_X8_13 dX8_next_38 rfl (ltb rfl) (ltb rfl) rfl rfl ?_
      refine g_iload (pc := 41) O rfl dX8_next_41 ?_
      obtain ⟨j4, ej4, bj4, H⟩ := H
      refine g_iald (j := j4) (pc := 43) O dX8_next_43 ej4 rfl (ltb rfl) bj4 (ltb rfl) rfl ?_
      refine g_iloadn (pc := 44) O rfl dX8_next_44 ?_
      refine g_icmp_ne (tgt := 52) (pc := 45) O dX8_next_45 rfl (fun q5 => ?_) (fun q5 => ?_)
      · replace H := H.1 q5
        refine g_iconst (v := (I 0)) (pc := 52) O rfl dX8_next_52 ?_
        refine g_istore (lv' := [(0, .ref 82), (1, .int x1), (2, .int x2), (3, .int x3), (4, .int (I 0)), (5, .int x5)]) (pc := 53) O dX8_next_53 (ltb rfl) rfl ?_
        refine g_iinc (lv' := [(0, .ref 82), (1, .int x1), (2, .int x2), (3, .int x3), (4, .int (I 0)), (5, .int (x5 + I 1))]) (pc := 55) O dX8_next_55 rfl rfl (ltb rfl) rfl ?_
        refine g_goto (tgt := 23) (pc := 58) O dX8_next_58 rfl ?_
        exact H
      · replace H := H.2 q5
        refine g_iconst (v := (I 1)) (pc := 48) O rfl dX8_next_48 ?_
        refine g_goto (tgt := 53) (pc := 49) O dX8_next_49 rfl ?_
        refine g_istore (lv' := [(0, .ref 82), (1, .int x1), (2, .int x2), (3, .int x3), (4, .int (I 1)), (5, .int x5)]) (pc := 53) O dX8_next_53 (ltb rfl) rfl ?_
        refine g_iinc (lv' := [(0, .ref 82), (1, .int x1), (2, .int x2), (3, .int x3), (4, .int (I 1)), (5, .int (x5 + I 1))]) (pc := 55) O dX8_next_55 rfl rfl (ltb rfl) rfl ?_
        refine g_goto (tgt := 23) (pc := 58) O dX8_next_58 rfl ?_
        exact H
set_option maxRecDepth 20000 in
set_option maxHeartbeats 2000000 in
theorem bX8_next_76 {g : mg} {l : Launch} {X : XT} {Q : Int32 → AH → Prop} (O : Ok (FF g l X) RX8 cX8_next 9 mX8_next.2.2.2.2 (some .int)) {x1 : Int32} {x2 : Int32} {x3 : Int32} {x4 : Int32} {x5 : Int32} {x6 : Int32} {h : AH} (H : (((h.1 82 38) ≤ x6) → (((x5 ≤ x2) → (GI g l X Q h 11 [(0, .ref 82), (1, .int x1), (2, .int x2), (3, .int (x3 + I 1))] [])) ∧ ((¬ (x5 ≤ x2)) → (GI g l X Q h 11 [(0, .ref 82), (1, .int x3), (2, .int x5), (3, .int (x3 + I 1))] [])))) ∧ ((¬ ((h.1 82 38) ≤ x6)) → (((x4 = 0) → (((x5 ≤ x2) → (GI g l X Q h 11 [(0, .ref 82), (1, .int x1), (2, .int x2), (3, .int (x3 + I 1))] [])) ∧ ((¬ (x5 ≤ x2)) → (GI g l X Q h 11 [(0, .ref 82), (1, .int x3), (2, .int x5), (3, .int (x3 + I 1))] [])))) ∧ ((¬ (x4 = 0)) → (GI g l X Q h 96 [(0, .ref 82), (1, .int x1), (2, .int x2), (3, .int x3), (4, .int x4), (5, .int x5), (6, .int x6), (7, .int (I 0)), (8, .int (I 0))] []))))) : GI g l X Q h 76 [(0, .ref 82), (1, .int x1), (2, .int x2), (3, .int x3), (4, .int x4), (5, .int x5), (6, .int x6)] [] := by
  refine g_iload (pc := 76) O rfl dX8_next_76 ?_
  refine g_aloadn (pc := 78) O rfl dX8_next_78 ?_
  refine g_getI (v := h.1 82 38) (pc := 79) O cls8 fl_X8_235 dX8_next_79 rfl (ltb rfl) (ltb rfl) rfl rfl ?_
  refine g_icmp_ge (tgt := 167) (pc := 82) O dX8_next_82 rfl (fun q1 => ?_) (fun q1 => ?_)
  · replace H := H.1 q1
    refine g_iload (pc := 167) O rfl dX8_next_167 ?_
    refine g_iloadn (pc := 169) O rfl dX8_next_169 ?_
    refine g_icmp_le (tgt := 178) (pc := 170) O dX8_next_170 rfl (fun q2 => ?_) (fun q2 => ?_)
    · replace H := H.1 q2
      refine g_iinc (lv' := [(0, .ref 82), (1, .int x1), (2, .int x2), (3, .int (x3 + I 1)), (4, .int x4), (5, .int x5), (6, .int x6)]) (pc := 178) O dX8_next_178 rfl rfl (ltb rfl) rfl ?_
      refine g_goto (tgt := 11) (pc := 181) O dX8_next_181 rfl ?_
      refine g_sub [0, 1, 2, 3] rfl ?_
      exact H
    · replace H := H.2 q2
      refine g_iload (pc := 173) O rfl dX8_next_173 ?_
      refine g_istoren (lv' := [(0, .ref 82), (1, .int x1), (2, .int x5), (3, .int x3), (4, .int x4), (5, .int x5), (6, .int x6)]) (pc := 175) O dX8_next_175 rfl (ltb rfl) rfl ?_
      refine g_iloadn (pc := 176) O rfl dX8_next_176 ?_
      refine g_istoren (lv' := [(0, .ref 82), (1, .int x3), (2, .int x5), (3, .int x3), (4, .int x4), (5, .int x5), (6, .int x6)]) (pc := 177) O dX8_next_177 rfl (ltb rfl) rfl ?_
      refine g_iinc (lv' := [(0, .ref 82), (1, .int x3), (2, .int x5), (3, .int (x3 + I 1)), (4, .int x4), (5, .int x5), (6, .int x6)]) (pc := 178) O dX8_next_178 rfl rfl (ltb rfl) rfl ?_
      refine g_goto (tgt := 11) (pc := 181) O dX8_next_181 rfl ?_
      refine g_sub [0, 1, 2, 3] rfl ?_
      exact H
  · replace H := H.2 q1
    refine g_iload (pc := 85) O rfl dX8_next_85 ?_
    refine g_if_eq (tgt := 167) (pc := 87) O dX8_next_87 rfl (fun q3 => ?_) (fun q3 => ?_)
    · replace H := H.1 q3
      refine g_iload (pc := 167) O rfl dX8_next_167 ?_
      refine g_iloadn (pc := 169) O rfl dX8_next_169 ?_
      refine g_icmp_le (tgt := 178) (pc := 170) O dX8_next_170 rfl (fun q4 => ?_) (fun q4 => ?_)
      · replace H := H.1 q4
        refine g_iinc (lv' := [(0, .ref 82), (1, .int x1), (2, .int x2), (3, .int (x3 + I 1)), (4, .int x4), (5, .int x5), (6, .int x6)]) (pc := 178) O dX8_next_178 rfl rfl (ltb rfl) rfl ?_
        refine g_goto (tgt := 11) (pc := 181) O dX8_next_181 rfl ?_
        refine g_sub [0, 1, 2, 3] rfl ?_
        exact H
      · replace H := H.2 q4
        refine g_iload (pc := 173) O rfl dX8_next_173 ?_
        refine g_istoren (lv' := [(0, .ref 82), (1, .int x1), (2, .int x5), (3, .int x3), (4, .int x4), (5, .int x5), (6, .int x6)]) (pc := 175) O dX8_next_175 rfl (ltb rfl) rfl ?_
        refine g_iloadn (pc := 176) O rfl dX8_next_176 ?_
        refine g_istoren (lv' := [(0, .ref 82), (1, .int x3), (2, .int x5), (3, .int x3), (4, .int x4), (5, .int x5), (6, .int x6)]) (pc := 177) O dX8_next_177 rfl (ltb rfl) rfl ?_
        refine g_iinc (lv' := [(0, .ref 82), (1, .int x3), (2, .int x5), (3, .int (x3 + I 1)), (4, .int x4), (5, .int x5), (6, .int x6)]) (pc := 178) O dX8_next_178 rfl rfl (ltb rfl) rfl ?_
        refine g_goto (tgt := 11) (pc := 181) O dX8_next_181 rfl ?_
        refine g_sub [0, 1, 2, 3] rfl ?_
        exact H
    · replace H := H.2 q3
      refine g_iconst (v := (I 0)) (pc := 90) O rfl dX8_next_90 ?_
      refine g_istore (lv' := [(0, .ref 82), (1, .int x1), (2, .int x2), (3, .int x3), (4, .int x4), (5, .int x5), (6, .int x6), (7, .int (I 0))]) (pc := 91) O dX8_next_91 (ltb rfl) rfl ?_
      refine g_iconst (v := (I 0)) (pc := 93) O rfl dX8_next_93 ?_
      refine g_istore (lv' := [(0, .ref 82), (1, .int x1), (2, .int x2), (3, .int x3), (4, .int x4), (5, .int x5), (6, .int x6), (7, .int (I 0)), (8, .int (I 0))]) (pc := 94) O dX8_next_94 (ltb rfl) rfl ?_
      exact H
set_option maxRecDepth 20000 in
set_option maxHeartbeats 2000000 in
theorem bX8_next_96 {g : mg} {l : Launch} {X : XT} {Q : Int32 → AH → Prop} (O : Ok (FF g l X) RX8 cX8_next 9 mX8_next.2.2.2.2 (some .int)) {x1 : Int32} {x2 : Int32} {x3 : Int32} {x4 : Int32} {x5 : Int32} {x6 : Int32} {x7 : Int32} {x8 : Int32} {h : AH} (H : (((h.1 82 6) ≤ x8) → (((x7 = 0) → (GI g l X Q h 76 [(0, .ref 82), (1, .int x1), (2, .int x2), (3, .int x3), (4, .int x4), (5, .int (x5 + (I 1))), (6, .int (x6 + I 1))] [])) ∧ ((¬ (x7 = 0)) → (GI g l X Q h 76 [(0, .ref 82), (1, .int x1), (2, .int x2), (3, .int x3), (4, .int x4), (5, .int x5), (6, .int (x6 + I 1))] [])))) ∧ ((¬ ((h.1 82 6) ≤ x8)) → (((¬ x7 = 0) → (GI g l X Q h 96 [(0, .ref 82), (1, .int x1), (2, .int x2), (3, .int x3), (4, .int x4), (5, .int x5), (6, .int x6), (7, .int (I 1)), (8, .int (x8 + I 1))] [])) ∧ ((x7 = 0) → (∃ j4 : Nat, x8 = I (j4 : Int) ∧ j4 < 4 ∧ (((¬ (h.1 84 j4) = x3) → (GI g l X Q h 96 [(0, .ref 82), (1, .int x1), (2, .int x2), (3, .int x3), (4, .int x4), (5, .int x5), (6, .int x6), (7, .int (I 0)), (8, .int (x8 + I 1))] [])) ∧ (((h.1 84 j4) = x3) → (SpI g l mX8_hasPainting h [.ref 82, .int x8, .int x6] (fun v6 hv6 => ((v6 = 0) → (GI g l X Q hv6 96 [(0, .ref 82), (1, .int x1), (2, .int x2), (3, .int x3), (4, .int x4), (5, .int x5), (6, .int x6), (7, .int (I 0)), (8, .int (x8 + I 1))] [])) ∧ ((¬ (v6 = 0)) → (GI g l X Q hv6 96 [(0, .ref 82), (1, .int x1), (2, .int x2), (3, .int x3), (4, .int x4), (5, .int x5), (6, .int x6), (7, .int (I 1)), (8, .int (x8 + I 1))] []))))))))))) : GI g l X Q h 96 [(0, .ref 82), (1, .int x1), (2, .int x2), (3, .int x3), (4, .int x4), (5, .int x5), (6, .int x6), (7, .int x7), (8, .int x8)] [] := by
  refine g_iload (pc := 96) O rfl dX8_next_96 ?_
  refine g_aloadn (pc := 98) O rfl dX8_next_98 ?_
  refine g_getI (v := h.1 82 6) (pc := 99) O cls8 fl_X8_173 dX8_next_99 rfl (ltb rfl) (ltb rfl) rfl rfl ?_
  refine g_icmp_ge (tgt := 145) (pc := 102) O dX8_next_102 rfl (fun q1 => ?_) (fun q1 => ?_)
  · replace H := H.1 q1
    refine g_iload (pc := 145) O rfl dX8_next_145 ?_
    refine g_if_eq (tgt := 155) (pc := 147) O dX8_next_147 rfl (fun q2 => ?_) (fun q2 => ?_)
    · replace H := H.1 q2
      refine g_iload (pc := 155) O rfl dX8_next_155 ?_
      refine g_iconst (v := (I 1)) (pc := 157) O rfl dX8_next_157 ?_
      refine g_iadd (pc := 158) O dX8_next_158 ?_
      refine g_istore (lv' := [(0, .ref 82), (1, .int x1), (2, .int x2), (3, .int x3), (4, .int x4), (5, .int (x5 + (I 1))), (6, .int x6), (7, .int x7), (8, .int x8)]) (pc := 159) O dX8_next_159 (ltb rfl) rfl ?_
      refine g_iinc (lv' := [(0, .ref 82), (1, .int x1), (2, .int x2), (3, .int x3), (4, .int x4), (5, .int (x5 + (I 1))), (6, .int (x6 + I 1)), (7, .int x7), (8, .int x8)]) (pc := 161) O dX8_next_161 rfl rfl (ltb rfl) rfl ?_
      refine g_goto (tgt := 76) (pc := 164) O dX8_next_164 rfl ?_
      refine g_sub [0, 1, 2, 3, 4, 5, 6] rfl ?_
      exact H
    · replace H := H.2 q2
      refine g_iload (pc := 150) O rfl dX8_next_150 ?_
      refine g_goto (tgt := 159) (pc := 152) O dX8_next_152 rfl ?_
      refine g_istore (lv' := [(0, .ref 82), (1, .int x1), (2, .int x2), (3, .int x3), (4, .int x4), (5, .int x5), (6, .int x6), (7, .int x7), (8, .int x8)]) (pc := 159) O dX8_next_159 (ltb rfl) rfl ?_
      refine g_iinc (lv' := [(0, .ref 82), (1, .int x1), (2, .int x2), (3, .int x3), (4, .int x4), (5, .int x5), (6, .int (x6 + I 1)), (7, .int x7), (8, .int x8)]) (pc := 161) O dX8_next_161 rfl rfl (ltb rfl) rfl ?_
      refine g_goto (tgt := 76) (pc := 164) O dX8_next_164 rfl ?_
      refine g_sub [0, 1, 2, 3, 4, 5, 6] rfl ?_
      exact H
  · replace H := H.2 q1
    refine g_iload (pc := 105) O rfl dX8_next_105 ?_
    refine g_if_ne (tgt := 132) (pc := 107) O dX8_next_107 rfl (fun q3 => ?_) (fun q3 => ?_)
    · replace H := H.1 q3
      refine g_iconst (v := (I 1)) (pc := 132) O rfl dX8_next_132 ?_
      refine g_goto (tgt := 137) (pc := 133) O dX8_next_133 rfl ?_
      refine g_istore (lv' := [(0, .ref 82), (1, .int x1), (2, .int x2), (3, .int x3), (4, .int x4), (5, .int x5), (6, .int x6), (7, .int (I 1)), (8, .int x8)]) (pc := 137) O dX8_next_137 (ltb rfl) rfl ?_
      refine g_iinc (lv' := [(0, .ref 82), (1, .int x1), (2, .int x2), (3, .int x3), (4, .int x4), (5, .int x5), (6, .int x6), (7, .int (I 1)), (8, .int (x8 + I 1))]) (pc := 139) O dX8_next_139 rfl rfl (ltb rfl) rfl ?_
      refine g_goto (tgt := 96) (pc := 142) O dX8_next_142 rfl ?_
      exact H
    · replace H := H.2 q3
      refine g_aloadn (pc := 110) O rfl dX8_next_110 ?_
      refine g_getS (pc := 111) O cls8 fl_X8_13 dX8_next_111 rfl (ltb rfl) (ltb rfl) rfl rfl ?_
      refine g_iload (pc := 114) O rfl dX8_next_114 ?_
      obtain ⟨j4, ej4, bj4, H⟩ := H
      refine g_iald (j := j4) (pc := 116) O dX8_next_116 ej4 rfl (ltb rfl) bj4 (ltb rfl) rfl ?_
      refine g_iloadn (pc := 117) O rfl dX8_next_117 ?_
      refine g_icmp_ne (tgt := 136) (pc := 118) O dX8_next_118 rfl (fun q5 => ?_) (fun q5 => ?_)
      · replace H := H.1 q5
        refine g_iconst (v := (I 0)) (pc := 136) O rfl dX8_next_136 ?_
        refine g_istore (lv' := [(0, .ref 82), (1, .int x1), (2, .int x2), (3, .int x3), (4, .int x4), (5, .int x5), (6, .int x6), (7, .int (I 0)), (8, .int x8)]) (pc := 137) O dX8_next_137 (ltb rfl) rfl ?_
        refine g_iinc (lv' := [(0, .ref 82), (1, .int x1), (2, .int x2), (3, .int x3), (4, .int x4), (5, .int x5), (6, .int x6), (7, .int (I 0)), (8, .int (x8 + I 1))]) (pc := 139) O dX8_next_139 rfl rfl (ltb rfl) rfl ?_
        refine g_goto (tgt := 96) (pc := 142) O dX8_next_142 rfl ?_
        exact H
      · replace H := H.2 q5
        refine g_aloadn (pc := 121) O rfl dX8_next_121 ?_
        refine g_iload (pc := 122) O rfl dX8_next_122 ?_
        refine g_iload (pc := 124) O rfl dX8_next_124 ?_
        refine g_vI [.int x8, .int x6] [] (pc := 126) O mk_X8_hasPainting ml_X8_248 im_X8_hasPainting se_X8_hasPainting cls8 rfl ⟨rfl, rfl, leb rfl, leb rfl⟩ rfl (leb rfl) dX8_next_126 H rfl (fun v6 hv6 H => ?_)
        refine g_if_eq (tgt := 136) (pc := 129) O dX8_next_129 rfl (fun q7 => ?_) (fun q7 => ?_)
        · replace H := H.1 q7
          refine g_iconst (v := (I 0)) (pc := 136) O rfl dX8_next_136 ?_
          refine g_istore (lv' := [(0, .ref 82), (1, .int x1), (2, .int x2), (3, .int x3), (4, .int x4), (5, .int x5), (6, .int x6), (7, .int (I 0)), (8, .int x8)]) (pc := 137) O dX8_next_137 (ltb rfl) rfl ?_
          refine g_iinc (lv' := [(0, .ref 82), (1, .int x1), (2, .int x2), (3, .int x3), (4, .int x4), (5, .int x5), (6, .int x6), (7, .int (I 0)), (8, .int (x8 + I 1))]) (pc := 139) O dX8_next_139 rfl rfl (ltb rfl) rfl ?_
          refine g_goto (tgt := 96) (pc := 142) O dX8_next_142 rfl ?_
          exact H
        · replace H := H.2 q7
          refine g_iconst (v := (I 1)) (pc := 132) O rfl dX8_next_132 ?_
          refine g_goto (tgt := 137) (pc := 133) O dX8_next_133 rfl ?_
          refine g_istore (lv' := [(0, .ref 82), (1, .int x1), (2, .int x2), (3, .int x3), (4, .int x4), (5, .int x5), (6, .int x6), (7, .int (I 1)), (8, .int x8)]) (pc := 137) O dX8_next_137 (ltb rfl) rfl ?_
          refine g_iinc (lv' := [(0, .ref 82), (1, .int x1), (2, .int x2), (3, .int x3), (4, .int x4), (5, .int x5), (6, .int x6), (7, .int (I 1)), (8, .int (x8 + I 1))]) (pc := 139) O dX8_next_139 rfl rfl (ltb rfl) rfl ?_
          refine g_goto (tgt := 96) (pc := 142) O dX8_next_142 rfl ?_
          exact H
set_option maxRecDepth 20000 in
set_option maxHeartbeats 2000000 in
theorem sX8_next {g : mg} {l : Launch} {Q : Int32 → AH → Prop}  {h : AH} (H : ∀ X, Ok (FF g l X) RX8 cX8_next 9 mX8_next.2.2.2.2 (some .int) → SpV g l mX8_make h [.ref 82] (fun hv1 => GI g l X Q hv1 11 [(0, .ref 82), (1, .int (I (-9))), (2, .int (I (-1))), (3, .int (I 0))] [])) : SpI g l mX8_next h [.ref 82] Q := spI_of (by decide) (leb rfl) (fun X O => bX8_next_0 O (H X O))
set_option maxRecDepth 20000 in
set_option maxHeartbeats 2000000 in
theorem bX8_ofCoat_0 {g : mg} {l : Launch} {X : XT} {Q : Int32 → AH → Prop} (O : Ok (FF g l X) RX8 cX8_ofCoat 3 mX8_ofCoat.2.2.2.2 (some .int)) {x1 : Int32} {x2 : Int32} {h : AH} (H : ∃ j1 : Nat, (((I 10) * x1) + x2) = I (j1 : Int) ∧ j1 < 40 ∧ (Q ((h.1 87 j1) + (I 1)) (sL h 82 32 ((h.2.1 82 32) + 1)))) : GI g l X Q h 0 [(0, .ref 82), (1, .int x1), (2, .int x2)] [] := by
  refine g_aloadn (pc := 0) O rfl dX8_ofCoat_0 ?_
  refine g_aloadn (pc := 1) O rfl dX8_ofCoat_1 ?_
  refine g_getL (v := h.2.1 82 32) (pc := 2) O cls8 fl_X8_273 dX8_ofCoat_2 rfl (ltb rfl) (ltb rfl) rfl rfl ?_
  refine g_lconst (v := 1) (pc := 5) O (by decide) dX8_ofCoat_5 ?_
  refine g_ladd (pc := 6) O dX8_ofCoat_6 ?_
  refine g_putL (pc := 7) O cls8 fl_X8_273 dX8_ofCoat_7 rfl (ltb rfl) (leb rfl) (ltb rfl) rfl rfl (by decide +kernel) ?_
  refine g_aloadn (pc := 10) O rfl dX8_ofCoat_10 ?_
  refine g_getS (pc := 11) O cls8 fl_X8_22 dX8_ofCoat_11 rfl (ltb rfl) (ltb rfl) rfl rfl ?_
  refine g_bipush (v := (I 10)) (pc := 14) O (by decide) dX8_ofCoat_14 ?_
  refine g_iloadn (pc := 16) O rfl dX8_ofCoat_16 ?_
  refine g_imul (pc := 17) O dX8_ofCoat_17 ?_
  refine g_iloadn (pc := 18) O rfl dX8_ofCoat_18 ?_
  refine g_iadd (pc := 19) O dX8_ofCoat_19 ?_
  obtain ⟨j1, ej1, bj1, H⟩ := H
  refine g_iald (j := j1) (pc := 20) O dX8_ofCoat_20 ej1 rfl (ltb rfl) bj1 (ltb rfl) rfl ?_
  refine g_iconst (v := (I 1)) (pc := 21) O rfl dX8_ofCoat_21 ?_
  refine g_iadd (pc := 22) O dX8_ofCoat_22 ?_
  exact g_iret (pc := 23) O dX8_ofCoat_23 H
set_option maxRecDepth 20000 in
set_option maxHeartbeats 2000000 in
theorem sX8_ofCoat {g : mg} {l : Launch} {Q : Int32 → AH → Prop} {x1 : Int32} {x2 : Int32} {h : AH} (H : ∃ j1 : Nat, (((I 10) * x1) + x2) = I (j1 : Int) ∧ j1 < 40 ∧ (Q ((h.1 87 j1) + (I 1)) (sL h 82 32 ((h.2.1 82 32) + 1)))) : SpI g l mX8_ofCoat h [.ref 82, .int x1, .int x2] Q := spI_of (by decide) (leb rfl) (fun X O => bX8_ofCoat_0 O H)
set_option maxRecDepth 20000 in
set_option maxHeartbeats 2000000 in
theorem bX8_ofWhole_0 {g : mg} {l : Launch} {X : XT} {Q : Int32 → AH → Prop} (O : Ok (FF g l X) RX8 cX8_ofWhole 5 mX8_ofWhole.2.2.2.2 (some .int)) {x1 : Int32} {x2 : Int32} {h : AH} (H : GI g l X Q (sL h 82 32 ((h.2.1 82 32) + (10))) 17 [(0, .ref 82), (1, .int x1), (2, .int x2), (3, .int (I 0)), (4, .int (I 0))] []) : GI g l X Q h 0 [(0, .ref 82), (1, .int x1), (2, .int x2)] [] := by
  refine g_aloadn (pc := 0) O rfl dX8_ofWhole_0 ?_
  refine g_aloadn (pc := 1) O rfl dX8_ofWhole_1 ?_
  refine g_getL (v := h.2.1 82 32) (pc := 2) O cls8 fl_X8_273 dX8_ofWhole_2 rfl (ltb rfl) (ltb rfl) rfl rfl ?_
  refine g_ldc2 (pc := 5) O co_X8_267 dX8_ofWhole_5 ?_
  refine g_ladd (pc := 8) O dX8_ofWhole_8 ?_
  refine g_putL (pc := 9) O cls8 fl_X8_273 dX8_ofWhole_9 rfl (ltb rfl) (leb rfl) (ltb rfl) rfl rfl (by decide +kernel) ?_
  refine g_iconst (v := (I 0)) (pc := 12) O rfl dX8_ofWhole_12 ?_
  refine g_istoren (lv' := [(0, .ref 82), (1, .int x1), (2, .int x2), (3, .int (I 0))]) (pc := 13) O dX8_ofWhole_13 rfl (ltb rfl) rfl ?_
  refine g_iconst (v := (I 0)) (pc := 14) O rfl dX8_ofWhole_14 ?_
  refine g_istore (lv' := [(0, .ref 82), (1, .int x1), (2, .int x2), (3, .int (I 0)), (4, .int (I 0))]) (pc := 15) O dX8_ofWhole_15 (ltb rfl) rfl ?_
  exact H
set_option maxRecDepth 20000 in
set_option maxHeartbeats 2000000 in
theorem bX8_ofWhole_17 {g : mg} {l : Launch} {X : XT} {Q : Int32 → AH → Prop} (O : Ok (FF g l X) RX8 cX8_ofWhole 5 mX8_ofWhole.2.2.2.2 (some .int)) {x1 : Int32} {x2 : Int32} {x3 : Int32} {x4 : Int32} {h : AH} (H : (((h.1 82 6) ≤ x4) → (SpI g l mX8_ofCoat h [.ref 82, .int x1, .int x2] (fun v2 hv2 => Q (v2 * x3) hv2))) ∧ ((¬ ((h.1 82 6) ≤ x4)) → (∃ j3 : Nat, (((I 10) * x1) + x2) = I (j3 : Int) ∧ j3 < 40 ∧ (SpI g l mX8_hasPainting h [.ref 82, .int x4, .int (h.1 114 j3)] (fun v4 hv4 => ((v4 = 0) → (GI g l X Q hv4 17 [(0, .ref 82), (1, .int x1), (2, .int x2), (3, .int x3), (4, .int (x4 + I 1))] [])) ∧ ((¬ (v4 = 0)) → (GI g l X Q hv4 17 [(0, .ref 82), (1, .int x1), (2, .int x2), (3, .int (x3 + (I 1))), (4, .int (x4 + I 1))] []))))))) : GI g l X Q h 17 [(0, .ref 82), (1, .int x1), (2, .int x2), (3, .int x3), (4, .int x4)] [] := by
  refine g_iload (pc := 17) O rfl dX8_ofWhole_17 ?_
  refine g_aloadn (pc := 19) O rfl dX8_ofWhole_19 ?_
  refine g_getI (v := h.1 82 6) (pc := 20) O cls8 fl_X8_173 dX8_ofWhole_20 rfl (ltb rfl) (ltb rfl) rfl rfl ?_
  refine g_icmp_ge (tgt := 60) (pc := 23) O dX8_ofWhole_23 rfl (fun q1 => ?_) (fun q1 => ?_)
  · replace H := H.1 q1
    refine g_aloadn (pc := 60) O rfl dX8_ofWhole_60 ?_
    refine g_iloadn (pc := 61) O rfl dX8_ofWhole_61 ?_
    refine g_iloadn (pc := 62) O rfl dX8_ofWhole_62 ?_
    refine g_vI [.int x1, .int x2] [] (pc := 63) O mk_X8_ofCoat ml_X8_277 im_X8_ofCoat se_X8_ofCoat cls8 rfl ⟨rfl, rfl, leb rfl, leb rfl⟩ rfl (leb rfl) dX8_ofWhole_63 H rfl (fun v2 hv2 H => ?_)
    refine g_iloadn (pc := 66) O rfl dX8_ofWhole_66 ?_
    refine g_imul (pc := 67) O dX8_ofWhole_67 ?_
    exact g_iret (pc := 68) O dX8_ofWhole_68 H
  · replace H := H.2 q1
    refine g_aloadn (pc := 26) O rfl dX8_ofWhole_26 ?_
    refine g_iload (pc := 27) O rfl dX8_ofWhole_27 ?_
    refine g_aloadn (pc := 29) O rfl dX8_ofWhole_29 ?_
    refine g_getS (pc := 30) O cls8 fl_X8_104 dX8_ofWhole_30 rfl (ltb rfl) (ltb rfl) rfl rfl ?_
    refine g_bipush (v := (I 10)) (pc := 33) O (by decide) dX8_ofWhole_33 ?_
    refine g_iloadn (pc := 35) O rfl dX8_ofWhole_35 ?_
    refine g_imul (pc := 36) O dX8_ofWhole_36 ?_
    refine g_iloadn (pc := 37) O rfl dX8_ofWhole_37 ?_
    refine g_iadd (pc := 38) O dX8_ofWhole_38 ?_
    obtain ⟨j3, ej3, bj3, H⟩ := H
    refine g_iald (j := j3) (pc := 39) O dX8_ofWhole_39 ej3 rfl (ltb rfl) bj3 (ltb rfl) rfl ?_
    refine g_vI [.int x4, .int (h.1 114 j3)] [] (pc := 40) O mk_X8_hasPainting ml_X8_248 im_X8_hasPainting se_X8_hasPainting cls8 rfl ⟨rfl, rfl, leb rfl, leb rfl⟩ rfl (leb rfl) dX8_ofWhole_40 H rfl (fun v4 hv4 H => ?_)
    refine g_if_eq (tgt := 52) (pc := 43) O dX8_ofWhole_43 rfl (fun q5 => ?_) (fun q5 => ?_)
    · replace H := H.1 q5
      refine g_iloadn (pc := 52) O rfl dX8_ofWhole_52 ?_
      refine g_istoren (lv' := [(0, .ref 82), (1, .int x1), (2, .int x2), (3, .int x3), (4, .int x4)]) (pc := 53) O dX8_ofWhole_53 rfl (ltb rfl) rfl ?_
      refine g_iinc (lv' := [(0, .ref 82), (1, .int x1), (2, .int x2), (3, .int x3), (4, .int (x4 + I 1))]) (pc := 54) O dX8_ofWhole_54 rfl rfl (ltb rfl) rfl ?_
      refine g_goto (tgt := 17) (pc := 57) O dX8_ofWhole_57 rfl ?_
      exact H
    · replace H := H.2 q5
      refine g_iloadn (pc := 46) O rfl dX8_ofWhole_46 ?_
      refine g_iconst (v := (I 1)) (pc := 47) O rfl dX8_ofWhole_47 ?_
      refine g_iadd (pc := 48) O dX8_ofWhole_48 ?_
      refine g_goto (tgt := 53) (pc := 49) O dX8_ofWhole_49 rfl ?_
      refine g_istoren (lv' := [(0, .ref 82), (1, .int x1), (2, .int x2), (3, .int (x3 + (I 1))), (4, .int x4)]) (pc := 53) O dX8_ofWhole_53 rfl (ltb rfl) rfl ?_
      refine g_iinc (lv' := [(0, .ref 82), (1, .int x1), (2, .int x2), (3, .int (x3 + (I 1))), (4, .int (x4 + I 1))]) (pc := 54) O dX8_ofWhole_54 rfl rfl (ltb rfl) rfl ?_
      refine g_goto (tgt := 17) (pc := 57) O dX8_ofWhole_57 rfl ?_
      exact H
set_option maxRecDepth 20000 in
set_option maxHeartbeats 2000000 in
theorem sX8_ofWhole {g : mg} {l : Launch} {Q : Int32 → AH → Prop} {x1 : Int32} {x2 : Int32} {h : AH} (H : ∀ X, Ok (FF g l X) RX8 cX8_ofWhole 5 mX8_ofWhole.2.2.2.2 (some .int) → GI g l X Q (sL h 82 32 ((h.2.1 82 32) + (10))) 17 [(0, .ref 82), (1, .int x1), (2, .int x2), (3, .int (I 0)), (4, .int (I 0))] []) : SpI g l mX8_ofWhole h [.ref 82, .int x1, .int x2] Q := spI_of (by decide) (leb rfl) (fun X O => bX8_ofWhole_0 O (H X O))
set_option maxRecDepth 20000 in
set_option maxHeartbeats 2000000 in
theorem bX8_ofUnder_0 {g : mg} {l : Launch} {X : XT} {Q : Int32 → AH → Prop} (O : Ok (FF g l X) RX8 cX8_ofUnder 3 mX8_ofUnder.2.2.2.2 (some .int)) {x1 : Int32} {x2 : Int32} {h : AH} (H : SpI g l mX8_ofCoat (sL h 82 32 ((h.2.1 82 32) + (100))) [.ref 82, .int x1, .int x2] (fun v1 hv1 => ∃ j2 : Nat, (((I 10) * x1) + x2) = I (j2 : Int) ∧ j2 < 40 ∧ (Q (v1 + (hv1.1 88 j2)) hv1))) : GI g l X Q h 0 [(0, .ref 82), (1, .int x1), (2, .int x2)] [] := by
  refine g_aloadn (pc := 0) O rfl dX8_ofUnder_0 ?_
  refine g_aloadn (pc := 1) O rfl dX8_ofUnder_1 ?_
  refine g_getL (v := h.2.1 82 32) (pc := 2) O cls8 fl_X8_273 dX8_ofUnder_2 rfl (ltb rfl) (ltb rfl) rfl rfl ?_
  refine g_ldc2 (pc := 5) O co_X8_280 dX8_ofUnder_5 ?_
  refine g_ladd (pc := 8) O dX8_ofUnder_8 ?_
  refine g_putL (pc := 9) O cls8 fl_X8_273 dX8_ofUnder_9 rfl (ltb rfl) (leb rfl) (ltb rfl) rfl rfl (by decide +kernel) ?_
  refine g_aloadn (pc := 12) O rfl dX8_ofUnder_12 ?_
  refine g_iloadn (pc := 13) O rfl dX8_ofUnder_13 ?_
  refine g_iloadn (pc := 14) O rfl dX8_ofUnder_14 ?_
  refine g_vI [.int x1, .int x2] [] (pc := 15) O mk_X8_ofCoat ml_X8_277 im_X8_ofCoat se_X8_ofCoat cls8 rfl ⟨rfl, rfl, leb rfl, leb rfl⟩ rfl (leb rfl) dX8_ofUnder_15 H rfl (fun v1 hv1 H => ?_)
  refine g_aloadn (pc := 18) O rfl dX8_ofUnder_18 ?_
  refine g_getS (pc := 19) O cls8 fl_X8_25 dX8_ofUnder_19 rfl (ltb rfl) (ltb rfl) rfl rfl ?_
  refine g_bipush (v := (I 10)) (pc := 22) O (by decide) dX8_ofUnder_22 ?_
  refine g_iloadn (pc := 24) O rfl dX8_ofUnder_24 ?_
  refine g_imul (pc := 25) O dX8_ofUnder_25 ?_
  refine g_iloadn (pc := 26) O rfl dX8_ofUnder_26 ?_
  refine g_iadd (pc := 27) O dX8_ofUnder_27 ?_
  obtain ⟨j2, ej2, bj2, H⟩ := H
  refine g_iald (j := j2) (pc := 28) O dX8_ofUnder_28 ej2 rfl (ltb rfl) bj2 (ltb rfl) rfl ?_
  refine g_iadd (pc := 29) O dX8_ofUnder_29 ?_
  exact g_iret (pc := 30) O dX8_ofUnder_30 H
set_option maxRecDepth 20000 in
set_option maxHeartbeats 2000000 in
theorem sX8_ofUnder {g : mg} {l : Launch} {Q : Int32 → AH → Prop} {x1 : Int32} {x2 : Int32} {h : AH} (H : SpI g l mX8_ofCoat (sL h 82 32 ((h.2.1 82 32) + (100))) [.ref 82, .int x1, .int x2] (fun v1 hv1 => ∃ j2 : Nat, (((I 10) * x1) + x2) = I (j2 : Int) ∧ j2 < 40 ∧ (Q (v1 + (hv1.1 88 j2)) hv1))) : SpI g l mX8_ofUnder h [.ref 82, .int x1, .int x2] Q := spI_of (by decide) (leb rfl) (fun X O => bX8_ofUnder_0 O H)
set_option maxRecDepth 20000 in
set_option maxHeartbeats 2000000 in
theorem bX8_rank_0 {g : mg} {l : Launch} {X : XT} {Q : Int32 → AH → Prop} (O : Ok (FF g l X) RX8 cX8_rank 4 mX8_rank.2.2.2.2 (some .int)) {x1 : Int32} {x2 : Int32} {x3 : Int32} {h : AH} (H : SpI g l mX8_in h [.int x1, .int (I 0), .int (I 5)] (fun v1 hv1 => ((v1 = 0) → (Q (-1000000) hv1)) ∧ ((¬ (v1 = 0)) → (SpI g l mX8_isCoat hv1 [.ref 82, .int x2, .int x3] (fun v3 hv3 => ((¬ v3 = 0) → (SpV g l mX8_make hv3 [.ref 82] (fun hv5 => ((¬ x1 = 0) → (((¬ x1 = (I 1)) → (((¬ x1 = (I 2)) → (((¬ x1 = (I 3)) → (((¬ x1 = (I 4)) → (SpI g l mX8_ofCoat (sL hv5 82 32 ((hv5.2.1 82 32) + (100000))) [.ref 82, .int x2, .int x3] (fun v11 hv11 => ∃ j12 : Nat, x2 = I (j12 : Int) ∧ j12 < 4 ∧ (((¬ (hv11.1 85 j12) = (I 1)) → (Q (v11 + (I 0)) hv11)) ∧ (((hv11.1 85 j12) = (I 1)) → (Q (v11 + (I 20)) hv11)))))) ∧ ((x1 = (I 4)) → (SpI g l mX8_ofUnder (sL hv5 82 32 ((hv5.2.1 82 32) + (10000))) [.ref 82, .int x2, .int x3] (fun v14 hv14 => Q ((I 2) * v14) hv14))))) ∧ ((x1 = (I 3)) → (SpI g l mX8_ofWhole (sL hv5 82 32 ((hv5.2.1 82 32) + (1000))) [.ref 82, .int x2, .int x3] (fun v15 hv15 => Q (v15 - x3) hv15))))) ∧ ((x1 = (I 2)) → (SpI g l mX8_ofUnder hv5 [.ref 82, .int x2, .int x3] (fun v16 hv16 => Q v16 hv16))))) ∧ ((x1 = (I 1)) → (SpI g l mX8_ofWhole hv5 [.ref 82, .int x2, .int x3] (fun v17 hv17 => Q v17 hv17))))) ∧ ((x1 = 0) → (SpI g l mX8_ofCoat hv5 [.ref 82, .int x2, .int x3] (fun v18 hv18 => Q v18 hv18)))))) ∧ ((v3 = 0) → (Q (-1000000) hv3))))))) : GI g l X Q h 0 [(0, .ref 82), (1, .int x1), (2, .int x2), (3, .int x3)] [] := by
  refine g_iloadn (pc := 0) O rfl dX8_rank_0 ?_
  refine g_iconst (v := (I 0)) (pc := 1) O rfl dX8_rank_1 ?_
  refine g_iconst (v := (I 5)) (pc := 2) O rfl dX8_rank_2 ?_
  refine g_sI [.int x1, .int (I 0), .int (I 5)] [] (pc := 3) O mk_X8_in ml_X8_116 sm_X8_in ⟨rfl, rfl, leb rfl, leb rfl⟩ rfl (leb rfl) dX8_rank_3 H rfl (fun v1 hv1 H => ?_)
  refine g_if_eq (tgt := 18) (pc := 6) O dX8_rank_6 rfl (fun q2 => ?_) (fun q2 => ?_)
  · replace H := H.1 q2
    refine g_ldcw (pc := 18) O co_X8_282 dX8_rank_18 ?_
    exact g_iret (pc := 21) O dX8_rank_21 H
  · replace H := H.2 q2
    refine g_aloadn (pc := 9) O rfl dX8_rank_9 ?_
    refine g_iloadn (pc := 10) O rfl dX8_rank_10 ?_
    refine g_iloadn (pc := 11) O rfl dX8_rank_11 ?_
    refine g_vI [.int x2, .int x3] [] (pc := 12) O mk_X8_isCoat ml_X8_202 im_X8_isCoat se_X8_isCoat cls8 rfl ⟨rfl, rfl, leb rfl, leb rfl⟩ rfl (leb rfl) dX8_rank_12 H rfl (fun v3 hv3 H => ?_)
    refine g_if_ne (tgt := 22) (pc := 15) O dX8_rank_15 rfl (fun q4 => ?_) (fun q4 => ?_)
    · replace H := H.1 q4
      refine g_aloadn (pc := 22) O rfl dX8_rank_22 ?_
      refine g_vV [] [] (pc := 23) O mk_X8_make ml_X8_205 im_X8_make se_X8_make cls8 rfl ⟨rfl, rfl, leb rfl, leb rfl⟩ rfl (leb rfl) dX8_rank_23 H rfl (fun hv5 H => ?_)
      refine g_iloadn (pc := 26) O rfl dX8_rank_26 ?_
      refine g_if_ne (tgt := 37) (pc := 27) O dX8_rank_27 rfl (fun q6 => ?_) (fun q6 => ?_)
      · replace H := H.1 q6
        refine g_iloadn (pc := 37) O rfl dX8_rank_37 ?_
        refine g_iconst (v := (I 1)) (pc := 38) O rfl dX8_rank_38 ?_
        refine g_icmp_ne (tgt := 49) (pc := 39) O dX8_rank_39 rfl (fun q7 => ?_) (fun q7 => ?_)
        · replace H := H.1 q7
          refine g_iloadn (pc := 49) O rfl dX8_rank_49 ?_
          refine g_iconst (v := (I 2)) (pc := 50) O rfl dX8_rank_50 ?_
          refine g_icmp_ne (tgt := 61) (pc := 51) O dX8_rank_51 rfl (fun q8 => ?_) (fun q8 => ?_)
          · replace H := H.1 q8
            refine g_iloadn (pc := 61) O rfl dX8_rank_61 ?_
            refine g_iconst (v := (I 3)) (pc := 62) O rfl dX8_rank_62 ?_
            refine g_icmp_ne (tgt := 87) (pc := 63) O dX8_rank_63 rfl (fun q9 => ?_) (fun q9 => ?_)
            · replace H := H.1 q9
              refine g_iloadn (pc := 87) O rfl dX8_rank_87 ?_
              refine g_iconst (v := (I 4)) (pc := 88) O rfl dX8_rank_88 ?_
              refine g_icmp_ne (tgt := 113) (pc := 89) O dX8_rank_89 rfl (fun q10 => ?_) (fun q10 => ?_)
              · replace H := H.1 q10
                refine g_aloadn (pc := 113) O rfl dX8_rank_113 ?_
                refine g_aloadn (pc := 114) O rfl dX8_rank_114 ?_
                refine g_getL (v := hv5.2.1 82 32) (pc := 115) O cls8 fl_X8_273 dX8_rank_115 rfl (ltb rfl) (ltb rfl) rfl rfl ?_
                refine g_ldc2 (pc := 118) O co_X8_291 dX8_rank_118 ?_
                refine g_ladd (pc := 121) O dX8_rank_121 ?_
                refine g_putL (pc := 122) O cls8 fl_X8_273 dX8_rank_122 rfl (ltb rfl) (leb rfl) (ltb rfl) rfl rfl (by decide +kernel) ?_
                refine g_aloadn (pc := 125) O rfl dX8_rank_125 ?_
                refine g_iloadn (pc := 126) O rfl dX8_rank_126 ?_
                refine g_iloadn (pc := 127) O rfl dX8_rank_127 ?_
                refine g_vI [.int x2, .int x3] [] (pc := 128) O mk_X8_ofCoat ml_X8_277 im_X8_ofCoat se_X8_ofCoat cls8 rfl ⟨rfl, rfl, leb rfl, leb rfl⟩ rfl (leb rfl) dX8_rank_128 H rfl (fun v11 hv11 H => ?_)
                refine g_aloadn (pc := 131) O rfl dX8_rank_131 ?_
                refine g_getS (pc := 132) O cls8 fl_X8_16 dX8_rank_132 rfl (ltb rfl) (ltb rfl) rfl rfl ?_
                refine g_iloadn (pc := 135) O rfl dX8_rank_135 ?_
                obtain ⟨j12, ej12, bj12, H⟩ := H
                refine g_iald (j := j12) (pc := 136) O dX8_rank_136 ej12 rfl (ltb rfl) bj12 (ltb rfl) rfl ?_
                refine g_iconst (v := (I 1)) (pc := 137) O rfl dX8_rank_137 ?_
                refine g_icmp_ne (tgt := 146) (pc := 138) O dX8_rank_138 rfl (fun q13 => ?_) (fun q13 => ?_)
                · replace H := H.1 q13
                  refine g_iconst (v := (I 0)) (pc := 146) O rfl dX8_rank_146 ?_
                  refine g_iadd (pc := 147) O dX8_rank_147 ?_
                  exact g_iret (pc := 148) O dX8_rank_148 H
                · replace H := H.2 q13
                  refine g_bipush (v := (I 20)) (pc := 141) O (by decide) dX8_rank_141 ?_
                  refine g_goto (tgt := 147) (pc := 143) O dX8_rank_143 rfl ?_
                  refine g_iadd (pc := 147) O dX8_rank_147 ?_
                  exact g_iret (pc := 148) O dX8_rank_148 H
              · replace H := H.2 q10
                refine g_aloadn (pc := 92) O rfl dX8_rank_92 ?_
                refine g_aloadn (pc := 93) O rfl dX8_rank_93 ?_
                refine g_getL (v := hv5.2.1 82 32) (pc := 94) O cls8 fl_X8_273 dX8_rank_94 rfl (ltb rfl) (ltb rfl) rfl rfl ?_
                refine g_ldc2 (pc := 97) O co_X8_271 dX8_rank_97 ?_
                refine g_ladd (pc := 100) O dX8_rank_100 ?_
                refine g_putL (pc := 101) O cls8 fl_X8_273 dX8_rank_101 rfl (ltb rfl) (leb rfl) (ltb rfl) rfl rfl (by decide +kernel) ?_
                refine g_iconst (v := (I 2)) (pc := 104) O rfl dX8_rank_104 ?_
                refine g_aloadn (pc := 105) O rfl dX8_rank_105 ?_
                refine g_iloadn (pc := 106) O rfl dX8_rank_106 ?_
                refine g_iloadn (pc := 107) O rfl dX8_rank_107 ?_
                refine g_vI [.int x2, .int x3] [.int (I 2)] (pc := 108) O mk_X8_ofUnder ml_X8_286 im_X8_ofUnder se_X8_ofUnder cls8 rfl ⟨rfl, rfl, leb rfl, leb rfl⟩ rfl (leb rfl) dX8_rank_108 H rfl (fun v14 hv14 H => ?_)
                refine g_imul (pc := 111) O dX8_rank_111 ?_
                exact g_iret (pc := 112) O dX8_rank_112 H
            · replace H := H.2 q9
              refine g_aloadn (pc := 66) O rfl dX8_rank_66 ?_
              refine g_aloadn (pc := 67) O rfl dX8_rank_67 ?_
              refine g_getL (v := hv5.2.1 82 32) (pc := 68) O cls8 fl_X8_273 dX8_rank_68 rfl (ltb rfl) (ltb rfl) rfl rfl ?_
              refine g_ldc2 (pc := 71) O co_X8_289 dX8_rank_71 ?_
              refine g_ladd (pc := 74) O dX8_rank_74 ?_
              refine g_putL (pc := 75) O cls8 fl_X8_273 dX8_rank_75 rfl (ltb rfl) (leb rfl) (ltb rfl) rfl rfl (by decide +kernel) ?_
              refine g_aloadn (pc := 78) O rfl dX8_rank_78 ?_
              refine g_iloadn (pc := 79) O rfl dX8_rank_79 ?_
              refine g_iloadn (pc := 80) O rfl dX8_rank_80 ?_
              refine g_vI [.int x2, .int x3] [] (pc := 81) O mk_X8_ofWhole ml_X8_283 im_X8_ofWhole se_X8_ofWhole cls8 rfl ⟨rfl, rfl, leb rfl, leb rfl⟩ rfl (leb rfl) dX8_rank_81 H rfl (fun v15 hv15 H => ?_)
              refine g_iloadn (pc := 84) O rfl dX8_rank_84 ?_
              refine g_isub (pc := 85) O dX8_rank_85 ?_
              exact g_iret (pc := 86) O dX8_rank_86 H
          · replace H := H.2 q8
            refine g_aloadn (pc := 54) O rfl dX8_rank_54 ?_
            refine g_iloadn (pc := 55) O rfl dX8_rank_55 ?_
            refine g_iloadn (pc := 56) O rfl dX8_rank_56 ?_
            refine g_vI [.int x2, .int x3] [] (pc := 57) O mk_X8_ofUnder ml_X8_286 im_X8_ofUnder se_X8_ofUnder cls8 rfl ⟨rfl, rfl, leb rfl, leb rfl⟩ rfl (leb rfl) dX8_rank_57 H rfl (fun v16 hv16 H => ?_)
            exact g_iret (pc := 60) O dX8_rank_60 H
        · replace H := H.2 q7
          refine g_aloadn (pc := 42) O rfl dX8_rank_42 ?_
          refine g_iloadn (pc := 43) O rfl dX8_rank_43 ?_
          refine g_iloadn (pc := 44) O rfl dX8_rank_44 ?_
          refine g_vI [.int x2, .int x3] [] (pc := 45) O mk_X8_ofWhole ml_X8_283 im_X8_ofWhole se_X8_ofWhole cls8 rfl ⟨rfl, rfl, leb rfl, leb rfl⟩ rfl (leb rfl) dX8_rank_45 H rfl (fun v17 hv17 H => ?_)
          exact g_iret (pc := 48) O dX8_rank_48 H
      · replace H := H.2 q6
        refine g_aloadn (pc := 30) O rfl dX8_rank_30 ?_
        refine g_iloadn (pc := 31) O rfl dX8_rank_31 ?_
        refine g_iloadn (pc := 32) O rfl dX8_rank_32 ?_
        refine g_vI [.int x2, .int x3] [] (pc := 33) O mk_X8_ofCoat ml_X8_277 im_X8_ofCoat se_X8_ofCoat cls8 rfl ⟨rfl, rfl, leb rfl, leb rfl⟩ rfl (leb rfl) dX8_rank_33 H rfl (fun v18 hv18 H => ?_)
        exact g_iret (pc := 36) O dX8_rank_36 H
    · replace H := H.2 q4
      refine g_ldcw (pc := 18) O co_X8_282 dX8_rank_18 ?_
      exact g_iret (pc := 21) O dX8_rank_21 H
set_option maxRecDepth 20000 in
set_option maxHeartbeats 2000000 in
theorem sX8_rank {g : mg} {l : Launch} {Q : Int32 → AH → Prop} {x1 : Int32} {x2 : Int32} {x3 : Int32} {h : AH} (H : SpI g l mX8_in h [.int x1, .int (I 0), .int (I 5)] (fun v1 hv1 => ((v1 = 0) → (Q (-1000000) hv1)) ∧ ((¬ (v1 = 0)) → (SpI g l mX8_isCoat hv1 [.ref 82, .int x2, .int x3] (fun v3 hv3 => ((¬ v3 = 0) → (SpV g l mX8_make hv3 [.ref 82] (fun hv5 => ((¬ x1 = 0) → (((¬ x1 = (I 1)) → (((¬ x1 = (I 2)) → (((¬ x1 = (I 3)) → (((¬ x1 = (I 4)) → (SpI g l mX8_ofCoat (sL hv5 82 32 ((hv5.2.1 82 32) + (100000))) [.ref 82, .int x2, .int x3] (fun v11 hv11 => ∃ j12 : Nat, x2 = I (j12 : Int) ∧ j12 < 4 ∧ (((¬ (hv11.1 85 j12) = (I 1)) → (Q (v11 + (I 0)) hv11)) ∧ (((hv11.1 85 j12) = (I 1)) → (Q (v11 + (I 20)) hv11)))))) ∧ ((x1 = (I 4)) → (SpI g l mX8_ofUnder (sL hv5 82 32 ((hv5.2.1 82 32) + (10000))) [.ref 82, .int x2, .int x3] (fun v14 hv14 => Q ((I 2) * v14) hv14))))) ∧ ((x1 = (I 3)) → (SpI g l mX8_ofWhole (sL hv5 82 32 ((hv5.2.1 82 32) + (1000))) [.ref 82, .int x2, .int x3] (fun v15 hv15 => Q (v15 - x3) hv15))))) ∧ ((x1 = (I 2)) → (SpI g l mX8_ofUnder hv5 [.ref 82, .int x2, .int x3] (fun v16 hv16 => Q v16 hv16))))) ∧ ((x1 = (I 1)) → (SpI g l mX8_ofWhole hv5 [.ref 82, .int x2, .int x3] (fun v17 hv17 => Q v17 hv17))))) ∧ ((x1 = 0) → (SpI g l mX8_ofCoat hv5 [.ref 82, .int x2, .int x3] (fun v18 hv18 => Q v18 hv18)))))) ∧ ((v3 = 0) → (Q (-1000000) hv3))))))) : SpI g l mX8_rank h [.ref 82, .int x1, .int x2, .int x3] Q := spI_of (by decide) (leb rfl) (fun X O => bX8_rank_0 O H)
set_option maxRecDepth 20000 in
set_option maxHeartbeats 2000000 in
theorem bX8_keep_0 {g : mg} {l : Launch} {X : XT} {Q : Int32 → AH → Prop} (O : Ok (FF g l X) RX8 cX8_keep 3 mX8_keep.2.2.2.2 (some .int)) {x1 : Int32} {h : AH} (H : SpI g l mX8_in h [.int x1, .int (I 0), .int (I 1)] (fun v1 hv1 => ((¬ v1 = 0) → (∃ j3 : Nat, x1 = I (j3 : Int) ∧ j3 < 2 ∧ (GI g l X Q (sI hv1 102 j3 (hv1.1 82 6)) 23 [(0, .ref 82), (1, .int x1), (2, .int (I 0))] []))) ∧ ((v1 = 0) → (Q (I (-1)) hv1)))) : GI g l X Q h 0 [(0, .ref 82), (1, .int x1)] [] := by
  refine g_iloadn (pc := 0) O rfl dX8_keep_0 ?_
  refine g_iconst (v := (I 0)) (pc := 1) O rfl dX8_keep_1 ?_
  refine g_iconst (v := (I 1)) (pc := 2) O rfl dX8_keep_2 ?_
  refine g_sI [.int x1, .int (I 0), .int (I 1)] [] (pc := 3) O mk_X8_in ml_X8_116 sm_X8_in ⟨rfl, rfl, leb rfl, leb rfl⟩ rfl (leb rfl) dX8_keep_3 H rfl (fun v1 hv1 H => ?_)
  refine g_if_ne (tgt := 11) (pc := 6) O dX8_keep_6 rfl (fun q2 => ?_) (fun q2 => ?_)
  · replace H := H.1 q2
    refine g_aloadn (pc := 11) O rfl dX8_keep_11 ?_
    refine g_getS (pc := 12) O cls8 fl_X8_67 dX8_keep_12 rfl (ltb rfl) (ltb rfl) rfl rfl ?_
    refine g_iloadn (pc := 15) O rfl dX8_keep_15 ?_
    refine g_aloadn (pc := 16) O rfl dX8_keep_16 ?_
    refine g_getI (v := hv1.1 82 6) (pc := 17) O cls8 fl_X8_173 dX8_keep_17 rfl (ltb rfl) (ltb rfl) rfl rfl ?_
    obtain ⟨j3, ej3, bj3, H⟩ := H
    refine g_iast (j := j3) (pc := 20) O dX8_keep_20 ej3 rfl (ltb rfl) (leb rfl) bj3 (ltb rfl) ?_
    refine g_iconst (v := (I 0)) (pc := 21) O rfl dX8_keep_21 ?_
    refine g_istoren (lv' := [(0, .ref 82), (1, .int x1), (2, .int (I 0))]) (pc := 22) O dX8_keep_22 rfl (ltb rfl) rfl ?_
    exact H
  · replace H := H.2 q2
    refine g_iconst (v := (I (-1))) (pc := 9) O rfl dX8_keep_9 ?_
    exact g_iret (pc := 10) O dX8_keep_10 H
set_option maxRecDepth 20000 in
set_option maxHeartbeats 2000000 in
theorem bX8_keep_23 {g : mg} {l : Launch} {X : XT} {Q : Int32 → AH → Prop} (O : Ok (FF g l X) RX8 cX8_keep 3 mX8_keep.2.2.2.2 (some .int)) {x1 : Int32} {x2 : Int32} {h : AH} (H : (((h.1 82 6) ≤ x2) → (GI g l X Q h 87 [(0, .ref 82), (1, .int x1), (2, .int (I 0))] [])) ∧ ((¬ ((h.1 82 6) ≤ x2)) → (∃ j2 : Nat, x2 = I (j2 : Int) ∧ j2 < 4 ∧ (∃ j3 : Nat, (((I 4) * x1) + x2) = I (j3 : Int) ∧ j3 < 8 ∧ (∃ j4 : Nat, x2 = I (j4 : Int) ∧ j4 < 4 ∧ (∃ j5 : Nat, (((I 4) * x1) + x2) = I (j5 : Int) ∧ j5 < 8 ∧ (∃ j6 : Nat, x2 = I (j6 : Int) ∧ j6 < 4 ∧ (∃ j7 : Nat, (((I 4) * x1) + x2) = I (j7 : Int) ∧ j7 < 8 ∧ (GI g l X Q (sI (sI (sI h 103 j3 (h.1 84 j2)) 104 j5 (h.1 85 j4)) 105 j7 (h.1 86 j6)) 23 [(0, .ref 82), (1, .int x1), (2, .int (x2 + I 1))] []))))))))) : GI g l X Q h 23 [(0, .ref 82), (1, .int x1), (2, .int x2)] [] := by
  refine g_iloadn (pc := 23) O rfl dX8_keep_23 ?_
  refine g_aloadn (pc := 24) O rfl dX8_keep_24 ?_
  refine g_getI (v := h.1 82 6) (pc := 25) O cls8 fl_X8_173 dX8_keep_25 rfl (ltb rfl) (ltb rfl) rfl rfl ?_
  refine g_icmp_ge (tgt := 85) (pc := 28) O dX8_keep_28 rfl (fun q1 => ?_) (fun q1 => ?_)
  · replace H := H.1 q1
    refine g_iconst (v := (I 0)) (pc := 85) O rfl dX8_keep_85 ?_
    refine g_istoren (lv' := [(0, .ref 82), (1, .int x1), (2, .int (I 0))]) (pc := 86) O dX8_keep_86 rfl (ltb rfl) rfl ?_
    exact H
  · replace H := H.2 q1
    refine g_aloadn (pc := 31) O rfl dX8_keep_31 ?_
    refine g_getS (pc := 32) O cls8 fl_X8_70 dX8_keep_32 rfl (ltb rfl) (ltb rfl) rfl rfl ?_
    refine g_iconst (v := (I 4)) (pc := 35) O rfl dX8_keep_35 ?_
    refine g_iloadn (pc := 36) O rfl dX8_keep_36 ?_
    refine g_imul (pc := 37) O dX8_keep_37 ?_
    refine g_iloadn (pc := 38) O rfl dX8_keep_38 ?_
    refine g_iadd (pc := 39) O dX8_keep_39 ?_
    refine g_aloadn (pc := 40) O rfl dX8_keep_40 ?_
    refine g_getS (pc := 41) O cls8 fl_X8_13 dX8_keep_41 rfl (ltb rfl) (ltb rfl) rfl rfl ?_
    refine g_iloadn (pc := 44) O rfl dX8_keep_44 ?_
    obtain ⟨j2, ej2, bj2, H⟩ := H
    refine g_iald (j := j2) (pc := 45) O dX8_keep_45 ej2 rfl (ltb rfl) bj2 (ltb rfl) rfl ?_
    obtain ⟨j3, ej3, bj3, H⟩ := H
    refine g_iast (j := j3) (pc := 46) O dX8_keep_46 ej3 rfl (ltb rfl) (leb rfl) bj3 (ltb rfl) ?_
    refine g_aloadn (pc := 47) O rfl dX8_keep_47 ?_
    refine g_getS (pc := 48) O cls8 fl_X8_73 dX8_keep_48 rfl (ltb rfl) (ltb rfl) rfl rfl ?_
    refine g_iconst (v := (I 4)) (pc := 51) O rfl dX8_keep_51 ?_
    refine g_iloadn (pc := 52) O rfl dX8_keep_52 ?_
    refine g_imul (pc := 53) O dX8_keep_53 ?_
    refine g_iloadn (pc := 54) O rfl dX8_keep_54 ?_
    refine g_iadd (pc := 55) O dX8_keep_55 ?_
    refine g_aloadn (pc := 56) O rfl dX8_keep_56 ?_
    refine g_getS (pc := 57) O cls8 fl_X8_16 dX8_keep_57 rfl (ltb rfl) (ltb rfl) rfl rfl ?_
    refine g_iloadn (pc := 60) O rfl dX8_keep_60 ?_
    obtain ⟨j4, ej4, bj4, H⟩ := H
    refine g_iald (j := j4) (pc := 61) O dX8_keep_61 ej4 rfl (ltb rfl) bj4 (ltb rfl) rfl ?_
    obtain ⟨j5, ej5, bj5, H⟩ := H
    refine g_iast (j := j5) (pc := 62) O dX8_keep_62 ej5 rfl (ltb rfl) (leb rfl) bj5 (ltb rfl) ?_
    refine g_aloadn (pc := 63) O rfl dX8_keep_63 ?_
    refine g_getS (pc := 64) O cls8 fl_X8_76 dX8_keep_64 rfl (ltb rfl) (ltb rfl) rfl rfl ?_
    refine g_iconst (v := (I 4)) (pc := 67) O rfl dX8_keep_67 ?_
    refine g_iloadn (pc := 68) O rfl dX8_keep_68 ?_
    refine g_imul (pc := 69) O dX8_keep_69 ?_
    refine g_iloadn (pc := 70) O rfl dX8_keep_70 ?_
    refine g_iadd (pc := 71) O dX8_keep_71 ?_
    refine g_aloadn (pc := 72) O rfl dX8_keep_72 ?_
    refine g_getS (pc := 73) O cls8 fl_X8_19 dX8_keep_73 rfl (ltb rfl) (ltb rfl) rfl rfl ?_
    refine g_iloadn (pc := 76) O rfl dX8_keep_76 ?_
    obtain ⟨j6, ej6, bj6, H⟩ := H
    refine g_iald (j := j6) (pc := 77) O dX8_keep_77 ej6 rfl (ltb rfl) bj6 (ltb rfl) rfl ?_
    obtain ⟨j7, ej7, bj7, H⟩ := H
    refine g_iast (j := j7) (pc := 78) O dX8_keep_78 ej7 rfl (ltb rfl) (leb rfl) bj7 (ltb rfl) ?_
    refine g_iinc (lv' := [(0, .ref 82), (1, .int x1), (2, .int (x2 + I 1))]) (pc := 79) O dX8_keep_79 rfl rfl (ltb rfl) rfl ?_
    refine g_goto (tgt := 23) (pc := 82) O dX8_keep_82 rfl ?_
    exact H
set_option maxRecDepth 20000 in
set_option maxHeartbeats 2000000 in
theorem bX8_keep_87 {g : mg} {l : Launch} {X : XT} {Q : Int32 → AH → Prop} (O : Ok (FF g l X) RX8 cX8_keep 3 mX8_keep.2.2.2.2 (some .int)) {x1 : Int32} {x2 : Int32} {h : AH} (H : (((I 40) ≤ x2) → (Q (h.1 82 6) h)) ∧ ((¬ ((I 40) ≤ x2)) → (∃ j2 : Nat, x2 = I (j2 : Int) ∧ j2 < 40 ∧ (∃ j3 : Nat, (((I 40) * x1) + x2) = I (j3 : Int) ∧ j3 < 80 ∧ (∃ j4 : Nat, x2 = I (j4 : Int) ∧ j4 < 40 ∧ (∃ j5 : Nat, (((I 40) * x1) + x2) = I (j5 : Int) ∧ j5 < 80 ∧ (GI g l X Q (sI (sI h 106 j3 (h.1 87 j2)) 107 j5 (h.1 88 j4)) 87 [(0, .ref 82), (1, .int x1), (2, .int (x2 + I 1))] []))))))) : GI g l X Q h 87 [(0, .ref 82), (1, .int x1), (2, .int x2)] [] := by
  refine g_iloadn (pc := 87) O rfl dX8_keep_87 ?_
  refine g_bipush (v := (I 40)) (pc := 88) O (by decide) dX8_keep_88 ?_
  refine g_icmp_ge (tgt := 133) (pc := 90) O dX8_keep_90 rfl (fun q1 => ?_) (fun q1 => ?_)
  · replace H := H.1 q1
    refine g_aloadn (pc := 133) O rfl dX8_keep_133 ?_
    refine g_getI (v := h.1 82 6) (pc := 134) O cls8 fl_X8_173 dX8_keep_134 rfl (ltb rfl) (ltb rfl) rfl rfl ?_
    exact g_iret (pc := 137) O dX8_keep_137 H
  · replace H := H.2 q1
    refine g_aloadn (pc := 93) O rfl dX8_keep_93 ?_
    refine g_getS (pc := 94) O cls8 fl_X8_79 dX8_keep_94 rfl (ltb rfl) (ltb rfl) rfl rfl ?_
    refine g_bipush (v := (I 40)) (pc := 97) O (by decide) dX8_keep_97 ?_
    refine g_iloadn (pc := 99) O rfl dX8_keep_99 ?_
    refine g_imul (pc := 100) O dX8_keep_100 ?_
    refine g_iloadn (pc := 101) O rfl dX8_keep_101 ?_
    refine g_iadd (pc := 102) O dX8_keep_102 ?_
    refine g_aloadn (pc := 103) O rfl dX8_keep_103 ?_
    refine g_getS (pc := 104) O cls8 fl_X8_22 dX8_keep_104 rfl (ltb rfl) (ltb rfl) rfl rfl ?_
    refine g_iloadn (pc := 107) O rfl dX8_keep_107 ?_
    obtain ⟨j2, ej2, bj2, H⟩ := H
    refine g_iald (j := j2) (pc := 108) O dX8_keep_108 ej2 rfl (ltb rfl) bj2 (ltb rfl) rfl ?_
    obtain ⟨j3, ej3, bj3, H⟩ := H
    refine g_iast (j := j3) (pc := 109) O dX8_keep_109 ej3 rfl (ltb rfl) (leb rfl) bj3 (ltb rfl) ?_
    refine g_aloadn (pc := 110) O rfl dX8_keep_110 ?_
    refine g_getS (pc := 111) O cls8 fl_X8_82 dX8_keep_111 rfl (ltb rfl) (ltb rfl) rfl rfl ?_
    refine g_bipush (v := (I 40)) (pc := 114) O (by decide) dX8_keep_114 ?_
    refine g_iloadn (pc := 116) O rfl dX8_keep_116 ?_
    refine g_imul (pc := 117) O dX8_keep_117 ?_
    refine g_iloadn (pc := 118) O rfl dX8_keep_118 ?_
    refine g_iadd (pc := 119) O dX8_keep_119 ?_
    refine g_aloadn (pc := 120) O rfl dX8_keep_120 ?_
    refine g_getS (pc := 121) O cls8 fl_X8_25 dX8_keep_121 rfl (ltb rfl) (ltb rfl) rfl rfl ?_
    refine g_iloadn (pc := 124) O rfl dX8_keep_124 ?_
    obtain ⟨j4, ej4, bj4, H⟩ := H
    refine g_iald (j := j4) (pc := 125) O dX8_keep_125 ej4 rfl (ltb rfl) bj4 (ltb rfl) rfl ?_
    obtain ⟨j5, ej5, bj5, H⟩ := H
    refine g_iast (j := j5) (pc := 126) O dX8_keep_126 ej5 rfl (ltb rfl) (leb rfl) bj5 (ltb rfl) ?_
    refine g_iinc (lv' := [(0, .ref 82), (1, .int x1), (2, .int (x2 + I 1))]) (pc := 127) O dX8_keep_127 rfl rfl (ltb rfl) rfl ?_
    refine g_goto (tgt := 87) (pc := 130) O dX8_keep_130 rfl ?_
    exact H
set_option maxRecDepth 20000 in
set_option maxHeartbeats 2000000 in
theorem sX8_keep {g : mg} {l : Launch} {Q : Int32 → AH → Prop} {x1 : Int32} {h : AH} (H : ∀ X, Ok (FF g l X) RX8 cX8_keep 3 mX8_keep.2.2.2.2 (some .int) → SpI g l mX8_in h [.int x1, .int (I 0), .int (I 1)] (fun v1 hv1 => ((¬ v1 = 0) → (∃ j3 : Nat, x1 = I (j3 : Int) ∧ j3 < 2 ∧ (GI g l X Q (sI hv1 102 j3 (hv1.1 82 6)) 23 [(0, .ref 82), (1, .int x1), (2, .int (I 0))] []))) ∧ ((v1 = 0) → (Q (I (-1)) hv1)))) : SpI g l mX8_keep h [.ref 82, .int x1] Q := spI_of (by decide) (leb rfl) (fun X O => bX8_keep_0 O (H X O))
set_option maxRecDepth 20000 in
set_option maxHeartbeats 2000000 in
theorem bX8_back_0 {g : mg} {l : Launch} {X : XT} {Q : Int32 → AH → Prop} (O : Ok (FF g l X) RX8 cX8_back 3 mX8_back.2.2.2.2 (some .int)) {x1 : Int32} {h : AH} (H : SpI g l mX8_in h [.int x1, .int (I 0), .int (I 1)] (fun v1 hv1 => ((¬ v1 = 0) → (∃ j3 : Nat, x1 = I (j3 : Int) ∧ j3 < 2 ∧ (((0 ≤ (hv1.1 102 j3)) → (∃ j5 : Nat, x1 = I (j5 : Int) ∧ j5 < 2 ∧ (GI g l X Q (sI hv1 82 6 (hv1.1 102 j5)) 35 [(0, .ref 82), (1, .int x1), (2, .int (I 0))] []))) ∧ ((¬ (0 ≤ (hv1.1 102 j3))) → (Q (I (-2)) hv1))))) ∧ ((v1 = 0) → (Q (I (-1)) hv1)))) : GI g l X Q h 0 [(0, .ref 82), (1, .int x1)] [] := by
  refine g_iloadn (pc := 0) O rfl dX8_back_0 ?_
  refine g_iconst (v := (I 0)) (pc := 1) O rfl dX8_back_1 ?_
  refine g_iconst (v := (I 1)) (pc := 2) O rfl dX8_back_2 ?_
  refine g_sI [.int x1, .int (I 0), .int (I 1)] [] (pc := 3) O mk_X8_in ml_X8_116 sm_X8_in ⟨rfl, rfl, leb rfl, leb rfl⟩ rfl (leb rfl) dX8_back_3 H rfl (fun v1 hv1 H => ?_)
  refine g_if_ne (tgt := 11) (pc := 6) O dX8_back_6 rfl (fun q2 => ?_) (fun q2 => ?_)
  · replace H := H.1 q2
    refine g_aloadn (pc := 11) O rfl dX8_back_11 ?_
    refine g_getS (pc := 12) O cls8 fl_X8_67 dX8_back_12 rfl (ltb rfl) (ltb rfl) rfl rfl ?_
    refine g_iloadn (pc := 15) O rfl dX8_back_15 ?_
    obtain ⟨j3, ej3, bj3, H⟩ := H
    refine g_iald (j := j3) (pc := 16) O dX8_back_16 ej3 rfl (ltb rfl) bj3 (ltb rfl) rfl ?_
    refine g_if_ge (tgt := 23) (pc := 17) O dX8_back_17 rfl (fun q4 => ?_) (fun q4 => ?_)
    · replace H := H.1 q4
      refine g_aloadn (pc := 23) O rfl dX8_back_23 ?_
      refine g_aloadn (pc := 24) O rfl dX8_back_24 ?_
      refine g_getS (pc := 25) O cls8 fl_X8_67 dX8_back_25 rfl (ltb rfl) (ltb rfl) rfl rfl ?_
      refine g_iloadn (pc := 28) O rfl dX8_back_28 ?_
      obtain ⟨j5, ej5, bj5, H⟩ := H
      refine g_iald (j := j5) (pc := 29) O dX8_back_29 ej5 rfl (ltb rfl) bj5 (ltb rfl) rfl ?_
      refine g_putI (pc := 30) O cls8 fl_X8_173 dX8_back_30 rfl (ltb rfl) (leb rfl) (ltb rfl) rfl rfl (by decide +kernel) ?_
      refine g_iconst (v := (I 0)) (pc := 33) O rfl dX8_back_33 ?_
      refine g_istoren (lv' := [(0, .ref 82), (1, .int x1), (2, .int (I 0))]) (pc := 34) O dX8_back_34 rfl (ltb rfl) rfl ?_
      exact H
    · replace H := H.2 q4
      refine g_bipush (v := (I (-2))) (pc := 20) O (by decide) dX8_back_20 ?_
      exact g_iret (pc := 22) O dX8_back_22 H
  · replace H := H.2 q2
    refine g_iconst (v := (I (-1))) (pc := 9) O rfl dX8_back_9 ?_
    exact g_iret (pc := 10) O dX8_back_10 H
set_option maxRecDepth 20000 in
set_option maxHeartbeats 2000000 in
theorem bX8_back_35 {g : mg} {l : Launch} {X : XT} {Q : Int32 → AH → Prop} (O : Ok (FF g l X) RX8 cX8_back 3 mX8_back.2.2.2.2 (some .int)) {x1 : Int32} {x2 : Int32} {h : AH} (H : (((h.1 82 6) ≤ x2) → (GI g l X Q h 99 [(0, .ref 82), (1, .int x1), (2, .int (I 0))] [])) ∧ ((¬ ((h.1 82 6) ≤ x2)) → (∃ j2 : Nat, (((I 4) * x1) + x2) = I (j2 : Int) ∧ j2 < 8 ∧ (∃ j3 : Nat, x2 = I (j3 : Int) ∧ j3 < 4 ∧ (∃ j4 : Nat, (((I 4) * x1) + x2) = I (j4 : Int) ∧ j4 < 8 ∧ (∃ j5 : Nat, x2 = I (j5 : Int) ∧ j5 < 4 ∧ (∃ j6 : Nat, (((I 4) * x1) + x2) = I (j6 : Int) ∧ j6 < 8 ∧ (∃ j7 : Nat, x2 = I (j7 : Int) ∧ j7 < 4 ∧ (GI g l X Q (sI (sI (sI h 84 j3 (h.1 103 j2)) 85 j5 (h.1 104 j4)) 86 j7 (h.1 105 j6)) 35 [(0, .ref 82), (1, .int x1), (2, .int (x2 + I 1))] []))))))))) : GI g l X Q h 35 [(0, .ref 82), (1, .int x1), (2, .int x2)] [] := by
  refine g_iloadn (pc := 35) O rfl dX8_back_35 ?_
  refine g_aloadn (pc := 36) O rfl dX8_back_36 ?_
  refine g_getI (v := h.1 82 6) (pc := 37) O cls8 fl_X8_173 dX8_back_37 rfl (ltb rfl) (ltb rfl) rfl rfl ?_
  refine g_icmp_ge (tgt := 97) (pc := 40) O dX8_back_40 rfl (fun q1 => ?_) (fun q1 => ?_)
  · replace H := H.1 q1
    refine g_iconst (v := (I 0)) (pc := 97) O rfl dX8_back_97 ?_
    refine g_istoren (lv' := [(0, .ref 82), (1, .int x1), (2, .int (I 0))]) (pc := 98) O dX8_back_98 rfl (ltb rfl) rfl ?_
    exact H
  · replace H := H.2 q1
    refine g_aloadn (pc := 43) O rfl dX8_back_43 ?_
    refine g_getS (pc := 44) O cls8 fl_X8_13 dX8_back_44 rfl (ltb rfl) (ltb rfl) rfl rfl ?_
    refine g_iloadn (pc := 47) O rfl dX8_back_47 ?_
    refine g_aloadn (pc := 48) O rfl dX8_back_48 ?_
    refine g_getS (pc := 49) O cls8 fl_X8_70 dX8_back_49 rfl (ltb rfl) (ltb rfl) rfl rfl ?_
    refine g_iconst (v := (I 4)) (pc := 52) O rfl dX8_back_52 ?_
    refine g_iloadn (pc := 53) O rfl dX8_back_53 ?_
    refine g_imul (pc := 54) O dX8_back_54 ?_
    refine g_iloadn (pc := 55) O rfl dX8_back_55 ?_
    refine g_iadd (pc := 56) O dX8_back_56 ?_
    obtain ⟨j2, ej2, bj2, H⟩ := H
    refine g_iald (j := j2) (pc := 57) O dX8_back_57 ej2 rfl (ltb rfl) bj2 (ltb rfl) rfl ?_
    obtain ⟨j3, ej3, bj3, H⟩ := H
    refine g_iast (j := j3) (pc := 58) O dX8_back_58 ej3 rfl (ltb rfl) (leb rfl) bj3 (ltb rfl) ?_
    refine g_aloadn (pc := 59) O rfl dX8_back_59 ?_
    refine g_getS (pc := 60) O cls8 fl_X8_16 dX8_back_60 rfl (ltb rfl) (ltb rfl) rfl rfl ?_
    refine g_iloadn (pc := 63) O rfl dX8_back_63 ?_
    refine g_aloadn (pc := 64) O rfl dX8_back_64 ?_
    refine g_getS (pc := 65) O cls8 fl_X8_73 dX8_back_65 rfl (ltb rfl) (ltb rfl) rfl rfl ?_
    refine g_iconst (v := (I 4)) (pc := 68) O rfl dX8_back_68 ?_
    refine g_iloadn (pc := 69) O rfl dX8_back_69 ?_
    refine g_imul (pc := 70) O dX8_back_70 ?_
    refine g_iloadn (pc := 71) O rfl dX8_back_71 ?_
    refine g_iadd (pc := 72) O dX8_back_72 ?_
    obtain ⟨j4, ej4, bj4, H⟩ := H
    refine g_iald (j := j4) (pc := 73) O dX8_back_73 ej4 rfl (ltb rfl) bj4 (ltb rfl) rfl ?_
    obtain ⟨j5, ej5, bj5, H⟩ := H
    refine g_iast (j := j5) (pc := 74) O dX8_back_74 ej5 rfl (ltb rfl) (leb rfl) bj5 (ltb rfl) ?_
    refine g_aloadn (pc := 75) O rfl dX8_back_75 ?_
    refine g_getS (pc := 76) O cls8 fl_X8_19 dX8_back_76 rfl (ltb rfl) (ltb rfl) rfl rfl ?_
    refine g_iloadn (pc := 79) O rfl dX8_back_79 ?_
    refine g_aloadn (pc := 80) O rfl dX8_back_80 ?_
    refine g_getS (pc := 81) O cls8 fl_X8_76 dX8_back_81 rfl (ltb rfl) (ltb rfl) rfl rfl ?_
    refine g_iconst (v := (I 4)) (pc := 84) O rfl dX8_back_84 ?_
    refine g_iloadn (pc := 85) O rfl dX8_back_85 ?_
    refine g_imul (pc := 86) O dX8_back_86 ?_
    refine g_iloadn (pc := 87) O rfl dX8_back_87 ?_
    refine g_iadd (pc := 88) O dX8_back_88 ?_
    obtain ⟨j6, ej6, bj6, H⟩ := H
    refine g_iald (j := j6) (pc := 89) O dX8_back_89 ej6 rfl (ltb rfl) bj6 (ltb rfl) rfl ?_
    obtain ⟨j7, ej7, bj7, H⟩ := H
    refine g_iast (j := j7) (pc := 90) O dX8_back_90 ej7 rfl (ltb rfl) (leb rfl) bj7 (ltb rfl) ?_
    refine g_iinc (lv' := [(0, .ref 82), (1, .int x1), (2, .int (x2 + I 1))]) (pc := 91) O dX8_back_91 rfl rfl (ltb rfl) rfl ?_
    refine g_goto (tgt := 35) (pc := 94) O dX8_back_94 rfl ?_
    exact H
set_option maxRecDepth 20000 in
set_option maxHeartbeats 2000000 in
theorem bX8_back_99 {g : mg} {l : Launch} {X : XT} {Q : Int32 → AH → Prop} (O : Ok (FF g l X) RX8 cX8_back 3 mX8_back.2.2.2.2 (some .int)) {x1 : Int32} {x2 : Int32} {h : AH} (H : (((I 40) ≤ x2) → (Q (h.1 82 6) (sI h 82 41 (I 0)))) ∧ ((¬ ((I 40) ≤ x2)) → (∃ j2 : Nat, (((I 40) * x1) + x2) = I (j2 : Int) ∧ j2 < 80 ∧ (∃ j3 : Nat, x2 = I (j3 : Int) ∧ j3 < 40 ∧ (∃ j4 : Nat, (((I 40) * x1) + x2) = I (j4 : Int) ∧ j4 < 80 ∧ (∃ j5 : Nat, x2 = I (j5 : Int) ∧ j5 < 40 ∧ (GI g l X Q (sI (sI h 87 j3 (h.1 106 j2)) 88 j5 (h.1 107 j4)) 99 [(0, .ref 82), (1, .int x1), (2, .int (x2 + I 1))] []))))))) : GI g l X Q h 99 [(0, .ref 82), (1, .int x1), (2, .int x2)] [] := by
  refine g_iloadn (pc := 99) O rfl dX8_back_99 ?_
  refine g_bipush (v := (I 40)) (pc := 100) O (by decide) dX8_back_100 ?_
  refine g_icmp_ge (tgt := 145) (pc := 102) O dX8_back_102 rfl (fun q1 => ?_) (fun q1 => ?_)
  · replace H := H.1 q1
    refine g_aloadn (pc := 145) O rfl dX8_back_145 ?_
    refine g_iconst (v := (I 0)) (pc := 146) O rfl dX8_back_146 ?_
    refine g_putZ (pc := 147) O cls8 fl_X8_180 dX8_back_147 rfl (ltb rfl) (leb rfl) (ltb rfl) rfl rfl (by decide +kernel) (by decide) ?_
    refine g_aloadn (pc := 150) O rfl dX8_back_150 ?_
    refine g_getI (v := h.1 82 6) (pc := 151) O cls8 fl_X8_173 dX8_back_151 rfl (ltb rfl) (ltb rfl) rfl rfl ?_
    exact g_iret (pc := 154) O dX8_back_154 H
  · replace H := H.2 q1
    refine g_aloadn (pc := 105) O rfl dX8_back_105 ?_
    refine g_getS (pc := 106) O cls8 fl_X8_22 dX8_back_106 rfl (ltb rfl) (ltb rfl) rfl rfl ?_
    refine g_iloadn (pc := 109) O rfl dX8_back_109 ?_
    refine g_aloadn (pc := 110) O rfl dX8_back_110 ?_
    refine g_getS (pc := 111) O cls8 fl_X8_79 dX8_back_111 rfl (ltb rfl) (ltb rfl) rfl rfl ?_
    refine g_bipush (v := (I 40)) (pc := 114) O (by decide) dX8_back_114 ?_
    refine g_iloadn (pc := 116) O rfl dX8_back_116 ?_
    refine g_imul (pc := 117) O dX8_back_117 ?_
    refine g_iloadn (pc := 118) O rfl dX8_back_118 ?_
    refine g_iadd (pc := 119) O dX8_back_119 ?_
    obtain ⟨j2, ej2, bj2, H⟩ := H
    refine g_iald (j := j2) (pc := 120) O dX8_back_120 ej2 rfl (ltb rfl) bj2 (ltb rfl) rfl ?_
    obtain ⟨j3, ej3, bj3, H⟩ := H
    refine g_iast (j := j3) (pc := 121) O dX8_back_121 ej3 rfl (ltb rfl) (leb rfl) bj3 (ltb rfl) ?_
    refine g_aloadn (pc := 122) O rfl dX8_back_122 ?_
    refine g_getS (pc := 123) O cls8 fl_X8_25 dX8_back_123 rfl (ltb rfl) (ltb rfl) rfl rfl ?_
    refine g_iloadn (pc := 126) O rfl dX8_back_126 ?_
    refine g_aloadn (pc := 127) O rfl dX8_back_127 ?_
    refine g_getS (pc := 128) O cls8 fl_X8_82 dX8_back_128 rfl (ltb rfl) (ltb rfl) rfl rfl ?_
    refine g_bipush (v := (I 40)) (pc := 131) O (by decide) dX8_back_131 ?_
    refine g_iloadn (pc := 133) O rfl dX8_back_133 ?_
    refine g_imul (pc := 134) O dX8_back_134 ?_
    refine g_iloadn (pc := 135) O rfl dX8_back_135 ?_
    refine g_iadd (pc := 136) O dX8_back_136 ?_
    obtain ⟨j4, ej4, bj4, H⟩ := H
    refine g_iald (j := j4) (pc := 137) O dX8_back_137 ej4 rfl (ltb rfl) bj4 (ltb rfl) rfl ?_
    obtain ⟨j5, ej5, bj5, H⟩ := H
    refine g_iast (j := j5) (pc := 138) O dX8_back_138 ej5 rfl (ltb rfl) (leb rfl) bj5 (ltb rfl) ?_
    refine g_iinc (lv' := [(0, .ref 82), (1, .int x1), (2, .int (x2 + I 1))]) (pc := 139) O dX8_back_139 rfl rfl (ltb rfl) rfl ?_
    refine g_goto (tgt := 99) (pc := 142) O dX8_back_142 rfl ?_
    exact H
set_option maxRecDepth 20000 in
set_option maxHeartbeats 2000000 in
theorem sX8_back {g : mg} {l : Launch} {Q : Int32 → AH → Prop} {x1 : Int32} {h : AH} (H : ∀ X, Ok (FF g l X) RX8 cX8_back 3 mX8_back.2.2.2.2 (some .int) → SpI g l mX8_in h [.int x1, .int (I 0), .int (I 1)] (fun v1 hv1 => ((¬ v1 = 0) → (∃ j3 : Nat, x1 = I (j3 : Int) ∧ j3 < 2 ∧ (((0 ≤ (hv1.1 102 j3)) → (∃ j5 : Nat, x1 = I (j5 : Int) ∧ j5 < 2 ∧ (GI g l X Q (sI hv1 82 6 (hv1.1 102 j5)) 35 [(0, .ref 82), (1, .int x1), (2, .int (I 0))] []))) ∧ ((¬ (0 ≤ (hv1.1 102 j3))) → (Q (I (-2)) hv1))))) ∧ ((v1 = 0) → (Q (I (-1)) hv1)))) : SpI g l mX8_back h [.ref 82, .int x1] Q := spI_of (by decide) (leb rfl) (fun X O => bX8_back_0 O (H X O))
set_option maxRecDepth 20000 in
set_option maxHeartbeats 2000000 in
theorem bX8_count_0 {g : mg} {l : Launch} {X : XT} {Q : Int32 → AH → Prop} (O : Ok (FF g l X) RX8 cX8_count 4 mX8_count.2.2.2.2 (some .int)) {x1 : Int32} {h : AH} (H : SpI g l mX8_in h [.int x1, .int (I 0), .int (I 3)] (fun v1 hv1 => ((¬ v1 = 0) → (GI g l X Q hv1 15 [(0, .ref 82), (1, .int x1), (2, .int (I 0)), (3, .int (I 0))] [])) ∧ ((v1 = 0) → (Q (I (-1)) hv1)))) : GI g l X Q h 0 [(0, .ref 82), (1, .int x1)] [] := by
  refine g_iloadn (pc := 0) O rfl dX8_count_0 ?_
  refine g_iconst (v := (I 0)) (pc := 1) O rfl dX8_count_1 ?_
  refine g_iconst (v := (I 3)) (pc := 2) O rfl dX8_count_2 ?_
  refine g_sI [.int x1, .int (I 0), .int (I 3)] [] (pc := 3) O mk_X8_in ml_X8_116 sm_X8_in ⟨rfl, rfl, leb rfl, leb rfl⟩ rfl (leb rfl) dX8_count_3 H rfl (fun v1 hv1 H => ?_)
  refine g_if_ne (tgt := 11) (pc := 6) O dX8_count_6 rfl (fun q2 => ?_) (fun q2 => ?_)
  · replace H := H.1 q2
    refine g_iconst (v := (I 0)) (pc := 11) O rfl dX8_count_11 ?_
    refine g_istoren (lv' := [(0, .ref 82), (1, .int x1), (2, .int (I 0))]) (pc := 12) O dX8_count_12 rfl (ltb rfl) rfl ?_
    refine g_iconst (v := (I 0)) (pc := 13) O rfl dX8_count_13 ?_
    refine g_istoren (lv' := [(0, .ref 82), (1, .int x1), (2, .int (I 0)), (3, .int (I 0))]) (pc := 14) O dX8_count_14 rfl (ltb rfl) rfl ?_
    exact H
  · replace H := H.2 q2
    refine g_iconst (v := (I (-1))) (pc := 9) O rfl dX8_count_9 ?_
    exact g_iret (pc := 10) O dX8_count_10 H
set_option maxRecDepth 20000 in
set_option maxHeartbeats 2000000 in
theorem bX8_count_15 {g : mg} {l : Launch} {X : XT} {Q : Int32 → AH → Prop} (O : Ok (FF g l X) RX8 cX8_count 4 mX8_count.2.2.2.2 (some .int)) {x1 : Int32} {x2 : Int32} {x3 : Int32} {h : AH} (H : (((h.1 82 6) ≤ x3) → (((¬ x1 = 0) → (((¬ x1 = (I 1)) → (((¬ x1 = (I 2)) → (Q (h.1 82 1) h)) ∧ ((x1 = (I 2)) → (Q (h.1 82 17) h)))) ∧ ((x1 = (I 1)) → (Q x2 h)))) ∧ ((x1 = 0) → (Q (h.1 82 6) h)))) ∧ ((¬ ((h.1 82 6) ≤ x3)) → (∃ j5 : Nat, x3 = I (j5 : Int) ∧ j5 < 4 ∧ (GI g l X Q h 15 [(0, .ref 82), (1, .int x1), (2, .int (x2 + (h.1 86 j5))), (3, .int (x3 + I 1))] [])))) : GI g l X Q h 15 [(0, .ref 82), (1, .int x1), (2, .int x2), (3, .int x3)] [] := by
  refine g_iloadn (pc := 15) O rfl dX8_count_15 ?_
  refine g_aloadn (pc := 16) O rfl dX8_count_16 ?_
  refine g_getI (v := h.1 82 6) (pc := 17) O cls8 fl_X8_173 dX8_count_17 rfl (ltb rfl) (ltb rfl) rfl rfl ?_
  refine g_icmp_ge (tgt := 38) (pc := 20) O dX8_count_20 rfl (fun q1 => ?_) (fun q1 => ?_)
  · replace H := H.1 q1
    refine g_iloadn (pc := 38) O rfl dX8_count_38 ?_
    refine g_if_ne (tgt := 49) (pc := 39) O dX8_count_39 rfl (fun q2 => ?_) (fun q2 => ?_)
    · replace H := H.1 q2
      refine g_iloadn (pc := 49) O rfl dX8_count_49 ?_
      refine g_iconst (v := (I 1)) (pc := 50) O rfl dX8_count_50 ?_
      refine g_icmp_ne (tgt := 58) (pc := 51) O dX8_count_51 rfl (fun q3 => ?_) (fun q3 => ?_)
      · replace H := H.1 q3
        refine g_iloadn (pc := 58) O rfl dX8_count_58 ?_
        refine g_iconst (v := (I 2)) (pc := 59) O rfl dX8_count_59 ?_
        refine g_icmp_ne (tgt := 70) (pc := 60) O dX8_count_60 rfl (fun q4 => ?_) (fun q4 => ?_)
        · replace H := H.1 q4
          refine g_aloadn (pc := 70) O rfl dX8_count_70 ?_
          refine g_getI (v := h.1 82 1) (pc := 71) O cls8 fl_X8_120 dX8_count_71 rfl (ltb rfl) (ltb rfl) rfl rfl ?_
          exact g_iret (pc := 74) O dX8_count_74 H
        · replace H := H.2 q4
          refine g_aloadn (pc := 63) O rfl dX8_count_63 ?_
          refine g_getI (v := h.1 82 17) (pc := 64) O cls8 fl_X8_196 dX8_count_64 rfl (ltb rfl) (ltb rfl) rfl rfl ?_
          refine g_goto (tgt := 74) (pc := 67) O dX8_count_67 rfl ?_
          exact g_iret (pc := 74) O dX8_count_74 H
      · replace H := H.2 q3
        refine g_iloadn (pc := 54) O rfl dX8_count_54 ?_
        refine g_goto (tgt := 74) (pc := 55) O dX8_count_55 rfl ?_
        exact g_iret (pc := 74) O dX8_count_74 H
    · replace H := H.2 q2
      refine g_aloadn (pc := 42) O rfl dX8_count_42 ?_
      refine g_getI (v := h.1 82 6) (pc := 43) O cls8 fl_X8_173 dX8_count_43 rfl (ltb rfl) (ltb rfl) rfl rfl ?_
      refine g_goto (tgt := 74) (pc := 46) O dX8_count_46 rfl ?_
      exact g_iret (pc := 74) O dX8_count_74 H
  · replace H := H.2 q1
    refine g_iloadn (pc := 23) O rfl dX8_count_23 ?_
    refine g_aloadn (pc := 24) O rfl dX8_count_24 ?_
    refine g_getS (pc := 25) O cls8 fl_X8_19 dX8_count_25 rfl (ltb rfl) (ltb rfl) rfl rfl ?_
    refine g_iloadn (pc := 28) O rfl dX8_count_28 ?_
    obtain ⟨j5, ej5, bj5, H⟩ := H
    refine g_iald (j := j5) (pc := 29) O dX8_count_29 ej5 rfl (ltb rfl) bj5 (ltb rfl) rfl ?_
    refine g_iadd (pc := 30) O dX8_count_30 ?_
    refine g_istoren (lv' := [(0, .ref 82), (1, .int x1), (2, .int (x2 + (h.1 86 j5))), (3, .int x3)]) (pc := 31) O dX8_count_31 rfl (ltb rfl) rfl ?_
    refine g_iinc (lv' := [(0, .ref 82), (1, .int x1), (2, .int (x2 + (h.1 86 j5))), (3, .int (x3 + I 1))]) (pc := 32) O dX8_count_32 rfl rfl (ltb rfl) rfl ?_
    refine g_goto (tgt := 15) (pc := 35) O dX8_count_35 rfl ?_
    exact H
set_option maxRecDepth 20000 in
set_option maxHeartbeats 2000000 in
theorem sX8_count {g : mg} {l : Launch} {Q : Int32 → AH → Prop} {x1 : Int32} {h : AH} (H : ∀ X, Ok (FF g l X) RX8 cX8_count 4 mX8_count.2.2.2.2 (some .int) → SpI g l mX8_in h [.int x1, .int (I 0), .int (I 3)] (fun v1 hv1 => ((¬ v1 = 0) → (GI g l X Q hv1 15 [(0, .ref 82), (1, .int x1), (2, .int (I 0)), (3, .int (I 0))] [])) ∧ ((v1 = 0) → (Q (I (-1)) hv1)))) : SpI g l mX8_count h [.ref 82, .int x1] Q := spI_of (by decide) (leb rfl) (fun X O => bX8_count_0 O (H X O))
set_option maxRecDepth 20000 in
set_option maxHeartbeats 2000000 in
theorem bX8_trace_0 {g : mg} {l : Launch} {X : XT} {Q : Int64 → AH → Prop} (O : Ok (FF g l X) RX8 cX8_trace 1 mX8_trace.2.2.2.2 (some .long))  {h : AH} (H : Q (h.2.1 82 32) h) : GL g l X Q h 0 [(0, .ref 82)] [] := by
  refine g_aloadn (pc := 0) O rfl dX8_trace_0 ?_
  refine g_getL (v := h.2.1 82 32) (pc := 1) O cls8 fl_X8_273 dX8_trace_1 rfl (ltb rfl) (ltb rfl) rfl rfl ?_
  exact g_lret (pc := 4) O dX8_trace_4 H
set_option maxRecDepth 20000 in
set_option maxHeartbeats 2000000 in
theorem sX8_trace {g : mg} {l : Launch} {Q : Int64 → AH → Prop}  {h : AH} (H : Q (h.2.1 82 32) h) : SpL g l mX8_trace h [.ref 82] Q := spL_of (by decide) (leb rfl) (fun X O => bX8_trace_0 O H)
