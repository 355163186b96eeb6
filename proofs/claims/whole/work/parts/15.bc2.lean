/-! printed by gen.py: what each stretch of code asks for (H) to come to its end, and its walk -/
set_option maxRecDepth 20000 in
set_option maxHeartbeats 2000000 in
theorem bX2_lay_0 {g : mg} {l : Launch} {X : XT} {Q : AH → Prop} (O : Ok (FF g l X) RX2 cX2_lay 8 mX2_lay.2.2.2.2 none) {x1 : Nat} (hx1 : lay x1 = (1, 5)) {x2 : Nat} (hx2 : lay x2 = (1, 5)) {x4 : Int32} {x5 : Int32} {h : AH} (H : GV g l X Q (sI (sI (sR (sR (sR h 23 2 (some x1)) 23 3 (some x2)) 23 4 (some 22)) 23 5 x4) 23 6 x5) 36 [(0, .ref 23), (6, .int ((sI (sI (sR (sR (sR h 23 2 (some x1)) 23 3 (some x2)) 23 4 (some 22)) 23 5 x4) 23 6 x5).1 x1 3))] []) : GV g l X Q h 0 [(0, .ref 23), (1, .ref x1), (2, .ref x2), (3, .ref 22), (4, .int x4), (5, .int x5)] [] := by
  refine g_aloadn (pc := 0) O rfl dX2_lay_0 ?_
  refine g_aloadn (pc := 1) O rfl dX2_lay_1 ?_
  refine g_putR (ty := (.object "CoatRows$Chip")) (pc := 2) O cls2 fl_X2_19 dX2_lay_2 rfl (ltb rfl) (leb rfl) (ltb rfl) rfl rfl rfl (by decide +kernel) rfl rfl ?_
  refine g_aloadn (pc := 5) O rfl dX2_lay_5 ?_
  refine g_aloadn (pc := 6) O rfl dX2_lay_6 ?_
  refine g_putR (ty := (.object "CoatRows$Chip")) (pc := 7) O cls2 fl_X2_23 dX2_lay_7 rfl (ltb rfl) (leb rfl) (ltb rfl) rfl rfl rfl (by decide +kernel) rfl rfl ?_
  refine g_aloadn (pc := 10) O rfl dX2_lay_10 ?_
  refine g_aloadn (pc := 11) O rfl dX2_lay_11 ?_
  refine g_putR (ty := (.array .int)) (pc := 12) O cls2 fl_X2_26 dX2_lay_12 rfl (ltb rfl) (leb rfl) (ltb rfl) rfl rfl rfl (by decide +kernel) rfl rfl ?_
  refine g_aloadn (pc := 15) O rfl dX2_lay_15 ?_
  refine g_iload (pc := 16) O rfl dX2_lay_16 ?_
  refine g_putI (pc := 18) O cls2 fl_X2_29 dX2_lay_18 rfl (ltb rfl) (leb rfl) (ltb rfl) rfl rfl (by decide +kernel) ?_
  refine g_aloadn (pc := 21) O rfl dX2_lay_21 ?_
  refine g_iload (pc := 22) O rfl dX2_lay_22 ?_
  refine g_putI (pc := 24) O cls2 fl_X2_33 dX2_lay_24 rfl (ltb rfl) (leb rfl) (ltb rfl) rfl rfl (by decide +kernel) ?_
  refine g_aloadn (pc := 27) O rfl dX2_lay_27 ?_
  refine g_getR (pc := 28) O cls2 fl_X2_19 dX2_lay_28 rfl (ltb rfl) (ltb rfl) rfl rfl rfl ?_
  refine g_getI (v := (sI (sI (sR (sR (sR h 23 2 (some x1)) 23 3 (some x2)) 23 4 (some 22)) 23 5 x4) 23 6 x5).1 x1 3) (pc := 31) O cls1 fl_X2_36 dX2_lay_31 hx1 (lay_lt hx1 (by decide)) (ltb rfl) rfl rfl ?_
  refine g_istore (lv' := [(0, .ref 23), (1, .ref x1), (2, .ref x2), (3, .ref 22), (4, .int x4), (5, .int x5), (6, .int ((sI (sI (sR (sR (sR h 23 2 (some x1)) 23 3 (some x2)) 23 4 (some 22)) 23 5 x4) 23 6 x5).1 x1 3))]) (pc := 34) O dX2_lay_34 (ltb rfl) rfl ?_
  refine g_sub [0, 6] rfl ?_
  exact H
set_option maxRecDepth 20000 in
set_option maxHeartbeats 2000000 in
theorem bX2_lay_36 {g : mg} {l : Launch} {X : XT} {Q : AH → Prop} (O : Ok (FF g l X) RX2 cX2_lay 8 mX2_lay.2.2.2.2 none) {x6 : Int32} {h : AH} (H : ((x6 < 0) → (Q h)) ∧ ((¬ (x6 < 0)) → (∃ b2 : Nat, h.2.2 23 3 = some b2 ∧ lay b2 = (1, 5) ∧ (GV g l X Q h 50 [(0, .ref 23), (6, .int x6), (7, .int (h.1 b2 3))] [])))) : GV g l X Q h 36 [(0, .ref 23), (6, .int x6)] [] := by
  refine g_iload (pc := 36) O rfl dX2_lay_36 ?_
  refine g_if_lt (tgt := 75) (pc := 38) O dX2_lay_38 rfl (fun q1 => ?_) (fun q1 => ?_)
  · replace H := H.1 q1
    exact g_vret (pc := 75) O dX2_lay_75 H
  · replace H := H.2 q1
    refine g_aloadn (pc := 41) O rfl dX2_lay_41 ?_
    obtain ⟨b2, rb2, hb2, H⟩ := H
    refine g_getR (pc := 42) O cls2 fl_X2_23 dX2_lay_42 rfl (ltb rfl) (ltb rfl) rfl rfl rb2 ?_
    refine g_getI (v := h.1 b2 3) (pc := 45) O cls1 fl_X2_36 dX2_lay_45 hb2 (lay_lt hb2 (by decide)) (ltb rfl) rfl rfl ?_
    refine g_istore (lv' := [(0, .ref 23), (6, .int x6), (7, .int (h.1 b2 3))]) (pc := 48) O dX2_lay_48 (ltb rfl) rfl ?_
    exact H
set_option maxRecDepth 20000 in
set_option maxHeartbeats 2000000 in
theorem bX2_lay_50 {g : mg} {l : Launch} {X : XT} {Q : AH → Prop} (O : Ok (FF g l X) RX2 cX2_lay 8 mX2_lay.2.2.2.2 none) {x6 : Int32} {x7 : Int32} {h : AH} (H : ((x7 < 0) → (GV g l X Q h 36 [(0, .ref 23), (6, .int (x6 + I (-1)))] [])) ∧ ((¬ (x7 < 0)) → (SpV g l mX2_fill h [.ref 23, .int x6, .int x7] (fun hv2 => GV g l X Q hv2 50 [(0, .ref 23), (6, .int x6), (7, .int (x7 + I (-1)))] [])))) : GV g l X Q h 50 [(0, .ref 23), (6, .int x6), (7, .int x7)] [] := by
  refine g_iload (pc := 50) O rfl dX2_lay_50 ?_
  refine g_if_lt (tgt := 69) (pc := 52) O dX2_lay_52 rfl (fun q1 => ?_) (fun q1 => ?_)
  · replace H := H.1 q1
    refine g_iinc (lv' := [(0, .ref 23), (6, .int (x6 + I (-1))), (7, .int x7)]) (pc := 69) O dX2_lay_69 rfl rfl (ltb rfl) rfl ?_
    refine g_goto (tgt := 36) (pc := 72) O dX2_lay_72 rfl ?_
    refine g_sub [0, 1] rfl ?_
    exact H
  · replace H := H.2 q1
    refine g_aloadn (pc := 55) O rfl dX2_lay_55 ?_
    refine g_iload (pc := 56) O rfl dX2_lay_56 ?_
    refine g_iload (pc := 58) O rfl dX2_lay_58 ?_
    refine g_vV [.int x6, .int x7] [] (pc := 60) O mk_X2_fill ml_X2_41 im_X2_fill se_X2_fill cls2 rfl ⟨rfl, rfl, leb rfl, leb rfl⟩ rfl (leb rfl) dX2_lay_60 H rfl (fun hv2 H => ?_)
    refine g_iinc (lv' := [(0, .ref 23), (6, .int x6), (7, .int (x7 + I (-1)))]) (pc := 63) O dX2_lay_63 rfl rfl (ltb rfl) rfl ?_
    refine g_goto (tgt := 50) (pc := 66) O dX2_lay_66 rfl ?_
    exact H
set_option maxRecDepth 20000 in
set_option maxHeartbeats 2000000 in
theorem sX2_lay {g : mg} {l : Launch} {Q : AH → Prop} {x1 : Nat} (hx1 : lay x1 = (1, 5)) {x2 : Nat} (hx2 : lay x2 = (1, 5)) {x4 : Int32} {x5 : Int32} {h : AH} (H : ∀ X, Ok (FF g l X) RX2 cX2_lay 8 mX2_lay.2.2.2.2 none → GV g l X Q (sI (sI (sR (sR (sR h 23 2 (some x1)) 23 3 (some x2)) 23 4 (some 22)) 23 5 x4) 23 6 x5) 36 [(0, .ref 23), (6, .int ((sI (sI (sR (sR (sR h 23 2 (some x1)) 23 3 (some x2)) 23 4 (some 22)) 23 5 x4) 23 6 x5).1 x1 3))] []) : SpV g l mX2_lay h [.ref 23, .ref x1, .ref x2, .ref 22, .int x4, .int x5] Q := spV_of (by decide) (leb rfl) (fun X O => bX2_lay_0 O hx1 hx2 (H X O))
set_option maxRecDepth 20000 in
set_option maxHeartbeats 2000000 in
theorem bX2_leastCost_0 {g : mg} {l : Launch} {X : XT} {Q : Int32 → AH → Prop} (O : Ok (FF g l X) RX2 cX2_leastCost 1 mX2_leastCost.2.2.2.2 (some .int))  {h : AH} (H : Q (h.1 24 0) h) : GI g l X Q h 0 [(0, .ref 23)] [] := by
  refine g_aloadn (pc := 0) O rfl dX2_leastCost_0 ?_
  refine g_getS (pc := 1) O cls2 fl_X2_11 dX2_leastCost_1 rfl (ltb rfl) (ltb rfl) rfl rfl ?_
  refine g_iconst (v := (I 0)) (pc := 4) O rfl dX2_leastCost_4 ?_
  refine g_iald (j := 0) (pc := 5) O dX2_leastCost_5 rfl rfl (ltb rfl) (ltb rfl) (ltb rfl) rfl ?_
  exact g_iret (pc := 6) O dX2_leastCost_6 H
set_option maxRecDepth 20000 in
set_option maxHeartbeats 2000000 in
theorem sX2_leastCost {g : mg} {l : Launch} {Q : Int32 → AH → Prop}  {h : AH} (H : Q (h.1 24 0) h) : SpI g l mX2_leastCost h [.ref 23] Q := spI_of (by decide) (leb rfl) (fun X O => bX2_leastCost_0 O H)
set_option maxRecDepth 20000 in
set_option maxHeartbeats 2000000 in
theorem bX2_leastWays_0 {g : mg} {l : Launch} {X : XT} {Q : Int64 → AH → Prop} (O : Ok (FF g l X) RX2 cX2_leastWays 1 mX2_leastWays.2.2.2.2 (some .long))  {h : AH} (H : Q (h.2.1 25 0) h) : GL g l X Q h 0 [(0, .ref 23)] [] := by
  refine g_aloadn (pc := 0) O rfl dX2_leastWays_0 ?_
  refine g_getS (pc := 1) O cls2 fl_X2_15 dX2_leastWays_1 rfl (ltb rfl) (ltb rfl) rfl rfl ?_
  refine g_iconst (v := (I 0)) (pc := 4) O rfl dX2_leastWays_4 ?_
  refine g_lald (j := 0) (pc := 5) O dX2_leastWays_5 rfl rfl (ltb rfl) (ltb rfl) (ltb rfl) rfl ?_
  exact g_lret (pc := 6) O dX2_leastWays_6 H
set_option maxRecDepth 20000 in
set_option maxHeartbeats 2000000 in
theorem sX2_leastWays {g : mg} {l : Launch} {Q : Int64 → AH → Prop}  {h : AH} (H : Q (h.2.1 25 0) h) : SpL g l mX2_leastWays h [.ref 23] Q := spL_of (by decide) (leb rfl) (fun X O => bX2_leastWays_0 O H)
set_option maxRecDepth 20000 in
set_option maxHeartbeats 2000000 in
theorem bX2_beside_0 {g : mg} {l : Launch} {X : XT} {Q : Int32 → AH → Prop} (O : Ok (FF g l X) RX2 cX2_beside 5 mX2_beside.2.2.2.2 (some .int)) {x1 : Int32} {h : AH} (H : GI g l X Q h 8 [(0, .ref 23), (1, .int x1), (2, .int (I 0)), (3, .int (I (-9))), (4, .int (I 0))] []) : GI g l X Q h 0 [(0, .ref 23), (1, .int x1)] [] := by
  refine g_iconst (v := (I 0)) (pc := 0) O rfl dX2_beside_0 ?_
  refine g_istoren (lv' := [(0, .ref 23), (1, .int x1), (2, .int (I 0))]) (pc := 1) O dX2_beside_1 rfl (ltb rfl) rfl ?_
  refine g_bipush (v := (I (-9))) (pc := 2) O (by decide) dX2_beside_2 ?_
  refine g_istoren (lv' := [(0, .ref 23), (1, .int x1), (2, .int (I 0)), (3, .int (I (-9)))]) (pc := 4) O dX2_beside_4 rfl (ltb rfl) rfl ?_
  refine g_iconst (v := (I 0)) (pc := 5) O rfl dX2_beside_5 ?_
  refine g_istore (lv' := [(0, .ref 23), (1, .int x1), (2, .int (I 0)), (3, .int (I (-9))), (4, .int (I 0))]) (pc := 6) O dX2_beside_6 (ltb rfl) rfl ?_
  exact H
set_option maxRecDepth 20000 in
set_option maxHeartbeats 2000000 in
theorem bX2_beside_8 {g : mg} {l : Launch} {X : XT} {Q : Int32 → AH → Prop} (O : Ok (FF g l X) RX2 cX2_beside 5 mX2_beside.2.2.2.2 (some .int)) {x1 : Int32} {x2 : Int32} {x3 : Int32} {x4 : Int32} {h : AH} (H : ((x1 < x4) → (Q x3 h)) ∧ ((¬ (x1 < x4)) → (SpI g l mX2_nearest h [.ref 23, .int x4, .int x2] (fun v2 hv2 => ((v2 = (I (-9))) → (GI g l X Q hv2 8 [(0, .ref 23), (1, .int x1), (2, .int x2), (3, .int v2), (4, .int (x4 + I 1))] [])) ∧ ((¬ (v2 = (I (-9)))) → (GI g l X Q hv2 8 [(0, .ref 23), (1, .int x1), (2, .int (v2 + (I 1))), (3, .int v2), (4, .int (x4 + I 1))] [])))))) : GI g l X Q h 8 [(0, .ref 23), (1, .int x1), (2, .int x2), (3, .int x3), (4, .int x4)] [] := by
  refine g_iload (pc := 8) O rfl dX2_beside_8 ?_
  refine g_iloadn (pc := 10) O rfl dX2_beside_10 ?_
  refine g_icmp_gt (tgt := 38) (pc := 11) O dX2_beside_11 rfl (fun q1 => ?_) (fun q1 => ?_)
  · replace H := H.1 q1
    refine g_iloadn (pc := 38) O rfl dX2_beside_38 ?_
    exact g_iret (pc := 39) O dX2_beside_39 H
  · replace H := H.2 q1
    refine g_aloadn (pc := 14) O rfl dX2_beside_14 ?_
    refine g_iload (pc := 15) O rfl dX2_beside_15 ?_
    refine g_iloadn (pc := 17) O rfl dX2_beside_17 ?_
    refine g_vI [.int x4, .int x2] [] (pc := 18) O mk_X2_nearest ml_X2_45 im_X2_nearest se_X2_nearest cls2 rfl ⟨rfl, rfl, leb rfl, leb rfl⟩ rfl (leb rfl) dX2_beside_18 H rfl (fun v2 hv2 H => ?_)
    refine g_istoren (lv' := [(0, .ref 23), (1, .int x1), (2, .int x2), (3, .int v2), (4, .int x4)]) (pc := 21) O dX2_beside_21 rfl (ltb rfl) rfl ?_
    refine g_iloadn (pc := 22) O rfl dX2_beside_22 ?_
    refine g_bipush (v := (I (-9))) (pc := 23) O (by decide) dX2_beside_23 ?_
    refine g_icmp_eq (tgt := 32) (pc := 25) O dX2_beside_25 rfl (fun q3 => ?_) (fun q3 => ?_)
    · replace H := H.1 q3
      refine g_iinc (lv' := [(0, .ref 23), (1, .int x1), (2, .int x2), (3, .int v2), (4, .int (x4 + I 1))]) (pc := 32) O dX2_beside_32 rfl rfl (ltb rfl) rfl ?_
      refine g_goto (tgt := 8) (pc := 35) O dX2_beside_35 rfl ?_
      exact H
    · replace H := H.2 q3
      refine g_iloadn (pc := 28) O rfl dX2_beside_28 ?_
      refine g_iconst (v := (I 1)) (pc := 29) O rfl dX2_beside_29 ?_
      refine g_iadd (pc := 30) O dX2_beside_30 ?_
      refine g_istoren (lv' := [(0, .ref 23), (1, .int x1), (2, .int (v2 + (I 1))), (3, .int v2), (4, .int x4)]) (pc := 31) O dX2_beside_31 rfl (ltb rfl) rfl ?_
      refine g_iinc (lv' := [(0, .ref 23), (1, .int x1), (2, .int (v2 + (I 1))), (3, .int v2), (4, .int (x4 + I 1))]) (pc := 32) O dX2_beside_32 rfl rfl (ltb rfl) rfl ?_
      refine g_goto (tgt := 8) (pc := 35) O dX2_beside_35 rfl ?_
      exact H
set_option maxRecDepth 20000 in
set_option maxHeartbeats 2000000 in
theorem sX2_beside {g : mg} {l : Launch} {Q : Int32 → AH → Prop} {x1 : Int32} {h : AH} (H : ∀ X, Ok (FF g l X) RX2 cX2_beside 5 mX2_beside.2.2.2.2 (some .int) → GI g l X Q h 8 [(0, .ref 23), (1, .int x1), (2, .int (I 0)), (3, .int (I (-9))), (4, .int (I 0))] []) : SpI g l mX2_beside h [.ref 23, .int x1] Q := spI_of (by decide) (leb rfl) (fun X O => bX2_beside_0 O (H X O))
set_option maxRecDepth 20000 in
set_option maxHeartbeats 2000000 in
theorem bX2_nearest_0 {g : mg} {l : Launch} {X : XT} {Q : Int32 → AH → Prop} (O : Ok (FF g l X) RX2 cX2_nearest 4 mX2_nearest.2.2.2.2 (some .int)) {x1 : Int32} {x2 : Int32} {h : AH} (H : GI g l X Q h 2 [(0, .ref 23), (1, .int x1), (2, .int x2), (3, .int x2)] []) : GI g l X Q h 0 [(0, .ref 23), (1, .int x1), (2, .int x2)] [] := by
  refine g_iloadn (pc := 0) O rfl dX2_nearest_0 ?_
  refine g_istoren (lv' := [(0, .ref 23), (1, .int x1), (2, .int x2), (3, .int x2)]) (pc := 1) O dX2_nearest_1 rfl (ltb rfl) rfl ?_
  exact H
set_option maxRecDepth 20000 in
set_option maxHeartbeats 2000000 in
theorem bX2_nearest_2 {g : mg} {l : Launch} {X : XT} {Q : Int32 → AH → Prop} (O : Ok (FF g l X) RX2 cX2_nearest 4 mX2_nearest.2.2.2.2 (some .int)) {x1 : Int32} {x2 : Int32} {x3 : Int32} {h : AH} (H : ∃ b1 : Nat, h.2.2 23 3 = some b1 ∧ lay b1 = (1, 5) ∧ ((((h.1 b1 3) ≤ x3) → (Q (I (-9)) h)) ∧ ((¬ ((h.1 b1 3) ≤ x3)) → (SpI g l mX2_isSame h [.ref 23, .int x1, .int x3] (fun v3 hv3 => ((v3 = 0) → (GI g l X Q hv3 2 [(0, .ref 23), (1, .int x1), (2, .int x2), (3, .int (x3 + I 1))] [])) ∧ ((¬ (v3 = 0)) → (SpI g l mX2_costBeside hv3 [.ref 23, .int x1, .int x3, .int x2] (fun v5 hv5 => ∃ j6 : Nat, ((x1 * (I 11)) + x2) = I (j6 : Int) ∧ j6 < 121 ∧ (((¬ v5 = (hv5.1 24 j6)) → (GI g l X Q hv5 2 [(0, .ref 23), (1, .int x1), (2, .int x2), (3, .int (x3 + I 1))] [])) ∧ ((v5 = (hv5.1 24 j6)) → (Q x3 hv5))))))))))) : GI g l X Q h 2 [(0, .ref 23), (1, .int x1), (2, .int x2), (3, .int x3)] [] := by
  refine g_iloadn (pc := 2) O rfl dX2_nearest_2 ?_
  refine g_aloadn (pc := 3) O rfl dX2_nearest_3 ?_
  obtain ⟨b1, rb1, hb1, H⟩ := H
  refine g_getR (pc := 4) O cls2 fl_X2_23 dX2_nearest_4 rfl (ltb rfl) (ltb rfl) rfl rfl rb1 ?_
  refine g_getI (v := h.1 b1 3) (pc := 7) O cls1 fl_X2_36 dX2_nearest_7 hb1 (lay_lt hb1 (by decide)) (ltb rfl) rfl rfl ?_
  refine g_icmp_ge (tgt := 51) (pc := 10) O dX2_nearest_10 rfl (fun q2 => ?_) (fun q2 => ?_)
  · replace H := H.1 q2
    refine g_bipush (v := (I (-9))) (pc := 51) O (by decide) dX2_nearest_51 ?_
    exact g_iret (pc := 53) O dX2_nearest_53 H
  · replace H := H.2 q2
    refine g_aloadn (pc := 13) O rfl dX2_nearest_13 ?_
    refine g_iloadn (pc := 14) O rfl dX2_nearest_14 ?_
    refine g_iloadn (pc := 15) O rfl dX2_nearest_15 ?_
    refine g_vI [.int x1, .int x3] [] (pc := 16) O mk_X2_isSame ml_X2_49 im_X2_isSame se_X2_isSame cls2 rfl ⟨rfl, rfl, leb rfl, leb rfl⟩ rfl (leb rfl) dX2_nearest_16 H rfl (fun v3 hv3 H => ?_)
    refine g_if_eq (tgt := 45) (pc := 19) O dX2_nearest_19 rfl (fun q4 => ?_) (fun q4 => ?_)
    · replace H := H.1 q4
      refine g_iinc (lv' := [(0, .ref 23), (1, .int x1), (2, .int x2), (3, .int (x3 + I 1))]) (pc := 45) O dX2_nearest_45 rfl rfl (ltb rfl) rfl ?_
      refine g_goto (tgt := 2) (pc := 48) O dX2_nearest_48 rfl ?_
      exact H
    · replace H := H.2 q4
      refine g_aloadn (pc := 22) O rfl dX2_nearest_22 ?_
      refine g_iloadn (pc := 23) O rfl dX2_nearest_23 ?_
      refine g_iloadn (pc := 24) O rfl dX2_nearest_24 ?_
      refine g_iloadn (pc := 25) O rfl dX2_nearest_25 ?_
      refine g_vI [.int x1, .int x3, .int x2] [] (pc := 26) O mk_X2_costBeside ml_X2_53 im_X2_costBeside se_X2_costBeside cls2 rfl ⟨rfl, rfl, leb rfl, leb rfl⟩ rfl (leb rfl) dX2_nearest_26 H rfl (fun v5 hv5 H => ?_)
      refine g_aloadn (pc := 29) O rfl dX2_nearest_29 ?_
      refine g_getS (pc := 30) O cls2 fl_X2_11 dX2_nearest_30 rfl (ltb rfl) (ltb rfl) rfl rfl ?_
      refine g_iloadn (pc := 33) O rfl dX2_nearest_33 ?_
      refine g_bipush (v := (I 11)) (pc := 34) O (by decide) dX2_nearest_34 ?_
      refine g_imul (pc := 36) O dX2_nearest_36 ?_
      refine g_iloadn (pc := 37) O rfl dX2_nearest_37 ?_
      refine g_iadd (pc := 38) O dX2_nearest_38 ?_
      obtain ⟨j6, ej6, bj6, H⟩ := H
      refine g_iald (j := j6) (pc := 39) O dX2_nearest_39 ej6 rfl (ltb rfl) bj6 (ltb rfl) rfl ?_
      refine g_icmp_ne (tgt := 45) (pc := 40) O dX2_nearest_40 rfl (fun q7 => ?_) (fun q7 => ?_)
      · replace H := H.1 q7
        refine g_iinc (lv' := [(0, .ref 23), (1, .int x1), (2, .int x2), (3, .int (x3 + I 1))]) (pc := 45) O dX2_nearest_45 rfl rfl (ltb rfl) rfl ?_
        refine g_goto (tgt := 2) (pc := 48) O dX2_nearest_48 rfl ?_
        exact H
      · replace H := H.2 q7
        refine g_iloadn (pc := 43) O rfl dX2_nearest_43 ?_
        exact g_iret (pc := 44) O dX2_nearest_44 H
set_option maxRecDepth 20000 in
set_option maxHeartbeats 2000000 in
theorem sX2_nearest {g : mg} {l : Launch} {Q : Int32 → AH → Prop} {x1 : Int32} {x2 : Int32} {h : AH} (H : ∀ X, Ok (FF g l X) RX2 cX2_nearest 4 mX2_nearest.2.2.2.2 (some .int) → GI g l X Q h 2 [(0, .ref 23), (1, .int x1), (2, .int x2), (3, .int x2)] []) : SpI g l mX2_nearest h [.ref 23, .int x1, .int x2] Q := spI_of (by decide) (leb rfl) (fun X O => bX2_nearest_0 O (H X O))
set_option maxRecDepth 20000 in
set_option maxHeartbeats 2000000 in
theorem bX2_fill_0 {g : mg} {l : Launch} {X : XT} {Q : AH → Prop} (O : Ok (FF g l X) RX2 cX2_fill 9 mX2_fill.2.2.2.2 none) {x1 : Int32} {x2 : Int32} {h : AH} (H : ∃ b1 : Nat, h.2.2 23 2 = some b1 ∧ lay b1 = (1, 5) ∧ (((¬ x1 = (h.1 b1 3)) → (∃ j3 : Nat, (((x1 * (I 11)) + x2) + (I 11)) = I (j3 : Int) ∧ j3 < 121 ∧ (∃ j4 : Nat, (((x1 * (I 11)) + x2) + (I 11)) = I (j4 : Int) ∧ j4 < 121 ∧ (GV g l X Q h 76 [(0, .ref 23), (1, .int x1), (2, .int x2), (3, .int ((x1 * (I 11)) + x2)), (4, .int ((h.1 23 5) + (h.1 24 j3))), (5, .long (h.2.1 25 j4)), (7, .int x2)] [])))) ∧ ((x1 = (h.1 b1 3)) → (∃ b5 : Nat, h.2.2 23 3 = some b5 ∧ lay b5 = (1, 5) ∧ (∃ j6 : Nat, ((x1 * (I 11)) + x2) = I (j6 : Int) ∧ j6 < 121 ∧ (∃ j7 : Nat, ((x1 * (I 11)) + x2) = I (j7 : Int) ∧ j7 < 121 ∧ (Q (sL (sI h 24 j6 ((h.1 23 5) * ((h.1 b5 3) - x2))) 25 j7 1)))))))) : GV g l X Q h 0 [(0, .ref 23), (1, .int x1), (2, .int x2)] [] := by
  refine g_iloadn (pc := 0) O rfl dX2_fill_0 ?_
  refine g_bipush (v := (I 11)) (pc := 1) O (by decide) dX2_fill_1 ?_
  refine g_imul (pc := 3) O dX2_fill_3 ?_
  refine g_iloadn (pc := 4) O rfl dX2_fill_4 ?_
  refine g_iadd (pc := 5) O dX2_fill_5 ?_
  refine g_istoren (lv' := [(0, .ref 23), (1, .int x1), (2, .int x2), (3, .int ((x1 * (I 11)) + x2))]) (pc := 6) O dX2_fill_6 rfl (ltb rfl) rfl ?_
  refine g_iloadn (pc := 7) O rfl dX2_fill_7 ?_
  refine g_aloadn (pc := 8) O rfl dX2_fill_8 ?_
  obtain ⟨b1, rb1, hb1, H⟩ := H
  refine g_getR (pc := 9) O cls2 fl_X2_19 dX2_fill_9 rfl (ltb rfl) (ltb rfl) rfl rfl rb1 ?_
  refine g_getI (v := h.1 b1 3) (pc := 12) O cls1 fl_X2_36 dX2_fill_12 hb1 (lay_lt hb1 (by decide)) (ltb rfl) rfl rfl ?_
  refine g_icmp_ne (tgt := 46) (pc := 15) O dX2_fill_15 rfl (fun q2 => ?_) (fun q2 => ?_)
  · replace H := H.1 q2
    refine g_aloadn (pc := 46) O rfl dX2_fill_46 ?_
    refine g_getI (v := h.1 23 5) (pc := 47) O cls2 fl_X2_29 dX2_fill_47 rfl (ltb rfl) (ltb rfl) rfl rfl ?_
    refine g_aloadn (pc := 50) O rfl dX2_fill_50 ?_
    refine g_getS (pc := 51) O cls2 fl_X2_11 dX2_fill_51 rfl (ltb rfl) (ltb rfl) rfl rfl ?_
    refine g_iloadn (pc := 54) O rfl dX2_fill_54 ?_
    refine g_bipush (v := (I 11)) (pc := 55) O (by decide) dX2_fill_55 ?_
    refine g_iadd (pc := 57) O dX2_fill_57 ?_
    obtain ⟨j3, ej3, bj3, H⟩ := H
    refine g_iald (j := j3) (pc := 58) O dX2_fill_58 ej3 rfl (ltb rfl) bj3 (ltb rfl) rfl ?_
    refine g_iadd (pc := 59) O dX2_fill_59 ?_
    refine g_istore (lv' := [(0, .ref 23), (1, .int x1), (2, .int x2), (3, .int ((x1 * (I 11)) + x2)), (4, .int ((h.1 23 5) + (h.1 24 j3)))]) (pc := 60) O dX2_fill_60 (ltb rfl) rfl ?_
    refine g_aloadn (pc := 62) O rfl dX2_fill_62 ?_
    refine g_getS (pc := 63) O cls2 fl_X2_15 dX2_fill_63 rfl (ltb rfl) (ltb rfl) rfl rfl ?_
    refine g_iloadn (pc := 66) O rfl dX2_fill_66 ?_
    refine g_bipush (v := (I 11)) (pc := 67) O (by decide) dX2_fill_67 ?_
    refine g_iadd (pc := 69) O dX2_fill_69 ?_
    obtain ⟨j4, ej4, bj4, H⟩ := H
    refine g_lald (j := j4) (pc := 70) O dX2_fill_70 ej4 rfl (ltb rfl) bj4 (ltb rfl) rfl ?_
    refine g_lstore (lv' := [(0, .ref 23), (1, .int x1), (2, .int x2), (3, .int ((x1 * (I 11)) + x2)), (4, .int ((h.1 23 5) + (h.1 24 j3))), (5, .long (h.2.1 25 j4))]) (pc := 71) O dX2_fill_71 (ltb rfl) rfl ?_
    refine g_iloadn (pc := 73) O rfl dX2_fill_73 ?_
    refine g_istore (lv' := [(0, .ref 23), (1, .int x1), (2, .int x2), (3, .int ((x1 * (I 11)) + x2)), (4, .int ((h.1 23 5) + (h.1 24 j3))), (5, .long (h.2.1 25 j4)), (7, .int x2)]) (pc := 74) O dX2_fill_74 (ltb rfl) rfl ?_
    exact H
  · replace H := H.2 q2
    refine g_aloadn (pc := 18) O rfl dX2_fill_18 ?_
    refine g_getS (pc := 19) O cls2 fl_X2_11 dX2_fill_19 rfl (ltb rfl) (ltb rfl) rfl rfl ?_
    refine g_iloadn (pc := 22) O rfl dX2_fill_22 ?_
    refine g_aloadn (pc := 23) O rfl dX2_fill_23 ?_
    refine g_getI (v := h.1 23 5) (pc := 24) O cls2 fl_X2_29 dX2_fill_24 rfl (ltb rfl) (ltb rfl) rfl rfl ?_
    refine g_aloadn (pc := 27) O rfl dX2_fill_27 ?_
    obtain ⟨b5, rb5, hb5, H⟩ := H
    refine g_getR (pc := 28) O cls2 fl_X2_23 dX2_fill_28 rfl (ltb rfl) (ltb rfl) rfl rfl rb5 ?_
    refine g_getI (v := h.1 b5 3) (pc := 31) O cls1 fl_X2_36 dX2_fill_31 hb5 (lay_lt hb5 (by decide)) (ltb rfl) rfl rfl ?_
    refine g_iloadn (pc := 34) O rfl dX2_fill_34 ?_
    refine g_isub (pc := 35) O dX2_fill_35 ?_
    refine g_imul (pc := 36) O dX2_fill_36 ?_
    obtain ⟨j6, ej6, bj6, H⟩ := H
    refine g_iast (j := j6) (pc := 37) O dX2_fill_37 ej6 rfl (ltb rfl) (leb rfl) bj6 (ltb rfl) ?_
    refine g_aloadn (pc := 38) O rfl dX2_fill_38 ?_
    refine g_getS (pc := 39) O cls2 fl_X2_15 dX2_fill_39 rfl (ltb rfl) (ltb rfl) rfl rfl ?_
    refine g_iloadn (pc := 42) O rfl dX2_fill_42 ?_
    refine g_lconst (v := 1) (pc := 43) O (by decide) dX2_fill_43 ?_
    obtain ⟨j7, ej7, bj7, H⟩ := H
    refine g_last (j := j7) (pc := 44) O dX2_fill_44 ej7 rfl (ltb rfl) (leb rfl) bj7 (ltb rfl) ?_
    exact g_vret (pc := 45) O dX2_fill_45 H
set_option maxRecDepth 20000 in
set_option maxHeartbeats 2000000 in
theorem bX2_fill_76 {g : mg} {l : Launch} {X : XT} {Q : AH → Prop} (O : Ok (FF g l X) RX2 cX2_fill 9 mX2_fill.2.2.2.2 none) {x1 : Int32} {x2 : Int32} {x3 : Int32} {x4 : Int32} {x5 : Int64} {x7 : Int32} {h : AH} (H : ∃ b1 : Nat, h.2.2 23 3 = some b1 ∧ lay b1 = (1, 5) ∧ ((((h.1 b1 3) ≤ x7) → (∃ j3 : Nat, x3 = I (j3 : Int) ∧ j3 < 121 ∧ (∃ j4 : Nat, x3 = I (j4 : Int) ∧ j4 < 121 ∧ (Q (sL (sI h 24 j3 x4) 25 j4 x5))))) ∧ ((¬ ((h.1 b1 3) ≤ x7)) → (SpI g l mX2_isSame h [.ref 23, .int x1, .int x7] (fun v5 hv5 => ((¬ v5 = 0) → (SpI g l mX2_costBeside hv5 [.ref 23, .int x1, .int x7, .int x2] (fun v7 hv7 => ((x4 ≤ v7) → (GV g l X Q hv7 125 [(0, .ref 23), (1, .int x1), (2, .int x2), (3, .int x3), (4, .int x4), (5, .long x5), (7, .int x7), (8, .int v7)] [])) ∧ ((¬ (x4 ≤ v7)) → (GV g l X Q hv7 125 [(0, .ref 23), (1, .int x1), (2, .int x2), (3, .int x3), (4, .int v7), (5, .long 0), (7, .int x7), (8, .int v7)] []))))) ∧ ((v5 = 0) → (GV g l X Q hv5 76 [(0, .ref 23), (1, .int x1), (2, .int x2), (3, .int x3), (4, .int x4), (5, .long x5), (7, .int (x7 + I 1))] []))))))) : GV g l X Q h 76 [(0, .ref 23), (1, .int x1), (2, .int x2), (3, .int x3), (4, .int x4), (5, .long x5), (7, .int x7)] [] := by
  refine g_iload (pc := 76) O rfl dX2_fill_76 ?_
  refine g_aloadn (pc := 78) O rfl dX2_fill_78 ?_
  obtain ⟨b1, rb1, hb1, H⟩ := H
  refine g_getR (pc := 79) O cls2 fl_X2_23 dX2_fill_79 rfl (ltb rfl) (ltb rfl) rfl rfl rb1 ?_
  refine g_getI (v := h.1 b1 3) (pc := 82) O cls1 fl_X2_36 dX2_fill_82 hb1 (lay_lt hb1 (by decide)) (ltb rfl) rfl rfl ?_
  refine g_icmp_ge (tgt := 159) (pc := 85) O dX2_fill_85 rfl (fun q2 => ?_) (fun q2 => ?_)
  · replace H := H.1 q2
    refine g_aloadn (pc := 159) O rfl dX2_fill_159 ?_
    refine g_getS (pc := 160) O cls2 fl_X2_11 dX2_fill_160 rfl (ltb rfl) (ltb rfl) rfl rfl ?_
    refine g_iloadn (pc := 163) O rfl dX2_fill_163 ?_
    refine g_iload (pc := 164) O rfl dX2_fill_164 ?_
    obtain ⟨j3, ej3, bj3, H⟩ := H
    refine g_iast (j := j3) (pc := 166) O dX2_fill_166 ej3 rfl (ltb rfl) (leb rfl) bj3 (ltb rfl) ?_
    refine g_aloadn (pc := 167) O rfl dX2_fill_167 ?_
    refine g_getS (pc := 168) O cls2 fl_X2_15 dX2_fill_168 rfl (ltb rfl) (ltb rfl) rfl rfl ?_
    refine g_iloadn (pc := 171) O rfl dX2_fill_171 ?_
    refine g_lload (pc := 172) O rfl dX2_fill_172 ?_
    obtain ⟨j4, ej4, bj4, H⟩ := H
    refine g_last (j := j4) (pc := 174) O dX2_fill_174 ej4 rfl (ltb rfl) (leb rfl) bj4 (ltb rfl) ?_
    exact g_vret (pc := 175) O dX2_fill_175 H
  · replace H := H.2 q2
    refine g_aloadn (pc := 88) O rfl dX2_fill_88 ?_
    refine g_iloadn (pc := 89) O rfl dX2_fill_89 ?_
    refine g_iload (pc := 90) O rfl dX2_fill_90 ?_
    refine g_vI [.int x1, .int x7] [] (pc := 92) O mk_X2_isSame ml_X2_49 im_X2_isSame se_X2_isSame cls2 rfl ⟨rfl, rfl, leb rfl, leb rfl⟩ rfl (leb rfl) dX2_fill_92 H rfl (fun v5 hv5 H => ?_)
    refine g_if_ne (tgt := 101) (pc := 95) O dX2_fill_95 rfl (fun q6 => ?_) (fun q6 => ?_)
    · replace H := H.1 q6
      refine g_aloadn (pc := 101) O rfl dX2_fill_101 ?_
      refine g_iloadn (pc := 102) O rfl dX2_fill_102 ?_
      refine g_iload (pc := 103) O rfl dX2_fill_103 ?_
      refine g_iloadn (pc := 105) O rfl dX2_fill_105 ?_
      refine g_vI [.int x1, .int x7, .int x2] [] (pc := 106) O mk_X2_costBeside ml_X2_53 im_X2_costBeside se_X2_costBeside cls2 rfl ⟨rfl, rfl, leb rfl, leb rfl⟩ rfl (leb rfl) dX2_fill_106 H rfl (fun v7 hv7 H => ?_)
      refine g_istore (lv' := [(0, .ref 23), (1, .int x1), (2, .int x2), (3, .int x3), (4, .int x4), (5, .long x5), (7, .int x7), (8, .int v7)]) (pc := 109) O dX2_fill_109 (ltb rfl) rfl ?_
      refine g_iload (pc := 111) O rfl dX2_fill_111 ?_
      refine g_iload (pc := 113) O rfl dX2_fill_113 ?_
      refine g_icmp_ge (tgt := 125) (pc := 115) O dX2_fill_115 rfl (fun q8 => ?_) (fun q8 => ?_)
      · replace H := H.1 q8
        exact H
      · replace H := H.2 q8
        refine g_iload (pc := 118) O rfl dX2_fill_118 ?_
        refine g_istore (lv' := [(0, .ref 23), (1, .int x1), (2, .int x2), (3, .int x3), (4, .int v7), (5, .long x5), (7, .int x7), (8, .int v7)]) (pc := 120) O dX2_fill_120 (ltb rfl) rfl ?_
        refine g_lconst (v := 0) (pc := 122) O (by decide) dX2_fill_122 ?_
        refine g_lstore (lv' := [(0, .ref 23), (1, .int x1), (2, .int x2), (3, .int x3), (4, .int v7), (5, .long 0), (7, .int x7), (8, .int v7)]) (pc := 123) O dX2_fill_123 (ltb rfl) rfl ?_
        exact H
    · replace H := H.2 q6
      refine g_goto (tgt := 153) (pc := 98) O dX2_fill_98 rfl ?_
      refine g_iinc (lv' := [(0, .ref 23), (1, .int x1), (2, .int x2), (3, .int x3), (4, .int x4), (5, .long x5), (7, .int (x7 + I 1))]) (pc := 153) O dX2_fill_153 rfl rfl (ltb rfl) rfl ?_
      refine g_goto (tgt := 76) (pc := 156) O dX2_fill_156 rfl ?_
      exact H
set_option maxRecDepth 20000 in
set_option maxHeartbeats 2000000 in
theorem bX2_fill_125 {g : mg} {l : Launch} {X : XT} {Q : AH → Prop} (O : Ok (FF g l X) RX2 cX2_fill 9 mX2_fill.2.2.2.2 none) {x1 : Int32} {x2 : Int32} {x3 : Int32} {x4 : Int32} {x5 : Int64} {x7 : Int32} {x8 : Int32} {h : AH} (H : ((¬ x8 = x4) → (GV g l X Q h 76 [(0, .ref 23), (1, .int x1), (2, .int x2), (3, .int x3), (4, .int x4), (5, .long x5), (7, .int (x7 + I 1))] [])) ∧ ((x8 = x4) → (∃ j2 : Nat, ((((x1 + (I 1)) * (I 11)) + x7) + (I 1)) = I (j2 : Int) ∧ j2 < 121 ∧ (GV g l X Q h 76 [(0, .ref 23), (1, .int x1), (2, .int x2), (3, .int x3), (4, .int x4), (5, .long (x5 + (h.2.1 25 j2))), (7, .int (x7 + I 1))] [])))) : GV g l X Q h 125 [(0, .ref 23), (1, .int x1), (2, .int x2), (3, .int x3), (4, .int x4), (5, .long x5), (7, .int x7), (8, .int x8)] [] := by
  refine g_iload (pc := 125) O rfl dX2_fill_125 ?_
  refine g_iload (pc := 127) O rfl dX2_fill_127 ?_
  refine g_icmp_ne (tgt := 153) (pc := 129) O dX2_fill_129 rfl (fun q1 => ?_) (fun q1 => ?_)
  · replace H := H.1 q1
    refine g_iinc (lv' := [(0, .ref 23), (1, .int x1), (2, .int x2), (3, .int x3), (4, .int x4), (5, .long x5), (7, .int (x7 + I 1)), (8, .int x8)]) (pc := 153) O dX2_fill_153 rfl rfl (ltb rfl) rfl ?_
    refine g_goto (tgt := 76) (pc := 156) O dX2_fill_156 rfl ?_
    refine g_sub [0, 1, 2, 3, 4, 5, 6] rfl ?_
    exact H
  · replace H := H.2 q1
    refine g_lload (pc := 132) O rfl dX2_fill_132 ?_
    refine g_aloadn (pc := 134) O rfl dX2_fill_134 ?_
    refine g_getS (pc := 135) O cls2 fl_X2_15 dX2_fill_135 rfl (ltb rfl) (ltb rfl) rfl rfl ?_
    refine g_iloadn (pc := 138) O rfl dX2_fill_138 ?_
    refine g_iconst (v := (I 1)) (pc := 139) O rfl dX2_fill_139 ?_
    refine g_iadd (pc := 140) O dX2_fill_140 ?_
    refine g_bipush (v := (I 11)) (pc := 141) O (by decide) dX2_fill_141 ?_
    refine g_imul (pc := 143) O dX2_fill_143 ?_
    refine g_iload (pc := 144) O rfl dX2_fill_144 ?_
    refine g_iadd (pc := 146) O dX2_fill_146 ?_
    refine g_iconst (v := (I 1)) (pc := 147) O rfl dX2_fill_147 ?_
    refine g_iadd (pc := 148) O dX2_fill_148 ?_
    obtain ⟨j2, ej2, bj2, H⟩ := H
    refine g_lald (j := j2) (pc := 149) O dX2_fill_149 ej2 rfl (ltb rfl) bj2 (ltb rfl) rfl ?_
    refine g_ladd (pc := 150) O dX2_fill_150 ?_
    refine g_lstore (lv' := [(0, .ref 23), (1, .int x1), (2, .int x2), (3, .int x3), (4, .int x4), (5, .long (x5 + (h.2.1 25 j2))), (7, .int x7), (8, .int x8)]) (pc := 151) O dX2_fill_151 (ltb rfl) rfl ?_
    refine g_iinc (lv' := [(0, .ref 23), (1, .int x1), (2, .int x2), (3, .int x3), (4, .int x4), (5, .long (x5 + (h.2.1 25 j2))), (7, .int (x7 + I 1)), (8, .int x8)]) (pc := 153) O dX2_fill_153 rfl rfl (ltb rfl) rfl ?_
    refine g_goto (tgt := 76) (pc := 156) O dX2_fill_156 rfl ?_
    refine g_sub [0, 1, 2, 3, 4, 5, 6] rfl ?_
    exact H
set_option maxRecDepth 20000 in
set_option maxHeartbeats 2000000 in
theorem sX2_fill {g : mg} {l : Launch} {Q : AH → Prop} {x1 : Int32} {x2 : Int32} {h : AH} (H : ∀ X, Ok (FF g l X) RX2 cX2_fill 9 mX2_fill.2.2.2.2 none → ∃ b1 : Nat, h.2.2 23 2 = some b1 ∧ lay b1 = (1, 5) ∧ (((¬ x1 = (h.1 b1 3)) → (∃ j3 : Nat, (((x1 * (I 11)) + x2) + (I 11)) = I (j3 : Int) ∧ j3 < 121 ∧ (∃ j4 : Nat, (((x1 * (I 11)) + x2) + (I 11)) = I (j4 : Int) ∧ j4 < 121 ∧ (GV g l X Q h 76 [(0, .ref 23), (1, .int x1), (2, .int x2), (3, .int ((x1 * (I 11)) + x2)), (4, .int ((h.1 23 5) + (h.1 24 j3))), (5, .long (h.2.1 25 j4)), (7, .int x2)] [])))) ∧ ((x1 = (h.1 b1 3)) → (∃ b5 : Nat, h.2.2 23 3 = some b5 ∧ lay b5 = (1, 5) ∧ (∃ j6 : Nat, ((x1 * (I 11)) + x2) = I (j6 : Int) ∧ j6 < 121 ∧ (∃ j7 : Nat, ((x1 * (I 11)) + x2) = I (j7 : Int) ∧ j7 < 121 ∧ (Q (sL (sI h 24 j6 ((h.1 23 5) * ((h.1 b5 3) - x2))) 25 j7 1)))))))) : SpV g l mX2_fill h [.ref 23, .int x1, .int x2] Q := spV_of (by decide) (leb rfl) (fun X O => bX2_fill_0 O (H X O))
set_option maxRecDepth 20000 in
set_option maxHeartbeats 2000000 in
theorem bX2_isSame_0 {g : mg} {l : Launch} {X : XT} {Q : Int32 → AH → Prop} (O : Ok (FF g l X) RX2 cX2_isSame 3 mX2_isSame.2.2.2.2 (some .boolean)) {x1 : Int32} {x2 : Int32} {h : AH} (H : ∃ b1 : Nat, h.2.2 23 4 = some b1 ∧ lay b1 = (100, 12) ∧ (∃ b2 : Nat, h.2.2 23 2 = some b2 ∧ lay b2 = (1, 5) ∧ (∃ j3 : Nat, x1 = I (j3 : Int) ∧ j3 < 10 ∧ (∃ j4 : Nat, (h.1 (b2 + 1) j3) = I (j4 : Int) ∧ j4 < 12 ∧ (∃ b5 : Nat, h.2.2 23 3 = some b5 ∧ lay b5 = (1, 5) ∧ (∃ j6 : Nat, x2 = I (j6 : Int) ∧ j6 < 10 ∧ ((((((h.1 b1 j4) >>> ((h.1 (b5 + 1) j6) &&& 31)) &&& (I 1)) = 0) → (Q (I 0) h)) ∧ ((¬ ((((h.1 b1 j4) >>> ((h.1 (b5 + 1) j6) &&& 31)) &&& (I 1)) = 0)) → (Q (I 1) h))))))))) : GI g l X Q h 0 [(0, .ref 23), (1, .int x1), (2, .int x2)] [] := by
  refine g_aloadn (pc := 0) O rfl dX2_isSame_0 ?_
  obtain ⟨b1, rb1, hb1, H⟩ := H
  refine g_getR (pc := 1) O cls2 fl_X2_26 dX2_isSame_1 rfl (ltb rfl) (ltb rfl) rfl rfl rb1 ?_
  refine g_aloadn (pc := 4) O rfl dX2_isSame_4 ?_
  obtain ⟨b2, rb2, hb2, H⟩ := H
  refine g_getR (pc := 5) O cls2 fl_X2_19 dX2_isSame_5 rfl (ltb rfl) (ltb rfl) rfl rfl rb2 ?_
  refine g_getS (pc := 8) O cls1 fl_X2_57 dX2_isSame_8 hb2 (lay_lt hb2 (by decide)) (ltb rfl) rfl (sr_chip0 hb2) ?_
  refine g_iloadn (pc := 11) O rfl dX2_isSame_11 ?_
  obtain ⟨j3, ej3, bj3, H⟩ := H
  refine g_iald (j := j3) (pc := 12) O dX2_isSame_12 ej3 (lay_chip0 hb2) (lay_lt (lay_chip0 hb2) (by decide)) bj3 (ltb rfl) rfl ?_
  obtain ⟨j4, ej4, bj4, H⟩ := H
  refine g_iald (j := j4) (pc := 13) O dX2_isSame_13 ej4 hb1 (lay_lt hb1 (by decide)) bj4 (ltb rfl) rfl ?_
  refine g_aloadn (pc := 14) O rfl dX2_isSame_14 ?_
  obtain ⟨b5, rb5, hb5, H⟩ := H
  refine g_getR (pc := 15) O cls2 fl_X2_23 dX2_isSame_15 rfl (ltb rfl) (ltb rfl) rfl rfl rb5 ?_
  refine g_getS (pc := 18) O cls1 fl_X2_57 dX2_isSame_18 hb5 (lay_lt hb5 (by decide)) (ltb rfl) rfl (sr_chip0 hb5) ?_
  refine g_iloadn (pc := 21) O rfl dX2_isSame_21 ?_
  obtain ⟨j6, ej6, bj6, H⟩ := H
  refine g_iald (j := j6) (pc := 22) O dX2_isSame_22 ej6 (lay_chip0 hb5) (lay_lt (lay_chip0 hb5) (by decide)) bj6 (ltb rfl) rfl ?_
  refine g_ishr (pc := 23) O dX2_isSame_23 ?_
  refine g_iconst (v := (I 1)) (pc := 24) O rfl dX2_isSame_24 ?_
  refine g_iand (pc := 25) O dX2_isSame_25 ?_
  refine g_if_eq (tgt := 33) (pc := 26) O dX2_isSame_26 rfl (fun q7 => ?_) (fun q7 => ?_)
  · replace H := H.1 q7
    refine g_iconst (v := (I 0)) (pc := 33) O rfl dX2_isSame_33 ?_
    exact g_zret (pc := 34) O dX2_isSame_34 (by decide) H
  · replace H := H.2 q7
    refine g_iconst (v := (I 1)) (pc := 29) O rfl dX2_isSame_29 ?_
    refine g_goto (tgt := 34) (pc := 30) O dX2_isSame_30 rfl ?_
    exact g_zret (pc := 34) O dX2_isSame_34 (by decide) H
set_option maxRecDepth 20000 in
set_option maxHeartbeats 2000000 in
theorem sX2_isSame {g : mg} {l : Launch} {Q : Int32 → AH → Prop} {x1 : Int32} {x2 : Int32} {h : AH} (H : ∃ b1 : Nat, h.2.2 23 4 = some b1 ∧ lay b1 = (100, 12) ∧ (∃ b2 : Nat, h.2.2 23 2 = some b2 ∧ lay b2 = (1, 5) ∧ (∃ j3 : Nat, x1 = I (j3 : Int) ∧ j3 < 10 ∧ (∃ j4 : Nat, (h.1 (b2 + 1) j3) = I (j4 : Int) ∧ j4 < 12 ∧ (∃ b5 : Nat, h.2.2 23 3 = some b5 ∧ lay b5 = (1, 5) ∧ (∃ j6 : Nat, x2 = I (j6 : Int) ∧ j6 < 10 ∧ ((((((h.1 b1 j4) >>> ((h.1 (b5 + 1) j6) &&& 31)) &&& (I 1)) = 0) → (Q (I 0) h)) ∧ ((¬ ((((h.1 b1 j4) >>> ((h.1 (b5 + 1) j6) &&& 31)) &&& (I 1)) = 0)) → (Q (I 1) h))))))))) : SpI g l mX2_isSame h [.ref 23, .int x1, .int x2] Q := spI_of (by decide) (leb rfl) (fun X O => bX2_isSame_0 O H)
set_option maxRecDepth 20000 in
set_option maxHeartbeats 2000000 in
theorem bX2_costBeside_0 {g : mg} {l : Launch} {X : XT} {Q : Int32 → AH → Prop} (O : Ok (FF g l X) RX2 cX2_costBeside 5 mX2_costBeside.2.2.2.2 (some .int)) {x1 : Int32} {x2 : Int32} {x3 : Int32} {h : AH} (H : ∃ b1 : Nat, h.2.2 23 2 = some b1 ∧ lay b1 = (1, 5) ∧ (∃ j2 : Nat, x1 = I (j2 : Int) ∧ j2 < 10 ∧ (∃ b3 : Nat, h.2.2 23 3 = some b3 ∧ lay b3 = (1, 5) ∧ (∃ j4 : Nat, x2 = I (j4 : Int) ∧ j4 < 10 ∧ (∃ j5 : Nat, ((((x1 + (I 1)) * (I 11)) + x2) + (I 1)) = I (j5 : Int) ∧ j5 < 121 ∧ (Q ((((h.1 23 5) * (x2 - x3)) + ((h.1 23 6) * (if 0 ≤ ((h.1 (b1 + 2) j2) - (h.1 (b3 + 2) j4)) then ((h.1 (b1 + 2) j2) - (h.1 (b3 + 2) j4)) else 0 - ((h.1 (b1 + 2) j2) - (h.1 (b3 + 2) j4))))) + (h.1 24 j5)) h)))))) : GI g l X Q h 0 [(0, .ref 23), (1, .int x1), (2, .int x2), (3, .int x3)] [] := by
  refine g_aloadn (pc := 0) O rfl dX2_costBeside_0 ?_
  obtain ⟨b1, rb1, hb1, H⟩ := H
  refine g_getR (pc := 1) O cls2 fl_X2_19 dX2_costBeside_1 rfl (ltb rfl) (ltb rfl) rfl rfl rb1 ?_
  refine g_getS (pc := 4) O cls1 fl_X2_60 dX2_costBeside_4 hb1 (lay_lt hb1 (by decide)) (ltb rfl) rfl (sr_chip1 hb1) ?_
  refine g_iloadn (pc := 7) O rfl dX2_costBeside_7 ?_
  obtain ⟨j2, ej2, bj2, H⟩ := H
  refine g_iald (j := j2) (pc := 8) O dX2_costBeside_8 ej2 (lay_chip1 hb1) (lay_lt (lay_chip1 hb1) (by decide)) bj2 (ltb rfl) rfl ?_
  refine g_aloadn (pc := 9) O rfl dX2_costBeside_9 ?_
  obtain ⟨b3, rb3, hb3, H⟩ := H
  refine g_getR (pc := 10) O cls2 fl_X2_23 dX2_costBeside_10 rfl (ltb rfl) (ltb rfl) rfl rfl rb3 ?_
  refine g_getS (pc := 13) O cls1 fl_X2_60 dX2_costBeside_13 hb3 (lay_lt hb3 (by decide)) (ltb rfl) rfl (sr_chip1 hb3) ?_
  refine g_iloadn (pc := 16) O rfl dX2_costBeside_16 ?_
  obtain ⟨j4, ej4, bj4, H⟩ := H
  refine g_iald (j := j4) (pc := 17) O dX2_costBeside_17 ej4 (lay_chip1 hb3) (lay_lt (lay_chip1 hb3) (by decide)) bj4 (ltb rfl) rfl ?_
  refine g_isub (pc := 18) O dX2_costBeside_18 ?_
  refine g_mabs (pc := 19) O ml_X2_63 ⟨leb rfl, leb rfl⟩ (leb rfl) dX2_costBeside_19 ?_
  refine g_istore (lv' := [(0, .ref 23), (1, .int x1), (2, .int x2), (3, .int x3), (4, .int (if 0 ≤ ((h.1 (b1 + 2) j2) - (h.1 (b3 + 2) j4)) then ((h.1 (b1 + 2) j2) - (h.1 (b3 + 2) j4)) else 0 - ((h.1 (b1 + 2) j2) - (h.1 (b3 + 2) j4))))]) (pc := 22) O dX2_costBeside_22 (ltb rfl) rfl ?_
  refine g_aloadn (pc := 24) O rfl dX2_costBeside_24 ?_
  refine g_getI (v := h.1 23 5) (pc := 25) O cls2 fl_X2_29 dX2_costBeside_25 rfl (ltb rfl) (ltb rfl) rfl rfl ?_
  refine g_iloadn (pc := 28) O rfl dX2_costBeside_28 ?_
  refine g_iloadn (pc := 29) O rfl dX2_costBeside_29 ?_
  refine g_isub (pc := 30) O dX2_costBeside_30 ?_
  refine g_imul (pc := 31) O dX2_costBeside_31 ?_
  refine g_aloadn (pc := 32) O rfl dX2_costBeside_32 ?_
  refine g_getI (v := h.1 23 6) (pc := 33) O cls2 fl_X2_33 dX2_costBeside_33 rfl (ltb rfl) (ltb rfl) rfl rfl ?_
  refine g_iload (pc := 36) O rfl dX2_costBeside_36 ?_
  refine g_imul (pc := 38) O dX2_costBeside_38 ?_
  refine g_iadd (pc := 39) O dX2_costBeside_39 ?_
  refine g_aloadn (pc := 40) O rfl dX2_costBeside_40 ?_
  refine g_getS (pc := 41) O cls2 fl_X2_11 dX2_costBeside_41 rfl (ltb rfl) (ltb rfl) rfl rfl ?_
  refine g_iloadn (pc := 44) O rfl dX2_costBeside_44 ?_
  refine g_iconst (v := (I 1)) (pc := 45) O rfl dX2_costBeside_45 ?_
  refine g_iadd (pc := 46) O dX2_costBeside_46 ?_
  refine g_bipush (v := (I 11)) (pc := 47) O (by decide) dX2_costBeside_47 ?_
  refine g_imul (pc := 49) O dX2_costBeside_49 ?_
  refine g_iloadn (pc := 50) O rfl dX2_costBeside_50 ?_
  refine g_iadd (pc := 51) O dX2_costBeside_51 ?_
  refine g_iconst (v := (I 1)) (pc := 52) O rfl dX2_costBeside_52 ?_
  refine g_iadd (pc := 53) O dX2_costBeside_53 ?_
  obtain ⟨j5, ej5, bj5, H⟩ := H
  refine g_iald (j := j5) (pc := 54) O dX2_costBeside_54 ej5 rfl (ltb rfl) bj5 (ltb rfl) rfl ?_
  refine g_iadd (pc := 55) O dX2_costBeside_55 ?_
  exact g_iret (pc := 56) O dX2_costBeside_56 H
set_option maxRecDepth 20000 in
set_option maxHeartbeats 2000000 in
theorem sX2_costBeside {g : mg} {l : Launch} {Q : Int32 → AH → Prop} {x1 : Int32} {x2 : Int32} {x3 : Int32} {h : AH} (H : ∃ b1 : Nat, h.2.2 23 2 = some b1 ∧ lay b1 = (1, 5) ∧ (∃ j2 : Nat, x1 = I (j2 : Int) ∧ j2 < 10 ∧ (∃ b3 : Nat, h.2.2 23 3 = some b3 ∧ lay b3 = (1, 5) ∧ (∃ j4 : Nat, x2 = I (j4 : Int) ∧ j4 < 10 ∧ (∃ j5 : Nat, ((((x1 + (I 1)) * (I 11)) + x2) + (I 1)) = I (j5 : Int) ∧ j5 < 121 ∧ (Q ((((h.1 23 5) * (x2 - x3)) + ((h.1 23 6) * (if 0 ≤ ((h.1 (b1 + 2) j2) - (h.1 (b3 + 2) j4)) then ((h.1 (b1 + 2) j2) - (h.1 (b3 + 2) j4)) else 0 - ((h.1 (b1 + 2) j2) - (h.1 (b3 + 2) j4))))) + (h.1 24 j5)) h)))))) : SpI g l mX2_costBeside h [.ref 23, .int x1, .int x2, .int x3] Q := spI_of (by decide) (leb rfl) (fun X O => bX2_costBeside_0 O H)
set_option maxRecDepth 20000 in
set_option maxHeartbeats 2000000 in
theorem bX3_find_0 {g : mg} {l : Launch} {X : XT} {Q : AH → Prop} (O : Ok (FF g l X) RX3 cX3_find 6 mX3_find.2.2.2.2 none) {x1 : Nat} (hx1 : lay x1 = (4, 3)) {h : AH} (H : GVA g l X Q (sR (sR h 26 12 (some x1)) 26 13 (some 22)) 15 [(0, .ref 26), (3, .int (I 1)), (4, .int (I 0))] []) : GVA g l X Q h 0 [(0, .ref 26), (1, .ref x1), (2, .ref 22)] [] := by
  refine g_aloadn (pc := 0) O rfl dX3_find_0 ?_
  refine g_aloadn (pc := 1) O rfl dX3_find_1 ?_
  refine g_putR (ty := (.object "CoatRows$Shelf")) (pc := 2) O cls3 fl_X3_43 dX3_find_2 rfl (ltb rfl) (leb rfl) (ltb rfl) rfl rfl rfl (by decide +kernel) rfl rfl ?_
  refine g_aloadn (pc := 5) O rfl dX3_find_5 ?_
  refine g_aloadn (pc := 6) O rfl dX3_find_6 ?_
  refine g_putR (ty := (.array .int)) (pc := 7) O cls3 fl_X3_47 dX3_find_7 rfl (ltb rfl) (leb rfl) (ltb rfl) rfl rfl rfl (by decide +kernel) rfl rfl ?_
  refine g_iconst (v := (I 1)) (pc := 10) O rfl dX3_find_10 ?_
  refine g_istoren (lv' := [(0, .ref 26), (1, .ref x1), (2, .ref 22), (3, .int (I 1))]) (pc := 11) O dX3_find_11 rfl (ltb rfl) rfl ?_
  refine g_iconst (v := (I 0)) (pc := 12) O rfl dX3_find_12 ?_
  refine g_istore (lv' := [(0, .ref 26), (1, .ref x1), (2, .ref 22), (3, .int (I 1)), (4, .int (I 0))]) (pc := 13) O dX3_find_13 (ltb rfl) rfl ?_
  refine g_sub [0, 3, 4] rfl ?_
  exact H
set_option maxRecDepth 20000 in
set_option maxHeartbeats 2000000 in
theorem bX3_find_15 {g : mg} {l : Launch} {X : XT} {Q : AH → Prop} (O : Ok (FF g l X) RX3 cX3_find 6 mX3_find.2.2.2.2 none) {x3 : Int32} {x4 : Int32} {h : AH} (H : ∃ b1 : Nat, h.2.2 26 12 = some b1 ∧ lay b1 = (4, 3) ∧ ((((h.1 b1 1) ≤ x4) → (∃ b3 : Nat, h.2.2 26 12 = some b3 ∧ lay b3 = (4, 3) ∧ ((((h.1 b3 1) ≤ 0) → ((((I 14641) < x3) → (Q (sI h 26 0 (I 0)))) ∧ ((¬ ((I 14641) < x3)) → ((((I 1) < (I 1)) → (Q (sI h 26 0 (I 0)))) ∧ ((¬ ((I 1) < (I 1))) → ((((I 1) ≤ x3) → (SpV g l mX3_makeRoom (sI h 26 0 (I 0)) [.ref 26, .int x3] (fun hv8 => GV g l X Q hv8 125 [(0, .ref 26), (4, .int (I 1)), (5, .int (x3 - (I 1)))] []))) ∧ ((¬ ((I 1) ≤ x3)) → (Q (sI h 26 0 (I 0)))))))))) ∧ ((¬ ((h.1 b3 1) ≤ 0)) → (∃ b9 : Nat, h.2.2 26 12 = some b9 ∧ lay b9 = (4, 3) ∧ (∃ b11 : Nat, h.2.2 (b9 + 1) 0 = some b11 ∧ lay b11 = (1, 5) ∧ ((((I 14641) < x3) → (Q (sI h 26 0 (I 0)))) ∧ ((¬ ((I 14641) < x3)) → (((((h.1 b11 3) + (I 1)) < (I 1)) → (Q (sI h 26 0 (I 0)))) ∧ ((¬ (((h.1 b11 3) + (I 1)) < (I 1))) → (((((h.1 b11 3) + (I 1)) ≤ x3) → (SpV g l mX3_makeRoom (sI h 26 0 (I 0)) [.ref 26, .int x3] (fun hv15 => GV g l X Q hv15 125 [(0, .ref 26), (4, .int ((h.1 b11 3) + (I 1))), (5, .int (x3 - ((h.1 b11 3) + (I 1))))] []))) ∧ ((¬ (((h.1 b11 3) + (I 1)) ≤ x3)) → (Q (sI h 26 0 (I 0))))))))))))))) ∧ ((¬ ((h.1 b1 1) ≤ x4)) → (∃ j16 : Nat, x4 = I (j16 : Int) ∧ j16 < 4 ∧ (∃ b17 : Nat, h.2.2 26 12 = some b17 ∧ lay b17 = (4, 3) ∧ (∃ j18 : Nat, x4 = I (j18 : Int) ∧ j18 < 4 ∧ (∃ b19 : Nat, h.2.2 (b17 + 1) j18 = some b19 ∧ lay b19 = (1, 5) ∧ (GVA g l X Q (sI h 32 j16 x3) 15 [(0, .ref 26), (3, .int (x3 * ((sI h 32 j16 x3).1 b19 3 + (I 1)))), (4, .int (x4 + I 1))] [])))))))) : GVA g l X Q h 15 [(0, .ref 26), (3, .int x3), (4, .int x4)] [] := by
  refine g_iload (pc := 15) O rfl dX3_find_15 ?_
  refine g_aloadn (pc := 17) O rfl dX3_find_17 ?_
  obtain ⟨b1, rb1, hb1, H⟩ := H
  refine g_getR (pc := 18) O cls3 fl_X3_43 dX3_find_18 rfl (ltb rfl) (ltb rfl) rfl rfl rb1 ?_
  refine g_getI (v := h.1 b1 1) (pc := 21) O cls4 fl_X3_50 dX3_find_21 hb1 (lay_lt hb1 (by decide)) (ltb rfl) rfl rfl ?_
  refine g_icmp_ge (tgt := 59) (pc := 24) O dX3_find_24 rfl (fun q2 => ?_) (fun q2 => ?_)
  · replace H := H.1 q2
    refine g_aloadn (pc := 59) O rfl dX3_find_59 ?_
    obtain ⟨b3, rb3, hb3, H⟩ := H
    refine g_getR (pc := 60) O cls3 fl_X3_43 dX3_find_60 rfl (ltb rfl) (ltb rfl) rfl rfl rb3 ?_
    refine g_getI (v := h.1 b3 1) (pc := 63) O cls4 fl_X3_50 dX3_find_63 hb3 (lay_lt hb3 (by decide)) (ltb rfl) rfl rfl ?_
    refine g_if_le (tgt := 86) (pc := 66) O dX3_find_66 rfl (fun q4 => ?_) (fun q4 => ?_)
    · replace H := H.1 q4
      refine g_iconst (v := (I 1)) (pc := 86) O rfl dX3_find_86 ?_
      refine g_istore (lv' := [(0, .ref 26), (3, .int x3), (4, .int (I 1))]) (pc := 87) O dX3_find_87 (ltb rfl) rfl ?_
      refine g_aloadn (pc := 89) O rfl dX3_find_89 ?_
      refine g_iconst (v := (I 0)) (pc := 90) O rfl dX3_find_90 ?_
      refine g_putI (pc := 91) O cls3 fl_X3_65 dX3_find_91 rfl (ltb rfl) (leb rfl) (ltb rfl) rfl rfl (by decide +kernel) ?_
      refine g_iloadn (pc := 94) O rfl dX3_find_94 ?_
      refine g_sipush (v := (I 14641)) (pc := 95) O (by decide) dX3_find_95 ?_
      refine g_icmp_gt (tgt := 113) (pc := 98) O dX3_find_98 rfl (fun q5 => ?_) (fun q5 => ?_)
      · replace H := H.1 q5
        refine g_wR ?_
        exact g_vret (pc := 113) O dX3_find_113 H
      · replace H := H.2 q5
        refine g_iload (pc := 101) O rfl dX3_find_101 ?_
        refine g_iconst (v := (I 1)) (pc := 103) O rfl dX3_find_103 ?_
        refine g_icmp_lt (tgt := 113) (pc := 104) O dX3_find_104 rfl (fun q6 => ?_) (fun q6 => ?_)
        · replace H := H.1 q6
          refine g_wR ?_
          exact g_vret (pc := 113) O dX3_find_113 H
        · replace H := H.2 q6
          refine g_iload (pc := 107) O rfl dX3_find_107 ?_
          refine g_iloadn (pc := 109) O rfl dX3_find_109 ?_
          refine g_icmp_le (tgt := 114) (pc := 110) O dX3_find_110 rfl (fun q7 => ?_) (fun q7 => ?_)
          · replace H := H.1 q7
            refine g_aloadn (pc := 114) O rfl dX3_find_114 ?_
            refine g_iloadn (pc := 115) O rfl dX3_find_115 ?_
            refine g_vVA [.int x3] [] (pc := 116) O mk_X3_makeRoom ml_X3_66 im_X3_makeRoom se_X3_makeRoom cls3 rfl ⟨leb rfl, leb rfl, leb rfl, leb rfl⟩ rfl (leb rfl) dX3_find_116 H rfl (fun hv8 H => ?_)
            refine g_iloadn (pc := 119) O rfl dX3_find_119 ?_
            refine g_iload (pc := 120) O rfl dX3_find_120 ?_
            refine g_isub (pc := 122) O dX3_find_122 ?_
            refine g_istore (lv' := [(0, .ref 26), (3, .int x3), (4, .int (I 1)), (5, .int (x3 - (I 1)))]) (pc := 123) O dX3_find_123 (ltb rfl) rfl ?_
            refine g_sub [0, 2, 3] rfl ?_
            exact H
          · replace H := H.2 q7
            refine g_wR ?_
            exact g_vret (pc := 113) O dX3_find_113 H
    · replace H := H.2 q4
      refine g_aloadn (pc := 69) O rfl dX3_find_69 ?_
      obtain ⟨b9, rb9, hb9, H⟩ := H
      refine g_getR (pc := 70) O cls3 fl_X3_43 dX3_find_70 rfl (ltb rfl) (ltb rfl) rfl rfl rb9 ?_
      refine g_getS (pc := 73) O cls4 fl_X3_56 dX3_find_73 hb9 (lay_lt hb9 (by decide)) (ltb rfl) rfl (sr_shelf0 hb9) ?_
      refine g_iconst (v := (I 0)) (pc := 76) O rfl dX3_find_76 ?_
      obtain ⟨b11, rb11, hb11, H⟩ := H
      refine g_aald (t := 0) (j := 0) (pc := 77) O dX3_find_77 rfl (ltb rfl) (lay_shelf0 hb9) (lay_lt (lay_shelf0 hb9) (by decide)) (ltb rfl) (ltb rfl) rb11 ?_
      refine g_getI (v := h.1 b11 3) (pc := 78) O cls1 fl_X3_60 dX3_find_78 hb11 (lay_lt hb11 (by decide)) (ltb rfl) rfl rfl ?_
      refine g_iconst (v := (I 1)) (pc := 81) O rfl dX3_find_81 ?_
      refine g_iadd (pc := 82) O dX3_find_82 ?_
      refine g_goto (tgt := 87) (pc := 83) O dX3_find_83 rfl ?_
      refine g_istore (lv' := [(0, .ref 26), (3, .int x3), (4, .int ((h.1 b11 3) + (I 1)))]) (pc := 87) O dX3_find_87 (ltb rfl) rfl ?_
      refine g_aloadn (pc := 89) O rfl dX3_find_89 ?_
      refine g_iconst (v := (I 0)) (pc := 90) O rfl dX3_find_90 ?_
      refine g_putI (pc := 91) O cls3 fl_X3_65 dX3_find_91 rfl (ltb rfl) (leb rfl) (ltb rfl) rfl rfl (by decide +kernel) ?_
      refine g_iloadn (pc := 94) O rfl dX3_find_94 ?_
      refine g_sipush (v := (I 14641)) (pc := 95) O (by decide) dX3_find_95 ?_
      refine g_icmp_gt (tgt := 113) (pc := 98) O dX3_find_98 rfl (fun q12 => ?_) (fun q12 => ?_)
      · replace H := H.1 q12
        refine g_wR ?_
        exact g_vret (pc := 113) O dX3_find_113 H
      · replace H := H.2 q12
        refine g_iload (pc := 101) O rfl dX3_find_101 ?_
        refine g_iconst (v := (I 1)) (pc := 103) O rfl dX3_find_103 ?_
        refine g_icmp_lt (tgt := 113) (pc := 104) O dX3_find_104 rfl (fun q13 => ?_) (fun q13 => ?_)
        · replace H := H.1 q13
          refine g_wR ?_
          exact g_vret (pc := 113) O dX3_find_113 H
        · replace H := H.2 q13
          refine g_iload (pc := 107) O rfl dX3_find_107 ?_
          refine g_iloadn (pc := 109) O rfl dX3_find_109 ?_
          refine g_icmp_le (tgt := 114) (pc := 110) O dX3_find_110 rfl (fun q14 => ?_) (fun q14 => ?_)
          · replace H := H.1 q14
            refine g_aloadn (pc := 114) O rfl dX3_find_114 ?_
            refine g_iloadn (pc := 115) O rfl dX3_find_115 ?_
            refine g_vVA [.int x3] [] (pc := 116) O mk_X3_makeRoom ml_X3_66 im_X3_makeRoom se_X3_makeRoom cls3 rfl ⟨leb rfl, leb rfl, leb rfl, leb rfl⟩ rfl (leb rfl) dX3_find_116 H rfl (fun hv15 H => ?_)
            refine g_iloadn (pc := 119) O rfl dX3_find_119 ?_
            refine g_iload (pc := 120) O rfl dX3_find_120 ?_
            refine g_isub (pc := 122) O dX3_find_122 ?_
            refine g_istore (lv' := [(0, .ref 26), (3, .int x3), (4, .int ((h.1 b11 3) + (I 1))), (5, .int (x3 - ((h.1 b11 3) + (I 1))))]) (pc := 123) O dX3_find_123 (ltb rfl) rfl ?_
            refine g_sub [0, 2, 3] rfl ?_
            exact H
          · replace H := H.2 q14
            refine g_wR ?_
            exact g_vret (pc := 113) O dX3_find_113 H
  · replace H := H.2 q2
    refine g_aloadn (pc := 27) O rfl dX3_find_27 ?_
    refine g_getS (pc := 28) O cls3 fl_X3_28 dX3_find_28 rfl (ltb rfl) (ltb rfl) rfl rfl ?_
    refine g_iload (pc := 31) O rfl dX3_find_31 ?_
    refine g_iloadn (pc := 33) O rfl dX3_find_33 ?_
    obtain ⟨j16, ej16, bj16, H⟩ := H
    refine g_iast (j := j16) (pc := 34) O dX3_find_34 ej16 rfl (ltb rfl) (leb rfl) bj16 (ltb rfl) ?_
    refine g_iloadn (pc := 35) O rfl dX3_find_35 ?_
    refine g_aloadn (pc := 36) O rfl dX3_find_36 ?_
    obtain ⟨b17, rb17, hb17, H⟩ := H
    refine g_getR (pc := 37) O cls3 fl_X3_43 dX3_find_37 rfl (ltb rfl) (ltb rfl) rfl rfl rb17 ?_
    refine g_getS (pc := 40) O cls4 fl_X3_56 dX3_find_40 hb17 (lay_lt hb17 (by decide)) (ltb rfl) rfl (sr_shelf0 hb17) ?_
    refine g_iload (pc := 43) O rfl dX3_find_43 ?_
    obtain ⟨j18, ej18, bj18, H⟩ := H
    obtain ⟨b19, rb19, hb19, H⟩ := H
    refine g_aald (t := 0) (j := j18) (pc := 45) O dX3_find_45 ej18 (ltb rfl) (lay_shelf0 hb17) (lay_lt (lay_shelf0 hb17) (by decide)) bj18 (ltb rfl) rb19 ?_
    refine g_getI (v := (sI h 32 j16 x3).1 b19 3) (pc := 46) O cls1 fl_X3_60 dX3_find_46 hb19 (lay_lt hb19 (by decide)) (ltb rfl) rfl rfl ?_
    refine g_iconst (v := (I 1)) (pc := 49) O rfl dX3_find_49 ?_
    refine g_iadd (pc := 50) O dX3_find_50 ?_
    refine g_imul (pc := 51) O dX3_find_51 ?_
    refine g_istoren (lv' := [(0, .ref 26), (3, .int (x3 * ((sI h 32 j16 x3).1 b19 3 + (I 1)))), (4, .int x4)]) (pc := 52) O dX3_find_52 rfl (ltb rfl) rfl ?_
    refine g_iinc (lv' := [(0, .ref 26), (3, .int (x3 * ((sI h 32 j16 x3).1 b19 3 + (I 1)))), (4, .int (x4 + I 1))]) (pc := 53) O dX3_find_53 rfl rfl (ltb rfl) rfl ?_
    refine g_goto (tgt := 15) (pc := 56) O dX3_find_56 rfl ?_
    exact H
set_option maxRecDepth 20000 in
set_option maxHeartbeats 2000000 in
theorem bX3_find_125 {g : mg} {l : Launch} {X : XT} {Q : AH → Prop} (O : Ok (FF g l X) RX3 cX3_find 6 mX3_find.2.2.2.2 none) {x4 : Int32} {x5 : Int32} {h : AH} (H : ((x5 < 0) → (SpV g l mX3_walk h [.ref 26] (fun hv2 => Q hv2))) ∧ ((¬ (x5 < 0)) → (SpV g l mX3_look h [.ref 26, .int x5] (fun hv3 => SpV g l mX3_findServing hv3 [.ref 26] (fun hv4 => SpV g l mX3_fillRow hv4 [.ref 26, .int x5, .int x4] (fun hv5 => GV g l X Q hv5 125 [(0, .ref 26), (4, .int x4), (5, .int (x5 - x4))] [])))))) : GV g l X Q h 125 [(0, .ref 26), (4, .int x4), (5, .int x5)] [] := by
  refine g_iload (pc := 125) O rfl dX3_find_125 ?_
  refine g_if_lt (tgt := 158) (pc := 127) O dX3_find_127 rfl (fun q1 => ?_) (fun q1 => ?_)
  · replace H := H.1 q1
    refine g_aloadn (pc := 158) O rfl dX3_find_158 ?_
    refine g_vV [] [] (pc := 159) O mk_X3_walk ml_X3_80 im_X3_walk se_X3_walk cls3 rfl ⟨rfl, rfl, leb rfl, leb rfl⟩ rfl (leb rfl) dX3_find_159 H rfl (fun hv2 H => ?_)
    exact g_vret (pc := 162) O dX3_find_162 H
  · replace H := H.2 q1
    refine g_aloadn (pc := 130) O rfl dX3_find_130 ?_
    refine g_iload (pc := 131) O rfl dX3_find_131 ?_
    refine g_vV [.int x5] [] (pc := 133) O mk_X3_look ml_X3_70 im_X3_look se_X3_look cls3 rfl ⟨rfl, rfl, leb rfl, leb rfl⟩ rfl (leb rfl) dX3_find_133 H rfl (fun hv3 H => ?_)
    refine g_aloadn (pc := 136) O rfl dX3_find_136 ?_
    refine g_vV [] [] (pc := 137) O mk_X3_findServing ml_X3_73 im_X3_findServing se_X3_findServing cls3 rfl ⟨rfl, rfl, leb rfl, leb rfl⟩ rfl (leb rfl) dX3_find_137 H rfl (fun hv4 H => ?_)
    refine g_aloadn (pc := 140) O rfl dX3_find_140 ?_
    refine g_iload (pc := 141) O rfl dX3_find_141 ?_
    refine g_iload (pc := 143) O rfl dX3_find_143 ?_
    refine g_vV [.int x5, .int x4] [] (pc := 145) O mk_X3_fillRow ml_X3_76 im_X3_fillRow se_X3_fillRow cls3 rfl ⟨rfl, rfl, leb rfl, leb rfl⟩ rfl (leb rfl) dX3_find_145 H rfl (fun hv5 H => ?_)
    refine g_iload (pc := 148) O rfl dX3_find_148 ?_
    refine g_iload (pc := 150) O rfl dX3_find_150 ?_
    refine g_isub (pc := 152) O dX3_find_152 ?_
    refine g_istore (lv' := [(0, .ref 26), (4, .int x4), (5, .int (x5 - x4))]) (pc := 153) O dX3_find_153 (ltb rfl) rfl ?_
    refine g_goto (tgt := 125) (pc := 155) O dX3_find_155 rfl ?_
    exact H
set_option maxRecDepth 20000 in
set_option maxHeartbeats 2000000 in
theorem sX3_find {g : mg} {l : Launch} {Q : AH → Prop} {x1 : Nat} (hx1 : lay x1 = (4, 3)) {h : AH} (H : ∀ X, Ok (FF g l X) RX3 cX3_find 6 mX3_find.2.2.2.2 none → GVA g l X Q (sR (sR h 26 12 (some x1)) 26 13 (some 22)) 15 [(0, .ref 26), (3, .int (I 1)), (4, .int (I 0))] []) : SpV g l mX3_find h [.ref 26, .ref x1, .ref 22] Q := spV_ofA (by decide) (leb rfl) (fun X O => bX3_find_0 O hx1 (H X O))
set_option maxRecDepth 20000 in
set_option maxHeartbeats 2000000 in
theorem bX3_makeRoom_0 {g : mg} {l : Launch} {X : XT} {Q : AH → Prop} (O : Ok (FF g l X) RX3 cX3_makeRoom 2 mX3_makeRoom.2.2.2.2 none) {x1 : Int32} {h : AH} (H : 64 ≤ tLn h → tLn h ≤ 14641 → (((x1 ≤ (I (tLn h : Int))) → (Q h)) ∧ ((¬ (x1 ≤ (I (tLn h : Int)))) → (64 ≤ tLn h → tLn h ≤ 14641 → (∃ N4 : Nat, (if (if x1 < ((I 2) * (I (tLn h : Int))) then ((I 2) * (I (tLn h : Int))) else x1) < (I 14641) then (if x1 < ((I 2) * (I (tLn h : Int))) then ((I 2) * (I (tLn h : Int))) else x1) else (I 14641)) = I (N4 : Int) ∧ 64 ≤ N4 ∧ N4 ≤ 14641 ∧ (Q (nT h N4))))))) : GVA g l X Q h 0 [(0, .ref 26), (1, .int x1)] [] := by
  refine g_iloadn (pc := 0) O rfl dX3_makeRoom_0 ?_
  refine g_aloadn (pc := 1) O rfl dX3_makeRoom_1 ?_
  refine g_getT (pc := 2) O fl_X3_24 dX3_makeRoom_2 (fun t1 et1 lt1 ut1 => ?_)
  replace H := H lt1 ut1
  refine g_tlen (pc := 5) O dX3_makeRoom_5 et1 ?_
  refine g_icmp_le (tgt := 32) (pc := 6) O dX3_makeRoom_6 rfl (fun q2 => ?_) (fun q2 => ?_)
  · replace H := H.1 q2
    refine g_wR ?_
    exact g_vret (pc := 32) O dX3_makeRoom_32 H
  · replace H := H.2 q2
    refine g_aloadn (pc := 9) O rfl dX3_makeRoom_9 ?_
    refine g_sipush (v := (I 14641)) (pc := 10) O (by decide) dX3_makeRoom_10 ?_
    refine g_iloadn (pc := 13) O rfl dX3_makeRoom_13 ?_
    refine g_iconst (v := (I 2)) (pc := 14) O rfl dX3_makeRoom_14 ?_
    refine g_aloadn (pc := 15) O rfl dX3_makeRoom_15 ?_
    refine g_getT (pc := 16) O fl_X3_24 dX3_makeRoom_16 (fun t3 et3 lt3 ut3 => ?_)
    replace H := H lt3 ut3
    refine g_tlen (pc := 19) O dX3_makeRoom_19 et3 ?_
    refine g_imul (pc := 20) O dX3_makeRoom_20 ?_
    refine g_mmax0 (pc := 21) O ml_X3_83 ⟨leb rfl, leb rfl⟩ (leb rfl) dX3_makeRoom_21 ?_
    refine g_mmin0 (pc := 24) O ml_X3_89 ⟨leb rfl, leb rfl⟩ (leb rfl) dX3_makeRoom_24 ?_
    obtain ⟨N4, eN4, aN4, bN4, H⟩ := H
    refine g_newT (pc := 27) O dX3_makeRoom_27 fl_X3_24 dX3_makeRoom_29 eN4 aN4 bN4 ⟨leb rfl, leb rfl⟩ ?_
    refine g_wide (okQ O).1 (okQ O).2 ?_
    exact g_vret (pc := 32) O dX3_makeRoom_32 H
set_option maxRecDepth 20000 in
set_option maxHeartbeats 2000000 in
theorem sX3_makeRoom {g : mg} {l : Launch} {Q : AH → Prop} {x1 : Int32} {h : AH} (H : 64 ≤ tLn h → tLn h ≤ 14641 → (((x1 ≤ (I (tLn h : Int))) → (Q h)) ∧ ((¬ (x1 ≤ (I (tLn h : Int)))) → (64 ≤ tLn h → tLn h ≤ 14641 → (∃ N4 : Nat, (if (if x1 < ((I 2) * (I (tLn h : Int))) then ((I 2) * (I (tLn h : Int))) else x1) < (I 14641) then (if x1 < ((I 2) * (I (tLn h : Int))) then ((I 2) * (I (tLn h : Int))) else x1) else (I 14641)) = I (N4 : Int) ∧ 64 ≤ N4 ∧ N4 ≤ 14641 ∧ (Q (nT h N4))))))) : SpV g l mX3_makeRoom h [.ref 26, .int x1] Q := spV_ofA (by decide) (leb rfl) (fun X O => bX3_makeRoom_0 O H)
set_option maxRecDepth 20000 in
set_option maxHeartbeats 2000000 in
theorem bX3_notIn_0 {g : mg} {l : Launch} {X : XT} {Q : Int32 → AH → Prop} (O : Ok (FF g l X) RX3 cX3_notIn 4 mX3_notIn.2.2.2.2 (some .int)) {x1 : Int32} {h : AH} (H : GI g l X Q h 4 [(0, .ref 26), (1, .int x1), (2, .int (I 0)), (3, .int (I 0))] []) : GI g l X Q h 0 [(0, .ref 26), (1, .int x1)] [] := by
  refine g_iconst (v := (I 0)) (pc := 0) O rfl dX3_notIn_0 ?_
  refine g_istoren (lv' := [(0, .ref 26), (1, .int x1), (2, .int (I 0))]) (pc := 1) O dX3_notIn_1 rfl (ltb rfl) rfl ?_
  refine g_iconst (v := (I 0)) (pc := 2) O rfl dX3_notIn_2 ?_
  refine g_istoren (lv' := [(0, .ref 26), (1, .int x1), (2, .int (I 0)), (3, .int (I 0))]) (pc := 3) O dX3_notIn_3 rfl (ltb rfl) rfl ?_
  exact H
set_option maxRecDepth 20000 in
set_option maxHeartbeats 2000000 in
theorem bX3_notIn_4 {g : mg} {l : Launch} {X : XT} {Q : Int32 → AH → Prop} (O : Ok (FF g l X) RX3 cX3_notIn 4 mX3_notIn.2.2.2.2 (some .int)) {x1 : Int32} {x2 : Int32} {x3 : Int32} {h : AH} (H : (((h.1 26 0) ≤ x3) → (Q x2 h)) ∧ ((¬ ((h.1 26 0) ≤ x3)) → (∃ j2 : Nat, x3 = I (j2 : Int) ∧ j2 < 40 ∧ (((¬ ((h.1 28 j2) &&& x1) = 0) → (GI g l X Q h 4 [(0, .ref 26), (1, .int x1), (2, .int x2), (3, .int (x3 + I 1))] [])) ∧ ((((h.1 28 j2) &&& x1) = 0) → (GI g l X Q h 4 [(0, .ref 26), (1, .int x1), (2, .int (x2 + I 1)), (3, .int (x3 + I 1))] [])))))) : GI g l X Q h 4 [(0, .ref 26), (1, .int x1), (2, .int x2), (3, .int x3)] [] := by
  refine g_iloadn (pc := 4) O rfl dX3_notIn_4 ?_
  refine g_aloadn (pc := 5) O rfl dX3_notIn_5 ?_
  refine g_getI (v := h.1 26 0) (pc := 6) O cls3 fl_X3_65 dX3_notIn_6 rfl (ltb rfl) (ltb rfl) rfl rfl ?_
  refine g_icmp_ge (tgt := 32) (pc := 9) O dX3_notIn_9 rfl (fun q1 => ?_) (fun q1 => ?_)
  · replace H := H.1 q1
    refine g_iloadn (pc := 32) O rfl dX3_notIn_32 ?_
    exact g_iret (pc := 33) O dX3_notIn_33 H
  · replace H := H.2 q1
    refine g_aloadn (pc := 12) O rfl dX3_notIn_12 ?_
    refine g_getS (pc := 13) O cls3 fl_X3_15 dX3_notIn_13 rfl (ltb rfl) (ltb rfl) rfl rfl ?_
    refine g_iloadn (pc := 16) O rfl dX3_notIn_16 ?_
    obtain ⟨j2, ej2, bj2, H⟩ := H
    refine g_iald (j := j2) (pc := 17) O dX3_notIn_17 ej2 rfl (ltb rfl) bj2 (ltb rfl) rfl ?_
    refine g_iloadn (pc := 18) O rfl dX3_notIn_18 ?_
    refine g_iand (pc := 19) O dX3_notIn_19 ?_
    refine g_if_ne (tgt := 26) (pc := 20) O dX3_notIn_20 rfl (fun q3 => ?_) (fun q3 => ?_)
    · replace H := H.1 q3
      refine g_iinc (lv' := [(0, .ref 26), (1, .int x1), (2, .int x2), (3, .int (x3 + I 1))]) (pc := 26) O dX3_notIn_26 rfl rfl (ltb rfl) rfl ?_
      refine g_goto (tgt := 4) (pc := 29) O dX3_notIn_29 rfl ?_
      exact H
    · replace H := H.2 q3
      refine g_iinc (lv' := [(0, .ref 26), (1, .int x1), (2, .int (x2 + I 1)), (3, .int x3)]) (pc := 23) O dX3_notIn_23 rfl rfl (ltb rfl) rfl ?_
      refine g_iinc (lv' := [(0, .ref 26), (1, .int x1), (2, .int (x2 + I 1)), (3, .int (x3 + I 1))]) (pc := 26) O dX3_notIn_26 rfl rfl (ltb rfl) rfl ?_
      refine g_goto (tgt := 4) (pc := 29) O dX3_notIn_29 rfl ?_
      exact H
set_option maxRecDepth 20000 in
set_option maxHeartbeats 2000000 in
theorem sX3_notIn {g : mg} {l : Launch} {Q : Int32 → AH → Prop} {x1 : Int32} {h : AH} (H : ∀ X, Ok (FF g l X) RX3 cX3_notIn 4 mX3_notIn.2.2.2.2 (some .int) → GI g l X Q h 4 [(0, .ref 26), (1, .int x1), (2, .int (I 0)), (3, .int (I 0))] []) : SpI g l mX3_notIn h [.ref 26, .int x1] Q := spI_of (by decide) (leb rfl) (fun X O => bX3_notIn_0 O (H X O))
set_option maxRecDepth 20000 in
set_option maxHeartbeats 2000000 in
theorem bX3_findServing_0 {g : mg} {l : Launch} {X : XT} {Q : AH → Prop} (O : Ok (FF g l X) RX3 cX3_findServing 3 mX3_findServing.2.2.2.2 none)  {h : AH} (H : GV g l X Q (sI h 26 11 (I 0)) 7 [(0, .ref 26), (1, .int (I 0))] []) : GV g l X Q h 0 [(0, .ref 26)] [] := by
  refine g_aloadn (pc := 0) O rfl dX3_findServing_0 ?_
  refine g_iconst (v := (I 0)) (pc := 1) O rfl dX3_findServing_1 ?_
  refine g_putI (pc := 2) O cls3 fl_X3_92 dX3_findServing_2 rfl (ltb rfl) (leb rfl) (ltb rfl) rfl rfl (by decide +kernel) ?_
  refine g_iconst (v := (I 0)) (pc := 5) O rfl dX3_findServing_5 ?_
  refine g_istoren (lv' := [(0, .ref 26), (1, .int (I 0))]) (pc := 6) O dX3_findServing_6 rfl (ltb rfl) rfl ?_
  exact H
set_option maxRecDepth 20000 in
set_option maxHeartbeats 2000000 in
theorem bX3_findServing_7 {g : mg} {l : Launch} {X : XT} {Q : AH → Prop} (O : Ok (FF g l X) RX3 cX3_findServing 3 mX3_findServing.2.2.2.2 none) {x1 : Int32} {h : AH} (H : (((I 12) ≤ x1) → (Q h)) ∧ ((¬ ((I 12) ≤ x1)) → (SpI g l mX3_strideOf h [.ref 26, .int x1, .int (I 1)] (fun v2 hv2 => ((v2 ≤ 0) → (GV g l X Q hv2 7 [(0, .ref 26), (1, .int (x1 + I 1))] [])) ∧ ((¬ (v2 ≤ 0)) → (∃ j4 : Nat, (hv2.1 26 11) = I (j4 : Int) ∧ j4 < 12 ∧ (∃ j5 : Nat, (hv2.1 26 11) = I (j5 : Int) ∧ j5 < 12 ∧ (GV g l X Q (sI (sI (sI hv2 35 j4 x1) 36 j5 v2) 26 11 ((hv2.1 26 11) + (I 1))) 7 [(0, .ref 26), (1, .int (x1 + I 1))] [])))))))) : GV g l X Q h 7 [(0, .ref 26), (1, .int x1)] [] := by
  refine g_iloadn (pc := 7) O rfl dX3_findServing_7 ?_
  refine g_bipush (v := (I 12)) (pc := 8) O (by decide) dX3_findServing_8 ?_
  refine g_icmp_ge (tgt := 60) (pc := 10) O dX3_findServing_10 rfl (fun q1 => ?_) (fun q1 => ?_)
  · replace H := H.1 q1
    exact g_vret (pc := 60) O dX3_findServing_60 H
  · replace H := H.2 q1
    refine g_aloadn (pc := 13) O rfl dX3_findServing_13 ?_
    refine g_iloadn (pc := 14) O rfl dX3_findServing_14 ?_
    refine g_iconst (v := (I 1)) (pc := 15) O rfl dX3_findServing_15 ?_
    refine g_vI [.int x1, .int (I 1)] [] (pc := 16) O mk_X3_strideOf ml_X3_95 im_X3_strideOf se_X3_strideOf cls3 rfl ⟨rfl, rfl, leb rfl, leb rfl⟩ rfl (leb rfl) dX3_findServing_16 H rfl (fun v2 hv2 H => ?_)
    refine g_istoren (lv' := [(0, .ref 26), (1, .int x1), (2, .int v2)]) (pc := 19) O dX3_findServing_19 rfl (ltb rfl) rfl ?_
    refine g_iloadn (pc := 20) O rfl dX3_findServing_20 ?_
    refine g_if_le (tgt := 54) (pc := 21) O dX3_findServing_21 rfl (fun q3 => ?_) (fun q3 => ?_)
    · replace H := H.1 q3
      refine g_iinc (lv' := [(0, .ref 26), (1, .int (x1 + I 1)), (2, .int v2)]) (pc := 54) O dX3_findServing_54 rfl rfl (ltb rfl) rfl ?_
      refine g_goto (tgt := 7) (pc := 57) O dX3_findServing_57 rfl ?_
      refine g_sub [0, 1] rfl ?_
      exact H
    · replace H := H.2 q3
      refine g_aloadn (pc := 24) O rfl dX3_findServing_24 ?_
      refine g_getS (pc := 25) O cls3 fl_X3_37 dX3_findServing_25 rfl (ltb rfl) (ltb rfl) rfl rfl ?_
      refine g_aloadn (pc := 28) O rfl dX3_findServing_28 ?_
      refine g_getI (v := hv2.1 26 11) (pc := 29) O cls3 fl_X3_92 dX3_findServing_29 rfl (ltb rfl) (ltb rfl) rfl rfl ?_
      refine g_iloadn (pc := 32) O rfl dX3_findServing_32 ?_
      obtain ⟨j4, ej4, bj4, H⟩ := H
      refine g_iast (j := j4) (pc := 33) O dX3_findServing_33 ej4 rfl (ltb rfl) (leb rfl) bj4 (ltb rfl) ?_
      refine g_aloadn (pc := 34) O rfl dX3_findServing_34 ?_
      refine g_getS (pc := 35) O cls3 fl_X3_40 dX3_findServing_35 rfl (ltb rfl) (ltb rfl) rfl rfl ?_
      refine g_aloadn (pc := 38) O rfl dX3_findServing_38 ?_
      refine g_getI (v := hv2.1 26 11) (pc := 39) O cls3 fl_X3_92 dX3_findServing_39 rfl (ltb rfl) (ltb rfl) rfl rfl ?_
      refine g_iloadn (pc := 42) O rfl dX3_findServing_42 ?_
      obtain ⟨j5, ej5, bj5, H⟩ := H
      refine g_iast (j := j5) (pc := 43) O dX3_findServing_43 ej5 rfl (ltb rfl) (leb rfl) bj5 (ltb rfl) ?_
      refine g_aloadn (pc := 44) O rfl dX3_findServing_44 ?_
      refine g_dup (pc := 45) O rfl dX3_findServing_45 ?_
      refine g_getI (v := hv2.1 26 11) (pc := 46) O cls3 fl_X3_92 dX3_findServing_46 rfl (ltb rfl) (ltb rfl) rfl rfl ?_
      refine g_iconst (v := (I 1)) (pc := 49) O rfl dX3_findServing_49 ?_
      refine g_iadd (pc := 50) O dX3_findServing_50 ?_
      refine g_putI (pc := 51) O cls3 fl_X3_92 dX3_findServing_51 rfl (ltb rfl) (leb rfl) (ltb rfl) rfl rfl (by decide +kernel) ?_
      refine g_iinc (lv' := [(0, .ref 26), (1, .int (x1 + I 1)), (2, .int v2)]) (pc := 54) O dX3_findServing_54 rfl rfl (ltb rfl) rfl ?_
      refine g_goto (tgt := 7) (pc := 57) O dX3_findServing_57 rfl ?_
      refine g_sub [0, 1] rfl ?_
      exact H
set_option maxRecDepth 20000 in
set_option maxHeartbeats 2000000 in
theorem sX3_findServing {g : mg} {l : Launch} {Q : AH → Prop}  {h : AH} (H : ∀ X, Ok (FF g l X) RX3 cX3_findServing 3 mX3_findServing.2.2.2.2 none → GV g l X Q (sI h 26 11 (I 0)) 7 [(0, .ref 26), (1, .int (I 0))] []) : SpV g l mX3_findServing h [.ref 26] Q := spV_of (by decide) (leb rfl) (fun X O => bX3_findServing_0 O (H X O))
set_option maxRecDepth 20000 in
set_option maxHeartbeats 2000000 in
theorem bX3_fillRow_0 {g : mg} {l : Launch} {X : XT} {Q : AH → Prop} (O : Ok (FF g l X) RX3 cX3_fillRow 10 mX3_fillRow.2.2.2.2 none) {x1 : Int32} {x2 : Int32} {h : AH} (H : GV g l X Q h 4 [(0, .ref 26), (1, .int x1), (2, .int x2), (3, .int (x2 - (I 1)))] []) : GV g l X Q h 0 [(0, .ref 26), (1, .int x1), (2, .int x2)] [] := by
  refine g_iloadn (pc := 0) O rfl dX3_fillRow_0 ?_
  refine g_iconst (v := (I 1)) (pc := 1) O rfl dX3_fillRow_1 ?_
  refine g_isub (pc := 2) O dX3_fillRow_2 ?_
  refine g_istoren (lv' := [(0, .ref 26), (1, .int x1), (2, .int x2), (3, .int (x2 - (I 1)))]) (pc := 3) O dX3_fillRow_3 rfl (ltb rfl) rfl ?_
  exact H
set_option maxRecDepth 20000 in
set_option maxHeartbeats 2000000 in
theorem bX3_fillRow_4 {g : mg} {l : Launch} {X : XT} {Q : AH → Prop} (O : Ok (FF g l X) RX3 cX3_fillRow 10 mX3_fillRow.2.2.2.2 none) {x1 : Int32} {x2 : Int32} {x3 : Int32} {h : AH} (H : ((x3 < 0) → (Q h)) ∧ ((¬ (x3 < 0)) → ((((x2 - (I 1)) ≤ x3) → (GV g l X Q h 25 [(0, .ref 26), (1, .int x1), (2, .int x2), (3, .int x3), (4, .int (x1 + x3))] [.int (I 0)])) ∧ ((¬ ((x2 - (I 1)) ≤ x3)) → (GV g l X Q h 25 [(0, .ref 26), (1, .int x1), (2, .int x2), (3, .int x3), (4, .int (x1 + x3))] [.int (I 1)]))))) : GV g l X Q h 4 [(0, .ref 26), (1, .int x1), (2, .int x2), (3, .int x3)] [] := by
  refine g_iloadn (pc := 4) O rfl dX3_fillRow_4 ?_
  refine g_if_lt (tgt := 187) (pc := 5) O dX3_fillRow_5 rfl (fun q1 => ?_) (fun q1 => ?_)
  · replace H := H.1 q1
    exact g_vret (pc := 187) O dX3_fillRow_187 H
  · replace H := H.2 q1
    refine g_iloadn (pc := 8) O rfl dX3_fillRow_8 ?_
    refine g_iloadn (pc := 9) O rfl dX3_fillRow_9 ?_
    refine g_iadd (pc := 10) O dX3_fillRow_10 ?_
    refine g_istore (lv' := [(0, .ref 26), (1, .int x1), (2, .int x2), (3, .int x3), (4, .int (x1 + x3))]) (pc := 11) O dX3_fillRow_11 (ltb rfl) rfl ?_
    refine g_iloadn (pc := 13) O rfl dX3_fillRow_13 ?_
    refine g_iloadn (pc := 14) O rfl dX3_fillRow_14 ?_
    refine g_iconst (v := (I 1)) (pc := 15) O rfl dX3_fillRow_15 ?_
    refine g_isub (pc := 16) O dX3_fillRow_16 ?_
    refine g_icmp_ge (tgt := 24) (pc := 17) O dX3_fillRow_17 rfl (fun q2 => ?_) (fun q2 => ?_)
    · replace H := H.1 q2
      refine g_iconst (v := (I 0)) (pc := 24) O rfl dX3_fillRow_24 ?_
      exact H
    · replace H := H.2 q2
      refine g_iconst (v := (I 1)) (pc := 20) O rfl dX3_fillRow_20 ?_
      refine g_goto (tgt := 25) (pc := 21) O dX3_fillRow_21 rfl ?_
      exact H
set_option maxRecDepth 20000 in
set_option maxHeartbeats 2000000 in
theorem bX3_fillRow_25 {g : mg} {l : Launch} {X : XT} {Q : AH → Prop} (O : Ok (FF g l X) RX3 cX3_fillRow 10 mX3_fillRow.2.2.2.2 none) {x1 : Int32} {x2 : Int32} {x3 : Int32} {x4 : Int32} {s0 : Int32} {h : AH} (H : ((s0 = 0) → (((s0 = 0) → (GV g l X Q h 78 [(0, .ref 26), (1, .int x1), (2, .int x2), (3, .int x3), (4, .int x4), (5, .int s0), (6, .int (I 0)), (7, .int (I 40)), (8, .int (I 0))] [])) ∧ ((¬ (s0 = 0)) → (∃ j4 : Nat, (x4 + (I 1)) = I (j4 : Int) ∧ j4 < tLn h ∧ (GV g l X Q h 78 [(0, .ref 26), (1, .int x1), (2, .int x2), (3, .int x3), (4, .int x4), (5, .int s0), (6, .int (I 0)), (7, .int (h.1 31 j4)), (8, .int (I 0))] []))))) ∧ ((¬ (s0 = 0)) → (∃ b5 : Nat, h.2.2 26 12 = some b5 ∧ lay b5 = (4, 3) ∧ (∃ b7 : Nat, h.2.2 (b5 + 1) 0 = some b7 ∧ lay b7 = (1, 5) ∧ (∃ j8 : Nat, x3 = I (j8 : Int) ∧ j8 < 10 ∧ (((s0 = 0) → (GV g l X Q h 78 [(0, .ref 26), (1, .int x1), (2, .int x2), (3, .int x3), (4, .int x4), (5, .int s0), (6, .int ((I 1) <<< ((h.1 (b7 + 1) j8) &&& 31))), (7, .int (I 40)), (8, .int (I 0))] [])) ∧ ((¬ (s0 = 0)) → (∃ j11 : Nat, (x4 + (I 1)) = I (j11 : Int) ∧ j11 < tLn h ∧ (GV g l X Q h 78 [(0, .ref 26), (1, .int x1), (2, .int x2), (3, .int x3), (4, .int x4), (5, .int s0), (6, .int ((I 1) <<< ((h.1 (b7 + 1) j8) &&& 31))), (7, .int (h.1 31 j11)), (8, .int (I 0))] []))))))))) : GV g l X Q h 25 [(0, .ref 26), (1, .int x1), (2, .int x2), (3, .int x3), (4, .int x4)] [.int s0] := by
  refine g_istore (lv' := [(0, .ref 26), (1, .int x1), (2, .int x2), (3, .int x3), (4, .int x4), (5, .int s0)]) (pc := 25) O dX3_fillRow_25 (ltb rfl) rfl ?_
  refine g_iload (pc := 27) O rfl dX3_fillRow_27 ?_
  refine g_if_eq (tgt := 51) (pc := 29) O dX3_fillRow_29 rfl (fun q1 => ?_) (fun q1 => ?_)
  · replace H := H.1 q1
    refine g_iconst (v := (I 0)) (pc := 51) O rfl dX3_fillRow_51 ?_
    refine g_istore (lv' := [(0, .ref 26), (1, .int x1), (2, .int x2), (3, .int x3), (4, .int x4), (5, .int s0), (6, .int (I 0))]) (pc := 52) O dX3_fillRow_52 (ltb rfl) rfl ?_
    refine g_iload (pc := 54) O rfl dX3_fillRow_54 ?_
    refine g_if_eq (tgt := 71) (pc := 56) O dX3_fillRow_56 rfl (fun q2 => ?_) (fun q2 => ?_)
    · replace H := H.1 q2
      refine g_bipush (v := (I 40)) (pc := 71) O (by decide) dX3_fillRow_71 ?_
      refine g_istore (lv' := [(0, .ref 26), (1, .int x1), (2, .int x2), (3, .int x3), (4, .int x4), (5, .int s0), (6, .int (I 0)), (7, .int (I 40))]) (pc := 73) O dX3_fillRow_73 (ltb rfl) rfl ?_
      refine g_iconst (v := (I 0)) (pc := 75) O rfl dX3_fillRow_75 ?_
      refine g_istore (lv' := [(0, .ref 26), (1, .int x1), (2, .int x2), (3, .int x3), (4, .int x4), (5, .int s0), (6, .int (I 0)), (7, .int (I 40)), (8, .int (I 0))]) (pc := 76) O dX3_fillRow_76 (ltb rfl) rfl ?_
      exact H
    · replace H := H.2 q2
      refine g_aloadn (pc := 59) O rfl dX3_fillRow_59 ?_
      refine g_getT (pc := 60) O fl_X3_24 dX3_fillRow_60 (fun t3 et3 lt3 ut3 => ?_)
      refine g_iload (pc := 63) O rfl dX3_fillRow_63 ?_
      refine g_iconst (v := (I 1)) (pc := 65) O rfl dX3_fillRow_65 ?_
      refine g_iadd (pc := 66) O dX3_fillRow_66 ?_
      obtain ⟨j4, ej4, bj4, H⟩ := H
      refine g_tald (j := j4) (pc := 67) O dX3_fillRow_67 et3 ej4 bj4 rfl ?_
      refine g_goto (tgt := 73) (pc := 68) O dX3_fillRow_68 rfl ?_
      refine g_istore (lv' := [(0, .ref 26), (1, .int x1), (2, .int x2), (3, .int x3), (4, .int x4), (5, .int s0), (6, .int (I 0)), (7, .int (h.1 31 j4))]) (pc := 73) O dX3_fillRow_73 (ltb rfl) rfl ?_
      refine g_iconst (v := (I 0)) (pc := 75) O rfl dX3_fillRow_75 ?_
      refine g_istore (lv' := [(0, .ref 26), (1, .int x1), (2, .int x2), (3, .int x3), (4, .int x4), (5, .int s0), (6, .int (I 0)), (7, .int (h.1 31 j4)), (8, .int (I 0))]) (pc := 76) O dX3_fillRow_76 (ltb rfl) rfl ?_
      exact H
  · replace H := H.2 q1
    refine g_iconst (v := (I 1)) (pc := 32) O rfl dX3_fillRow_32 ?_
    refine g_aloadn (pc := 33) O rfl dX3_fillRow_33 ?_
    obtain ⟨b5, rb5, hb5, H⟩ := H
    refine g_getR (pc := 34) O cls3 fl_X3_43 dX3_fillRow_34 rfl (ltb rfl) (ltb rfl) rfl rfl rb5 ?_
    refine g_getS (pc := 37) O cls4 fl_X3_56 dX3_fillRow_37 hb5 (lay_lt hb5 (by decide)) (ltb rfl) rfl (sr_shelf0 hb5) ?_
    refine g_iconst (v := (I 0)) (pc := 40) O rfl dX3_fillRow_40 ?_
    obtain ⟨b7, rb7, hb7, H⟩ := H
    refine g_aald (t := 0) (j := 0) (pc := 41) O dX3_fillRow_41 rfl (ltb rfl) (lay_shelf0 hb5) (lay_lt (lay_shelf0 hb5) (by decide)) (ltb rfl) (ltb rfl) rb7 ?_
    refine g_getS (pc := 42) O cls1 fl_X3_98 dX3_fillRow_42 hb7 (lay_lt hb7 (by decide)) (ltb rfl) rfl (sr_chip0 hb7) ?_
    refine g_iloadn (pc := 45) O rfl dX3_fillRow_45 ?_
    obtain ⟨j8, ej8, bj8, H⟩ := H
    refine g_iald (j := j8) (pc := 46) O dX3_fillRow_46 ej8 (lay_chip0 hb7) (lay_lt (lay_chip0 hb7) (by decide)) bj8 (ltb rfl) rfl ?_
    refine g_ishl (pc := 47) O dX3_fillRow_47 ?_
    refine g_goto (tgt := 52) (pc := 48) O dX3_fillRow_48 rfl ?_
    refine g_istore (lv' := [(0, .ref 26), (1, .int x1), (2, .int x2), (3, .int x3), (4, .int x4), (5, .int s0), (6, .int ((I 1) <<< ((h.1 (b7 + 1) j8) &&& 31)))]) (pc := 52) O dX3_fillRow_52 (ltb rfl) rfl ?_
    refine g_iload (pc := 54) O rfl dX3_fillRow_54 ?_
    refine g_if_eq (tgt := 71) (pc := 56) O dX3_fillRow_56 rfl (fun q9 => ?_) (fun q9 => ?_)
    · replace H := H.1 q9
      refine g_bipush (v := (I 40)) (pc := 71) O (by decide) dX3_fillRow_71 ?_
      refine g_istore (lv' := [(0, .ref 26), (1, .int x1), (2, .int x2), (3, .int x3), (4, .int x4), (5, .int s0), (6, .int ((I 1) <<< ((h.1 (b7 + 1) j8) &&& 31))), (7, .int (I 40))]) (pc := 73) O dX3_fillRow_73 (ltb rfl) rfl ?_
      refine g_iconst (v := (I 0)) (pc := 75) O rfl dX3_fillRow_75 ?_
      refine g_istore (lv' := [(0, .ref 26), (1, .int x1), (2, .int x2), (3, .int x3), (4, .int x4), (5, .int s0), (6, .int ((I 1) <<< ((h.1 (b7 + 1) j8) &&& 31))), (7, .int (I 40)), (8, .int (I 0))]) (pc := 76) O dX3_fillRow_76 (ltb rfl) rfl ?_
      exact H
    · replace H := H.2 q9
      refine g_aloadn (pc := 59) O rfl dX3_fillRow_59 ?_
      refine g_getT (pc := 60) O fl_X3_24 dX3_fillRow_60 (fun t10 et10 lt10 ut10 => ?_)
      refine g_iload (pc := 63) O rfl dX3_fillRow_63 ?_
      refine g_iconst (v := (I 1)) (pc := 65) O rfl dX3_fillRow_65 ?_
      refine g_iadd (pc := 66) O dX3_fillRow_66 ?_
      obtain ⟨j11, ej11, bj11, H⟩ := H
      refine g_tald (j := j11) (pc := 67) O dX3_fillRow_67 et10 ej11 bj11 rfl ?_
      refine g_goto (tgt := 73) (pc := 68) O dX3_fillRow_68 rfl ?_
      refine g_istore (lv' := [(0, .ref 26), (1, .int x1), (2, .int x2), (3, .int x3), (4, .int x4), (5, .int s0), (6, .int ((I 1) <<< ((h.1 (b7 + 1) j8) &&& 31))), (7, .int (h.1 31 j11))]) (pc := 73) O dX3_fillRow_73 (ltb rfl) rfl ?_
      refine g_iconst (v := (I 0)) (pc := 75) O rfl dX3_fillRow_75 ?_
      refine g_istore (lv' := [(0, .ref 26), (1, .int x1), (2, .int x2), (3, .int x3), (4, .int x4), (5, .int s0), (6, .int ((I 1) <<< ((h.1 (b7 + 1) j8) &&& 31))), (7, .int (h.1 31 j11)), (8, .int (I 0))]) (pc := 76) O dX3_fillRow_76 (ltb rfl) rfl ?_
      exact H
set_option maxRecDepth 20000 in
set_option maxHeartbeats 2000000 in
theorem bX3_fillRow_78 {g : mg} {l : Launch} {X : XT} {Q : AH → Prop} (O : Ok (FF g l X) RX3 cX3_fillRow 10 mX3_fillRow.2.2.2.2 none) {x1 : Int32} {x2 : Int32} {x3 : Int32} {x4 : Int32} {x5 : Int32} {x6 : Int32} {x7 : Int32} {x8 : Int32} {h : AH} (H : (((h.1 26 11) ≤ x8) → (((¬ x5 = 0) → (∃ j4 : Nat, x4 = I (j4 : Int) ∧ j4 < tLn h ∧ (GV g l X Q (sI h 31 j4 ((((x7 + (I 1))).toInt8.toInt32).toInt8.toInt32)) 4 [(0, .ref 26), (1, .int x1), (2, .int x2), (3, .int (x3 + I (-1)))] []))) ∧ ((x5 = 0) → ((((h.1 26 11) ≤ 0) → (∃ j6 : Nat, x4 = I (j6 : Int) ∧ j6 < tLn h ∧ (GV g l X Q (sI h 31 j6 (((I 0)).toInt8.toInt32)) 4 [(0, .ref 26), (1, .int x1), (2, .int x2), (3, .int (x3 + I (-1)))] []))) ∧ ((¬ ((h.1 26 11) ≤ 0)) → (∃ j7 : Nat, x4 = I (j7 : Int) ∧ j7 < tLn h ∧ (GV g l X Q (sI h 31 j7 ((((x7 + (I 1))).toInt8.toInt32).toInt8.toInt32)) 4 [(0, .ref 26), (1, .int x1), (2, .int x2), (3, .int (x3 + I (-1)))] []))))))) ∧ ((¬ ((h.1 26 11) ≤ x8)) → (∃ j8 : Nat, x8 = I (j8 : Int) ∧ j8 < 12 ∧ (∃ b9 : Nat, h.2.2 26 13 = some b9 ∧ lay b9 = (100, 12) ∧ (∃ j10 : Nat, x8 = I (j10 : Int) ∧ j10 < 12 ∧ (∃ j11 : Nat, (h.1 35 j10) = I (j11 : Int) ∧ j11 < 12 ∧ (((((h.1 b9 j11) &&& x6) = 0) → (∃ j14 : Nat, (x4 + ((h.1 36 j8) + (I 0))) = I (j14 : Int) ∧ j14 < tLn h ∧ (((x7 ≤ (h.1 31 j14)) → (GV g l X Q h 78 [(0, .ref 26), (1, .int x1), (2, .int x2), (3, .int x3), (4, .int x4), (5, .int x5), (6, .int x6), (7, .int x7), (8, .int (x8 + I 1))] [])) ∧ ((¬ (x7 ≤ (h.1 31 j14))) → (∃ j17 : Nat, (x4 + ((h.1 36 j8) + (I 0))) = I (j17 : Int) ∧ j17 < tLn h ∧ (GV g l X Q h 78 [(0, .ref 26), (1, .int x1), (2, .int x2), (3, .int x3), (4, .int x4), (5, .int x5), (6, .int x6), (7, .int (h.1 31 j17)), (8, .int (x8 + I 1))] [])))))) ∧ ((¬ (((h.1 b9 j11) &&& x6) = 0)) → (∃ j19 : Nat, (x4 + ((h.1 36 j8) + (I 1))) = I (j19 : Int) ∧ j19 < tLn h ∧ (((x7 ≤ (h.1 31 j19)) → (GV g l X Q h 78 [(0, .ref 26), (1, .int x1), (2, .int x2), (3, .int x3), (4, .int x4), (5, .int x5), (6, .int x6), (7, .int x7), (8, .int (x8 + I 1))] [])) ∧ ((¬ (x7 ≤ (h.1 31 j19))) → (∃ j22 : Nat, (x4 + ((h.1 36 j8) + (I 1))) = I (j22 : Int) ∧ j22 < tLn h ∧ (GV g l X Q h 78 [(0, .ref 26), (1, .int x1), (2, .int x2), (3, .int x3), (4, .int x4), (5, .int x5), (6, .int x6), (7, .int (h.1 31 j22)), (8, .int (x8 + I 1))] []))))))))))))) : GV g l X Q h 78 [(0, .ref 26), (1, .int x1), (2, .int x2), (3, .int x3), (4, .int x4), (5, .int x5), (6, .int x6), (7, .int x7), (8, .int x8)] [] := by
  refine g_iload (pc := 78) O rfl dX3_fillRow_78 ?_
  refine g_aloadn (pc := 80) O rfl dX3_fillRow_80 ?_
  refine g_getI (v := h.1 26 11) (pc := 81) O cls3 fl_X3_92 dX3_fillRow_81 rfl (ltb rfl) (ltb rfl) rfl rfl ?_
  refine g_icmp_ge (tgt := 153) (pc := 84) O dX3_fillRow_84 rfl (fun q1 => ?_) (fun q1 => ?_)
  · replace H := H.1 q1
    refine g_aloadn (pc := 153) O rfl dX3_fillRow_153 ?_
    refine g_getT (pc := 154) O fl_X3_24 dX3_fillRow_154 (fun t2 et2 lt2 ut2 => ?_)
    refine g_iload (pc := 157) O rfl dX3_fillRow_157 ?_
    refine g_iload (pc := 159) O rfl dX3_fillRow_159 ?_
    refine g_if_ne (tgt := 171) (pc := 161) O dX3_fillRow_161 rfl (fun q3 => ?_) (fun q3 => ?_)
    · replace H := H.1 q3
      refine g_iload (pc := 171) O rfl dX3_fillRow_171 ?_
      refine g_iconst (v := (I 1)) (pc := 173) O rfl dX3_fillRow_173 ?_
      refine g_iadd (pc := 174) O dX3_fillRow_174 ?_
      refine g_i2b (pc := 175) O dX3_fillRow_175 ?_
      refine g_goto (tgt := 180) (pc := 176) O dX3_fillRow_176 rfl ?_
      obtain ⟨j4, ej4, bj4, H⟩ := H
      refine g_tast (j := j4) (pc := 180) O dX3_fillRow_180 et2 ej4 bj4 ?_
      refine g_iinc (lv' := [(0, .ref 26), (1, .int x1), (2, .int x2), (3, .int (x3 + I (-1))), (4, .int x4), (5, .int x5), (6, .int x6), (7, .int x7), (8, .int x8)]) (pc := 181) O dX3_fillRow_181 rfl rfl (ltb rfl) rfl ?_
      refine g_goto (tgt := 4) (pc := 184) O dX3_fillRow_184 rfl ?_
      refine g_sub [0, 1, 2, 3] rfl ?_
      exact H
    · replace H := H.2 q3
      refine g_aloadn (pc := 164) O rfl dX3_fillRow_164 ?_
      refine g_getI (v := h.1 26 11) (pc := 165) O cls3 fl_X3_92 dX3_fillRow_165 rfl (ltb rfl) (ltb rfl) rfl rfl ?_
      refine g_if_le (tgt := 179) (pc := 168) O dX3_fillRow_168 rfl (fun q5 => ?_) (fun q5 => ?_)
      · replace H := H.1 q5
        refine g_iconst (v := (I 0)) (pc := 179) O rfl dX3_fillRow_179 ?_
        obtain ⟨j6, ej6, bj6, H⟩ := H
        refine g_tast (j := j6) (pc := 180) O dX3_fillRow_180 et2 ej6 bj6 ?_
        refine g_iinc (lv' := [(0, .ref 26), (1, .int x1), (2, .int x2), (3, .int (x3 + I (-1))), (4, .int x4), (5, .int x5), (6, .int x6), (7, .int x7), (8, .int x8)]) (pc := 181) O dX3_fillRow_181 rfl rfl (ltb rfl) rfl ?_
        refine g_goto (tgt := 4) (pc := 184) O dX3_fillRow_184 rfl ?_
        refine g_sub [0, 1, 2, 3] rfl ?_
        exact H
      · replace H := H.2 q5
        refine g_iload (pc := 171) O rfl dX3_fillRow_171 ?_
        refine g_iconst (v := (I 1)) (pc := 173) O rfl dX3_fillRow_173 ?_
        refine g_iadd (pc := 174) O dX3_fillRow_174 ?_
        refine g_i2b (pc := 175) O dX3_fillRow_175 ?_
        refine g_goto (tgt := 180) (pc := 176) O dX3_fillRow_176 rfl ?_
        obtain ⟨j7, ej7, bj7, H⟩ := H
        refine g_tast (j := j7) (pc := 180) O dX3_fillRow_180 et2 ej7 bj7 ?_
        refine g_iinc (lv' := [(0, .ref 26), (1, .int x1), (2, .int x2), (3, .int (x3 + I (-1))), (4, .int x4), (5, .int x5), (6, .int x6), (7, .int x7), (8, .int x8)]) (pc := 181) O dX3_fillRow_181 rfl rfl (ltb rfl) rfl ?_
        refine g_goto (tgt := 4) (pc := 184) O dX3_fillRow_184 rfl ?_
        refine g_sub [0, 1, 2, 3] rfl ?_
        exact H
  · replace H := H.2 q1
    refine g_aloadn (pc := 87) O rfl dX3_fillRow_87 ?_
    refine g_getS (pc := 88) O cls3 fl_X3_40 dX3_fillRow_88 rfl (ltb rfl) (ltb rfl) rfl rfl ?_
    refine g_iload (pc := 91) O rfl dX3_fillRow_91 ?_
    obtain ⟨j8, ej8, bj8, H⟩ := H
    refine g_iald (j := j8) (pc := 93) O dX3_fillRow_93 ej8 rfl (ltb rfl) bj8 (ltb rfl) rfl ?_
    refine g_aloadn (pc := 94) O rfl dX3_fillRow_94 ?_
    obtain ⟨b9, rb9, hb9, H⟩ := H
    refine g_getR (pc := 95) O cls3 fl_X3_47 dX3_fillRow_95 rfl (ltb rfl) (ltb rfl) rfl rfl rb9 ?_
    refine g_aloadn (pc := 98) O rfl dX3_fillRow_98 ?_
    refine g_getS (pc := 99) O cls3 fl_X3_37 dX3_fillRow_99 rfl (ltb rfl) (ltb rfl) rfl rfl ?_
    refine g_iload (pc := 102) O rfl dX3_fillRow_102 ?_
    obtain ⟨j10, ej10, bj10, H⟩ := H
    refine g_iald (j := j10) (pc := 104) O dX3_fillRow_104 ej10 rfl (ltb rfl) bj10 (ltb rfl) rfl ?_
    obtain ⟨j11, ej11, bj11, H⟩ := H
    refine g_iald (j := j11) (pc := 105) O dX3_fillRow_105 ej11 hb9 (lay_lt hb9 (by decide)) bj11 (ltb rfl) rfl ?_
    refine g_iload (pc := 106) O rfl dX3_fillRow_106 ?_
    refine g_iand (pc := 108) O dX3_fillRow_108 ?_
    refine g_if_eq (tgt := 116) (pc := 109) O dX3_fillRow_109 rfl (fun q12 => ?_) (fun q12 => ?_)
    · replace H := H.1 q12
      refine g_iconst (v := (I 0)) (pc := 116) O rfl dX3_fillRow_116 ?_
      refine g_iadd (pc := 117) O dX3_fillRow_117 ?_
      refine g_istore (lv' := [(0, .ref 26), (1, .int x1), (2, .int x2), (3, .int x3), (4, .int x4), (5, .int x5), (6, .int x6), (7, .int x7), (8, .int x8), (9, .int ((h.1 36 j8) + (I 0)))]) (pc := 118) O dX3_fillRow_118 (ltb rfl) rfl ?_
      refine g_aloadn (pc := 120) O rfl dX3_fillRow_120 ?_
      refine g_getT (pc := 121) O fl_X3_24 dX3_fillRow_121 (fun t13 et13 lt13 ut13 => ?_)
      refine g_iload (pc := 124) O rfl dX3_fillRow_124 ?_
      refine g_iload (pc := 126) O rfl dX3_fillRow_126 ?_
      refine g_iadd (pc := 128) O dX3_fillRow_128 ?_
      obtain ⟨j14, ej14, bj14, H⟩ := H
      refine g_tald (j := j14) (pc := 129) O dX3_fillRow_129 et13 ej14 bj14 rfl ?_
      refine g_iload (pc := 130) O rfl dX3_fillRow_130 ?_
      refine g_icmp_ge (tgt := 147) (pc := 132) O dX3_fillRow_132 rfl (fun q15 => ?_) (fun q15 => ?_)
      · replace H := H.1 q15
        refine g_iinc (lv' := [(0, .ref 26), (1, .int x1), (2, .int x2), (3, .int x3), (4, .int x4), (5, .int x5), (6, .int x6), (7, .int x7), (8, .int (x8 + I 1)), (9, .int ((h.1 36 j8) + (I 0)))]) (pc := 147) O dX3_fillRow_147 rfl rfl (ltb rfl) rfl ?_
        refine g_goto (tgt := 78) (pc := 150) O dX3_fillRow_150 rfl ?_
        refine g_sub [0, 1, 2, 3, 4, 5, 6, 7, 8] rfl ?_
        exact H
      · replace H := H.2 q15
        refine g_aloadn (pc := 135) O rfl dX3_fillRow_135 ?_
        refine g_getT (pc := 136) O fl_X3_24 dX3_fillRow_136 (fun t16 et16 lt16 ut16 => ?_)
        refine g_iload (pc := 139) O rfl dX3_fillRow_139 ?_
        refine g_iload (pc := 141) O rfl dX3_fillRow_141 ?_
        refine g_iadd (pc := 143) O dX3_fillRow_143 ?_
        obtain ⟨j17, ej17, bj17, H⟩ := H
        refine g_tald (j := j17) (pc := 144) O dX3_fillRow_144 et16 ej17 bj17 rfl ?_
        refine g_istore (lv' := [(0, .ref 26), (1, .int x1), (2, .int x2), (3, .int x3), (4, .int x4), (5, .int x5), (6, .int x6), (7, .int (h.1 31 j17)), (8, .int x8), (9, .int ((h.1 36 j8) + (I 0)))]) (pc := 145) O dX3_fillRow_145 (ltb rfl) rfl ?_
        refine g_iinc (lv' := [(0, .ref 26), (1, .int x1), (2, .int x2), (3, .int x3), (4, .int x4), (5, .int x5), (6, .int x6), (7, .int (h.1 31 j17)), (8, .int (x8 + I 1)), (9, .int ((h.1 36 j8) + (I 0)))]) (pc := 147) O dX3_fillRow_147 rfl rfl (ltb rfl) rfl ?_
        refine g_goto (tgt := 78) (pc := 150) O dX3_fillRow_150 rfl ?_
        refine g_sub [0, 1, 2, 3, 4, 5, 6, 7, 8] rfl ?_
        exact H
    · replace H := H.2 q12
      refine g_iconst (v := (I 1)) (pc := 112) O rfl dX3_fillRow_112 ?_
      refine g_goto (tgt := 117) (pc := 113) O dX3_fillRow_113 rfl ?_
      refine g_iadd (pc := 117) O dX3_fillRow_117 ?_
      refine g_istore (lv' := [(0, .ref 26), (1, .int x1), (2, .int x2), (3, .int x3), (4, .int x4), (5, .int x5), (6, .int x6), (7, .int x7), (8, .int x8), (9, .int ((h.1 36 j8) + (I 1)))]) (pc := 118) O dX3_fillRow_118 (ltb rfl) rfl ?_
      refine g_aloadn (pc := 120) O rfl dX3_fillRow_120 ?_
      refine g_getT (pc := 121) O fl_X3_24 dX3_fillRow_121 (fun t18 et18 lt18 ut18 => ?_)
      refine g_iload (pc := 124) O rfl dX3_fillRow_124 ?_
      refine g_iload (pc := 126) O rfl dX3_fillRow_126 ?_
      refine g_iadd (pc := 128) O dX3_fillRow_128 ?_
      obtain ⟨j19, ej19, bj19, H⟩ := H
      refine g_tald (j := j19) (pc := 129) O dX3_fillRow_129 et18 ej19 bj19 rfl ?_
      refine g_iload (pc := 130) O rfl dX3_fillRow_130 ?_
      refine g_icmp_ge (tgt := 147) (pc := 132) O dX3_fillRow_132 rfl (fun q20 => ?_) (fun q20 => ?_)
      · replace H := H.1 q20
        refine g_iinc (lv' := [(0, .ref 26), (1, .int x1), (2, .int x2), (3, .int x3), (4, .int x4), (5, .int x5), (6, .int x6), (7, .int x7), (8, .int (x8 + I 1)), (9, .int ((h.1 36 j8) + (I 1)))]) (pc := 147) O dX3_fillRow_147 rfl rfl (ltb rfl) rfl ?_
        refine g_goto (tgt := 78) (pc := 150) O dX3_fillRow_150 rfl ?_
        refine g_sub [0, 1, 2, 3, 4, 5, 6, 7, 8] rfl ?_
        exact H
      · replace H := H.2 q20
        refine g_aloadn (pc := 135) O rfl dX3_fillRow_135 ?_
        refine g_getT (pc := 136) O fl_X3_24 dX3_fillRow_136 (fun t21 et21 lt21 ut21 => ?_)
        refine g_iload (pc := 139) O rfl dX3_fillRow_139 ?_
        refine g_iload (pc := 141) O rfl dX3_fillRow_141 ?_
        refine g_iadd (pc := 143) O dX3_fillRow_143 ?_
        obtain ⟨j22, ej22, bj22, H⟩ := H
        refine g_tald (j := j22) (pc := 144) O dX3_fillRow_144 et21 ej22 bj22 rfl ?_
        refine g_istore (lv' := [(0, .ref 26), (1, .int x1), (2, .int x2), (3, .int x3), (4, .int x4), (5, .int x5), (6, .int x6), (7, .int (h.1 31 j22)), (8, .int x8), (9, .int ((h.1 36 j8) + (I 1)))]) (pc := 145) O dX3_fillRow_145 (ltb rfl) rfl ?_
        refine g_iinc (lv' := [(0, .ref 26), (1, .int x1), (2, .int x2), (3, .int x3), (4, .int x4), (5, .int x5), (6, .int x6), (7, .int (h.1 31 j22)), (8, .int (x8 + I 1)), (9, .int ((h.1 36 j8) + (I 1)))]) (pc := 147) O dX3_fillRow_147 rfl rfl (ltb rfl) rfl ?_
        refine g_goto (tgt := 78) (pc := 150) O dX3_fillRow_150 rfl ?_
        refine g_sub [0, 1, 2, 3, 4, 5, 6, 7, 8] rfl ?_
        exact H
set_option maxRecDepth 20000 in
set_option maxHeartbeats 2000000 in
theorem sX3_fillRow {g : mg} {l : Launch} {Q : AH → Prop} {x1 : Int32} {x2 : Int32} {h : AH} (H : ∀ X, Ok (FF g l X) RX3 cX3_fillRow 10 mX3_fillRow.2.2.2.2 none → GV g l X Q h 4 [(0, .ref 26), (1, .int x1), (2, .int x2), (3, .int (x2 - (I 1)))] []) : SpV g l mX3_fillRow h [.ref 26, .int x1, .int x2] Q := spV_of (by decide) (leb rfl) (fun X O => bX3_fillRow_0 O (H X O))
set_option maxRecDepth 20000 in
set_option maxHeartbeats 2000000 in
theorem bX3_walk_0 {g : mg} {l : Launch} {X : XT} {Q : AH → Prop} (O : Ok (FF g l X) RX3 cX3_walk 3 mX3_walk.2.2.2.2 none)  {h : AH} (H : GV g l X Q h 2 [(0, .ref 26), (1, .int (I 0))] []) : GV g l X Q h 0 [(0, .ref 26)] [] := by
  refine g_iconst (v := (I 0)) (pc := 0) O rfl dX3_walk_0 ?_
  refine g_istoren (lv' := [(0, .ref 26), (1, .int (I 0))]) (pc := 1) O dX3_walk_1 rfl (ltb rfl) rfl ?_
  exact H
set_option maxRecDepth 20000 in
set_option maxHeartbeats 2000000 in
theorem bX3_walk_2 {g : mg} {l : Launch} {X : XT} {Q : AH → Prop} (O : Ok (FF g l X) RX3 cX3_walk 3 mX3_walk.2.2.2.2 none) {x1 : Int32} {h : AH} (H : (((I 40) ≤ (h.1 26 0)) → (Q h)) ∧ ((¬ ((I 40) ≤ (h.1 26 0))) → (∃ j3 : Nat, x1 = I (j3 : Int) ∧ j3 < tLn h ∧ ((((h.1 31 j3) ≤ 0) → (Q h)) ∧ ((¬ ((h.1 31 j3) ≤ 0)) → (SpV g l mX3_look h [.ref 26, .int x1] (fun hv5 => SpI g l mX3_firstColour hv5 [.ref 26, .int x1] (fun v6 hv6 => ∃ j7 : Nat, (hv6.1 26 0) = I (j7 : Int) ∧ j7 < 40 ∧ (SpV g l mX3_paint (sI hv6 27 j7 v6) [.ref 26, .int v6] (fun hv8 => SpI g l mX3_strideOf (sI hv8 26 0 ((hv8.1 26 0) + (I 1))) [.ref 26, .int v6, .int (I 0)] (fun v9 hv9 => GV g l X Q hv9 2 [(0, .ref 26), (1, .int (x1 + v9))] []))))))))))) : GV g l X Q h 2 [(0, .ref 26), (1, .int x1)] [] := by
  refine g_aloadn (pc := 2) O rfl dX3_walk_2 ?_
  refine g_getI (v := h.1 26 0) (pc := 3) O cls3 fl_X3_65 dX3_walk_3 rfl (ltb rfl) (ltb rfl) rfl rfl ?_
  refine g_bipush (v := (I 40)) (pc := 6) O (by decide) dX3_walk_6 ?_
  refine g_icmp_ge (tgt := 68) (pc := 8) O dX3_walk_8 rfl (fun q1 => ?_) (fun q1 => ?_)
  · replace H := H.1 q1
    exact g_vret (pc := 68) O dX3_walk_68 H
  · replace H := H.2 q1
    refine g_aloadn (pc := 11) O rfl dX3_walk_11 ?_
    refine g_getT (pc := 12) O fl_X3_24 dX3_walk_12 (fun t2 et2 lt2 ut2 => ?_)
    refine g_iloadn (pc := 15) O rfl dX3_walk_15 ?_
    obtain ⟨j3, ej3, bj3, H⟩ := H
    refine g_tald (j := j3) (pc := 16) O dX3_walk_16 et2 ej3 bj3 rfl ?_
    refine g_if_le (tgt := 68) (pc := 17) O dX3_walk_17 rfl (fun q4 => ?_) (fun q4 => ?_)
    · replace H := H.1 q4
      exact g_vret (pc := 68) O dX3_walk_68 H
    · replace H := H.2 q4
      refine g_aloadn (pc := 20) O rfl dX3_walk_20 ?_
      refine g_iloadn (pc := 21) O rfl dX3_walk_21 ?_
      refine g_vV [.int x1] [] (pc := 22) O mk_X3_look ml_X3_70 im_X3_look se_X3_look cls3 rfl ⟨rfl, rfl, leb rfl, leb rfl⟩ rfl (leb rfl) dX3_walk_22 H rfl (fun hv5 H => ?_)
      refine g_aloadn (pc := 25) O rfl dX3_walk_25 ?_
      refine g_iloadn (pc := 26) O rfl dX3_walk_26 ?_
      refine g_vI [.int x1] [] (pc := 27) O mk_X3_firstColour ml_X3_99 im_X3_firstColour se_X3_firstColour cls3 rfl ⟨rfl, rfl, leb rfl, leb rfl⟩ rfl (leb rfl) dX3_walk_27 H rfl (fun v6 hv6 H => ?_)
      refine g_istoren (lv' := [(0, .ref 26), (1, .int x1), (2, .int v6)]) (pc := 30) O dX3_walk_30 rfl (ltb rfl) rfl ?_
      refine g_aloadn (pc := 31) O rfl dX3_walk_31 ?_
      refine g_getS (pc := 32) O cls3 fl_X3_9 dX3_walk_32 rfl (ltb rfl) (ltb rfl) rfl rfl ?_
      refine g_aloadn (pc := 35) O rfl dX3_walk_35 ?_
      refine g_getI (v := hv6.1 26 0) (pc := 36) O cls3 fl_X3_65 dX3_walk_36 rfl (ltb rfl) (ltb rfl) rfl rfl ?_
      refine g_iloadn (pc := 39) O rfl dX3_walk_39 ?_
      obtain ⟨j7, ej7, bj7, H⟩ := H
      refine g_iast (j := j7) (pc := 40) O dX3_walk_40 ej7 rfl (ltb rfl) (leb rfl) bj7 (ltb rfl) ?_
      refine g_aloadn (pc := 41) O rfl dX3_walk_41 ?_
      refine g_iloadn (pc := 42) O rfl dX3_walk_42 ?_
      refine g_vV [.int v6] [] (pc := 43) O mk_X3_paint ml_X3_103 im_X3_paint se_X3_paint cls3 rfl ⟨rfl, rfl, leb rfl, leb rfl⟩ rfl (leb rfl) dX3_walk_43 H rfl (fun hv8 H => ?_)
      refine g_aloadn (pc := 46) O rfl dX3_walk_46 ?_
      refine g_dup (pc := 47) O rfl dX3_walk_47 ?_
      refine g_getI (v := hv8.1 26 0) (pc := 48) O cls3 fl_X3_65 dX3_walk_48 rfl (ltb rfl) (ltb rfl) rfl rfl ?_
      refine g_iconst (v := (I 1)) (pc := 51) O rfl dX3_walk_51 ?_
      refine g_iadd (pc := 52) O dX3_walk_52 ?_
      refine g_putI (pc := 53) O cls3 fl_X3_65 dX3_walk_53 rfl (ltb rfl) (leb rfl) (ltb rfl) rfl rfl (by decide +kernel) ?_
      refine g_iloadn (pc := 56) O rfl dX3_walk_56 ?_
      refine g_aloadn (pc := 57) O rfl dX3_walk_57 ?_
      refine g_iloadn (pc := 58) O rfl dX3_walk_58 ?_
      refine g_iconst (v := (I 0)) (pc := 59) O rfl dX3_walk_59 ?_
      refine g_vI [.int v6, .int (I 0)] [.int x1] (pc := 60) O mk_X3_strideOf ml_X3_95 im_X3_strideOf se_X3_strideOf cls3 rfl ⟨rfl, rfl, leb rfl, leb rfl⟩ rfl (leb rfl) dX3_walk_60 H rfl (fun v9 hv9 H => ?_)
      refine g_iadd (pc := 63) O dX3_walk_63 ?_
      refine g_istoren (lv' := [(0, .ref 26), (1, .int (x1 + v9)), (2, .int v6)]) (pc := 64) O dX3_walk_64 rfl (ltb rfl) rfl ?_
      refine g_goto (tgt := 2) (pc := 65) O dX3_walk_65 rfl ?_
      refine g_sub [0, 1] rfl ?_
      exact H
set_option maxRecDepth 20000 in
set_option maxHeartbeats 2000000 in
theorem sX3_walk {g : mg} {l : Launch} {Q : AH → Prop}  {h : AH} (H : ∀ X, Ok (FF g l X) RX3 cX3_walk 3 mX3_walk.2.2.2.2 none → GV g l X Q h 2 [(0, .ref 26), (1, .int (I 0))] []) : SpV g l mX3_walk h [.ref 26] Q := spV_of (by decide) (leb rfl) (fun X O => bX3_walk_0 O (H X O))
set_option maxRecDepth 20000 in
set_option maxHeartbeats 2000000 in
theorem bX3_firstColour_0 {g : mg} {l : Launch} {X : XT} {Q : Int32 → AH → Prop} (O : Ok (FF g l X) RX3 cX3_firstColour 4 mX3_firstColour.2.2.2.2 (some .int)) {x1 : Int32} {h : AH} (H : GI g l X Q h 2 [(0, .ref 26), (1, .int x1), (2, .int (I 0))] []) : GI g l X Q h 0 [(0, .ref 26), (1, .int x1)] [] := by
  refine g_iconst (v := (I 0)) (pc := 0) O rfl dX3_firstColour_0 ?_
  refine g_istoren (lv' := [(0, .ref 26), (1, .int x1), (2, .int (I 0))]) (pc := 1) O dX3_firstColour_1 rfl (ltb rfl) rfl ?_
  exact H
set_option maxRecDepth 20000 in
set_option maxHeartbeats 2000000 in
theorem bX3_firstColour_2 {g : mg} {l : Launch} {X : XT} {Q : Int32 → AH → Prop} (O : Ok (FF g l X) RX3 cX3_firstColour 4 mX3_firstColour.2.2.2.2 (some .int)) {x1 : Int32} {x2 : Int32} {h : AH} (H : (((I 12) ≤ x2) → (Q (I 0) h)) ∧ ((¬ ((I 12) ≤ x2)) → (SpI g l mX3_strideOf h [.ref 26, .int x2, .int (I 0)] (fun v2 hv2 => ((v2 ≤ 0) → (GI g l X Q hv2 2 [(0, .ref 26), (1, .int x1), (2, .int (x2 + I 1))] [])) ∧ ((¬ (v2 ≤ 0)) → (∃ j5 : Nat, (x1 + v2) = I (j5 : Int) ∧ j5 < tLn hv2 ∧ (∃ j7 : Nat, x1 = I (j7 : Int) ∧ j7 < tLn hv2 ∧ (((¬ (hv2.1 31 j5) = ((hv2.1 31 j7) - (I 1))) → (GI g l X Q hv2 2 [(0, .ref 26), (1, .int x1), (2, .int (x2 + I 1))] [])) ∧ (((hv2.1 31 j5) = ((hv2.1 31 j7) - (I 1))) → (Q x2 hv2)))))))))) : GI g l X Q h 2 [(0, .ref 26), (1, .int x1), (2, .int x2)] [] := by
  refine g_iloadn (pc := 2) O rfl dX3_firstColour_2 ?_
  refine g_bipush (v := (I 12)) (pc := 3) O (by decide) dX3_firstColour_3 ?_
  refine g_icmp_ge (tgt := 46) (pc := 5) O dX3_firstColour_5 rfl (fun q1 => ?_) (fun q1 => ?_)
  · replace H := H.1 q1
    refine g_iconst (v := (I 0)) (pc := 46) O rfl dX3_firstColour_46 ?_
    exact g_iret (pc := 47) O dX3_firstColour_47 H
  · replace H := H.2 q1
    refine g_aloadn (pc := 8) O rfl dX3_firstColour_8 ?_
    refine g_iloadn (pc := 9) O rfl dX3_firstColour_9 ?_
    refine g_iconst (v := (I 0)) (pc := 10) O rfl dX3_firstColour_10 ?_
    refine g_vI [.int x2, .int (I 0)] [] (pc := 11) O mk_X3_strideOf ml_X3_95 im_X3_strideOf se_X3_strideOf cls3 rfl ⟨rfl, rfl, leb rfl, leb rfl⟩ rfl (leb rfl) dX3_firstColour_11 H rfl (fun v2 hv2 H => ?_)
    refine g_istoren (lv' := [(0, .ref 26), (1, .int x1), (2, .int x2), (3, .int v2)]) (pc := 14) O dX3_firstColour_14 rfl (ltb rfl) rfl ?_
    refine g_iloadn (pc := 15) O rfl dX3_firstColour_15 ?_
    refine g_if_le (tgt := 40) (pc := 16) O dX3_firstColour_16 rfl (fun q3 => ?_) (fun q3 => ?_)
    · replace H := H.1 q3
      refine g_iinc (lv' := [(0, .ref 26), (1, .int x1), (2, .int (x2 + I 1)), (3, .int v2)]) (pc := 40) O dX3_firstColour_40 rfl rfl (ltb rfl) rfl ?_
      refine g_goto (tgt := 2) (pc := 43) O dX3_firstColour_43 rfl ?_
      refine g_sub [0, 1, 2] rfl ?_
      exact H
    · replace H := H.2 q3
      refine g_aloadn (pc := 19) O rfl dX3_firstColour_19 ?_
      refine g_getT (pc := 20) O fl_X3_24 dX3_firstColour_20 (fun t4 et4 lt4 ut4 => ?_)
      refine g_iloadn (pc := 23) O rfl dX3_firstColour_23 ?_
      refine g_iloadn (pc := 24) O rfl dX3_firstColour_24 ?_
      refine g_iadd (pc := 25) O dX3_firstColour_25 ?_
      obtain ⟨j5, ej5, bj5, H⟩ := H
      refine g_tald (j := j5) (pc := 26) O dX3_firstColour_26 et4 ej5 bj5 rfl ?_
      refine g_aloadn (pc := 27) O rfl dX3_firstColour_27 ?_
      refine g_getT (pc := 28) O fl_X3_24 dX3_firstColour_28 (fun t6 et6 lt6 ut6 => ?_)
      refine g_iloadn (pc := 31) O rfl dX3_firstColour_31 ?_
      obtain ⟨j7, ej7, bj7, H⟩ := H
      refine g_tald (j := j7) (pc := 32) O dX3_firstColour_32 et6 ej7 bj7 rfl ?_
      refine g_iconst (v := (I 1)) (pc := 33) O rfl dX3_firstColour_33 ?_
      refine g_isub (pc := 34) O dX3_firstColour_34 ?_
      refine g_icmp_ne (tgt := 40) (pc := 35) O dX3_firstColour_35 rfl (fun q8 => ?_) (fun q8 => ?_)
      · replace H := H.1 q8
        refine g_iinc (lv' := [(0, .ref 26), (1, .int x1), (2, .int (x2 + I 1)), (3, .int v2)]) (pc := 40) O dX3_firstColour_40 rfl rfl (ltb rfl) rfl ?_
        refine g_goto (tgt := 2) (pc := 43) O dX3_firstColour_43 rfl ?_
        refine g_sub [0, 1, 2] rfl ?_
        exact H
      · replace H := H.2 q8
        refine g_iloadn (pc := 38) O rfl dX3_firstColour_38 ?_
        exact g_iret (pc := 39) O dX3_firstColour_39 H
set_option maxRecDepth 20000 in
set_option maxHeartbeats 2000000 in
theorem sX3_firstColour {g : mg} {l : Launch} {Q : Int32 → AH → Prop} {x1 : Int32} {h : AH} (H : ∀ X, Ok (FF g l X) RX3 cX3_firstColour 4 mX3_firstColour.2.2.2.2 (some .int) → GI g l X Q h 2 [(0, .ref 26), (1, .int x1), (2, .int (I 0))] []) : SpI g l mX3_firstColour h [.ref 26, .int x1] Q := spI_of (by decide) (leb rfl) (fun X O => bX3_firstColour_0 O (H X O))
set_option maxRecDepth 20000 in
set_option maxHeartbeats 2000000 in
theorem bX3_paint_0 {g : mg} {l : Launch} {X : XT} {Q : AH → Prop} (O : Ok (FF g l X) RX3 cX3_paint 3 mX3_paint.2.2.2.2 none) {x1 : Int32} {h : AH} (H : ∃ j1 : Nat, (h.1 26 0) = I (j1 : Int) ∧ j1 < 40 ∧ (∃ j2 : Nat, (h.1 26 0) = I (j2 : Int) ∧ j2 < 40 ∧ (GV g l X Q (sI (sI h 28 j1 (I 0)) 29 j2 (I 0)) 22 [(0, .ref 26), (1, .int x1), (2, .int (I 0))] []))) : GV g l X Q h 0 [(0, .ref 26), (1, .int x1)] [] := by
  refine g_aloadn (pc := 0) O rfl dX3_paint_0 ?_
  refine g_getS (pc := 1) O cls3 fl_X3_15 dX3_paint_1 rfl (ltb rfl) (ltb rfl) rfl rfl ?_
  refine g_aloadn (pc := 4) O rfl dX3_paint_4 ?_
  refine g_getI (v := h.1 26 0) (pc := 5) O cls3 fl_X3_65 dX3_paint_5 rfl (ltb rfl) (ltb rfl) rfl rfl ?_
  refine g_iconst (v := (I 0)) (pc := 8) O rfl dX3_paint_8 ?_
  obtain ⟨j1, ej1, bj1, H⟩ := H
  refine g_iast (j := j1) (pc := 9) O dX3_paint_9 ej1 rfl (ltb rfl) (leb rfl) bj1 (ltb rfl) ?_
  refine g_aloadn (pc := 10) O rfl dX3_paint_10 ?_
  refine g_getS (pc := 11) O cls3 fl_X3_18 dX3_paint_11 rfl (ltb rfl) (ltb rfl) rfl rfl ?_
  refine g_aloadn (pc := 14) O rfl dX3_paint_14 ?_
  refine g_getI (v := h.1 26 0) (pc := 15) O cls3 fl_X3_65 dX3_paint_15 rfl (ltb rfl) (ltb rfl) rfl rfl ?_
  refine g_iconst (v := (I 0)) (pc := 18) O rfl dX3_paint_18 ?_
  obtain ⟨j2, ej2, bj2, H⟩ := H
  refine g_iast (j := j2) (pc := 19) O dX3_paint_19 ej2 rfl (ltb rfl) (leb rfl) bj2 (ltb rfl) ?_
  refine g_iconst (v := (I 0)) (pc := 20) O rfl dX3_paint_20 ?_
  refine g_istoren (lv' := [(0, .ref 26), (1, .int x1), (2, .int (I 0))]) (pc := 21) O dX3_paint_21 rfl (ltb rfl) rfl ?_
  exact H
set_option maxRecDepth 20000 in
set_option maxHeartbeats 2000000 in
theorem bX3_paint_22 {g : mg} {l : Launch} {X : XT} {Q : AH → Prop} (O : Ok (FF g l X) RX3 cX3_paint 3 mX3_paint.2.2.2.2 none) {x1 : Int32} {x2 : Int32} {h : AH} (H : ∃ b1 : Nat, h.2.2 26 12 = some b1 ∧ lay b1 = (4, 3) ∧ ((((h.1 b1 1) ≤ x2) → (Q h)) ∧ ((¬ ((h.1 b1 1) ≤ x2)) → (∃ b3 : Nat, h.2.2 26 13 = some b3 ∧ lay b3 = (100, 12) ∧ (∃ j4 : Nat, x1 = I (j4 : Int) ∧ j4 < 12 ∧ (∃ j5 : Nat, x2 = I (j5 : Int) ∧ j5 < 4 ∧ (((((h.1 b3 j4) &&& (h.1 34 j5)) = 0) → (GV g l X Q h 22 [(0, .ref 26), (1, .int x1), (2, .int (x2 + I 1))] [])) ∧ ((¬ (((h.1 b3 j4) &&& (h.1 34 j5)) = 0)) → (∃ j7 : Nat, (h.1 26 0) = I (j7 : Int) ∧ j7 < 40 ∧ (∃ j8 : Nat, (h.1 26 0) = I (j8 : Int) ∧ j8 < 40 ∧ (∃ j9 : Nat, (h.1 26 0) = I (j9 : Int) ∧ j9 < 40 ∧ (∃ b10 : Nat, h.2.2 26 12 = some b10 ∧ lay b10 = (4, 3) ∧ (∃ j11 : Nat, x2 = I (j11 : Int) ∧ j11 < 4 ∧ (∃ b12 : Nat, h.2.2 (b10 + 1) j11 = some b12 ∧ lay b12 = (1, 5) ∧ (∃ j13 : Nat, x2 = I (j13 : Int) ∧ j13 < 4 ∧ (∃ j14 : Nat, (h.1 33 j13) = I (j14 : Int) ∧ j14 < 10 ∧ (∃ j15 : Nat, (h.1 26 0) = I (j15 : Int) ∧ j15 < 40 ∧ (∃ j16 : Nat, x2 = I (j16 : Int) ∧ j16 < 4 ∧ (∃ j17 : Nat, ((x2 * (I 10)) + (h.1 33 j16)) = I (j17 : Int) ∧ j17 < 40 ∧ (GV g l X Q (sI (sI (sI h 28 j8 ((h.1 28 j7) ||| ((I 1) <<< (x2 &&& 31)))) 29 j15 (if (h.1 29 j9) < ((sI h 28 j8 ((h.1 28 j7) ||| ((I 1) <<< (x2 &&& 31)))).1 (b12 + 2) j14) then ((sI h 28 j8 ((h.1 28 j7) ||| ((I 1) <<< (x2 &&& 31)))).1 (b12 + 2) j14) else (h.1 29 j9))) 30 j17 (h.1 26 0)) 22 [(0, .ref 26), (1, .int x1), (2, .int (x2 + I 1))] [])))))))))))))))))))) : GV g l X Q h 22 [(0, .ref 26), (1, .int x1), (2, .int x2)] [] := by
  refine g_iloadn (pc := 22) O rfl dX3_paint_22 ?_
  refine g_aloadn (pc := 23) O rfl dX3_paint_23 ?_
  obtain ⟨b1, rb1, hb1, H⟩ := H
  refine g_getR (pc := 24) O cls3 fl_X3_43 dX3_paint_24 rfl (ltb rfl) (ltb rfl) rfl rfl rb1 ?_
  refine g_getI (v := h.1 b1 1) (pc := 27) O cls4 fl_X3_50 dX3_paint_27 hb1 (lay_lt hb1 (by decide)) (ltb rfl) rfl rfl ?_
  refine g_icmp_ge (tgt := 130) (pc := 30) O dX3_paint_30 rfl (fun q2 => ?_) (fun q2 => ?_)
  · replace H := H.1 q2
    exact g_vret (pc := 130) O dX3_paint_130 H
  · replace H := H.2 q2
    refine g_aloadn (pc := 33) O rfl dX3_paint_33 ?_
    obtain ⟨b3, rb3, hb3, H⟩ := H
    refine g_getR (pc := 34) O cls3 fl_X3_47 dX3_paint_34 rfl (ltb rfl) (ltb rfl) rfl rfl rb3 ?_
    refine g_iloadn (pc := 37) O rfl dX3_paint_37 ?_
    obtain ⟨j4, ej4, bj4, H⟩ := H
    refine g_iald (j := j4) (pc := 38) O dX3_paint_38 ej4 hb3 (lay_lt hb3 (by decide)) bj4 (ltb rfl) rfl ?_
    refine g_aloadn (pc := 39) O rfl dX3_paint_39 ?_
    refine g_getS (pc := 40) O cls3 fl_X3_34 dX3_paint_40 rfl (ltb rfl) (ltb rfl) rfl rfl ?_
    refine g_iloadn (pc := 43) O rfl dX3_paint_43 ?_
    obtain ⟨j5, ej5, bj5, H⟩ := H
    refine g_iald (j := j5) (pc := 44) O dX3_paint_44 ej5 rfl (ltb rfl) bj5 (ltb rfl) rfl ?_
    refine g_iand (pc := 45) O dX3_paint_45 ?_
    refine g_if_eq (tgt := 124) (pc := 46) O dX3_paint_46 rfl (fun q6 => ?_) (fun q6 => ?_)
    · replace H := H.1 q6
      refine g_iinc (lv' := [(0, .ref 26), (1, .int x1), (2, .int (x2 + I 1))]) (pc := 124) O dX3_paint_124 rfl rfl (ltb rfl) rfl ?_
      refine g_goto (tgt := 22) (pc := 127) O dX3_paint_127 rfl ?_
      exact H
    · replace H := H.2 q6
      refine g_aloadn (pc := 49) O rfl dX3_paint_49 ?_
      refine g_getS (pc := 50) O cls3 fl_X3_15 dX3_paint_50 rfl (ltb rfl) (ltb rfl) rfl rfl ?_
      refine g_aloadn (pc := 53) O rfl dX3_paint_53 ?_
      refine g_getI (v := h.1 26 0) (pc := 54) O cls3 fl_X3_65 dX3_paint_54 rfl (ltb rfl) (ltb rfl) rfl rfl ?_
      refine g_dup2 (pc := 57) O rfl rfl dX3_paint_57 ?_
      obtain ⟨j7, ej7, bj7, H⟩ := H
      refine g_iald (j := j7) (pc := 58) O dX3_paint_58 ej7 rfl (ltb rfl) bj7 (ltb rfl) rfl ?_
      refine g_iconst (v := (I 1)) (pc := 59) O rfl dX3_paint_59 ?_
      refine g_iloadn (pc := 60) O rfl dX3_paint_60 ?_
      refine g_ishl (pc := 61) O dX3_paint_61 ?_
      refine g_ior (pc := 62) O dX3_paint_62 ?_
      obtain ⟨j8, ej8, bj8, H⟩ := H
      refine g_iast (j := j8) (pc := 63) O dX3_paint_63 ej8 rfl (ltb rfl) (leb rfl) bj8 (ltb rfl) ?_
      refine g_aloadn (pc := 64) O rfl dX3_paint_64 ?_
      refine g_getS (pc := 65) O cls3 fl_X3_18 dX3_paint_65 rfl (ltb rfl) (ltb rfl) rfl rfl ?_
      refine g_aloadn (pc := 68) O rfl dX3_paint_68 ?_
      refine g_getI (v := h.1 26 0) (pc := 69) O cls3 fl_X3_65 dX3_paint_69 rfl (ltb rfl) (ltb rfl) rfl rfl ?_
      refine g_aloadn (pc := 72) O rfl dX3_paint_72 ?_
      refine g_getS (pc := 73) O cls3 fl_X3_18 dX3_paint_73 rfl (ltb rfl) (ltb rfl) rfl rfl ?_
      refine g_aloadn (pc := 76) O rfl dX3_paint_76 ?_
      refine g_getI (v := h.1 26 0) (pc := 77) O cls3 fl_X3_65 dX3_paint_77 rfl (ltb rfl) (ltb rfl) rfl rfl ?_
      obtain ⟨j9, ej9, bj9, H⟩ := H
      refine g_iald (j := j9) (pc := 80) O dX3_paint_80 ej9 rfl (ltb rfl) bj9 (ltb rfl) rfl ?_
      refine g_aloadn (pc := 81) O rfl dX3_paint_81 ?_
      obtain ⟨b10, rb10, hb10, H⟩ := H
      refine g_getR (pc := 82) O cls3 fl_X3_43 dX3_paint_82 rfl (ltb rfl) (ltb rfl) rfl rfl rb10 ?_
      refine g_getS (pc := 85) O cls4 fl_X3_56 dX3_paint_85 hb10 (lay_lt hb10 (by decide)) (ltb rfl) rfl (sr_shelf0 hb10) ?_
      refine g_iloadn (pc := 88) O rfl dX3_paint_88 ?_
      obtain ⟨j11, ej11, bj11, H⟩ := H
      obtain ⟨b12, rb12, hb12, H⟩ := H
      refine g_aald (t := 0) (j := j11) (pc := 89) O dX3_paint_89 ej11 (ltb rfl) (lay_shelf0 hb10) (lay_lt (lay_shelf0 hb10) (by decide)) bj11 (ltb rfl) rb12 ?_
      refine g_getS (pc := 90) O cls1 fl_X3_106 dX3_paint_90 hb12 (lay_lt hb12 (by decide)) (ltb rfl) rfl (sr_chip1 hb12) ?_
      refine g_aloadn (pc := 93) O rfl dX3_paint_93 ?_
      refine g_getS (pc := 94) O cls3 fl_X3_31 dX3_paint_94 rfl (ltb rfl) (ltb rfl) rfl rfl ?_
      refine g_iloadn (pc := 97) O rfl dX3_paint_97 ?_
      obtain ⟨j13, ej13, bj13, H⟩ := H
      refine g_iald (j := j13) (pc := 98) O dX3_paint_98 ej13 rfl (ltb rfl) bj13 (ltb rfl) rfl ?_
      obtain ⟨j14, ej14, bj14, H⟩ := H
      refine g_iald (j := j14) (pc := 99) O dX3_paint_99 ej14 (lay_chip1 hb12) (lay_lt (lay_chip1 hb12) (by decide)) bj14 (ltb rfl) rfl ?_
      refine g_mmax (pc := 100) O ml_X3_83 ⟨leb rfl, leb rfl⟩ (leb rfl) dX3_paint_100 ?_
      obtain ⟨j15, ej15, bj15, H⟩ := H
      refine g_iast (j := j15) (pc := 103) O dX3_paint_103 ej15 rfl (ltb rfl) (leb rfl) bj15 (ltb rfl) ?_
      refine g_aloadn (pc := 104) O rfl dX3_paint_104 ?_
      refine g_getS (pc := 105) O cls3 fl_X3_21 dX3_paint_105 rfl (ltb rfl) (ltb rfl) rfl rfl ?_
      refine g_iloadn (pc := 108) O rfl dX3_paint_108 ?_
      refine g_bipush (v := (I 10)) (pc := 109) O (by decide) dX3_paint_109 ?_
      refine g_imul (pc := 111) O dX3_paint_111 ?_
      refine g_aloadn (pc := 112) O rfl dX3_paint_112 ?_
      refine g_getS (pc := 113) O cls3 fl_X3_31 dX3_paint_113 rfl (ltb rfl) (ltb rfl) rfl rfl ?_
      refine g_iloadn (pc := 116) O rfl dX3_paint_116 ?_
      obtain ⟨j16, ej16, bj16, H⟩ := H
      refine g_iald (j := j16) (pc := 117) O dX3_paint_117 ej16 rfl (ltb rfl) bj16 (ltb rfl) rfl ?_
      refine g_iadd (pc := 118) O dX3_paint_118 ?_
      refine g_aloadn (pc := 119) O rfl dX3_paint_119 ?_
      refine g_getI (v := h.1 26 0) (pc := 120) O cls3 fl_X3_65 dX3_paint_120 rfl (ltb rfl) (ltb rfl) rfl rfl ?_
      obtain ⟨j17, ej17, bj17, H⟩ := H
      refine g_iast (j := j17) (pc := 123) O dX3_paint_123 ej17 rfl (ltb rfl) (leb rfl) bj17 (ltb rfl) ?_
      refine g_iinc (lv' := [(0, .ref 26), (1, .int x1), (2, .int (x2 + I 1))]) (pc := 124) O dX3_paint_124 rfl rfl (ltb rfl) rfl ?_
      refine g_goto (tgt := 22) (pc := 127) O dX3_paint_127 rfl ?_
      exact H
set_option maxRecDepth 20000 in
set_option maxHeartbeats 2000000 in
theorem sX3_paint {g : mg} {l : Launch} {Q : AH → Prop} {x1 : Int32} {h : AH} (H : ∀ X, Ok (FF g l X) RX3 cX3_paint 3 mX3_paint.2.2.2.2 none → ∃ j1 : Nat, (h.1 26 0) = I (j1 : Int) ∧ j1 < 40 ∧ (∃ j2 : Nat, (h.1 26 0) = I (j2 : Int) ∧ j2 < 40 ∧ (GV g l X Q (sI (sI h 28 j1 (I 0)) 29 j2 (I 0)) 22 [(0, .ref 26), (1, .int x1), (2, .int (I 0))] []))) : SpV g l mX3_paint h [.ref 26, .int x1] Q := spV_of (by decide) (leb rfl) (fun X O => bX3_paint_0 O (H X O))
set_option maxRecDepth 20000 in
set_option maxHeartbeats 2000000 in
theorem bX3_look_0 {g : mg} {l : Launch} {X : XT} {Q : AH → Prop} (O : Ok (FF g l X) RX3 cX3_look 6 mX3_look.2.2.2.2 none) {x1 : Int32} {h : AH} (H : GV g l X Q h 4 [(0, .ref 26), (2, .int x1), (3, .int (I 0))] []) : GV g l X Q h 0 [(0, .ref 26), (1, .int x1)] [] := by
  refine g_iloadn (pc := 0) O rfl dX3_look_0 ?_
  refine g_istoren (lv' := [(0, .ref 26), (1, .int x1), (2, .int x1)]) (pc := 1) O dX3_look_1 rfl (ltb rfl) rfl ?_
  refine g_iconst (v := (I 0)) (pc := 2) O rfl dX3_look_2 ?_
  refine g_istoren (lv' := [(0, .ref 26), (1, .int x1), (2, .int x1), (3, .int (I 0))]) (pc := 3) O dX3_look_3 rfl (ltb rfl) rfl ?_
  refine g_sub [0, 2, 3] rfl ?_
  exact H
set_option maxRecDepth 20000 in
set_option maxHeartbeats 2000000 in
theorem bX3_look_4 {g : mg} {l : Launch} {X : XT} {Q : AH → Prop} (O : Ok (FF g l X) RX3 cX3_look 6 mX3_look.2.2.2.2 none) {x2 : Int32} {x3 : Int32} {h : AH} (H : ∃ b1 : Nat, h.2.2 26 12 = some b1 ∧ lay b1 = (4, 3) ∧ ((((h.1 b1 1) ≤ x3) → (Q h)) ∧ ((¬ ((h.1 b1 1) ≤ x3)) → (∃ b3 : Nat, h.2.2 26 12 = some b3 ∧ lay b3 = (4, 3) ∧ (∃ j4 : Nat, x3 = I (j4 : Int) ∧ j4 < 4 ∧ (∃ b5 : Nat, h.2.2 (b3 + 1) j4 = some b5 ∧ lay b5 = (1, 5) ∧ (¬ (if (I 1) < ((h.1 b5 3) + (I 1)) then ((h.1 b5 3) + (I 1)) else (I 1)) = 0 ∧ (∃ j6 : Nat, x3 = I (j6 : Int) ∧ j6 < 4 ∧ (¬ (if (I 1) < ((h.1 b5 3) + (I 1)) then ((h.1 b5 3) + (I 1)) else (I 1)) = 0 ∧ (∃ j7 : Nat, x3 = I (j7 : Int) ∧ j7 < 4 ∧ (((((sI h 33 j6 (x2 - x2 / (if (I 1) < ((h.1 b5 3) + (I 1)) then ((h.1 b5 3) + (I 1)) else (I 1)) * (if (I 1) < ((h.1 b5 3) + (I 1)) then ((h.1 b5 3) + (I 1)) else (I 1)))).1 b5 3) ≤ ((sI h 33 j6 (x2 - x2 / (if (I 1) < ((h.1 b5 3) + (I 1)) then ((h.1 b5 3) + (I 1)) else (I 1)) * (if (I 1) < ((h.1 b5 3) + (I 1)) then ((h.1 b5 3) + (I 1)) else (I 1)))).1 33 j7)) → (∃ j9 : Nat, x3 = I (j9 : Int) ∧ j9 < 4 ∧ (GV g l X Q (sI (sI h 33 j6 (x2 - x2 / (if (I 1) < ((h.1 b5 3) + (I 1)) then ((h.1 b5 3) + (I 1)) else (I 1)) * (if (I 1) < ((h.1 b5 3) + (I 1)) then ((h.1 b5 3) + (I 1)) else (I 1)))) 34 j9 (I 0)) 4 [(0, .ref 26), (2, .int (x2 / (if (I 1) < ((h.1 b5 3) + (I 1)) then ((h.1 b5 3) + (I 1)) else (I 1)))), (3, .int (x3 + I 1))] []))) ∧ ((¬ (((sI h 33 j6 (x2 - x2 / (if (I 1) < ((h.1 b5 3) + (I 1)) then ((h.1 b5 3) + (I 1)) else (I 1)) * (if (I 1) < ((h.1 b5 3) + (I 1)) then ((h.1 b5 3) + (I 1)) else (I 1)))).1 b5 3) ≤ ((sI h 33 j6 (x2 - x2 / (if (I 1) < ((h.1 b5 3) + (I 1)) then ((h.1 b5 3) + (I 1)) else (I 1)) * (if (I 1) < ((h.1 b5 3) + (I 1)) then ((h.1 b5 3) + (I 1)) else (I 1)))).1 33 j7))) → (∃ j10 : Nat, x3 = I (j10 : Int) ∧ j10 < 4 ∧ (∃ j11 : Nat, ((sI h 33 j6 (x2 - x2 / (if (I 1) < ((h.1 b5 3) + (I 1)) then ((h.1 b5 3) + (I 1)) else (I 1)) * (if (I 1) < ((h.1 b5 3) + (I 1)) then ((h.1 b5 3) + (I 1)) else (I 1)))).1 33 j10) = I (j11 : Int) ∧ j11 < 10 ∧ (∃ j12 : Nat, x3 = I (j12 : Int) ∧ j12 < 4 ∧ (GV g l X Q (sI (sI h 33 j6 (x2 - x2 / (if (I 1) < ((h.1 b5 3) + (I 1)) then ((h.1 b5 3) + (I 1)) else (I 1)) * (if (I 1) < ((h.1 b5 3) + (I 1)) then ((h.1 b5 3) + (I 1)) else (I 1)))) 34 j12 ((I 1) <<< (((sI h 33 j6 (x2 - x2 / (if (I 1) < ((h.1 b5 3) + (I 1)) then ((h.1 b5 3) + (I 1)) else (I 1)) * (if (I 1) < ((h.1 b5 3) + (I 1)) then ((h.1 b5 3) + (I 1)) else (I 1)))).1 (b5 + 1) j11) &&& 31))) 4 [(0, .ref 26), (2, .int (x2 / (if (I 1) < ((h.1 b5 3) + (I 1)) then ((h.1 b5 3) + (I 1)) else (I 1)))), (3, .int (x3 + I 1))] [])))))))))))))))) : GV g l X Q h 4 [(0, .ref 26), (2, .int x2), (3, .int x3)] [] := by
  refine g_iloadn (pc := 4) O rfl dX3_look_4 ?_
  refine g_aloadn (pc := 5) O rfl dX3_look_5 ?_
  obtain ⟨b1, rb1, hb1, H⟩ := H
  refine g_getR (pc := 6) O cls3 fl_X3_43 dX3_look_6 rfl (ltb rfl) (ltb rfl) rfl rfl rb1 ?_
  refine g_getI (v := h.1 b1 1) (pc := 9) O cls4 fl_X3_50 dX3_look_9 hb1 (lay_lt hb1 (by decide)) (ltb rfl) rfl rfl ?_
  refine g_icmp_ge (tgt := 98) (pc := 12) O dX3_look_12 rfl (fun q2 => ?_) (fun q2 => ?_)
  · replace H := H.1 q2
    exact g_vret (pc := 98) O dX3_look_98 H
  · replace H := H.2 q2
    refine g_aloadn (pc := 15) O rfl dX3_look_15 ?_
    obtain ⟨b3, rb3, hb3, H⟩ := H
    refine g_getR (pc := 16) O cls3 fl_X3_43 dX3_look_16 rfl (ltb rfl) (ltb rfl) rfl rfl rb3 ?_
    refine g_getS (pc := 19) O cls4 fl_X3_56 dX3_look_19 hb3 (lay_lt hb3 (by decide)) (ltb rfl) rfl (sr_shelf0 hb3) ?_
    refine g_iloadn (pc := 22) O rfl dX3_look_22 ?_
    obtain ⟨j4, ej4, bj4, H⟩ := H
    obtain ⟨b5, rb5, hb5, H⟩ := H
    refine g_aald (t := 0) (j := j4) (pc := 23) O dX3_look_23 ej4 (ltb rfl) (lay_shelf0 hb3) (lay_lt (lay_shelf0 hb3) (by decide)) bj4 (ltb rfl) rb5 ?_
    refine g_astore (lv' := [(0, .ref 26), (2, .int x2), (3, .int x3), (4, .ref b5)]) (pc := 24) O dX3_look_24 (ltb rfl) rfl ?_
    refine g_iconst (v := (I 1)) (pc := 26) O rfl dX3_look_26 ?_
    refine g_aload (pc := 27) O rfl dX3_look_27 ?_
    refine g_getI (v := h.1 b5 3) (pc := 29) O cls1 fl_X3_60 dX3_look_29 hb5 (lay_lt hb5 (by decide)) (ltb rfl) rfl rfl ?_
    refine g_iconst (v := (I 1)) (pc := 32) O rfl dX3_look_32 ?_
    refine g_iadd (pc := 33) O dX3_look_33 ?_
    refine g_mmax (pc := 34) O ml_X3_83 ⟨leb rfl, leb rfl⟩ (leb rfl) dX3_look_34 ?_
    refine g_istore (lv' := [(0, .ref 26), (2, .int x2), (3, .int x3), (4, .ref b5), (5, .int (if (I 1) < ((h.1 b5 3) + (I 1)) then ((h.1 b5 3) + (I 1)) else (I 1)))]) (pc := 37) O dX3_look_37 (ltb rfl) rfl ?_
    refine g_aloadn (pc := 39) O rfl dX3_look_39 ?_
    refine g_getS (pc := 40) O cls3 fl_X3_31 dX3_look_40 rfl (ltb rfl) (ltb rfl) rfl rfl ?_
    refine g_iloadn (pc := 43) O rfl dX3_look_43 ?_
    refine g_iloadn (pc := 44) O rfl dX3_look_44 ?_
    refine g_iload (pc := 45) O rfl dX3_look_45 ?_
    obtain ⟨q14, H⟩ := H
    refine g_irem (pc := 47) O q14 dX3_look_47 ?_
    obtain ⟨j6, ej6, bj6, H⟩ := H
    refine g_iast (j := j6) (pc := 48) O dX3_look_48 ej6 rfl (ltb rfl) (leb rfl) bj6 (ltb rfl) ?_
    refine g_iloadn (pc := 49) O rfl dX3_look_49 ?_
    refine g_iload (pc := 50) O rfl dX3_look_50 ?_
    obtain ⟨q13, H⟩ := H
    refine g_idiv (pc := 52) O q13 dX3_look_52 ?_
    refine g_istoren (lv' := [(0, .ref 26), (2, .int (x2 / (if (I 1) < ((h.1 b5 3) + (I 1)) then ((h.1 b5 3) + (I 1)) else (I 1)))), (3, .int x3), (4, .ref b5), (5, .int (if (I 1) < ((h.1 b5 3) + (I 1)) then ((h.1 b5 3) + (I 1)) else (I 1)))]) (pc := 53) O dX3_look_53 rfl (ltb rfl) rfl ?_
    refine g_aloadn (pc := 54) O rfl dX3_look_54 ?_
    refine g_getS (pc := 55) O cls3 fl_X3_34 dX3_look_55 rfl (ltb rfl) (ltb rfl) rfl rfl ?_
    refine g_iloadn (pc := 58) O rfl dX3_look_58 ?_
    refine g_aloadn (pc := 59) O rfl dX3_look_59 ?_
    refine g_getS (pc := 60) O cls3 fl_X3_31 dX3_look_60 rfl (ltb rfl) (ltb rfl) rfl rfl ?_
    refine g_iloadn (pc := 63) O rfl dX3_look_63 ?_
    obtain ⟨j7, ej7, bj7, H⟩ := H
    refine g_iald (j := j7) (pc := 64) O dX3_look_64 ej7 rfl (ltb rfl) bj7 (ltb rfl) rfl ?_
    refine g_aload (pc := 65) O rfl dX3_look_65 ?_
    refine g_getI (v := (sI h 33 j6 (x2 - x2 / (if (I 1) < ((h.1 b5 3) + (I 1)) then ((h.1 b5 3) + (I 1)) else (I 1)) * (if (I 1) < ((h.1 b5 3) + (I 1)) then ((h.1 b5 3) + (I 1)) else (I 1)))).1 b5 3) (pc := 67) O cls1 fl_X3_60 dX3_look_67 hb5 (lay_lt hb5 (by decide)) (ltb rfl) rfl rfl ?_
    refine g_icmp_ge (tgt := 90) (pc := 70) O dX3_look_70 rfl (fun q8 => ?_) (fun q8 => ?_)
    · replace H := H.1 q8
      refine g_iconst (v := (I 0)) (pc := 90) O rfl dX3_look_90 ?_
      obtain ⟨j9, ej9, bj9, H⟩ := H
      refine g_iast (j := j9) (pc := 91) O dX3_look_91 ej9 rfl (ltb rfl) (leb rfl) bj9 (ltb rfl) ?_
      refine g_iinc (lv' := [(0, .ref 26), (2, .int (x2 / (if (I 1) < ((h.1 b5 3) + (I 1)) then ((h.1 b5 3) + (I 1)) else (I 1)))), (3, .int (x3 + I 1)), (4, .ref b5), (5, .int (if (I 1) < ((h.1 b5 3) + (I 1)) then ((h.1 b5 3) + (I 1)) else (I 1)))]) (pc := 92) O dX3_look_92 rfl rfl (ltb rfl) rfl ?_
      refine g_goto (tgt := 4) (pc := 95) O dX3_look_95 rfl ?_
      refine g_sub [0, 1, 2] rfl ?_
      exact H
    · replace H := H.2 q8
      refine g_iconst (v := (I 1)) (pc := 73) O rfl dX3_look_73 ?_
      refine g_aload (pc := 74) O rfl dX3_look_74 ?_
      refine g_getS (pc := 76) O cls1 fl_X3_98 dX3_look_76 hb5 (lay_lt hb5 (by decide)) (ltb rfl) rfl (sr_chip0 hb5) ?_
      refine g_aloadn (pc := 79) O rfl dX3_look_79 ?_
      refine g_getS (pc := 80) O cls3 fl_X3_31 dX3_look_80 rfl (ltb rfl) (ltb rfl) rfl rfl ?_
      refine g_iloadn (pc := 83) O rfl dX3_look_83 ?_
      obtain ⟨j10, ej10, bj10, H⟩ := H
      refine g_iald (j := j10) (pc := 84) O dX3_look_84 ej10 rfl (ltb rfl) bj10 (ltb rfl) rfl ?_
      obtain ⟨j11, ej11, bj11, H⟩ := H
      refine g_iald (j := j11) (pc := 85) O dX3_look_85 ej11 (lay_chip0 hb5) (lay_lt (lay_chip0 hb5) (by decide)) bj11 (ltb rfl) rfl ?_
      refine g_ishl (pc := 86) O dX3_look_86 ?_
      refine g_goto (tgt := 91) (pc := 87) O dX3_look_87 rfl ?_
      obtain ⟨j12, ej12, bj12, H⟩ := H
      refine g_iast (j := j12) (pc := 91) O dX3_look_91 ej12 rfl (ltb rfl) (leb rfl) bj12 (ltb rfl) ?_
      refine g_iinc (lv' := [(0, .ref 26), (2, .int (x2 / (if (I 1) < ((h.1 b5 3) + (I 1)) then ((h.1 b5 3) + (I 1)) else (I 1)))), (3, .int (x3 + I 1)), (4, .ref b5), (5, .int (if (I 1) < ((h.1 b5 3) + (I 1)) then ((h.1 b5 3) + (I 1)) else (I 1)))]) (pc := 92) O dX3_look_92 rfl rfl (ltb rfl) rfl ?_
      refine g_goto (tgt := 4) (pc := 95) O dX3_look_95 rfl ?_
      refine g_sub [0, 1, 2] rfl ?_
      exact H
set_option maxRecDepth 20000 in
set_option maxHeartbeats 2000000 in
theorem sX3_look {g : mg} {l : Launch} {Q : AH → Prop} {x1 : Int32} {h : AH} (H : ∀ X, Ok (FF g l X) RX3 cX3_look 6 mX3_look.2.2.2.2 none → GV g l X Q h 4 [(0, .ref 26), (2, .int x1), (3, .int (I 0))] []) : SpV g l mX3_look h [.ref 26, .int x1] Q := spV_of (by decide) (leb rfl) (fun X O => bX3_look_0 O (H X O))
set_option maxRecDepth 20000 in
set_option maxHeartbeats 2000000 in
theorem bX3_strideOf_0 {g : mg} {l : Launch} {X : XT} {Q : Int32 → AH → Prop} (O : Ok (FF g l X) RX3 cX3_strideOf 5 mX3_strideOf.2.2.2.2 (some .int)) {x1 : Int32} {x2 : Int32} {h : AH} (H : GI g l X Q h 5 [(0, .ref 26), (1, .int x1), (3, .int (I 0)), (4, .int x2)] []) : GI g l X Q h 0 [(0, .ref 26), (1, .int x1), (2, .int x2)] [] := by
  refine g_iconst (v := (I 0)) (pc := 0) O rfl dX3_strideOf_0 ?_
  refine g_istoren (lv' := [(0, .ref 26), (1, .int x1), (2, .int x2), (3, .int (I 0))]) (pc := 1) O dX3_strideOf_1 rfl (ltb rfl) rfl ?_
  refine g_iloadn (pc := 2) O rfl dX3_strideOf_2 ?_
  refine g_istore (lv' := [(0, .ref 26), (1, .int x1), (2, .int x2), (3, .int (I 0)), (4, .int x2)]) (pc := 3) O dX3_strideOf_3 (ltb rfl) rfl ?_
  refine g_sub [0, 1, 3, 4] rfl ?_
  exact H
set_option maxRecDepth 20000 in
set_option maxHeartbeats 2000000 in
theorem bX3_strideOf_5 {g : mg} {l : Launch} {X : XT} {Q : Int32 → AH → Prop} (O : Ok (FF g l X) RX3 cX3_strideOf 5 mX3_strideOf.2.2.2.2 (some .int)) {x1 : Int32} {x3 : Int32} {x4 : Int32} {h : AH} (H : ∃ b1 : Nat, h.2.2 26 12 = some b1 ∧ lay b1 = (4, 3) ∧ ((((h.1 b1 1) ≤ x4) → (Q x3 h)) ∧ ((¬ ((h.1 b1 1) ≤ x4)) → (∃ b3 : Nat, h.2.2 26 13 = some b3 ∧ lay b3 = (100, 12) ∧ (∃ j4 : Nat, x1 = I (j4 : Int) ∧ j4 < 12 ∧ (∃ j5 : Nat, x4 = I (j5 : Int) ∧ j5 < 4 ∧ (((((h.1 b3 j4) &&& (h.1 34 j5)) = 0) → (GI g l X Q h 5 [(0, .ref 26), (1, .int x1), (3, .int x3), (4, .int (x4 + I 1))] [])) ∧ ((¬ (((h.1 b3 j4) &&& (h.1 34 j5)) = 0)) → (∃ j7 : Nat, x4 = I (j7 : Int) ∧ j7 < 4 ∧ (GI g l X Q h 5 [(0, .ref 26), (1, .int x1), (3, .int (x3 + (h.1 32 j7))), (4, .int (x4 + I 1))] [])))))))))) : GI g l X Q h 5 [(0, .ref 26), (1, .int x1), (3, .int x3), (4, .int x4)] [] := by
  refine g_iload (pc := 5) O rfl dX3_strideOf_5 ?_
  refine g_aloadn (pc := 7) O rfl dX3_strideOf_7 ?_
  obtain ⟨b1, rb1, hb1, H⟩ := H
  refine g_getR (pc := 8) O cls3 fl_X3_43 dX3_strideOf_8 rfl (ltb rfl) (ltb rfl) rfl rfl rb1 ?_
  refine g_getI (v := h.1 b1 1) (pc := 11) O cls4 fl_X3_50 dX3_strideOf_11 hb1 (lay_lt hb1 (by decide)) (ltb rfl) rfl rfl ?_
  refine g_icmp_ge (tgt := 50) (pc := 14) O dX3_strideOf_14 rfl (fun q2 => ?_) (fun q2 => ?_)
  · replace H := H.1 q2
    refine g_iloadn (pc := 50) O rfl dX3_strideOf_50 ?_
    exact g_iret (pc := 51) O dX3_strideOf_51 H
  · replace H := H.2 q2
    refine g_aloadn (pc := 17) O rfl dX3_strideOf_17 ?_
    obtain ⟨b3, rb3, hb3, H⟩ := H
    refine g_getR (pc := 18) O cls3 fl_X3_47 dX3_strideOf_18 rfl (ltb rfl) (ltb rfl) rfl rfl rb3 ?_
    refine g_iloadn (pc := 21) O rfl dX3_strideOf_21 ?_
    obtain ⟨j4, ej4, bj4, H⟩ := H
    refine g_iald (j := j4) (pc := 22) O dX3_strideOf_22 ej4 hb3 (lay_lt hb3 (by decide)) bj4 (ltb rfl) rfl ?_
    refine g_aloadn (pc := 23) O rfl dX3_strideOf_23 ?_
    refine g_getS (pc := 24) O cls3 fl_X3_34 dX3_strideOf_24 rfl (ltb rfl) (ltb rfl) rfl rfl ?_
    refine g_iload (pc := 27) O rfl dX3_strideOf_27 ?_
    obtain ⟨j5, ej5, bj5, H⟩ := H
    refine g_iald (j := j5) (pc := 29) O dX3_strideOf_29 ej5 rfl (ltb rfl) bj5 (ltb rfl) rfl ?_
    refine g_iand (pc := 30) O dX3_strideOf_30 ?_
    refine g_if_eq (tgt := 44) (pc := 31) O dX3_strideOf_31 rfl (fun q6 => ?_) (fun q6 => ?_)
    · replace H := H.1 q6
      refine g_iinc (lv' := [(0, .ref 26), (1, .int x1), (3, .int x3), (4, .int (x4 + I 1))]) (pc := 44) O dX3_strideOf_44 rfl rfl (ltb rfl) rfl ?_
      refine g_goto (tgt := 5) (pc := 47) O dX3_strideOf_47 rfl ?_
      exact H
    · replace H := H.2 q6
      refine g_iloadn (pc := 34) O rfl dX3_strideOf_34 ?_
      refine g_aloadn (pc := 35) O rfl dX3_strideOf_35 ?_
      refine g_getS (pc := 36) O cls3 fl_X3_28 dX3_strideOf_36 rfl (ltb rfl) (ltb rfl) rfl rfl ?_
      refine g_iload (pc := 39) O rfl dX3_strideOf_39 ?_
      obtain ⟨j7, ej7, bj7, H⟩ := H
      refine g_iald (j := j7) (pc := 41) O dX3_strideOf_41 ej7 rfl (ltb rfl) bj7 (ltb rfl) rfl ?_
      refine g_iadd (pc := 42) O dX3_strideOf_42 ?_
      refine g_istoren (lv' := [(0, .ref 26), (1, .int x1), (3, .int (x3 + (h.1 32 j7))), (4, .int x4)]) (pc := 43) O dX3_strideOf_43 rfl (ltb rfl) rfl ?_
      refine g_iinc (lv' := [(0, .ref 26), (1, .int x1), (3, .int (x3 + (h.1 32 j7))), (4, .int (x4 + I 1))]) (pc := 44) O dX3_strideOf_44 rfl rfl (ltb rfl) rfl ?_
      refine g_goto (tgt := 5) (pc := 47) O dX3_strideOf_47 rfl ?_
      exact H
set_option maxRecDepth 20000 in
set_option maxHeartbeats 2000000 in
theorem sX3_strideOf {g : mg} {l : Launch} {Q : Int32 → AH → Prop} {x1 : Int32} {x2 : Int32} {h : AH} (H : ∀ X, Ok (FF g l X) RX3 cX3_strideOf 5 mX3_strideOf.2.2.2.2 (some .int) → GI g l X Q h 5 [(0, .ref 26), (1, .int x1), (3, .int (I 0)), (4, .int x2)] []) : SpI g l mX3_strideOf h [.ref 26, .int x1, .int x2] Q := spI_of (by decide) (leb rfl) (fun X O => bX3_strideOf_0 O (H X O))
set_option maxRecDepth 20000 in
set_option maxHeartbeats 2000000 in
theorem bX6_find_0 {g : mg} {l : Launch} {X : XT} {Q : AH → Prop} (O : Ok (FF g l X) RX6 cX6_find 8 mX6_find.2.2.2.2 none) {x2 : Nat} (hx2 : lay x2 = (0, 7)) {x3 : Int32} {h : AH} (H : GV g l X Q (sI h 37 0 (I 1)) 17 [(0, .ref 37), (1, .ref 26), (2, .ref x2), (3, .int x3), (4, .int (h.1 26 0)), (5, .int (I 0)), (6, .int (I 0))] []) : GV g l X Q h 0 [(0, .ref 37), (1, .ref 26), (2, .ref x2), (3, .int x3)] [] := by
  refine g_aloadn (pc := 0) O rfl dX6_find_0 ?_
  refine g_getI (v := h.1 26 0) (pc := 1) O cls3 fl_X6_24 dX6_find_1 rfl (ltb rfl) (ltb rfl) rfl rfl ?_
  refine g_istore (lv' := [(0, .ref 37), (1, .ref 26), (2, .ref x2), (3, .int x3), (4, .int (h.1 26 0))]) (pc := 4) O dX6_find_4 (ltb rfl) rfl ?_
  refine g_iconst (v := (I 0)) (pc := 6) O rfl dX6_find_6 ?_
  refine g_istore (lv' := [(0, .ref 37), (1, .ref 26), (2, .ref x2), (3, .int x3), (4, .int (h.1 26 0)), (5, .int (I 0))]) (pc := 7) O dX6_find_7 (ltb rfl) rfl ?_
  refine g_aloadn (pc := 9) O rfl dX6_find_9 ?_
  refine g_iconst (v := (I 1)) (pc := 10) O rfl dX6_find_10 ?_
  refine g_putZ (pc := 11) O cls6 fl_X6_30 dX6_find_11 rfl (ltb rfl) (leb rfl) (ltb rfl) rfl rfl (by decide +kernel) (by decide) ?_
  refine g_iconst (v := (I 0)) (pc := 14) O rfl dX6_find_14 ?_
  refine g_istore (lv' := [(0, .ref 37), (1, .ref 26), (2, .ref x2), (3, .int x3), (4, .int (h.1 26 0)), (5, .int (I 0)), (6, .int (I 0))]) (pc := 15) O dX6_find_15 (ltb rfl) rfl ?_
  exact H
set_option maxRecDepth 20000 in
set_option maxHeartbeats 2000000 in
theorem bX6_find_17 {g : mg} {l : Launch} {X : XT} {Q : AH → Prop} (O : Ok (FF g l X) RX6 cX6_find 8 mX6_find.2.2.2.2 none) {x2 : Nat} (hx2 : lay x2 = (0, 7)) {x3 : Int32} {x4 : Int32} {x5 : Int32} {x6 : Int32} {h : AH} (H : ((x4 ≤ x6) → (GV g l X Q h 123 [(0, .ref 37), (1, .ref 26), (2, .ref x2), (3, .int x3), (5, .int (I 999)), (6, .int (x4 - (I 1)))] [])) ∧ ((¬ (x4 ≤ x6)) → (∃ j2 : Nat, x6 = I (j2 : Int) ∧ j2 < 40 ∧ (∃ j3 : Nat, (h.1 27 j2) = I (j3 : Int) ∧ j3 < 12 ∧ (∃ j4 : Nat, x6 = I (j4 : Int) ∧ j4 < 40 ∧ ((((h.1 37 0) = 0) → (∃ j6 : Nat, x6 = I (j6 : Int) ∧ j6 < 40 ∧ (∃ j7 : Nat, x6 = I (j7 : Int) ∧ j7 < 40 ∧ (GV g l X Q (sI (sI h 38 j4 (if x5 < (h.1 (x2 + 1) j3) then (h.1 (x2 + 1) j3) else x5)) 37 0 (I 0)) 17 [(0, .ref 37), (1, .ref 26), (2, .ref x2), (3, .int x3), (4, .int x4), (5, .int ((((sI h 38 j4 (if x5 < (h.1 (x2 + 1) j3) then (h.1 (x2 + 1) j3) else x5)).1 38 j6) + (x3 * (h.1 29 j7))) + (I 1))), (6, .int (x6 + I 1))] [])))) ∧ ((¬ ((h.1 37 0) = 0)) → (∃ j8 : Nat, x6 = I (j8 : Int) ∧ j8 < 40 ∧ (∃ j9 : Nat, (h.1 27 j2) = I (j9 : Int) ∧ j9 < 12 ∧ (((((sI h 38 j4 (if x5 < (h.1 (x2 + 1) j3) then (h.1 (x2 + 1) j3) else x5)).1 (x2 + 2) j9) < ((sI h 38 j4 (if x5 < (h.1 (x2 + 1) j3) then (h.1 (x2 + 1) j3) else x5)).1 38 j8)) → (∃ j11 : Nat, x6 = I (j11 : Int) ∧ j11 < 40 ∧ (∃ j12 : Nat, x6 = I (j12 : Int) ∧ j12 < 40 ∧ (GV g l X Q (sI (sI h 38 j4 (if x5 < (h.1 (x2 + 1) j3) then (h.1 (x2 + 1) j3) else x5)) 37 0 (I 0)) 17 [(0, .ref 37), (1, .ref 26), (2, .ref x2), (3, .int x3), (4, .int x4), (5, .int ((((sI h 38 j4 (if x5 < (h.1 (x2 + 1) j3) then (h.1 (x2 + 1) j3) else x5)).1 38 j11) + (x3 * (h.1 29 j12))) + (I 1))), (6, .int (x6 + I 1))] [])))) ∧ ((¬ (((sI h 38 j4 (if x5 < (h.1 (x2 + 1) j3) then (h.1 (x2 + 1) j3) else x5)).1 (x2 + 2) j9) < ((sI h 38 j4 (if x5 < (h.1 (x2 + 1) j3) then (h.1 (x2 + 1) j3) else x5)).1 38 j8))) → (∃ j13 : Nat, x6 = I (j13 : Int) ∧ j13 < 40 ∧ (∃ j14 : Nat, x6 = I (j14 : Int) ∧ j14 < 40 ∧ (GV g l X Q (sI (sI h 38 j4 (if x5 < (h.1 (x2 + 1) j3) then (h.1 (x2 + 1) j3) else x5)) 37 0 (I 1)) 17 [(0, .ref 37), (1, .ref 26), (2, .ref x2), (3, .int x3), (4, .int x4), (5, .int ((((sI h 38 j4 (if x5 < (h.1 (x2 + 1) j3) then (h.1 (x2 + 1) j3) else x5)).1 38 j13) + (x3 * (h.1 29 j14))) + (I 1))), (6, .int (x6 + I 1))] [])))))))))))))) : GV g l X Q h 17 [(0, .ref 37), (1, .ref 26), (2, .ref x2), (3, .int x3), (4, .int x4), (5, .int x5), (6, .int x6)] [] := by
  refine g_iload (pc := 17) O rfl dX6_find_17 ?_
  refine g_iload (pc := 19) O rfl dX6_find_19 ?_
  refine g_icmp_ge (tgt := 112) (pc := 21) O dX6_find_21 rfl (fun q1 => ?_) (fun q1 => ?_)
  · replace H := H.1 q1
    refine g_sipush (v := (I 999)) (pc := 112) O (by decide) dX6_find_112 ?_
    refine g_istore (lv' := [(0, .ref 37), (1, .ref 26), (2, .ref x2), (3, .int x3), (4, .int x4), (5, .int (I 999)), (6, .int x6)]) (pc := 115) O dX6_find_115 (ltb rfl) rfl ?_
    refine g_iload (pc := 117) O rfl dX6_find_117 ?_
    refine g_iconst (v := (I 1)) (pc := 119) O rfl dX6_find_119 ?_
    refine g_isub (pc := 120) O dX6_find_120 ?_
    refine g_istore (lv' := [(0, .ref 37), (1, .ref 26), (2, .ref x2), (3, .int x3), (4, .int x4), (5, .int (I 999)), (6, .int (x4 - (I 1)))]) (pc := 121) O dX6_find_121 (ltb rfl) rfl ?_
    refine g_sub [0, 1, 2, 3, 5, 6] rfl ?_
    exact H
  · replace H := H.2 q1
    refine g_aloadn (pc := 24) O rfl dX6_find_24 ?_
    refine g_getS (pc := 25) O cls3 fl_X6_34 dX6_find_25 rfl (ltb rfl) (ltb rfl) rfl rfl ?_
    refine g_iload (pc := 28) O rfl dX6_find_28 ?_
    obtain ⟨j2, ej2, bj2, H⟩ := H
    refine g_iald (j := j2) (pc := 30) O dX6_find_30 ej2 rfl (ltb rfl) bj2 (ltb rfl) rfl ?_
    refine g_istore (lv' := [(0, .ref 37), (1, .ref 26), (2, .ref x2), (3, .int x3), (4, .int x4), (5, .int x5), (6, .int x6), (7, .int (h.1 27 j2))]) (pc := 31) O dX6_find_31 (ltb rfl) rfl ?_
    refine g_aloadn (pc := 33) O rfl dX6_find_33 ?_
    refine g_getS (pc := 34) O cls6 fl_X6_9 dX6_find_34 rfl (ltb rfl) (ltb rfl) rfl rfl ?_
    refine g_iload (pc := 37) O rfl dX6_find_37 ?_
    refine g_iload (pc := 39) O rfl dX6_find_39 ?_
    refine g_aloadn (pc := 41) O rfl dX6_find_41 ?_
    refine g_getS (pc := 42) O cls0 fl_X6_37 dX6_find_42 hx2 (lay_lt hx2 (by decide)) (ltb rfl) rfl (sr_book0 hx2) ?_
    refine g_iload (pc := 45) O rfl dX6_find_45 ?_
    obtain ⟨j3, ej3, bj3, H⟩ := H
    refine g_iald (j := j3) (pc := 47) O dX6_find_47 ej3 (lay_book0 hx2) (lay_lt (lay_book0 hx2) (by decide)) bj3 (ltb rfl) rfl ?_
    refine g_mmax (pc := 48) O ml_X6_42 ⟨leb rfl, leb rfl⟩ (leb rfl) dX6_find_48 ?_
    obtain ⟨j4, ej4, bj4, H⟩ := H
    refine g_iast (j := j4) (pc := 51) O dX6_find_51 ej4 rfl (ltb rfl) (leb rfl) bj4 (ltb rfl) ?_
    refine g_aloadn (pc := 52) O rfl dX6_find_52 ?_
    refine g_aloadn (pc := 53) O rfl dX6_find_53 ?_
    refine g_getI (v := h.1 37 0) (pc := 54) O cls6 fl_X6_30 dX6_find_54 rfl (ltb rfl) (ltb rfl) rfl rfl ?_
    refine g_if_eq (tgt := 81) (pc := 57) O dX6_find_57 rfl (fun q5 => ?_) (fun q5 => ?_)
    · replace H := H.1 q5
      refine g_iconst (v := (I 0)) (pc := 81) O rfl dX6_find_81 ?_
      refine g_putZ (pc := 82) O cls6 fl_X6_30 dX6_find_82 rfl (ltb rfl) (leb rfl) (ltb rfl) rfl rfl (by decide +kernel) (by decide) ?_
      refine g_aloadn (pc := 85) O rfl dX6_find_85 ?_
      refine g_getS (pc := 86) O cls6 fl_X6_9 dX6_find_86 rfl (ltb rfl) (ltb rfl) rfl rfl ?_
      refine g_iload (pc := 89) O rfl dX6_find_89 ?_
      obtain ⟨j6, ej6, bj6, H⟩ := H
      refine g_iald (j := j6) (pc := 91) O dX6_find_91 ej6 rfl (ltb rfl) bj6 (ltb rfl) rfl ?_
      refine g_iloadn (pc := 92) O rfl dX6_find_92 ?_
      refine g_aloadn (pc := 93) O rfl dX6_find_93 ?_
      refine g_getS (pc := 94) O cls3 fl_X6_51 dX6_find_94 rfl (ltb rfl) (ltb rfl) rfl rfl ?_
      refine g_iload (pc := 97) O rfl dX6_find_97 ?_
      obtain ⟨j7, ej7, bj7, H⟩ := H
      refine g_iald (j := j7) (pc := 99) O dX6_find_99 ej7 rfl (ltb rfl) bj7 (ltb rfl) rfl ?_
      refine g_imul (pc := 100) O dX6_find_100 ?_
      refine g_iadd (pc := 101) O dX6_find_101 ?_
      refine g_iconst (v := (I 1)) (pc := 102) O rfl dX6_find_102 ?_
      refine g_iadd (pc := 103) O dX6_find_103 ?_
      refine g_istore (lv' := [(0, .ref 37), (1, .ref 26), (2, .ref x2), (3, .int x3), (4, .int x4), (5, .int ((((sI h 38 j4 (if x5 < (h.1 (x2 + 1) j3) then (h.1 (x2 + 1) j3) else x5)).1 38 j6) + (x3 * (h.1 29 j7))) + (I 1))), (6, .int x6), (7, .int (h.1 27 j2))]) (pc := 104) O dX6_find_104 (ltb rfl) rfl ?_
      refine g_iinc (lv' := [(0, .ref 37), (1, .ref 26), (2, .ref x2), (3, .int x3), (4, .int x4), (5, .int ((((sI h 38 j4 (if x5 < (h.1 (x2 + 1) j3) then (h.1 (x2 + 1) j3) else x5)).1 38 j6) + (x3 * (h.1 29 j7))) + (I 1))), (6, .int (x6 + I 1)), (7, .int (h.1 27 j2))]) (pc := 106) O dX6_find_106 rfl rfl (ltb rfl) rfl ?_
      refine g_goto (tgt := 17) (pc := 109) O dX6_find_109 rfl ?_
      refine g_sub [0, 1, 2, 3, 4, 5, 6] rfl ?_
      exact H
    · replace H := H.2 q5
      refine g_aloadn (pc := 60) O rfl dX6_find_60 ?_
      refine g_getS (pc := 61) O cls6 fl_X6_9 dX6_find_61 rfl (ltb rfl) (ltb rfl) rfl rfl ?_
      refine g_iload (pc := 64) O rfl dX6_find_64 ?_
      obtain ⟨j8, ej8, bj8, H⟩ := H
      refine g_iald (j := j8) (pc := 66) O dX6_find_66 ej8 rfl (ltb rfl) bj8 (ltb rfl) rfl ?_
      refine g_aloadn (pc := 67) O rfl dX6_find_67 ?_
      refine g_getS (pc := 68) O cls0 fl_X6_48 dX6_find_68 hx2 (lay_lt hx2 (by decide)) (ltb rfl) rfl (sr_book1 hx2) ?_
      refine g_iload (pc := 71) O rfl dX6_find_71 ?_
      obtain ⟨j9, ej9, bj9, H⟩ := H
      refine g_iald (j := j9) (pc := 73) O dX6_find_73 ej9 (lay_book1 hx2) (lay_lt (lay_book1 hx2) (by decide)) bj9 (ltb rfl) rfl ?_
      refine g_icmp_gt (tgt := 81) (pc := 74) O dX6_find_74 rfl (fun q10 => ?_) (fun q10 => ?_)
      · replace H := H.1 q10
        refine g_iconst (v := (I 0)) (pc := 81) O rfl dX6_find_81 ?_
        refine g_putZ (pc := 82) O cls6 fl_X6_30 dX6_find_82 rfl (ltb rfl) (leb rfl) (ltb rfl) rfl rfl (by decide +kernel) (by decide) ?_
        refine g_aloadn (pc := 85) O rfl dX6_find_85 ?_
        refine g_getS (pc := 86) O cls6 fl_X6_9 dX6_find_86 rfl (ltb rfl) (ltb rfl) rfl rfl ?_
        refine g_iload (pc := 89) O rfl dX6_find_89 ?_
        obtain ⟨j11, ej11, bj11, H⟩ := H
        refine g_iald (j := j11) (pc := 91) O dX6_find_91 ej11 rfl (ltb rfl) bj11 (ltb rfl) rfl ?_
        refine g_iloadn (pc := 92) O rfl dX6_find_92 ?_
        refine g_aloadn (pc := 93) O rfl dX6_find_93 ?_
        refine g_getS (pc := 94) O cls3 fl_X6_51 dX6_find_94 rfl (ltb rfl) (ltb rfl) rfl rfl ?_
        refine g_iload (pc := 97) O rfl dX6_find_97 ?_
        obtain ⟨j12, ej12, bj12, H⟩ := H
        refine g_iald (j := j12) (pc := 99) O dX6_find_99 ej12 rfl (ltb rfl) bj12 (ltb rfl) rfl ?_
        refine g_imul (pc := 100) O dX6_find_100 ?_
        refine g_iadd (pc := 101) O dX6_find_101 ?_
        refine g_iconst (v := (I 1)) (pc := 102) O rfl dX6_find_102 ?_
        refine g_iadd (pc := 103) O dX6_find_103 ?_
        refine g_istore (lv' := [(0, .ref 37), (1, .ref 26), (2, .ref x2), (3, .int x3), (4, .int x4), (5, .int ((((sI h 38 j4 (if x5 < (h.1 (x2 + 1) j3) then (h.1 (x2 + 1) j3) else x5)).1 38 j11) + (x3 * (h.1 29 j12))) + (I 1))), (6, .int x6), (7, .int (h.1 27 j2))]) (pc := 104) O dX6_find_104 (ltb rfl) rfl ?_
        refine g_iinc (lv' := [(0, .ref 37), (1, .ref 26), (2, .ref x2), (3, .int x3), (4, .int x4), (5, .int ((((sI h 38 j4 (if x5 < (h.1 (x2 + 1) j3) then (h.1 (x2 + 1) j3) else x5)).1 38 j11) + (x3 * (h.1 29 j12))) + (I 1))), (6, .int (x6 + I 1)), (7, .int (h.1 27 j2))]) (pc := 106) O dX6_find_106 rfl rfl (ltb rfl) rfl ?_
        refine g_goto (tgt := 17) (pc := 109) O dX6_find_109 rfl ?_
        refine g_sub [0, 1, 2, 3, 4, 5, 6] rfl ?_
        exact H
      · replace H := H.2 q10
        refine g_iconst (v := (I 1)) (pc := 77) O rfl dX6_find_77 ?_
        refine g_goto (tgt := 82) (pc := 78) O dX6_find_78 rfl ?_
        refine g_putZ (pc := 82) O cls6 fl_X6_30 dX6_find_82 rfl (ltb rfl) (leb rfl) (ltb rfl) rfl rfl (by decide +kernel) (by decide) ?_
        refine g_aloadn (pc := 85) O rfl dX6_find_85 ?_
        refine g_getS (pc := 86) O cls6 fl_X6_9 dX6_find_86 rfl (ltb rfl) (ltb rfl) rfl rfl ?_
        refine g_iload (pc := 89) O rfl dX6_find_89 ?_
        obtain ⟨j13, ej13, bj13, H⟩ := H
        refine g_iald (j := j13) (pc := 91) O dX6_find_91 ej13 rfl (ltb rfl) bj13 (ltb rfl) rfl ?_
        refine g_iloadn (pc := 92) O rfl dX6_find_92 ?_
        refine g_aloadn (pc := 93) O rfl dX6_find_93 ?_
        refine g_getS (pc := 94) O cls3 fl_X6_51 dX6_find_94 rfl (ltb rfl) (ltb rfl) rfl rfl ?_
        refine g_iload (pc := 97) O rfl dX6_find_97 ?_
        obtain ⟨j14, ej14, bj14, H⟩ := H
        refine g_iald (j := j14) (pc := 99) O dX6_find_99 ej14 rfl (ltb rfl) bj14 (ltb rfl) rfl ?_
        refine g_imul (pc := 100) O dX6_find_100 ?_
        refine g_iadd (pc := 101) O dX6_find_101 ?_
        refine g_iconst (v := (I 1)) (pc := 102) O rfl dX6_find_102 ?_
        refine g_iadd (pc := 103) O dX6_find_103 ?_
        refine g_istore (lv' := [(0, .ref 37), (1, .ref 26), (2, .ref x2), (3, .int x3), (4, .int x4), (5, .int ((((sI h 38 j4 (if x5 < (h.1 (x2 + 1) j3) then (h.1 (x2 + 1) j3) else x5)).1 38 j13) + (x3 * (h.1 29 j14))) + (I 1))), (6, .int x6), (7, .int (h.1 27 j2))]) (pc := 104) O dX6_find_104 (ltb rfl) rfl ?_
        refine g_iinc (lv' := [(0, .ref 37), (1, .ref 26), (2, .ref x2), (3, .int x3), (4, .int x4), (5, .int ((((sI h 38 j4 (if x5 < (h.1 (x2 + 1) j3) then (h.1 (x2 + 1) j3) else x5)).1 38 j13) + (x3 * (h.1 29 j14))) + (I 1))), (6, .int (x6 + I 1)), (7, .int (h.1 27 j2))]) (pc := 106) O dX6_find_106 rfl rfl (ltb rfl) rfl ?_
        refine g_goto (tgt := 17) (pc := 109) O dX6_find_109 rfl ?_
        refine g_sub [0, 1, 2, 3, 4, 5, 6] rfl ?_
        exact H
set_option maxRecDepth 20000 in
set_option maxHeartbeats 2000000 in
theorem bX6_find_123 {g : mg} {l : Launch} {X : XT} {Q : AH → Prop} (O : Ok (FF g l X) RX6 cX6_find 8 mX6_find.2.2.2.2 none) {x2 : Nat} (hx2 : lay x2 = (0, 7)) {x3 : Int32} {x5 : Int32} {x6 : Int32} {h : AH} (H : ((x6 < 0) → (Q h)) ∧ ((¬ (x6 < 0)) → (∃ j2 : Nat, x6 = I (j2 : Int) ∧ j2 < 40 ∧ (∃ j3 : Nat, (h.1 27 j2) = I (j3 : Int) ∧ j3 < 12 ∧ (∃ j4 : Nat, x6 = I (j4 : Int) ∧ j4 < 40 ∧ (∃ j5 : Nat, x6 = I (j5 : Int) ∧ j5 < 40 ∧ (((x6 ≤ 0) → (GV g l X Q (sI h 39 j4 (if (h.1 (x2 + 2) j3) < x5 then (h.1 (x2 + 2) j3) else x5)) 123 [(0, .ref 37), (1, .ref 26), (2, .ref x2), (3, .int x3), (5, .int ((((sI h 39 j4 (if (h.1 (x2 + 2) j3) < x5 then (h.1 (x2 + 2) j3) else x5)).1 39 j5) - (I 1)) - (I 0))), (6, .int (x6 + I (-1)))] [])) ∧ ((¬ (x6 ≤ 0)) → (∃ j7 : Nat, (x6 - (I 1)) = I (j7 : Int) ∧ j7 < 40 ∧ (GV g l X Q (sI h 39 j4 (if (h.1 (x2 + 2) j3) < x5 then (h.1 (x2 + 2) j3) else x5)) 123 [(0, .ref 37), (1, .ref 26), (2, .ref x2), (3, .int x3), (5, .int ((((sI h 39 j4 (if (h.1 (x2 + 2) j3) < x5 then (h.1 (x2 + 2) j3) else x5)).1 39 j5) - (I 1)) - (x3 * (h.1 29 j7)))), (6, .int (x6 + I (-1)))] [])))))))))) : GV g l X Q h 123 [(0, .ref 37), (1, .ref 26), (2, .ref x2), (3, .int x3), (5, .int x5), (6, .int x6)] [] := by
  refine g_iload (pc := 123) O rfl dX6_find_123 ?_
  refine g_if_lt (tgt := 190) (pc := 125) O dX6_find_125 rfl (fun q1 => ?_) (fun q1 => ?_)
  · replace H := H.1 q1
    exact g_vret (pc := 190) O dX6_find_190 H
  · replace H := H.2 q1
    refine g_aloadn (pc := 128) O rfl dX6_find_128 ?_
    refine g_getS (pc := 129) O cls6 fl_X6_15 dX6_find_129 rfl (ltb rfl) (ltb rfl) rfl rfl ?_
    refine g_iload (pc := 132) O rfl dX6_find_132 ?_
    refine g_iload (pc := 134) O rfl dX6_find_134 ?_
    refine g_aloadn (pc := 136) O rfl dX6_find_136 ?_
    refine g_getS (pc := 137) O cls0 fl_X6_48 dX6_find_137 hx2 (lay_lt hx2 (by decide)) (ltb rfl) rfl (sr_book1 hx2) ?_
    refine g_aloadn (pc := 140) O rfl dX6_find_140 ?_
    refine g_getS (pc := 141) O cls3 fl_X6_34 dX6_find_141 rfl (ltb rfl) (ltb rfl) rfl rfl ?_
    refine g_iload (pc := 144) O rfl dX6_find_144 ?_
    obtain ⟨j2, ej2, bj2, H⟩ := H
    refine g_iald (j := j2) (pc := 146) O dX6_find_146 ej2 rfl (ltb rfl) bj2 (ltb rfl) rfl ?_
    obtain ⟨j3, ej3, bj3, H⟩ := H
    refine g_iald (j := j3) (pc := 147) O dX6_find_147 ej3 (lay_book1 hx2) (lay_lt (lay_book1 hx2) (by decide)) bj3 (ltb rfl) rfl ?_
    refine g_mmin (pc := 148) O ml_X6_54 ⟨leb rfl, leb rfl⟩ (leb rfl) dX6_find_148 ?_
    obtain ⟨j4, ej4, bj4, H⟩ := H
    refine g_iast (j := j4) (pc := 151) O dX6_find_151 ej4 rfl (ltb rfl) (leb rfl) bj4 (ltb rfl) ?_
    refine g_aloadn (pc := 152) O rfl dX6_find_152 ?_
    refine g_getS (pc := 153) O cls6 fl_X6_15 dX6_find_153 rfl (ltb rfl) (ltb rfl) rfl rfl ?_
    refine g_iload (pc := 156) O rfl dX6_find_156 ?_
    obtain ⟨j5, ej5, bj5, H⟩ := H
    refine g_iald (j := j5) (pc := 158) O dX6_find_158 ej5 rfl (ltb rfl) bj5 (ltb rfl) rfl ?_
    refine g_iconst (v := (I 1)) (pc := 159) O rfl dX6_find_159 ?_
    refine g_isub (pc := 160) O dX6_find_160 ?_
    refine g_iload (pc := 161) O rfl dX6_find_161 ?_
    refine g_if_le (tgt := 180) (pc := 163) O dX6_find_163 rfl (fun q6 => ?_) (fun q6 => ?_)
    · replace H := H.1 q6
      refine g_iconst (v := (I 0)) (pc := 180) O rfl dX6_find_180 ?_
      refine g_isub (pc := 181) O dX6_find_181 ?_
      refine g_istore (lv' := [(0, .ref 37), (1, .ref 26), (2, .ref x2), (3, .int x3), (5, .int ((((sI h 39 j4 (if (h.1 (x2 + 2) j3) < x5 then (h.1 (x2 + 2) j3) else x5)).1 39 j5) - (I 1)) - (I 0))), (6, .int x6)]) (pc := 182) O dX6_find_182 (ltb rfl) rfl ?_
      refine g_iinc (lv' := [(0, .ref 37), (1, .ref 26), (2, .ref x2), (3, .int x3), (5, .int ((((sI h 39 j4 (if (h.1 (x2 + 2) j3) < x5 then (h.1 (x2 + 2) j3) else x5)).1 39 j5) - (I 1)) - (I 0))), (6, .int (x6 + I (-1)))]) (pc := 184) O dX6_find_184 rfl rfl (ltb rfl) rfl ?_
      refine g_goto (tgt := 123) (pc := 187) O dX6_find_187 rfl ?_
      exact H
    · replace H := H.2 q6
      refine g_iloadn (pc := 166) O rfl dX6_find_166 ?_
      refine g_aloadn (pc := 167) O rfl dX6_find_167 ?_
      refine g_getS (pc := 168) O cls3 fl_X6_51 dX6_find_168 rfl (ltb rfl) (ltb rfl) rfl rfl ?_
      refine g_iload (pc := 171) O rfl dX6_find_171 ?_
      refine g_iconst (v := (I 1)) (pc := 173) O rfl dX6_find_173 ?_
      refine g_isub (pc := 174) O dX6_find_174 ?_
      obtain ⟨j7, ej7, bj7, H⟩ := H
      refine g_iald (j := j7) (pc := 175) O dX6_find_175 ej7 rfl (ltb rfl) bj7 (ltb rfl) rfl ?_
      refine g_imul (pc := 176) O dX6_find_176 ?_
      refine g_goto (tgt := 181) (pc := 177) O dX6_find_177 rfl ?_
      refine g_isub (pc := 181) O dX6_find_181 ?_
      refine g_istore (lv' := [(0, .ref 37), (1, .ref 26), (2, .ref x2), (3, .int x3), (5, .int ((((sI h 39 j4 (if (h.1 (x2 + 2) j3) < x5 then (h.1 (x2 + 2) j3) else x5)).1 39 j5) - (I 1)) - (x3 * (h.1 29 j7)))), (6, .int x6)]) (pc := 182) O dX6_find_182 (ltb rfl) rfl ?_
      refine g_iinc (lv' := [(0, .ref 37), (1, .ref 26), (2, .ref x2), (3, .int x3), (5, .int ((((sI h 39 j4 (if (h.1 (x2 + 2) j3) < x5 then (h.1 (x2 + 2) j3) else x5)).1 39 j5) - (I 1)) - (x3 * (h.1 29 j7)))), (6, .int (x6 + I (-1)))]) (pc := 184) O dX6_find_184 rfl rfl (ltb rfl) rfl ?_
      refine g_goto (tgt := 123) (pc := 187) O dX6_find_187 rfl ?_
      exact H
set_option maxRecDepth 20000 in
set_option maxHeartbeats 2000000 in
theorem sX6_find {g : mg} {l : Launch} {Q : AH → Prop} {x2 : Nat} (hx2 : lay x2 = (0, 7)) {x3 : Int32} {h : AH} (H : ∀ X, Ok (FF g l X) RX6 cX6_find 8 mX6_find.2.2.2.2 none → GV g l X Q (sI h 37 0 (I 1)) 17 [(0, .ref 37), (1, .ref 26), (2, .ref x2), (3, .int x3), (4, .int (h.1 26 0)), (5, .int (I 0)), (6, .int (I 0))] []) : SpV g l mX6_find h [.ref 37, .ref 26, .ref x2, .int x3] Q := spV_of (by decide) (leb rfl) (fun X O => bX6_find_0 O hx2 (H X O))
set_option maxRecDepth 20000 in
set_option maxHeartbeats 2000000 in
theorem bX6_match_0 {g : mg} {l : Launch} {X : XT} {Q : AH → Prop} (O : Ok (FF g l X) RX6 cX6_match 6 mX6_match.2.2.2.2 none) {x2 : Nat} (hx2 : lay x2 = (0, 7)) {h : AH} (H : GV g l X Q h 8 [(0, .ref 37), (1, .ref 26), (2, .ref x2), (3, .int (h.1 26 0)), (4, .int (I 0))] []) : GV g l X Q h 0 [(0, .ref 37), (1, .ref 26), (2, .ref x2)] [] := by
  refine g_aloadn (pc := 0) O rfl dX6_match_0 ?_
  refine g_getI (v := h.1 26 0) (pc := 1) O cls3 fl_X6_24 dX6_match_1 rfl (ltb rfl) (ltb rfl) rfl rfl ?_
  refine g_istoren (lv' := [(0, .ref 37), (1, .ref 26), (2, .ref x2), (3, .int (h.1 26 0))]) (pc := 4) O dX6_match_4 rfl (ltb rfl) rfl ?_
  refine g_iconst (v := (I 0)) (pc := 5) O rfl dX6_match_5 ?_
  refine g_istore (lv' := [(0, .ref 37), (1, .ref 26), (2, .ref x2), (3, .int (h.1 26 0)), (4, .int (I 0))]) (pc := 6) O dX6_match_6 (ltb rfl) rfl ?_
  exact H
set_option maxRecDepth 20000 in
set_option maxHeartbeats 2000000 in
theorem bX6_match_8 {g : mg} {l : Launch} {X : XT} {Q : AH → Prop} (O : Ok (FF g l X) RX6 cX6_match 6 mX6_match.2.2.2.2 none) {x2 : Nat} (hx2 : lay x2 = (0, 7)) {x3 : Int32} {x4 : Int32} {h : AH} (H : (((I 9) ≤ x4) → (GV g l X Q h 39 [(0, .ref 37), (1, .ref 26), (2, .ref x2), (3, .int x3), (4, .int (x3 - (I 1)))] [])) ∧ ((¬ ((I 9) ≤ x4)) → (∃ j2 : Nat, ((x3 * (I 9)) + x4) = I (j2 : Int) ∧ j2 < 369 ∧ (GV g l X Q (sI h 41 j2 (I 0)) 8 [(0, .ref 37), (1, .ref 26), (2, .ref x2), (3, .int x3), (4, .int (x4 + I 1))] [])))) : GV g l X Q h 8 [(0, .ref 37), (1, .ref 26), (2, .ref x2), (3, .int x3), (4, .int x4)] [] := by
  refine g_iload (pc := 8) O rfl dX6_match_8 ?_
  refine g_bipush (v := (I 9)) (pc := 10) O (by decide) dX6_match_10 ?_
  refine g_icmp_ge (tgt := 34) (pc := 12) O dX6_match_12 rfl (fun q1 => ?_) (fun q1 => ?_)
  · replace H := H.1 q1
    refine g_iloadn (pc := 34) O rfl dX6_match_34 ?_
    refine g_iconst (v := (I 1)) (pc := 35) O rfl dX6_match_35 ?_
    refine g_isub (pc := 36) O dX6_match_36 ?_
    refine g_istore (lv' := [(0, .ref 37), (1, .ref 26), (2, .ref x2), (3, .int x3), (4, .int (x3 - (I 1)))]) (pc := 37) O dX6_match_37 (ltb rfl) rfl ?_
    exact H
  · replace H := H.2 q1
    refine g_aloadn (pc := 15) O rfl dX6_match_15 ?_
    refine g_getS (pc := 16) O cls6 fl_X6_21 dX6_match_16 rfl (ltb rfl) (ltb rfl) rfl rfl ?_
    refine g_iloadn (pc := 19) O rfl dX6_match_19 ?_
    refine g_bipush (v := (I 9)) (pc := 20) O (by decide) dX6_match_20 ?_
    refine g_imul (pc := 22) O dX6_match_22 ?_
    refine g_iload (pc := 23) O rfl dX6_match_23 ?_
    refine g_iadd (pc := 25) O dX6_match_25 ?_
    refine g_iconst (v := (I 0)) (pc := 26) O rfl dX6_match_26 ?_
    obtain ⟨j2, ej2, bj2, H⟩ := H
    refine g_iast (j := j2) (pc := 27) O dX6_match_27 ej2 rfl (ltb rfl) (leb rfl) bj2 (ltb rfl) ?_
    refine g_iinc (lv' := [(0, .ref 37), (1, .ref 26), (2, .ref x2), (3, .int x3), (4, .int (x4 + I 1))]) (pc := 28) O dX6_match_28 rfl rfl (ltb rfl) rfl ?_
    refine g_goto (tgt := 8) (pc := 31) O dX6_match_31 rfl ?_
    exact H
set_option maxRecDepth 20000 in
set_option maxHeartbeats 2000000 in
theorem bX6_match_39 {g : mg} {l : Launch} {X : XT} {Q : AH → Prop} (O : Ok (FF g l X) RX6 cX6_match 6 mX6_match.2.2.2.2 none) {x2 : Nat} (hx2 : lay x2 = (0, 7)) {x3 : Int32} {x4 : Int32} {h : AH} (H : ((x4 < 0) → (GV g l X Q h 103 [(0, .ref 37), (1, .ref 26), (2, .ref x2), (3, .int x3), (4, .int (I 0)), (5, .int (I 0))] [])) ∧ ((¬ (x4 < 0)) → (GV g l X Q h 47 [(0, .ref 37), (1, .ref 26), (2, .ref x2), (3, .int x3), (4, .int x4), (5, .int (I 0))] []))) : GV g l X Q h 39 [(0, .ref 37), (1, .ref 26), (2, .ref x2), (3, .int x3), (4, .int x4)] [] := by
  refine g_iload (pc := 39) O rfl dX6_match_39 ?_
  refine g_if_lt (tgt := 97) (pc := 41) O dX6_match_41 rfl (fun q1 => ?_) (fun q1 => ?_)
  · replace H := H.1 q1
    refine g_iconst (v := (I 0)) (pc := 97) O rfl dX6_match_97 ?_
    refine g_istore (lv' := [(0, .ref 37), (1, .ref 26), (2, .ref x2), (3, .int x3), (4, .int (I 0))]) (pc := 98) O dX6_match_98 (ltb rfl) rfl ?_
    refine g_iconst (v := (I 0)) (pc := 100) O rfl dX6_match_100 ?_
    refine g_istore (lv' := [(0, .ref 37), (1, .ref 26), (2, .ref x2), (3, .int x3), (4, .int (I 0)), (5, .int (I 0))]) (pc := 101) O dX6_match_101 (ltb rfl) rfl ?_
    exact H
  · replace H := H.2 q1
    refine g_iconst (v := (I 0)) (pc := 44) O rfl dX6_match_44 ?_
    refine g_istore (lv' := [(0, .ref 37), (1, .ref 26), (2, .ref x2), (3, .int x3), (4, .int x4), (5, .int (I 0))]) (pc := 45) O dX6_match_45 (ltb rfl) rfl ?_
    exact H
set_option maxRecDepth 20000 in
set_option maxHeartbeats 2000000 in
theorem bX6_match_47 {g : mg} {l : Launch} {X : XT} {Q : AH → Prop} (O : Ok (FF g l X) RX6 cX6_match 6 mX6_match.2.2.2.2 none) {x2 : Nat} (hx2 : lay x2 = (0, 7)) {x3 : Int32} {x4 : Int32} {x5 : Int32} {h : AH} (H : (((h.1 x2 5) < x5) → (GV g l X Q h 39 [(0, .ref 37), (1, .ref 26), (2, .ref x2), (3, .int x3), (4, .int (x4 + I (-1)))] [])) ∧ ((¬ ((h.1 x2 5) < x5)) → (∃ j2 : Nat, x4 = I (j2 : Int) ∧ j2 < 40 ∧ (SpI g l mX6_mostFrom h [.ref 37, .int x4, .int x5, .int (h.1 27 j2), .ref x2] (fun v3 hv3 => ∃ j4 : Nat, ((x4 * (I 9)) + x5) = I (j4 : Int) ∧ j4 < 369 ∧ (GV g l X Q (sI hv3 41 j4 v3) 47 [(0, .ref 37), (1, .ref 26), (2, .ref x2), (3, .int x3), (4, .int x4), (5, .int (x5 + I 1))] [])))))) : GV g l X Q h 47 [(0, .ref 37), (1, .ref 26), (2, .ref x2), (3, .int x3), (4, .int x4), (5, .int x5)] [] := by
  refine g_iload (pc := 47) O rfl dX6_match_47 ?_
  refine g_aloadn (pc := 49) O rfl dX6_match_49 ?_
  refine g_getI (v := h.1 x2 5) (pc := 50) O cls0 fl_X6_57 dX6_match_50 hx2 (lay_lt hx2 (by decide)) (ltb rfl) rfl rfl ?_
  refine g_icmp_gt (tgt := 91) (pc := 53) O dX6_match_53 rfl (fun q1 => ?_) (fun q1 => ?_)
  · replace H := H.1 q1
    refine g_iinc (lv' := [(0, .ref 37), (1, .ref 26), (2, .ref x2), (3, .int x3), (4, .int (x4 + I (-1))), (5, .int x5)]) (pc := 91) O dX6_match_91 rfl rfl (ltb rfl) rfl ?_
    refine g_goto (tgt := 39) (pc := 94) O dX6_match_94 rfl ?_
    refine g_sub [0, 1, 2, 3, 4] rfl ?_
    exact H
  · replace H := H.2 q1
    refine g_aloadn (pc := 56) O rfl dX6_match_56 ?_
    refine g_getS (pc := 57) O cls6 fl_X6_21 dX6_match_57 rfl (ltb rfl) (ltb rfl) rfl rfl ?_
    refine g_iload (pc := 60) O rfl dX6_match_60 ?_
    refine g_bipush (v := (I 9)) (pc := 62) O (by decide) dX6_match_62 ?_
    refine g_imul (pc := 64) O dX6_match_64 ?_
    refine g_iload (pc := 65) O rfl dX6_match_65 ?_
    refine g_iadd (pc := 67) O dX6_match_67 ?_
    refine g_aloadn (pc := 68) O rfl dX6_match_68 ?_
    refine g_iload (pc := 69) O rfl dX6_match_69 ?_
    refine g_iload (pc := 71) O rfl dX6_match_71 ?_
    refine g_aloadn (pc := 73) O rfl dX6_match_73 ?_
    refine g_getS (pc := 74) O cls3 fl_X6_34 dX6_match_74 rfl (ltb rfl) (ltb rfl) rfl rfl ?_
    refine g_iload (pc := 77) O rfl dX6_match_77 ?_
    obtain ⟨j2, ej2, bj2, H⟩ := H
    refine g_iald (j := j2) (pc := 79) O dX6_match_79 ej2 rfl (ltb rfl) bj2 (ltb rfl) rfl ?_
    refine g_aloadn (pc := 80) O rfl dX6_match_80 ?_
    refine g_vI [.int x4, .int x5, .int (h.1 27 j2), .ref x2] [.int ((x4 * (I 9)) + x5), .ref 41] (pc := 81) O mk_X6_mostFrom ml_X6_60 im_X6_mostFrom se_X6_mostFrom cls6 rfl ⟨rfl, rfl, leb rfl, leb rfl⟩ rfl (leb rfl) dX6_match_81 H rfl (fun v3 hv3 H => ?_)
    obtain ⟨j4, ej4, bj4, H⟩ := H
    refine g_iast (j := j4) (pc := 84) O dX6_match_84 ej4 rfl (ltb rfl) (leb rfl) bj4 (ltb rfl) ?_
    refine g_iinc (lv' := [(0, .ref 37), (1, .ref 26), (2, .ref x2), (3, .int x3), (4, .int x4), (5, .int (x5 + I 1))]) (pc := 85) O dX6_match_85 rfl rfl (ltb rfl) rfl ?_
    refine g_goto (tgt := 47) (pc := 88) O dX6_match_88 rfl ?_
    exact H
set_option maxRecDepth 20000 in
set_option maxHeartbeats 2000000 in
theorem bX6_match_103 {g : mg} {l : Launch} {X : XT} {Q : AH → Prop} (O : Ok (FF g l X) RX6 cX6_match 6 mX6_match.2.2.2.2 none) {x2 : Nat} (hx2 : lay x2 = (0, 7)) {x3 : Int32} {x4 : Int32} {x5 : Int32} {h : AH} (H : ((x3 ≤ x5) → (((¬ x3 = 0) → (Q (sI h 37 3 (h.1 41 0)))) ∧ ((x3 = 0) → (Q (sI h 37 3 (I 0)))))) ∧ ((¬ (x3 ≤ x5)) → (∃ j4 : Nat, x5 = I (j4 : Int) ∧ j4 < 40 ∧ (SpI g l mX6_leastBill h [.ref 37, .int x5, .int x4, .int (h.1 27 j4), .ref x2] (fun v5 hv5 => ∃ j6 : Nat, x5 = I (j6 : Int) ∧ j6 < 40 ∧ (∃ j7 : Nat, x5 = I (j7 : Int) ∧ j7 < 40 ∧ (((¬ ((sI hv5 40 j6 v5).1 40 j7) = 0) → (∃ j9 : Nat, x5 = I (j9 : Int) ∧ j9 < 40 ∧ (GV g l X Q (sI hv5 40 j6 v5) 103 [(0, .ref 37), (1, .ref 26), (2, .ref x2), (3, .int x3), (4, .int ((sI hv5 40 j6 v5).1 40 j9)), (5, .int (x5 + I 1))] []))) ∧ ((((sI hv5 40 j6 v5).1 40 j7) = 0) → (GV g l X Q (sI hv5 40 j6 v5) 103 [(0, .ref 37), (1, .ref 26), (2, .ref x2), (3, .int x3), (4, .int x4), (5, .int (x5 + I 1))] []))))))))) : GV g l X Q h 103 [(0, .ref 37), (1, .ref 26), (2, .ref x2), (3, .int x3), (4, .int x4), (5, .int x5)] [] := by
  refine g_iload (pc := 103) O rfl dX6_match_103 ?_
  refine g_iloadn (pc := 105) O rfl dX6_match_105 ?_
  refine g_icmp_ge (tgt := 162) (pc := 106) O dX6_match_106 rfl (fun q1 => ?_) (fun q1 => ?_)
  · replace H := H.1 q1
    refine g_aloadn (pc := 162) O rfl dX6_match_162 ?_
    refine g_iloadn (pc := 163) O rfl dX6_match_163 ?_
    refine g_if_ne (tgt := 171) (pc := 164) O dX6_match_164 rfl (fun q2 => ?_) (fun q2 => ?_)
    · replace H := H.1 q2
      refine g_aloadn (pc := 171) O rfl dX6_match_171 ?_
      refine g_getS (pc := 172) O cls6 fl_X6_21 dX6_match_172 rfl (ltb rfl) (ltb rfl) rfl rfl ?_
      refine g_iconst (v := (I 0)) (pc := 175) O rfl dX6_match_175 ?_
      refine g_iald (j := 0) (pc := 176) O dX6_match_176 rfl rfl (ltb rfl) (ltb rfl) (ltb rfl) rfl ?_
      refine g_putI (pc := 177) O cls6 fl_X6_67 dX6_match_177 rfl (ltb rfl) (leb rfl) (ltb rfl) rfl rfl (by decide +kernel) ?_
      exact g_vret (pc := 180) O dX6_match_180 H
    · replace H := H.2 q2
      refine g_iconst (v := (I 0)) (pc := 167) O rfl dX6_match_167 ?_
      refine g_goto (tgt := 177) (pc := 168) O dX6_match_168 rfl ?_
      refine g_putI (pc := 177) O cls6 fl_X6_67 dX6_match_177 rfl (ltb rfl) (leb rfl) (ltb rfl) rfl rfl (by decide +kernel) ?_
      exact g_vret (pc := 180) O dX6_match_180 H
  · replace H := H.2 q1
    refine g_aloadn (pc := 109) O rfl dX6_match_109 ?_
    refine g_getS (pc := 110) O cls6 fl_X6_18 dX6_match_110 rfl (ltb rfl) (ltb rfl) rfl rfl ?_
    refine g_iload (pc := 113) O rfl dX6_match_113 ?_
    refine g_aloadn (pc := 115) O rfl dX6_match_115 ?_
    refine g_iload (pc := 116) O rfl dX6_match_116 ?_
    refine g_iload (pc := 118) O rfl dX6_match_118 ?_
    refine g_aloadn (pc := 120) O rfl dX6_match_120 ?_
    refine g_getS (pc := 121) O cls3 fl_X6_34 dX6_match_121 rfl (ltb rfl) (ltb rfl) rfl rfl ?_
    refine g_iload (pc := 124) O rfl dX6_match_124 ?_
    obtain ⟨j4, ej4, bj4, H⟩ := H
    refine g_iald (j := j4) (pc := 126) O dX6_match_126 ej4 rfl (ltb rfl) bj4 (ltb rfl) rfl ?_
    refine g_aloadn (pc := 127) O rfl dX6_match_127 ?_
    refine g_vI [.int x5, .int x4, .int (h.1 27 j4), .ref x2] [.int x5, .ref 40] (pc := 128) O mk_X6_leastBill ml_X6_64 im_X6_leastBill se_X6_leastBill cls6 rfl ⟨rfl, rfl, leb rfl, leb rfl⟩ rfl (leb rfl) dX6_match_128 H rfl (fun v5 hv5 H => ?_)
    obtain ⟨j6, ej6, bj6, H⟩ := H
    refine g_iast (j := j6) (pc := 131) O dX6_match_131 ej6 rfl (ltb rfl) (leb rfl) bj6 (ltb rfl) ?_
    refine g_aloadn (pc := 132) O rfl dX6_match_132 ?_
    refine g_getS (pc := 133) O cls6 fl_X6_18 dX6_match_133 rfl (ltb rfl) (ltb rfl) rfl rfl ?_
    refine g_iload (pc := 136) O rfl dX6_match_136 ?_
    obtain ⟨j7, ej7, bj7, H⟩ := H
    refine g_iald (j := j7) (pc := 138) O dX6_match_138 ej7 rfl (ltb rfl) bj7 (ltb rfl) rfl ?_
    refine g_if_ne (tgt := 147) (pc := 139) O dX6_match_139 rfl (fun q8 => ?_) (fun q8 => ?_)
    · replace H := H.1 q8
      refine g_aloadn (pc := 147) O rfl dX6_match_147 ?_
      refine g_getS (pc := 148) O cls6 fl_X6_18 dX6_match_148 rfl (ltb rfl) (ltb rfl) rfl rfl ?_
      refine g_iload (pc := 151) O rfl dX6_match_151 ?_
      obtain ⟨j9, ej9, bj9, H⟩ := H
      refine g_iald (j := j9) (pc := 153) O dX6_match_153 ej9 rfl (ltb rfl) bj9 (ltb rfl) rfl ?_
      refine g_istore (lv' := [(0, .ref 37), (1, .ref 26), (2, .ref x2), (3, .int x3), (4, .int ((sI hv5 40 j6 v5).1 40 j9)), (5, .int x5)]) (pc := 154) O dX6_match_154 (ltb rfl) rfl ?_
      refine g_iinc (lv' := [(0, .ref 37), (1, .ref 26), (2, .ref x2), (3, .int x3), (4, .int ((sI hv5 40 j6 v5).1 40 j9)), (5, .int (x5 + I 1))]) (pc := 156) O dX6_match_156 rfl rfl (ltb rfl) rfl ?_
      refine g_goto (tgt := 103) (pc := 159) O dX6_match_159 rfl ?_
      exact H
    · replace H := H.2 q8
      refine g_iload (pc := 142) O rfl dX6_match_142 ?_
      refine g_goto (tgt := 154) (pc := 144) O dX6_match_144 rfl ?_
      refine g_istore (lv' := [(0, .ref 37), (1, .ref 26), (2, .ref x2), (3, .int x3), (4, .int x4), (5, .int x5)]) (pc := 154) O dX6_match_154 (ltb rfl) rfl ?_
      refine g_iinc (lv' := [(0, .ref 37), (1, .ref 26), (2, .ref x2), (3, .int x3), (4, .int x4), (5, .int (x5 + I 1))]) (pc := 156) O dX6_match_156 rfl rfl (ltb rfl) rfl ?_
      refine g_goto (tgt := 103) (pc := 159) O dX6_match_159 rfl ?_
      exact H
set_option maxRecDepth 20000 in
set_option maxHeartbeats 2000000 in
theorem sX6_match {g : mg} {l : Launch} {Q : AH → Prop} {x2 : Nat} (hx2 : lay x2 = (0, 7)) {h : AH} (H : ∀ X, Ok (FF g l X) RX6 cX6_match 6 mX6_match.2.2.2.2 none → GV g l X Q h 8 [(0, .ref 37), (1, .ref 26), (2, .ref x2), (3, .int (h.1 26 0)), (4, .int (I 0))] []) : SpV g l mX6_match h [.ref 37, .ref 26, .ref x2] Q := spV_of (by decide) (leb rfl) (fun X O => bX6_match_0 O hx2 (H X O))
set_option maxRecDepth 20000 in
set_option maxHeartbeats 2000000 in
theorem bX6_mostFrom_0 {g : mg} {l : Launch} {X : XT} {Q : Int32 → AH → Prop} (O : Ok (FF g l X) RX6 cX6_mostFrom 7 mX6_mostFrom.2.2.2.2 (some .int)) {x1 : Int32} {x2 : Int32} {x3 : Int32} {x4 : Nat} (hx4 : lay x4 = (0, 7)) {h : AH} (H : ∃ j1 : Nat, (((x1 + (I 1)) * (I 9)) + x2) = I (j1 : Int) ∧ j1 < 369 ∧ (GI g l X Q h 18 [(0, .ref 37), (1, .int x1), (2, .int x2), (3, .int x3), (4, .ref x4), (5, .int (h.1 41 j1)), (6, .int (I 1))] [])) : GI g l X Q h 0 [(0, .ref 37), (1, .int x1), (2, .int x2), (3, .int x3), (4, .ref x4)] [] := by
  refine g_aloadn (pc := 0) O rfl dX6_mostFrom_0 ?_
  refine g_getS (pc := 1) O cls6 fl_X6_21 dX6_mostFrom_1 rfl (ltb rfl) (ltb rfl) rfl rfl ?_
  refine g_iloadn (pc := 4) O rfl dX6_mostFrom_4 ?_
  refine g_iconst (v := (I 1)) (pc := 5) O rfl dX6_mostFrom_5 ?_
  refine g_iadd (pc := 6) O dX6_mostFrom_6 ?_
  refine g_bipush (v := (I 9)) (pc := 7) O (by decide) dX6_mostFrom_7 ?_
  refine g_imul (pc := 9) O dX6_mostFrom_9 ?_
  refine g_iloadn (pc := 10) O rfl dX6_mostFrom_10 ?_
  refine g_iadd (pc := 11) O dX6_mostFrom_11 ?_
  obtain ⟨j1, ej1, bj1, H⟩ := H
  refine g_iald (j := j1) (pc := 12) O dX6_mostFrom_12 ej1 rfl (ltb rfl) bj1 (ltb rfl) rfl ?_
  refine g_istore (lv' := [(0, .ref 37), (1, .int x1), (2, .int x2), (3, .int x3), (4, .ref x4), (5, .int (h.1 41 j1))]) (pc := 13) O dX6_mostFrom_13 (ltb rfl) rfl ?_
  refine g_iconst (v := (I 1)) (pc := 15) O rfl dX6_mostFrom_15 ?_
  refine g_istore (lv' := [(0, .ref 37), (1, .int x1), (2, .int x2), (3, .int x3), (4, .ref x4), (5, .int (h.1 41 j1)), (6, .int (I 1))]) (pc := 16) O dX6_mostFrom_16 (ltb rfl) rfl ?_
  exact H
set_option maxRecDepth 20000 in
set_option maxHeartbeats 2000000 in
theorem bX6_mostFrom_18 {g : mg} {l : Launch} {X : XT} {Q : Int32 → AH → Prop} (O : Ok (FF g l X) RX6 cX6_mostFrom 7 mX6_mostFrom.2.2.2.2 (some .int)) {x1 : Int32} {x2 : Int32} {x3 : Int32} {x4 : Nat} (hx4 : lay x4 = (0, 7)) {x5 : Int32} {x6 : Int32} {h : AH} (H : (((h.1 x4 5) < x6) → (Q x5 h)) ∧ ((¬ ((h.1 x4 5) < x6)) → (SpI g l mX6_fits h [.ref 37, .int x1, .int x2, .int x6, .int x3, .ref x4] (fun v2 hv2 => ((v2 = 0) → (GI g l X Q hv2 18 [(0, .ref 37), (1, .int x1), (2, .int x2), (3, .int x3), (4, .ref x4), (5, .int x5), (6, .int (x6 + I 1))] [])) ∧ ((¬ (v2 = 0)) → (∃ j4 : Nat, (((x1 + (I 1)) * (I 9)) + x6) = I (j4 : Int) ∧ j4 < 369 ∧ (GI g l X Q hv2 18 [(0, .ref 37), (1, .int x1), (2, .int x2), (3, .int x3), (4, .ref x4), (5, .int (if x5 < ((I 1) + (hv2.1 41 j4)) then ((I 1) + (hv2.1 41 j4)) else x5)), (6, .int (x6 + I 1))] []))))))) : GI g l X Q h 18 [(0, .ref 37), (1, .int x1), (2, .int x2), (3, .int x3), (4, .ref x4), (5, .int x5), (6, .int x6)] [] := by
  refine g_iload (pc := 18) O rfl dX6_mostFrom_18 ?_
  refine g_aload (pc := 20) O rfl dX6_mostFrom_20 ?_
  refine g_getI (v := h.1 x4 5) (pc := 22) O cls0 fl_X6_57 dX6_mostFrom_22 hx4 (lay_lt hx4 (by decide)) (ltb rfl) rfl rfl ?_
  refine g_icmp_gt (tgt := 71) (pc := 25) O dX6_mostFrom_25 rfl (fun q1 => ?_) (fun q1 => ?_)
  · replace H := H.1 q1
    refine g_iload (pc := 71) O rfl dX6_mostFrom_71 ?_
    exact g_iret (pc := 73) O dX6_mostFrom_73 H
  · replace H := H.2 q1
    refine g_aloadn (pc := 28) O rfl dX6_mostFrom_28 ?_
    refine g_iloadn (pc := 29) O rfl dX6_mostFrom_29 ?_
    refine g_iloadn (pc := 30) O rfl dX6_mostFrom_30 ?_
    refine g_iload (pc := 31) O rfl dX6_mostFrom_31 ?_
    refine g_iloadn (pc := 33) O rfl dX6_mostFrom_33 ?_
    refine g_aload (pc := 34) O rfl dX6_mostFrom_34 ?_
    refine g_vI [.int x1, .int x2, .int x6, .int x3, .ref x4] [] (pc := 36) O mk_X6_fits ml_X6_70 im_X6_fits se_X6_fits cls6 rfl ⟨rfl, rfl, leb rfl, leb rfl⟩ rfl (leb rfl) dX6_mostFrom_36 H rfl (fun v2 hv2 H => ?_)
    refine g_if_eq (tgt := 65) (pc := 39) O dX6_mostFrom_39 rfl (fun q3 => ?_) (fun q3 => ?_)
    · replace H := H.1 q3
      refine g_iinc (lv' := [(0, .ref 37), (1, .int x1), (2, .int x2), (3, .int x3), (4, .ref x4), (5, .int x5), (6, .int (x6 + I 1))]) (pc := 65) O dX6_mostFrom_65 rfl rfl (ltb rfl) rfl ?_
      refine g_goto (tgt := 18) (pc := 68) O dX6_mostFrom_68 rfl ?_
      exact H
    · replace H := H.2 q3
      refine g_iload (pc := 42) O rfl dX6_mostFrom_42 ?_
      refine g_iconst (v := (I 1)) (pc := 44) O rfl dX6_mostFrom_44 ?_
      refine g_aloadn (pc := 45) O rfl dX6_mostFrom_45 ?_
      refine g_getS (pc := 46) O cls6 fl_X6_21 dX6_mostFrom_46 rfl (ltb rfl) (ltb rfl) rfl rfl ?_
      refine g_iloadn (pc := 49) O rfl dX6_mostFrom_49 ?_
      refine g_iconst (v := (I 1)) (pc := 50) O rfl dX6_mostFrom_50 ?_
      refine g_iadd (pc := 51) O dX6_mostFrom_51 ?_
      refine g_bipush (v := (I 9)) (pc := 52) O (by decide) dX6_mostFrom_52 ?_
      refine g_imul (pc := 54) O dX6_mostFrom_54 ?_
      refine g_iload (pc := 55) O rfl dX6_mostFrom_55 ?_
      refine g_iadd (pc := 57) O dX6_mostFrom_57 ?_
      obtain ⟨j4, ej4, bj4, H⟩ := H
      refine g_iald (j := j4) (pc := 58) O dX6_mostFrom_58 ej4 rfl (ltb rfl) bj4 (ltb rfl) rfl ?_
      refine g_iadd (pc := 59) O dX6_mostFrom_59 ?_
      refine g_mmax (pc := 60) O ml_X6_42 ⟨leb rfl, leb rfl⟩ (leb rfl) dX6_mostFrom_60 ?_
      refine g_istore (lv' := [(0, .ref 37), (1, .int x1), (2, .int x2), (3, .int x3), (4, .ref x4), (5, .int (if x5 < ((I 1) + (hv2.1 41 j4)) then ((I 1) + (hv2.1 41 j4)) else x5)), (6, .int x6)]) (pc := 63) O dX6_mostFrom_63 (ltb rfl) rfl ?_
      refine g_iinc (lv' := [(0, .ref 37), (1, .int x1), (2, .int x2), (3, .int x3), (4, .ref x4), (5, .int (if x5 < ((I 1) + (hv2.1 41 j4)) then ((I 1) + (hv2.1 41 j4)) else x5)), (6, .int (x6 + I 1))]) (pc := 65) O dX6_mostFrom_65 rfl rfl (ltb rfl) rfl ?_
      refine g_goto (tgt := 18) (pc := 68) O dX6_mostFrom_68 rfl ?_
      exact H
set_option maxRecDepth 20000 in
set_option maxHeartbeats 2000000 in
theorem sX6_mostFrom {g : mg} {l : Launch} {Q : Int32 → AH → Prop} {x1 : Int32} {x2 : Int32} {x3 : Int32} {x4 : Nat} (hx4 : lay x4 = (0, 7)) {h : AH} (H : ∀ X, Ok (FF g l X) RX6 cX6_mostFrom 7 mX6_mostFrom.2.2.2.2 (some .int) → ∃ j1 : Nat, (((x1 + (I 1)) * (I 9)) + x2) = I (j1 : Int) ∧ j1 < 369 ∧ (GI g l X Q h 18 [(0, .ref 37), (1, .int x1), (2, .int x2), (3, .int x3), (4, .ref x4), (5, .int (h.1 41 j1)), (6, .int (I 1))] [])) : SpI g l mX6_mostFrom h [.ref 37, .int x1, .int x2, .int x3, .ref x4] Q := spI_of (by decide) (leb rfl) (fun X O => bX6_mostFrom_0 O hx4 (H X O))
set_option maxRecDepth 20000 in
set_option maxHeartbeats 2000000 in
theorem bX6_leastBill_0 {g : mg} {l : Launch} {X : XT} {Q : Int32 → AH → Prop} (O : Ok (FF g l X) RX6 cX6_leastBill 7 mX6_leastBill.2.2.2.2 (some .int)) {x1 : Int32} {x2 : Int32} {x3 : Int32} {x4 : Nat} (hx4 : lay x4 = (0, 7)) {h : AH} (H : ∃ j1 : Nat, ((x1 * (I 9)) + x2) = I (j1 : Int) ∧ j1 < 369 ∧ (∃ j2 : Nat, (((x1 + (I 1)) * (I 9)) + x2) = I (j2 : Int) ∧ j2 < 369 ∧ (((¬ (h.1 41 j2) = (h.1 41 j1)) → (GI g l X Q h 36 [(0, .ref 37), (1, .int x1), (2, .int x2), (3, .int x3), (4, .ref x4), (5, .int (h.1 41 j1)), (6, .int (I 1))] [])) ∧ (((h.1 41 j2) = (h.1 41 j1)) → (Q (I 0) h))))) : GI g l X Q h 0 [(0, .ref 37), (1, .int x1), (2, .int x2), (3, .int x3), (4, .ref x4)] [] := by
  refine g_aloadn (pc := 0) O rfl dX6_leastBill_0 ?_
  refine g_getS (pc := 1) O cls6 fl_X6_21 dX6_leastBill_1 rfl (ltb rfl) (ltb rfl) rfl rfl ?_
  refine g_iloadn (pc := 4) O rfl dX6_leastBill_4 ?_
  refine g_bipush (v := (I 9)) (pc := 5) O (by decide) dX6_leastBill_5 ?_
  refine g_imul (pc := 7) O dX6_leastBill_7 ?_
  refine g_iloadn (pc := 8) O rfl dX6_leastBill_8 ?_
  refine g_iadd (pc := 9) O dX6_leastBill_9 ?_
  obtain ⟨j1, ej1, bj1, H⟩ := H
  refine g_iald (j := j1) (pc := 10) O dX6_leastBill_10 ej1 rfl (ltb rfl) bj1 (ltb rfl) rfl ?_
  refine g_istore (lv' := [(0, .ref 37), (1, .int x1), (2, .int x2), (3, .int x3), (4, .ref x4), (5, .int (h.1 41 j1))]) (pc := 11) O dX6_leastBill_11 (ltb rfl) rfl ?_
  refine g_aloadn (pc := 13) O rfl dX6_leastBill_13 ?_
  refine g_getS (pc := 14) O cls6 fl_X6_21 dX6_leastBill_14 rfl (ltb rfl) (ltb rfl) rfl rfl ?_
  refine g_iloadn (pc := 17) O rfl dX6_leastBill_17 ?_
  refine g_iconst (v := (I 1)) (pc := 18) O rfl dX6_leastBill_18 ?_
  refine g_iadd (pc := 19) O dX6_leastBill_19 ?_
  refine g_bipush (v := (I 9)) (pc := 20) O (by decide) dX6_leastBill_20 ?_
  refine g_imul (pc := 22) O dX6_leastBill_22 ?_
  refine g_iloadn (pc := 23) O rfl dX6_leastBill_23 ?_
  refine g_iadd (pc := 24) O dX6_leastBill_24 ?_
  obtain ⟨j2, ej2, bj2, H⟩ := H
  refine g_iald (j := j2) (pc := 25) O dX6_leastBill_25 ej2 rfl (ltb rfl) bj2 (ltb rfl) rfl ?_
  refine g_iload (pc := 26) O rfl dX6_leastBill_26 ?_
  refine g_icmp_ne (tgt := 33) (pc := 28) O dX6_leastBill_28 rfl (fun q3 => ?_) (fun q3 => ?_)
  · replace H := H.1 q3
    refine g_iconst (v := (I 1)) (pc := 33) O rfl dX6_leastBill_33 ?_
    refine g_istore (lv' := [(0, .ref 37), (1, .int x1), (2, .int x2), (3, .int x3), (4, .ref x4), (5, .int (h.1 41 j1)), (6, .int (I 1))]) (pc := 34) O dX6_leastBill_34 (ltb rfl) rfl ?_
    exact H
  · replace H := H.2 q3
    refine g_iconst (v := (I 0)) (pc := 31) O rfl dX6_leastBill_31 ?_
    exact g_iret (pc := 32) O dX6_leastBill_32 H
set_option maxRecDepth 20000 in
set_option maxHeartbeats 2000000 in
theorem bX6_leastBill_36 {g : mg} {l : Launch} {X : XT} {Q : Int32 → AH → Prop} (O : Ok (FF g l X) RX6 cX6_leastBill 7 mX6_leastBill.2.2.2.2 (some .int)) {x1 : Int32} {x2 : Int32} {x3 : Int32} {x4 : Nat} (hx4 : lay x4 = (0, 7)) {x5 : Int32} {x6 : Int32} {h : AH} (H : (((h.1 x4 5) < x6) → (Q (I 0) h)) ∧ ((¬ ((h.1 x4 5) < x6)) → (SpI g l mX6_fits h [.ref 37, .int x1, .int x2, .int x6, .int x3, .ref x4] (fun v2 hv2 => ((v2 = 0) → (GI g l X Q hv2 36 [(0, .ref 37), (1, .int x1), (2, .int x2), (3, .int x3), (4, .ref x4), (5, .int x5), (6, .int (x6 + I 1))] [])) ∧ ((¬ (v2 = 0)) → (∃ j4 : Nat, (((x1 + (I 1)) * (I 9)) + x6) = I (j4 : Int) ∧ j4 < 369 ∧ (((¬ ((I 1) + (hv2.1 41 j4)) = x5) → (GI g l X Q hv2 36 [(0, .ref 37), (1, .int x1), (2, .int x2), (3, .int x3), (4, .ref x4), (5, .int x5), (6, .int (x6 + I 1))] [])) ∧ ((((I 1) + (hv2.1 41 j4)) = x5) → (Q x6 hv2))))))))) : GI g l X Q h 36 [(0, .ref 37), (1, .int x1), (2, .int x2), (3, .int x3), (4, .ref x4), (5, .int x5), (6, .int x6)] [] := by
  refine g_iload (pc := 36) O rfl dX6_leastBill_36 ?_
  refine g_aload (pc := 38) O rfl dX6_leastBill_38 ?_
  refine g_getI (v := h.1 x4 5) (pc := 40) O cls0 fl_X6_57 dX6_leastBill_40 hx4 (lay_lt hx4 (by decide)) (ltb rfl) rfl rfl ?_
  refine g_icmp_gt (tgt := 90) (pc := 43) O dX6_leastBill_43 rfl (fun q1 => ?_) (fun q1 => ?_)
  · replace H := H.1 q1
    refine g_iconst (v := (I 0)) (pc := 90) O rfl dX6_leastBill_90 ?_
    exact g_iret (pc := 91) O dX6_leastBill_91 H
  · replace H := H.2 q1
    refine g_aloadn (pc := 46) O rfl dX6_leastBill_46 ?_
    refine g_iloadn (pc := 47) O rfl dX6_leastBill_47 ?_
    refine g_iloadn (pc := 48) O rfl dX6_leastBill_48 ?_
    refine g_iload (pc := 49) O rfl dX6_leastBill_49 ?_
    refine g_iloadn (pc := 51) O rfl dX6_leastBill_51 ?_
    refine g_aload (pc := 52) O rfl dX6_leastBill_52 ?_
    refine g_vI [.int x1, .int x2, .int x6, .int x3, .ref x4] [] (pc := 54) O mk_X6_fits ml_X6_70 im_X6_fits se_X6_fits cls6 rfl ⟨rfl, rfl, leb rfl, leb rfl⟩ rfl (leb rfl) dX6_leastBill_54 H rfl (fun v2 hv2 H => ?_)
    refine g_if_eq (tgt := 84) (pc := 57) O dX6_leastBill_57 rfl (fun q3 => ?_) (fun q3 => ?_)
    · replace H := H.1 q3
      refine g_iinc (lv' := [(0, .ref 37), (1, .int x1), (2, .int x2), (3, .int x3), (4, .ref x4), (5, .int x5), (6, .int (x6 + I 1))]) (pc := 84) O dX6_leastBill_84 rfl rfl (ltb rfl) rfl ?_
      refine g_goto (tgt := 36) (pc := 87) O dX6_leastBill_87 rfl ?_
      exact H
    · replace H := H.2 q3
      refine g_iconst (v := (I 1)) (pc := 60) O rfl dX6_leastBill_60 ?_
      refine g_aloadn (pc := 61) O rfl dX6_leastBill_61 ?_
      refine g_getS (pc := 62) O cls6 fl_X6_21 dX6_leastBill_62 rfl (ltb rfl) (ltb rfl) rfl rfl ?_
      refine g_iloadn (pc := 65) O rfl dX6_leastBill_65 ?_
      refine g_iconst (v := (I 1)) (pc := 66) O rfl dX6_leastBill_66 ?_
      refine g_iadd (pc := 67) O dX6_leastBill_67 ?_
      refine g_bipush (v := (I 9)) (pc := 68) O (by decide) dX6_leastBill_68 ?_
      refine g_imul (pc := 70) O dX6_leastBill_70 ?_
      refine g_iload (pc := 71) O rfl dX6_leastBill_71 ?_
      refine g_iadd (pc := 73) O dX6_leastBill_73 ?_
      obtain ⟨j4, ej4, bj4, H⟩ := H
      refine g_iald (j := j4) (pc := 74) O dX6_leastBill_74 ej4 rfl (ltb rfl) bj4 (ltb rfl) rfl ?_
      refine g_iadd (pc := 75) O dX6_leastBill_75 ?_
      refine g_iload (pc := 76) O rfl dX6_leastBill_76 ?_
      refine g_icmp_ne (tgt := 84) (pc := 78) O dX6_leastBill_78 rfl (fun q5 => ?_) (fun q5 => ?_)
      · replace H := H.1 q5
        refine g_iinc (lv' := [(0, .ref 37), (1, .int x1), (2, .int x2), (3, .int x3), (4, .ref x4), (5, .int x5), (6, .int (x6 + I 1))]) (pc := 84) O dX6_leastBill_84 rfl rfl (ltb rfl) rfl ?_
        refine g_goto (tgt := 36) (pc := 87) O dX6_leastBill_87 rfl ?_
        exact H
      · replace H := H.2 q5
        refine g_iload (pc := 81) O rfl dX6_leastBill_81 ?_
        exact g_iret (pc := 83) O dX6_leastBill_83 H
set_option maxRecDepth 20000 in
set_option maxHeartbeats 2000000 in
theorem sX6_leastBill {g : mg} {l : Launch} {Q : Int32 → AH → Prop} {x1 : Int32} {x2 : Int32} {x3 : Int32} {x4 : Nat} (hx4 : lay x4 = (0, 7)) {h : AH} (H : ∀ X, Ok (FF g l X) RX6 cX6_leastBill 7 mX6_leastBill.2.2.2.2 (some .int) → ∃ j1 : Nat, ((x1 * (I 9)) + x2) = I (j1 : Int) ∧ j1 < 369 ∧ (∃ j2 : Nat, (((x1 + (I 1)) * (I 9)) + x2) = I (j2 : Int) ∧ j2 < 369 ∧ (((¬ (h.1 41 j2) = (h.1 41 j1)) → (GI g l X Q h 36 [(0, .ref 37), (1, .int x1), (2, .int x2), (3, .int x3), (4, .ref x4), (5, .int (h.1 41 j1)), (6, .int (I 1))] [])) ∧ (((h.1 41 j2) = (h.1 41 j1)) → (Q (I 0) h))))) : SpI g l mX6_leastBill h [.ref 37, .int x1, .int x2, .int x3, .ref x4] Q := spI_of (by decide) (leb rfl) (fun X O => bX6_leastBill_0 O hx4 (H X O))
set_option maxRecDepth 20000 in
set_option maxHeartbeats 2000000 in
theorem bX6_fits_0 {g : mg} {l : Launch} {X : XT} {Q : Int32 → AH → Prop} (O : Ok (FF g l X) RX6 cX6_fits 8 mX6_fits.2.2.2.2 (some .boolean)) {x1 : Int32} {x2 : Int32} {x3 : Int32} {x4 : Int32} {x5 : Nat} (hx5 : lay x5 = (0, 7)) {h : AH} (H : ∃ j1 : Nat, (x3 - (I 1)) = I (j1 : Int) ∧ j1 < 8 ∧ (((x2 = 0) → (GI g l X Q h 29 [(0, .ref 37), (1, .int x1), (3, .int x3), (4, .int x4), (5, .ref x5), (6, .int (h.1 (x5 + 4) j1))] [])) ∧ ((¬ (x2 = 0)) → (∃ j3 : Nat, (x2 - (I 1)) = I (j3 : Int) ∧ j3 < 8 ∧ ((((h.1 (x5 + 4) j1) ≤ (h.1 (x5 + 4) j3)) → ((((h.1 37 0) = 0) → (Q (I 0) h)) ∧ ((¬ ((h.1 37 0) = 0)) → ((((I 0) = 0) → (Q (I 0) h)) ∧ ((¬ ((I 0) = 0)) → (∃ j7 : Nat, (x3 - (I 1)) = I (j7 : Int) ∧ j7 < 8 ∧ (((¬ (h.1 (x5 + 5) j7) = x4) → (Q (I 0) h)) ∧ (((h.1 (x5 + 5) j7) = x4) → (∃ j9 : Nat, x1 = I (j9 : Int) ∧ j9 < 40 ∧ ((((h.1 (x5 + 4) j1) < (h.1 38 j9)) → (Q (I 0) h)) ∧ ((¬ ((h.1 (x5 + 4) j1) < (h.1 38 j9))) → (∃ j11 : Nat, x1 = I (j11 : Int) ∧ j11 < 40 ∧ ((((h.1 39 j11) < (h.1 (x5 + 4) j1)) → (Q (I 0) h)) ∧ ((¬ ((h.1 39 j11) < (h.1 (x5 + 4) j1))) → (Q (I 1) h))))))))))))))) ∧ ((¬ ((h.1 (x5 + 4) j1) ≤ (h.1 (x5 + 4) j3))) → (GI g l X Q h 29 [(0, .ref 37), (1, .int x1), (3, .int x3), (4, .int x4), (5, .ref x5), (6, .int (h.1 (x5 + 4) j1))] []))))))) : GI g l X Q h 0 [(0, .ref 37), (1, .int x1), (2, .int x2), (3, .int x3), (4, .int x4), (5, .ref x5)] [] := by
  refine g_aload (pc := 0) O rfl dX6_fits_0 ?_
  refine g_getS (pc := 2) O cls0 fl_X6_74 dX6_fits_2 hx5 (lay_lt hx5 (by decide)) (ltb rfl) rfl (sr_book3 hx5) ?_
  refine g_iloadn (pc := 5) O rfl dX6_fits_5 ?_
  refine g_iconst (v := (I 1)) (pc := 6) O rfl dX6_fits_6 ?_
  refine g_isub (pc := 7) O dX6_fits_7 ?_
  obtain ⟨j1, ej1, bj1, H⟩ := H
  refine g_iald (j := j1) (pc := 8) O dX6_fits_8 ej1 (lay_book3 hx5) (lay_lt (lay_book3 hx5) (by decide)) bj1 (ltb rfl) rfl ?_
  refine g_istore (lv' := [(0, .ref 37), (1, .int x1), (2, .int x2), (3, .int x3), (4, .int x4), (5, .ref x5), (6, .int (h.1 (x5 + 4) j1))]) (pc := 9) O dX6_fits_9 (ltb rfl) rfl ?_
  refine g_iloadn (pc := 11) O rfl dX6_fits_11 ?_
  refine g_if_eq (tgt := 29) (pc := 12) O dX6_fits_12 rfl (fun q2 => ?_) (fun q2 => ?_)
  · replace H := H.1 q2
    refine g_sub [0, 1, 3, 4, 5, 6] rfl ?_
    exact H
  · replace H := H.2 q2
    refine g_iload (pc := 15) O rfl dX6_fits_15 ?_
    refine g_aload (pc := 17) O rfl dX6_fits_17 ?_
    refine g_getS (pc := 19) O cls0 fl_X6_74 dX6_fits_19 hx5 (lay_lt hx5 (by decide)) (ltb rfl) rfl (sr_book3 hx5) ?_
    refine g_iloadn (pc := 22) O rfl dX6_fits_22 ?_
    refine g_iconst (v := (I 1)) (pc := 23) O rfl dX6_fits_23 ?_
    refine g_isub (pc := 24) O dX6_fits_24 ?_
    obtain ⟨j3, ej3, bj3, H⟩ := H
    refine g_iald (j := j3) (pc := 25) O dX6_fits_25 ej3 (lay_book3 hx5) (lay_lt (lay_book3 hx5) (by decide)) bj3 (ltb rfl) rfl ?_
    refine g_icmp_le (tgt := 33) (pc := 26) O dX6_fits_26 rfl (fun q4 => ?_) (fun q4 => ?_)
    · replace H := H.1 q4
      refine g_iconst (v := (I 0)) (pc := 33) O rfl dX6_fits_33 ?_
      refine g_istore (lv' := [(0, .ref 37), (1, .int x1), (2, .int x2), (3, .int x3), (4, .int x4), (5, .ref x5), (6, .int (h.1 (x5 + 4) j1)), (7, .int (I 0))]) (pc := 34) O dX6_fits_34 (ltb rfl) rfl ?_
      refine g_aloadn (pc := 36) O rfl dX6_fits_36 ?_
      refine g_getI (v := h.1 37 0) (pc := 37) O cls6 fl_X6_30 dX6_fits_37 rfl (ltb rfl) (ltb rfl) rfl rfl ?_
      refine g_if_eq (tgt := 88) (pc := 40) O dX6_fits_40 rfl (fun q5 => ?_) (fun q5 => ?_)
      · replace H := H.1 q5
        refine g_iconst (v := (I 0)) (pc := 88) O rfl dX6_fits_88 ?_
        exact g_zret (pc := 89) O dX6_fits_89 (by decide) H
      · replace H := H.2 q5
        refine g_iload (pc := 43) O rfl dX6_fits_43 ?_
        refine g_if_eq (tgt := 88) (pc := 45) O dX6_fits_45 rfl (fun q6 => ?_) (fun q6 => ?_)
        · replace H := H.1 q6
          refine g_iconst (v := (I 0)) (pc := 88) O rfl dX6_fits_88 ?_
          exact g_zret (pc := 89) O dX6_fits_89 (by decide) H
        · replace H := H.2 q6
          refine g_aload (pc := 48) O rfl dX6_fits_48 ?_
          refine g_getS (pc := 50) O cls0 fl_X6_77 dX6_fits_50 hx5 (lay_lt hx5 (by decide)) (ltb rfl) rfl (sr_book4 hx5) ?_
          refine g_iloadn (pc := 53) O rfl dX6_fits_53 ?_
          refine g_iconst (v := (I 1)) (pc := 54) O rfl dX6_fits_54 ?_
          refine g_isub (pc := 55) O dX6_fits_55 ?_
          obtain ⟨j7, ej7, bj7, H⟩ := H
          refine g_iald (j := j7) (pc := 56) O dX6_fits_56 ej7 (lay_book4 hx5) (lay_lt (lay_book4 hx5) (by decide)) bj7 (ltb rfl) rfl ?_
          refine g_iload (pc := 57) O rfl dX6_fits_57 ?_
          refine g_icmp_ne (tgt := 88) (pc := 59) O dX6_fits_59 rfl (fun q8 => ?_) (fun q8 => ?_)
          · replace H := H.1 q8
            refine g_iconst (v := (I 0)) (pc := 88) O rfl dX6_fits_88 ?_
            exact g_zret (pc := 89) O dX6_fits_89 (by decide) H
          · replace H := H.2 q8
            refine g_iload (pc := 62) O rfl dX6_fits_62 ?_
            refine g_aloadn (pc := 64) O rfl dX6_fits_64 ?_
            refine g_getS (pc := 65) O cls6 fl_X6_9 dX6_fits_65 rfl (ltb rfl) (ltb rfl) rfl rfl ?_
            refine g_iloadn (pc := 68) O rfl dX6_fits_68 ?_
            obtain ⟨j9, ej9, bj9, H⟩ := H
            refine g_iald (j := j9) (pc := 69) O dX6_fits_69 ej9 rfl (ltb rfl) bj9 (ltb rfl) rfl ?_
            refine g_icmp_lt (tgt := 88) (pc := 70) O dX6_fits_70 rfl (fun q10 => ?_) (fun q10 => ?_)
            · replace H := H.1 q10
              refine g_iconst (v := (I 0)) (pc := 88) O rfl dX6_fits_88 ?_
              exact g_zret (pc := 89) O dX6_fits_89 (by decide) H
            · replace H := H.2 q10
              refine g_iload (pc := 73) O rfl dX6_fits_73 ?_
              refine g_aloadn (pc := 75) O rfl dX6_fits_75 ?_
              refine g_getS (pc := 76) O cls6 fl_X6_15 dX6_fits_76 rfl (ltb rfl) (ltb rfl) rfl rfl ?_
              refine g_iloadn (pc := 79) O rfl dX6_fits_79 ?_
              obtain ⟨j11, ej11, bj11, H⟩ := H
              refine g_iald (j := j11) (pc := 80) O dX6_fits_80 ej11 rfl (ltb rfl) bj11 (ltb rfl) rfl ?_
              refine g_icmp_gt (tgt := 88) (pc := 81) O dX6_fits_81 rfl (fun q12 => ?_) (fun q12 => ?_)
              · replace H := H.1 q12
                refine g_iconst (v := (I 0)) (pc := 88) O rfl dX6_fits_88 ?_
                exact g_zret (pc := 89) O dX6_fits_89 (by decide) H
              · replace H := H.2 q12
                refine g_iconst (v := (I 1)) (pc := 84) O rfl dX6_fits_84 ?_
                refine g_goto (tgt := 89) (pc := 85) O dX6_fits_85 rfl ?_
                exact g_zret (pc := 89) O dX6_fits_89 (by decide) H
    · replace H := H.2 q4
      refine g_sub [0, 1, 3, 4, 5, 6] rfl ?_
      exact H
set_option maxRecDepth 20000 in
set_option maxHeartbeats 2000000 in
theorem bX6_fits_29 {g : mg} {l : Launch} {X : XT} {Q : Int32 → AH → Prop} (O : Ok (FF g l X) RX6 cX6_fits 8 mX6_fits.2.2.2.2 (some .boolean)) {x1 : Int32} {x3 : Int32} {x4 : Int32} {x5 : Nat} (hx5 : lay x5 = (0, 7)) {x6 : Int32} {h : AH} (H : (((h.1 37 0) = 0) → (Q (I 0) h)) ∧ ((¬ ((h.1 37 0) = 0)) → ((((I 1) = 0) → (Q (I 0) h)) ∧ ((¬ ((I 1) = 0)) → (∃ j3 : Nat, (x3 - (I 1)) = I (j3 : Int) ∧ j3 < 8 ∧ (((¬ (h.1 (x5 + 5) j3) = x4) → (Q (I 0) h)) ∧ (((h.1 (x5 + 5) j3) = x4) → (∃ j5 : Nat, x1 = I (j5 : Int) ∧ j5 < 40 ∧ (((x6 < (h.1 38 j5)) → (Q (I 0) h)) ∧ ((¬ (x6 < (h.1 38 j5))) → (∃ j7 : Nat, x1 = I (j7 : Int) ∧ j7 < 40 ∧ ((((h.1 39 j7) < x6) → (Q (I 0) h)) ∧ ((¬ ((h.1 39 j7) < x6)) → (Q (I 1) h)))))))))))))) : GI g l X Q h 29 [(0, .ref 37), (1, .int x1), (3, .int x3), (4, .int x4), (5, .ref x5), (6, .int x6)] [] := by
  refine g_iconst (v := (I 1)) (pc := 29) O rfl dX6_fits_29 ?_
  refine g_goto (tgt := 34) (pc := 30) O dX6_fits_30 rfl ?_
  refine g_istore (lv' := [(0, .ref 37), (1, .int x1), (3, .int x3), (4, .int x4), (5, .ref x5), (6, .int x6), (7, .int (I 1))]) (pc := 34) O dX6_fits_34 (ltb rfl) rfl ?_
  refine g_aloadn (pc := 36) O rfl dX6_fits_36 ?_
  refine g_getI (v := h.1 37 0) (pc := 37) O cls6 fl_X6_30 dX6_fits_37 rfl (ltb rfl) (ltb rfl) rfl rfl ?_
  refine g_if_eq (tgt := 88) (pc := 40) O dX6_fits_40 rfl (fun q1 => ?_) (fun q1 => ?_)
  · replace H := H.1 q1
    refine g_iconst (v := (I 0)) (pc := 88) O rfl dX6_fits_88 ?_
    exact g_zret (pc := 89) O dX6_fits_89 (by decide) H
  · replace H := H.2 q1
    refine g_iload (pc := 43) O rfl dX6_fits_43 ?_
    refine g_if_eq (tgt := 88) (pc := 45) O dX6_fits_45 rfl (fun q2 => ?_) (fun q2 => ?_)
    · replace H := H.1 q2
      refine g_iconst (v := (I 0)) (pc := 88) O rfl dX6_fits_88 ?_
      exact g_zret (pc := 89) O dX6_fits_89 (by decide) H
    · replace H := H.2 q2
      refine g_aload (pc := 48) O rfl dX6_fits_48 ?_
      refine g_getS (pc := 50) O cls0 fl_X6_77 dX6_fits_50 hx5 (lay_lt hx5 (by decide)) (ltb rfl) rfl (sr_book4 hx5) ?_
      refine g_iloadn (pc := 53) O rfl dX6_fits_53 ?_
      refine g_iconst (v := (I 1)) (pc := 54) O rfl dX6_fits_54 ?_
      refine g_isub (pc := 55) O dX6_fits_55 ?_
      obtain ⟨j3, ej3, bj3, H⟩ := H
      refine g_iald (j := j3) (pc := 56) O dX6_fits_56 ej3 (lay_book4 hx5) (lay_lt (lay_book4 hx5) (by decide)) bj3 (ltb rfl) rfl ?_
      refine g_iload (pc := 57) O rfl dX6_fits_57 ?_
      refine g_icmp_ne (tgt := 88) (pc := 59) O dX6_fits_59 rfl (fun q4 => ?_) (fun q4 => ?_)
      · replace H := H.1 q4
        refine g_iconst (v := (I 0)) (pc := 88) O rfl dX6_fits_88 ?_
        exact g_zret (pc := 89) O dX6_fits_89 (by decide) H
      · replace H := H.2 q4
        refine g_iload (pc := 62) O rfl dX6_fits_62 ?_
        refine g_aloadn (pc := 64) O rfl dX6_fits_64 ?_
        refine g_getS (pc := 65) O cls6 fl_X6_9 dX6_fits_65 rfl (ltb rfl) (ltb rfl) rfl rfl ?_
        refine g_iloadn (pc := 68) O rfl dX6_fits_68 ?_
        obtain ⟨j5, ej5, bj5, H⟩ := H
        refine g_iald (j := j5) (pc := 69) O dX6_fits_69 ej5 rfl (ltb rfl) bj5 (ltb rfl) rfl ?_
        refine g_icmp_lt (tgt := 88) (pc := 70) O dX6_fits_70 rfl (fun q6 => ?_) (fun q6 => ?_)
        · replace H := H.1 q6
          refine g_iconst (v := (I 0)) (pc := 88) O rfl dX6_fits_88 ?_
          exact g_zret (pc := 89) O dX6_fits_89 (by decide) H
        · replace H := H.2 q6
          refine g_iload (pc := 73) O rfl dX6_fits_73 ?_
          refine g_aloadn (pc := 75) O rfl dX6_fits_75 ?_
          refine g_getS (pc := 76) O cls6 fl_X6_15 dX6_fits_76 rfl (ltb rfl) (ltb rfl) rfl rfl ?_
          refine g_iloadn (pc := 79) O rfl dX6_fits_79 ?_
          obtain ⟨j7, ej7, bj7, H⟩ := H
          refine g_iald (j := j7) (pc := 80) O dX6_fits_80 ej7 rfl (ltb rfl) bj7 (ltb rfl) rfl ?_
          refine g_icmp_gt (tgt := 88) (pc := 81) O dX6_fits_81 rfl (fun q8 => ?_) (fun q8 => ?_)
          · replace H := H.1 q8
            refine g_iconst (v := (I 0)) (pc := 88) O rfl dX6_fits_88 ?_
            exact g_zret (pc := 89) O dX6_fits_89 (by decide) H
          · replace H := H.2 q8
            refine g_iconst (v := (I 1)) (pc := 84) O rfl dX6_fits_84 ?_
            refine g_goto (tgt := 89) (pc := 85) O dX6_fits_85 rfl ?_
            exact g_zret (pc := 89) O dX6_fits_89 (by decide) H
set_option maxRecDepth 20000 in
set_option maxHeartbeats 2000000 in
theorem sX6_fits {g : mg} {l : Launch} {Q : Int32 → AH → Prop} {x1 : Int32} {x2 : Int32} {x3 : Int32} {x4 : Int32} {x5 : Nat} (hx5 : lay x5 = (0, 7)) {h : AH} (H : ∀ X, Ok (FF g l X) RX6 cX6_fits 8 mX6_fits.2.2.2.2 (some .boolean) → ∃ j1 : Nat, (x3 - (I 1)) = I (j1 : Int) ∧ j1 < 8 ∧ (((x2 = 0) → (GI g l X Q h 29 [(0, .ref 37), (1, .int x1), (3, .int x3), (4, .int x4), (5, .ref x5), (6, .int (h.1 (x5 + 4) j1))] [])) ∧ ((¬ (x2 = 0)) → (∃ j3 : Nat, (x2 - (I 1)) = I (j3 : Int) ∧ j3 < 8 ∧ ((((h.1 (x5 + 4) j1) ≤ (h.1 (x5 + 4) j3)) → ((((h.1 37 0) = 0) → (Q (I 0) h)) ∧ ((¬ ((h.1 37 0) = 0)) → ((((I 0) = 0) → (Q (I 0) h)) ∧ ((¬ ((I 0) = 0)) → (∃ j7 : Nat, (x3 - (I 1)) = I (j7 : Int) ∧ j7 < 8 ∧ (((¬ (h.1 (x5 + 5) j7) = x4) → (Q (I 0) h)) ∧ (((h.1 (x5 + 5) j7) = x4) → (∃ j9 : Nat, x1 = I (j9 : Int) ∧ j9 < 40 ∧ ((((h.1 (x5 + 4) j1) < (h.1 38 j9)) → (Q (I 0) h)) ∧ ((¬ ((h.1 (x5 + 4) j1) < (h.1 38 j9))) → (∃ j11 : Nat, x1 = I (j11 : Int) ∧ j11 < 40 ∧ ((((h.1 39 j11) < (h.1 (x5 + 4) j1)) → (Q (I 0) h)) ∧ ((¬ ((h.1 39 j11) < (h.1 (x5 + 4) j1))) → (Q (I 1) h))))))))))))))) ∧ ((¬ ((h.1 (x5 + 4) j1) ≤ (h.1 (x5 + 4) j3))) → (GI g l X Q h 29 [(0, .ref 37), (1, .int x1), (3, .int x3), (4, .int x4), (5, .ref x5), (6, .int (h.1 (x5 + 4) j1))] []))))))) : SpI g l mX6_fits h [.ref 37, .int x1, .int x2, .int x3, .int x4, .ref x5] Q := spI_of (by decide) (leb rfl) (fun X O => bX6_fits_0 O hx5 (H X O))
