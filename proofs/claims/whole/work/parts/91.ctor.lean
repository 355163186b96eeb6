/-! printed by ctor.py: constructors, each at its own cells -/
theorem k_fill {g : mg} {l : Launch} {h : AH} {n x0 N : Nat} {v : Int32} (hn : n ≤ 1000) (hx : lay x0 = (100, N)) (hxn : x0 < n) (hN : N ≤ 100000) : Spec (mG0 g) l mJ7_fill_53178 (n, 0, 0) h [.ref x0, .int v] (qE (flI h x0 N v)) := by
  refine spec_of (n := n) (mc := 0) (ms := 0) (by decide) (leb rfl) (fun X O nm => ?_)
  show Gd (F0' g l X) _ (n, 0, 0) h 0 [(0, .ref x0), (1, .int v)] []
  refine g_iconst (v := I 0) (pc := 0) O rfl dJ7_fill_53178_0 ?_
  refine g_istoren (lv' := [(0, .ref x0), (1, .int v), (2, .int (I 0))]) (pc := 1) O dJ7_fill_53178_1 rfl (ltb rfl) rfl ?_
  refine g_aloadn (pc := 2) O rfl dJ7_fill_53178_2 ?_
  refine g_alen (w := (n, 0, 0)) (pc := 3) O dJ7_fill_53178_3 hx hxn ?_
  refine g_istoren (lv' := [(0, .ref x0), (1, .int v), (2, .int (I 0)), (3, .int (I (N : Int)))]) (pc := 4) O dJ7_fill_53178_4 rfl (ltb rfl) rfl ?_
  have lp : ∀ m j, j + m = N → Gd (F0' g l X) (MZ (F0' g l X) (n, 0, 0) (qE (flI h x0 N v))) (n, 0, 0) (flI h x0 j v) 5 [(0, .ref x0), (1, .int v), (2, .int (I (j : Int))), (3, .int (I (N : Int)))] [] := by
    intro m
    induction m with
    | zero =>
      intro j hj
      have ej : j = N := by omega
      subst ej
      refine g_iloadn (pc := 5) O rfl dJ7_fill_53178_5 ?_
      refine g_iloadn (pc := 6) O rfl dJ7_fill_53178_6 ?_
      refine g_icmp_ge (tgt := 20) (pc := 7) O dJ7_fill_53178_7 rfl (fun _ => ?_) (fun q => absurd ((I_le (by omega) (by omega) (by omega) (by omega)).mpr (by omega)) q)
      exact g_vret (w := (n, 0, 0)) (pc := 20) O dJ7_fill_53178_20 ⟨rfl, rfl⟩
    | succ m ih =>
      intro j hj
      refine g_iloadn (pc := 5) O rfl dJ7_fill_53178_5 ?_
      refine g_iloadn (pc := 6) O rfl dJ7_fill_53178_6 ?_
      refine g_icmp_ge (tgt := 20) (pc := 7) O dJ7_fill_53178_7 rfl (fun q => absurd ((I_le (by omega) (by omega) (by omega) (by omega)).mp q) (by omega)) (fun _ => ?_)
      refine g_aloadn (pc := 10) O rfl dJ7_fill_53178_10 ?_
      refine g_iloadn (pc := 11) O rfl dJ7_fill_53178_11 ?_
      refine g_iloadn (pc := 12) O rfl dJ7_fill_53178_12 ?_
      refine g_iast (w := (n, 0, 0)) (j := j) (pc := 13) O dJ7_fill_53178_13 rfl hx hxn hn (by omega) (by omega) ?_
      refine g_iinc (v := I (((j + 1 : Nat)) : Int)) (lv' := [(0, .ref x0), (1, .int v), (2, .int (I ((j + 1 : Nat) : Int))), (3, .int (I (N : Int)))]) (pc := 14) O dJ7_fill_53178_14 rfl (I_add (j : Int) 1) (ltb rfl) rfl ?_
      refine g_goto (tgt := 5) (pc := 17) O dJ7_fill_53178_17 rfl ?_
      rw [flI_s]
      exact ih (j + 1) (by omega)
  have := lp N 0 (by omega)
  rw [flI_0] at this
  exact this
def iX1_8 (h : AH) : AH := (sR (sR h 8 0 (some 9)) 8 1 (some 10))
theorem zX1_8 {h : AH} (z : zA 9 h) : zA 11 (iX1_8 h) := by
  have z := zA_up (m := 10) z (leb rfl)
  have z := zA_sR (a := 8) (k := 0) (v := (some 9)) z (ltb rfl)
  have z := zA_up (m := 11) z (leb rfl)
  have z := zA_sR (a := 8) (k := 1) (v := (some 10)) z (ltb rfl)
  exact z
set_option maxRecDepth 20000 in
set_option maxHeartbeats 2000000 in
theorem cX1_8 {g : mg} {l : Launch} {h : AH} (W : NestW g.1) (z : zA 9 h) : Spec (mG0 g) l mX1_init (9, 2, 20) h [.ref 8] (qE (iX1_8 h)) := by
  refine spec_of (n := 9) (mc := 2) (ms := 20) (by decide) (leb rfl) (fun X O nm => ?_)
  show Gd (F0' g l X) (MZ (F0' g l X) (11, 2, 20) (qE (iX1_8 h))) (9, 0, 0) h 0 [(0, .ref 8)] []
  refine g_aloadn (pc := 0) O rfl dX1_init_0 ?_
  refine g_obj (a := 8) (pc := 1) O oi_X1 dX1_init_1 ⟨leb rfl, leb rfl⟩ (leb rfl) ?_
  refine g_aloadn (pc := 4) O rfl dX1_init_4 ?_
  refine g_bipush (v := (I 10)) (pc := 5) O (by decide) dX1_init_5 ?_
  refine g_newI (n := 9) (cs := 0) (ss := 0) (N := 10) (pc := 7) O dX1_init_7 rfl (ltb rfl) z (leb rfl) ⟨leb rfl, leb rfl⟩ rfl ?_
  have z := zA_up (m := 10) z (leb rfl)
  show Gd (F0' g l X) _ (10, 1, 10) h 9 [(0, .ref 8)] [.ref 9, .ref 8]
  refine g_putF (v := 9) (w := (10, 1, 10)) (a := 8) (k := 0) (pc := 9) O cls1 fl_X1_9 dX1_init_9 rfl (ltb rfl) (leb rfl) (ltb rfl) rfl rfl rfl nm rfl (tyX1_ok 0 (ltb rfl)) rfl rfl ?_
  have z := zA_sR (a := 8) (k := 0) (v := (some 9)) z (ltb rfl)
  refine g_aloadn (pc := 12) O rfl dX1_init_12 ?_
  refine g_bipush (v := (I 10)) (pc := 13) O (by decide) dX1_init_13 ?_
  refine g_newI (n := 10) (cs := 1) (ss := 10) (N := 10) (pc := 15) O dX1_init_15 rfl (ltb rfl) z (leb rfl) ⟨leb rfl, leb rfl⟩ rfl ?_
  have z := zA_up (m := 11) z (leb rfl)
  show Gd (F0' g l X) _ (11, 2, 20) (sR h 8 0 (some 9)) 17 [(0, .ref 8)] [.ref 10, .ref 8]
  refine g_putF (v := 10) (w := (11, 2, 20)) (a := 8) (k := 1) (pc := 17) O cls1 fl_X1_15 dX1_init_17 rfl (ltb rfl) (leb rfl) (ltb rfl) rfl rfl rfl nm rfl (tyX1_ok 1 (ltb rfl)) rfl rfl ?_
  have z := zA_sR (a := 8) (k := 1) (v := (some 10)) z (ltb rfl)
  exact g_vret (w := (11, 2, 20)) (pc := 20) O dX1_init_20 ⟨rfl, rfl⟩
def iX1_11 (h : AH) : AH := (sR (sR h 11 0 (some 12)) 11 1 (some 13))
theorem zX1_11 {h : AH} (z : zA 12 h) : zA 14 (iX1_11 h) := by
  have z := zA_up (m := 13) z (leb rfl)
  have z := zA_sR (a := 11) (k := 0) (v := (some 12)) z (ltb rfl)
  have z := zA_up (m := 14) z (leb rfl)
  have z := zA_sR (a := 11) (k := 1) (v := (some 13)) z (ltb rfl)
  exact z
set_option maxRecDepth 20000 in
set_option maxHeartbeats 2000000 in
theorem cX1_11 {g : mg} {l : Launch} {h : AH} (W : NestW g.1) (z : zA 12 h) : Spec (mG0 g) l mX1_init (12, 2, 20) h [.ref 11] (qE (iX1_11 h)) := by
  refine spec_of (n := 12) (mc := 2) (ms := 20) (by decide) (leb rfl) (fun X O nm => ?_)
  show Gd (F0' g l X) (MZ (F0' g l X) (14, 2, 20) (qE (iX1_11 h))) (12, 0, 0) h 0 [(0, .ref 11)] []
  refine g_aloadn (pc := 0) O rfl dX1_init_0 ?_
  refine g_obj (a := 11) (pc := 1) O oi_X1 dX1_init_1 ⟨leb rfl, leb rfl⟩ (leb rfl) ?_
  refine g_aloadn (pc := 4) O rfl dX1_init_4 ?_
  refine g_bipush (v := (I 10)) (pc := 5) O (by decide) dX1_init_5 ?_
  refine g_newI (n := 12) (cs := 0) (ss := 0) (N := 10) (pc := 7) O dX1_init_7 rfl (ltb rfl) z (leb rfl) ⟨leb rfl, leb rfl⟩ rfl ?_
  have z := zA_up (m := 13) z (leb rfl)
  show Gd (F0' g l X) _ (13, 1, 10) h 9 [(0, .ref 11)] [.ref 12, .ref 11]
  refine g_putF (v := 12) (w := (13, 1, 10)) (a := 11) (k := 0) (pc := 9) O cls1 fl_X1_9 dX1_init_9 rfl (ltb rfl) (leb rfl) (ltb rfl) rfl rfl rfl nm rfl (tyX1_ok 0 (ltb rfl)) rfl rfl ?_
  have z := zA_sR (a := 11) (k := 0) (v := (some 12)) z (ltb rfl)
  refine g_aloadn (pc := 12) O rfl dX1_init_12 ?_
  refine g_bipush (v := (I 10)) (pc := 13) O (by decide) dX1_init_13 ?_
  refine g_newI (n := 13) (cs := 1) (ss := 10) (N := 10) (pc := 15) O dX1_init_15 rfl (ltb rfl) z (leb rfl) ⟨leb rfl, leb rfl⟩ rfl ?_
  have z := zA_up (m := 14) z (leb rfl)
  show Gd (F0' g l X) _ (14, 2, 20) (sR h 11 0 (some 12)) 17 [(0, .ref 11)] [.ref 13, .ref 11]
  refine g_putF (v := 13) (w := (14, 2, 20)) (a := 11) (k := 1) (pc := 17) O cls1 fl_X1_15 dX1_init_17 rfl (ltb rfl) (leb rfl) (ltb rfl) rfl rfl rfl nm rfl (tyX1_ok 1 (ltb rfl)) rfl rfl ?_
  have z := zA_sR (a := 11) (k := 1) (v := (some 13)) z (ltb rfl)
  exact g_vret (w := (14, 2, 20)) (pc := 20) O dX1_init_20 ⟨rfl, rfl⟩
def iX1_14 (h : AH) : AH := (sR (sR h 14 0 (some 15)) 14 1 (some 16))
theorem zX1_14 {h : AH} (z : zA 15 h) : zA 17 (iX1_14 h) := by
  have z := zA_up (m := 16) z (leb rfl)
  have z := zA_sR (a := 14) (k := 0) (v := (some 15)) z (ltb rfl)
  have z := zA_up (m := 17) z (leb rfl)
  have z := zA_sR (a := 14) (k := 1) (v := (some 16)) z (ltb rfl)
  exact z
set_option maxRecDepth 20000 in
set_option maxHeartbeats 2000000 in
theorem cX1_14 {g : mg} {l : Launch} {h : AH} (W : NestW g.1) (z : zA 15 h) : Spec (mG0 g) l mX1_init (15, 2, 20) h [.ref 14] (qE (iX1_14 h)) := by
  refine spec_of (n := 15) (mc := 2) (ms := 20) (by decide) (leb rfl) (fun X O nm => ?_)
  show Gd (F0' g l X) (MZ (F0' g l X) (17, 2, 20) (qE (iX1_14 h))) (15, 0, 0) h 0 [(0, .ref 14)] []
  refine g_aloadn (pc := 0) O rfl dX1_init_0 ?_
  refine g_obj (a := 14) (pc := 1) O oi_X1 dX1_init_1 ⟨leb rfl, leb rfl⟩ (leb rfl) ?_
  refine g_aloadn (pc := 4) O rfl dX1_init_4 ?_
  refine g_bipush (v := (I 10)) (pc := 5) O (by decide) dX1_init_5 ?_
  refine g_newI (n := 15) (cs := 0) (ss := 0) (N := 10) (pc := 7) O dX1_init_7 rfl (ltb rfl) z (leb rfl) ⟨leb rfl, leb rfl⟩ rfl ?_
  have z := zA_up (m := 16) z (leb rfl)
  show Gd (F0' g l X) _ (16, 1, 10) h 9 [(0, .ref 14)] [.ref 15, .ref 14]
  refine g_putF (v := 15) (w := (16, 1, 10)) (a := 14) (k := 0) (pc := 9) O cls1 fl_X1_9 dX1_init_9 rfl (ltb rfl) (leb rfl) (ltb rfl) rfl rfl rfl nm rfl (tyX1_ok 0 (ltb rfl)) rfl rfl ?_
  have z := zA_sR (a := 14) (k := 0) (v := (some 15)) z (ltb rfl)
  refine g_aloadn (pc := 12) O rfl dX1_init_12 ?_
  refine g_bipush (v := (I 10)) (pc := 13) O (by decide) dX1_init_13 ?_
  refine g_newI (n := 16) (cs := 1) (ss := 10) (N := 10) (pc := 15) O dX1_init_15 rfl (ltb rfl) z (leb rfl) ⟨leb rfl, leb rfl⟩ rfl ?_
  have z := zA_up (m := 17) z (leb rfl)
  show Gd (F0' g l X) _ (17, 2, 20) (sR h 14 0 (some 15)) 17 [(0, .ref 14)] [.ref 16, .ref 14]
  refine g_putF (v := 16) (w := (17, 2, 20)) (a := 14) (k := 1) (pc := 17) O cls1 fl_X1_15 dX1_init_17 rfl (ltb rfl) (leb rfl) (ltb rfl) rfl rfl rfl nm rfl (tyX1_ok 1 (ltb rfl)) rfl rfl ?_
  have z := zA_sR (a := 14) (k := 1) (v := (some 16)) z (ltb rfl)
  exact g_vret (w := (17, 2, 20)) (pc := 20) O dX1_init_20 ⟨rfl, rfl⟩
def iX1_17 (h : AH) : AH := (sR (sR h 17 0 (some 18)) 17 1 (some 19))
theorem zX1_17 {h : AH} (z : zA 18 h) : zA 20 (iX1_17 h) := by
  have z := zA_up (m := 19) z (leb rfl)
  have z := zA_sR (a := 17) (k := 0) (v := (some 18)) z (ltb rfl)
  have z := zA_up (m := 20) z (leb rfl)
  have z := zA_sR (a := 17) (k := 1) (v := (some 19)) z (ltb rfl)
  exact z
set_option maxRecDepth 20000 in
set_option maxHeartbeats 2000000 in
theorem cX1_17 {g : mg} {l : Launch} {h : AH} (W : NestW g.1) (z : zA 18 h) : Spec (mG0 g) l mX1_init (18, 2, 20) h [.ref 17] (qE (iX1_17 h)) := by
  refine spec_of (n := 18) (mc := 2) (ms := 20) (by decide) (leb rfl) (fun X O nm => ?_)
  show Gd (F0' g l X) (MZ (F0' g l X) (20, 2, 20) (qE (iX1_17 h))) (18, 0, 0) h 0 [(0, .ref 17)] []
  refine g_aloadn (pc := 0) O rfl dX1_init_0 ?_
  refine g_obj (a := 17) (pc := 1) O oi_X1 dX1_init_1 ⟨leb rfl, leb rfl⟩ (leb rfl) ?_
  refine g_aloadn (pc := 4) O rfl dX1_init_4 ?_
  refine g_bipush (v := (I 10)) (pc := 5) O (by decide) dX1_init_5 ?_
  refine g_newI (n := 18) (cs := 0) (ss := 0) (N := 10) (pc := 7) O dX1_init_7 rfl (ltb rfl) z (leb rfl) ⟨leb rfl, leb rfl⟩ rfl ?_
  have z := zA_up (m := 19) z (leb rfl)
  show Gd (F0' g l X) _ (19, 1, 10) h 9 [(0, .ref 17)] [.ref 18, .ref 17]
  refine g_putF (v := 18) (w := (19, 1, 10)) (a := 17) (k := 0) (pc := 9) O cls1 fl_X1_9 dX1_init_9 rfl (ltb rfl) (leb rfl) (ltb rfl) rfl rfl rfl nm rfl (tyX1_ok 0 (ltb rfl)) rfl rfl ?_
  have z := zA_sR (a := 17) (k := 0) (v := (some 18)) z (ltb rfl)
  refine g_aloadn (pc := 12) O rfl dX1_init_12 ?_
  refine g_bipush (v := (I 10)) (pc := 13) O (by decide) dX1_init_13 ?_
  refine g_newI (n := 19) (cs := 1) (ss := 10) (N := 10) (pc := 15) O dX1_init_15 rfl (ltb rfl) z (leb rfl) ⟨leb rfl, leb rfl⟩ rfl ?_
  have z := zA_up (m := 20) z (leb rfl)
  show Gd (F0' g l X) _ (20, 2, 20) (sR h 17 0 (some 18)) 17 [(0, .ref 17)] [.ref 19, .ref 17]
  refine g_putF (v := 19) (w := (20, 2, 20)) (a := 17) (k := 1) (pc := 17) O cls1 fl_X1_15 dX1_init_17 rfl (ltb rfl) (leb rfl) (ltb rfl) rfl rfl rfl nm rfl (tyX1_ok 1 (ltb rfl)) rfl rfl ?_
  have z := zA_sR (a := 17) (k := 1) (v := (some 19)) z (ltb rfl)
  exact g_vret (w := (20, 2, 20)) (pc := 20) O dX1_init_20 ⟨rfl, rfl⟩
def iX1_56 (h : AH) : AH := (sR (sR h 56 0 (some 57)) 56 1 (some 58))
theorem zX1_56 {h : AH} (z : zA 57 h) : zA 59 (iX1_56 h) := by
  have z := zA_up (m := 58) z (leb rfl)
  have z := zA_sR (a := 56) (k := 0) (v := (some 57)) z (ltb rfl)
  have z := zA_up (m := 59) z (leb rfl)
  have z := zA_sR (a := 56) (k := 1) (v := (some 58)) z (ltb rfl)
  exact z
set_option maxRecDepth 20000 in
set_option maxHeartbeats 2000000 in
theorem cX1_56 {g : mg} {l : Launch} {h : AH} (W : NestW g.1) (z : zA 57 h) : Spec (mG0 g) l mX1_init (57, 2, 20) h [.ref 56] (qE (iX1_56 h)) := by
  refine spec_of (n := 57) (mc := 2) (ms := 20) (by decide) (leb rfl) (fun X O nm => ?_)
  show Gd (F0' g l X) (MZ (F0' g l X) (59, 2, 20) (qE (iX1_56 h))) (57, 0, 0) h 0 [(0, .ref 56)] []
  refine g_aloadn (pc := 0) O rfl dX1_init_0 ?_
  refine g_obj (a := 56) (pc := 1) O oi_X1 dX1_init_1 ⟨leb rfl, leb rfl⟩ (leb rfl) ?_
  refine g_aloadn (pc := 4) O rfl dX1_init_4 ?_
  refine g_bipush (v := (I 10)) (pc := 5) O (by decide) dX1_init_5 ?_
  refine g_newI (n := 57) (cs := 0) (ss := 0) (N := 10) (pc := 7) O dX1_init_7 rfl (ltb rfl) z (leb rfl) ⟨leb rfl, leb rfl⟩ rfl ?_
  have z := zA_up (m := 58) z (leb rfl)
  show Gd (F0' g l X) _ (58, 1, 10) h 9 [(0, .ref 56)] [.ref 57, .ref 56]
  refine g_putF (v := 57) (w := (58, 1, 10)) (a := 56) (k := 0) (pc := 9) O cls1 fl_X1_9 dX1_init_9 rfl (ltb rfl) (leb rfl) (ltb rfl) rfl rfl rfl nm rfl (tyX1_ok 0 (ltb rfl)) rfl rfl ?_
  have z := zA_sR (a := 56) (k := 0) (v := (some 57)) z (ltb rfl)
  refine g_aloadn (pc := 12) O rfl dX1_init_12 ?_
  refine g_bipush (v := (I 10)) (pc := 13) O (by decide) dX1_init_13 ?_
  refine g_newI (n := 58) (cs := 1) (ss := 10) (N := 10) (pc := 15) O dX1_init_15 rfl (ltb rfl) z (leb rfl) ⟨leb rfl, leb rfl⟩ rfl ?_
  have z := zA_up (m := 59) z (leb rfl)
  show Gd (F0' g l X) _ (59, 2, 20) (sR h 56 0 (some 57)) 17 [(0, .ref 56)] [.ref 58, .ref 56]
  refine g_putF (v := 58) (w := (59, 2, 20)) (a := 56) (k := 1) (pc := 17) O cls1 fl_X1_15 dX1_init_17 rfl (ltb rfl) (leb rfl) (ltb rfl) rfl rfl rfl nm rfl (tyX1_ok 1 (ltb rfl)) rfl rfl ?_
  have z := zA_sR (a := 56) (k := 1) (v := (some 58)) z (ltb rfl)
  exact g_vret (w := (59, 2, 20)) (pc := 20) O dX1_init_20 ⟨rfl, rfl⟩
def iX1_59 (h : AH) : AH := (sR (sR h 59 0 (some 60)) 59 1 (some 61))
theorem zX1_59 {h : AH} (z : zA 60 h) : zA 62 (iX1_59 h) := by
  have z := zA_up (m := 61) z (leb rfl)
  have z := zA_sR (a := 59) (k := 0) (v := (some 60)) z (ltb rfl)
  have z := zA_up (m := 62) z (leb rfl)
  have z := zA_sR (a := 59) (k := 1) (v := (some 61)) z (ltb rfl)
  exact z
set_option maxRecDepth 20000 in
set_option maxHeartbeats 2000000 in
theorem cX1_59 {g : mg} {l : Launch} {h : AH} (W : NestW g.1) (z : zA 60 h) : Spec (mG0 g) l mX1_init (60, 2, 20) h [.ref 59] (qE (iX1_59 h)) := by
  refine spec_of (n := 60) (mc := 2) (ms := 20) (by decide) (leb rfl) (fun X O nm => ?_)
  show Gd (F0' g l X) (MZ (F0' g l X) (62, 2, 20) (qE (iX1_59 h))) (60, 0, 0) h 0 [(0, .ref 59)] []
  refine g_aloadn (pc := 0) O rfl dX1_init_0 ?_
  refine g_obj (a := 59) (pc := 1) O oi_X1 dX1_init_1 ⟨leb rfl, leb rfl⟩ (leb rfl) ?_
  refine g_aloadn (pc := 4) O rfl dX1_init_4 ?_
  refine g_bipush (v := (I 10)) (pc := 5) O (by decide) dX1_init_5 ?_
  refine g_newI (n := 60) (cs := 0) (ss := 0) (N := 10) (pc := 7) O dX1_init_7 rfl (ltb rfl) z (leb rfl) ⟨leb rfl, leb rfl⟩ rfl ?_
  have z := zA_up (m := 61) z (leb rfl)
  show Gd (F0' g l X) _ (61, 1, 10) h 9 [(0, .ref 59)] [.ref 60, .ref 59]
  refine g_putF (v := 60) (w := (61, 1, 10)) (a := 59) (k := 0) (pc := 9) O cls1 fl_X1_9 dX1_init_9 rfl (ltb rfl) (leb rfl) (ltb rfl) rfl rfl rfl nm rfl (tyX1_ok 0 (ltb rfl)) rfl rfl ?_
  have z := zA_sR (a := 59) (k := 0) (v := (some 60)) z (ltb rfl)
  refine g_aloadn (pc := 12) O rfl dX1_init_12 ?_
  refine g_bipush (v := (I 10)) (pc := 13) O (by decide) dX1_init_13 ?_
  refine g_newI (n := 61) (cs := 1) (ss := 10) (N := 10) (pc := 15) O dX1_init_15 rfl (ltb rfl) z (leb rfl) ⟨leb rfl, leb rfl⟩ rfl ?_
  have z := zA_up (m := 62) z (leb rfl)
  show Gd (F0' g l X) _ (62, 2, 20) (sR h 59 0 (some 60)) 17 [(0, .ref 59)] [.ref 61, .ref 59]
  refine g_putF (v := 61) (w := (62, 2, 20)) (a := 59) (k := 1) (pc := 17) O cls1 fl_X1_15 dX1_init_17 rfl (ltb rfl) (leb rfl) (ltb rfl) rfl rfl rfl nm rfl (tyX1_ok 1 (ltb rfl)) rfl rfl ?_
  have z := zA_sR (a := 59) (k := 1) (v := (some 61)) z (ltb rfl)
  exact g_vret (w := (62, 2, 20)) (pc := 20) O dX1_init_20 ⟨rfl, rfl⟩
def iX1_62 (h : AH) : AH := (sR (sR h 62 0 (some 63)) 62 1 (some 64))
theorem zX1_62 {h : AH} (z : zA 63 h) : zA 65 (iX1_62 h) := by
  have z := zA_up (m := 64) z (leb rfl)
  have z := zA_sR (a := 62) (k := 0) (v := (some 63)) z (ltb rfl)
  have z := zA_up (m := 65) z (leb rfl)
  have z := zA_sR (a := 62) (k := 1) (v := (some 64)) z (ltb rfl)
  exact z
set_option maxRecDepth 20000 in
set_option maxHeartbeats 2000000 in
theorem cX1_62 {g : mg} {l : Launch} {h : AH} (W : NestW g.1) (z : zA 63 h) : Spec (mG0 g) l mX1_init (63, 2, 20) h [.ref 62] (qE (iX1_62 h)) := by
  refine spec_of (n := 63) (mc := 2) (ms := 20) (by decide) (leb rfl) (fun X O nm => ?_)
  show Gd (F0' g l X) (MZ (F0' g l X) (65, 2, 20) (qE (iX1_62 h))) (63, 0, 0) h 0 [(0, .ref 62)] []
  refine g_aloadn (pc := 0) O rfl dX1_init_0 ?_
  refine g_obj (a := 62) (pc := 1) O oi_X1 dX1_init_1 ⟨leb rfl, leb rfl⟩ (leb rfl) ?_
  refine g_aloadn (pc := 4) O rfl dX1_init_4 ?_
  refine g_bipush (v := (I 10)) (pc := 5) O (by decide) dX1_init_5 ?_
  refine g_newI (n := 63) (cs := 0) (ss := 0) (N := 10) (pc := 7) O dX1_init_7 rfl (ltb rfl) z (leb rfl) ⟨leb rfl, leb rfl⟩ rfl ?_
  have z := zA_up (m := 64) z (leb rfl)
  show Gd (F0' g l X) _ (64, 1, 10) h 9 [(0, .ref 62)] [.ref 63, .ref 62]
  refine g_putF (v := 63) (w := (64, 1, 10)) (a := 62) (k := 0) (pc := 9) O cls1 fl_X1_9 dX1_init_9 rfl (ltb rfl) (leb rfl) (ltb rfl) rfl rfl rfl nm rfl (tyX1_ok 0 (ltb rfl)) rfl rfl ?_
  have z := zA_sR (a := 62) (k := 0) (v := (some 63)) z (ltb rfl)
  refine g_aloadn (pc := 12) O rfl dX1_init_12 ?_
  refine g_bipush (v := (I 10)) (pc := 13) O (by decide) dX1_init_13 ?_
  refine g_newI (n := 64) (cs := 1) (ss := 10) (N := 10) (pc := 15) O dX1_init_15 rfl (ltb rfl) z (leb rfl) ⟨leb rfl, leb rfl⟩ rfl ?_
  have z := zA_up (m := 65) z (leb rfl)
  show Gd (F0' g l X) _ (65, 2, 20) (sR h 62 0 (some 63)) 17 [(0, .ref 62)] [.ref 64, .ref 62]
  refine g_putF (v := 64) (w := (65, 2, 20)) (a := 62) (k := 1) (pc := 17) O cls1 fl_X1_15 dX1_init_17 rfl (ltb rfl) (leb rfl) (ltb rfl) rfl rfl rfl nm rfl (tyX1_ok 1 (ltb rfl)) rfl rfl ?_
  have z := zA_sR (a := 62) (k := 1) (v := (some 64)) z (ltb rfl)
  exact g_vret (w := (65, 2, 20)) (pc := 20) O dX1_init_20 ⟨rfl, rfl⟩
def iX1_65 (h : AH) : AH := (sR (sR h 65 0 (some 66)) 65 1 (some 67))
theorem zX1_65 {h : AH} (z : zA 66 h) : zA 68 (iX1_65 h) := by
  have z := zA_up (m := 67) z (leb rfl)
  have z := zA_sR (a := 65) (k := 0) (v := (some 66)) z (ltb rfl)
  have z := zA_up (m := 68) z (leb rfl)
  have z := zA_sR (a := 65) (k := 1) (v := (some 67)) z (ltb rfl)
  exact z
set_option maxRecDepth 20000 in
set_option maxHeartbeats 2000000 in
theorem cX1_65 {g : mg} {l : Launch} {h : AH} (W : NestW g.1) (z : zA 66 h) : Spec (mG0 g) l mX1_init (66, 2, 20) h [.ref 65] (qE (iX1_65 h)) := by
  refine spec_of (n := 66) (mc := 2) (ms := 20) (by decide) (leb rfl) (fun X O nm => ?_)
  show Gd (F0' g l X) (MZ (F0' g l X) (68, 2, 20) (qE (iX1_65 h))) (66, 0, 0) h 0 [(0, .ref 65)] []
  refine g_aloadn (pc := 0) O rfl dX1_init_0 ?_
  refine g_obj (a := 65) (pc := 1) O oi_X1 dX1_init_1 ⟨leb rfl, leb rfl⟩ (leb rfl) ?_
  refine g_aloadn (pc := 4) O rfl dX1_init_4 ?_
  refine g_bipush (v := (I 10)) (pc := 5) O (by decide) dX1_init_5 ?_
  refine g_newI (n := 66) (cs := 0) (ss := 0) (N := 10) (pc := 7) O dX1_init_7 rfl (ltb rfl) z (leb rfl) ⟨leb rfl, leb rfl⟩ rfl ?_
  have z := zA_up (m := 67) z (leb rfl)
  show Gd (F0' g l X) _ (67, 1, 10) h 9 [(0, .ref 65)] [.ref 66, .ref 65]
  refine g_putF (v := 66) (w := (67, 1, 10)) (a := 65) (k := 0) (pc := 9) O cls1 fl_X1_9 dX1_init_9 rfl (ltb rfl) (leb rfl) (ltb rfl) rfl rfl rfl nm rfl (tyX1_ok 0 (ltb rfl)) rfl rfl ?_
  have z := zA_sR (a := 65) (k := 0) (v := (some 66)) z (ltb rfl)
  refine g_aloadn (pc := 12) O rfl dX1_init_12 ?_
  refine g_bipush (v := (I 10)) (pc := 13) O (by decide) dX1_init_13 ?_
  refine g_newI (n := 67) (cs := 1) (ss := 10) (N := 10) (pc := 15) O dX1_init_15 rfl (ltb rfl) z (leb rfl) ⟨leb rfl, leb rfl⟩ rfl ?_
  have z := zA_up (m := 68) z (leb rfl)
  show Gd (F0' g l X) _ (68, 2, 20) (sR h 65 0 (some 66)) 17 [(0, .ref 65)] [.ref 67, .ref 65]
  refine g_putF (v := 67) (w := (68, 2, 20)) (a := 65) (k := 1) (pc := 17) O cls1 fl_X1_15 dX1_init_17 rfl (ltb rfl) (leb rfl) (ltb rfl) rfl rfl rfl nm rfl (tyX1_ok 1 (ltb rfl)) rfl rfl ?_
  have z := zA_sR (a := 65) (k := 1) (v := (some 67)) z (ltb rfl)
  exact g_vret (w := (68, 2, 20)) (pc := 20) O dX1_init_20 ⟨rfl, rfl⟩
def iX1_70 (h : AH) : AH := (sR (sR h 70 0 (some 71)) 70 1 (some 72))
theorem zX1_70 {h : AH} (z : zA 71 h) : zA 73 (iX1_70 h) := by
  have z := zA_up (m := 72) z (leb rfl)
  have z := zA_sR (a := 70) (k := 0) (v := (some 71)) z (ltb rfl)
  have z := zA_up (m := 73) z (leb rfl)
  have z := zA_sR (a := 70) (k := 1) (v := (some 72)) z (ltb rfl)
  exact z
set_option maxRecDepth 20000 in
set_option maxHeartbeats 2000000 in
theorem cX1_70 {g : mg} {l : Launch} {h : AH} (W : NestW g.1) (z : zA 71 h) : Spec (mG0 g) l mX1_init (71, 2, 20) h [.ref 70] (qE (iX1_70 h)) := by
  refine spec_of (n := 71) (mc := 2) (ms := 20) (by decide) (leb rfl) (fun X O nm => ?_)
  show Gd (F0' g l X) (MZ (F0' g l X) (73, 2, 20) (qE (iX1_70 h))) (71, 0, 0) h 0 [(0, .ref 70)] []
  refine g_aloadn (pc := 0) O rfl dX1_init_0 ?_
  refine g_obj (a := 70) (pc := 1) O oi_X1 dX1_init_1 ⟨leb rfl, leb rfl⟩ (leb rfl) ?_
  refine g_aloadn (pc := 4) O rfl dX1_init_4 ?_
  refine g_bipush (v := (I 10)) (pc := 5) O (by decide) dX1_init_5 ?_
  refine g_newI (n := 71) (cs := 0) (ss := 0) (N := 10) (pc := 7) O dX1_init_7 rfl (ltb rfl) z (leb rfl) ⟨leb rfl, leb rfl⟩ rfl ?_
  have z := zA_up (m := 72) z (leb rfl)
  show Gd (F0' g l X) _ (72, 1, 10) h 9 [(0, .ref 70)] [.ref 71, .ref 70]
  refine g_putF (v := 71) (w := (72, 1, 10)) (a := 70) (k := 0) (pc := 9) O cls1 fl_X1_9 dX1_init_9 rfl (ltb rfl) (leb rfl) (ltb rfl) rfl rfl rfl nm rfl (tyX1_ok 0 (ltb rfl)) rfl rfl ?_
  have z := zA_sR (a := 70) (k := 0) (v := (some 71)) z (ltb rfl)
  refine g_aloadn (pc := 12) O rfl dX1_init_12 ?_
  refine g_bipush (v := (I 10)) (pc := 13) O (by decide) dX1_init_13 ?_
  refine g_newI (n := 72) (cs := 1) (ss := 10) (N := 10) (pc := 15) O dX1_init_15 rfl (ltb rfl) z (leb rfl) ⟨leb rfl, leb rfl⟩ rfl ?_
  have z := zA_up (m := 73) z (leb rfl)
  show Gd (F0' g l X) _ (73, 2, 20) (sR h 70 0 (some 71)) 17 [(0, .ref 70)] [.ref 72, .ref 70]
  refine g_putF (v := 72) (w := (73, 2, 20)) (a := 70) (k := 1) (pc := 17) O cls1 fl_X1_15 dX1_init_17 rfl (ltb rfl) (leb rfl) (ltb rfl) rfl rfl rfl nm rfl (tyX1_ok 1 (ltb rfl)) rfl rfl ?_
  have z := zA_sR (a := 70) (k := 1) (v := (some 72)) z (ltb rfl)
  exact g_vret (w := (73, 2, 20)) (pc := 20) O dX1_init_20 ⟨rfl, rfl⟩
def iX1_73 (h : AH) : AH := (sR (sR h 73 0 (some 74)) 73 1 (some 75))
theorem zX1_73 {h : AH} (z : zA 74 h) : zA 76 (iX1_73 h) := by
  have z := zA_up (m := 75) z (leb rfl)
  have z := zA_sR (a := 73) (k := 0) (v := (some 74)) z (ltb rfl)
  have z := zA_up (m := 76) z (leb rfl)
  have z := zA_sR (a := 73) (k := 1) (v := (some 75)) z (ltb rfl)
  exact z
set_option maxRecDepth 20000 in
set_option maxHeartbeats 2000000 in
theorem cX1_73 {g : mg} {l : Launch} {h : AH} (W : NestW g.1) (z : zA 74 h) : Spec (mG0 g) l mX1_init (74, 2, 20) h [.ref 73] (qE (iX1_73 h)) := by
  refine spec_of (n := 74) (mc := 2) (ms := 20) (by decide) (leb rfl) (fun X O nm => ?_)
  show Gd (F0' g l X) (MZ (F0' g l X) (76, 2, 20) (qE (iX1_73 h))) (74, 0, 0) h 0 [(0, .ref 73)] []
  refine g_aloadn (pc := 0) O rfl dX1_init_0 ?_
  refine g_obj (a := 73) (pc := 1) O oi_X1 dX1_init_1 ⟨leb rfl, leb rfl⟩ (leb rfl) ?_
  refine g_aloadn (pc := 4) O rfl dX1_init_4 ?_
  refine g_bipush (v := (I 10)) (pc := 5) O (by decide) dX1_init_5 ?_
  refine g_newI (n := 74) (cs := 0) (ss := 0) (N := 10) (pc := 7) O dX1_init_7 rfl (ltb rfl) z (leb rfl) ⟨leb rfl, leb rfl⟩ rfl ?_
  have z := zA_up (m := 75) z (leb rfl)
  show Gd (F0' g l X) _ (75, 1, 10) h 9 [(0, .ref 73)] [.ref 74, .ref 73]
  refine g_putF (v := 74) (w := (75, 1, 10)) (a := 73) (k := 0) (pc := 9) O cls1 fl_X1_9 dX1_init_9 rfl (ltb rfl) (leb rfl) (ltb rfl) rfl rfl rfl nm rfl (tyX1_ok 0 (ltb rfl)) rfl rfl ?_
  have z := zA_sR (a := 73) (k := 0) (v := (some 74)) z (ltb rfl)
  refine g_aloadn (pc := 12) O rfl dX1_init_12 ?_
  refine g_bipush (v := (I 10)) (pc := 13) O (by decide) dX1_init_13 ?_
  refine g_newI (n := 75) (cs := 1) (ss := 10) (N := 10) (pc := 15) O dX1_init_15 rfl (ltb rfl) z (leb rfl) ⟨leb rfl, leb rfl⟩ rfl ?_
  have z := zA_up (m := 76) z (leb rfl)
  show Gd (F0' g l X) _ (76, 2, 20) (sR h 73 0 (some 74)) 17 [(0, .ref 73)] [.ref 75, .ref 73]
  refine g_putF (v := 75) (w := (76, 2, 20)) (a := 73) (k := 1) (pc := 17) O cls1 fl_X1_15 dX1_init_17 rfl (ltb rfl) (leb rfl) (ltb rfl) rfl rfl rfl nm rfl (tyX1_ok 1 (ltb rfl)) rfl rfl ?_
  have z := zA_sR (a := 73) (k := 1) (v := (some 75)) z (ltb rfl)
  exact g_vret (w := (76, 2, 20)) (pc := 20) O dX1_init_20 ⟨rfl, rfl⟩
def iX1_76 (h : AH) : AH := (sR (sR h 76 0 (some 77)) 76 1 (some 78))
theorem zX1_76 {h : AH} (z : zA 77 h) : zA 79 (iX1_76 h) := by
  have z := zA_up (m := 78) z (leb rfl)
  have z := zA_sR (a := 76) (k := 0) (v := (some 77)) z (ltb rfl)
  have z := zA_up (m := 79) z (leb rfl)
  have z := zA_sR (a := 76) (k := 1) (v := (some 78)) z (ltb rfl)
  exact z
set_option maxRecDepth 20000 in
set_option maxHeartbeats 2000000 in
theorem cX1_76 {g : mg} {l : Launch} {h : AH} (W : NestW g.1) (z : zA 77 h) : Spec (mG0 g) l mX1_init (77, 2, 20) h [.ref 76] (qE (iX1_76 h)) := by
  refine spec_of (n := 77) (mc := 2) (ms := 20) (by decide) (leb rfl) (fun X O nm => ?_)
  show Gd (F0' g l X) (MZ (F0' g l X) (79, 2, 20) (qE (iX1_76 h))) (77, 0, 0) h 0 [(0, .ref 76)] []
  refine g_aloadn (pc := 0) O rfl dX1_init_0 ?_
  refine g_obj (a := 76) (pc := 1) O oi_X1 dX1_init_1 ⟨leb rfl, leb rfl⟩ (leb rfl) ?_
  refine g_aloadn (pc := 4) O rfl dX1_init_4 ?_
  refine g_bipush (v := (I 10)) (pc := 5) O (by decide) dX1_init_5 ?_
  refine g_newI (n := 77) (cs := 0) (ss := 0) (N := 10) (pc := 7) O dX1_init_7 rfl (ltb rfl) z (leb rfl) ⟨leb rfl, leb rfl⟩ rfl ?_
  have z := zA_up (m := 78) z (leb rfl)
  show Gd (F0' g l X) _ (78, 1, 10) h 9 [(0, .ref 76)] [.ref 77, .ref 76]
  refine g_putF (v := 77) (w := (78, 1, 10)) (a := 76) (k := 0) (pc := 9) O cls1 fl_X1_9 dX1_init_9 rfl (ltb rfl) (leb rfl) (ltb rfl) rfl rfl rfl nm rfl (tyX1_ok 0 (ltb rfl)) rfl rfl ?_
  have z := zA_sR (a := 76) (k := 0) (v := (some 77)) z (ltb rfl)
  refine g_aloadn (pc := 12) O rfl dX1_init_12 ?_
  refine g_bipush (v := (I 10)) (pc := 13) O (by decide) dX1_init_13 ?_
  refine g_newI (n := 78) (cs := 1) (ss := 10) (N := 10) (pc := 15) O dX1_init_15 rfl (ltb rfl) z (leb rfl) ⟨leb rfl, leb rfl⟩ rfl ?_
  have z := zA_up (m := 79) z (leb rfl)
  show Gd (F0' g l X) _ (79, 2, 20) (sR h 76 0 (some 77)) 17 [(0, .ref 76)] [.ref 78, .ref 76]
  refine g_putF (v := 78) (w := (79, 2, 20)) (a := 76) (k := 1) (pc := 17) O cls1 fl_X1_15 dX1_init_17 rfl (ltb rfl) (leb rfl) (ltb rfl) rfl rfl rfl nm rfl (tyX1_ok 1 (ltb rfl)) rfl rfl ?_
  have z := zA_sR (a := 76) (k := 1) (v := (some 78)) z (ltb rfl)
  exact g_vret (w := (79, 2, 20)) (pc := 20) O dX1_init_20 ⟨rfl, rfl⟩
def iX1_79 (h : AH) : AH := (sR (sR h 79 0 (some 80)) 79 1 (some 81))
theorem zX1_79 {h : AH} (z : zA 80 h) : zA 82 (iX1_79 h) := by
  have z := zA_up (m := 81) z (leb rfl)
  have z := zA_sR (a := 79) (k := 0) (v := (some 80)) z (ltb rfl)
  have z := zA_up (m := 82) z (leb rfl)
  have z := zA_sR (a := 79) (k := 1) (v := (some 81)) z (ltb rfl)
  exact z
set_option maxRecDepth 20000 in
set_option maxHeartbeats 2000000 in
theorem cX1_79 {g : mg} {l : Launch} {h : AH} (W : NestW g.1) (z : zA 80 h) : Spec (mG0 g) l mX1_init (80, 2, 20) h [.ref 79] (qE (iX1_79 h)) := by
  refine spec_of (n := 80) (mc := 2) (ms := 20) (by decide) (leb rfl) (fun X O nm => ?_)
  show Gd (F0' g l X) (MZ (F0' g l X) (82, 2, 20) (qE (iX1_79 h))) (80, 0, 0) h 0 [(0, .ref 79)] []
  refine g_aloadn (pc := 0) O rfl dX1_init_0 ?_
  refine g_obj (a := 79) (pc := 1) O oi_X1 dX1_init_1 ⟨leb rfl, leb rfl⟩ (leb rfl) ?_
  refine g_aloadn (pc := 4) O rfl dX1_init_4 ?_
  refine g_bipush (v := (I 10)) (pc := 5) O (by decide) dX1_init_5 ?_
  refine g_newI (n := 80) (cs := 0) (ss := 0) (N := 10) (pc := 7) O dX1_init_7 rfl (ltb rfl) z (leb rfl) ⟨leb rfl, leb rfl⟩ rfl ?_
  have z := zA_up (m := 81) z (leb rfl)
  show Gd (F0' g l X) _ (81, 1, 10) h 9 [(0, .ref 79)] [.ref 80, .ref 79]
  refine g_putF (v := 80) (w := (81, 1, 10)) (a := 79) (k := 0) (pc := 9) O cls1 fl_X1_9 dX1_init_9 rfl (ltb rfl) (leb rfl) (ltb rfl) rfl rfl rfl nm rfl (tyX1_ok 0 (ltb rfl)) rfl rfl ?_
  have z := zA_sR (a := 79) (k := 0) (v := (some 80)) z (ltb rfl)
  refine g_aloadn (pc := 12) O rfl dX1_init_12 ?_
  refine g_bipush (v := (I 10)) (pc := 13) O (by decide) dX1_init_13 ?_
  refine g_newI (n := 81) (cs := 1) (ss := 10) (N := 10) (pc := 15) O dX1_init_15 rfl (ltb rfl) z (leb rfl) ⟨leb rfl, leb rfl⟩ rfl ?_
  have z := zA_up (m := 82) z (leb rfl)
  show Gd (F0' g l X) _ (82, 2, 20) (sR h 79 0 (some 80)) 17 [(0, .ref 79)] [.ref 81, .ref 79]
  refine g_putF (v := 81) (w := (82, 2, 20)) (a := 79) (k := 1) (pc := 17) O cls1 fl_X1_15 dX1_init_17 rfl (ltb rfl) (leb rfl) (ltb rfl) rfl rfl rfl nm rfl (tyX1_ok 1 (ltb rfl)) rfl rfl ?_
  have z := zA_sR (a := 79) (k := 1) (v := (some 81)) z (ltb rfl)
  exact g_vret (w := (82, 2, 20)) (pc := 20) O dX1_init_20 ⟨rfl, rfl⟩
def iX5_1 (h : AH) : AH := (sR (sR (sR (sR h 1 0 (some 2)) 1 3 (some 3)) 1 4 (some 4)) 1 5 (some 5))
theorem zX5_1 {h : AH} (z : zA 2 h) : zA 6 (iX5_1 h) := by
  have z := zA_up (m := 3) z (leb rfl)
  have z := zA_sR (a := 1) (k := 0) (v := (some 2)) z (ltb rfl)
  have z := zA_up (m := 4) z (leb rfl)
  have z := zA_sR (a := 1) (k := 3) (v := (some 3)) z (ltb rfl)
  have z := zA_up (m := 5) z (leb rfl)
  have z := zA_sR (a := 1) (k := 4) (v := (some 4)) z (ltb rfl)
  have z := zA_up (m := 6) z (leb rfl)
  have z := zA_sR (a := 1) (k := 5) (v := (some 5)) z (ltb rfl)
  exact z
set_option maxRecDepth 20000 in
set_option maxHeartbeats 2000000 in
theorem cX5_1 {g : mg} {l : Launch} {h : AH} (W : NestW g.1) (z : zA 2 h) : Spec (mG0 g) l mX5_init (2, 4, 1603) h [.ref 1] (qE (iX5_1 h)) := by
  refine spec_of (n := 2) (mc := 4) (ms := 1603) (by decide) (leb rfl) (fun X O nm => ?_)
  show Gd (F0' g l X) (MZ (F0' g l X) (6, 4, 1603) (qE (iX5_1 h))) (2, 0, 0) h 0 [(0, .ref 1)] []
  refine g_aloadn (pc := 0) O rfl dX5_init_0 ?_
  refine g_obj (a := 1) (pc := 1) O oi_X5 dX5_init_1 ⟨leb rfl, leb rfl⟩ (leb rfl) ?_
  refine g_aloadn (pc := 4) O rfl dX5_init_4 ?_
  refine g_sipush (v := (I 400)) (pc := 5) O (by decide) dX5_init_5 ?_
  refine g_newB (n := 2) (cs := 0) (ss := 0) (N := 400) (pc := 8) O dX5_init_8 rfl (ltb rfl) z (leb rfl) ⟨leb rfl, leb rfl⟩ rfl ?_
  have z := zA_up (m := 3) z (leb rfl)
  show Gd (F0' g l X) _ (3, 1, 400) h 10 [(0, .ref 1)] [.ref 2, .ref 1]
  refine g_putF (v := 2) (w := (3, 1, 400)) (a := 1) (k := 0) (pc := 10) O cls5 fl_X5_9 dX5_init_10 rfl (ltb rfl) (leb rfl) (ltb rfl) rfl rfl rfl nm rfl (tyX5_ok 0 (ltb rfl)) rfl rfl ?_
  have z := zA_sR (a := 1) (k := 0) (v := (some 2)) z (ltb rfl)
  refine g_aloadn (pc := 13) O rfl dX5_init_13 ?_
  refine g_sipush (v := (I 401)) (pc := 14) O (by decide) dX5_init_14 ?_
  refine g_newI (n := 3) (cs := 1) (ss := 400) (N := 401) (pc := 17) O dX5_init_17 rfl (ltb rfl) z (leb rfl) ⟨leb rfl, leb rfl⟩ rfl ?_
  have z := zA_up (m := 4) z (leb rfl)
  show Gd (F0' g l X) _ (4, 2, 801) (sR h 1 0 (some 2)) 19 [(0, .ref 1)] [.ref 3, .ref 1]
  refine g_putF (v := 3) (w := (4, 2, 801)) (a := 1) (k := 3) (pc := 19) O cls5 fl_X5_15 dX5_init_19 rfl (ltb rfl) (leb rfl) (ltb rfl) rfl rfl rfl nm rfl (tyX5_ok 3 (ltb rfl)) rfl rfl ?_
  have z := zA_sR (a := 1) (k := 3) (v := (some 3)) z (ltb rfl)
  refine g_aloadn (pc := 22) O rfl dX5_init_22 ?_
  refine g_sipush (v := (I 401)) (pc := 23) O (by decide) dX5_init_23 ?_
  refine g_newI (n := 4) (cs := 2) (ss := 801) (N := 401) (pc := 26) O dX5_init_26 rfl (ltb rfl) z (leb rfl) ⟨leb rfl, leb rfl⟩ rfl ?_
  have z := zA_up (m := 5) z (leb rfl)
  show Gd (F0' g l X) _ (5, 3, 1202) (sR (sR h 1 0 (some 2)) 1 3 (some 3)) 28 [(0, .ref 1)] [.ref 4, .ref 1]
  refine g_putF (v := 4) (w := (5, 3, 1202)) (a := 1) (k := 4) (pc := 28) O cls5 fl_X5_19 dX5_init_28 rfl (ltb rfl) (leb rfl) (ltb rfl) rfl rfl rfl nm rfl (tyX5_ok 4 (ltb rfl)) rfl rfl ?_
  have z := zA_sR (a := 1) (k := 4) (v := (some 4)) z (ltb rfl)
  refine g_aloadn (pc := 31) O rfl dX5_init_31 ?_
  refine g_sipush (v := (I 401)) (pc := 32) O (by decide) dX5_init_32 ?_
  refine g_newI (n := 5) (cs := 3) (ss := 1202) (N := 401) (pc := 35) O dX5_init_35 rfl (ltb rfl) z (leb rfl) ⟨leb rfl, leb rfl⟩ rfl ?_
  have z := zA_up (m := 6) z (leb rfl)
  show Gd (F0' g l X) _ (6, 4, 1603) (sR (sR (sR h 1 0 (some 2)) 1 3 (some 3)) 1 4 (some 4)) 37 [(0, .ref 1)] [.ref 5, .ref 1]
  refine g_putF (v := 5) (w := (6, 4, 1603)) (a := 1) (k := 5) (pc := 37) O cls5 fl_X5_22 dX5_init_37 rfl (ltb rfl) (leb rfl) (ltb rfl) rfl rfl rfl nm rfl (tyX5_ok 5 (ltb rfl)) rfl rfl ?_
  have z := zA_sR (a := 1) (k := 5) (v := (some 5)) z (ltb rfl)
  exact g_vret (w := (6, 4, 1603)) (pc := 40) O dX5_init_40 ⟨rfl, rfl⟩
def iX2_23 (h : AH) : AH := (sR (sR h 23 0 (some 24)) 23 1 (some 25))
theorem zX2_23 {h : AH} (z : zA 24 h) : zA 26 (iX2_23 h) := by
  have z := zA_up (m := 25) z (leb rfl)
  have z := zA_sR (a := 23) (k := 0) (v := (some 24)) z (ltb rfl)
  have z := zA_up (m := 26) z (leb rfl)
  have z := zA_sR (a := 23) (k := 1) (v := (some 25)) z (ltb rfl)
  exact z
set_option maxRecDepth 20000 in
set_option maxHeartbeats 2000000 in
theorem cX2_23 {g : mg} {l : Launch} {h : AH} (W : NestW g.1) (z : zA 24 h) : Spec (mG0 g) l mX2_init (24, 2, 242) h [.ref 23] (qE (iX2_23 h)) := by
  refine spec_of (n := 24) (mc := 2) (ms := 242) (by decide) (leb rfl) (fun X O nm => ?_)
  show Gd (F0' g l X) (MZ (F0' g l X) (26, 2, 242) (qE (iX2_23 h))) (24, 0, 0) h 0 [(0, .ref 23)] []
  refine g_aloadn (pc := 0) O rfl dX2_init_0 ?_
  refine g_obj (a := 23) (pc := 1) O oi_X2 dX2_init_1 ⟨leb rfl, leb rfl⟩ (leb rfl) ?_
  refine g_aloadn (pc := 4) O rfl dX2_init_4 ?_
  refine g_bipush (v := (I 121)) (pc := 5) O (by decide) dX2_init_5 ?_
  refine g_newI (n := 24) (cs := 0) (ss := 0) (N := 121) (pc := 7) O dX2_init_7 rfl (ltb rfl) z (leb rfl) ⟨leb rfl, leb rfl⟩ rfl ?_
  have z := zA_up (m := 25) z (leb rfl)
  show Gd (F0' g l X) _ (25, 1, 121) h 9 [(0, .ref 23)] [.ref 24, .ref 23]
  refine g_putF (v := 24) (w := (25, 1, 121)) (a := 23) (k := 0) (pc := 9) O cls2 fl_X2_11 dX2_init_9 rfl (ltb rfl) (leb rfl) (ltb rfl) rfl rfl rfl nm rfl (tyX2_ok 0 (ltb rfl)) rfl rfl ?_
  have z := zA_sR (a := 23) (k := 0) (v := (some 24)) z (ltb rfl)
  refine g_aloadn (pc := 12) O rfl dX2_init_12 ?_
  refine g_bipush (v := (I 121)) (pc := 13) O (by decide) dX2_init_13 ?_
  refine g_newL (n := 25) (cs := 1) (ss := 121) (N := 121) (pc := 15) O dX2_init_15 rfl (ltb rfl) z (leb rfl) ⟨leb rfl, leb rfl⟩ rfl ?_
  have z := zA_up (m := 26) z (leb rfl)
  show Gd (F0' g l X) _ (26, 2, 242) (sR h 23 0 (some 24)) 17 [(0, .ref 23)] [.ref 25, .ref 23]
  refine g_putF (v := 25) (w := (26, 2, 242)) (a := 23) (k := 1) (pc := 17) O cls2 fl_X2_15 dX2_init_17 rfl (ltb rfl) (leb rfl) (ltb rfl) rfl rfl rfl nm rfl (tyX2_ok 1 (ltb rfl)) rfl rfl ?_
  have z := zA_sR (a := 23) (k := 1) (v := (some 25)) z (ltb rfl)
  exact g_vret (w := (26, 2, 242)) (pc := 20) O dX2_init_20 ⟨rfl, rfl⟩
def iX3_26 (h : AH) : AH := (sR (sR (sR (sR (sR (sR (sR (sR (sR (sR h 26 1 (some 27)) 26 2 (some 28)) 26 3 (some 29)) 26 4 (some 30)) 26 5 (some 31)) 26 6 (some 32)) 26 7 (some 33)) 26 8 (some 34)) 26 9 (some 35)) 26 10 (some 36))
theorem zX3_26 {h : AH} (z : zA 27 h) : zA 37 (iX3_26 h) := by
  have z := zA_up (m := 28) z (leb rfl)
  have z := zA_sR (a := 26) (k := 1) (v := (some 27)) z (ltb rfl)
  have z := zA_up (m := 29) z (leb rfl)
  have z := zA_sR (a := 26) (k := 2) (v := (some 28)) z (ltb rfl)
  have z := zA_up (m := 30) z (leb rfl)
  have z := zA_sR (a := 26) (k := 3) (v := (some 29)) z (ltb rfl)
  have z := zA_up (m := 31) z (leb rfl)
  have z := zA_sR (a := 26) (k := 4) (v := (some 30)) z (ltb rfl)
  have z := zA_up (m := 32) z (leb rfl)
  have z := zA_sR (a := 26) (k := 5) (v := (some 31)) z (ltb rfl)
  have z := zA_up (m := 33) z (leb rfl)
  have z := zA_sR (a := 26) (k := 6) (v := (some 32)) z (ltb rfl)
  have z := zA_up (m := 34) z (leb rfl)
  have z := zA_sR (a := 26) (k := 7) (v := (some 33)) z (ltb rfl)
  have z := zA_up (m := 35) z (leb rfl)
  have z := zA_sR (a := 26) (k := 8) (v := (some 34)) z (ltb rfl)
  have z := zA_up (m := 36) z (leb rfl)
  have z := zA_sR (a := 26) (k := 9) (v := (some 35)) z (ltb rfl)
  have z := zA_up (m := 37) z (leb rfl)
  have z := zA_sR (a := 26) (k := 10) (v := (some 36)) z (ltb rfl)
  exact z
set_option maxRecDepth 20000 in
set_option maxHeartbeats 2000000 in
theorem cX3_26 {g : mg} {l : Launch} {h : AH} (W : NestW g.1) (z : zA 27 h) : Spec (mG0 g) l mX3_init (27, 10, 260) h [.ref 26] (qE (iX3_26 h)) := by
  refine spec_of (n := 27) (mc := 10) (ms := 260) (by decide) (leb rfl) (fun X O nm => ?_)
  show Gd (F0' g l X) (MZ (F0' g l X) (37, 10, 260) (qE (iX3_26 h))) (27, 0, 0) h 0 [(0, .ref 26)] []
  refine g_aloadn (pc := 0) O rfl dX3_init_0 ?_
  refine g_obj (a := 26) (pc := 1) O oi_X3 dX3_init_1 ⟨leb rfl, leb rfl⟩ (leb rfl) ?_
  refine g_aloadn (pc := 4) O rfl dX3_init_4 ?_
  refine g_bipush (v := (I 40)) (pc := 5) O (by decide) dX3_init_5 ?_
  refine g_newI (n := 27) (cs := 0) (ss := 0) (N := 40) (pc := 7) O dX3_init_7 rfl (ltb rfl) z (leb rfl) ⟨leb rfl, leb rfl⟩ rfl ?_
  have z := zA_up (m := 28) z (leb rfl)
  show Gd (F0' g l X) _ (28, 1, 40) h 9 [(0, .ref 26)] [.ref 27, .ref 26]
  refine g_putF (v := 27) (w := (28, 1, 40)) (a := 26) (k := 1) (pc := 9) O cls3 fl_X3_9 dX3_init_9 rfl (ltb rfl) (leb rfl) (ltb rfl) rfl rfl rfl nm rfl (tyX3_ok 1 (ltb rfl)) rfl rfl ?_
  have z := zA_sR (a := 26) (k := 1) (v := (some 27)) z (ltb rfl)
  refine g_aloadn (pc := 12) O rfl dX3_init_12 ?_
  refine g_bipush (v := (I 40)) (pc := 13) O (by decide) dX3_init_13 ?_
  refine g_newI (n := 28) (cs := 1) (ss := 40) (N := 40) (pc := 15) O dX3_init_15 rfl (ltb rfl) z (leb rfl) ⟨leb rfl, leb rfl⟩ rfl ?_
  have z := zA_up (m := 29) z (leb rfl)
  show Gd (F0' g l X) _ (29, 2, 80) (sR h 26 1 (some 27)) 17 [(0, .ref 26)] [.ref 28, .ref 26]
  refine g_putF (v := 28) (w := (29, 2, 80)) (a := 26) (k := 2) (pc := 17) O cls3 fl_X3_15 dX3_init_17 rfl (ltb rfl) (leb rfl) (ltb rfl) rfl rfl rfl nm rfl (tyX3_ok 2 (ltb rfl)) rfl rfl ?_
  have z := zA_sR (a := 26) (k := 2) (v := (some 28)) z (ltb rfl)
  refine g_aloadn (pc := 20) O rfl dX3_init_20 ?_
  refine g_bipush (v := (I 40)) (pc := 21) O (by decide) dX3_init_21 ?_
  refine g_newI (n := 29) (cs := 2) (ss := 80) (N := 40) (pc := 23) O dX3_init_23 rfl (ltb rfl) z (leb rfl) ⟨leb rfl, leb rfl⟩ rfl ?_
  have z := zA_up (m := 30) z (leb rfl)
  show Gd (F0' g l X) _ (30, 3, 120) (sR (sR h 26 1 (some 27)) 26 2 (some 28)) 25 [(0, .ref 26)] [.ref 29, .ref 26]
  refine g_putF (v := 29) (w := (30, 3, 120)) (a := 26) (k := 3) (pc := 25) O cls3 fl_X3_18 dX3_init_25 rfl (ltb rfl) (leb rfl) (ltb rfl) rfl rfl rfl nm rfl (tyX3_ok 3 (ltb rfl)) rfl rfl ?_
  have z := zA_sR (a := 26) (k := 3) (v := (some 29)) z (ltb rfl)
  refine g_aloadn (pc := 28) O rfl dX3_init_28 ?_
  refine g_bipush (v := (I 40)) (pc := 29) O (by decide) dX3_init_29 ?_
  refine g_newI (n := 30) (cs := 3) (ss := 120) (N := 40) (pc := 31) O dX3_init_31 rfl (ltb rfl) z (leb rfl) ⟨leb rfl, leb rfl⟩ rfl ?_
  have z := zA_up (m := 31) z (leb rfl)
  show Gd (F0' g l X) _ (31, 4, 160) (sR (sR (sR h 26 1 (some 27)) 26 2 (some 28)) 26 3 (some 29)) 33 [(0, .ref 26)] [.ref 30, .ref 26]
  refine g_putF (v := 30) (w := (31, 4, 160)) (a := 26) (k := 4) (pc := 33) O cls3 fl_X3_21 dX3_init_33 rfl (ltb rfl) (leb rfl) (ltb rfl) rfl rfl rfl nm rfl (tyX3_ok 4 (ltb rfl)) rfl rfl ?_
  have z := zA_sR (a := 26) (k := 4) (v := (some 30)) z (ltb rfl)
  refine g_aloadn (pc := 36) O rfl dX3_init_36 ?_
  refine g_bipush (v := (I 64)) (pc := 37) O (by decide) dX3_init_37 ?_
  refine g_newB (n := 31) (cs := 4) (ss := 160) (N := 64) (pc := 39) O dX3_init_39 rfl (ltb rfl) z (leb rfl) ⟨leb rfl, leb rfl⟩ rfl ?_
  have z := zA_up (m := 32) z (leb rfl)
  show Gd (F0' g l X) _ (32, 5, 224) (sR (sR (sR (sR h 26 1 (some 27)) 26 2 (some 28)) 26 3 (some 29)) 26 4 (some 30)) 41 [(0, .ref 26)] [.ref 31, .ref 26]
  refine g_putT (w := (32, 5, 224)) (pc := 41) O fl_X3_24 dX3_init_41 (ltb rfl) (ltb rfl) ?_
  have z := zA_sR (a := 26) (k := 5) (v := (some 31)) z (ltb rfl)
  refine g_aloadn (pc := 44) O rfl dX3_init_44 ?_
  refine g_iconst (v := (I 4)) (pc := 45) O rfl dX3_init_45 ?_
  refine g_newI (n := 32) (cs := 5) (ss := 224) (N := 4) (pc := 46) O dX3_init_46 rfl (ltb rfl) z (leb rfl) ⟨leb rfl, leb rfl⟩ rfl ?_
  have z := zA_up (m := 33) z (leb rfl)
  show Gd (F0' g l X) _ (33, 6, 228) (sR (sR (sR (sR (sR h 26 1 (some 27)) 26 2 (some 28)) 26 3 (some 29)) 26 4 (some 30)) 26 5 (some 31)) 48 [(0, .ref 26)] [.ref 32, .ref 26]
  refine g_putF (v := 32) (w := (33, 6, 228)) (a := 26) (k := 6) (pc := 48) O cls3 fl_X3_28 dX3_init_48 rfl (ltb rfl) (leb rfl) (ltb rfl) rfl rfl rfl nm rfl (tyX3_ok 6 (ltb rfl)) rfl rfl ?_
  have z := zA_sR (a := 26) (k := 6) (v := (some 32)) z (ltb rfl)
  refine g_aloadn (pc := 51) O rfl dX3_init_51 ?_
  refine g_iconst (v := (I 4)) (pc := 52) O rfl dX3_init_52 ?_
  refine g_newI (n := 33) (cs := 6) (ss := 228) (N := 4) (pc := 53) O dX3_init_53 rfl (ltb rfl) z (leb rfl) ⟨leb rfl, leb rfl⟩ rfl ?_
  have z := zA_up (m := 34) z (leb rfl)
  show Gd (F0' g l X) _ (34, 7, 232) (sR (sR (sR (sR (sR (sR h 26 1 (some 27)) 26 2 (some 28)) 26 3 (some 29)) 26 4 (some 30)) 26 5 (some 31)) 26 6 (some 32)) 55 [(0, .ref 26)] [.ref 33, .ref 26]
  refine g_putF (v := 33) (w := (34, 7, 232)) (a := 26) (k := 7) (pc := 55) O cls3 fl_X3_31 dX3_init_55 rfl (ltb rfl) (leb rfl) (ltb rfl) rfl rfl rfl nm rfl (tyX3_ok 7 (ltb rfl)) rfl rfl ?_
  have z := zA_sR (a := 26) (k := 7) (v := (some 33)) z (ltb rfl)
  refine g_aloadn (pc := 58) O rfl dX3_init_58 ?_
  refine g_iconst (v := (I 4)) (pc := 59) O rfl dX3_init_59 ?_
  refine g_newI (n := 34) (cs := 7) (ss := 232) (N := 4) (pc := 60) O dX3_init_60 rfl (ltb rfl) z (leb rfl) ⟨leb rfl, leb rfl⟩ rfl ?_
  have z := zA_up (m := 35) z (leb rfl)
  show Gd (F0' g l X) _ (35, 8, 236) (sR (sR (sR (sR (sR (sR (sR h 26 1 (some 27)) 26 2 (some 28)) 26 3 (some 29)) 26 4 (some 30)) 26 5 (some 31)) 26 6 (some 32)) 26 7 (some 33)) 62 [(0, .ref 26)] [.ref 34, .ref 26]
  refine g_putF (v := 34) (w := (35, 8, 236)) (a := 26) (k := 8) (pc := 62) O cls3 fl_X3_34 dX3_init_62 rfl (ltb rfl) (leb rfl) (ltb rfl) rfl rfl rfl nm rfl (tyX3_ok 8 (ltb rfl)) rfl rfl ?_
  have z := zA_sR (a := 26) (k := 8) (v := (some 34)) z (ltb rfl)
  refine g_aloadn (pc := 65) O rfl dX3_init_65 ?_
  refine g_bipush (v := (I 12)) (pc := 66) O (by decide) dX3_init_66 ?_
  refine g_newI (n := 35) (cs := 8) (ss := 236) (N := 12) (pc := 68) O dX3_init_68 rfl (ltb rfl) z (leb rfl) ⟨leb rfl, leb rfl⟩ rfl ?_
  have z := zA_up (m := 36) z (leb rfl)
  show Gd (F0' g l X) _ (36, 9, 248) (sR (sR (sR (sR (sR (sR (sR (sR h 26 1 (some 27)) 26 2 (some 28)) 26 3 (some 29)) 26 4 (some 30)) 26 5 (some 31)) 26 6 (some 32)) 26 7 (some 33)) 26 8 (some 34)) 70 [(0, .ref 26)] [.ref 35, .ref 26]
  refine g_putF (v := 35) (w := (36, 9, 248)) (a := 26) (k := 9) (pc := 70) O cls3 fl_X3_37 dX3_init_70 rfl (ltb rfl) (leb rfl) (ltb rfl) rfl rfl rfl nm rfl (tyX3_ok 9 (ltb rfl)) rfl rfl ?_
  have z := zA_sR (a := 26) (k := 9) (v := (some 35)) z (ltb rfl)
  refine g_aloadn (pc := 73) O rfl dX3_init_73 ?_
  refine g_bipush (v := (I 12)) (pc := 74) O (by decide) dX3_init_74 ?_
  refine g_newI (n := 36) (cs := 9) (ss := 248) (N := 12) (pc := 76) O dX3_init_76 rfl (ltb rfl) z (leb rfl) ⟨leb rfl, leb rfl⟩ rfl ?_
  have z := zA_up (m := 37) z (leb rfl)
  show Gd (F0' g l X) _ (37, 10, 260) (sR (sR (sR (sR (sR (sR (sR (sR (sR h 26 1 (some 27)) 26 2 (some 28)) 26 3 (some 29)) 26 4 (some 30)) 26 5 (some 31)) 26 6 (some 32)) 26 7 (some 33)) 26 8 (some 34)) 26 9 (some 35)) 78 [(0, .ref 26)] [.ref 36, .ref 26]
  refine g_putF (v := 36) (w := (37, 10, 260)) (a := 26) (k := 10) (pc := 78) O cls3 fl_X3_40 dX3_init_78 rfl (ltb rfl) (leb rfl) (ltb rfl) rfl rfl rfl nm rfl (tyX3_ok 10 (ltb rfl)) rfl rfl ?_
  have z := zA_sR (a := 26) (k := 10) (v := (some 36)) z (ltb rfl)
  exact g_vret (w := (37, 10, 260)) (pc := 81) O dX3_init_81 ⟨rfl, rfl⟩
def iX6_37 (h : AH) : AH := (sR (sR (sR (sR h 37 1 (some 38)) 37 2 (some 39)) 37 4 (some 40)) 37 5 (some 41))
theorem zX6_37 {h : AH} (z : zA 38 h) : zA 42 (iX6_37 h) := by
  have z := zA_up (m := 39) z (leb rfl)
  have z := zA_sR (a := 37) (k := 1) (v := (some 38)) z (ltb rfl)
  have z := zA_up (m := 40) z (leb rfl)
  have z := zA_sR (a := 37) (k := 2) (v := (some 39)) z (ltb rfl)
  have z := zA_up (m := 41) z (leb rfl)
  have z := zA_sR (a := 37) (k := 4) (v := (some 40)) z (ltb rfl)
  have z := zA_up (m := 42) z (leb rfl)
  have z := zA_sR (a := 37) (k := 5) (v := (some 41)) z (ltb rfl)
  exact z
set_option maxRecDepth 20000 in
set_option maxHeartbeats 2000000 in
theorem cX6_37 {g : mg} {l : Launch} {h : AH} (W : NestW g.1) (z : zA 38 h) : Spec (mG0 g) l mX6_init (38, 4, 489) h [.ref 37] (qE (iX6_37 h)) := by
  refine spec_of (n := 38) (mc := 4) (ms := 489) (by decide) (leb rfl) (fun X O nm => ?_)
  show Gd (F0' g l X) (MZ (F0' g l X) (42, 4, 489) (qE (iX6_37 h))) (38, 0, 0) h 0 [(0, .ref 37)] []
  refine g_aloadn (pc := 0) O rfl dX6_init_0 ?_
  refine g_obj (a := 37) (pc := 1) O oi_X6 dX6_init_1 ⟨leb rfl, leb rfl⟩ (leb rfl) ?_
  refine g_aloadn (pc := 4) O rfl dX6_init_4 ?_
  refine g_bipush (v := (I 40)) (pc := 5) O (by decide) dX6_init_5 ?_
  refine g_newI (n := 38) (cs := 0) (ss := 0) (N := 40) (pc := 7) O dX6_init_7 rfl (ltb rfl) z (leb rfl) ⟨leb rfl, leb rfl⟩ rfl ?_
  have z := zA_up (m := 39) z (leb rfl)
  show Gd (F0' g l X) _ (39, 1, 40) h 9 [(0, .ref 37)] [.ref 38, .ref 37]
  refine g_putF (v := 38) (w := (39, 1, 40)) (a := 37) (k := 1) (pc := 9) O cls6 fl_X6_9 dX6_init_9 rfl (ltb rfl) (leb rfl) (ltb rfl) rfl rfl rfl nm rfl (tyX6_ok 1 (ltb rfl)) rfl rfl ?_
  have z := zA_sR (a := 37) (k := 1) (v := (some 38)) z (ltb rfl)
  refine g_aloadn (pc := 12) O rfl dX6_init_12 ?_
  refine g_bipush (v := (I 40)) (pc := 13) O (by decide) dX6_init_13 ?_
  refine g_newI (n := 39) (cs := 1) (ss := 40) (N := 40) (pc := 15) O dX6_init_15 rfl (ltb rfl) z (leb rfl) ⟨leb rfl, leb rfl⟩ rfl ?_
  have z := zA_up (m := 40) z (leb rfl)
  show Gd (F0' g l X) _ (40, 2, 80) (sR h 37 1 (some 38)) 17 [(0, .ref 37)] [.ref 39, .ref 37]
  refine g_putF (v := 39) (w := (40, 2, 80)) (a := 37) (k := 2) (pc := 17) O cls6 fl_X6_15 dX6_init_17 rfl (ltb rfl) (leb rfl) (ltb rfl) rfl rfl rfl nm rfl (tyX6_ok 2 (ltb rfl)) rfl rfl ?_
  have z := zA_sR (a := 37) (k := 2) (v := (some 39)) z (ltb rfl)
  refine g_aloadn (pc := 20) O rfl dX6_init_20 ?_
  refine g_bipush (v := (I 40)) (pc := 21) O (by decide) dX6_init_21 ?_
  refine g_newI (n := 40) (cs := 2) (ss := 80) (N := 40) (pc := 23) O dX6_init_23 rfl (ltb rfl) z (leb rfl) ⟨leb rfl, leb rfl⟩ rfl ?_
  have z := zA_up (m := 41) z (leb rfl)
  show Gd (F0' g l X) _ (41, 3, 120) (sR (sR h 37 1 (some 38)) 37 2 (some 39)) 25 [(0, .ref 37)] [.ref 40, .ref 37]
  refine g_putF (v := 40) (w := (41, 3, 120)) (a := 37) (k := 4) (pc := 25) O cls6 fl_X6_18 dX6_init_25 rfl (ltb rfl) (leb rfl) (ltb rfl) rfl rfl rfl nm rfl (tyX6_ok 4 (ltb rfl)) rfl rfl ?_
  have z := zA_sR (a := 37) (k := 4) (v := (some 40)) z (ltb rfl)
  refine g_aloadn (pc := 28) O rfl dX6_init_28 ?_
  refine g_sipush (v := (I 369)) (pc := 29) O (by decide) dX6_init_29 ?_
  refine g_newI (n := 41) (cs := 3) (ss := 120) (N := 369) (pc := 32) O dX6_init_32 rfl (ltb rfl) z (leb rfl) ⟨leb rfl, leb rfl⟩ rfl ?_
  have z := zA_up (m := 42) z (leb rfl)
  show Gd (F0' g l X) _ (42, 4, 489) (sR (sR (sR h 37 1 (some 38)) 37 2 (some 39)) 37 4 (some 40)) 34 [(0, .ref 37)] [.ref 41, .ref 37]
  refine g_putF (v := 41) (w := (42, 4, 489)) (a := 37) (k := 5) (pc := 34) O cls6 fl_X6_21 dX6_init_34 rfl (ltb rfl) (leb rfl) (ltb rfl) rfl rfl rfl nm rfl (tyX6_ok 5 (ltb rfl)) rfl rfl ?_
  have z := zA_sR (a := 37) (k := 5) (v := (some 41)) z (ltb rfl)
  exact g_vret (w := (42, 4, 489)) (pc := 37) O dX6_init_37 ⟨rfl, rfl⟩
def iempty_42 (h : AH) : AH := (sI (sI (flI (flI (flI h 43 12 (I 0)) 44 12 (I 999)) 45 12 (I 0)) 42 5 (I 0)) 42 6 (I 0))
theorem zempty_42 {h : AH} (z : zA 48 h) : zA 48 (iempty_42 h) := by
  have z := zA_fl (a := 43) (m := 12) (v := (I 0)) z (ltb rfl)
  have z := zA_fl (a := 44) (m := 12) (v := (I 999)) z (ltb rfl)
  have z := zA_fl (a := 45) (m := 12) (v := (I 0)) z (ltb rfl)
  have z := zA_sI (a := 42) (k := 5) (v := (I 0)) z (ltb rfl)
  have z := zA_sI (a := 42) (k := 6) (v := (I 0)) z (ltb rfl)
  exact z
set_option maxRecDepth 20000 in
set_option maxHeartbeats 2000000 in
theorem kempty_42 {g : mg} {l : Launch} {h : AH} (e0 : h.2.2 42 0 = some 43) (e1 : h.2.2 42 1 = some 44) (e2 : h.2.2 42 2 = some 45) : Spec (mG0 g) l mX0_empty (48, 0, 0) h [.ref 42] (qE (iempty_42 h)) := by
  refine spec_of (n := 48) (mc := 0) (ms := 0) (by decide) (leb rfl) (fun X O nm => ?_)
  show Gd (F0' g l X) (MZ (F0' g l X) (48, 0, 0) (qE (iempty_42 h))) (48, 0, 0) h 0 [(0, .ref 42)] []
  refine g_aloadn (pc := 0) O rfl dX0_empty_0 ?_
  refine g_getR (w := (48, 0, 0)) (a := 42) (k := 0) (b := 43) (pc := 1) O cls0 fl_X0_9 dX0_empty_1 rfl (ltb rfl) (ltb rfl) rfl rfl e0 ?_
  refine g_iconst (v := (I 0)) (pc := 4) O rfl dX0_empty_4 ?_
  refine g_callS (av := [.ref 43, .int (I 0)]) (st := []) (w := (48, 0, 0)) (mc := 0) (ms := 0) (pc := 5) O mk_J7_fill_53178 ml_X0_30 sm_J7_fill_53178 ⟨rfl, rfl, leb rfl, leb rfl⟩ rfl (leb rfl) ⟨leb rfl, leb rfl⟩ dX0_empty_5 (Spec.mono (k_fill (leb rfl) rfl (ltb rfl) (leb rfl)) (qE_k ?_)) rfl
  show Gd (F0' g l X) _ (48, 0, 0) (flI h 43 12 (I 0)) 8 [(0, .ref 42)] []
  refine g_aloadn (pc := 8) O rfl dX0_empty_8 ?_
  refine g_getR (w := (48, 0, 0)) (a := 42) (k := 1) (b := 44) (pc := 9) O cls0 fl_X0_15 dX0_empty_9 rfl (ltb rfl) (ltb rfl) rfl rfl e1 ?_
  refine g_sipush (v := (I 999)) (pc := 12) O (by decide) dX0_empty_12 ?_
  refine g_callS (av := [.ref 44, .int (I 999)]) (st := []) (w := (48, 0, 0)) (mc := 0) (ms := 0) (pc := 15) O mk_J7_fill_53178 ml_X0_30 sm_J7_fill_53178 ⟨rfl, rfl, leb rfl, leb rfl⟩ rfl (leb rfl) ⟨leb rfl, leb rfl⟩ dX0_empty_15 (Spec.mono (k_fill (leb rfl) rfl (ltb rfl) (leb rfl)) (qE_k ?_)) rfl
  show Gd (F0' g l X) _ (48, 0, 0) (flI (flI h 43 12 (I 0)) 44 12 (I 999)) 18 [(0, .ref 42)] []
  refine g_aloadn (pc := 18) O rfl dX0_empty_18 ?_
  refine g_getR (w := (48, 0, 0)) (a := 42) (k := 2) (b := 45) (pc := 19) O cls0 fl_X0_18 dX0_empty_19 rfl (ltb rfl) (ltb rfl) rfl rfl e2 ?_
  refine g_iconst (v := (I 0)) (pc := 22) O rfl dX0_empty_22 ?_
  refine g_callS (av := [.ref 45, .int (I 0)]) (st := []) (w := (48, 0, 0)) (mc := 0) (ms := 0) (pc := 23) O mk_J7_fill_53178 ml_X0_30 sm_J7_fill_53178 ⟨rfl, rfl, leb rfl, leb rfl⟩ rfl (leb rfl) ⟨leb rfl, leb rfl⟩ dX0_empty_23 (Spec.mono (k_fill (leb rfl) rfl (ltb rfl) (leb rfl)) (qE_k ?_)) rfl
  show Gd (F0' g l X) _ (48, 0, 0) (flI (flI (flI h 43 12 (I 0)) 44 12 (I 999)) 45 12 (I 0)) 26 [(0, .ref 42)] []
  refine g_aloadn (pc := 26) O rfl dX0_empty_26 ?_
  refine g_iconst (v := (I 0)) (pc := 27) O rfl dX0_empty_27 ?_
  refine g_putI (w := (48, 0, 0)) (a := 42) (k := 5) (pc := 28) O cls0 fl_X0_36 dX0_empty_28 rfl (ltb rfl) (leb rfl) (ltb rfl) rfl rfl (tyX0_ok 5 (ltb rfl)) ?_
  refine g_aloadn (pc := 31) O rfl dX0_empty_31 ?_
  refine g_iconst (v := (I 0)) (pc := 32) O rfl dX0_empty_32 ?_
  refine g_putI (w := (48, 0, 0)) (a := 42) (k := 6) (pc := 33) O cls0 fl_X0_40 dX0_empty_33 rfl (ltb rfl) (leb rfl) (ltb rfl) rfl rfl (tyX0_ok 6 (ltb rfl)) ?_
  exact g_vret (w := (48, 0, 0)) (pc := 36) O dX0_empty_36 ⟨rfl, rfl⟩
def iX0_42 (h : AH) : AH := (iempty_42 (sR (sR (sR (sR (sR h 42 0 (some 43)) 42 1 (some 44)) 42 2 (some 45)) 42 3 (some 46)) 42 4 (some 47)))
theorem zX0_42 {h : AH} (z : zA 43 h) : zA 48 (iX0_42 h) := by
  have z := zA_up (m := 44) z (leb rfl)
  have z := zA_sR (a := 42) (k := 0) (v := (some 43)) z (ltb rfl)
  have z := zA_up (m := 45) z (leb rfl)
  have z := zA_sR (a := 42) (k := 1) (v := (some 44)) z (ltb rfl)
  have z := zA_up (m := 46) z (leb rfl)
  have z := zA_sR (a := 42) (k := 2) (v := (some 45)) z (ltb rfl)
  have z := zA_up (m := 47) z (leb rfl)
  have z := zA_sR (a := 42) (k := 3) (v := (some 46)) z (ltb rfl)
  have z := zA_up (m := 48) z (leb rfl)
  have z := zA_sR (a := 42) (k := 4) (v := (some 47)) z (ltb rfl)
  have z := zempty_42 z
  exact z
set_option maxRecDepth 20000 in
set_option maxHeartbeats 2000000 in
theorem cX0_42 {g : mg} {l : Launch} {h : AH} (W : NestW g.1) (z : zA 43 h) : Spec (mG0 g) l mX0_init (43, 5, 52) h [.ref 42] (qE (iX0_42 h)) := by
  refine spec_of (n := 43) (mc := 5) (ms := 52) (by decide) (leb rfl) (fun X O nm => ?_)
  show Gd (F0' g l X) (MZ (F0' g l X) (48, 5, 52) (qE (iX0_42 h))) (43, 0, 0) h 0 [(0, .ref 42)] []
  refine g_aloadn (pc := 0) O rfl dX0_init_0 ?_
  refine g_obj (a := 42) (pc := 1) O oi_X0 dX0_init_1 ⟨leb rfl, leb rfl⟩ (leb rfl) ?_
  refine g_aloadn (pc := 4) O rfl dX0_init_4 ?_
  refine g_bipush (v := (I 12)) (pc := 5) O (by decide) dX0_init_5 ?_
  refine g_newI (n := 43) (cs := 0) (ss := 0) (N := 12) (pc := 7) O dX0_init_7 rfl (ltb rfl) z (leb rfl) ⟨leb rfl, leb rfl⟩ rfl ?_
  have z := zA_up (m := 44) z (leb rfl)
  show Gd (F0' g l X) _ (44, 1, 12) h 9 [(0, .ref 42)] [.ref 43, .ref 42]
  refine g_putF (v := 43) (w := (44, 1, 12)) (a := 42) (k := 0) (pc := 9) O cls0 fl_X0_9 dX0_init_9 rfl (ltb rfl) (leb rfl) (ltb rfl) rfl rfl rfl nm rfl (tyX0_ok 0 (ltb rfl)) rfl rfl ?_
  have z := zA_sR (a := 42) (k := 0) (v := (some 43)) z (ltb rfl)
  refine g_aloadn (pc := 12) O rfl dX0_init_12 ?_
  refine g_bipush (v := (I 12)) (pc := 13) O (by decide) dX0_init_13 ?_
  refine g_newI (n := 44) (cs := 1) (ss := 12) (N := 12) (pc := 15) O dX0_init_15 rfl (ltb rfl) z (leb rfl) ⟨leb rfl, leb rfl⟩ rfl ?_
  have z := zA_up (m := 45) z (leb rfl)
  show Gd (F0' g l X) _ (45, 2, 24) (sR h 42 0 (some 43)) 17 [(0, .ref 42)] [.ref 44, .ref 42]
  refine g_putF (v := 44) (w := (45, 2, 24)) (a := 42) (k := 1) (pc := 17) O cls0 fl_X0_15 dX0_init_17 rfl (ltb rfl) (leb rfl) (ltb rfl) rfl rfl rfl nm rfl (tyX0_ok 1 (ltb rfl)) rfl rfl ?_
  have z := zA_sR (a := 42) (k := 1) (v := (some 44)) z (ltb rfl)
  refine g_aloadn (pc := 20) O rfl dX0_init_20 ?_
  refine g_bipush (v := (I 12)) (pc := 21) O (by decide) dX0_init_21 ?_
  refine g_newI (n := 45) (cs := 2) (ss := 24) (N := 12) (pc := 23) O dX0_init_23 rfl (ltb rfl) z (leb rfl) ⟨leb rfl, leb rfl⟩ rfl ?_
  have z := zA_up (m := 46) z (leb rfl)
  show Gd (F0' g l X) _ (46, 3, 36) (sR (sR h 42 0 (some 43)) 42 1 (some 44)) 25 [(0, .ref 42)] [.ref 45, .ref 42]
  refine g_putF (v := 45) (w := (46, 3, 36)) (a := 42) (k := 2) (pc := 25) O cls0 fl_X0_18 dX0_init_25 rfl (ltb rfl) (leb rfl) (ltb rfl) rfl rfl rfl nm rfl (tyX0_ok 2 (ltb rfl)) rfl rfl ?_
  have z := zA_sR (a := 42) (k := 2) (v := (some 45)) z (ltb rfl)
  refine g_aloadn (pc := 28) O rfl dX0_init_28 ?_
  refine g_bipush (v := (I 8)) (pc := 29) O (by decide) dX0_init_29 ?_
  refine g_newI (n := 46) (cs := 3) (ss := 36) (N := 8) (pc := 31) O dX0_init_31 rfl (ltb rfl) z (leb rfl) ⟨leb rfl, leb rfl⟩ rfl ?_
  have z := zA_up (m := 47) z (leb rfl)
  show Gd (F0' g l X) _ (47, 4, 44) (sR (sR (sR h 42 0 (some 43)) 42 1 (some 44)) 42 2 (some 45)) 33 [(0, .ref 42)] [.ref 46, .ref 42]
  refine g_putF (v := 46) (w := (47, 4, 44)) (a := 42) (k := 3) (pc := 33) O cls0 fl_X0_21 dX0_init_33 rfl (ltb rfl) (leb rfl) (ltb rfl) rfl rfl rfl nm rfl (tyX0_ok 3 (ltb rfl)) rfl rfl ?_
  have z := zA_sR (a := 42) (k := 3) (v := (some 46)) z (ltb rfl)
  refine g_aloadn (pc := 36) O rfl dX0_init_36 ?_
  refine g_bipush (v := (I 8)) (pc := 37) O (by decide) dX0_init_37 ?_
  refine g_newI (n := 47) (cs := 4) (ss := 44) (N := 8) (pc := 39) O dX0_init_39 rfl (ltb rfl) z (leb rfl) ⟨leb rfl, leb rfl⟩ rfl ?_
  have z := zA_up (m := 48) z (leb rfl)
  show Gd (F0' g l X) _ (48, 5, 52) (sR (sR (sR (sR h 42 0 (some 43)) 42 1 (some 44)) 42 2 (some 45)) 42 3 (some 46)) 41 [(0, .ref 42)] [.ref 47, .ref 42]
  refine g_putF (v := 47) (w := (48, 5, 52)) (a := 42) (k := 4) (pc := 41) O cls0 fl_X0_24 dX0_init_41 rfl (ltb rfl) (leb rfl) (ltb rfl) rfl rfl rfl nm rfl (tyX0_ok 4 (ltb rfl)) rfl rfl ?_
  have z := zA_sR (a := 42) (k := 4) (v := (some 47)) z (ltb rfl)
  refine g_aloadn (pc := 44) O rfl dX0_init_44 ?_
  refine g_callV (av := []) (st := []) (w := (48, 5, 52)) (a := 42) (mc := 0) (ms := 0) (pc := 45) O mk_X0_empty ml_X0_27 im_X0_empty se_X0_empty cls0 rfl (ltb rfl) ⟨rfl, rfl, leb rfl, leb rfl⟩ rfl (leb rfl) ⟨leb rfl, leb rfl⟩ dX0_init_45 (Spec.mono (kempty_42 rfl rfl rfl) (qE_k ?_)) rfl
  have z := zempty_42 z
  show Gd (F0' g l X) _ (48, 5, 52) (iempty_42 (sR (sR (sR (sR (sR h 42 0 (some 43)) 42 1 (some 44)) 42 2 (some 45)) 42 3 (some 46)) 42 4 (some 47))) 48 [(0, .ref 42)] []
  exact g_vret (w := (48, 5, 52)) (pc := 48) O dX0_init_48 ⟨rfl, rfl⟩
def iempty_48 (h : AH) : AH := (sI (sI (flI (flI (flI h 49 12 (I 0)) 50 12 (I 999)) 51 12 (I 0)) 48 5 (I 0)) 48 6 (I 0))
theorem zempty_48 {h : AH} (z : zA 54 h) : zA 54 (iempty_48 h) := by
  have z := zA_fl (a := 49) (m := 12) (v := (I 0)) z (ltb rfl)
  have z := zA_fl (a := 50) (m := 12) (v := (I 999)) z (ltb rfl)
  have z := zA_fl (a := 51) (m := 12) (v := (I 0)) z (ltb rfl)
  have z := zA_sI (a := 48) (k := 5) (v := (I 0)) z (ltb rfl)
  have z := zA_sI (a := 48) (k := 6) (v := (I 0)) z (ltb rfl)
  exact z
set_option maxRecDepth 20000 in
set_option maxHeartbeats 2000000 in
theorem kempty_48 {g : mg} {l : Launch} {h : AH} (e0 : h.2.2 48 0 = some 49) (e1 : h.2.2 48 1 = some 50) (e2 : h.2.2 48 2 = some 51) : Spec (mG0 g) l mX0_empty (54, 0, 0) h [.ref 48] (qE (iempty_48 h)) := by
  refine spec_of (n := 54) (mc := 0) (ms := 0) (by decide) (leb rfl) (fun X O nm => ?_)
  show Gd (F0' g l X) (MZ (F0' g l X) (54, 0, 0) (qE (iempty_48 h))) (54, 0, 0) h 0 [(0, .ref 48)] []
  refine g_aloadn (pc := 0) O rfl dX0_empty_0 ?_
  refine g_getR (w := (54, 0, 0)) (a := 48) (k := 0) (b := 49) (pc := 1) O cls0 fl_X0_9 dX0_empty_1 rfl (ltb rfl) (ltb rfl) rfl rfl e0 ?_
  refine g_iconst (v := (I 0)) (pc := 4) O rfl dX0_empty_4 ?_
  refine g_callS (av := [.ref 49, .int (I 0)]) (st := []) (w := (54, 0, 0)) (mc := 0) (ms := 0) (pc := 5) O mk_J7_fill_53178 ml_X0_30 sm_J7_fill_53178 ⟨rfl, rfl, leb rfl, leb rfl⟩ rfl (leb rfl) ⟨leb rfl, leb rfl⟩ dX0_empty_5 (Spec.mono (k_fill (leb rfl) rfl (ltb rfl) (leb rfl)) (qE_k ?_)) rfl
  show Gd (F0' g l X) _ (54, 0, 0) (flI h 49 12 (I 0)) 8 [(0, .ref 48)] []
  refine g_aloadn (pc := 8) O rfl dX0_empty_8 ?_
  refine g_getR (w := (54, 0, 0)) (a := 48) (k := 1) (b := 50) (pc := 9) O cls0 fl_X0_15 dX0_empty_9 rfl (ltb rfl) (ltb rfl) rfl rfl e1 ?_
  refine g_sipush (v := (I 999)) (pc := 12) O (by decide) dX0_empty_12 ?_
  refine g_callS (av := [.ref 50, .int (I 999)]) (st := []) (w := (54, 0, 0)) (mc := 0) (ms := 0) (pc := 15) O mk_J7_fill_53178 ml_X0_30 sm_J7_fill_53178 ⟨rfl, rfl, leb rfl, leb rfl⟩ rfl (leb rfl) ⟨leb rfl, leb rfl⟩ dX0_empty_15 (Spec.mono (k_fill (leb rfl) rfl (ltb rfl) (leb rfl)) (qE_k ?_)) rfl
  show Gd (F0' g l X) _ (54, 0, 0) (flI (flI h 49 12 (I 0)) 50 12 (I 999)) 18 [(0, .ref 48)] []
  refine g_aloadn (pc := 18) O rfl dX0_empty_18 ?_
  refine g_getR (w := (54, 0, 0)) (a := 48) (k := 2) (b := 51) (pc := 19) O cls0 fl_X0_18 dX0_empty_19 rfl (ltb rfl) (ltb rfl) rfl rfl e2 ?_
  refine g_iconst (v := (I 0)) (pc := 22) O rfl dX0_empty_22 ?_
  refine g_callS (av := [.ref 51, .int (I 0)]) (st := []) (w := (54, 0, 0)) (mc := 0) (ms := 0) (pc := 23) O mk_J7_fill_53178 ml_X0_30 sm_J7_fill_53178 ⟨rfl, rfl, leb rfl, leb rfl⟩ rfl (leb rfl) ⟨leb rfl, leb rfl⟩ dX0_empty_23 (Spec.mono (k_fill (leb rfl) rfl (ltb rfl) (leb rfl)) (qE_k ?_)) rfl
  show Gd (F0' g l X) _ (54, 0, 0) (flI (flI (flI h 49 12 (I 0)) 50 12 (I 999)) 51 12 (I 0)) 26 [(0, .ref 48)] []
  refine g_aloadn (pc := 26) O rfl dX0_empty_26 ?_
  refine g_iconst (v := (I 0)) (pc := 27) O rfl dX0_empty_27 ?_
  refine g_putI (w := (54, 0, 0)) (a := 48) (k := 5) (pc := 28) O cls0 fl_X0_36 dX0_empty_28 rfl (ltb rfl) (leb rfl) (ltb rfl) rfl rfl (tyX0_ok 5 (ltb rfl)) ?_
  refine g_aloadn (pc := 31) O rfl dX0_empty_31 ?_
  refine g_iconst (v := (I 0)) (pc := 32) O rfl dX0_empty_32 ?_
  refine g_putI (w := (54, 0, 0)) (a := 48) (k := 6) (pc := 33) O cls0 fl_X0_40 dX0_empty_33 rfl (ltb rfl) (leb rfl) (ltb rfl) rfl rfl (tyX0_ok 6 (ltb rfl)) ?_
  exact g_vret (w := (54, 0, 0)) (pc := 36) O dX0_empty_36 ⟨rfl, rfl⟩
def iX0_48 (h : AH) : AH := (iempty_48 (sR (sR (sR (sR (sR h 48 0 (some 49)) 48 1 (some 50)) 48 2 (some 51)) 48 3 (some 52)) 48 4 (some 53)))
theorem zX0_48 {h : AH} (z : zA 49 h) : zA 54 (iX0_48 h) := by
  have z := zA_up (m := 50) z (leb rfl)
  have z := zA_sR (a := 48) (k := 0) (v := (some 49)) z (ltb rfl)
  have z := zA_up (m := 51) z (leb rfl)
  have z := zA_sR (a := 48) (k := 1) (v := (some 50)) z (ltb rfl)
  have z := zA_up (m := 52) z (leb rfl)
  have z := zA_sR (a := 48) (k := 2) (v := (some 51)) z (ltb rfl)
  have z := zA_up (m := 53) z (leb rfl)
  have z := zA_sR (a := 48) (k := 3) (v := (some 52)) z (ltb rfl)
  have z := zA_up (m := 54) z (leb rfl)
  have z := zA_sR (a := 48) (k := 4) (v := (some 53)) z (ltb rfl)
  have z := zempty_48 z
  exact z
set_option maxRecDepth 20000 in
set_option maxHeartbeats 2000000 in
theorem cX0_48 {g : mg} {l : Launch} {h : AH} (W : NestW g.1) (z : zA 49 h) : Spec (mG0 g) l mX0_init (49, 5, 52) h [.ref 48] (qE (iX0_48 h)) := by
  refine spec_of (n := 49) (mc := 5) (ms := 52) (by decide) (leb rfl) (fun X O nm => ?_)
  show Gd (F0' g l X) (MZ (F0' g l X) (54, 5, 52) (qE (iX0_48 h))) (49, 0, 0) h 0 [(0, .ref 48)] []
  refine g_aloadn (pc := 0) O rfl dX0_init_0 ?_
  refine g_obj (a := 48) (pc := 1) O oi_X0 dX0_init_1 ⟨leb rfl, leb rfl⟩ (leb rfl) ?_
  refine g_aloadn (pc := 4) O rfl dX0_init_4 ?_
  refine g_bipush (v := (I 12)) (pc := 5) O (by decide) dX0_init_5 ?_
  refine g_newI (n := 49) (cs := 0) (ss := 0) (N := 12) (pc := 7) O dX0_init_7 rfl (ltb rfl) z (leb rfl) ⟨leb rfl, leb rfl⟩ rfl ?_
  have z := zA_up (m := 50) z (leb rfl)
  show Gd (F0' g l X) _ (50, 1, 12) h 9 [(0, .ref 48)] [.ref 49, .ref 48]
  refine g_putF (v := 49) (w := (50, 1, 12)) (a := 48) (k := 0) (pc := 9) O cls0 fl_X0_9 dX0_init_9 rfl (ltb rfl) (leb rfl) (ltb rfl) rfl rfl rfl nm rfl (tyX0_ok 0 (ltb rfl)) rfl rfl ?_
  have z := zA_sR (a := 48) (k := 0) (v := (some 49)) z (ltb rfl)
  refine g_aloadn (pc := 12) O rfl dX0_init_12 ?_
  refine g_bipush (v := (I 12)) (pc := 13) O (by decide) dX0_init_13 ?_
  refine g_newI (n := 50) (cs := 1) (ss := 12) (N := 12) (pc := 15) O dX0_init_15 rfl (ltb rfl) z (leb rfl) ⟨leb rfl, leb rfl⟩ rfl ?_
  have z := zA_up (m := 51) z (leb rfl)
  show Gd (F0' g l X) _ (51, 2, 24) (sR h 48 0 (some 49)) 17 [(0, .ref 48)] [.ref 50, .ref 48]
  refine g_putF (v := 50) (w := (51, 2, 24)) (a := 48) (k := 1) (pc := 17) O cls0 fl_X0_15 dX0_init_17 rfl (ltb rfl) (leb rfl) (ltb rfl) rfl rfl rfl nm rfl (tyX0_ok 1 (ltb rfl)) rfl rfl ?_
  have z := zA_sR (a := 48) (k := 1) (v := (some 50)) z (ltb rfl)
  refine g_aloadn (pc := 20) O rfl dX0_init_20 ?_
  refine g_bipush (v := (I 12)) (pc := 21) O (by decide) dX0_init_21 ?_
  refine g_newI (n := 51) (cs := 2) (ss := 24) (N := 12) (pc := 23) O dX0_init_23 rfl (ltb rfl) z (leb rfl) ⟨leb rfl, leb rfl⟩ rfl ?_
  have z := zA_up (m := 52) z (leb rfl)
  show Gd (F0' g l X) _ (52, 3, 36) (sR (sR h 48 0 (some 49)) 48 1 (some 50)) 25 [(0, .ref 48)] [.ref 51, .ref 48]
  refine g_putF (v := 51) (w := (52, 3, 36)) (a := 48) (k := 2) (pc := 25) O cls0 fl_X0_18 dX0_init_25 rfl (ltb rfl) (leb rfl) (ltb rfl) rfl rfl rfl nm rfl (tyX0_ok 2 (ltb rfl)) rfl rfl ?_
  have z := zA_sR (a := 48) (k := 2) (v := (some 51)) z (ltb rfl)
  refine g_aloadn (pc := 28) O rfl dX0_init_28 ?_
  refine g_bipush (v := (I 8)) (pc := 29) O (by decide) dX0_init_29 ?_
  refine g_newI (n := 52) (cs := 3) (ss := 36) (N := 8) (pc := 31) O dX0_init_31 rfl (ltb rfl) z (leb rfl) ⟨leb rfl, leb rfl⟩ rfl ?_
  have z := zA_up (m := 53) z (leb rfl)
  show Gd (F0' g l X) _ (53, 4, 44) (sR (sR (sR h 48 0 (some 49)) 48 1 (some 50)) 48 2 (some 51)) 33 [(0, .ref 48)] [.ref 52, .ref 48]
  refine g_putF (v := 52) (w := (53, 4, 44)) (a := 48) (k := 3) (pc := 33) O cls0 fl_X0_21 dX0_init_33 rfl (ltb rfl) (leb rfl) (ltb rfl) rfl rfl rfl nm rfl (tyX0_ok 3 (ltb rfl)) rfl rfl ?_
  have z := zA_sR (a := 48) (k := 3) (v := (some 52)) z (ltb rfl)
  refine g_aloadn (pc := 36) O rfl dX0_init_36 ?_
  refine g_bipush (v := (I 8)) (pc := 37) O (by decide) dX0_init_37 ?_
  refine g_newI (n := 53) (cs := 4) (ss := 44) (N := 8) (pc := 39) O dX0_init_39 rfl (ltb rfl) z (leb rfl) ⟨leb rfl, leb rfl⟩ rfl ?_
  have z := zA_up (m := 54) z (leb rfl)
  show Gd (F0' g l X) _ (54, 5, 52) (sR (sR (sR (sR h 48 0 (some 49)) 48 1 (some 50)) 48 2 (some 51)) 48 3 (some 52)) 41 [(0, .ref 48)] [.ref 53, .ref 48]
  refine g_putF (v := 53) (w := (54, 5, 52)) (a := 48) (k := 4) (pc := 41) O cls0 fl_X0_24 dX0_init_41 rfl (ltb rfl) (leb rfl) (ltb rfl) rfl rfl rfl nm rfl (tyX0_ok 4 (ltb rfl)) rfl rfl ?_
  have z := zA_sR (a := 48) (k := 4) (v := (some 53)) z (ltb rfl)
  refine g_aloadn (pc := 44) O rfl dX0_init_44 ?_
  refine g_callV (av := []) (st := []) (w := (54, 5, 52)) (a := 48) (mc := 0) (ms := 0) (pc := 45) O mk_X0_empty ml_X0_27 im_X0_empty se_X0_empty cls0 rfl (ltb rfl) ⟨rfl, rfl, leb rfl, leb rfl⟩ rfl (leb rfl) ⟨leb rfl, leb rfl⟩ dX0_init_45 (Spec.mono (kempty_48 rfl rfl rfl) (qE_k ?_)) rfl
  have z := zempty_48 z
  show Gd (F0' g l X) _ (54, 5, 52) (iempty_48 (sR (sR (sR (sR (sR h 48 0 (some 49)) 48 1 (some 50)) 48 2 (some 51)) 48 3 (some 52)) 48 4 (some 53))) 48 [(0, .ref 48)] []
  exact g_vret (w := (54, 5, 52)) (pc := 48) O dX0_init_48 ⟨rfl, rfl⟩
def iX4_6 (h : AH) : AH := (sR (iX1_17 (sR (iX1_14 (sR (iX1_11 (sR (iX1_8 (sR h 6 0 (some 7))) 7 0 (some 8))) 7 1 (some 11))) 7 2 (some 14))) 7 3 (some 17))
theorem zX4_6 {h : AH} (z : zA 7 h) : zA 20 (iX4_6 h) := by
  have z := zA_up (m := 8) z (leb rfl)
  have z := zA_sR (a := 6) (k := 0) (v := (some 7)) z (ltb rfl)
  have z := zA_up (m := 9) z (leb rfl)
  have z := zX1_8 z
  have z := zA_sR (a := 7) (k := 0) (v := (some 8)) z (ltb rfl)
  have z := zA_up (m := 12) z (leb rfl)
  have z := zX1_11 z
  have z := zA_sR (a := 7) (k := 1) (v := (some 11)) z (ltb rfl)
  have z := zA_up (m := 15) z (leb rfl)
  have z := zX1_14 z
  have z := zA_sR (a := 7) (k := 2) (v := (some 14)) z (ltb rfl)
  have z := zA_up (m := 18) z (leb rfl)
  have z := zX1_17 z
  have z := zA_sR (a := 7) (k := 3) (v := (some 17)) z (ltb rfl)
  exact z
set_option maxRecDepth 20000 in
set_option maxHeartbeats 2000000 in
theorem cX4_6 {g : mg} {l : Launch} {h : AH} (W : NestW g.1) (z : zA 7 h) : Spec (mG0 g) l mX4_init (7, 13, 104) h [.ref 6] (qE (iX4_6 h)) := by
  refine spec_of (n := 7) (mc := 13) (ms := 104) (by decide) (leb rfl) (fun X O nm => ?_)
  show Gd (F0' g l X) (MZ (F0' g l X) (20, 13, 104) (qE (iX4_6 h))) (7, 0, 0) h 0 [(0, .ref 6)] []
  refine g_aloadn (pc := 0) O rfl dX4_init_0 ?_
  refine g_obj (a := 6) (pc := 1) O oi_X4 dX4_init_1 ⟨leb rfl, leb rfl⟩ (leb rfl) ?_
  refine g_aloadn (pc := 4) O rfl dX4_init_4 ?_
  refine g_iconst (v := (I 4)) (pc := 5) O rfl dX4_init_5 ?_
  refine g_newQ (t := 0) (C := RX1) (n := 7) (cs := 0) (ss := 0) (N := 4) (pc := 6) O cl_X4_9 W.2.2.2.2.2.1 rfl dX4_init_6 rfl (ltb rfl) z (leb rfl) ⟨leb rfl, leb rfl⟩ rfl ?_
  have z := zA_up (m := 8) z (leb rfl)
  show Gd (F0' g l X) _ (8, 1, 4) h 9 [(0, .ref 6)] [.ref 7, .ref 6]
  refine g_putF (v := 7) (w := (8, 1, 4)) (a := 6) (k := 0) (pc := 9) O cls4 fl_X4_11 dX4_init_9 rfl (ltb rfl) (leb rfl) (ltb rfl) rfl rfl rfl nm rfl (tyX4_ok 0 (ltb rfl)) rfl rfl ?_
  have z := zA_sR (a := 6) (k := 0) (v := (some 7)) z (ltb rfl)
  refine g_iconst (v := (I 0)) (pc := 12) O rfl dX4_init_12 ?_
  refine g_istoren (lv' := [(0, .ref 6), (1, .int (I 0))]) (pc := 13) O dX4_init_13 rfl (ltb rfl) rfl ?_
  refine g_iloadn (pc := 14) O rfl dX4_init_14 ?_
  refine g_iconst (v := (I 4)) (pc := 15) O rfl dX4_init_15 ?_
  refine g_icmp_ge (tgt := 38) (pc := 16) O dX4_init_16 rfl (fun q => absurd q (by decide)) (fun _ => ?_)
  refine g_aloadn (pc := 19) O rfl dX4_init_19 ?_
  refine g_getR (w := (8, 1, 4)) (a := 6) (k := 0) (b := 7) (pc := 20) O cls4 fl_X4_11 dX4_init_20 rfl (ltb rfl) (ltb rfl) rfl rfl rfl ?_
  refine g_iloadn (pc := 23) O rfl dX4_init_23 ?_
  refine g_new (c := 1) (n := 8) (cs := 1) (ss := 4) (N := 5) (pc := 24) O clsN1 cl_X4_9 dX4_init_24 rfl (ltb rfl) z ⟨leb rfl, leb rfl⟩ ?_
  have z := zA_up (m := 9) z (leb rfl)
  show Gd (F0' g l X) _ (9, 2, 9) (sR h 6 0 (some 7)) 27 [(0, .ref 6), (1, .int (I 0))] [.ref 8, .int (I 0), .ref 7]
  refine g_dup (pc := 27) O rfl dX4_init_27 ?_
  refine g_callN (w := (9, 2, 9)) (a := 8) (mc := 2) (ms := 20) (pc := 28) O mk_X1_init rfl W.2.1 im_X1_init rfl ⟨rfl, rfl, leb rfl, leb rfl⟩ (leb rfl) ⟨leb rfl, leb rfl⟩ dX4_init_28 (Spec.mono (cX1_8 W z) (qE_k ?_))
  have z := zX1_8 z
  show Gd (F0' g l X) _ (11, 4, 29) (iX1_8 (sR h 6 0 (some 7))) 31 [(0, .ref 6), (1, .int (I 0))] [.ref 8, .int (I 0), .ref 7]
  refine g_aast (t := 0) (w := (11, 4, 29)) (a := 7) (b := 8) (j := 0) (n := 4) (pc := 31) O dX4_init_31 rfl rfl (ltb rfl) (leb rfl) (ltb rfl) (ltb rfl) cls1 rfl rfl (ltb rfl) ?_
  have z := zA_sR (a := 7) (k := 0) (v := (some 8)) z (ltb rfl)
  refine g_iinc (v := (I 1)) (lv' := [(0, .ref 6), (1, .int (I 1))]) (pc := 32) O dX4_init_32 rfl (by decide) (ltb rfl) rfl ?_
  refine g_goto (tgt := 14) (pc := 35) O dX4_init_35 rfl ?_
  refine g_iloadn (pc := 14) O rfl dX4_init_14 ?_
  refine g_iconst (v := (I 4)) (pc := 15) O rfl dX4_init_15 ?_
  refine g_icmp_ge (tgt := 38) (pc := 16) O dX4_init_16 rfl (fun q => absurd q (by decide)) (fun _ => ?_)
  refine g_aloadn (pc := 19) O rfl dX4_init_19 ?_
  refine g_getR (w := (11, 4, 29)) (a := 6) (k := 0) (b := 7) (pc := 20) O cls4 fl_X4_11 dX4_init_20 rfl (ltb rfl) (ltb rfl) rfl rfl rfl ?_
  refine g_iloadn (pc := 23) O rfl dX4_init_23 ?_
  refine g_new (c := 1) (n := 11) (cs := 4) (ss := 29) (N := 5) (pc := 24) O clsN1 cl_X4_9 dX4_init_24 rfl (ltb rfl) z ⟨leb rfl, leb rfl⟩ ?_
  have z := zA_up (m := 12) z (leb rfl)
  show Gd (F0' g l X) _ (12, 5, 34) (sR (iX1_8 (sR h 6 0 (some 7))) 7 0 (some 8)) 27 [(0, .ref 6), (1, .int (I 1))] [.ref 11, .int (I 1), .ref 7]
  refine g_dup (pc := 27) O rfl dX4_init_27 ?_
  refine g_callN (w := (12, 5, 34)) (a := 11) (mc := 2) (ms := 20) (pc := 28) O mk_X1_init rfl W.2.1 im_X1_init rfl ⟨rfl, rfl, leb rfl, leb rfl⟩ (leb rfl) ⟨leb rfl, leb rfl⟩ dX4_init_28 (Spec.mono (cX1_11 W z) (qE_k ?_))
  have z := zX1_11 z
  show Gd (F0' g l X) _ (14, 7, 54) (iX1_11 (sR (iX1_8 (sR h 6 0 (some 7))) 7 0 (some 8))) 31 [(0, .ref 6), (1, .int (I 1))] [.ref 11, .int (I 1), .ref 7]
  refine g_aast (t := 0) (w := (14, 7, 54)) (a := 7) (b := 11) (j := 1) (n := 4) (pc := 31) O dX4_init_31 rfl rfl (ltb rfl) (leb rfl) (ltb rfl) (ltb rfl) cls1 rfl rfl (ltb rfl) ?_
  have z := zA_sR (a := 7) (k := 1) (v := (some 11)) z (ltb rfl)
  refine g_iinc (v := (I 2)) (lv' := [(0, .ref 6), (1, .int (I 2))]) (pc := 32) O dX4_init_32 rfl (by decide) (ltb rfl) rfl ?_
  refine g_goto (tgt := 14) (pc := 35) O dX4_init_35 rfl ?_
  refine g_iloadn (pc := 14) O rfl dX4_init_14 ?_
  refine g_iconst (v := (I 4)) (pc := 15) O rfl dX4_init_15 ?_
  refine g_icmp_ge (tgt := 38) (pc := 16) O dX4_init_16 rfl (fun q => absurd q (by decide)) (fun _ => ?_)
  refine g_aloadn (pc := 19) O rfl dX4_init_19 ?_
  refine g_getR (w := (14, 7, 54)) (a := 6) (k := 0) (b := 7) (pc := 20) O cls4 fl_X4_11 dX4_init_20 rfl (ltb rfl) (ltb rfl) rfl rfl rfl ?_
  refine g_iloadn (pc := 23) O rfl dX4_init_23 ?_
  refine g_new (c := 1) (n := 14) (cs := 7) (ss := 54) (N := 5) (pc := 24) O clsN1 cl_X4_9 dX4_init_24 rfl (ltb rfl) z ⟨leb rfl, leb rfl⟩ ?_
  have z := zA_up (m := 15) z (leb rfl)
  show Gd (F0' g l X) _ (15, 8, 59) (sR (iX1_11 (sR (iX1_8 (sR h 6 0 (some 7))) 7 0 (some 8))) 7 1 (some 11)) 27 [(0, .ref 6), (1, .int (I 2))] [.ref 14, .int (I 2), .ref 7]
  refine g_dup (pc := 27) O rfl dX4_init_27 ?_
  refine g_callN (w := (15, 8, 59)) (a := 14) (mc := 2) (ms := 20) (pc := 28) O mk_X1_init rfl W.2.1 im_X1_init rfl ⟨rfl, rfl, leb rfl, leb rfl⟩ (leb rfl) ⟨leb rfl, leb rfl⟩ dX4_init_28 (Spec.mono (cX1_14 W z) (qE_k ?_))
  have z := zX1_14 z
  show Gd (F0' g l X) _ (17, 10, 79) (iX1_14 (sR (iX1_11 (sR (iX1_8 (sR h 6 0 (some 7))) 7 0 (some 8))) 7 1 (some 11))) 31 [(0, .ref 6), (1, .int (I 2))] [.ref 14, .int (I 2), .ref 7]
  refine g_aast (t := 0) (w := (17, 10, 79)) (a := 7) (b := 14) (j := 2) (n := 4) (pc := 31) O dX4_init_31 rfl rfl (ltb rfl) (leb rfl) (ltb rfl) (ltb rfl) cls1 rfl rfl (ltb rfl) ?_
  have z := zA_sR (a := 7) (k := 2) (v := (some 14)) z (ltb rfl)
  refine g_iinc (v := (I 3)) (lv' := [(0, .ref 6), (1, .int (I 3))]) (pc := 32) O dX4_init_32 rfl (by decide) (ltb rfl) rfl ?_
  refine g_goto (tgt := 14) (pc := 35) O dX4_init_35 rfl ?_
  refine g_iloadn (pc := 14) O rfl dX4_init_14 ?_
  refine g_iconst (v := (I 4)) (pc := 15) O rfl dX4_init_15 ?_
  refine g_icmp_ge (tgt := 38) (pc := 16) O dX4_init_16 rfl (fun q => absurd q (by decide)) (fun _ => ?_)
  refine g_aloadn (pc := 19) O rfl dX4_init_19 ?_
  refine g_getR (w := (17, 10, 79)) (a := 6) (k := 0) (b := 7) (pc := 20) O cls4 fl_X4_11 dX4_init_20 rfl (ltb rfl) (ltb rfl) rfl rfl rfl ?_
  refine g_iloadn (pc := 23) O rfl dX4_init_23 ?_
  refine g_new (c := 1) (n := 17) (cs := 10) (ss := 79) (N := 5) (pc := 24) O clsN1 cl_X4_9 dX4_init_24 rfl (ltb rfl) z ⟨leb rfl, leb rfl⟩ ?_
  have z := zA_up (m := 18) z (leb rfl)
  show Gd (F0' g l X) _ (18, 11, 84) (sR (iX1_14 (sR (iX1_11 (sR (iX1_8 (sR h 6 0 (some 7))) 7 0 (some 8))) 7 1 (some 11))) 7 2 (some 14)) 27 [(0, .ref 6), (1, .int (I 3))] [.ref 17, .int (I 3), .ref 7]
  refine g_dup (pc := 27) O rfl dX4_init_27 ?_
  refine g_callN (w := (18, 11, 84)) (a := 17) (mc := 2) (ms := 20) (pc := 28) O mk_X1_init rfl W.2.1 im_X1_init rfl ⟨rfl, rfl, leb rfl, leb rfl⟩ (leb rfl) ⟨leb rfl, leb rfl⟩ dX4_init_28 (Spec.mono (cX1_17 W z) (qE_k ?_))
  have z := zX1_17 z
  show Gd (F0' g l X) _ (20, 13, 104) (iX1_17 (sR (iX1_14 (sR (iX1_11 (sR (iX1_8 (sR h 6 0 (some 7))) 7 0 (some 8))) 7 1 (some 11))) 7 2 (some 14))) 31 [(0, .ref 6), (1, .int (I 3))] [.ref 17, .int (I 3), .ref 7]
  refine g_aast (t := 0) (w := (20, 13, 104)) (a := 7) (b := 17) (j := 3) (n := 4) (pc := 31) O dX4_init_31 rfl rfl (ltb rfl) (leb rfl) (ltb rfl) (ltb rfl) cls1 rfl rfl (ltb rfl) ?_
  have z := zA_sR (a := 7) (k := 3) (v := (some 17)) z (ltb rfl)
  refine g_iinc (v := (I 4)) (lv' := [(0, .ref 6), (1, .int (I 4))]) (pc := 32) O dX4_init_32 rfl (by decide) (ltb rfl) rfl ?_
  refine g_goto (tgt := 14) (pc := 35) O dX4_init_35 rfl ?_
  refine g_iloadn (pc := 14) O rfl dX4_init_14 ?_
  refine g_iconst (v := (I 4)) (pc := 15) O rfl dX4_init_15 ?_
  refine g_icmp_ge (tgt := 38) (pc := 16) O dX4_init_16 rfl (fun _ => ?_) (fun q => absurd (by decide) q)
  exact g_vret (w := (20, 13, 104)) (pc := 38) O dX4_init_38 ⟨rfl, rfl⟩
def iX4_54 (h : AH) : AH := (sR (iX1_65 (sR (iX1_62 (sR (iX1_59 (sR (iX1_56 (sR h 54 0 (some 55))) 55 0 (some 56))) 55 1 (some 59))) 55 2 (some 62))) 55 3 (some 65))
theorem zX4_54 {h : AH} (z : zA 55 h) : zA 68 (iX4_54 h) := by
  have z := zA_up (m := 56) z (leb rfl)
  have z := zA_sR (a := 54) (k := 0) (v := (some 55)) z (ltb rfl)
  have z := zA_up (m := 57) z (leb rfl)
  have z := zX1_56 z
  have z := zA_sR (a := 55) (k := 0) (v := (some 56)) z (ltb rfl)
  have z := zA_up (m := 60) z (leb rfl)
  have z := zX1_59 z
  have z := zA_sR (a := 55) (k := 1) (v := (some 59)) z (ltb rfl)
  have z := zA_up (m := 63) z (leb rfl)
  have z := zX1_62 z
  have z := zA_sR (a := 55) (k := 2) (v := (some 62)) z (ltb rfl)
  have z := zA_up (m := 66) z (leb rfl)
  have z := zX1_65 z
  have z := zA_sR (a := 55) (k := 3) (v := (some 65)) z (ltb rfl)
  exact z
set_option maxRecDepth 20000 in
set_option maxHeartbeats 2000000 in
theorem cX4_54 {g : mg} {l : Launch} {h : AH} (W : NestW g.1) (z : zA 55 h) : Spec (mG0 g) l mX4_init (55, 13, 104) h [.ref 54] (qE (iX4_54 h)) := by
  refine spec_of (n := 55) (mc := 13) (ms := 104) (by decide) (leb rfl) (fun X O nm => ?_)
  show Gd (F0' g l X) (MZ (F0' g l X) (68, 13, 104) (qE (iX4_54 h))) (55, 0, 0) h 0 [(0, .ref 54)] []
  refine g_aloadn (pc := 0) O rfl dX4_init_0 ?_
  refine g_obj (a := 54) (pc := 1) O oi_X4 dX4_init_1 ⟨leb rfl, leb rfl⟩ (leb rfl) ?_
  refine g_aloadn (pc := 4) O rfl dX4_init_4 ?_
  refine g_iconst (v := (I 4)) (pc := 5) O rfl dX4_init_5 ?_
  refine g_newQ (t := 0) (C := RX1) (n := 55) (cs := 0) (ss := 0) (N := 4) (pc := 6) O cl_X4_9 W.2.2.2.2.2.1 rfl dX4_init_6 rfl (ltb rfl) z (leb rfl) ⟨leb rfl, leb rfl⟩ rfl ?_
  have z := zA_up (m := 56) z (leb rfl)
  show Gd (F0' g l X) _ (56, 1, 4) h 9 [(0, .ref 54)] [.ref 55, .ref 54]
  refine g_putF (v := 55) (w := (56, 1, 4)) (a := 54) (k := 0) (pc := 9) O cls4 fl_X4_11 dX4_init_9 rfl (ltb rfl) (leb rfl) (ltb rfl) rfl rfl rfl nm rfl (tyX4_ok 0 (ltb rfl)) rfl rfl ?_
  have z := zA_sR (a := 54) (k := 0) (v := (some 55)) z (ltb rfl)
  refine g_iconst (v := (I 0)) (pc := 12) O rfl dX4_init_12 ?_
  refine g_istoren (lv' := [(0, .ref 54), (1, .int (I 0))]) (pc := 13) O dX4_init_13 rfl (ltb rfl) rfl ?_
  refine g_iloadn (pc := 14) O rfl dX4_init_14 ?_
  refine g_iconst (v := (I 4)) (pc := 15) O rfl dX4_init_15 ?_
  refine g_icmp_ge (tgt := 38) (pc := 16) O dX4_init_16 rfl (fun q => absurd q (by decide)) (fun _ => ?_)
  refine g_aloadn (pc := 19) O rfl dX4_init_19 ?_
  refine g_getR (w := (56, 1, 4)) (a := 54) (k := 0) (b := 55) (pc := 20) O cls4 fl_X4_11 dX4_init_20 rfl (ltb rfl) (ltb rfl) rfl rfl rfl ?_
  refine g_iloadn (pc := 23) O rfl dX4_init_23 ?_
  refine g_new (c := 1) (n := 56) (cs := 1) (ss := 4) (N := 5) (pc := 24) O clsN1 cl_X4_9 dX4_init_24 rfl (ltb rfl) z ⟨leb rfl, leb rfl⟩ ?_
  have z := zA_up (m := 57) z (leb rfl)
  show Gd (F0' g l X) _ (57, 2, 9) (sR h 54 0 (some 55)) 27 [(0, .ref 54), (1, .int (I 0))] [.ref 56, .int (I 0), .ref 55]
  refine g_dup (pc := 27) O rfl dX4_init_27 ?_
  refine g_callN (w := (57, 2, 9)) (a := 56) (mc := 2) (ms := 20) (pc := 28) O mk_X1_init rfl W.2.1 im_X1_init rfl ⟨rfl, rfl, leb rfl, leb rfl⟩ (leb rfl) ⟨leb rfl, leb rfl⟩ dX4_init_28 (Spec.mono (cX1_56 W z) (qE_k ?_))
  have z := zX1_56 z
  show Gd (F0' g l X) _ (59, 4, 29) (iX1_56 (sR h 54 0 (some 55))) 31 [(0, .ref 54), (1, .int (I 0))] [.ref 56, .int (I 0), .ref 55]
  refine g_aast (t := 0) (w := (59, 4, 29)) (a := 55) (b := 56) (j := 0) (n := 4) (pc := 31) O dX4_init_31 rfl rfl (ltb rfl) (leb rfl) (ltb rfl) (ltb rfl) cls1 rfl rfl (ltb rfl) ?_
  have z := zA_sR (a := 55) (k := 0) (v := (some 56)) z (ltb rfl)
  refine g_iinc (v := (I 1)) (lv' := [(0, .ref 54), (1, .int (I 1))]) (pc := 32) O dX4_init_32 rfl (by decide) (ltb rfl) rfl ?_
  refine g_goto (tgt := 14) (pc := 35) O dX4_init_35 rfl ?_
  refine g_iloadn (pc := 14) O rfl dX4_init_14 ?_
  refine g_iconst (v := (I 4)) (pc := 15) O rfl dX4_init_15 ?_
  refine g_icmp_ge (tgt := 38) (pc := 16) O dX4_init_16 rfl (fun q => absurd q (by decide)) (fun _ => ?_)
  refine g_aloadn (pc := 19) O rfl dX4_init_19 ?_
  refine g_getR (w := (59, 4, 29)) (a := 54) (k := 0) (b := 55) (pc := 20) O cls4 fl_X4_11 dX4_init_20 rfl (ltb rfl) (ltb rfl) rfl rfl rfl ?_
  refine g_iloadn (pc := 23) O rfl dX4_init_23 ?_
  refine g_new (c := 1) (n := 59) (cs := 4) (ss := 29) (N := 5) (pc := 24) O clsN1 cl_X4_9 dX4_init_24 rfl (ltb rfl) z ⟨leb rfl, leb rfl⟩ ?_
  have z := zA_up (m := 60) z (leb rfl)
  show Gd (F0' g l X) _ (60, 5, 34) (sR (iX1_56 (sR h 54 0 (some 55))) 55 0 (some 56)) 27 [(0, .ref 54), (1, .int (I 1))] [.ref 59, .int (I 1), .ref 55]
  refine g_dup (pc := 27) O rfl dX4_init_27 ?_
  refine g_callN (w := (60, 5, 34)) (a := 59) (mc := 2) (ms := 20) (pc := 28) O mk_X1_init rfl W.2.1 im_X1_init rfl ⟨rfl, rfl, leb rfl, leb rfl⟩ (leb rfl) ⟨leb rfl, leb rfl⟩ dX4_init_28 (Spec.mono (cX1_59 W z) (qE_k ?_))
  have z := zX1_59 z
  show Gd (F0' g l X) _ (62, 7, 54) (iX1_59 (sR (iX1_56 (sR h 54 0 (some 55))) 55 0 (some 56))) 31 [(0, .ref 54), (1, .int (I 1))] [.ref 59, .int (I 1), .ref 55]
  refine g_aast (t := 0) (w := (62, 7, 54)) (a := 55) (b := 59) (j := 1) (n := 4) (pc := 31) O dX4_init_31 rfl rfl (ltb rfl) (leb rfl) (ltb rfl) (ltb rfl) cls1 rfl rfl (ltb rfl) ?_
  have z := zA_sR (a := 55) (k := 1) (v := (some 59)) z (ltb rfl)
  refine g_iinc (v := (I 2)) (lv' := [(0, .ref 54), (1, .int (I 2))]) (pc := 32) O dX4_init_32 rfl (by decide) (ltb rfl) rfl ?_
  refine g_goto (tgt := 14) (pc := 35) O dX4_init_35 rfl ?_
  refine g_iloadn (pc := 14) O rfl dX4_init_14 ?_
  refine g_iconst (v := (I 4)) (pc := 15) O rfl dX4_init_15 ?_
  refine g_icmp_ge (tgt := 38) (pc := 16) O dX4_init_16 rfl (fun q => absurd q (by decide)) (fun _ => ?_)
  refine g_aloadn (pc := 19) O rfl dX4_init_19 ?_
  refine g_getR (w := (62, 7, 54)) (a := 54) (k := 0) (b := 55) (pc := 20) O cls4 fl_X4_11 dX4_init_20 rfl (ltb rfl) (ltb rfl) rfl rfl rfl ?_
  refine g_iloadn (pc := 23) O rfl dX4_init_23 ?_
  refine g_new (c := 1) (n := 62) (cs := 7) (ss := 54) (N := 5) (pc := 24) O clsN1 cl_X4_9 dX4_init_24 rfl (ltb rfl) z ⟨leb rfl, leb rfl⟩ ?_
  have z := zA_up (m := 63) z (leb rfl)
  show Gd (F0' g l X) _ (63, 8, 59) (sR (iX1_59 (sR (iX1_56 (sR h 54 0 (some 55))) 55 0 (some 56))) 55 1 (some 59)) 27 [(0, .ref 54), (1, .int (I 2))] [.ref 62, .int (I 2), .ref 55]
  refine g_dup (pc := 27) O rfl dX4_init_27 ?_
  refine g_callN (w := (63, 8, 59)) (a := 62) (mc := 2) (ms := 20) (pc := 28) O mk_X1_init rfl W.2.1 im_X1_init rfl ⟨rfl, rfl, leb rfl, leb rfl⟩ (leb rfl) ⟨leb rfl, leb rfl⟩ dX4_init_28 (Spec.mono (cX1_62 W z) (qE_k ?_))
  have z := zX1_62 z
  show Gd (F0' g l X) _ (65, 10, 79) (iX1_62 (sR (iX1_59 (sR (iX1_56 (sR h 54 0 (some 55))) 55 0 (some 56))) 55 1 (some 59))) 31 [(0, .ref 54), (1, .int (I 2))] [.ref 62, .int (I 2), .ref 55]
  refine g_aast (t := 0) (w := (65, 10, 79)) (a := 55) (b := 62) (j := 2) (n := 4) (pc := 31) O dX4_init_31 rfl rfl (ltb rfl) (leb rfl) (ltb rfl) (ltb rfl) cls1 rfl rfl (ltb rfl) ?_
  have z := zA_sR (a := 55) (k := 2) (v := (some 62)) z (ltb rfl)
  refine g_iinc (v := (I 3)) (lv' := [(0, .ref 54), (1, .int (I 3))]) (pc := 32) O dX4_init_32 rfl (by decide) (ltb rfl) rfl ?_
  refine g_goto (tgt := 14) (pc := 35) O dX4_init_35 rfl ?_
  refine g_iloadn (pc := 14) O rfl dX4_init_14 ?_
  refine g_iconst (v := (I 4)) (pc := 15) O rfl dX4_init_15 ?_
  refine g_icmp_ge (tgt := 38) (pc := 16) O dX4_init_16 rfl (fun q => absurd q (by decide)) (fun _ => ?_)
  refine g_aloadn (pc := 19) O rfl dX4_init_19 ?_
  refine g_getR (w := (65, 10, 79)) (a := 54) (k := 0) (b := 55) (pc := 20) O cls4 fl_X4_11 dX4_init_20 rfl (ltb rfl) (ltb rfl) rfl rfl rfl ?_
  refine g_iloadn (pc := 23) O rfl dX4_init_23 ?_
  refine g_new (c := 1) (n := 65) (cs := 10) (ss := 79) (N := 5) (pc := 24) O clsN1 cl_X4_9 dX4_init_24 rfl (ltb rfl) z ⟨leb rfl, leb rfl⟩ ?_
  have z := zA_up (m := 66) z (leb rfl)
  show Gd (F0' g l X) _ (66, 11, 84) (sR (iX1_62 (sR (iX1_59 (sR (iX1_56 (sR h 54 0 (some 55))) 55 0 (some 56))) 55 1 (some 59))) 55 2 (some 62)) 27 [(0, .ref 54), (1, .int (I 3))] [.ref 65, .int (I 3), .ref 55]
  refine g_dup (pc := 27) O rfl dX4_init_27 ?_
  refine g_callN (w := (66, 11, 84)) (a := 65) (mc := 2) (ms := 20) (pc := 28) O mk_X1_init rfl W.2.1 im_X1_init rfl ⟨rfl, rfl, leb rfl, leb rfl⟩ (leb rfl) ⟨leb rfl, leb rfl⟩ dX4_init_28 (Spec.mono (cX1_65 W z) (qE_k ?_))
  have z := zX1_65 z
  show Gd (F0' g l X) _ (68, 13, 104) (iX1_65 (sR (iX1_62 (sR (iX1_59 (sR (iX1_56 (sR h 54 0 (some 55))) 55 0 (some 56))) 55 1 (some 59))) 55 2 (some 62))) 31 [(0, .ref 54), (1, .int (I 3))] [.ref 65, .int (I 3), .ref 55]
  refine g_aast (t := 0) (w := (68, 13, 104)) (a := 55) (b := 65) (j := 3) (n := 4) (pc := 31) O dX4_init_31 rfl rfl (ltb rfl) (leb rfl) (ltb rfl) (ltb rfl) cls1 rfl rfl (ltb rfl) ?_
  have z := zA_sR (a := 55) (k := 3) (v := (some 65)) z (ltb rfl)
  refine g_iinc (v := (I 4)) (lv' := [(0, .ref 54), (1, .int (I 4))]) (pc := 32) O dX4_init_32 rfl (by decide) (ltb rfl) rfl ?_
  refine g_goto (tgt := 14) (pc := 35) O dX4_init_35 rfl ?_
  refine g_iloadn (pc := 14) O rfl dX4_init_14 ?_
  refine g_iconst (v := (I 4)) (pc := 15) O rfl dX4_init_15 ?_
  refine g_icmp_ge (tgt := 38) (pc := 16) O dX4_init_16 rfl (fun _ => ?_) (fun q => absurd (by decide) q)
  exact g_vret (w := (68, 13, 104)) (pc := 38) O dX4_init_38 ⟨rfl, rfl⟩
def iX4_68 (h : AH) : AH := (sR (iX1_79 (sR (iX1_76 (sR (iX1_73 (sR (iX1_70 (sR h 68 0 (some 69))) 69 0 (some 70))) 69 1 (some 73))) 69 2 (some 76))) 69 3 (some 79))
theorem zX4_68 {h : AH} (z : zA 69 h) : zA 82 (iX4_68 h) := by
  have z := zA_up (m := 70) z (leb rfl)
  have z := zA_sR (a := 68) (k := 0) (v := (some 69)) z (ltb rfl)
  have z := zA_up (m := 71) z (leb rfl)
  have z := zX1_70 z
  have z := zA_sR (a := 69) (k := 0) (v := (some 70)) z (ltb rfl)
  have z := zA_up (m := 74) z (leb rfl)
  have z := zX1_73 z
  have z := zA_sR (a := 69) (k := 1) (v := (some 73)) z (ltb rfl)
  have z := zA_up (m := 77) z (leb rfl)
  have z := zX1_76 z
  have z := zA_sR (a := 69) (k := 2) (v := (some 76)) z (ltb rfl)
  have z := zA_up (m := 80) z (leb rfl)
  have z := zX1_79 z
  have z := zA_sR (a := 69) (k := 3) (v := (some 79)) z (ltb rfl)
  exact z
set_option maxRecDepth 20000 in
set_option maxHeartbeats 2000000 in
theorem cX4_68 {g : mg} {l : Launch} {h : AH} (W : NestW g.1) (z : zA 69 h) : Spec (mG0 g) l mX4_init (69, 13, 104) h [.ref 68] (qE (iX4_68 h)) := by
  refine spec_of (n := 69) (mc := 13) (ms := 104) (by decide) (leb rfl) (fun X O nm => ?_)
  show Gd (F0' g l X) (MZ (F0' g l X) (82, 13, 104) (qE (iX4_68 h))) (69, 0, 0) h 0 [(0, .ref 68)] []
  refine g_aloadn (pc := 0) O rfl dX4_init_0 ?_
  refine g_obj (a := 68) (pc := 1) O oi_X4 dX4_init_1 ⟨leb rfl, leb rfl⟩ (leb rfl) ?_
  refine g_aloadn (pc := 4) O rfl dX4_init_4 ?_
  refine g_iconst (v := (I 4)) (pc := 5) O rfl dX4_init_5 ?_
  refine g_newQ (t := 0) (C := RX1) (n := 69) (cs := 0) (ss := 0) (N := 4) (pc := 6) O cl_X4_9 W.2.2.2.2.2.1 rfl dX4_init_6 rfl (ltb rfl) z (leb rfl) ⟨leb rfl, leb rfl⟩ rfl ?_
  have z := zA_up (m := 70) z (leb rfl)
  show Gd (F0' g l X) _ (70, 1, 4) h 9 [(0, .ref 68)] [.ref 69, .ref 68]
  refine g_putF (v := 69) (w := (70, 1, 4)) (a := 68) (k := 0) (pc := 9) O cls4 fl_X4_11 dX4_init_9 rfl (ltb rfl) (leb rfl) (ltb rfl) rfl rfl rfl nm rfl (tyX4_ok 0 (ltb rfl)) rfl rfl ?_
  have z := zA_sR (a := 68) (k := 0) (v := (some 69)) z (ltb rfl)
  refine g_iconst (v := (I 0)) (pc := 12) O rfl dX4_init_12 ?_
  refine g_istoren (lv' := [(0, .ref 68), (1, .int (I 0))]) (pc := 13) O dX4_init_13 rfl (ltb rfl) rfl ?_
  refine g_iloadn (pc := 14) O rfl dX4_init_14 ?_
  refine g_iconst (v := (I 4)) (pc := 15) O rfl dX4_init_15 ?_
  refine g_icmp_ge (tgt := 38) (pc := 16) O dX4_init_16 rfl (fun q => absurd q (by decide)) (fun _ => ?_)
  refine g_aloadn (pc := 19) O rfl dX4_init_19 ?_
  refine g_getR (w := (70, 1, 4)) (a := 68) (k := 0) (b := 69) (pc := 20) O cls4 fl_X4_11 dX4_init_20 rfl (ltb rfl) (ltb rfl) rfl rfl rfl ?_
  refine g_iloadn (pc := 23) O rfl dX4_init_23 ?_
  refine g_new (c := 1) (n := 70) (cs := 1) (ss := 4) (N := 5) (pc := 24) O clsN1 cl_X4_9 dX4_init_24 rfl (ltb rfl) z ⟨leb rfl, leb rfl⟩ ?_
  have z := zA_up (m := 71) z (leb rfl)
  show Gd (F0' g l X) _ (71, 2, 9) (sR h 68 0 (some 69)) 27 [(0, .ref 68), (1, .int (I 0))] [.ref 70, .int (I 0), .ref 69]
  refine g_dup (pc := 27) O rfl dX4_init_27 ?_
  refine g_callN (w := (71, 2, 9)) (a := 70) (mc := 2) (ms := 20) (pc := 28) O mk_X1_init rfl W.2.1 im_X1_init rfl ⟨rfl, rfl, leb rfl, leb rfl⟩ (leb rfl) ⟨leb rfl, leb rfl⟩ dX4_init_28 (Spec.mono (cX1_70 W z) (qE_k ?_))
  have z := zX1_70 z
  show Gd (F0' g l X) _ (73, 4, 29) (iX1_70 (sR h 68 0 (some 69))) 31 [(0, .ref 68), (1, .int (I 0))] [.ref 70, .int (I 0), .ref 69]
  refine g_aast (t := 0) (w := (73, 4, 29)) (a := 69) (b := 70) (j := 0) (n := 4) (pc := 31) O dX4_init_31 rfl rfl (ltb rfl) (leb rfl) (ltb rfl) (ltb rfl) cls1 rfl rfl (ltb rfl) ?_
  have z := zA_sR (a := 69) (k := 0) (v := (some 70)) z (ltb rfl)
  refine g_iinc (v := (I 1)) (lv' := [(0, .ref 68), (1, .int (I 1))]) (pc := 32) O dX4_init_32 rfl (by decide) (ltb rfl) rfl ?_
  refine g_goto (tgt := 14) (pc := 35) O dX4_init_35 rfl ?_
  refine g_iloadn (pc := 14) O rfl dX4_init_14 ?_
  refine g_iconst (v := (I 4)) (pc := 15) O rfl dX4_init_15 ?_
  refine g_icmp_ge (tgt := 38) (pc := 16) O dX4_init_16 rfl (fun q => absurd q (by decide)) (fun _ => ?_)
  refine g_aloadn (pc := 19) O rfl dX4_init_19 ?_
  refine g_getR (w := (73, 4, 29)) (a := 68) (k := 0) (b := 69) (pc := 20) O cls4 fl_X4_11 dX4_init_20 rfl (ltb rfl) (ltb rfl) rfl rfl rfl ?_
  refine g_iloadn (pc := 23) O rfl dX4_init_23 ?_
  refine g_new (c := 1) (n := 73) (cs := 4) (ss := 29) (N := 5) (pc := 24) O clsN1 cl_X4_9 dX4_init_24 rfl (ltb rfl) z ⟨leb rfl, leb rfl⟩ ?_
  have z := zA_up (m := 74) z (leb rfl)
  show Gd (F0' g l X) _ (74, 5, 34) (sR (iX1_70 (sR h 68 0 (some 69))) 69 0 (some 70)) 27 [(0, .ref 68), (1, .int (I 1))] [.ref 73, .int (I 1), .ref 69]
  refine g_dup (pc := 27) O rfl dX4_init_27 ?_
  refine g_callN (w := (74, 5, 34)) (a := 73) (mc := 2) (ms := 20) (pc := 28) O mk_X1_init rfl W.2.1 im_X1_init rfl ⟨rfl, rfl, leb rfl, leb rfl⟩ (leb rfl) ⟨leb rfl, leb rfl⟩ dX4_init_28 (Spec.mono (cX1_73 W z) (qE_k ?_))
  have z := zX1_73 z
  show Gd (F0' g l X) _ (76, 7, 54) (iX1_73 (sR (iX1_70 (sR h 68 0 (some 69))) 69 0 (some 70))) 31 [(0, .ref 68), (1, .int (I 1))] [.ref 73, .int (I 1), .ref 69]
  refine g_aast (t := 0) (w := (76, 7, 54)) (a := 69) (b := 73) (j := 1) (n := 4) (pc := 31) O dX4_init_31 rfl rfl (ltb rfl) (leb rfl) (ltb rfl) (ltb rfl) cls1 rfl rfl (ltb rfl) ?_
  have z := zA_sR (a := 69) (k := 1) (v := (some 73)) z (ltb rfl)
  refine g_iinc (v := (I 2)) (lv' := [(0, .ref 68), (1, .int (I 2))]) (pc := 32) O dX4_init_32 rfl (by decide) (ltb rfl) rfl ?_
  refine g_goto (tgt := 14) (pc := 35) O dX4_init_35 rfl ?_
  refine g_iloadn (pc := 14) O rfl dX4_init_14 ?_
  refine g_iconst (v := (I 4)) (pc := 15) O rfl dX4_init_15 ?_
  refine g_icmp_ge (tgt := 38) (pc := 16) O dX4_init_16 rfl (fun q => absurd q (by decide)) (fun _ => ?_)
  refine g_aloadn (pc := 19) O rfl dX4_init_19 ?_
  refine g_getR (w := (76, 7, 54)) (a := 68) (k := 0) (b := 69) (pc := 20) O cls4 fl_X4_11 dX4_init_20 rfl (ltb rfl) (ltb rfl) rfl rfl rfl ?_
  refine g_iloadn (pc := 23) O rfl dX4_init_23 ?_
  refine g_new (c := 1) (n := 76) (cs := 7) (ss := 54) (N := 5) (pc := 24) O clsN1 cl_X4_9 dX4_init_24 rfl (ltb rfl) z ⟨leb rfl, leb rfl⟩ ?_
  have z := zA_up (m := 77) z (leb rfl)
  show Gd (F0' g l X) _ (77, 8, 59) (sR (iX1_73 (sR (iX1_70 (sR h 68 0 (some 69))) 69 0 (some 70))) 69 1 (some 73)) 27 [(0, .ref 68), (1, .int (I 2))] [.ref 76, .int (I 2), .ref 69]
  refine g_dup (pc := 27) O rfl dX4_init_27 ?_
  refine g_callN (w := (77, 8, 59)) (a := 76) (mc := 2) (ms := 20) (pc := 28) O mk_X1_init rfl W.2.1 im_X1_init rfl ⟨rfl, rfl, leb rfl, leb rfl⟩ (leb rfl) ⟨leb rfl, leb rfl⟩ dX4_init_28 (Spec.mono (cX1_76 W z) (qE_k ?_))
  have z := zX1_76 z
  show Gd (F0' g l X) _ (79, 10, 79) (iX1_76 (sR (iX1_73 (sR (iX1_70 (sR h 68 0 (some 69))) 69 0 (some 70))) 69 1 (some 73))) 31 [(0, .ref 68), (1, .int (I 2))] [.ref 76, .int (I 2), .ref 69]
  refine g_aast (t := 0) (w := (79, 10, 79)) (a := 69) (b := 76) (j := 2) (n := 4) (pc := 31) O dX4_init_31 rfl rfl (ltb rfl) (leb rfl) (ltb rfl) (ltb rfl) cls1 rfl rfl (ltb rfl) ?_
  have z := zA_sR (a := 69) (k := 2) (v := (some 76)) z (ltb rfl)
  refine g_iinc (v := (I 3)) (lv' := [(0, .ref 68), (1, .int (I 3))]) (pc := 32) O dX4_init_32 rfl (by decide) (ltb rfl) rfl ?_
  refine g_goto (tgt := 14) (pc := 35) O dX4_init_35 rfl ?_
  refine g_iloadn (pc := 14) O rfl dX4_init_14 ?_
  refine g_iconst (v := (I 4)) (pc := 15) O rfl dX4_init_15 ?_
  refine g_icmp_ge (tgt := 38) (pc := 16) O dX4_init_16 rfl (fun q => absurd q (by decide)) (fun _ => ?_)
  refine g_aloadn (pc := 19) O rfl dX4_init_19 ?_
  refine g_getR (w := (79, 10, 79)) (a := 68) (k := 0) (b := 69) (pc := 20) O cls4 fl_X4_11 dX4_init_20 rfl (ltb rfl) (ltb rfl) rfl rfl rfl ?_
  refine g_iloadn (pc := 23) O rfl dX4_init_23 ?_
  refine g_new (c := 1) (n := 79) (cs := 10) (ss := 79) (N := 5) (pc := 24) O clsN1 cl_X4_9 dX4_init_24 rfl (ltb rfl) z ⟨leb rfl, leb rfl⟩ ?_
  have z := zA_up (m := 80) z (leb rfl)
  show Gd (F0' g l X) _ (80, 11, 84) (sR (iX1_76 (sR (iX1_73 (sR (iX1_70 (sR h 68 0 (some 69))) 69 0 (some 70))) 69 1 (some 73))) 69 2 (some 76)) 27 [(0, .ref 68), (1, .int (I 3))] [.ref 79, .int (I 3), .ref 69]
  refine g_dup (pc := 27) O rfl dX4_init_27 ?_
  refine g_callN (w := (80, 11, 84)) (a := 79) (mc := 2) (ms := 20) (pc := 28) O mk_X1_init rfl W.2.1 im_X1_init rfl ⟨rfl, rfl, leb rfl, leb rfl⟩ (leb rfl) ⟨leb rfl, leb rfl⟩ dX4_init_28 (Spec.mono (cX1_79 W z) (qE_k ?_))
  have z := zX1_79 z
  show Gd (F0' g l X) _ (82, 13, 104) (iX1_79 (sR (iX1_76 (sR (iX1_73 (sR (iX1_70 (sR h 68 0 (some 69))) 69 0 (some 70))) 69 1 (some 73))) 69 2 (some 76))) 31 [(0, .ref 68), (1, .int (I 3))] [.ref 79, .int (I 3), .ref 69]
  refine g_aast (t := 0) (w := (82, 13, 104)) (a := 69) (b := 79) (j := 3) (n := 4) (pc := 31) O dX4_init_31 rfl rfl (ltb rfl) (leb rfl) (ltb rfl) (ltb rfl) cls1 rfl rfl (ltb rfl) ?_
  have z := zA_sR (a := 69) (k := 3) (v := (some 79)) z (ltb rfl)
  refine g_iinc (v := (I 4)) (lv' := [(0, .ref 68), (1, .int (I 4))]) (pc := 32) O dX4_init_32 rfl (by decide) (ltb rfl) rfl ?_
  refine g_goto (tgt := 14) (pc := 35) O dX4_init_35 rfl ?_
  refine g_iloadn (pc := 14) O rfl dX4_init_14 ?_
  refine g_iconst (v := (I 4)) (pc := 15) O rfl dX4_init_15 ?_
  refine g_icmp_ge (tgt := 38) (pc := 16) O dX4_init_16 rfl (fun _ => ?_) (fun q => absurd (by decide) q)
  exact g_vret (w := (82, 13, 104)) (pc := 38) O dX4_init_38 ⟨rfl, rfl⟩
def iX7_0 (h : AH) : AH := (sR (iX4_68 (sR (iX4_54 (sR (iX0_48 (sR (iX0_42 (sR (iX6_37 (sR (iX3_26 (sR (iX2_23 (sR (sR (sI (sI (sI (sI (sI (sR (sR (iX4_6 (sR (iX5_1 h) 0 0 (some 1))) 0 1 (some 6)) 0 2 (some 20)) 21 0 (I 10)) 21 1 (I 1)) 21 2 (I 0)) 21 3 (I 2)) 21 4 (I 3)) 0 3 (some 21)) 0 4 (some 22))) 0 5 (some 23))) 0 6 (some 26))) 0 7 (some 37))) 0 8 (some 42))) 0 9 (some 48))) 20 0 (some 54))) 20 1 (some 68))
theorem zX7_0 {h : AH} (z : zA 1 h) : zA 82 (iX7_0 h) := by
  have z := zA_up (m := 2) z (leb rfl)
  have z := zX5_1 z
  have z := zA_sR (a := 0) (k := 0) (v := (some 1)) z (ltb rfl)
  have z := zA_up (m := 7) z (leb rfl)
  have z := zX4_6 z
  have z := zA_sR (a := 0) (k := 1) (v := (some 6)) z (ltb rfl)
  have z := zA_up (m := 21) z (leb rfl)
  have z := zA_sR (a := 0) (k := 2) (v := (some 20)) z (ltb rfl)
  have z := zA_up (m := 22) z (leb rfl)
  have z := zA_sI (a := 21) (k := 0) (v := (I 10)) z (ltb rfl)
  have z := zA_sI (a := 21) (k := 1) (v := (I 1)) z (ltb rfl)
  have z := zA_sI (a := 21) (k := 2) (v := (I 0)) z (ltb rfl)
  have z := zA_sI (a := 21) (k := 3) (v := (I 2)) z (ltb rfl)
  have z := zA_sI (a := 21) (k := 4) (v := (I 3)) z (ltb rfl)
  have z := zA_sR (a := 0) (k := 3) (v := (some 21)) z (ltb rfl)
  have z := zA_up (m := 23) z (leb rfl)
  have z := zA_sR (a := 0) (k := 4) (v := (some 22)) z (ltb rfl)
  have z := zA_up (m := 24) z (leb rfl)
  have z := zX2_23 z
  have z := zA_sR (a := 0) (k := 5) (v := (some 23)) z (ltb rfl)
  have z := zA_up (m := 27) z (leb rfl)
  have z := zX3_26 z
  have z := zA_sR (a := 0) (k := 6) (v := (some 26)) z (ltb rfl)
  have z := zA_up (m := 38) z (leb rfl)
  have z := zX6_37 z
  have z := zA_sR (a := 0) (k := 7) (v := (some 37)) z (ltb rfl)
  have z := zA_up (m := 43) z (leb rfl)
  have z := zX0_42 z
  have z := zA_sR (a := 0) (k := 8) (v := (some 42)) z (ltb rfl)
  have z := zA_up (m := 49) z (leb rfl)
  have z := zX0_48 z
  have z := zA_sR (a := 0) (k := 9) (v := (some 48)) z (ltb rfl)
  have z := zA_up (m := 55) z (leb rfl)
  have z := zX4_54 z
  have z := zA_sR (a := 20) (k := 0) (v := (some 54)) z (ltb rfl)
  have z := zA_up (m := 69) z (leb rfl)
  have z := zX4_68 z
  have z := zA_sR (a := 20) (k := 1) (v := (some 68)) z (ltb rfl)
  exact z
set_option maxRecDepth 20000 in
set_option maxHeartbeats 2000000 in
theorem cX7_0 {g : mg} {l : Launch} {h : AH} (W : NestW g.1) (z : zA 1 h) : Spec (mG0 g) l mX7_init (1, 81, 3087) h [.ref 0] (qE (iX7_0 h)) := by
  refine spec_of (n := 1) (mc := 81) (ms := 3087) (by decide) (leb rfl) (fun X O nm => ?_)
  show Gd (F0' g l X) (MZ (F0' g l X) (82, 81, 3087) (qE (iX7_0 h))) (1, 0, 0) h 0 [(0, .ref 0)] []
  refine g_aloadn (pc := 0) O rfl dX7_init_0 ?_
  refine g_obj (a := 0) (pc := 1) O oi_X7 dX7_init_1 ⟨leb rfl, leb rfl⟩ (leb rfl) ?_
  refine g_aloadn (pc := 4) O rfl dX7_init_4 ?_
  refine g_new (c := 5) (n := 1) (cs := 0) (ss := 0) (N := 8) (pc := 5) O clsN5 cl_X7_9 dX7_init_5 rfl (ltb rfl) z ⟨leb rfl, leb rfl⟩ ?_
  have z := zA_up (m := 2) z (leb rfl)
  show Gd (F0' g l X) _ (2, 1, 8) h 8 [(0, .ref 0)] [.ref 1, .ref 0]
  refine g_dup (pc := 8) O rfl dX7_init_8 ?_
  refine g_callN (w := (2, 1, 8)) (a := 1) (mc := 4) (ms := 1603) (pc := 9) O mk_X5_init rfl W.1 im_X5_init rfl ⟨rfl, rfl, leb rfl, leb rfl⟩ (leb rfl) ⟨leb rfl, leb rfl⟩ dX7_init_9 (Spec.mono (cX5_1 W z) (qE_k ?_))
  have z := zX5_1 z
  show Gd (F0' g l X) _ (6, 5, 1611) (iX5_1 h) 12 [(0, .ref 0)] [.ref 1, .ref 0]
  refine g_putF (v := 1) (w := (6, 5, 1611)) (a := 0) (k := 0) (pc := 12) O cls7 fl_X7_12 dX7_init_12 rfl (ltb rfl) (leb rfl) (ltb rfl) rfl rfl rfl nm rfl (tyX7_ok 0 (ltb rfl)) rfl rfl ?_
  have z := zA_sR (a := 0) (k := 0) (v := (some 1)) z (ltb rfl)
  refine g_aloadn (pc := 15) O rfl dX7_init_15 ?_
  refine g_new (c := 4) (n := 6) (cs := 5) (ss := 1611) (N := 3) (pc := 16) O clsN4 cl_X7_16 dX7_init_16 rfl (ltb rfl) z ⟨leb rfl, leb rfl⟩ ?_
  have z := zA_up (m := 7) z (leb rfl)
  show Gd (F0' g l X) _ (7, 6, 1614) (sR (iX5_1 h) 0 0 (some 1)) 19 [(0, .ref 0)] [.ref 6, .ref 0]
  refine g_dup (pc := 19) O rfl dX7_init_19 ?_
  refine g_callI (av := []) (st := [.ref 6, .ref 0]) (w := (7, 6, 1614)) (a := 6) (mc := 13) (ms := 104) (pc := 20) O mk_X4_init rfl ml_X7_18 im_X4_init rfl ⟨rfl, rfl, leb rfl, leb rfl⟩ rfl (leb rfl) ⟨leb rfl, leb rfl⟩ dX7_init_20 (Spec.mono (cX4_6 W z) (qE_k ?_)) rfl
  have z := zX4_6 z
  show Gd (F0' g l X) _ (20, 19, 1718) (iX4_6 (sR (iX5_1 h) 0 0 (some 1))) 23 [(0, .ref 0)] [.ref 6, .ref 0]
  refine g_putF (v := 6) (w := (20, 19, 1718)) (a := 0) (k := 1) (pc := 23) O cls7 fl_X7_19 dX7_init_23 rfl (ltb rfl) (leb rfl) (ltb rfl) rfl rfl rfl nm rfl (tyX7_ok 1 (ltb rfl)) rfl rfl ?_
  have z := zA_sR (a := 0) (k := 1) (v := (some 6)) z (ltb rfl)
  refine g_aloadn (pc := 26) O rfl dX7_init_26 ?_
  refine g_iconst (v := (I 2)) (pc := 27) O rfl dX7_init_27 ?_
  refine g_newQ (t := 1) (C := RX4) (n := 20) (cs := 19) (ss := 1718) (N := 2) (pc := 28) O cl_X7_16 W.2.2.2.2.2.2 rfl dX7_init_28 rfl (ltb rfl) z (leb rfl) ⟨leb rfl, leb rfl⟩ rfl ?_
  have z := zA_up (m := 21) z (leb rfl)
  show Gd (F0' g l X) _ (21, 20, 1720) (sR (iX4_6 (sR (iX5_1 h) 0 0 (some 1))) 0 1 (some 6)) 31 [(0, .ref 0)] [.ref 20, .ref 0]
  refine g_putF (v := 20) (w := (21, 20, 1720)) (a := 0) (k := 2) (pc := 31) O cls7 fl_X7_23 dX7_init_31 rfl (ltb rfl) (leb rfl) (ltb rfl) rfl rfl rfl nm rfl (tyX7_ok 2 (ltb rfl)) rfl rfl ?_
  have z := zA_sR (a := 0) (k := 2) (v := (some 20)) z (ltb rfl)
  refine g_aloadn (pc := 34) O rfl dX7_init_34 ?_
  refine g_iconst (v := (I 5)) (pc := 35) O rfl dX7_init_35 ?_
  refine g_newI (n := 21) (cs := 20) (ss := 1720) (N := 5) (pc := 36) O dX7_init_36 rfl (ltb rfl) z (leb rfl) ⟨leb rfl, leb rfl⟩ rfl ?_
  have z := zA_up (m := 22) z (leb rfl)
  show Gd (F0' g l X) _ (22, 21, 1725) (sR (sR (iX4_6 (sR (iX5_1 h) 0 0 (some 1))) 0 1 (some 6)) 0 2 (some 20)) 38 [(0, .ref 0)] [.ref 21, .ref 0]
  refine g_dup (pc := 38) O rfl dX7_init_38 ?_
  refine g_iconst (v := (I 0)) (pc := 39) O rfl dX7_init_39 ?_
  refine g_bipush (v := (I 10)) (pc := 40) O (by decide) dX7_init_40 ?_
  refine g_iast (w := (22, 21, 1725)) (a := 21) (j := 0) (n := 5) (pc := 42) O dX7_init_42 rfl rfl (ltb rfl) (leb rfl) (ltb rfl) (ltb rfl) ?_
  have z := zA_sI (a := 21) (k := 0) (v := (I 10)) z (ltb rfl)
  refine g_dup (pc := 43) O rfl dX7_init_43 ?_
  refine g_iconst (v := (I 1)) (pc := 44) O rfl dX7_init_44 ?_
  refine g_iconst (v := (I 1)) (pc := 45) O rfl dX7_init_45 ?_
  refine g_iast (w := (22, 21, 1725)) (a := 21) (j := 1) (n := 5) (pc := 46) O dX7_init_46 rfl rfl (ltb rfl) (leb rfl) (ltb rfl) (ltb rfl) ?_
  have z := zA_sI (a := 21) (k := 1) (v := (I 1)) z (ltb rfl)
  refine g_dup (pc := 47) O rfl dX7_init_47 ?_
  refine g_iconst (v := (I 2)) (pc := 48) O rfl dX7_init_48 ?_
  refine g_iconst (v := (I 0)) (pc := 49) O rfl dX7_init_49 ?_
  refine g_iast (w := (22, 21, 1725)) (a := 21) (j := 2) (n := 5) (pc := 50) O dX7_init_50 rfl rfl (ltb rfl) (leb rfl) (ltb rfl) (ltb rfl) ?_
  have z := zA_sI (a := 21) (k := 2) (v := (I 0)) z (ltb rfl)
  refine g_dup (pc := 51) O rfl dX7_init_51 ?_
  refine g_iconst (v := (I 3)) (pc := 52) O rfl dX7_init_52 ?_
  refine g_iconst (v := (I 2)) (pc := 53) O rfl dX7_init_53 ?_
  refine g_iast (w := (22, 21, 1725)) (a := 21) (j := 3) (n := 5) (pc := 54) O dX7_init_54 rfl rfl (ltb rfl) (leb rfl) (ltb rfl) (ltb rfl) ?_
  have z := zA_sI (a := 21) (k := 3) (v := (I 2)) z (ltb rfl)
  refine g_dup (pc := 55) O rfl dX7_init_55 ?_
  refine g_iconst (v := (I 4)) (pc := 56) O rfl dX7_init_56 ?_
  refine g_iconst (v := (I 3)) (pc := 57) O rfl dX7_init_57 ?_
  refine g_iast (w := (22, 21, 1725)) (a := 21) (j := 4) (n := 5) (pc := 58) O dX7_init_58 rfl rfl (ltb rfl) (leb rfl) (ltb rfl) (ltb rfl) ?_
  have z := zA_sI (a := 21) (k := 4) (v := (I 3)) z (ltb rfl)
  refine g_putF (v := 21) (w := (22, 21, 1725)) (a := 0) (k := 3) (pc := 59) O cls7 fl_X7_27 dX7_init_59 rfl (ltb rfl) (leb rfl) (ltb rfl) rfl rfl rfl nm rfl (tyX7_ok 3 (ltb rfl)) rfl rfl ?_
  have z := zA_sR (a := 0) (k := 3) (v := (some 21)) z (ltb rfl)
  refine g_aloadn (pc := 62) O rfl dX7_init_62 ?_
  refine g_bipush (v := (I 12)) (pc := 63) O (by decide) dX7_init_63 ?_
  refine g_newI (n := 22) (cs := 21) (ss := 1725) (N := 12) (pc := 65) O dX7_init_65 rfl (ltb rfl) z (leb rfl) ⟨leb rfl, leb rfl⟩ rfl ?_
  have z := zA_up (m := 23) z (leb rfl)
  show Gd (F0' g l X) _ (23, 22, 1737) (sR (sI (sI (sI (sI (sI (sR (sR (iX4_6 (sR (iX5_1 h) 0 0 (some 1))) 0 1 (some 6)) 0 2 (some 20)) 21 0 (I 10)) 21 1 (I 1)) 21 2 (I 0)) 21 3 (I 2)) 21 4 (I 3)) 0 3 (some 21)) 67 [(0, .ref 0)] [.ref 22, .ref 0]
  refine g_putF (v := 22) (w := (23, 22, 1737)) (a := 0) (k := 4) (pc := 67) O cls7 fl_X7_31 dX7_init_67 rfl (ltb rfl) (leb rfl) (ltb rfl) rfl rfl rfl nm rfl (tyX7_ok 4 (ltb rfl)) rfl rfl ?_
  have z := zA_sR (a := 0) (k := 4) (v := (some 22)) z (ltb rfl)
  refine g_aloadn (pc := 70) O rfl dX7_init_70 ?_
  refine g_new (c := 2) (n := 23) (cs := 22) (ss := 1737) (N := 7) (pc := 71) O clsN2 cl_X7_34 dX7_init_71 rfl (ltb rfl) z ⟨leb rfl, leb rfl⟩ ?_
  have z := zA_up (m := 24) z (leb rfl)
  show Gd (F0' g l X) _ (24, 23, 1744) (sR (sR (sI (sI (sI (sI (sI (sR (sR (iX4_6 (sR (iX5_1 h) 0 0 (some 1))) 0 1 (some 6)) 0 2 (some 20)) 21 0 (I 10)) 21 1 (I 1)) 21 2 (I 0)) 21 3 (I 2)) 21 4 (I 3)) 0 3 (some 21)) 0 4 (some 22)) 74 [(0, .ref 0)] [.ref 23, .ref 0]
  refine g_dup (pc := 74) O rfl dX7_init_74 ?_
  refine g_callN (w := (24, 23, 1744)) (a := 23) (mc := 2) (ms := 242) (pc := 75) O mk_X2_init rfl W.2.2.1 im_X2_init rfl ⟨rfl, rfl, leb rfl, leb rfl⟩ (leb rfl) ⟨leb rfl, leb rfl⟩ dX7_init_75 (Spec.mono (cX2_23 W z) (qE_k ?_))
  have z := zX2_23 z
  show Gd (F0' g l X) _ (26, 25, 1986) (iX2_23 (sR (sR (sI (sI (sI (sI (sI (sR (sR (iX4_6 (sR (iX5_1 h) 0 0 (some 1))) 0 1 (some 6)) 0 2 (some 20)) 21 0 (I 10)) 21 1 (I 1)) 21 2 (I 0)) 21 3 (I 2)) 21 4 (I 3)) 0 3 (some 21)) 0 4 (some 22))) 78 [(0, .ref 0)] [.ref 23, .ref 0]
  refine g_putF (v := 23) (w := (26, 25, 1986)) (a := 0) (k := 5) (pc := 78) O cls7 fl_X7_37 dX7_init_78 rfl (ltb rfl) (leb rfl) (ltb rfl) rfl rfl rfl nm rfl (tyX7_ok 5 (ltb rfl)) rfl rfl ?_
  have z := zA_sR (a := 0) (k := 5) (v := (some 23)) z (ltb rfl)
  refine g_aloadn (pc := 81) O rfl dX7_init_81 ?_
  refine g_new (c := 3) (n := 26) (cs := 25) (ss := 1986) (N := 14) (pc := 82) O clsN3 cl_X7_41 dX7_init_82 rfl (ltb rfl) z ⟨leb rfl, leb rfl⟩ ?_
  have z := zA_up (m := 27) z (leb rfl)
  show Gd (F0' g l X) _ (27, 26, 2000) (sR (iX2_23 (sR (sR (sI (sI (sI (sI (sI (sR (sR (iX4_6 (sR (iX5_1 h) 0 0 (some 1))) 0 1 (some 6)) 0 2 (some 20)) 21 0 (I 10)) 21 1 (I 1)) 21 2 (I 0)) 21 3 (I 2)) 21 4 (I 3)) 0 3 (some 21)) 0 4 (some 22))) 0 5 (some 23)) 85 [(0, .ref 0)] [.ref 26, .ref 0]
  refine g_dup (pc := 85) O rfl dX7_init_85 ?_
  refine g_callN (w := (27, 26, 2000)) (a := 26) (mc := 10) (ms := 260) (pc := 86) O mk_X3_init rfl W.2.2.2.1 im_X3_init rfl ⟨rfl, rfl, leb rfl, leb rfl⟩ (leb rfl) ⟨leb rfl, leb rfl⟩ dX7_init_86 (Spec.mono (cX3_26 W z) (qE_k ?_))
  have z := zX3_26 z
  show Gd (F0' g l X) _ (37, 36, 2260) (iX3_26 (sR (iX2_23 (sR (sR (sI (sI (sI (sI (sI (sR (sR (iX4_6 (sR (iX5_1 h) 0 0 (some 1))) 0 1 (some 6)) 0 2 (some 20)) 21 0 (I 10)) 21 1 (I 1)) 21 2 (I 0)) 21 3 (I 2)) 21 4 (I 3)) 0 3 (some 21)) 0 4 (some 22))) 0 5 (some 23))) 89 [(0, .ref 0)] [.ref 26, .ref 0]
  refine g_putF (v := 26) (w := (37, 36, 2260)) (a := 0) (k := 6) (pc := 89) O cls7 fl_X7_44 dX7_init_89 rfl (ltb rfl) (leb rfl) (ltb rfl) rfl rfl rfl nm rfl (tyX7_ok 6 (ltb rfl)) rfl rfl ?_
  have z := zA_sR (a := 0) (k := 6) (v := (some 26)) z (ltb rfl)
  refine g_aloadn (pc := 92) O rfl dX7_init_92 ?_
  refine g_new (c := 6) (n := 37) (cs := 36) (ss := 2260) (N := 6) (pc := 93) O clsN6 cl_X7_48 dX7_init_93 rfl (ltb rfl) z ⟨leb rfl, leb rfl⟩ ?_
  have z := zA_up (m := 38) z (leb rfl)
  show Gd (F0' g l X) _ (38, 37, 2266) (sR (iX3_26 (sR (iX2_23 (sR (sR (sI (sI (sI (sI (sI (sR (sR (iX4_6 (sR (iX5_1 h) 0 0 (some 1))) 0 1 (some 6)) 0 2 (some 20)) 21 0 (I 10)) 21 1 (I 1)) 21 2 (I 0)) 21 3 (I 2)) 21 4 (I 3)) 0 3 (some 21)) 0 4 (some 22))) 0 5 (some 23))) 0 6 (some 26)) 96 [(0, .ref 0)] [.ref 37, .ref 0]
  refine g_dup (pc := 96) O rfl dX7_init_96 ?_
  refine g_callN (w := (38, 37, 2266)) (a := 37) (mc := 4) (ms := 489) (pc := 97) O mk_X6_init rfl W.2.2.2.2.1 im_X6_init rfl ⟨rfl, rfl, leb rfl, leb rfl⟩ (leb rfl) ⟨leb rfl, leb rfl⟩ dX7_init_97 (Spec.mono (cX6_37 W z) (qE_k ?_))
  have z := zX6_37 z
  show Gd (F0' g l X) _ (42, 41, 2755) (iX6_37 (sR (iX3_26 (sR (iX2_23 (sR (sR (sI (sI (sI (sI (sI (sR (sR (iX4_6 (sR (iX5_1 h) 0 0 (some 1))) 0 1 (some 6)) 0 2 (some 20)) 21 0 (I 10)) 21 1 (I 1)) 21 2 (I 0)) 21 3 (I 2)) 21 4 (I 3)) 0 3 (some 21)) 0 4 (some 22))) 0 5 (some 23))) 0 6 (some 26))) 100 [(0, .ref 0)] [.ref 37, .ref 0]
  refine g_putF (v := 37) (w := (42, 41, 2755)) (a := 0) (k := 7) (pc := 100) O cls7 fl_X7_51 dX7_init_100 rfl (ltb rfl) (leb rfl) (ltb rfl) rfl rfl rfl nm rfl (tyX7_ok 7 (ltb rfl)) rfl rfl ?_
  have z := zA_sR (a := 0) (k := 7) (v := (some 37)) z (ltb rfl)
  refine g_aloadn (pc := 103) O rfl dX7_init_103 ?_
  refine g_new (c := 0) (n := 42) (cs := 41) (ss := 2755) (N := 7) (pc := 104) O clsN0 cl_X7_55 dX7_init_104 rfl (ltb rfl) z ⟨leb rfl, leb rfl⟩ ?_
  have z := zA_up (m := 43) z (leb rfl)
  show Gd (F0' g l X) _ (43, 42, 2762) (sR (iX6_37 (sR (iX3_26 (sR (iX2_23 (sR (sR (sI (sI (sI (sI (sI (sR (sR (iX4_6 (sR (iX5_1 h) 0 0 (some 1))) 0 1 (some 6)) 0 2 (some 20)) 21 0 (I 10)) 21 1 (I 1)) 21 2 (I 0)) 21 3 (I 2)) 21 4 (I 3)) 0 3 (some 21)) 0 4 (some 22))) 0 5 (some 23))) 0 6 (some 26))) 0 7 (some 37)) 107 [(0, .ref 0)] [.ref 42, .ref 0]
  refine g_dup (pc := 107) O rfl dX7_init_107 ?_
  refine g_callI (av := []) (st := [.ref 42, .ref 0]) (w := (43, 42, 2762)) (a := 42) (mc := 5) (ms := 52) (pc := 108) O mk_X0_init rfl ml_X7_57 im_X0_init rfl ⟨rfl, rfl, leb rfl, leb rfl⟩ rfl (leb rfl) ⟨leb rfl, leb rfl⟩ dX7_init_108 (Spec.mono (cX0_42 W z) (qE_k ?_)) rfl
  have z := zX0_42 z
  show Gd (F0' g l X) _ (48, 47, 2814) (iX0_42 (sR (iX6_37 (sR (iX3_26 (sR (iX2_23 (sR (sR (sI (sI (sI (sI (sI (sR (sR (iX4_6 (sR (iX5_1 h) 0 0 (some 1))) 0 1 (some 6)) 0 2 (some 20)) 21 0 (I 10)) 21 1 (I 1)) 21 2 (I 0)) 21 3 (I 2)) 21 4 (I 3)) 0 3 (some 21)) 0 4 (some 22))) 0 5 (some 23))) 0 6 (some 26))) 0 7 (some 37))) 111 [(0, .ref 0)] [.ref 42, .ref 0]
  refine g_putR (v := 42) (w := (48, 47, 2814)) (a := 0) (k := 8) (pc := 111) O cls7 fl_X7_58 dX7_init_111 rfl (ltb rfl) (leb rfl) (ltb rfl) rfl rfl rfl (tyX7_ok 8 (ltb rfl)) rfl rfl ?_
  have z := zA_sR (a := 0) (k := 8) (v := (some 42)) z (ltb rfl)
  refine g_aloadn (pc := 114) O rfl dX7_init_114 ?_
  refine g_new (c := 0) (n := 48) (cs := 47) (ss := 2814) (N := 7) (pc := 115) O clsN0 cl_X7_55 dX7_init_115 rfl (ltb rfl) z ⟨leb rfl, leb rfl⟩ ?_
  have z := zA_up (m := 49) z (leb rfl)
  show Gd (F0' g l X) _ (49, 48, 2821) (sR (iX0_42 (sR (iX6_37 (sR (iX3_26 (sR (iX2_23 (sR (sR (sI (sI (sI (sI (sI (sR (sR (iX4_6 (sR (iX5_1 h) 0 0 (some 1))) 0 1 (some 6)) 0 2 (some 20)) 21 0 (I 10)) 21 1 (I 1)) 21 2 (I 0)) 21 3 (I 2)) 21 4 (I 3)) 0 3 (some 21)) 0 4 (some 22))) 0 5 (some 23))) 0 6 (some 26))) 0 7 (some 37))) 0 8 (some 42)) 118 [(0, .ref 0)] [.ref 48, .ref 0]
  refine g_dup (pc := 118) O rfl dX7_init_118 ?_
  refine g_callI (av := []) (st := [.ref 48, .ref 0]) (w := (49, 48, 2821)) (a := 48) (mc := 5) (ms := 52) (pc := 119) O mk_X0_init rfl ml_X7_57 im_X0_init rfl ⟨rfl, rfl, leb rfl, leb rfl⟩ rfl (leb rfl) ⟨leb rfl, leb rfl⟩ dX7_init_119 (Spec.mono (cX0_48 W z) (qE_k ?_)) rfl
  have z := zX0_48 z
  show Gd (F0' g l X) _ (54, 53, 2873) (iX0_48 (sR (iX0_42 (sR (iX6_37 (sR (iX3_26 (sR (iX2_23 (sR (sR (sI (sI (sI (sI (sI (sR (sR (iX4_6 (sR (iX5_1 h) 0 0 (some 1))) 0 1 (some 6)) 0 2 (some 20)) 21 0 (I 10)) 21 1 (I 1)) 21 2 (I 0)) 21 3 (I 2)) 21 4 (I 3)) 0 3 (some 21)) 0 4 (some 22))) 0 5 (some 23))) 0 6 (some 26))) 0 7 (some 37))) 0 8 (some 42))) 122 [(0, .ref 0)] [.ref 48, .ref 0]
  refine g_putR (v := 48) (w := (54, 53, 2873)) (a := 0) (k := 9) (pc := 122) O cls7 fl_X7_62 dX7_init_122 rfl (ltb rfl) (leb rfl) (ltb rfl) rfl rfl rfl (tyX7_ok 9 (ltb rfl)) rfl rfl ?_
  have z := zA_sR (a := 0) (k := 9) (v := (some 48)) z (ltb rfl)
  refine g_iconst (v := (I 0)) (pc := 125) O rfl dX7_init_125 ?_
  refine g_istoren (lv' := [(0, .ref 0), (1, .int (I 0))]) (pc := 126) O dX7_init_126 rfl (ltb rfl) rfl ?_
  refine g_iloadn (pc := 127) O rfl dX7_init_127 ?_
  refine g_iconst (v := (I 2)) (pc := 128) O rfl dX7_init_128 ?_
  refine g_icmp_ge (tgt := 151) (pc := 129) O dX7_init_129 rfl (fun q => absurd q (by decide)) (fun _ => ?_)
  refine g_aloadn (pc := 132) O rfl dX7_init_132 ?_
  refine g_getR (w := (54, 53, 2873)) (a := 0) (k := 2) (b := 20) (pc := 133) O cls7 fl_X7_23 dX7_init_133 rfl (ltb rfl) (ltb rfl) rfl rfl rfl ?_
  refine g_iloadn (pc := 136) O rfl dX7_init_136 ?_
  refine g_new (c := 4) (n := 54) (cs := 53) (ss := 2873) (N := 3) (pc := 137) O clsN4 cl_X7_16 dX7_init_137 rfl (ltb rfl) z ⟨leb rfl, leb rfl⟩ ?_
  have z := zA_up (m := 55) z (leb rfl)
  show Gd (F0' g l X) _ (55, 54, 2876) (sR (iX0_48 (sR (iX0_42 (sR (iX6_37 (sR (iX3_26 (sR (iX2_23 (sR (sR (sI (sI (sI (sI (sI (sR (sR (iX4_6 (sR (iX5_1 h) 0 0 (some 1))) 0 1 (some 6)) 0 2 (some 20)) 21 0 (I 10)) 21 1 (I 1)) 21 2 (I 0)) 21 3 (I 2)) 21 4 (I 3)) 0 3 (some 21)) 0 4 (some 22))) 0 5 (some 23))) 0 6 (some 26))) 0 7 (some 37))) 0 8 (some 42))) 0 9 (some 48)) 140 [(0, .ref 0), (1, .int (I 0))] [.ref 54, .int (I 0), .ref 20]
  refine g_dup (pc := 140) O rfl dX7_init_140 ?_
  refine g_callI (av := []) (st := [.ref 54, .int (I 0), .ref 20]) (w := (55, 54, 2876)) (a := 54) (mc := 13) (ms := 104) (pc := 141) O mk_X4_init rfl ml_X7_18 im_X4_init rfl ⟨rfl, rfl, leb rfl, leb rfl⟩ rfl (leb rfl) ⟨leb rfl, leb rfl⟩ dX7_init_141 (Spec.mono (cX4_54 W z) (qE_k ?_)) rfl
  have z := zX4_54 z
  show Gd (F0' g l X) _ (68, 67, 2980) (iX4_54 (sR (iX0_48 (sR (iX0_42 (sR (iX6_37 (sR (iX3_26 (sR (iX2_23 (sR (sR (sI (sI (sI (sI (sI (sR (sR (iX4_6 (sR (iX5_1 h) 0 0 (some 1))) 0 1 (some 6)) 0 2 (some 20)) 21 0 (I 10)) 21 1 (I 1)) 21 2 (I 0)) 21 3 (I 2)) 21 4 (I 3)) 0 3 (some 21)) 0 4 (some 22))) 0 5 (some 23))) 0 6 (some 26))) 0 7 (some 37))) 0 8 (some 42))) 0 9 (some 48))) 144 [(0, .ref 0), (1, .int (I 0))] [.ref 54, .int (I 0), .ref 20]
  refine g_aast (t := 1) (w := (68, 67, 2980)) (a := 20) (b := 54) (j := 0) (n := 2) (pc := 144) O dX7_init_144 rfl rfl (ltb rfl) (leb rfl) (ltb rfl) (ltb rfl) cls4 rfl rfl (ltb rfl) ?_
  have z := zA_sR (a := 20) (k := 0) (v := (some 54)) z (ltb rfl)
  refine g_iinc (v := (I 1)) (lv' := [(0, .ref 0), (1, .int (I 1))]) (pc := 145) O dX7_init_145 rfl (by decide) (ltb rfl) rfl ?_
  refine g_goto (tgt := 127) (pc := 148) O dX7_init_148 rfl ?_
  refine g_iloadn (pc := 127) O rfl dX7_init_127 ?_
  refine g_iconst (v := (I 2)) (pc := 128) O rfl dX7_init_128 ?_
  refine g_icmp_ge (tgt := 151) (pc := 129) O dX7_init_129 rfl (fun q => absurd q (by decide)) (fun _ => ?_)
  refine g_aloadn (pc := 132) O rfl dX7_init_132 ?_
  refine g_getR (w := (68, 67, 2980)) (a := 0) (k := 2) (b := 20) (pc := 133) O cls7 fl_X7_23 dX7_init_133 rfl (ltb rfl) (ltb rfl) rfl rfl rfl ?_
  refine g_iloadn (pc := 136) O rfl dX7_init_136 ?_
  refine g_new (c := 4) (n := 68) (cs := 67) (ss := 2980) (N := 3) (pc := 137) O clsN4 cl_X7_16 dX7_init_137 rfl (ltb rfl) z ⟨leb rfl, leb rfl⟩ ?_
  have z := zA_up (m := 69) z (leb rfl)
  show Gd (F0' g l X) _ (69, 68, 2983) (sR (iX4_54 (sR (iX0_48 (sR (iX0_42 (sR (iX6_37 (sR (iX3_26 (sR (iX2_23 (sR (sR (sI (sI (sI (sI (sI (sR (sR (iX4_6 (sR (iX5_1 h) 0 0 (some 1))) 0 1 (some 6)) 0 2 (some 20)) 21 0 (I 10)) 21 1 (I 1)) 21 2 (I 0)) 21 3 (I 2)) 21 4 (I 3)) 0 3 (some 21)) 0 4 (some 22))) 0 5 (some 23))) 0 6 (some 26))) 0 7 (some 37))) 0 8 (some 42))) 0 9 (some 48))) 20 0 (some 54)) 140 [(0, .ref 0), (1, .int (I 1))] [.ref 68, .int (I 1), .ref 20]
  refine g_dup (pc := 140) O rfl dX7_init_140 ?_
  refine g_callI (av := []) (st := [.ref 68, .int (I 1), .ref 20]) (w := (69, 68, 2983)) (a := 68) (mc := 13) (ms := 104) (pc := 141) O mk_X4_init rfl ml_X7_18 im_X4_init rfl ⟨rfl, rfl, leb rfl, leb rfl⟩ rfl (leb rfl) ⟨leb rfl, leb rfl⟩ dX7_init_141 (Spec.mono (cX4_68 W z) (qE_k ?_)) rfl
  have z := zX4_68 z
  show Gd (F0' g l X) _ (82, 81, 3087) (iX4_68 (sR (iX4_54 (sR (iX0_48 (sR (iX0_42 (sR (iX6_37 (sR (iX3_26 (sR (iX2_23 (sR (sR (sI (sI (sI (sI (sI (sR (sR (iX4_6 (sR (iX5_1 h) 0 0 (some 1))) 0 1 (some 6)) 0 2 (some 20)) 21 0 (I 10)) 21 1 (I 1)) 21 2 (I 0)) 21 3 (I 2)) 21 4 (I 3)) 0 3 (some 21)) 0 4 (some 22))) 0 5 (some 23))) 0 6 (some 26))) 0 7 (some 37))) 0 8 (some 42))) 0 9 (some 48))) 20 0 (some 54))) 144 [(0, .ref 0), (1, .int (I 1))] [.ref 68, .int (I 1), .ref 20]
  refine g_aast (t := 1) (w := (82, 81, 3087)) (a := 20) (b := 68) (j := 1) (n := 2) (pc := 144) O dX7_init_144 rfl rfl (ltb rfl) (leb rfl) (ltb rfl) (ltb rfl) cls4 rfl rfl (ltb rfl) ?_
  have z := zA_sR (a := 20) (k := 1) (v := (some 68)) z (ltb rfl)
  refine g_iinc (v := (I 2)) (lv' := [(0, .ref 0), (1, .int (I 2))]) (pc := 145) O dX7_init_145 rfl (by decide) (ltb rfl) rfl ?_
  refine g_goto (tgt := 127) (pc := 148) O dX7_init_148 rfl ?_
  refine g_iloadn (pc := 127) O rfl dX7_init_127 ?_
  refine g_iconst (v := (I 2)) (pc := 128) O rfl dX7_init_128 ?_
  refine g_icmp_ge (tgt := 151) (pc := 129) O dX7_init_129 rfl (fun _ => ?_) (fun q => absurd (by decide) q)
  exact g_vret (w := (82, 81, 3087)) (pc := 151) O dX7_init_151 ⟨rfl, rfl⟩
def iX8_82 (h : AH) : AH := (sI (sI (sI (sI (sI (sI (sI (sI (sI (sI (sI (sI (sI (sI (sI (sI (sI (sI (sR (sR (sR (sR (sR (sR (sR (sR (sR (sR (sR (sR (sR (sR (sR (sR (sR (sR (sR (sR (sR (sR (sR (sR (sR (sR (sR (sR (sR (sR (sR (sR (sR (sR (sR h 82 0 (some 83)) 82 7 (some 84)) 82 8 (some 85)) 82 9 (some 86)) 82 10 (some 87)) 82 11 (some 88)) 82 12 (some 89)) 82 13 (some 90)) 82 14 (some 91)) 82 15 (some 92)) 82 16 (some 93)) 82 18 (some 94)) 82 19 (some 95)) 82 20 (some 96)) 82 21 (some 97)) 82 22 (some 98)) 82 23 (some 99)) 82 24 (some 100)) 82 25 (some 101)) 82 26 (some 102)) 82 27 (some 103)) 82 28 (some 104)) 82 29 (some 105)) 82 30 (some 106)) 82 31 (some 107)) 82 33 (some 108)) 82 34 (some 109)) 82 35 (some 110)) 82 36 (some 111)) 82 37 (some 112)) 82 39 (some 113)) 82 40 (some 114)) 82 42 (some 115)) 82 43 (some 116)) 82 45 (some 117)) 101 0 (I 10)) 101 1 (I 1)) 101 3 (I 2)) 101 4 (I 3)) 92 0 (I 999)) 92 1 (I 999)) 92 2 (I 999)) 92 3 (I 999)) 92 4 (I 999)) 92 5 (I 999)) 92 6 (I 999)) 92 7 (I 999)) 92 8 (I 999)) 92 9 (I 999)) 92 10 (I 999)) 92 11 (I 999)) 102 0 (I (-1))) 102 1 (I (-1)))
theorem zX8_82 {h : AH} (z : zA 83 h) : zA 118 (iX8_82 h) := by
  have z := zA_up (m := 84) z (leb rfl)
  have z := zA_sR (a := 82) (k := 0) (v := (some 83)) z (ltb rfl)
  have z := zA_up (m := 85) z (leb rfl)
  have z := zA_sR (a := 82) (k := 7) (v := (some 84)) z (ltb rfl)
  have z := zA_up (m := 86) z (leb rfl)
  have z := zA_sR (a := 82) (k := 8) (v := (some 85)) z (ltb rfl)
  have z := zA_up (m := 87) z (leb rfl)
  have z := zA_sR (a := 82) (k := 9) (v := (some 86)) z (ltb rfl)
  have z := zA_up (m := 88) z (leb rfl)
  have z := zA_sR (a := 82) (k := 10) (v := (some 87)) z (ltb rfl)
  have z := zA_up (m := 89) z (leb rfl)
  have z := zA_sR (a := 82) (k := 11) (v := (some 88)) z (ltb rfl)
  have z := zA_up (m := 90) z (leb rfl)
  have z := zA_sR (a := 82) (k := 12) (v := (some 89)) z (ltb rfl)
  have z := zA_up (m := 91) z (leb rfl)
  have z := zA_sR (a := 82) (k := 13) (v := (some 90)) z (ltb rfl)
  have z := zA_up (m := 92) z (leb rfl)
  have z := zA_sR (a := 82) (k := 14) (v := (some 91)) z (ltb rfl)
  have z := zA_up (m := 93) z (leb rfl)
  have z := zA_sR (a := 82) (k := 15) (v := (some 92)) z (ltb rfl)
  have z := zA_up (m := 94) z (leb rfl)
  have z := zA_sR (a := 82) (k := 16) (v := (some 93)) z (ltb rfl)
  have z := zA_up (m := 95) z (leb rfl)
  have z := zA_sR (a := 82) (k := 18) (v := (some 94)) z (ltb rfl)
  have z := zA_up (m := 96) z (leb rfl)
  have z := zA_sR (a := 82) (k := 19) (v := (some 95)) z (ltb rfl)
  have z := zA_up (m := 97) z (leb rfl)
  have z := zA_sR (a := 82) (k := 20) (v := (some 96)) z (ltb rfl)
  have z := zA_up (m := 98) z (leb rfl)
  have z := zA_sR (a := 82) (k := 21) (v := (some 97)) z (ltb rfl)
  have z := zA_up (m := 99) z (leb rfl)
  have z := zA_sR (a := 82) (k := 22) (v := (some 98)) z (ltb rfl)
  have z := zA_up (m := 100) z (leb rfl)
  have z := zA_sR (a := 82) (k := 23) (v := (some 99)) z (ltb rfl)
  have z := zA_up (m := 101) z (leb rfl)
  have z := zA_sR (a := 82) (k := 24) (v := (some 100)) z (ltb rfl)
  have z := zA_up (m := 102) z (leb rfl)
  have z := zA_sR (a := 82) (k := 25) (v := (some 101)) z (ltb rfl)
  have z := zA_up (m := 103) z (leb rfl)
  have z := zA_sR (a := 82) (k := 26) (v := (some 102)) z (ltb rfl)
  have z := zA_up (m := 104) z (leb rfl)
  have z := zA_sR (a := 82) (k := 27) (v := (some 103)) z (ltb rfl)
  have z := zA_up (m := 105) z (leb rfl)
  have z := zA_sR (a := 82) (k := 28) (v := (some 104)) z (ltb rfl)
  have z := zA_up (m := 106) z (leb rfl)
  have z := zA_sR (a := 82) (k := 29) (v := (some 105)) z (ltb rfl)
  have z := zA_up (m := 107) z (leb rfl)
  have z := zA_sR (a := 82) (k := 30) (v := (some 106)) z (ltb rfl)
  have z := zA_up (m := 108) z (leb rfl)
  have z := zA_sR (a := 82) (k := 31) (v := (some 107)) z (ltb rfl)
  have z := zA_up (m := 109) z (leb rfl)
  have z := zA_sR (a := 82) (k := 33) (v := (some 108)) z (ltb rfl)
  have z := zA_up (m := 110) z (leb rfl)
  have z := zA_sR (a := 82) (k := 34) (v := (some 109)) z (ltb rfl)
  have z := zA_up (m := 111) z (leb rfl)
  have z := zA_sR (a := 82) (k := 35) (v := (some 110)) z (ltb rfl)
  have z := zA_up (m := 112) z (leb rfl)
  have z := zA_sR (a := 82) (k := 36) (v := (some 111)) z (ltb rfl)
  have z := zA_up (m := 113) z (leb rfl)
  have z := zA_sR (a := 82) (k := 37) (v := (some 112)) z (ltb rfl)
  have z := zA_up (m := 114) z (leb rfl)
  have z := zA_sR (a := 82) (k := 39) (v := (some 113)) z (ltb rfl)
  have z := zA_up (m := 115) z (leb rfl)
  have z := zA_sR (a := 82) (k := 40) (v := (some 114)) z (ltb rfl)
  have z := zA_up (m := 116) z (leb rfl)
  have z := zA_sR (a := 82) (k := 42) (v := (some 115)) z (ltb rfl)
  have z := zA_up (m := 117) z (leb rfl)
  have z := zA_sR (a := 82) (k := 43) (v := (some 116)) z (ltb rfl)
  have z := zA_up (m := 118) z (leb rfl)
  have z := zA_sR (a := 82) (k := 45) (v := (some 117)) z (ltb rfl)
  have z := zA_sI (a := 101) (k := 0) (v := (I 10)) z (ltb rfl)
  have z := zA_sI (a := 101) (k := 1) (v := (I 1)) z (ltb rfl)
  have z := zA_sI (a := 101) (k := 3) (v := (I 2)) z (ltb rfl)
  have z := zA_sI (a := 101) (k := 4) (v := (I 3)) z (ltb rfl)
  have z := zA_sI (a := 92) (k := 0) (v := (I 999)) z (ltb rfl)
  have z := zA_sI (a := 92) (k := 1) (v := (I 999)) z (ltb rfl)
  have z := zA_sI (a := 92) (k := 2) (v := (I 999)) z (ltb rfl)
  have z := zA_sI (a := 92) (k := 3) (v := (I 999)) z (ltb rfl)
  have z := zA_sI (a := 92) (k := 4) (v := (I 999)) z (ltb rfl)
  have z := zA_sI (a := 92) (k := 5) (v := (I 999)) z (ltb rfl)
  have z := zA_sI (a := 92) (k := 6) (v := (I 999)) z (ltb rfl)
  have z := zA_sI (a := 92) (k := 7) (v := (I 999)) z (ltb rfl)
  have z := zA_sI (a := 92) (k := 8) (v := (I 999)) z (ltb rfl)
  have z := zA_sI (a := 92) (k := 9) (v := (I 999)) z (ltb rfl)
  have z := zA_sI (a := 92) (k := 10) (v := (I 999)) z (ltb rfl)
  have z := zA_sI (a := 92) (k := 11) (v := (I 999)) z (ltb rfl)
  have z := zA_sI (a := 102) (k := 0) (v := (I (-1))) z (ltb rfl)
  have z := zA_sI (a := 102) (k := 1) (v := (I (-1))) z (ltb rfl)
  exact z
set_option maxRecDepth 20000 in
set_option maxHeartbeats 2000000 in
theorem cX8_82 {g : mg} {l : Launch} {h : AH} (W : NestW g.1) (z : zA 83 h) : Spec (mG0 g) l mX8_init (83, 35, 16227) h [.ref 82] (qE (iX8_82 h)) := by
  refine spec_of (n := 83) (mc := 35) (ms := 16227) (by decide) (leb rfl) (fun X O nm => ?_)
  show Gd (F0' g l X) (MZ (F0' g l X) (118, 35, 16227) (qE (iX8_82 h))) (83, 0, 0) h 0 [(0, .ref 82)] []
  refine g_aloadn (pc := 0) O rfl dX8_init_0 ?_
  refine g_obj (a := 82) (pc := 1) O oi_X8 dX8_init_1 ⟨leb rfl, leb rfl⟩ (leb rfl) ?_
  refine g_aloadn (pc := 4) O rfl dX8_init_4 ?_
  refine g_sipush (v := (I 400)) (pc := 5) O (by decide) dX8_init_5 ?_
  refine g_newI (n := 83) (cs := 0) (ss := 0) (N := 400) (pc := 8) O dX8_init_8 rfl (ltb rfl) z (leb rfl) ⟨leb rfl, leb rfl⟩ rfl ?_
  have z := zA_up (m := 84) z (leb rfl)
  show Gd (F0' g l X) _ (84, 1, 400) h 10 [(0, .ref 82)] [.ref 83, .ref 82]
  refine g_putF (v := 83) (w := (84, 1, 400)) (a := 82) (k := 0) (pc := 10) O cls8 fl_X8_7 dX8_init_10 rfl (ltb rfl) (leb rfl) (ltb rfl) rfl rfl rfl nm rfl (tyX8_ok 0 (ltb rfl)) rfl rfl ?_
  have z := zA_sR (a := 82) (k := 0) (v := (some 83)) z (ltb rfl)
  refine g_aloadn (pc := 13) O rfl dX8_init_13 ?_
  refine g_iconst (v := (I 4)) (pc := 14) O rfl dX8_init_14 ?_
  refine g_newI (n := 84) (cs := 1) (ss := 400) (N := 4) (pc := 15) O dX8_init_15 rfl (ltb rfl) z (leb rfl) ⟨leb rfl, leb rfl⟩ rfl ?_
  have z := zA_up (m := 85) z (leb rfl)
  show Gd (F0' g l X) _ (85, 2, 404) (sR h 82 0 (some 83)) 17 [(0, .ref 82)] [.ref 84, .ref 82]
  refine g_putF (v := 84) (w := (85, 2, 404)) (a := 82) (k := 7) (pc := 17) O cls8 fl_X8_13 dX8_init_17 rfl (ltb rfl) (leb rfl) (ltb rfl) rfl rfl rfl nm rfl (tyX8_ok 7 (ltb rfl)) rfl rfl ?_
  have z := zA_sR (a := 82) (k := 7) (v := (some 84)) z (ltb rfl)
  refine g_aloadn (pc := 20) O rfl dX8_init_20 ?_
  refine g_iconst (v := (I 4)) (pc := 21) O rfl dX8_init_21 ?_
  refine g_newI (n := 85) (cs := 2) (ss := 404) (N := 4) (pc := 22) O dX8_init_22 rfl (ltb rfl) z (leb rfl) ⟨leb rfl, leb rfl⟩ rfl ?_
  have z := zA_up (m := 86) z (leb rfl)
  show Gd (F0' g l X) _ (86, 3, 408) (sR (sR h 82 0 (some 83)) 82 7 (some 84)) 24 [(0, .ref 82)] [.ref 85, .ref 82]
  refine g_putF (v := 85) (w := (86, 3, 408)) (a := 82) (k := 8) (pc := 24) O cls8 fl_X8_16 dX8_init_24 rfl (ltb rfl) (leb rfl) (ltb rfl) rfl rfl rfl nm rfl (tyX8_ok 8 (ltb rfl)) rfl rfl ?_
  have z := zA_sR (a := 82) (k := 8) (v := (some 85)) z (ltb rfl)
  refine g_aloadn (pc := 27) O rfl dX8_init_27 ?_
  refine g_iconst (v := (I 4)) (pc := 28) O rfl dX8_init_28 ?_
  refine g_newI (n := 86) (cs := 3) (ss := 408) (N := 4) (pc := 29) O dX8_init_29 rfl (ltb rfl) z (leb rfl) ⟨leb rfl, leb rfl⟩ rfl ?_
  have z := zA_up (m := 87) z (leb rfl)
  show Gd (F0' g l X) _ (87, 4, 412) (sR (sR (sR h 82 0 (some 83)) 82 7 (some 84)) 82 8 (some 85)) 31 [(0, .ref 82)] [.ref 86, .ref 82]
  refine g_putF (v := 86) (w := (87, 4, 412)) (a := 82) (k := 9) (pc := 31) O cls8 fl_X8_19 dX8_init_31 rfl (ltb rfl) (leb rfl) (ltb rfl) rfl rfl rfl nm rfl (tyX8_ok 9 (ltb rfl)) rfl rfl ?_
  have z := zA_sR (a := 82) (k := 9) (v := (some 86)) z (ltb rfl)
  refine g_aloadn (pc := 34) O rfl dX8_init_34 ?_
  refine g_bipush (v := (I 40)) (pc := 35) O (by decide) dX8_init_35 ?_
  refine g_newI (n := 87) (cs := 4) (ss := 412) (N := 40) (pc := 37) O dX8_init_37 rfl (ltb rfl) z (leb rfl) ⟨leb rfl, leb rfl⟩ rfl ?_
  have z := zA_up (m := 88) z (leb rfl)
  show Gd (F0' g l X) _ (88, 5, 452) (sR (sR (sR (sR h 82 0 (some 83)) 82 7 (some 84)) 82 8 (some 85)) 82 9 (some 86)) 39 [(0, .ref 82)] [.ref 87, .ref 82]
  refine g_putF (v := 87) (w := (88, 5, 452)) (a := 82) (k := 10) (pc := 39) O cls8 fl_X8_22 dX8_init_39 rfl (ltb rfl) (leb rfl) (ltb rfl) rfl rfl rfl nm rfl (tyX8_ok 10 (ltb rfl)) rfl rfl ?_
  have z := zA_sR (a := 82) (k := 10) (v := (some 87)) z (ltb rfl)
  refine g_aloadn (pc := 42) O rfl dX8_init_42 ?_
  refine g_bipush (v := (I 40)) (pc := 43) O (by decide) dX8_init_43 ?_
  refine g_newI (n := 88) (cs := 5) (ss := 452) (N := 40) (pc := 45) O dX8_init_45 rfl (ltb rfl) z (leb rfl) ⟨leb rfl, leb rfl⟩ rfl ?_
  have z := zA_up (m := 89) z (leb rfl)
  show Gd (F0' g l X) _ (89, 6, 492) (sR (sR (sR (sR (sR h 82 0 (some 83)) 82 7 (some 84)) 82 8 (some 85)) 82 9 (some 86)) 82 10 (some 87)) 47 [(0, .ref 82)] [.ref 88, .ref 82]
  refine g_putF (v := 88) (w := (89, 6, 492)) (a := 82) (k := 11) (pc := 47) O cls8 fl_X8_25 dX8_init_47 rfl (ltb rfl) (leb rfl) (ltb rfl) rfl rfl rfl nm rfl (tyX8_ok 11 (ltb rfl)) rfl rfl ?_
  have z := zA_sR (a := 82) (k := 11) (v := (some 88)) z (ltb rfl)
  refine g_aloadn (pc := 50) O rfl dX8_init_50 ?_
  refine g_bipush (v := (I 10)) (pc := 51) O (by decide) dX8_init_51 ?_
  refine g_newI (n := 89) (cs := 6) (ss := 492) (N := 10) (pc := 53) O dX8_init_53 rfl (ltb rfl) z (leb rfl) ⟨leb rfl, leb rfl⟩ rfl ?_
  have z := zA_up (m := 90) z (leb rfl)
  show Gd (F0' g l X) _ (90, 7, 502) (sR (sR (sR (sR (sR (sR h 82 0 (some 83)) 82 7 (some 84)) 82 8 (some 85)) 82 9 (some 86)) 82 10 (some 87)) 82 11 (some 88)) 55 [(0, .ref 82)] [.ref 89, .ref 82]
  refine g_putF (v := 89) (w := (90, 7, 502)) (a := 82) (k := 12) (pc := 55) O cls8 fl_X8_28 dX8_init_55 rfl (ltb rfl) (leb rfl) (ltb rfl) rfl rfl rfl nm rfl (tyX8_ok 12 (ltb rfl)) rfl rfl ?_
  have z := zA_sR (a := 82) (k := 12) (v := (some 89)) z (ltb rfl)
  refine g_aloadn (pc := 58) O rfl dX8_init_58 ?_
  refine g_bipush (v := (I 10)) (pc := 59) O (by decide) dX8_init_59 ?_
  refine g_newI (n := 90) (cs := 7) (ss := 502) (N := 10) (pc := 61) O dX8_init_61 rfl (ltb rfl) z (leb rfl) ⟨leb rfl, leb rfl⟩ rfl ?_
  have z := zA_up (m := 91) z (leb rfl)
  show Gd (F0' g l X) _ (91, 8, 512) (sR (sR (sR (sR (sR (sR (sR h 82 0 (some 83)) 82 7 (some 84)) 82 8 (some 85)) 82 9 (some 86)) 82 10 (some 87)) 82 11 (some 88)) 82 12 (some 89)) 63 [(0, .ref 82)] [.ref 90, .ref 82]
  refine g_putF (v := 90) (w := (91, 8, 512)) (a := 82) (k := 13) (pc := 63) O cls8 fl_X8_31 dX8_init_63 rfl (ltb rfl) (leb rfl) (ltb rfl) rfl rfl rfl nm rfl (tyX8_ok 13 (ltb rfl)) rfl rfl ?_
  have z := zA_sR (a := 82) (k := 13) (v := (some 90)) z (ltb rfl)
  refine g_aloadn (pc := 66) O rfl dX8_init_66 ?_
  refine g_bipush (v := (I 12)) (pc := 67) O (by decide) dX8_init_67 ?_
  refine g_newI (n := 91) (cs := 8) (ss := 512) (N := 12) (pc := 69) O dX8_init_69 rfl (ltb rfl) z (leb rfl) ⟨leb rfl, leb rfl⟩ rfl ?_
  have z := zA_up (m := 92) z (leb rfl)
  show Gd (F0' g l X) _ (92, 9, 524) (sR (sR (sR (sR (sR (sR (sR (sR h 82 0 (some 83)) 82 7 (some 84)) 82 8 (some 85)) 82 9 (some 86)) 82 10 (some 87)) 82 11 (some 88)) 82 12 (some 89)) 82 13 (some 90)) 71 [(0, .ref 82)] [.ref 91, .ref 82]
  refine g_putF (v := 91) (w := (92, 9, 524)) (a := 82) (k := 14) (pc := 71) O cls8 fl_X8_34 dX8_init_71 rfl (ltb rfl) (leb rfl) (ltb rfl) rfl rfl rfl nm rfl (tyX8_ok 14 (ltb rfl)) rfl rfl ?_
  have z := zA_sR (a := 82) (k := 14) (v := (some 91)) z (ltb rfl)
  refine g_aloadn (pc := 74) O rfl dX8_init_74 ?_
  refine g_bipush (v := (I 12)) (pc := 75) O (by decide) dX8_init_75 ?_
  refine g_newI (n := 92) (cs := 9) (ss := 524) (N := 12) (pc := 77) O dX8_init_77 rfl (ltb rfl) z (leb rfl) ⟨leb rfl, leb rfl⟩ rfl ?_
  have z := zA_up (m := 93) z (leb rfl)
  show Gd (F0' g l X) _ (93, 10, 536) (sR (sR (sR (sR (sR (sR (sR (sR (sR h 82 0 (some 83)) 82 7 (some 84)) 82 8 (some 85)) 82 9 (some 86)) 82 10 (some 87)) 82 11 (some 88)) 82 12 (some 89)) 82 13 (some 90)) 82 14 (some 91)) 79 [(0, .ref 82)] [.ref 92, .ref 82]
  refine g_putF (v := 92) (w := (93, 10, 536)) (a := 82) (k := 15) (pc := 79) O cls8 fl_X8_37 dX8_init_79 rfl (ltb rfl) (leb rfl) (ltb rfl) rfl rfl rfl nm rfl (tyX8_ok 15 (ltb rfl)) rfl rfl ?_
  have z := zA_sR (a := 82) (k := 15) (v := (some 92)) z (ltb rfl)
  refine g_aloadn (pc := 82) O rfl dX8_init_82 ?_
  refine g_bipush (v := (I 12)) (pc := 83) O (by decide) dX8_init_83 ?_
  refine g_newI (n := 93) (cs := 10) (ss := 536) (N := 12) (pc := 85) O dX8_init_85 rfl (ltb rfl) z (leb rfl) ⟨leb rfl, leb rfl⟩ rfl ?_
  have z := zA_up (m := 94) z (leb rfl)
  show Gd (F0' g l X) _ (94, 11, 548) (sR (sR (sR (sR (sR (sR (sR (sR (sR (sR h 82 0 (some 83)) 82 7 (some 84)) 82 8 (some 85)) 82 9 (some 86)) 82 10 (some 87)) 82 11 (some 88)) 82 12 (some 89)) 82 13 (some 90)) 82 14 (some 91)) 82 15 (some 92)) 87 [(0, .ref 82)] [.ref 93, .ref 82]
  refine g_putF (v := 93) (w := (94, 11, 548)) (a := 82) (k := 16) (pc := 87) O cls8 fl_X8_40 dX8_init_87 rfl (ltb rfl) (leb rfl) (ltb rfl) rfl rfl rfl nm rfl (tyX8_ok 16 (ltb rfl)) rfl rfl ?_
  have z := zA_sR (a := 82) (k := 16) (v := (some 93)) z (ltb rfl)
  refine g_aloadn (pc := 90) O rfl dX8_init_90 ?_
  refine g_bipush (v := (I 8)) (pc := 91) O (by decide) dX8_init_91 ?_
  refine g_newI (n := 94) (cs := 11) (ss := 548) (N := 8) (pc := 93) O dX8_init_93 rfl (ltb rfl) z (leb rfl) ⟨leb rfl, leb rfl⟩ rfl ?_
  have z := zA_up (m := 95) z (leb rfl)
  show Gd (F0' g l X) _ (95, 12, 556) (sR (sR (sR (sR (sR (sR (sR (sR (sR (sR (sR h 82 0 (some 83)) 82 7 (some 84)) 82 8 (some 85)) 82 9 (some 86)) 82 10 (some 87)) 82 11 (some 88)) 82 12 (some 89)) 82 13 (some 90)) 82 14 (some 91)) 82 15 (some 92)) 82 16 (some 93)) 95 [(0, .ref 82)] [.ref 94, .ref 82]
  refine g_putF (v := 94) (w := (95, 12, 556)) (a := 82) (k := 18) (pc := 95) O cls8 fl_X8_43 dX8_init_95 rfl (ltb rfl) (leb rfl) (ltb rfl) rfl rfl rfl nm rfl (tyX8_ok 18 (ltb rfl)) rfl rfl ?_
  have z := zA_sR (a := 82) (k := 18) (v := (some 94)) z (ltb rfl)
  refine g_aloadn (pc := 98) O rfl dX8_init_98 ?_
  refine g_bipush (v := (I 8)) (pc := 99) O (by decide) dX8_init_99 ?_
  refine g_newI (n := 95) (cs := 12) (ss := 556) (N := 8) (pc := 101) O dX8_init_101 rfl (ltb rfl) z (leb rfl) ⟨leb rfl, leb rfl⟩ rfl ?_
  have z := zA_up (m := 96) z (leb rfl)
  show Gd (F0' g l X) _ (96, 13, 564) (sR (sR (sR (sR (sR (sR (sR (sR (sR (sR (sR (sR h 82 0 (some 83)) 82 7 (some 84)) 82 8 (some 85)) 82 9 (some 86)) 82 10 (some 87)) 82 11 (some 88)) 82 12 (some 89)) 82 13 (some 90)) 82 14 (some 91)) 82 15 (some 92)) 82 16 (some 93)) 82 18 (some 94)) 103 [(0, .ref 82)] [.ref 95, .ref 82]
  refine g_putF (v := 95) (w := (96, 13, 564)) (a := 82) (k := 19) (pc := 103) O cls8 fl_X8_46 dX8_init_103 rfl (ltb rfl) (leb rfl) (ltb rfl) rfl rfl rfl nm rfl (tyX8_ok 19 (ltb rfl)) rfl rfl ?_
  have z := zA_sR (a := 82) (k := 19) (v := (some 95)) z (ltb rfl)
  refine g_aloadn (pc := 106) O rfl dX8_init_106 ?_
  refine g_bipush (v := (I 12)) (pc := 107) O (by decide) dX8_init_107 ?_
  refine g_newI (n := 96) (cs := 13) (ss := 564) (N := 12) (pc := 109) O dX8_init_109 rfl (ltb rfl) z (leb rfl) ⟨leb rfl, leb rfl⟩ rfl ?_
  have z := zA_up (m := 97) z (leb rfl)
  show Gd (F0' g l X) _ (97, 14, 576) (sR (sR (sR (sR (sR (sR (sR (sR (sR (sR (sR (sR (sR h 82 0 (some 83)) 82 7 (some 84)) 82 8 (some 85)) 82 9 (some 86)) 82 10 (some 87)) 82 11 (some 88)) 82 12 (some 89)) 82 13 (some 90)) 82 14 (some 91)) 82 15 (some 92)) 82 16 (some 93)) 82 18 (some 94)) 82 19 (some 95)) 111 [(0, .ref 82)] [.ref 96, .ref 82]
  refine g_putF (v := 96) (w := (97, 14, 576)) (a := 82) (k := 20) (pc := 111) O cls8 fl_X8_49 dX8_init_111 rfl (ltb rfl) (leb rfl) (ltb rfl) rfl rfl rfl nm rfl (tyX8_ok 20 (ltb rfl)) rfl rfl ?_
  have z := zA_sR (a := 82) (k := 20) (v := (some 96)) z (ltb rfl)
  refine g_aloadn (pc := 114) O rfl dX8_init_114 ?_
  refine g_bipush (v := (I 12)) (pc := 115) O (by decide) dX8_init_115 ?_
  refine g_newI (n := 97) (cs := 14) (ss := 576) (N := 12) (pc := 117) O dX8_init_117 rfl (ltb rfl) z (leb rfl) ⟨leb rfl, leb rfl⟩ rfl ?_
  have z := zA_up (m := 98) z (leb rfl)
  show Gd (F0' g l X) _ (98, 15, 588) (sR (sR (sR (sR (sR (sR (sR (sR (sR (sR (sR (sR (sR (sR h 82 0 (some 83)) 82 7 (some 84)) 82 8 (some 85)) 82 9 (some 86)) 82 10 (some 87)) 82 11 (some 88)) 82 12 (some 89)) 82 13 (some 90)) 82 14 (some 91)) 82 15 (some 92)) 82 16 (some 93)) 82 18 (some 94)) 82 19 (some 95)) 82 20 (some 96)) 119 [(0, .ref 82)] [.ref 97, .ref 82]
  refine g_putF (v := 97) (w := (98, 15, 588)) (a := 82) (k := 21) (pc := 119) O cls8 fl_X8_52 dX8_init_119 rfl (ltb rfl) (leb rfl) (ltb rfl) rfl rfl rfl nm rfl (tyX8_ok 21 (ltb rfl)) rfl rfl ?_
  have z := zA_sR (a := 82) (k := 21) (v := (some 97)) z (ltb rfl)
  refine g_aloadn (pc := 122) O rfl dX8_init_122 ?_
  refine g_bipush (v := (I 12)) (pc := 123) O (by decide) dX8_init_123 ?_
  refine g_newI (n := 98) (cs := 15) (ss := 588) (N := 12) (pc := 125) O dX8_init_125 rfl (ltb rfl) z (leb rfl) ⟨leb rfl, leb rfl⟩ rfl ?_
  have z := zA_up (m := 99) z (leb rfl)
  show Gd (F0' g l X) _ (99, 16, 600) (sR (sR (sR (sR (sR (sR (sR (sR (sR (sR (sR (sR (sR (sR (sR h 82 0 (some 83)) 82 7 (some 84)) 82 8 (some 85)) 82 9 (some 86)) 82 10 (some 87)) 82 11 (some 88)) 82 12 (some 89)) 82 13 (some 90)) 82 14 (some 91)) 82 15 (some 92)) 82 16 (some 93)) 82 18 (some 94)) 82 19 (some 95)) 82 20 (some 96)) 82 21 (some 97)) 127 [(0, .ref 82)] [.ref 98, .ref 82]
  refine g_putF (v := 98) (w := (99, 16, 600)) (a := 82) (k := 22) (pc := 127) O cls8 fl_X8_55 dX8_init_127 rfl (ltb rfl) (leb rfl) (ltb rfl) rfl rfl rfl nm rfl (tyX8_ok 22 (ltb rfl)) rfl rfl ?_
  have z := zA_sR (a := 82) (k := 22) (v := (some 98)) z (ltb rfl)
  refine g_aloadn (pc := 130) O rfl dX8_init_130 ?_
  refine g_bipush (v := (I 8)) (pc := 131) O (by decide) dX8_init_131 ?_
  refine g_newI (n := 99) (cs := 16) (ss := 600) (N := 8) (pc := 133) O dX8_init_133 rfl (ltb rfl) z (leb rfl) ⟨leb rfl, leb rfl⟩ rfl ?_
  have z := zA_up (m := 100) z (leb rfl)
  show Gd (F0' g l X) _ (100, 17, 608) (sR (sR (sR (sR (sR (sR (sR (sR (sR (sR (sR (sR (sR (sR (sR (sR h 82 0 (some 83)) 82 7 (some 84)) 82 8 (some 85)) 82 9 (some 86)) 82 10 (some 87)) 82 11 (some 88)) 82 12 (some 89)) 82 13 (some 90)) 82 14 (some 91)) 82 15 (some 92)) 82 16 (some 93)) 82 18 (some 94)) 82 19 (some 95)) 82 20 (some 96)) 82 21 (some 97)) 82 22 (some 98)) 135 [(0, .ref 82)] [.ref 99, .ref 82]
  refine g_putF (v := 99) (w := (100, 17, 608)) (a := 82) (k := 23) (pc := 135) O cls8 fl_X8_58 dX8_init_135 rfl (ltb rfl) (leb rfl) (ltb rfl) rfl rfl rfl nm rfl (tyX8_ok 23 (ltb rfl)) rfl rfl ?_
  have z := zA_sR (a := 82) (k := 23) (v := (some 99)) z (ltb rfl)
  refine g_aloadn (pc := 138) O rfl dX8_init_138 ?_
  refine g_bipush (v := (I 8)) (pc := 139) O (by decide) dX8_init_139 ?_
  refine g_newI (n := 100) (cs := 17) (ss := 608) (N := 8) (pc := 141) O dX8_init_141 rfl (ltb rfl) z (leb rfl) ⟨leb rfl, leb rfl⟩ rfl ?_
  have z := zA_up (m := 101) z (leb rfl)
  show Gd (F0' g l X) _ (101, 18, 616) (sR (sR (sR (sR (sR (sR (sR (sR (sR (sR (sR (sR (sR (sR (sR (sR (sR h 82 0 (some 83)) 82 7 (some 84)) 82 8 (some 85)) 82 9 (some 86)) 82 10 (some 87)) 82 11 (some 88)) 82 12 (some 89)) 82 13 (some 90)) 82 14 (some 91)) 82 15 (some 92)) 82 16 (some 93)) 82 18 (some 94)) 82 19 (some 95)) 82 20 (some 96)) 82 21 (some 97)) 82 22 (some 98)) 82 23 (some 99)) 143 [(0, .ref 82)] [.ref 100, .ref 82]
  refine g_putF (v := 100) (w := (101, 18, 616)) (a := 82) (k := 24) (pc := 143) O cls8 fl_X8_61 dX8_init_143 rfl (ltb rfl) (leb rfl) (ltb rfl) rfl rfl rfl nm rfl (tyX8_ok 24 (ltb rfl)) rfl rfl ?_
  have z := zA_sR (a := 82) (k := 24) (v := (some 100)) z (ltb rfl)
  refine g_aloadn (pc := 146) O rfl dX8_init_146 ?_
  refine g_iconst (v := (I 5)) (pc := 147) O rfl dX8_init_147 ?_
  refine g_newI (n := 101) (cs := 18) (ss := 616) (N := 5) (pc := 148) O dX8_init_148 rfl (ltb rfl) z (leb rfl) ⟨leb rfl, leb rfl⟩ rfl ?_
  have z := zA_up (m := 102) z (leb rfl)
  show Gd (F0' g l X) _ (102, 19, 621) (sR (sR (sR (sR (sR (sR (sR (sR (sR (sR (sR (sR (sR (sR (sR (sR (sR (sR h 82 0 (some 83)) 82 7 (some 84)) 82 8 (some 85)) 82 9 (some 86)) 82 10 (some 87)) 82 11 (some 88)) 82 12 (some 89)) 82 13 (some 90)) 82 14 (some 91)) 82 15 (some 92)) 82 16 (some 93)) 82 18 (some 94)) 82 19 (some 95)) 82 20 (some 96)) 82 21 (some 97)) 82 22 (some 98)) 82 23 (some 99)) 82 24 (some 100)) 150 [(0, .ref 82)] [.ref 101, .ref 82]
  refine g_putF (v := 101) (w := (102, 19, 621)) (a := 82) (k := 25) (pc := 150) O cls8 fl_X8_64 dX8_init_150 rfl (ltb rfl) (leb rfl) (ltb rfl) rfl rfl rfl nm rfl (tyX8_ok 25 (ltb rfl)) rfl rfl ?_
  have z := zA_sR (a := 82) (k := 25) (v := (some 101)) z (ltb rfl)
  refine g_aloadn (pc := 153) O rfl dX8_init_153 ?_
  refine g_iconst (v := (I 2)) (pc := 154) O rfl dX8_init_154 ?_
  refine g_newI (n := 102) (cs := 19) (ss := 621) (N := 2) (pc := 155) O dX8_init_155 rfl (ltb rfl) z (leb rfl) ⟨leb rfl, leb rfl⟩ rfl ?_
  have z := zA_up (m := 103) z (leb rfl)
  show Gd (F0' g l X) _ (103, 20, 623) (sR (sR (sR (sR (sR (sR (sR (sR (sR (sR (sR (sR (sR (sR (sR (sR (sR (sR (sR h 82 0 (some 83)) 82 7 (some 84)) 82 8 (some 85)) 82 9 (some 86)) 82 10 (some 87)) 82 11 (some 88)) 82 12 (some 89)) 82 13 (some 90)) 82 14 (some 91)) 82 15 (some 92)) 82 16 (some 93)) 82 18 (some 94)) 82 19 (some 95)) 82 20 (some 96)) 82 21 (some 97)) 82 22 (some 98)) 82 23 (some 99)) 82 24 (some 100)) 82 25 (some 101)) 157 [(0, .ref 82)] [.ref 102, .ref 82]
  refine g_putF (v := 102) (w := (103, 20, 623)) (a := 82) (k := 26) (pc := 157) O cls8 fl_X8_67 dX8_init_157 rfl (ltb rfl) (leb rfl) (ltb rfl) rfl rfl rfl nm rfl (tyX8_ok 26 (ltb rfl)) rfl rfl ?_
  have z := zA_sR (a := 82) (k := 26) (v := (some 102)) z (ltb rfl)
  refine g_aloadn (pc := 160) O rfl dX8_init_160 ?_
  refine g_bipush (v := (I 8)) (pc := 161) O (by decide) dX8_init_161 ?_
  refine g_newI (n := 103) (cs := 20) (ss := 623) (N := 8) (pc := 163) O dX8_init_163 rfl (ltb rfl) z (leb rfl) ⟨leb rfl, leb rfl⟩ rfl ?_
  have z := zA_up (m := 104) z (leb rfl)
  show Gd (F0' g l X) _ (104, 21, 631) (sR (sR (sR (sR (sR (sR (sR (sR (sR (sR (sR (sR (sR (sR (sR (sR (sR (sR (sR (sR h 82 0 (some 83)) 82 7 (some 84)) 82 8 (some 85)) 82 9 (some 86)) 82 10 (some 87)) 82 11 (some 88)) 82 12 (some 89)) 82 13 (some 90)) 82 14 (some 91)) 82 15 (some 92)) 82 16 (some 93)) 82 18 (some 94)) 82 19 (some 95)) 82 20 (some 96)) 82 21 (some 97)) 82 22 (some 98)) 82 23 (some 99)) 82 24 (some 100)) 82 25 (some 101)) 82 26 (some 102)) 165 [(0, .ref 82)] [.ref 103, .ref 82]
  refine g_putF (v := 103) (w := (104, 21, 631)) (a := 82) (k := 27) (pc := 165) O cls8 fl_X8_70 dX8_init_165 rfl (ltb rfl) (leb rfl) (ltb rfl) rfl rfl rfl nm rfl (tyX8_ok 27 (ltb rfl)) rfl rfl ?_
  have z := zA_sR (a := 82) (k := 27) (v := (some 103)) z (ltb rfl)
  refine g_aloadn (pc := 168) O rfl dX8_init_168 ?_
  refine g_bipush (v := (I 8)) (pc := 169) O (by decide) dX8_init_169 ?_
  refine g_newI (n := 104) (cs := 21) (ss := 631) (N := 8) (pc := 171) O dX8_init_171 rfl (ltb rfl) z (leb rfl) ⟨leb rfl, leb rfl⟩ rfl ?_
  have z := zA_up (m := 105) z (leb rfl)
  show Gd (F0' g l X) _ (105, 22, 639) (sR (sR (sR (sR (sR (sR (sR (sR (sR (sR (sR (sR (sR (sR (sR (sR (sR (sR (sR (sR (sR h 82 0 (some 83)) 82 7 (some 84)) 82 8 (some 85)) 82 9 (some 86)) 82 10 (some 87)) 82 11 (some 88)) 82 12 (some 89)) 82 13 (some 90)) 82 14 (some 91)) 82 15 (some 92)) 82 16 (some 93)) 82 18 (some 94)) 82 19 (some 95)) 82 20 (some 96)) 82 21 (some 97)) 82 22 (some 98)) 82 23 (some 99)) 82 24 (some 100)) 82 25 (some 101)) 82 26 (some 102)) 82 27 (some 103)) 173 [(0, .ref 82)] [.ref 104, .ref 82]
  refine g_putF (v := 104) (w := (105, 22, 639)) (a := 82) (k := 28) (pc := 173) O cls8 fl_X8_73 dX8_init_173 rfl (ltb rfl) (leb rfl) (ltb rfl) rfl rfl rfl nm rfl (tyX8_ok 28 (ltb rfl)) rfl rfl ?_
  have z := zA_sR (a := 82) (k := 28) (v := (some 104)) z (ltb rfl)
  refine g_aloadn (pc := 176) O rfl dX8_init_176 ?_
  refine g_bipush (v := (I 8)) (pc := 177) O (by decide) dX8_init_177 ?_
  refine g_newI (n := 105) (cs := 22) (ss := 639) (N := 8) (pc := 179) O dX8_init_179 rfl (ltb rfl) z (leb rfl) ⟨leb rfl, leb rfl⟩ rfl ?_
  have z := zA_up (m := 106) z (leb rfl)
  show Gd (F0' g l X) _ (106, 23, 647) (sR (sR (sR (sR (sR (sR (sR (sR (sR (sR (sR (sR (sR (sR (sR (sR (sR (sR (sR (sR (sR (sR h 82 0 (some 83)) 82 7 (some 84)) 82 8 (some 85)) 82 9 (some 86)) 82 10 (some 87)) 82 11 (some 88)) 82 12 (some 89)) 82 13 (some 90)) 82 14 (some 91)) 82 15 (some 92)) 82 16 (some 93)) 82 18 (some 94)) 82 19 (some 95)) 82 20 (some 96)) 82 21 (some 97)) 82 22 (some 98)) 82 23 (some 99)) 82 24 (some 100)) 82 25 (some 101)) 82 26 (some 102)) 82 27 (some 103)) 82 28 (some 104)) 181 [(0, .ref 82)] [.ref 105, .ref 82]
  refine g_putF (v := 105) (w := (106, 23, 647)) (a := 82) (k := 29) (pc := 181) O cls8 fl_X8_76 dX8_init_181 rfl (ltb rfl) (leb rfl) (ltb rfl) rfl rfl rfl nm rfl (tyX8_ok 29 (ltb rfl)) rfl rfl ?_
  have z := zA_sR (a := 82) (k := 29) (v := (some 105)) z (ltb rfl)
  refine g_aloadn (pc := 184) O rfl dX8_init_184 ?_
  refine g_bipush (v := (I 80)) (pc := 185) O (by decide) dX8_init_185 ?_
  refine g_newI (n := 106) (cs := 23) (ss := 647) (N := 80) (pc := 187) O dX8_init_187 rfl (ltb rfl) z (leb rfl) ⟨leb rfl, leb rfl⟩ rfl ?_
  have z := zA_up (m := 107) z (leb rfl)
  show Gd (F0' g l X) _ (107, 24, 727) (sR (sR (sR (sR (sR (sR (sR (sR (sR (sR (sR (sR (sR (sR (sR (sR (sR (sR (sR (sR (sR (sR (sR h 82 0 (some 83)) 82 7 (some 84)) 82 8 (some 85)) 82 9 (some 86)) 82 10 (some 87)) 82 11 (some 88)) 82 12 (some 89)) 82 13 (some 90)) 82 14 (some 91)) 82 15 (some 92)) 82 16 (some 93)) 82 18 (some 94)) 82 19 (some 95)) 82 20 (some 96)) 82 21 (some 97)) 82 22 (some 98)) 82 23 (some 99)) 82 24 (some 100)) 82 25 (some 101)) 82 26 (some 102)) 82 27 (some 103)) 82 28 (some 104)) 82 29 (some 105)) 189 [(0, .ref 82)] [.ref 106, .ref 82]
  refine g_putF (v := 106) (w := (107, 24, 727)) (a := 82) (k := 30) (pc := 189) O cls8 fl_X8_79 dX8_init_189 rfl (ltb rfl) (leb rfl) (ltb rfl) rfl rfl rfl nm rfl (tyX8_ok 30 (ltb rfl)) rfl rfl ?_
  have z := zA_sR (a := 82) (k := 30) (v := (some 106)) z (ltb rfl)
  refine g_aloadn (pc := 192) O rfl dX8_init_192 ?_
  refine g_bipush (v := (I 80)) (pc := 193) O (by decide) dX8_init_193 ?_
  refine g_newI (n := 107) (cs := 24) (ss := 727) (N := 80) (pc := 195) O dX8_init_195 rfl (ltb rfl) z (leb rfl) ⟨leb rfl, leb rfl⟩ rfl ?_
  have z := zA_up (m := 108) z (leb rfl)
  show Gd (F0' g l X) _ (108, 25, 807) (sR (sR (sR (sR (sR (sR (sR (sR (sR (sR (sR (sR (sR (sR (sR (sR (sR (sR (sR (sR (sR (sR (sR (sR h 82 0 (some 83)) 82 7 (some 84)) 82 8 (some 85)) 82 9 (some 86)) 82 10 (some 87)) 82 11 (some 88)) 82 12 (some 89)) 82 13 (some 90)) 82 14 (some 91)) 82 15 (some 92)) 82 16 (some 93)) 82 18 (some 94)) 82 19 (some 95)) 82 20 (some 96)) 82 21 (some 97)) 82 22 (some 98)) 82 23 (some 99)) 82 24 (some 100)) 82 25 (some 101)) 82 26 (some 102)) 82 27 (some 103)) 82 28 (some 104)) 82 29 (some 105)) 82 30 (some 106)) 197 [(0, .ref 82)] [.ref 107, .ref 82]
  refine g_putF (v := 107) (w := (108, 25, 807)) (a := 82) (k := 31) (pc := 197) O cls8 fl_X8_82 dX8_init_197 rfl (ltb rfl) (leb rfl) (ltb rfl) rfl rfl rfl nm rfl (tyX8_ok 31 (ltb rfl)) rfl rfl ?_
  have z := zA_sR (a := 82) (k := 31) (v := (some 107)) z (ltb rfl)
  refine g_aloadn (pc := 200) O rfl dX8_init_200 ?_
  refine g_bipush (v := (I 121)) (pc := 201) O (by decide) dX8_init_201 ?_
  refine g_newI (n := 108) (cs := 25) (ss := 807) (N := 121) (pc := 203) O dX8_init_203 rfl (ltb rfl) z (leb rfl) ⟨leb rfl, leb rfl⟩ rfl ?_
  have z := zA_up (m := 109) z (leb rfl)
  show Gd (F0' g l X) _ (109, 26, 928) (sR (sR (sR (sR (sR (sR (sR (sR (sR (sR (sR (sR (sR (sR (sR (sR (sR (sR (sR (sR (sR (sR (sR (sR (sR h 82 0 (some 83)) 82 7 (some 84)) 82 8 (some 85)) 82 9 (some 86)) 82 10 (some 87)) 82 11 (some 88)) 82 12 (some 89)) 82 13 (some 90)) 82 14 (some 91)) 82 15 (some 92)) 82 16 (some 93)) 82 18 (some 94)) 82 19 (some 95)) 82 20 (some 96)) 82 21 (some 97)) 82 22 (some 98)) 82 23 (some 99)) 82 24 (some 100)) 82 25 (some 101)) 82 26 (some 102)) 82 27 (some 103)) 82 28 (some 104)) 82 29 (some 105)) 82 30 (some 106)) 82 31 (some 107)) 205 [(0, .ref 82)] [.ref 108, .ref 82]
  refine g_putF (v := 108) (w := (109, 26, 928)) (a := 82) (k := 33) (pc := 205) O cls8 fl_X8_85 dX8_init_205 rfl (ltb rfl) (leb rfl) (ltb rfl) rfl rfl rfl nm rfl (tyX8_ok 33 (ltb rfl)) rfl rfl ?_
  have z := zA_sR (a := 82) (k := 33) (v := (some 108)) z (ltb rfl)
  refine g_aloadn (pc := 208) O rfl dX8_init_208 ?_
  refine g_bipush (v := (I 121)) (pc := 209) O (by decide) dX8_init_209 ?_
  refine g_newL (n := 109) (cs := 26) (ss := 928) (N := 121) (pc := 211) O dX8_init_211 rfl (ltb rfl) z (leb rfl) ⟨leb rfl, leb rfl⟩ rfl ?_
  have z := zA_up (m := 110) z (leb rfl)
  show Gd (F0' g l X) _ (110, 27, 1049) (sR (sR (sR (sR (sR (sR (sR (sR (sR (sR (sR (sR (sR (sR (sR (sR (sR (sR (sR (sR (sR (sR (sR (sR (sR (sR h 82 0 (some 83)) 82 7 (some 84)) 82 8 (some 85)) 82 9 (some 86)) 82 10 (some 87)) 82 11 (some 88)) 82 12 (some 89)) 82 13 (some 90)) 82 14 (some 91)) 82 15 (some 92)) 82 16 (some 93)) 82 18 (some 94)) 82 19 (some 95)) 82 20 (some 96)) 82 21 (some 97)) 82 22 (some 98)) 82 23 (some 99)) 82 24 (some 100)) 82 25 (some 101)) 82 26 (some 102)) 82 27 (some 103)) 82 28 (some 104)) 82 29 (some 105)) 82 30 (some 106)) 82 31 (some 107)) 82 33 (some 108)) 213 [(0, .ref 82)] [.ref 109, .ref 82]
  refine g_putF (v := 109) (w := (110, 27, 1049)) (a := 82) (k := 34) (pc := 213) O cls8 fl_X8_88 dX8_init_213 rfl (ltb rfl) (leb rfl) (ltb rfl) rfl rfl rfl nm rfl (tyX8_ok 34 (ltb rfl)) rfl rfl ?_
  have z := zA_sR (a := 82) (k := 34) (v := (some 109)) z (ltb rfl)
  refine g_aloadn (pc := 216) O rfl dX8_init_216 ?_
  refine g_sipush (v := (I 14641)) (pc := 217) O (by decide) dX8_init_217 ?_
  refine g_newI (n := 110) (cs := 27) (ss := 1049) (N := 14641) (pc := 220) O dX8_init_220 rfl (ltb rfl) z (leb rfl) ⟨leb rfl, leb rfl⟩ rfl ?_
  have z := zA_up (m := 111) z (leb rfl)
  show Gd (F0' g l X) _ (111, 28, 15690) (sR (sR (sR (sR (sR (sR (sR (sR (sR (sR (sR (sR (sR (sR (sR (sR (sR (sR (sR (sR (sR (sR (sR (sR (sR (sR (sR h 82 0 (some 83)) 82 7 (some 84)) 82 8 (some 85)) 82 9 (some 86)) 82 10 (some 87)) 82 11 (some 88)) 82 12 (some 89)) 82 13 (some 90)) 82 14 (some 91)) 82 15 (some 92)) 82 16 (some 93)) 82 18 (some 94)) 82 19 (some 95)) 82 20 (some 96)) 82 21 (some 97)) 82 22 (some 98)) 82 23 (some 99)) 82 24 (some 100)) 82 25 (some 101)) 82 26 (some 102)) 82 27 (some 103)) 82 28 (some 104)) 82 29 (some 105)) 82 30 (some 106)) 82 31 (some 107)) 82 33 (some 108)) 82 34 (some 109)) 222 [(0, .ref 82)] [.ref 110, .ref 82]
  refine g_putF (v := 110) (w := (111, 28, 15690)) (a := 82) (k := 35) (pc := 222) O cls8 fl_X8_92 dX8_init_222 rfl (ltb rfl) (leb rfl) (ltb rfl) rfl rfl rfl nm rfl (tyX8_ok 35 (ltb rfl)) rfl rfl ?_
  have z := zA_sR (a := 82) (k := 35) (v := (some 110)) z (ltb rfl)
  refine g_aloadn (pc := 225) O rfl dX8_init_225 ?_
  refine g_iconst (v := (I 4)) (pc := 226) O rfl dX8_init_226 ?_
  refine g_newI (n := 111) (cs := 28) (ss := 15690) (N := 4) (pc := 227) O dX8_init_227 rfl (ltb rfl) z (leb rfl) ⟨leb rfl, leb rfl⟩ rfl ?_
  have z := zA_up (m := 112) z (leb rfl)
  show Gd (F0' g l X) _ (112, 29, 15694) (sR (sR (sR (sR (sR (sR (sR (sR (sR (sR (sR (sR (sR (sR (sR (sR (sR (sR (sR (sR (sR (sR (sR (sR (sR (sR (sR (sR h 82 0 (some 83)) 82 7 (some 84)) 82 8 (some 85)) 82 9 (some 86)) 82 10 (some 87)) 82 11 (some 88)) 82 12 (some 89)) 82 13 (some 90)) 82 14 (some 91)) 82 15 (some 92)) 82 16 (some 93)) 82 18 (some 94)) 82 19 (some 95)) 82 20 (some 96)) 82 21 (some 97)) 82 22 (some 98)) 82 23 (some 99)) 82 24 (some 100)) 82 25 (some 101)) 82 26 (some 102)) 82 27 (some 103)) 82 28 (some 104)) 82 29 (some 105)) 82 30 (some 106)) 82 31 (some 107)) 82 33 (some 108)) 82 34 (some 109)) 82 35 (some 110)) 229 [(0, .ref 82)] [.ref 111, .ref 82]
  refine g_putF (v := 111) (w := (112, 29, 15694)) (a := 82) (k := 36) (pc := 229) O cls8 fl_X8_95 dX8_init_229 rfl (ltb rfl) (leb rfl) (ltb rfl) rfl rfl rfl nm rfl (tyX8_ok 36 (ltb rfl)) rfl rfl ?_
  have z := zA_sR (a := 82) (k := 36) (v := (some 111)) z (ltb rfl)
  refine g_aloadn (pc := 232) O rfl dX8_init_232 ?_
  refine g_iconst (v := (I 4)) (pc := 233) O rfl dX8_init_233 ?_
  refine g_newI (n := 112) (cs := 29) (ss := 15694) (N := 4) (pc := 234) O dX8_init_234 rfl (ltb rfl) z (leb rfl) ⟨leb rfl, leb rfl⟩ rfl ?_
  have z := zA_up (m := 113) z (leb rfl)
  show Gd (F0' g l X) _ (113, 30, 15698) (sR (sR (sR (sR (sR (sR (sR (sR (sR (sR (sR (sR (sR (sR (sR (sR (sR (sR (sR (sR (sR (sR (sR (sR (sR (sR (sR (sR (sR h 82 0 (some 83)) 82 7 (some 84)) 82 8 (some 85)) 82 9 (some 86)) 82 10 (some 87)) 82 11 (some 88)) 82 12 (some 89)) 82 13 (some 90)) 82 14 (some 91)) 82 15 (some 92)) 82 16 (some 93)) 82 18 (some 94)) 82 19 (some 95)) 82 20 (some 96)) 82 21 (some 97)) 82 22 (some 98)) 82 23 (some 99)) 82 24 (some 100)) 82 25 (some 101)) 82 26 (some 102)) 82 27 (some 103)) 82 28 (some 104)) 82 29 (some 105)) 82 30 (some 106)) 82 31 (some 107)) 82 33 (some 108)) 82 34 (some 109)) 82 35 (some 110)) 82 36 (some 111)) 236 [(0, .ref 82)] [.ref 112, .ref 82]
  refine g_putF (v := 112) (w := (113, 30, 15698)) (a := 82) (k := 37) (pc := 236) O cls8 fl_X8_98 dX8_init_236 rfl (ltb rfl) (leb rfl) (ltb rfl) rfl rfl rfl nm rfl (tyX8_ok 37 (ltb rfl)) rfl rfl ?_
  have z := zA_sR (a := 82) (k := 37) (v := (some 112)) z (ltb rfl)
  refine g_aloadn (pc := 239) O rfl dX8_init_239 ?_
  refine g_bipush (v := (I 40)) (pc := 240) O (by decide) dX8_init_240 ?_
  refine g_newI (n := 113) (cs := 30) (ss := 15698) (N := 40) (pc := 242) O dX8_init_242 rfl (ltb rfl) z (leb rfl) ⟨leb rfl, leb rfl⟩ rfl ?_
  have z := zA_up (m := 114) z (leb rfl)
  show Gd (F0' g l X) _ (114, 31, 15738) (sR (sR (sR (sR (sR (sR (sR (sR (sR (sR (sR (sR (sR (sR (sR (sR (sR (sR (sR (sR (sR (sR (sR (sR (sR (sR (sR (sR (sR (sR h 82 0 (some 83)) 82 7 (some 84)) 82 8 (some 85)) 82 9 (some 86)) 82 10 (some 87)) 82 11 (some 88)) 82 12 (some 89)) 82 13 (some 90)) 82 14 (some 91)) 82 15 (some 92)) 82 16 (some 93)) 82 18 (some 94)) 82 19 (some 95)) 82 20 (some 96)) 82 21 (some 97)) 82 22 (some 98)) 82 23 (some 99)) 82 24 (some 100)) 82 25 (some 101)) 82 26 (some 102)) 82 27 (some 103)) 82 28 (some 104)) 82 29 (some 105)) 82 30 (some 106)) 82 31 (some 107)) 82 33 (some 108)) 82 34 (some 109)) 82 35 (some 110)) 82 36 (some 111)) 82 37 (some 112)) 244 [(0, .ref 82)] [.ref 113, .ref 82]
  refine g_putF (v := 113) (w := (114, 31, 15738)) (a := 82) (k := 39) (pc := 244) O cls8 fl_X8_101 dX8_init_244 rfl (ltb rfl) (leb rfl) (ltb rfl) rfl rfl rfl nm rfl (tyX8_ok 39 (ltb rfl)) rfl rfl ?_
  have z := zA_sR (a := 82) (k := 39) (v := (some 113)) z (ltb rfl)
  refine g_aloadn (pc := 247) O rfl dX8_init_247 ?_
  refine g_bipush (v := (I 40)) (pc := 248) O (by decide) dX8_init_248 ?_
  refine g_newI (n := 114) (cs := 31) (ss := 15738) (N := 40) (pc := 250) O dX8_init_250 rfl (ltb rfl) z (leb rfl) ⟨leb rfl, leb rfl⟩ rfl ?_
  have z := zA_up (m := 115) z (leb rfl)
  show Gd (F0' g l X) _ (115, 32, 15778) (sR (sR (sR (sR (sR (sR (sR (sR (sR (sR (sR (sR (sR (sR (sR (sR (sR (sR (sR (sR (sR (sR (sR (sR (sR (sR (sR (sR (sR (sR (sR h 82 0 (some 83)) 82 7 (some 84)) 82 8 (some 85)) 82 9 (some 86)) 82 10 (some 87)) 82 11 (some 88)) 82 12 (some 89)) 82 13 (some 90)) 82 14 (some 91)) 82 15 (some 92)) 82 16 (some 93)) 82 18 (some 94)) 82 19 (some 95)) 82 20 (some 96)) 82 21 (some 97)) 82 22 (some 98)) 82 23 (some 99)) 82 24 (some 100)) 82 25 (some 101)) 82 26 (some 102)) 82 27 (some 103)) 82 28 (some 104)) 82 29 (some 105)) 82 30 (some 106)) 82 31 (some 107)) 82 33 (some 108)) 82 34 (some 109)) 82 35 (some 110)) 82 36 (some 111)) 82 37 (some 112)) 82 39 (some 113)) 252 [(0, .ref 82)] [.ref 114, .ref 82]
  refine g_putF (v := 114) (w := (115, 32, 15778)) (a := 82) (k := 40) (pc := 252) O cls8 fl_X8_104 dX8_init_252 rfl (ltb rfl) (leb rfl) (ltb rfl) rfl rfl rfl nm rfl (tyX8_ok 40 (ltb rfl)) rfl rfl ?_
  have z := zA_sR (a := 82) (k := 40) (v := (some 114)) z (ltb rfl)
  refine g_aloadn (pc := 255) O rfl dX8_init_255 ?_
  refine g_bipush (v := (I 40)) (pc := 256) O (by decide) dX8_init_256 ?_
  refine g_newI (n := 115) (cs := 32) (ss := 15778) (N := 40) (pc := 258) O dX8_init_258 rfl (ltb rfl) z (leb rfl) ⟨leb rfl, leb rfl⟩ rfl ?_
  have z := zA_up (m := 116) z (leb rfl)
  show Gd (F0' g l X) _ (116, 33, 15818) (sR (sR (sR (sR (sR (sR (sR (sR (sR (sR (sR (sR (sR (sR (sR (sR (sR (sR (sR (sR (sR (sR (sR (sR (sR (sR (sR (sR (sR (sR (sR (sR h 82 0 (some 83)) 82 7 (some 84)) 82 8 (some 85)) 82 9 (some 86)) 82 10 (some 87)) 82 11 (some 88)) 82 12 (some 89)) 82 13 (some 90)) 82 14 (some 91)) 82 15 (some 92)) 82 16 (some 93)) 82 18 (some 94)) 82 19 (some 95)) 82 20 (some 96)) 82 21 (some 97)) 82 22 (some 98)) 82 23 (some 99)) 82 24 (some 100)) 82 25 (some 101)) 82 26 (some 102)) 82 27 (some 103)) 82 28 (some 104)) 82 29 (some 105)) 82 30 (some 106)) 82 31 (some 107)) 82 33 (some 108)) 82 34 (some 109)) 82 35 (some 110)) 82 36 (some 111)) 82 37 (some 112)) 82 39 (some 113)) 82 40 (some 114)) 260 [(0, .ref 82)] [.ref 115, .ref 82]
  refine g_putF (v := 115) (w := (116, 33, 15818)) (a := 82) (k := 42) (pc := 260) O cls8 fl_X8_107 dX8_init_260 rfl (ltb rfl) (leb rfl) (ltb rfl) rfl rfl rfl nm rfl (tyX8_ok 42 (ltb rfl)) rfl rfl ?_
  have z := zA_sR (a := 82) (k := 42) (v := (some 115)) z (ltb rfl)
  refine g_aloadn (pc := 263) O rfl dX8_init_263 ?_
  refine g_bipush (v := (I 40)) (pc := 264) O (by decide) dX8_init_264 ?_
  refine g_newI (n := 116) (cs := 33) (ss := 15818) (N := 40) (pc := 266) O dX8_init_266 rfl (ltb rfl) z (leb rfl) ⟨leb rfl, leb rfl⟩ rfl ?_
  have z := zA_up (m := 117) z (leb rfl)
  show Gd (F0' g l X) _ (117, 34, 15858) (sR (sR (sR (sR (sR (sR (sR (sR (sR (sR (sR (sR (sR (sR (sR (sR (sR (sR (sR (sR (sR (sR (sR (sR (sR (sR (sR (sR (sR (sR (sR (sR (sR h 82 0 (some 83)) 82 7 (some 84)) 82 8 (some 85)) 82 9 (some 86)) 82 10 (some 87)) 82 11 (some 88)) 82 12 (some 89)) 82 13 (some 90)) 82 14 (some 91)) 82 15 (some 92)) 82 16 (some 93)) 82 18 (some 94)) 82 19 (some 95)) 82 20 (some 96)) 82 21 (some 97)) 82 22 (some 98)) 82 23 (some 99)) 82 24 (some 100)) 82 25 (some 101)) 82 26 (some 102)) 82 27 (some 103)) 82 28 (some 104)) 82 29 (some 105)) 82 30 (some 106)) 82 31 (some 107)) 82 33 (some 108)) 82 34 (some 109)) 82 35 (some 110)) 82 36 (some 111)) 82 37 (some 112)) 82 39 (some 113)) 82 40 (some 114)) 82 42 (some 115)) 268 [(0, .ref 82)] [.ref 116, .ref 82]
  refine g_putF (v := 116) (w := (117, 34, 15858)) (a := 82) (k := 43) (pc := 268) O cls8 fl_X8_110 dX8_init_268 rfl (ltb rfl) (leb rfl) (ltb rfl) rfl rfl rfl nm rfl (tyX8_ok 43 (ltb rfl)) rfl rfl ?_
  have z := zA_sR (a := 82) (k := 43) (v := (some 116)) z (ltb rfl)
  refine g_aloadn (pc := 271) O rfl dX8_init_271 ?_
  refine g_sipush (v := (I 369)) (pc := 272) O (by decide) dX8_init_272 ?_
  refine g_newI (n := 117) (cs := 34) (ss := 15858) (N := 369) (pc := 275) O dX8_init_275 rfl (ltb rfl) z (leb rfl) ⟨leb rfl, leb rfl⟩ rfl ?_
  have z := zA_up (m := 118) z (leb rfl)
  show Gd (F0' g l X) _ (118, 35, 16227) (sR (sR (sR (sR (sR (sR (sR (sR (sR (sR (sR (sR (sR (sR (sR (sR (sR (sR (sR (sR (sR (sR (sR (sR (sR (sR (sR (sR (sR (sR (sR (sR (sR (sR h 82 0 (some 83)) 82 7 (some 84)) 82 8 (some 85)) 82 9 (some 86)) 82 10 (some 87)) 82 11 (some 88)) 82 12 (some 89)) 82 13 (some 90)) 82 14 (some 91)) 82 15 (some 92)) 82 16 (some 93)) 82 18 (some 94)) 82 19 (some 95)) 82 20 (some 96)) 82 21 (some 97)) 82 22 (some 98)) 82 23 (some 99)) 82 24 (some 100)) 82 25 (some 101)) 82 26 (some 102)) 82 27 (some 103)) 82 28 (some 104)) 82 29 (some 105)) 82 30 (some 106)) 82 31 (some 107)) 82 33 (some 108)) 82 34 (some 109)) 82 35 (some 110)) 82 36 (some 111)) 82 37 (some 112)) 82 39 (some 113)) 82 40 (some 114)) 82 42 (some 115)) 82 43 (some 116)) 277 [(0, .ref 82)] [.ref 117, .ref 82]
  refine g_putF (v := 117) (w := (118, 35, 16227)) (a := 82) (k := 45) (pc := 277) O cls8 fl_X8_113 dX8_init_277 rfl (ltb rfl) (leb rfl) (ltb rfl) rfl rfl rfl nm rfl (tyX8_ok 45 (ltb rfl)) rfl rfl ?_
  have z := zA_sR (a := 82) (k := 45) (v := (some 117)) z (ltb rfl)
  refine g_aloadn (pc := 280) O rfl dX8_init_280 ?_
  refine g_getR (w := (118, 35, 16227)) (a := 82) (k := 25) (b := 101) (pc := 281) O cls8 fl_X8_64 dX8_init_281 rfl (ltb rfl) (ltb rfl) rfl rfl rfl ?_
  refine g_iconst (v := (I 0)) (pc := 284) O rfl dX8_init_284 ?_
  refine g_bipush (v := (I 10)) (pc := 285) O (by decide) dX8_init_285 ?_
  refine g_iast (w := (118, 35, 16227)) (a := 101) (j := 0) (n := 5) (pc := 287) O dX8_init_287 rfl rfl (ltb rfl) (leb rfl) (ltb rfl) (ltb rfl) ?_
  have z := zA_sI (a := 101) (k := 0) (v := (I 10)) z (ltb rfl)
  refine g_aloadn (pc := 288) O rfl dX8_init_288 ?_
  refine g_getR (w := (118, 35, 16227)) (a := 82) (k := 25) (b := 101) (pc := 289) O cls8 fl_X8_64 dX8_init_289 rfl (ltb rfl) (ltb rfl) rfl rfl rfl ?_
  refine g_iconst (v := (I 1)) (pc := 292) O rfl dX8_init_292 ?_
  refine g_iconst (v := (I 1)) (pc := 293) O rfl dX8_init_293 ?_
  refine g_iast (w := (118, 35, 16227)) (a := 101) (j := 1) (n := 5) (pc := 294) O dX8_init_294 rfl rfl (ltb rfl) (leb rfl) (ltb rfl) (ltb rfl) ?_
  have z := zA_sI (a := 101) (k := 1) (v := (I 1)) z (ltb rfl)
  refine g_aloadn (pc := 295) O rfl dX8_init_295 ?_
  refine g_getR (w := (118, 35, 16227)) (a := 82) (k := 25) (b := 101) (pc := 296) O cls8 fl_X8_64 dX8_init_296 rfl (ltb rfl) (ltb rfl) rfl rfl rfl ?_
  refine g_iconst (v := (I 3)) (pc := 299) O rfl dX8_init_299 ?_
  refine g_iconst (v := (I 2)) (pc := 300) O rfl dX8_init_300 ?_
  refine g_iast (w := (118, 35, 16227)) (a := 101) (j := 3) (n := 5) (pc := 301) O dX8_init_301 rfl rfl (ltb rfl) (leb rfl) (ltb rfl) (ltb rfl) ?_
  have z := zA_sI (a := 101) (k := 3) (v := (I 2)) z (ltb rfl)
  refine g_aloadn (pc := 302) O rfl dX8_init_302 ?_
  refine g_getR (w := (118, 35, 16227)) (a := 82) (k := 25) (b := 101) (pc := 303) O cls8 fl_X8_64 dX8_init_303 rfl (ltb rfl) (ltb rfl) rfl rfl rfl ?_
  refine g_iconst (v := (I 4)) (pc := 306) O rfl dX8_init_306 ?_
  refine g_iconst (v := (I 3)) (pc := 307) O rfl dX8_init_307 ?_
  refine g_iast (w := (118, 35, 16227)) (a := 101) (j := 4) (n := 5) (pc := 308) O dX8_init_308 rfl rfl (ltb rfl) (leb rfl) (ltb rfl) (ltb rfl) ?_
  have z := zA_sI (a := 101) (k := 4) (v := (I 3)) z (ltb rfl)
  refine g_iconst (v := (I 0)) (pc := 309) O rfl dX8_init_309 ?_
  refine g_istoren (lv' := [(0, .ref 82), (1, .int (I 0))]) (pc := 310) O dX8_init_310 rfl (ltb rfl) rfl ?_
  refine g_iloadn (pc := 311) O rfl dX8_init_311 ?_
  refine g_bipush (v := (I 12)) (pc := 312) O (by decide) dX8_init_312 ?_
  refine g_icmp_ge (tgt := 332) (pc := 314) O dX8_init_314 rfl (fun q => absurd q (by decide)) (fun _ => ?_)
  refine g_aloadn (pc := 317) O rfl dX8_init_317 ?_
  refine g_getR (w := (118, 35, 16227)) (a := 82) (k := 15) (b := 92) (pc := 318) O cls8 fl_X8_37 dX8_init_318 rfl (ltb rfl) (ltb rfl) rfl rfl rfl ?_
  refine g_iloadn (pc := 321) O rfl dX8_init_321 ?_
  refine g_sipush (v := (I 999)) (pc := 322) O (by decide) dX8_init_322 ?_
  refine g_iast (w := (118, 35, 16227)) (a := 92) (j := 0) (n := 12) (pc := 325) O dX8_init_325 rfl rfl (ltb rfl) (leb rfl) (ltb rfl) (ltb rfl) ?_
  have z := zA_sI (a := 92) (k := 0) (v := (I 999)) z (ltb rfl)
  refine g_iinc (v := (I 1)) (lv' := [(0, .ref 82), (1, .int (I 1))]) (pc := 326) O dX8_init_326 rfl (by decide) (ltb rfl) rfl ?_
  refine g_goto (tgt := 311) (pc := 329) O dX8_init_329 rfl ?_
  refine g_iloadn (pc := 311) O rfl dX8_init_311 ?_
  refine g_bipush (v := (I 12)) (pc := 312) O (by decide) dX8_init_312 ?_
  refine g_icmp_ge (tgt := 332) (pc := 314) O dX8_init_314 rfl (fun q => absurd q (by decide)) (fun _ => ?_)
  refine g_aloadn (pc := 317) O rfl dX8_init_317 ?_
  refine g_getR (w := (118, 35, 16227)) (a := 82) (k := 15) (b := 92) (pc := 318) O cls8 fl_X8_37 dX8_init_318 rfl (ltb rfl) (ltb rfl) rfl rfl rfl ?_
  refine g_iloadn (pc := 321) O rfl dX8_init_321 ?_
  refine g_sipush (v := (I 999)) (pc := 322) O (by decide) dX8_init_322 ?_
  refine g_iast (w := (118, 35, 16227)) (a := 92) (j := 1) (n := 12) (pc := 325) O dX8_init_325 rfl rfl (ltb rfl) (leb rfl) (ltb rfl) (ltb rfl) ?_
  have z := zA_sI (a := 92) (k := 1) (v := (I 999)) z (ltb rfl)
  refine g_iinc (v := (I 2)) (lv' := [(0, .ref 82), (1, .int (I 2))]) (pc := 326) O dX8_init_326 rfl (by decide) (ltb rfl) rfl ?_
  refine g_goto (tgt := 311) (pc := 329) O dX8_init_329 rfl ?_
  refine g_iloadn (pc := 311) O rfl dX8_init_311 ?_
  refine g_bipush (v := (I 12)) (pc := 312) O (by decide) dX8_init_312 ?_
  refine g_icmp_ge (tgt := 332) (pc := 314) O dX8_init_314 rfl (fun q => absurd q (by decide)) (fun _ => ?_)
  refine g_aloadn (pc := 317) O rfl dX8_init_317 ?_
  refine g_getR (w := (118, 35, 16227)) (a := 82) (k := 15) (b := 92) (pc := 318) O cls8 fl_X8_37 dX8_init_318 rfl (ltb rfl) (ltb rfl) rfl rfl rfl ?_
  refine g_iloadn (pc := 321) O rfl dX8_init_321 ?_
  refine g_sipush (v := (I 999)) (pc := 322) O (by decide) dX8_init_322 ?_
  refine g_iast (w := (118, 35, 16227)) (a := 92) (j := 2) (n := 12) (pc := 325) O dX8_init_325 rfl rfl (ltb rfl) (leb rfl) (ltb rfl) (ltb rfl) ?_
  have z := zA_sI (a := 92) (k := 2) (v := (I 999)) z (ltb rfl)
  refine g_iinc (v := (I 3)) (lv' := [(0, .ref 82), (1, .int (I 3))]) (pc := 326) O dX8_init_326 rfl (by decide) (ltb rfl) rfl ?_
  refine g_goto (tgt := 311) (pc := 329) O dX8_init_329 rfl ?_
  refine g_iloadn (pc := 311) O rfl dX8_init_311 ?_
  refine g_bipush (v := (I 12)) (pc := 312) O (by decide) dX8_init_312 ?_
  refine g_icmp_ge (tgt := 332) (pc := 314) O dX8_init_314 rfl (fun q => absurd q (by decide)) (fun _ => ?_)
  refine g_aloadn (pc := 317) O rfl dX8_init_317 ?_
  refine g_getR (w := (118, 35, 16227)) (a := 82) (k := 15) (b := 92) (pc := 318) O cls8 fl_X8_37 dX8_init_318 rfl (ltb rfl) (ltb rfl) rfl rfl rfl ?_
  refine g_iloadn (pc := 321) O rfl dX8_init_321 ?_
  refine g_sipush (v := (I 999)) (pc := 322) O (by decide) dX8_init_322 ?_
  refine g_iast (w := (118, 35, 16227)) (a := 92) (j := 3) (n := 12) (pc := 325) O dX8_init_325 rfl rfl (ltb rfl) (leb rfl) (ltb rfl) (ltb rfl) ?_
  have z := zA_sI (a := 92) (k := 3) (v := (I 999)) z (ltb rfl)
  refine g_iinc (v := (I 4)) (lv' := [(0, .ref 82), (1, .int (I 4))]) (pc := 326) O dX8_init_326 rfl (by decide) (ltb rfl) rfl ?_
  refine g_goto (tgt := 311) (pc := 329) O dX8_init_329 rfl ?_
  refine g_iloadn (pc := 311) O rfl dX8_init_311 ?_
  refine g_bipush (v := (I 12)) (pc := 312) O (by decide) dX8_init_312 ?_
  refine g_icmp_ge (tgt := 332) (pc := 314) O dX8_init_314 rfl (fun q => absurd q (by decide)) (fun _ => ?_)
  refine g_aloadn (pc := 317) O rfl dX8_init_317 ?_
  refine g_getR (w := (118, 35, 16227)) (a := 82) (k := 15) (b := 92) (pc := 318) O cls8 fl_X8_37 dX8_init_318 rfl (ltb rfl) (ltb rfl) rfl rfl rfl ?_
  refine g_iloadn (pc := 321) O rfl dX8_init_321 ?_
  refine g_sipush (v := (I 999)) (pc := 322) O (by decide) dX8_init_322 ?_
  refine g_iast (w := (118, 35, 16227)) (a := 92) (j := 4) (n := 12) (pc := 325) O dX8_init_325 rfl rfl (ltb rfl) (leb rfl) (ltb rfl) (ltb rfl) ?_
  have z := zA_sI (a := 92) (k := 4) (v := (I 999)) z (ltb rfl)
  refine g_iinc (v := (I 5)) (lv' := [(0, .ref 82), (1, .int (I 5))]) (pc := 326) O dX8_init_326 rfl (by decide) (ltb rfl) rfl ?_
  refine g_goto (tgt := 311) (pc := 329) O dX8_init_329 rfl ?_
  refine g_iloadn (pc := 311) O rfl dX8_init_311 ?_
  refine g_bipush (v := (I 12)) (pc := 312) O (by decide) dX8_init_312 ?_
  refine g_icmp_ge (tgt := 332) (pc := 314) O dX8_init_314 rfl (fun q => absurd q (by decide)) (fun _ => ?_)
  refine g_aloadn (pc := 317) O rfl dX8_init_317 ?_
  refine g_getR (w := (118, 35, 16227)) (a := 82) (k := 15) (b := 92) (pc := 318) O cls8 fl_X8_37 dX8_init_318 rfl (ltb rfl) (ltb rfl) rfl rfl rfl ?_
  refine g_iloadn (pc := 321) O rfl dX8_init_321 ?_
  refine g_sipush (v := (I 999)) (pc := 322) O (by decide) dX8_init_322 ?_
  refine g_iast (w := (118, 35, 16227)) (a := 92) (j := 5) (n := 12) (pc := 325) O dX8_init_325 rfl rfl (ltb rfl) (leb rfl) (ltb rfl) (ltb rfl) ?_
  have z := zA_sI (a := 92) (k := 5) (v := (I 999)) z (ltb rfl)
  refine g_iinc (v := (I 6)) (lv' := [(0, .ref 82), (1, .int (I 6))]) (pc := 326) O dX8_init_326 rfl (by decide) (ltb rfl) rfl ?_
  refine g_goto (tgt := 311) (pc := 329) O dX8_init_329 rfl ?_
  refine g_iloadn (pc := 311) O rfl dX8_init_311 ?_
  refine g_bipush (v := (I 12)) (pc := 312) O (by decide) dX8_init_312 ?_
  refine g_icmp_ge (tgt := 332) (pc := 314) O dX8_init_314 rfl (fun q => absurd q (by decide)) (fun _ => ?_)
  refine g_aloadn (pc := 317) O rfl dX8_init_317 ?_
  refine g_getR (w := (118, 35, 16227)) (a := 82) (k := 15) (b := 92) (pc := 318) O cls8 fl_X8_37 dX8_init_318 rfl (ltb rfl) (ltb rfl) rfl rfl rfl ?_
  refine g_iloadn (pc := 321) O rfl dX8_init_321 ?_
  refine g_sipush (v := (I 999)) (pc := 322) O (by decide) dX8_init_322 ?_
  refine g_iast (w := (118, 35, 16227)) (a := 92) (j := 6) (n := 12) (pc := 325) O dX8_init_325 rfl rfl (ltb rfl) (leb rfl) (ltb rfl) (ltb rfl) ?_
  have z := zA_sI (a := 92) (k := 6) (v := (I 999)) z (ltb rfl)
  refine g_iinc (v := (I 7)) (lv' := [(0, .ref 82), (1, .int (I 7))]) (pc := 326) O dX8_init_326 rfl (by decide) (ltb rfl) rfl ?_
  refine g_goto (tgt := 311) (pc := 329) O dX8_init_329 rfl ?_
  refine g_iloadn (pc := 311) O rfl dX8_init_311 ?_
  refine g_bipush (v := (I 12)) (pc := 312) O (by decide) dX8_init_312 ?_
  refine g_icmp_ge (tgt := 332) (pc := 314) O dX8_init_314 rfl (fun q => absurd q (by decide)) (fun _ => ?_)
  refine g_aloadn (pc := 317) O rfl dX8_init_317 ?_
  refine g_getR (w := (118, 35, 16227)) (a := 82) (k := 15) (b := 92) (pc := 318) O cls8 fl_X8_37 dX8_init_318 rfl (ltb rfl) (ltb rfl) rfl rfl rfl ?_
  refine g_iloadn (pc := 321) O rfl dX8_init_321 ?_
  refine g_sipush (v := (I 999)) (pc := 322) O (by decide) dX8_init_322 ?_
  refine g_iast (w := (118, 35, 16227)) (a := 92) (j := 7) (n := 12) (pc := 325) O dX8_init_325 rfl rfl (ltb rfl) (leb rfl) (ltb rfl) (ltb rfl) ?_
  have z := zA_sI (a := 92) (k := 7) (v := (I 999)) z (ltb rfl)
  refine g_iinc (v := (I 8)) (lv' := [(0, .ref 82), (1, .int (I 8))]) (pc := 326) O dX8_init_326 rfl (by decide) (ltb rfl) rfl ?_
  refine g_goto (tgt := 311) (pc := 329) O dX8_init_329 rfl ?_
  refine g_iloadn (pc := 311) O rfl dX8_init_311 ?_
  refine g_bipush (v := (I 12)) (pc := 312) O (by decide) dX8_init_312 ?_
  refine g_icmp_ge (tgt := 332) (pc := 314) O dX8_init_314 rfl (fun q => absurd q (by decide)) (fun _ => ?_)
  refine g_aloadn (pc := 317) O rfl dX8_init_317 ?_
  refine g_getR (w := (118, 35, 16227)) (a := 82) (k := 15) (b := 92) (pc := 318) O cls8 fl_X8_37 dX8_init_318 rfl (ltb rfl) (ltb rfl) rfl rfl rfl ?_
  refine g_iloadn (pc := 321) O rfl dX8_init_321 ?_
  refine g_sipush (v := (I 999)) (pc := 322) O (by decide) dX8_init_322 ?_
  refine g_iast (w := (118, 35, 16227)) (a := 92) (j := 8) (n := 12) (pc := 325) O dX8_init_325 rfl rfl (ltb rfl) (leb rfl) (ltb rfl) (ltb rfl) ?_
  have z := zA_sI (a := 92) (k := 8) (v := (I 999)) z (ltb rfl)
  refine g_iinc (v := (I 9)) (lv' := [(0, .ref 82), (1, .int (I 9))]) (pc := 326) O dX8_init_326 rfl (by decide) (ltb rfl) rfl ?_
  refine g_goto (tgt := 311) (pc := 329) O dX8_init_329 rfl ?_
  refine g_iloadn (pc := 311) O rfl dX8_init_311 ?_
  refine g_bipush (v := (I 12)) (pc := 312) O (by decide) dX8_init_312 ?_
  refine g_icmp_ge (tgt := 332) (pc := 314) O dX8_init_314 rfl (fun q => absurd q (by decide)) (fun _ => ?_)
  refine g_aloadn (pc := 317) O rfl dX8_init_317 ?_
  refine g_getR (w := (118, 35, 16227)) (a := 82) (k := 15) (b := 92) (pc := 318) O cls8 fl_X8_37 dX8_init_318 rfl (ltb rfl) (ltb rfl) rfl rfl rfl ?_
  refine g_iloadn (pc := 321) O rfl dX8_init_321 ?_
  refine g_sipush (v := (I 999)) (pc := 322) O (by decide) dX8_init_322 ?_
  refine g_iast (w := (118, 35, 16227)) (a := 92) (j := 9) (n := 12) (pc := 325) O dX8_init_325 rfl rfl (ltb rfl) (leb rfl) (ltb rfl) (ltb rfl) ?_
  have z := zA_sI (a := 92) (k := 9) (v := (I 999)) z (ltb rfl)
  refine g_iinc (v := (I 10)) (lv' := [(0, .ref 82), (1, .int (I 10))]) (pc := 326) O dX8_init_326 rfl (by decide) (ltb rfl) rfl ?_
  refine g_goto (tgt := 311) (pc := 329) O dX8_init_329 rfl ?_
  refine g_iloadn (pc := 311) O rfl dX8_init_311 ?_
  refine g_bipush (v := (I 12)) (pc := 312) O (by decide) dX8_init_312 ?_
  refine g_icmp_ge (tgt := 332) (pc := 314) O dX8_init_314 rfl (fun q => absurd q (by decide)) (fun _ => ?_)
  refine g_aloadn (pc := 317) O rfl dX8_init_317 ?_
  refine g_getR (w := (118, 35, 16227)) (a := 82) (k := 15) (b := 92) (pc := 318) O cls8 fl_X8_37 dX8_init_318 rfl (ltb rfl) (ltb rfl) rfl rfl rfl ?_
  refine g_iloadn (pc := 321) O rfl dX8_init_321 ?_
  refine g_sipush (v := (I 999)) (pc := 322) O (by decide) dX8_init_322 ?_
  refine g_iast (w := (118, 35, 16227)) (a := 92) (j := 10) (n := 12) (pc := 325) O dX8_init_325 rfl rfl (ltb rfl) (leb rfl) (ltb rfl) (ltb rfl) ?_
  have z := zA_sI (a := 92) (k := 10) (v := (I 999)) z (ltb rfl)
  refine g_iinc (v := (I 11)) (lv' := [(0, .ref 82), (1, .int (I 11))]) (pc := 326) O dX8_init_326 rfl (by decide) (ltb rfl) rfl ?_
  refine g_goto (tgt := 311) (pc := 329) O dX8_init_329 rfl ?_
  refine g_iloadn (pc := 311) O rfl dX8_init_311 ?_
  refine g_bipush (v := (I 12)) (pc := 312) O (by decide) dX8_init_312 ?_
  refine g_icmp_ge (tgt := 332) (pc := 314) O dX8_init_314 rfl (fun q => absurd q (by decide)) (fun _ => ?_)
  refine g_aloadn (pc := 317) O rfl dX8_init_317 ?_
  refine g_getR (w := (118, 35, 16227)) (a := 82) (k := 15) (b := 92) (pc := 318) O cls8 fl_X8_37 dX8_init_318 rfl (ltb rfl) (ltb rfl) rfl rfl rfl ?_
  refine g_iloadn (pc := 321) O rfl dX8_init_321 ?_
  refine g_sipush (v := (I 999)) (pc := 322) O (by decide) dX8_init_322 ?_
  refine g_iast (w := (118, 35, 16227)) (a := 92) (j := 11) (n := 12) (pc := 325) O dX8_init_325 rfl rfl (ltb rfl) (leb rfl) (ltb rfl) (ltb rfl) ?_
  have z := zA_sI (a := 92) (k := 11) (v := (I 999)) z (ltb rfl)
  refine g_iinc (v := (I 12)) (lv' := [(0, .ref 82), (1, .int (I 12))]) (pc := 326) O dX8_init_326 rfl (by decide) (ltb rfl) rfl ?_
  refine g_goto (tgt := 311) (pc := 329) O dX8_init_329 rfl ?_
  refine g_iloadn (pc := 311) O rfl dX8_init_311 ?_
  refine g_bipush (v := (I 12)) (pc := 312) O (by decide) dX8_init_312 ?_
  refine g_icmp_ge (tgt := 332) (pc := 314) O dX8_init_314 rfl (fun _ => ?_) (fun q => absurd (by decide) q)
  refine g_aloadn (pc := 332) O rfl dX8_init_332 ?_
  refine g_getR (w := (118, 35, 16227)) (a := 82) (k := 26) (b := 102) (pc := 333) O cls8 fl_X8_67 dX8_init_333 rfl (ltb rfl) (ltb rfl) rfl rfl rfl ?_
  refine g_iconst (v := (I 0)) (pc := 336) O rfl dX8_init_336 ?_
  refine g_iconst (v := (I (-1))) (pc := 337) O rfl dX8_init_337 ?_
  refine g_iast (w := (118, 35, 16227)) (a := 102) (j := 0) (n := 2) (pc := 338) O dX8_init_338 rfl rfl (ltb rfl) (leb rfl) (ltb rfl) (ltb rfl) ?_
  have z := zA_sI (a := 102) (k := 0) (v := (I (-1))) z (ltb rfl)
  refine g_aloadn (pc := 339) O rfl dX8_init_339 ?_
  refine g_getR (w := (118, 35, 16227)) (a := 82) (k := 26) (b := 102) (pc := 340) O cls8 fl_X8_67 dX8_init_340 rfl (ltb rfl) (ltb rfl) rfl rfl rfl ?_
  refine g_iconst (v := (I 1)) (pc := 343) O rfl dX8_init_343 ?_
  refine g_iconst (v := (I (-1))) (pc := 344) O rfl dX8_init_344 ?_
  refine g_iast (w := (118, 35, 16227)) (a := 102) (j := 1) (n := 2) (pc := 345) O dX8_init_345 rfl rfl (ltb rfl) (leb rfl) (ltb rfl) (ltb rfl) ?_
  have z := zA_sI (a := 102) (k := 1) (v := (I (-1))) z (ltb rfl)
  exact g_vret (w := (118, 35, 16227)) (pc := 346) O dX8_init_346 ⟨rfl, rfl⟩
