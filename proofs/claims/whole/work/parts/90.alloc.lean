/-! CONSTRUCTORS: cells are made in their order; a cell that isn't made yet holds nothing -/
def z0 (h : AH) (n : Nat) : Prop := (∀ k, h.1 n k = 0) ∧ (∀ k, h.2.1 n k = 0) ∧ ∀ k, h.2.2 n k = none
def zA (n : Nat) (h : AH) : Prop := ∀ a, n ≤ a → z0 h a
theorem zA_up {n m : Nat} {h : AH} (z : zA n h) (e : n ≤ m) : zA m h := fun a ha => z a (Nat.le_trans e ha)
theorem zA_sR {n a k : Nat} {v : Option Nat} {h : AH} (z : zA n h) (ha : a < n) : zA n (sR h a k v) := fun b hb => ⟨(z b hb).1, (z b hb).2.1, fun k => by rw [sR_o (by omega)]; exact (z b hb).2.2 k⟩
theorem zA_sI {n a k : Nat} {v : Int32} {h : AH} (z : zA n h) (ha : a < n) : zA n (sI h a k v) := fun b hb => ⟨fun k => by rw [sI_o (by omega)]; exact (z b hb).1 k, (z b hb).2.1, (z b hb).2.2⟩
/-- a row of ints filled -/
def flI (h : AH) (a n : Nat) (v : Int32) : AH := (up h.1 a (fun k => if k < n then v else h.1 a k), h.2)
theorem flI_0 (h : AH) (a : Nat) (v : Int32) : flI h a 0 v = h := by
  unfold flI
  have : up h.1 a (fun k => if k < 0 then v else h.1 a k) = h.1 := by
    funext b k
    by_cases e : b = a
    · subst e; rw [up_s]; simp
    · rw [up_n e]
  rw [this]
theorem flI_s (h : AH) (a n : Nat) (v : Int32) : sI (flI h a n v) a n v = flI h a (n + 1) v := by
  unfold flI sI
  congr 1
  funext b k
  by_cases e : b = a
  · subst e
    rw [up_s, up_s]
    dsimp only
    rw [up_s]
    by_cases e2 : k = n
    · subst e2; rw [up_s, if_pos (by omega)]
    · rw [up_n e2]
      by_cases e3 : k < n
      · rw [if_pos e3, if_pos (by omega)]
      · rw [if_neg e3, if_neg (by omega)]
  · rw [up_n e, up_n e]
    dsimp only
    rw [up_n e]
theorem zA_fl {n a m : Nat} {v : Int32} {h : AH} (z : zA n h) (ha : a < n) : zA n (flI h a m v) := fun b hb => ⟨fun k => by show up h.1 a _ b k = 0; rw [up_n (by omega)]; exact (z b hb).1 k, (z b hb).2.1, (z b hb).2.2⟩
abbrev mG0 (g : mg) : Gm := (g.1, g.2.1, g.2.2.1, g.2.2.2, SR0)
abbrev F0' (g : mg) (l : Launch) (X : XT) : Fr := (mG0 g, l, X)
/-- words of nest mates and of arrays of objects, at the start -/
def NestW (s : State) : Prop := va_Nw (.methodLinkNest RX7 11 yX5_init RX7) s ∧ va_Nw (.methodLinkNest RX4 17 yX1_init RX7) s ∧ va_Nw (.methodLinkNest RX7 36 yX2_init RX7) s ∧ va_Nw (.methodLinkNest RX7 43 yX3_init RX7) s ∧ va_Nw (.methodLinkNest RX7 50 yX6_init RX7) s ∧ va_AO RX1 s ∧ va_AO RX4 s
/-- what a field holds at first -/
def dz (c k : Nat) : Value := if ft c k = 0 then .int 0 else if ft c k = 1 then .long 0 else .null
theorem fv_z {g : mg} {h : AH} {a c k : Nat} (z : z0 h a) : fv (mG0 g) h a c k = dz c k := by
  unfold fv dz
  rw [z.1, z.2.1]
  split
  · rfl
  · split
    · rfl
    · show rv g.2.1 (h.2.2 a k) = _
      rw [z.2.2]
      rfl
def tyS (c : Nat) : Nat → FieldType := match c with
  | 0 => tyX0 | 1 => tyX1 | 2 => tyX2 | 3 => tyX3 | 4 => tyX4 | 5 => tyX5 | 6 => tyX6 | 7 => tyX7 | _ => tyX8
/-- a class whose objects can be made -/
def ClsN (c : Nat) (C : String) (T : u_T) (N : Nat) : Prop := Cls c C T N ∧ (∀ k, k < N → parseFieldDescriptor (T k).2.2.1 = some (tyS c k)) ∧ (∀ j, j < N → defaultValue (tyS c j) = dz c j) ∧ Cond.instantiable C N ∈ Tb ∧ Cond.initialized C ∈ Tb
theorem clsN0 : ClsN 0 RX0 TX0 7 := ⟨cls0, tyX0_ok, by decide +kernel, nw_X0, in_X0⟩
theorem clsN1 : ClsN 1 RX1 TX1 5 := ⟨cls1, tyX1_ok, by decide +kernel, nw_X1, in_X1⟩
theorem clsN2 : ClsN 2 RX2 TX2 7 := ⟨cls2, tyX2_ok, by decide +kernel, nw_X2, in_X2⟩
theorem clsN3 : ClsN 3 RX3 TX3 14 := ⟨cls3, tyX3_ok, by decide +kernel, nw_X3, in_X3⟩
theorem clsN4 : ClsN 4 RX4 TX4 3 := ⟨cls4, tyX4_ok, by decide +kernel, nw_X4, in_X4⟩
theorem clsN5 : ClsN 5 RX5 TX5 8 := ⟨cls5, tyX5_ok, by decide +kernel, nw_X5, in_X5⟩
theorem clsN6 : ClsN 6 RX6 TX6 6 := ⟨cls6, tyX6_ok, by decide +kernel, nw_X6, in_X6⟩
theorem clsN7 : ClsN 7 RX7 TX7 12 := ⟨cls7, tyX7_ok, by decide +kernel, nw_X7, in_X7⟩
theorem clsN8 : ClsN 8 RX8 TX8 51 := ⟨cls8, tyX8_ok, by decide +kernel, nw_X8, in_X8⟩
theorem ac_int : Cond.arrayClass .int ∈ Tb := tb_in 133 (by decide +kernel) rfl
theorem ac_long : Cond.arrayClass .long ∈ Tb := tb_in 219 (by decide +kernel) rfl
theorem oi_im : Cond.instanceMethod Lib.objectInit ∈ Tb := tb_in 96 (by decide +kernel) rfl
theorem oi_cd : Cond.code Lib.objectInit ⟨#[0xb1]⟩ 1 none ∈ Tb := tb_in 97 (by decide +kernel) rfl
theorem oi_X0 : Cond.methodLink RX0 3 Lib.objectInit ∈ Tb := tb_in 311 (by decide +kernel) rfl
theorem oi_X1 : Cond.methodLink RX1 3 Lib.objectInit ∈ Tb := tb_in 146 (by decide +kernel) rfl
theorem oi_X2 : Cond.methodLink RX2 3 Lib.objectInit ∈ Tb := tb_in 196 (by decide +kernel) rfl
theorem oi_X3 : Cond.methodLink RX3 3 Lib.objectInit ∈ Tb := tb_in 225 (by decide +kernel) rfl
theorem oi_X4 : Cond.methodLink RX4 3 Lib.objectInit ∈ Tb := tb_in 139 (by decide +kernel) rfl
theorem oi_X5 : Cond.methodLink RX5 3 Lib.objectInit ∈ Tb := tb_in 103 (by decide +kernel) rfl
theorem oi_X6 : Cond.methodLink RX6 3 Lib.objectInit ∈ Tb := tb_in 281 (by decide +kernel) rfl
theorem oi_X7 : Cond.methodLink RX7 3 Lib.objectInit ∈ Tb := tb_in 95 (by decide +kernel) rfl
theorem oi_X8 : Cond.methodLink RX8 1 Lib.objectInit ∈ Tb := tb_in 861 (by decide +kernel) rfl
section GN
variable {g : mg} {l : Launch} {X : XT} {Z : State → Prop} {n cs ss : Nat} {h : AH} {pc : Nat} {lv : List (Nat × Value)} {st : List Value} {own : String} {cc : ByteArray} {nL : Nat} {rm : Room} {rt : Option FieldType} {c i N : Nat} {C : String} {T : u_T}
/-- before the constructors' end nothing of the row that grows has moved -/
theorem wf0 {G : Gm} (f : wf G n h) (hn : n < 118) : tCur h = 31 ∧ tEx h = 0 ∧ tLn h = 64 := by
  rcases f with ⟨-, q⟩ | ⟨q, -⟩
  · exact q
  · omega
theorem ce_b0 {G : Gm} {a : Nat} (ha : lay a = (101, N)) (e : tLn h = 64) : ce G h a = .inl (G.2.2.2.1 1, N, .inl (h.1 a)) := by
  by_cases e31 : a = 31
  · subst e31
    have eN : N = 64 := (congrArg Prod.snd ha).symm
    have : ce G h 31 = .inl (G.2.2.2.1 1, tLn h, .inl (h.1 31)) := rfl
    rw [this, e, eN]
  · exact ce_b ha e31
/-- behind a making: the world has one cell more -/
theorem wd_new (O : Ok (F0' g l X) own cc nL rm rt) {H H1 : Heap} (hw : wd (mG0 g) n h H) (hn : n < 118) (z1 : H1.size = H.size + 1) (o1 : ∀ q : Nat, q < H.size → H1[q]? = H[q]?) (he : va_at g.2.2.1 vwCl (g.2.1 n, ce (mG0 g) h n) H1) : wd (mG0 g) (n + 1) h H1 := by
  have f0 := wf0 hw.2.2.2 hn
  refine ⟨?_, by rw [z1, hw.2.1]; omega, fun q hq => ?_, Or.inl ⟨rfl, f0⟩⟩
  · rw [← wl_push (G := mG0 g) (h := h) f0.1]
    refine (hw.1.kept (fun k x hx => o1 x.1 ((hw.1 k x hx).lt))).app (fun k x hx => ?_)
    have hz : k < 1 := (List.getElem?_eq_some_iff.mp hx).1
    rw [show k = 0 by omega] at hx
    cases hx
    exact he
  · rw [o1 q (by have := hw.2.1; omega)]
    exact hw.2.2.1 q hq
theorem fr_n (O : Ok (F0' g l X) own cc nL rm rt) {H : Heap} (hw : wd (mG0 g) n h H) (hn : n < 118) : fr (F0' g l X) n = H.size := by
  rw [hw.2.1, (wf0 hw.2.2.2 hn).2.1]
  exact (okE O).1 n (by omega)
/-- the field of the row that grows, in its constructor -/
theorem g_putT (O : Ok (F0' g l X) own cc nL rm rt) {w : Nat × Nat × Nat} (hl : Cond.fieldLink own i (TX3 5).1 (TX3 5).2.1 (TX3 5).2.2.1 ∈ Tb) (d : decode cc pc = .ok (.putfield i, 3)) (hn : 26 < w.1) (hn1 : w.1 < 118) (kk : Gd (F0' g l X) Z w (sR h 26 5 (some 31)) (pc + 3) lv st) : Gd (F0' g l X) Z w h pc lv (.ref 31 :: .ref 26 :: st) :=
  g_put (c := 3) (N := 14) (k := 5) (a := 26) O cls3 hl d rfl hn (by omega) (ltb rfl) (Or.inl rfl) (tyX3_ok 5 (ltb rfl)) (h2 := sR h 26 5 (some 31)) rfl rfl (by rw [fv_r rfl rfl, sR_1, up_s]; rfl) (fun j hj => fv_sR hj) (fun b hb => ce_sR hb (Or.inr (by omega))) (fun f => by
    have f0 := wf0 f hn1
    have e1 : tCur (sR h 26 5 (some 31)) = 31 := by unfold tCur; rw [sR_1, up_s]; rfl
    have e2 : tLn (sR h 26 5 (some 31)) = tLn h := tLn_R (Or.inr (by omega))
    have e3 : tEx (sR h 26 5 (some 31)) = tEx h := by unfold tEx; rw [sR_1, up_n (by omega)]
    exact ⟨by rw [e1, f0.1], e2, e3, Or.inl ⟨rfl, e1, by rw [e3, f0.2.1], by rw [e2, f0.2.2]⟩⟩) kk
theorem g_new (O : Ok (F0' g l X) own cc nL rm rt) (hC : ClsN c C T N) (hcl : Cond.classLink own i C ∈ Tb) (d : decode cc pc = .ok (.new i, 3)) (ha : lay n = (c, N)) (hn : n < 118) (z : zA n h) (hrm : cs + 1 ≤ rm.cells ∧ ss + N ≤ rm.slots) (kk : Gd (F0' g l X) Z (n + 1, cs + 1, ss + N) h (pc + 3) lv (.ref n :: st)) : Gd (F0' g l X) Z (n, cs, ss) h pc lv st := by
  intro H locs ls hw hS hl'
  have hw' : wd (mG0 g) n h H := hw
  obtain ⟨⟨hc, hin, hc100, -⟩, hty, hdz, hnw, hini⟩ := hC
  have hKn := (okK O).1 c _ hc
  have hfr := fr_n O hw' hn
  refine W.newcK O.1 O.2.1 O.2.2.2.1 (okS O hcl) (okS O hnw) (okS O hini) rfl d (by rw [O.2.2.2.2.2.2.2.2.2.2.1]; exact hrm.1) (by rw [O.2.2.2.2.2.2.2.2.2.2.1]; exact hrm.2) hKn.2.1 hfr.symm fun H1 kC hkC e1 z1 o1 => ?_
  rw [hfr] at z1 o1
  refine kk H1 locs ls (wd_new O hw' hn z1 o1 ?_) ⟨by have h1 := hS.1; omega, fun x h1 h2 => (o1 x (Nat.lt_of_lt_of_le h1 hS.1)).trans (hS.2.1 x h1 h2), hS.2.2⟩ hl'
  rw [ce_o ha hc100]
  refine ⟨_, hc, (u_born (tyS c) O.2.2.2.2.1 hin hKn hkC e1 hty).to (fun j hj => ?_)⟩
  show _ = (fvs (mG0 g) h n c N).getD j .null
  rw [hdz j hj, List.getD_eq_getElem?_getD, fvs_at hj, fv_z (z n (Nat.le_refl _))]
  rfl
/-- a row of ints, bytes or longs -/
theorem g_newI (O : Ok (F0' g l X) own cc nL rm rt) (d : decode cc pc = .ok (.newarray .int, 2)) (ha : lay n = (100, N)) (hn : n < 118) (z : zA n h) (hN : N ≤ 100000) (hrm : cs + 1 ≤ rm.cells ∧ ss + N ≤ rm.slots) {x : Int32} (hx : x = I (N : Int)) (kk : Gd (F0' g l X) Z (n + 1, cs + 1, ss + N) h (pc + 2) lv (.ref n :: st)) : Gd (F0' g l X) Z (n, cs, ss) h pc lv (.int x :: st) := by
  subst hx
  intro H locs ls hw hS hl'
  have hw' : wd (mG0 g) n h H := hw
  have hfr := fr_n O hw' hn
  have hK := ((okK O).2 0 _ rfl).2
  refine va_newaK (atype := .int) (N := N) O.1 O.2.1 (okS O ac_int) rfl d rfl (by rw [I_nat]; exact nI_pos (by omega)) (I_cl (by omega)) (by show N * 4 ≤ _; omega) (by rw [O.2.2.2.2.2.2.2.2.2.2.1]; exact hrm.1) (by rw [O.2.2.2.2.2.2.2.2.2.2.1]; exact hrm.2) hfr.symm fun H1 cA e1 z1 o1 hAr hNm => ?_
  rw [hfr] at z1 o1
  have hcA : cA = g.2.2.2 0 := Option.some.inj (hNm.symm.trans hK)
  refine kk H1 locs ls (wd_new O hw' hn z1 o1 ?_) ⟨by have h1 := hS.1; omega, fun x h1 h2 => (o1 x (Nat.lt_of_lt_of_le h1 hS.1)).trans (hS.2.1 x h1 h2), hS.2.2⟩ hl'
  rw [ce_i ha]
  show H1[fr (F0' g l X) n]? = some (vp_cell _ _)
  rw [e1, vp_cell_i, hcA]
  congr 2
  funext j
  rw [(z n (Nat.le_refl _)).1]
  rfl
theorem g_newB (O : Ok (F0' g l X) own cc nL rm rt) (d : decode cc pc = .ok (.newarray .byte, 2)) (ha : lay n = (101, N)) (hn : n < 118) (z : zA n h) (hN : N ≤ 100000) (hrm : cs + 1 ≤ rm.cells ∧ ss + N ≤ rm.slots) {x : Int32} (hx : x = I (N : Int)) (kk : Gd (F0' g l X) Z (n + 1, cs + 1, ss + N) h (pc + 2) lv (.ref n :: st)) : Gd (F0' g l X) Z (n, cs, ss) h pc lv (.int x :: st) := by
  subst hx
  intro H locs ls hw hS hl'
  have hw' : wd (mG0 g) n h H := hw
  have hfr := fr_n O hw' hn
  have hK := ((okK O).2 1 _ rfl).2
  refine va_newaK (atype := .byte) (N := N) O.1 O.2.1 (okS O ac_byte) rfl d rfl (by rw [I_nat]; exact nI_pos (by omega)) (I_cl (by omega)) (by show N * 1 ≤ _; omega) (by rw [O.2.2.2.2.2.2.2.2.2.2.1]; exact hrm.1) (by rw [O.2.2.2.2.2.2.2.2.2.2.1]; exact hrm.2) hfr.symm fun H1 cA e1 z1 o1 hAr hNm => ?_
  rw [hfr] at z1 o1
  have hcA : cA = g.2.2.2 1 := Option.some.inj (hNm.symm.trans hK)
  refine kk H1 locs ls (wd_new O hw' hn z1 o1 ?_) ⟨by have h1 := hS.1; omega, fun x h1 h2 => (o1 x (Nat.lt_of_lt_of_le h1 hS.1)).trans (hS.2.1 x h1 h2), hS.2.2⟩ hl'
  rw [ce_b0 ha (wf0 hw'.2.2.2 hn).2.2]
  show H1[fr (F0' g l X) n]? = some (vp_cell _ _)
  rw [e1, vp_cell_i, hcA]
  congr 2
  funext j
  rw [(z n (Nat.le_refl _)).1]
  rfl
theorem g_newL (O : Ok (F0' g l X) own cc nL rm rt) (d : decode cc pc = .ok (.newarray .long, 2)) (ha : lay n = (102, N)) (hn : n < 118) (z : zA n h) (hN : N ≤ 100000) (hrm : cs + 1 ≤ rm.cells ∧ ss + N ≤ rm.slots) {x : Int32} (hx : x = I (N : Int)) (kk : Gd (F0' g l X) Z (n + 1, cs + 1, ss + N) h (pc + 2) lv (.ref n :: st)) : Gd (F0' g l X) Z (n, cs, ss) h pc lv (.int x :: st) := by
  subst hx
  intro H locs ls hw hS hl'
  have hw' : wd (mG0 g) n h H := hw
  have hfr := fr_n O hw' hn
  have hK := ((okK O).2 2 _ rfl).2
  refine va_newaK (atype := .long) (N := N) O.1 O.2.1 (okS O ac_long) rfl d rfl (by rw [I_nat]; exact nI_pos (by omega)) (I_cl (by omega)) (by show N * 8 ≤ _; omega) (by rw [O.2.2.2.2.2.2.2.2.2.2.1]; exact hrm.1) (by rw [O.2.2.2.2.2.2.2.2.2.2.1]; exact hrm.2) hfr.symm fun H1 cA e1 z1 o1 hAr hNm => ?_
  rw [hfr] at z1 o1
  have hcA : cA = g.2.2.2 2 := Option.some.inj (hNm.symm.trans hK)
  refine kk H1 locs ls (wd_new O hw' hn z1 o1 ?_) ⟨by have h1 := hS.1; omega, fun x h1 h2 => (o1 x (Nat.lt_of_lt_of_le h1 hS.1)).trans (hS.2.1 x h1 h2), hS.2.2⟩ hl'
  rw [ce_l ha]
  show H1[fr (F0' g l X) n]? = some (vp_cell _ _)
  rw [e1, vp_cell_l, hcA]
  congr 2
  funext j
  rw [(z n (Nat.le_refl _)).2.1]
  rfl
/-- a row of chips (3) or shelves (4) -/
theorem g_newQ (O : Ok (F0' g l X) own cc nL rm rt) {t : Nat} (hcl : Cond.classLink own i C ∈ Tb) (hao : va_AO C g.1) (ht : (tys5 (mG0 g))[3 + t]? = some (g.2.2.2 (3 + t), .object C)) (d : decode cc pc = .ok (.anewarray i, 3)) (ha : lay n = (103 + t, N)) (hn : n < 118) (z : zA n h) (hN : N ≤ 100000) (hrm : cs + 1 ≤ rm.cells ∧ ss + N ≤ rm.slots) {x : Int32} (hx : x = I (N : Int)) (kk : Gd (F0' g l X) Z (n + 1, cs + 1, ss + N) h (pc + 3) lv (.ref n :: st)) : Gd (F0' g l X) Z (n, cs, ss) h pc lv (.int x :: st) := by
  subst hx
  intro H locs ls hw hS hl'
  have hw' : wd (mG0 g) n h H := hw
  have hfr := fr_n O hw' hn
  have hK := ((okK O).2 (3 + t) _ ht).2
  obtain ⟨kA0, comp0, -, -, -, hK4⟩ := hK
  have zn : (I (N : Int)).toNatClampNeg = N := I_cl (by omega)
  refine W.anew O.1 O.2.1 O.2.2.2.1 (okS O hcl) (va_AO.use (hao.moved O.2.2.2.2.2.1.alike)) rfl d rfl (by rw [I_nat]; exact nI_pos (by omega)) (by rw [zn]; omega) (by rw [O.2.2.2.2.2.2.2.2.2.2.1]; exact hrm.1) (by rw [O.2.2.2.2.2.2.2.2.2.2.1, zn]; exact hrm.2) fun cA kA comp f1 f2 f3 f4 => ?_
  rw [zn]
  have hcA : cA = g.2.2.2 (3 + t) := Option.some.inj (f1.symm.trans hK4)
  generalize hH1 : H.push ({ cls := cA, slots := Array.replicate N .null, vm := .none } : Cell) = H1
  have z1 : H1.size = H.size + 1 := by rw [← hH1, Array.size_push]
  have e1 : H1[H.size]? = some (arrV cA N (fun _ => .null)) := by rw [← hH1, Array.getElem?_push_size, ← arrV_new]
  have o1 : ∀ q : Nat, q < H.size → H1[q]? = H[q]? := fun q hq => by rw [← hH1, Array.getElem?_push, if_neg (Nat.ne_of_lt hq)]
  have key := kk H1 locs ls (wd_new O hw' hn z1 o1 ?_) ⟨by have h1 := hS.1; omega, fun x h1 h2 => (o1 x (Nat.lt_of_lt_of_le h1 hS.1)).trans (hS.2.1 x h1 h2), hS.2.2⟩ hl'
  · rw [show H.size = fr (F0' g l X) n from hfr.symm]
    exact key
  · rw [ce_q ha]
    show H1[fr (F0' g l X) n]? = some (vp_cell _ _)
    rw [hfr, e1, vp_cell_q, hcA]
    congr 2
    funext j
    rw [(z n (Nat.le_refl _)).2.2]
    rfl
theorem g_obj (O : Ok (F0' g l X) own cc nL rm rt) {w : Nat × Nat × Nat} {a : Nat} (hl : Cond.methodLink own i Lib.objectInit ∈ Tb) (d : decode cc pc = .ok (.invokespecial i, 3)) (hR : 1 ≤ rm.frames ∧ 20 ≤ rm.locals) (hW : (st.map fun v => v.category).sum ≤ 8) (kk : Gd (F0' g l X) Z w h (pc + 3) lv st) : Gd (F0' g l X) Z w h pc lv (.ref a :: st) := fun H locs ls hw hS hl' =>
  W.objInit O.1 O.2.1 O.2.2.2.1 (okS O hl) (okS O oi_im) (okS O oi_cd) rfl (by rw [O.2.2.1]; exact hl'.1) rfl d (by rw [O.2.2.2.2.2.2.2.2.2.2.1]; exact hR.1) (by show 2 * 0 + _ + 12 ≤ _; rw [cat_cv, O.2.2.2.2.2.2.2.2.2.2.1]; omega) (kk H locs ls hw hS hl')
/-- a private constructor of a nest mate -/
theorem g_callN (O : Ok (F0' g l X) own cc nL rm rt) {w : Nat × Nat × Nat} {a : Nat} {M : MD} {mc ms : Nat} (hM : Mk M 0) (hrt : M.2.2.2.1 = none) {host : String} (hl : va_Nw (.methodLinkNest own i M.1 host) g.1) (hi : Cond.instanceMethod M.1 ∈ Tb) (hy : M.1.name = "<init>") (hr : M.2.2.2.2.cells = mc ∧ M.2.2.2.2.slots = ms ∧ M.2.2.2.2.frames + 1 ≤ rm.frames ∧ 8 + (M.2.2.1 + 11) + M.2.2.2.2.locals ≤ rm.locals) (hW : (st.map fun v => v.category).sum ≤ 8) (hrm : w.2.1 + mc ≤ rm.cells ∧ w.2.2 + ms ≤ rm.slots) (d : decode cc pc = .ok (.invokespecial i, 3))
    (S : Spec (mG0 g) l M (w.1, mc, ms) h [.ref a] (fun r h' => Gd (F0' g l X) Z (w.1 + mc, w.2.1 + mc, w.2.2 + ms) h' (pc + 3) lv (r.toList ++ st))) : Gd (F0' g l X) Z w h pc lv (.ref a :: st) := by
  intro H locs ls hw hS hl'
  have cb : va_CN (fR (F0' g l X)) (fs (F0' g l X)) (fa (F0' g l X)) own i M.1 host M.2.1 M.2.2.1 M.2.2.2.1 (wsm M) M.2.2.2.2 mc ms 0 := va_cnB (Ts := Tb) 0 O.2.2.2.2.1 (mk_good hM) rfl hr.1 hr.2.1 (va_Nw.warmM O.2.2.2.2.2.1 hl) (okS O hM.1) hM.2.2 (by rw [O.2.2.2.2.2.2.2.2.2.2.1]; exact hr.2.2)
  rw [hrt] at cb
  exact g_back (F := F0' g l X) (st := st) O hw hS hl' (va_runIN (As := []) (b := fr (F0' g l X) a) ⟨O.1, O.2.1, O.2.2.1, O.2.2.2.1, O.2.2.2.2.1⟩ S ⟨cb, hy, okS O hi⟩ ⟨pc_blind, pc_at (av := [.ref a]) O hw⟩ rfl rfl hl'.1 rfl (lv_room (by rw [cat_cv]; exact hW)) d (by rw [O.2.2.2.2.2.2.2.2.2.2.1]; exact hrm))
end GN
/-- what a constructor leaves: nothing returned, the heap as told -/
def qE (h2 : AH) : Option Value → AH → Prop := fun r h' => r = none ∧ h' = h2
theorem qE_k {h2 : AH} {P : Option Value → AH → Prop} (k : P none h2) : ∀ r h', qE h2 r h' → P r h' := fun r h' q => by
  obtain ⟨rfl, rfl⟩ := q
  exact k
