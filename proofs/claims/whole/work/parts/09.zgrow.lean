/-! the row that grows: its field, its places, its length, a longer one in its place -/
theorem ac_byte : Cond.arrayClass .byte ∈ Tb := tb_in 132 (by decide +kernel) rfl
/-- a longer row, empty, in the field -/
def nT (h : AH) (N : Nat) : AH := (up h.1 31 (fun _ => 0), h.2.1, up h.2.2 26 (up (up (up (h.2.2 26) 5 (some (2000 + tEx h))) 100 (some N)) 101 (some (tEx h + 1))))
theorem ft3_far {j : Nat} (e : 14 ≤ j) : ft 3 j = 0 := by
  show ([0, 2, 2, 2, 2, 2, 2, 2, 2, 2, 2, 0, 2, 2] : List Nat).getD j 0 = 0
  rw [List.getD_eq_getElem?_getD, List.getElem?_eq_none (by show 14 ≤ j; omega)]
  rfl
/-- a field set, whatever the world -/
theorem w_put {F : Fr} {Z : State → Prop} {own : String} {cc : ByteArray} {nL : Nat} {rm : Room} {rt : Option FieldType} {c i k a N pc cs ss ad : Nat} {C : String} {T : u_T} {H1 : Heap} {locs : List Loc} {ls : Array Slot} {ws : va_W} {vs : List Value} {v : Value} {st : List Value} (O : Ok F own cc nL rm rt) (hC : Cls c C T N) (hl : Cond.fieldLink own i (T k).1 (T k).2.1 (T k).2.2.1 ∈ Tb) (d : decode cc pc = .ok (.putfield i, 3)) (P1 : va_P (fG F).2.2.1 vwCl ws H1) (he : ws[a]? = some (ad, .inr (c, vs))) (hlen : vs.length = N) (hk : k < N) (hfin : (T k).2.2.2 = false) {ty : FieldType} (hd : parseFieldDescriptor (T k).2.2.1 = some ty) (hnr : narrow ty v = v) (hft : fits ty v = true)
    (kk : ∀ (H' : Heap) (sl : Nat), va_at (fG F).2.2.1 vwCl (ad, .inr (c, vs.set k v)) H' → H'.size = H1.size → (∀ q, q ≠ ad → H'[q]? = H1[q]?) → WW F H' (locs ++ [⟨ad, sl⟩]) cs ss Z (F0 (fm F) (pc + 3) ls st)) : WW F H1 locs cs ss Z (F0 (fm F) pc ls (v :: .ref ad :: st)) := by
  have hK := okK O
  have hts := O.2.2.2.2.1
  obtain ⟨hc, hin, hc100, ty0, hty, hnm⟩ := hC
  have hap := va_apart (own := own) hts hin ty0 hty hnm hK hc
  obtain ⟨r, h1, cell, q1, q2, q3, q4⟩ := P1 a _ he
  have hr : r = (C, T, N) := Option.some.inj (h1.symm.trans hc)
  subst hr
  obtain ⟨hSl, hfc, kC, hkC, hkind⟩ := hK.1 c _ hc
  obtain ⟨cf, kf, fi, f, hi, hsl⟩ := hSl k hk
  have hst := (u_facts hfc hkC (u_lays hts hin hk) hi).1
  have hlay := hts _ (hin _ (u_in_lay hk))
  unfold u_lay at hlay
  rw [if_neg (by rw [hfin]; decide)] at hlay
  have h6 := u_store hfc hkC hkind hlay hi hd hnr hft
  refine W.putK O.1 O.2.1 (f := f) ⟨O.2.2.2.1, okS O hl, ⟨_, _, _, hi⟩, hst⟩ (by rw [q2]; exact h6) q1 q3 (by rw [hsl]; exact k2_hasslot (q4 k hk)) rfl rfl d fun H' g1 g2 g3 => kk H' f.slot ?_ g2 g3
  rw [hsl] at g1
  exact ⟨_, hc, t_OB.to (V := updV (vp_V vs) k v) ⟨_, g1, q2, q3, t_set q4 hap hk v⟩ (fun j _ => vp_updV_set (by rw [hlen]; exact hk) v j)⟩
section GT
variable {g : mg} {l : Launch} {X : XT} {Z : State → Prop} {cs ss : Nat} {h : AH} {pc : Nat} {lv : List (Nat × Value)} {st : List Value} {own : String} {cc : ByteArray} {nL : Nat} {rm : Room} {rt : Option FieldType} {i N : Nat}
theorem wfm {n : Nat} (f : wf (mG g) n h) : n = 118 ∧ 64 ≤ tLn h ∧ tLn h ≤ 14641 ∧ ∃ t, h.2.2 26 5 = some t ∧ (t = 31 ∨ ∃ i, i < tEx h ∧ t = 2000 + i) := by
  rcases f with ⟨q, -⟩ | q
  · exact absurd (show SR 26 1 = none from q) (by decide)
  · exact q
theorem tNm_t {t : Nat} (e : h.2.2 26 5 = some t) : tNm h 31 = t := by
  unfold tNm tCur
  rw [if_pos rfl, e]
  rfl
theorem g_getT (O : Ok (FF g l X) own cc nL rm rt) (hl : Cond.fieldLink own i (TX3 5).1 (TX3 5).2.1 (TX3 5).2.2.1 ∈ Tb) (d : decode cc pc = .ok (.getfield i, 3)) (kk : ∀ t, h.2.2 26 5 = some t → 64 ≤ tLn h → tLn h ≤ 14641 → Gd (FF g l X) Z (118, cs, ss) h (pc + 3) lv (.ref t :: st)) : Gd (FF g l X) Z (118, cs, ss) h pc lv (.ref 26 :: st) := by
  intro H locs ls hw hS hl'
  obtain ⟨-, l1, l2, t, e, -⟩ := wfm hw.2.2.2
  exact g_getR (a := 26) (k := 5) (b := t) (w := (118, cs, ss)) O cls3 hl d rfl (ltb rfl) (ltb rfl) rfl rfl e (kk t e l1 l2) H locs ls hw hS hl'
theorem wl_t {G : Gm} {n : Nat} (hn : 31 < n) : (wl G n h)[31]? = some (G.2.1 (tNm h 31), .inl (G.2.2.2.1 1, tLn h, .inl (h.1 31))) := by
  rw [wl_at hn]
  rfl
theorem g_tlen (O : Ok (FF g l X) own cc nL rm rt) (d : decode cc pc = .ok (.arraylength, 1)) {t : Nat} (e : h.2.2 26 5 = some t) (kk : Gd (FF g l X) Z (118, cs, ss) h (pc + 1) lv (.int (I (tLn h : Int)) :: st)) : Gd (FF g l X) Z (118, cs, ss) h pc lv (.ref t :: st) := by
  have et := tNm_t e
  subst et
  exact fun H locs ls hw hS hl' => va_alen O.1 O.2.1 (okK O) hw.1 31 1 (wl_t (ltb rfl)) rfl (I_nat (tLn h)).symm d (kk H locs ls hw hS hl')
theorem g_tald (O : Ok (FF g l X) own cc nL rm rt) (d : decode cc pc = .ok (.baload, 1)) {t : Nat} (et : h.2.2 26 5 = some t) {x : Int32} {j : Nat} (e : x = I (j : Int)) (hj : j < tLn h) {v : Int32} (hv : h.1 31 j = v) (kk : Gd (FF g l X) Z (118, cs, ss) h (pc + 1) lv (.int v :: st)) : Gd (FF g l X) Z (118, cs, ss) h pc lv (.int x :: .ref t :: st) := by
  have et := tNm_t et
  subst e; subst hv; subst et
  intro H locs ls hw hS hl'
  have hN := (wfm hw.2.2.2).2.2.1
  refine va_bald O.1 O.2.1 (okK O) hw.1 31 1 (wl_t (ltb rfl)) rfl (I_in hj (by omega)) d ?_
  rw [I_cl (by omega)]
  exact kk H locs ls hw hS hl'
theorem aA_t (O : Ok (FF g l X) own cc nL rm rt) {n : Nat} (hn : n ≤ 1000) (h31 : 31 < n) (f : wf (mG g) n h) : aA (mG g) (g.2.1 (tNm h 31)) := by
  have e := nm_ad (okE O) hn f h31
  show bs (mG g) ≤ g.2.1 (tNm h 31)
  have e : (31 ≠ 31 ∧ g.2.1 (tNm h 31) = bs (mG g) + 31) ∨ (31 = 31 ∧ (g.2.1 (tNm h 31) = bs (mG g) + 31 ∨ (n = 118 ∧ ∃ i, g.2.1 (tNm h 31) = bs (mG g) + 118 + i))) := e
  rcases e with ⟨u1, u2⟩ | ⟨u1, u2 | ⟨u3, u4, u2⟩⟩ <;> omega
theorem g_tast (O : Ok (FF g l X) own cc nL rm rt) (d : decode cc pc = .ok (.bastore, 1)) {t : Nat} (et : h.2.2 26 5 = some t) {x y : Int32} {j : Nat} (e : x = I (j : Int)) (hj : j < tLn h) (kk : Gd (FF g l X) Z (118, cs, ss) (sI h 31 j y.toInt8.toInt32) (pc + 1) lv st) : Gd (FF g l X) Z (118, cs, ss) h pc lv (.int y :: .int x :: .ref t :: st) := by
  have et := tNm_t et
  subst e; subst et
  intro H locs ls hw hS hl'
  have hN := (wfm hw.2.2.2).2.2.1
  have hin := I_in hj (show tLn h < 2 ^ 31 by omega)
  refine W.bast O.1 O.2.1 (hw.1 31 _ (wl_t (ltb rfl))) (((okK O).2 1 _ rfl).1 (tLn h) (fun j => .int (h.1 31 j))) (fun q => by cases q) (by show ¬ (_ < 0 ∨ (arrV _ _ _).slots.size ≤ _); rw [arrV_size]; exact hin) rfl rfl d fun H1 e z oq => ?_
  refine kk H1 _ ls (wd_set (okE O) (leb rfl) hw (ltb rfl) ?_ z oq (fun b hb => ce_sI hb) (tT_I hw.2.2.2)) (hS.put z oq (aA_t O (leb rfl) (ltb rfl) hw.2.2.2)) hl'
  show H1[g.2.1 (tNm h 31)]? = some (vp_cell _ (tLn h, .inl ((sI h 31 j y.toInt8.toInt32).1 31)))
  rw [e, vp_cell_i, vp_cell_i, arrV_store, I_cl (by omega), sI_1]
  congr 2
  funext q
  by_cases hq : q = j
  · subst hq
    simp [updV, up, narrow]
  · simp [updV, up, hq]
theorem nT_r {k : Nat} (h5 : k ≠ 5) (h6 : k < 100) : (nT h N).2.2 26 k = h.2.2 26 k := by
  have a1 : k ≠ 100 := by omega
  have a2 : k ≠ 101 := by omega
  simp [nT, up, h5, a1, a2]
theorem nT_5 : (nT h N).2.2 26 5 = some (2000 + tEx h) := by simp [nT, up]
theorem nT_ln : tLn (nT h N) = N := by
  show ((nT h N).2.2 26 100).getD 64 = N
  simp [nT, up]
theorem nT_ex : tEx (nT h N) = tEx h + 1 := by
  show ((nT h N).2.2 26 101).getD 0 = tEx h + 1
  simp [nT, up]
theorem nT_o {a : Nat} (e : a ≠ 26) : (nT h N).2.2 a = h.2.2 a := by simp [nT, up, e]
theorem nT_i {a : Nat} (e : a ≠ 31) : (nT h N).1 a = h.1 a := by simp [nT, up, e]
theorem nT_31 : (nT h N).1 31 = fun _ => 0 := by
  funext q
  simp [nT, up]
set_option maxHeartbeats 1000000 in
theorem g_newT (O : Ok (FF g l X) RX3 cc nL rm rt) (d1 : decode cc pc = .ok (.newarray .byte, 2)) (hlk : Cond.fieldLink RX3 i (TX3 5).1 (TX3 5).2.1 (TX3 5).2.2.1 ∈ Tb) (d2 : decode cc (pc + 2) = .ok (.putfield i, 3)) {x : Int32} (hx : x = I (N : Int)) (h64 : 64 ≤ N) (hN : N ≤ 14641) (hrm : cs + 1 ≤ rm.cells ∧ ss + 14641 ≤ rm.slots) (kk : Gd (FF g l X) Z (118, cs + 1, ss + 14641) (nT h N) (pc + 5) lv st) : Gd (FF g l X) Z (118, cs, ss) h pc lv (.int x :: .ref 26 :: st) := by
  subst hx
  intro H locs ls hw hS hl'
  have hfr : g.2.1 (2000 + tEx h) = H.size := by rw [hw.2.1]; exact (okE O).2.2.2 (tEx h)
  have hKb := ((okK O).2 1 _ rfl).2
  refine va_newaK (atype := .byte) (N := N) O.1 O.2.1 (okS O ac_byte) rfl d1 rfl (by rw [I_nat]; exact nI_pos (by omega)) (I_cl (by omega)) (by show N * 1 ≤ _; omega) (by rw [O.2.2.2.2.2.2.2.2.2.2.1]; exact hrm.1) (by rw [O.2.2.2.2.2.2.2.2.2.2.1]; exact Nat.le_trans (Nat.add_le_add_left hN _) hrm.2) hfr.symm fun H1 cA e1 z1 o1 hAr hNm => ?_
  have hcA : cA = g.2.2.2 1 := Option.some.inj (hNm.symm.trans hKb)
  have z1 : H1.size = H.size + 1 := by rw [z1, hfr]
  have o1 : ∀ q : Nat, q < H.size → H1[q]? = H[q]? := fun q hq => o1 q (by rw [hfr]; exact hq)
  refine W.widen (k := cs + 1) (n := ss + 14641) (Nat.le_refl _) (Nat.add_le_add_left hN _) ?_
  have P1 : va_P g.2.2.1 vwCl (wl (mG g) 118 h) H1 := hw.1.kept (fun k x hx => o1 x.1 ((hw.1 k x hx).lt))
  have he : (wl (mG g) 118 h)[26]? = some (g.2.1 26, .inr (3, fvs (mG g) h 26 3 14)) := wl_o rfl (ltb rfl) (ltb rfl)
  refine w_put (F := FF g l X) (pc := pc + 2) (k := 5) (v := .ref (g.2.1 (2000 + tEx h))) (ad := g.2.1 26) (st := st.map (cv g.2.1)) O cls3 hlk d2 P1 he fvs_len (ltb rfl) rfl (ty := .array .byte) (by decide +kernel) rfl rfl (fun H' sl v0 g2 g3 => ?_)
  have hE0 : Env0 (mG g) := okE O
  have hD := wl_D (n := 118) hE0 (leb rfl) hw.2.2.2
  have a26 : g.2.1 26 = bs (mG g) + 26 := hE0.1 26 (ltb rfl)
  have aN : g.2.1 (2000 + tEx h) = bs (mG g) + 118 + tEx h := hE0.2.2.2 (tEx h)
  have v26 : va_at g.2.2.1 vwCl (g.2.1 26, .inr (3, fvs (mG g) (nT h N) 26 3 14)) H' := by
    rwa [fvs_set (h2 := nT h N) (by rw [fv_r rfl rfl, nT_5]; rfl) (fun j hj => ?_)] at v0
    by_cases h100 : j < 100
    · exact fv_congr (by rw [nT_i (by omega)]) rfl (nT_r hj h100)
    · have hf : ft 3 j = 0 := ft3_far (by omega)
      rw [fv_i hf, fv_i hf, nT_i (by omega)]
  have P2 := P1.set hD he v26 g3
  have hS1 : va_S (aA (mG g)) (fs (FF g l X)).heap H1 locs := ⟨by have h1 := hS.1; omega, fun x h1 h2 => (o1 x (Nat.lt_of_lt_of_le h1 hS.1)).trans (hS.2.1 x h1 h2), hS.2.2⟩
  refine kk H' _ ls ⟨fun k q hk => ?_, ?_, fun q hq => ?_, ?_⟩ (hS1.put g2 g3 (aA_at O (ltb rfl))) hl'
  · have hl118 : k < 118 := by
      have := (List.getElem?_eq_some_iff.mp hk).1
      rwa [wl_len] at this
    rw [wl_at hl118] at hk
    cases hk
    by_cases e31 : k = 31
    · subst e31
      rw [tNm_t nT_5]
      show H'[g.2.1 (2000 + tEx h)]? = some (vp_cell (g.2.2.2 1) (tLn (nT h N), .inl ((nT h N).1 31)))
      rw [g3 _ (by show g.2.1 (2000 + tEx h) ≠ g.2.1 26; omega), e1, vp_cell_i, hcA, nT_ln, nT_31]
      rfl
    · by_cases e26 : k = 26
      · subst e26
        rw [tNm_n e31, ce_o (c := 3) (n := 14) rfl (ltb rfl)]
        exact v26
      · rw [tNm_n e31, ce_congr (nT_i e31) rfl (nT_o e26) (fun q => absurd q e31)]
        exact P2 k _ (by rw [List.getElem?_set_ne (Ne.symm e26), wl_an hl118 e31])
  · show H'.size = bs (mG g) + 118 + tEx (nT h N)
    rw [g2, z1, hw.2.1, nT_ex]
    show bs (mG g) + 118 + tEx h + 1 = _
    omega
  · have hs : H.size = bs (mG g) + 118 + tEx h := hw.2.1
    have hq : q < bs (mG g) := hq
    rw [g3 q (by show q ≠ g.2.1 26; omega), o1 q (by omega)]
    exact hw.2.2.1 q hq
  · exact Or.inr ⟨rfl, by rw [nT_ln]; exact h64, by rw [nT_ln]; exact hN, _, nT_5, Or.inr ⟨tEx h, by rw [nT_ex]; omega, rfl⟩⟩
end GT
