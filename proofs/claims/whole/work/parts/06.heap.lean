/-! ROWS OF THE LAYER: fields, arrays, returns, calls -/
/-- an Int32 by its number -/
def I (z : Int) : Int32 := Int32.ofInt z
theorem I_nat (j : Nat) : I (j : Int) = nI j := by
  unfold I nI
  first | rfl | exact (Int32.ofInt_natCast j) | (apply Int32.toInt_inj.mp; simp)
theorem I_in {j n : Nat} (h : j < n) (hn : n < 2 ^ 31) : vp_in (I (j : Int)) n := by rw [I_nat]; exact vp_in_nI h hn
theorem I_cl {j : Nat} (h : j < 2 ^ 31) : (I (j : Int)).toNatClampNeg = j := by rw [I_nat]; exact nI_clamp h
def Cls (c : Nat) (C : String) (T : u_T) (N : Nat) : Prop := vwCl[c]? = some (C, T, N) ∧ (∀ x ∈ u_ws C T N, x ∈ Tb) ∧ c < 100 ∧ ∃ ty0 : Nat → FieldType, (∀ k, k < N → parseFieldDescriptor (T k).2.2.1 = some (ty0 k)) ∧ ∀ a, a < N → ∀ b, b < N → a ≠ b → (T a).2.1 ≠ (T b).2.1
theorem okK {F : Fr} {own : String} {cc : ByteArray} {nL : Nat} {rm : Room} {rt : Option FieldType} (O : Ok F own cc nL rm rt) : va_K (fG F).2.2.1 vwCl (tys5 (fG F)) (fs F) := va_K.moved O.2.2.2.2.2.1.alike O.2.2.2.2.2.2.1.2.1
theorem okE {F : Fr} {own : String} {cc : ByteArray} {nL : Nat} {rm : Room} {rt : Option FieldType} (O : Ok F own cc nL rm rt) : Env0 (fG F) := O.2.2.2.2.2.2.1
theorem okS {F : Fr} {own : String} {cc : ByteArray} {nL : Nat} {rm : Room} {rt : Option FieldType} (O : Ok F own cc nL rm rt) {x : Cond} (hx : x ∈ Tb) : x.before (fa F) (fs F) = true := O.2.2.2.2.1 x hx
theorem wd_set {G : Gm} {n a : Nat} {h h2 : AH} {H H1 : Heap} (hE : Env0 G) (hn : n ≤ 1000) (hw : wd G n h H) (ha : a < n) (he : va_at G.2.2.1 vwCl (G.2.1 (tNm h a), ce G h2 a) H1) (z : H1.size = H.size) (oq : ∀ q : Nat, q ≠ G.2.1 (tNm h a) → H1[q]? = H[q]?) (ho : ∀ b, b ≠ a → ce G h2 b = ce G h b) (ht : tT G n h h2) : wd G n h2 H1 := by
  refine ⟨?_, by rw [z, ht.2.2.1]; exact hw.2.1, fun q hq => ?_, ht.2.2.2⟩
  · have := hw.1.set (wl_D hE hn hw.2.2.2) (wl_at ha) he oq
    rwa [wl_set rfl ho ht.1] at this
  · rw [oq q (by rcases nm_ad hE hn hw.2.2.2 ha with ⟨u1, u2⟩ | ⟨u1, u2 | ⟨u3, u4, u2⟩⟩ <;> omega)]
    exact hw.2.2.1 q hq
theorem wd_setn {G : Gm} {n a : Nat} {h h2 : AH} {H H1 : Heap} (e : a ≠ 31) (hE : Env0 G) (hn : n ≤ 1000) (hw : wd G n h H) (ha : a < n) (he : va_at G.2.2.1 vwCl (G.2.1 a, ce G h2 a) H1) (z : H1.size = H.size) (oq : ∀ q : Nat, q ≠ G.2.1 a → H1[q]? = H[q]?) (ho : ∀ b, b ≠ a → ce G h2 b = ce G h b) (ht : tT G n h h2) : wd G n h2 H1 := wd_set hE hn hw ha (by rw [tNm_n e]; exact he) z (by rw [tNm_n e]; exact oq) ho ht
theorem wl_o {G : Gm} {n a c N : Nat} {h : AH} (ha : lay a = (c, N)) (hc : c < 100) (hn : a < n) : (wl G n h)[a]? = some (G.2.1 a, .inr (c, fvs G h a c N)) := by rw [wl_an hn (lay_31 ha (by omega)), ce_o ha hc]
section GH
variable {F : Fr} {Z : State → Prop} {w : Nat × Nat × Nat} {h : AH} {pc : Nat} {lv : List (Nat × Value)} {st : List Value} {own : String} {cc : ByteArray} {nL : Nat} {rm : Room} {rt : Option FieldType} {c i k a N n b : Nat} {C : String} {T : u_T}
theorem g_get (O : Ok F own cc nL rm rt) (hC : Cls c C T N) (hl : Cond.fieldLink own i (T k).1 (T k).2.1 (T k).2.2.1 ∈ Tb) (d : decode cc pc = .ok (.getfield i, 3)) (ha : lay a = (c, N)) (hn : a < w.1) (hk : k < N) {v : Value} (hv : fv (fG F) h a c k = cv (fr F) v) (kk : Gd F Z w h (pc + 3) lv (v :: st)) : Gd F Z w h pc lv (.ref a :: st) :=
  fun H locs ls hw hS hl' => va_get (D := (fG F).2.2.1) (ci := c) (C := C) (T := T) (N := N) O.1 O.2.1 O.2.2.2.2.1 hC.2.1 O.2.2.2.1 (okK O) hw.1 a (wl_o ha hC.2.2.1 hn) hC.1 k hk (okS O hl) (fun _ x => x) (by rw [fvs_at hk, hv]) d (kk H locs ls hw hS hl')
theorem g_getI (O : Ok F own cc nL rm rt) (hC : Cls c C T N) (hl : Cond.fieldLink own i (T k).1 (T k).2.1 (T k).2.2.1 ∈ Tb) (d : decode cc pc = .ok (.getfield i, 3)) (ha : lay a = (c, N)) (hn : a < w.1) (hk : k < N) (hf : ft c k = 0) {v : Int32} (hv : h.1 a k = v) (kk : Gd F Z w h (pc + 3) lv (.int v :: st)) : Gd F Z w h pc lv (.ref a :: st) :=
  g_get O hC hl d ha hn hk (by rw [fv_i hf, hv]; rfl) kk
theorem g_getL (O : Ok F own cc nL rm rt) (hC : Cls c C T N) (hl : Cond.fieldLink own i (T k).1 (T k).2.1 (T k).2.2.1 ∈ Tb) (d : decode cc pc = .ok (.getfield i, 3)) (ha : lay a = (c, N)) (hn : a < w.1) (hk : k < N) (hf : ft c k = 1) {v : Int64} (hv : h.2.1 a k = v) (kk : Gd F Z w h (pc + 3) lv (.long v :: st)) : Gd F Z w h pc lv (.ref a :: st) :=
  g_get O hC hl d ha hn hk (by rw [fv_l hf, hv]; rfl) kk
/-- a fixed reference -/
theorem g_getS (O : Ok F own cc nL rm rt) (hC : Cls c C T N) (hl : Cond.fieldLink own i (T k).1 (T k).2.1 (T k).2.2.1 ∈ Tb) (d : decode cc pc = .ok (.getfield i, 3)) (ha : lay a = (c, N)) (hn : a < w.1) (hk : k < N) (hf : ft c k = 2) (hs : (fG F).2.2.2.2 a k = some b) (kk : Gd F Z w h (pc + 3) lv (.ref b :: st)) : Gd F Z w h pc lv (.ref a :: st) :=
  g_get O hC hl d ha hn hk (by rw [fv_s hf hs]; rfl) kk
/-- a reference that the heap holds -/
theorem g_getR (O : Ok F own cc nL rm rt) (hC : Cls c C T N) (hl : Cond.fieldLink own i (T k).1 (T k).2.1 (T k).2.2.1 ∈ Tb) (d : decode cc pc = .ok (.getfield i, 3)) (ha : lay a = (c, N)) (hn : a < w.1) (hk : k < N) (hf : ft c k = 2) (hs : (fG F).2.2.2.2 a k = none) (hv : h.2.2 a k = some b) (kk : Gd F Z w h (pc + 3) lv (.ref b :: st)) : Gd F Z w h pc lv (.ref a :: st) :=
  g_get O hC hl d ha hn hk (by rw [fv_r hf hs, hv]; rfl) kk
theorem g_put (O : Ok F own cc nL rm rt) (hC : Cls c C T N) (hl : Cond.fieldLink own i (T k).1 (T k).2.1 (T k).2.2.1 ∈ Tb) (d : decode cc pc = .ok (.putfield i, 3)) (ha : lay a = (c, N)) (hn : a < w.1) (hn1 : w.1 ≤ 1000) (hk : k < N)
    (hfin : (T k).2.2.2 = false ∨ ((T k).2.2.2 = true ∧ (ft' F).name = "<init>" ∧ (T k).1 = own)) {ty : FieldType} {v : Value} (hd : parseFieldDescriptor (T k).2.2.1 = some ty) (hnr : narrow ty (cv (fr F) v) = cv (fr F) v) (hft : fits ty (cv (fr F) v) = true) {h2 : AH} (hv : cv (fr F) v = fv (fG F) h2 a c k) (ho : ∀ j, j ≠ k → fv (fG F) h2 a c j = fv (fG F) h a c j) (hb : ∀ b, b ≠ a → ce (fG F) h2 b = ce (fG F) h b) (ht : wf (fG F) w.1 h → tT (fG F) w.1 h h2)
    (kk : Gd F Z w h2 (pc + 3) lv st) : Gd F Z w h pc lv (v :: .ref a :: st) := by
  intro H locs ls hw hS hl'
  have hK := okK O
  have hts := O.2.2.2.2.1
  obtain ⟨hc, hin, hc100, ty0, hty, hnm⟩ := hC
  have hap := va_apart (own := own) hts hin ty0 hty hnm hK hc
  have he : (wl (fG F) w.1 h)[a]? = some (fr F a, .inr (c, fvs (fG F) h a c N)) := wl_o ha hc100 hn
  obtain ⟨r, h1, cell, q1, q2, q3, q4⟩ := hw.1 a _ he
  have hr : r = (C, T, N) := Option.some.inj (h1.symm.trans hc)
  subst hr
  obtain ⟨hSl, hfc, kC, hkC, hkind⟩ := hK.1 c _ hc
  obtain ⟨cf, kf, fi, f, hi, hsl⟩ := hSl k hk
  have hst := (u_facts hfc hkC (u_lays hts hin hk) hi).1
  have fin : ∀ H' : Heap, H'[fr F a]? = some (cell.setSlot f.slot (cv (fr F) v)) → H'.size = H.size → (∀ q, q ≠ fr F a → H'[q]? = H[q]?) → WW F H' (locs ++ [⟨fr F a, f.slot⟩]) w.2.1 w.2.2 Z (F0 (fm F) (pc + 3) ls (st.map (cv (fr F)))) := by
    intro H' e1 e2 e3
    refine kk H' _ ls (wd_setn (lay_31 ha (by omega)) (okE O) hn1 hw hn ?_ e2 e3 hb (ht hw.2.2.2)) (hS.put e2 e3 (by have e9 := (okE O).1 a (by omega); show bs (fG F) ≤ fr F a; have e8 : fr F a = bs (fG F) + a := e9; omega)) hl'
    rw [ce_o ha hc100]
    rw [hsl] at e1
    refine ⟨_, hc, ?_⟩
    have := t_OB.to (V := updV (vp_V (fvs (fG F) h a c N)) k (cv (fr F) v)) ⟨_, e1, q2, q3, t_set q4 hap hk (cv (fr F) v)⟩ (fun j _ => vp_updV_set (by rw [fvs_len]; exact hk) (cv (fr F) v) j)
    rwa [fvs_set hv ho] at this
  rcases hfin with hfin | ⟨hfin, hin2, hdecl⟩
  · have hlay := hts _ (hin _ (u_in_lay hk))
    unfold u_lay at hlay
    rw [if_neg (by rw [hfin]; decide)] at hlay
    have h6 := u_store hfc hkC hkind hlay hi hd hnr hft
    exact W.putK O.1 O.2.1 (f := f) ⟨O.2.2.2.1, okS O hl, ⟨_, _, _, hi⟩, hst⟩ (by rw [q2]; exact h6) q1 q3 (by rw [hsl]; exact k2_hasslot (q4 k hk)) rfl rfl d fin
  · have hlay := hts _ (hin _ (u_in_lay hk))
    unfold u_lay at hlay
    rw [if_pos hfin] at hlay
    have hcf : (fm F).cls = cf := by
      obtain ⟨_, _, c', _, _, _, -, -, hf', -, -, -, hown2, -⟩ := Cond.laysFinal_spec hlay
      have e1 : c' = cf := by have := hi.symm.trans hf'; simp at this; exact this.1.symm
      rw [hdecl] at hown2
      rw [← e1]; exact Option.some.inj (O.2.2.2.1.symm.trans hown2)
    have h6 := u_fits hfc hkC hkind (Or.inr hlay) hi hd hnr hft
    exact W.putFinK O.1 O.2.1 O.2.2.2.1 (okS O hl) hi hst hcf hin2 (by rw [q2]; exact h6) q1 q3 (by rw [hsl]; exact k2_hasslot (q4 k hk)) rfl rfl d fin
theorem fv_sI {G : Gm} {h : AH} {a k j c : Nat} {v : Int32} (hj : j ≠ k) : fv G (sI h a k v) a c j = fv G h a c j := fv_congr (by rw [sI_1, up_n hj]) rfl rfl
theorem fv_sL {G : Gm} {h : AH} {a k j c : Nat} {v : Int64} (hj : j ≠ k) : fv G (sL h a k v) a c j = fv G h a c j := fv_congr rfl (by rw [sL_1, up_n hj]) rfl
theorem fv_sR {G : Gm} {h : AH} {a k j c : Nat} {v : Option Nat} (hj : j ≠ k) : fv G (sR h a k v) a c j = fv G h a c j := fv_congr rfl rfl (by rw [sR_1, up_n hj])
theorem t26 (ha : lay a = (c, N)) (hk : k < N) : a ≠ 26 ∨ k < 100 := by
  by_cases e : a = 26
  · subst e
    have : N = 14 := (congrArg Prod.snd ha).symm
    omega
  · exact Or.inl e
theorem t265 (ha : lay a = (c, N)) (hk : k < N) (hx : c ≠ 3 ∨ k ≠ 5) : a ≠ 26 ∨ (k ≠ 5 ∧ k < 100) := by
  by_cases e : a = 26
  · subst e
    have h1 : N = 14 := (congrArg Prod.snd ha).symm
    have h2 : c = 3 := (congrArg Prod.fst ha).symm
    omega
  · exact Or.inl e
theorem g_putI (O : Ok F own cc nL rm rt) (hC : Cls c C T N) (hl : Cond.fieldLink own i (T k).1 (T k).2.1 (T k).2.2.1 ∈ Tb) (d : decode cc pc = .ok (.putfield i, 3)) (ha : lay a = (c, N)) (hn : a < w.1) (hn1 : w.1 ≤ 1000) (hk : k < N) (hf : ft c k = 0) (hfin : (T k).2.2.2 = false) (hd : parseFieldDescriptor (T k).2.2.1 = some .int) {v : Int32} (kk : Gd F Z w (sI h a k v) (pc + 3) lv st) : Gd F Z w h pc lv (.int v :: .ref a :: st) :=
  g_put O hC hl d ha hn hn1 hk (Or.inl hfin) hd (h2 := sI h a k v) rfl rfl (by rw [fv_i hf, sI_1, up_s]; rfl) (fun j hj => fv_sI hj) (fun b hb => ce_sI hb) tT_I kk
theorem g_putZ (O : Ok F own cc nL rm rt) (hC : Cls c C T N) (hl : Cond.fieldLink own i (T k).1 (T k).2.1 (T k).2.2.1 ∈ Tb) (d : decode cc pc = .ok (.putfield i, 3)) (ha : lay a = (c, N)) (hn : a < w.1) (hn1 : w.1 ≤ 1000) (hk : k < N) (hf : ft c k = 0) (hfin : (T k).2.2.2 = false) (hd : parseFieldDescriptor (T k).2.2.1 = some .boolean) {v : Int32} (hv : v = 0 ∨ v = 1) (kk : Gd F Z w (sI h a k v) (pc + 3) lv st) : Gd F Z w h pc lv (.int v :: .ref a :: st) :=
  g_put O hC hl d ha hn hn1 hk (Or.inl hfin) hd (h2 := sI h a k v) (by rcases hv with rfl | rfl <;> rfl) (by rcases hv with rfl | rfl <;> rfl) (by rw [fv_i hf, sI_1, up_s]; rfl) (fun j hj => fv_sI hj) (fun b hb => ce_sI hb) tT_I kk
theorem g_putL (O : Ok F own cc nL rm rt) (hC : Cls c C T N) (hl : Cond.fieldLink own i (T k).1 (T k).2.1 (T k).2.2.1 ∈ Tb) (d : decode cc pc = .ok (.putfield i, 3)) (ha : lay a = (c, N)) (hn : a < w.1) (hn1 : w.1 ≤ 1000) (hk : k < N) (hf : ft c k = 1) (hfin : (T k).2.2.2 = false) (hd : parseFieldDescriptor (T k).2.2.1 = some .long) {v : Int64} (kk : Gd F Z w (sL h a k v) (pc + 3) lv st) : Gd F Z w h pc lv (.long v :: .ref a :: st) :=
  g_put O hC hl d ha hn hn1 hk (Or.inl hfin) hd (h2 := sL h a k v) rfl rfl (by rw [fv_l hf, sL_1, up_s]; rfl) (fun j hj => fv_sL hj) (fun b hb => ce_sL hb) tT_L kk
theorem g_putR (O : Ok F own cc nL rm rt) (hC : Cls c C T N) (hl : Cond.fieldLink own i (T k).1 (T k).2.1 (T k).2.2.1 ∈ Tb) (d : decode cc pc = .ok (.putfield i, 3)) (ha : lay a = (c, N)) (hn : a < w.1) (hn1 : w.1 ≤ 1000) (hk : k < N) (hf : ft c k = 2) (hs : (fG F).2.2.2.2 a k = none) (hfin : (T k).2.2.2 = false) {ty : FieldType} (hd : parseFieldDescriptor (T k).2.2.1 = some ty) {v : Nat} (hnr : narrow ty (.ref (fr F v)) = .ref (fr F v)) (hft : fits ty (.ref (fr F v)) = true) (kk : Gd F Z w (sR h a k (some v)) (pc + 3) lv st) (hx : c ≠ 3 ∨ k ≠ 5 := by decide) : Gd F Z w h pc lv (.ref v :: .ref a :: st) :=
  g_put O hC hl d ha hn hn1 hk (Or.inl hfin) hd (h2 := sR h a k (some v)) hnr hft (by rw [fv_r hf hs, sR_1, up_s]; rfl) (fun j hj => fv_sR hj) (fun b hb => ce_sR hb (t26 ha hk)) (tT_R (t265 ha hk hx)) kk
theorem g_putF (O : Ok F own cc nL rm rt) (hC : Cls c C T N) (hl : Cond.fieldLink own i (T k).1 (T k).2.1 (T k).2.2.1 ∈ Tb) (d : decode cc pc = .ok (.putfield i, 3)) (ha : lay a = (c, N)) (hn : a < w.1) (hn1 : w.1 ≤ 1000) (hk : k < N) (hf : ft c k = 2) (hs : (fG F).2.2.2.2 a k = none) (hfin : (T k).2.2.2 = true) (hi : (ft' F).name = "<init>") (ho : (T k).1 = own) {ty : FieldType} (hd : parseFieldDescriptor (T k).2.2.1 = some ty) {v : Nat} (hnr : narrow ty (.ref (fr F v)) = .ref (fr F v)) (hft : fits ty (.ref (fr F v)) = true) (kk : Gd F Z w (sR h a k (some v)) (pc + 3) lv st) (hx : c ≠ 3 ∨ k ≠ 5 := by decide) : Gd F Z w h pc lv (.ref v :: .ref a :: st) :=
  g_put O hC hl d ha hn hn1 hk (Or.inr ⟨hfin, hi, ho⟩) hd (h2 := sR h a k (some v)) hnr hft (by rw [fv_r hf hs, sR_1, up_s]; rfl) (fun j hj => fv_sR hj) (fun b hb => ce_sR hb (t26 ha hk)) (tT_R (t265 ha hk hx)) kk
/-! arrays -/
theorem wl_i (ha : lay a = (100, n)) (hn : a < w.1) : (wl (fG F) w.1 h)[a]? = some (fr F a, .inl ((fG F).2.2.2.1 0, n, .inl (h.1 a))) := by rw [wl_an hn (lay_31 ha (by decide)), ce_a (t := 0) ha (lay_31 ha (by decide))]; rfl
theorem wl_b (ha : lay a = (101, n)) (hn : a < w.1) (e31 : a ≠ 31) : (wl (fG F) w.1 h)[a]? = some (fr F a, .inl ((fG F).2.2.2.1 1, n, .inl (h.1 a))) := by rw [wl_an hn e31, ce_a (t := 1) ha e31]; rfl
theorem wl_l (ha : lay a = (102, n)) (hn : a < w.1) : (wl (fG F) w.1 h)[a]? = some (fr F a, .inl ((fG F).2.2.2.1 2, n, .inr (.inl (h.2.1 a)))) := by rw [wl_an hn (lay_31 ha (by decide)), ce_a (t := 2) ha (lay_31 ha (by decide))]; rfl
theorem wl_q {t : Nat} (ha : lay a = (103 + t, n)) (hn : a < w.1) : (wl (fG F) w.1 h)[a]? = some (fr F a, .inl ((fG F).2.2.2.1 (3 + t), n, .inr (.inr (.inr (.inr (fun i => (h.2.2 a i).map (fr F))))))) := by
  rw [wl_an hn (lay_31 ha (by omega)), ce_a (t := 3 + t) (by rw [ha]; congr 1; omega) (lay_31 ha (by omega))]
  have h1 : ¬ (3 + t < 2) := by omega
  have h2 : ¬ (3 + t = 2) := by omega
  simp [ac, h1, h2]
theorem g_iald (O : Ok F own cc nL rm rt) (d : decode cc pc = .ok (.iaload, 1)) {x : Int32} {j : Nat} (e : x = I (j : Int)) (ha : lay a = (100, n)) (hn : a < w.1) (hj : j < n) (hN : n < 2 ^ 31) {v : Int32} (hv : h.1 a j = v) (kk : Gd F Z w h (pc + 1) lv (.int v :: st)) : Gd F Z w h pc lv (.int x :: .ref a :: st) := by
  subst e; subst hv
  intro H locs ls hw hS hl'
  refine va_iald O.1 O.2.1 (okK O) hw.1 a 0 (wl_i ha hn) rfl (I_in hj hN) d ?_
  rw [I_cl (by omega)]
  exact kk H locs ls hw hS hl'
theorem g_bald (O : Ok F own cc nL rm rt) (d : decode cc pc = .ok (.baload, 1)) {x : Int32} {j : Nat} (e : x = I (j : Int)) (ha : lay a = (101, n)) (hn : a < w.1) (hj : j < n) (hN : n < 2 ^ 31) {v : Int32} (hv : h.1 a j = v) (kk : Gd F Z w h (pc + 1) lv (.int v :: st)) (e31 : a ≠ 31 := by decide) : Gd F Z w h pc lv (.int x :: .ref a :: st) := by
  subst e; subst hv
  intro H locs ls hw hS hl'
  refine va_bald O.1 O.2.1 (okK O) hw.1 a 1 (wl_b ha hn e31) rfl (I_in hj hN) d ?_
  rw [I_cl (by omega)]
  exact kk H locs ls hw hS hl'
theorem g_lald (O : Ok F own cc nL rm rt) (d : decode cc pc = .ok (.laload, 1)) {x : Int32} {j : Nat} (e : x = I (j : Int)) (ha : lay a = (102, n)) (hn : a < w.1) (hj : j < n) (hN : n < 2 ^ 31) {v : Int64} (hv : h.2.1 a j = v) (kk : Gd F Z w h (pc + 1) lv (.long v :: st)) : Gd F Z w h pc lv (.int x :: .ref a :: st) := by
  subst e; subst hv
  intro H locs ls hw hS hl'
  refine va_lald O.1 O.2.1 (okK O) hw.1 a 2 (wl_l ha hn) rfl (I_in hj hN) d ?_
  rw [I_cl (by omega)]
  exact kk H locs ls hw hS hl'
theorem g_aald (O : Ok F own cc nL rm rt) (d : decode cc pc = .ok (.aaload, 1)) {x : Int32} {j t : Nat} (e : x = I (j : Int)) (ht : t < 2) (ha : lay a = (103 + t, n)) (hn : a < w.1) (hj : j < n) (hN : n < 2 ^ 31) (hv : h.2.2 a j = some b) (kk : Gd F Z w h (pc + 1) lv (.ref b :: st)) : Gd F Z w h pc lv (.int x :: .ref a :: st) := by
  subst e
  intro H locs ls hw hS hl'
  rcases (show t = 0 ∨ t = 1 by omega) with rfl | rfl
  · refine va_aldq (C := RX1) O.1 O.2.1 (okK O) hw.1 a 3 (wl_q (t := 0) ha hn) rfl (I_in hj hN) d ?_
    rw [I_cl (by omega)]
    simp only [hv]
    exact kk H locs ls hw hS hl'
  · refine va_aldq (C := RX4) O.1 O.2.1 (okK O) hw.1 a 4 (wl_q (t := 1) ha hn) rfl (I_in hj hN) d ?_
    rw [I_cl (by omega)]
    simp only [hv]
    exact kk H locs ls hw hS hl'
theorem g_alen (O : Ok F own cc nL rm rt) (d : decode cc pc = .ok (.arraylength, 1)) (ha : lay a = (100, n)) (hn : a < w.1) (kk : Gd F Z w h (pc + 1) lv (.int (I (n : Int)) :: st)) : Gd F Z w h pc lv (.ref a :: st) :=
  fun H locs ls hw hS hl' => va_alen O.1 O.2.1 (okK O) hw.1 a 0 (wl_i ha hn) rfl (I_nat n).symm d (kk H locs ls hw hS hl')
theorem ce_i {G : Gm} {h : AH} (ha : lay a = (100, n)) : ce G h a = .inl (G.2.2.2.1 0, n, .inl (h.1 a)) := by rw [ce_a (t := 0) ha (lay_31 ha (by decide))]; rfl
theorem ce_b {G : Gm} {h : AH} (ha : lay a = (101, n)) (e31 : a ≠ 31) : ce G h a = .inl (G.2.2.2.1 1, n, .inl (h.1 a)) := by rw [ce_a (t := 1) ha e31]; rfl
theorem ce_l {G : Gm} {h : AH} (ha : lay a = (102, n)) : ce G h a = .inl (G.2.2.2.1 2, n, .inr (.inl (h.2.1 a))) := by rw [ce_a (t := 2) ha (lay_31 ha (by decide))]; rfl
theorem ce_q {G : Gm} {h : AH} {t : Nat} (ha : lay a = (103 + t, n)) : ce G h a = .inl (G.2.2.2.1 (3 + t), n, .inr (.inr (.inr (.inr (fun i => (h.2.2 a i).map G.2.1))))) := by
  rw [ce_a (t := 3 + t) (by rw [ha]; congr 1; omega) (lay_31 ha (by omega))]
  have h1 : ¬ (3 + t < 2) := by omega
  have h2 : ¬ (3 + t = 2) := by omega
  simp [ac, h1, h2]
theorem aA_at (O : Ok F own cc nL rm rt) (ha : a < 1000) : aA (fG F) (fr F a) := by have e8 : fr F a = bs (fG F) + a := (okE O).1 a ha; show bs (fG F) ≤ fr F a; omega
theorem g_iast (O : Ok F own cc nL rm rt) (d : decode cc pc = .ok (.iastore, 1)) {x y : Int32} {j : Nat} (e : x = I (j : Int)) (ha : lay a = (100, n)) (hn : a < w.1) (hn1 : w.1 ≤ 1000) (hj : j < n) (hN : n < 2 ^ 31) (kk : Gd F Z w (sI h a j y) (pc + 1) lv st) : Gd F Z w h pc lv (.int y :: .int x :: .ref a :: st) := by
  subst e
  intro H locs ls hw hS hl'
  have hin := I_in hj hN
  refine W.iast O.1 O.2.1 (hw.1 a _ (wl_i ha hn)) (((okK O).2 0 _ rfl).1 n (fun j => .int (h.1 a j))) (fun q => by cases q) (by show ¬ (_ < 0 ∨ (arrV _ _ _).slots.size ≤ _); rw [arrV_size]; exact hin) rfl rfl d fun H1 e z oq => ?_
  refine kk H1 _ ls (wd_setn (lay_31 ha (by decide)) (okE O) hn1 hw hn ?_ z oq (fun b hb => ce_sI hb) (tT_I hw.2.2.2)) (hS.put z oq (aA_at O (by omega))) hl'
  rw [ce_i ha]
  show H1[fr F a]? = some (vp_cell _ _)
  rw [e, vp_cell_i, vp_cell_i, arrV_store, I_cl (by omega), sI_1]
  congr 2
  funext q
  by_cases hq : q = j
  · subst hq
    simp [updV, up]
  · simp [updV, up, hq]
theorem g_bast (O : Ok F own cc nL rm rt) (d : decode cc pc = .ok (.bastore, 1)) {x y : Int32} {j : Nat} (e : x = I (j : Int)) (ha : lay a = (101, n)) (hn : a < w.1) (hn1 : w.1 ≤ 1000) (hj : j < n) (hN : n < 2 ^ 31) (kk : Gd F Z w (sI h a j y.toInt8.toInt32) (pc + 1) lv st) (e31 : a ≠ 31 := by decide) : Gd F Z w h pc lv (.int y :: .int x :: .ref a :: st) := by
  subst e
  intro H locs ls hw hS hl'
  have hin := I_in hj hN
  refine W.bast O.1 O.2.1 (hw.1 a _ (wl_b ha hn e31)) (((okK O).2 1 _ rfl).1 n (fun j => .int (h.1 a j))) (fun q => by cases q) (by show ¬ (_ < 0 ∨ (arrV _ _ _).slots.size ≤ _); rw [arrV_size]; exact hin) rfl rfl d fun H1 e z oq => ?_
  refine kk H1 _ ls (wd_setn e31 (okE O) hn1 hw hn ?_ z oq (fun b hb => ce_sI hb) (tT_I hw.2.2.2)) (hS.put z oq (aA_at O (by omega))) hl'
  rw [ce_b ha e31]
  show H1[fr F a]? = some (vp_cell _ _)
  rw [e, vp_cell_i, vp_cell_i, arrV_store, I_cl (by omega), sI_1]
  congr 2
  funext q
  by_cases hq : q = j
  · subst hq
    simp [updV, up, narrow]
  · simp [updV, up, hq]
theorem g_last (O : Ok F own cc nL rm rt) (d : decode cc pc = .ok (.lastore, 1)) {x : Int32} {y : Int64} {j : Nat} (e : x = I (j : Int)) (ha : lay a = (102, n)) (hn : a < w.1) (hn1 : w.1 ≤ 1000) (hj : j < n) (hN : n < 2 ^ 31) (kk : Gd F Z w (sL h a j y) (pc + 1) lv st) : Gd F Z w h pc lv (.long y :: .int x :: .ref a :: st) := by
  subst e
  intro H locs ls hw hS hl'
  have hin := I_in hj hN
  refine W.last O.1 O.2.1 (hw.1 a _ (wl_l ha hn)) (((okK O).2 2 _ rfl).1 n (fun j => .long (h.2.1 a j))) (fun q => by cases q) (by show ¬ (_ < 0 ∨ (arrV _ _ _).slots.size ≤ _); rw [arrV_size]; exact hin) rfl rfl d fun H1 e z oq => ?_
  refine kk H1 _ ls (wd_setn (lay_31 ha (by decide)) (okE O) hn1 hw hn ?_ z oq (fun b hb => ce_sL hb) (tT_L hw.2.2.2)) (hS.put z oq (aA_at O (by omega))) hl'
  rw [ce_l ha]
  show H1[fr F a]? = some (vp_cell _ _)
  rw [e, vp_cell_l, vp_cell_l, arrV_store, I_cl (by omega), sL_1]
  congr 2
  funext q
  by_cases hq : q = j
  · subst hq
    simp [updV, up]
  · simp [updV, up, hq]
theorem a26 (ha : lay a = (c, N)) (hc : c ≠ 3) : a ≠ 26 := by
  intro e
  subst e
  exact hc (congrArg Prod.fst ha).symm
theorem g_aast (O : Ok F own cc nL rm rt) (d : decode cc pc = .ok (.aastore, 1)) {x : Int32} {j t : Nat} (e : x = I (j : Int)) (ha : lay a = (103 + t, n)) (hn : a < w.1) (hn1 : w.1 ≤ 1000) (hj : j < n) (hN : n < 2 ^ 31) {N2 : Nat} (hC : Cls c C T N2) (ht : (tys5 (fG F))[3 + t]? = some ((fG F).2.2.2.1 (3 + t), .object C)) (hb : lay b = (c, N2)) (hbn : b < w.1) (kk : Gd F Z w (sR h a j (some b)) (pc + 1) lv st) : Gd F Z w h pc lv (.ref b :: .int x :: .ref a :: st) := by
  subst e
  intro H locs ls hw hS hl'
  have hK := okK O
  have hlt : (I (j : Int)).toNatClampNeg < n := by rw [I_cl (by omega)]; exact hj
  have h0 : ¬ I (j : Int) < 0 := fun q => I_in hj hN (Or.inl q)
  have hv : (wl (fG F) w.1 h)[b]? = some (fr F b, .inr (c, fvs (fG F) h b c N2)) := wl_o hb hC.2.2.1 hbn
  obtain ⟨r', hr', cellV, g1, g2, g3, -⟩ := hw.1 b _ hv
  have hcls := (hK.1 c _ hC.1).2
  obtain ⟨kA, comp, k1, k2, k3, -⟩ := (hK.2 (3 + t) _ ht).2
  have hcomp : comp = (fG F).2.2.1.1 c := Option.some.inj (k3.symm.trans hcls.1)
  subst hcomp
  obtain ⟨kC, hkC, -⟩ := hcls.2
  refine W.aast O.1 O.2.1 (hw.1 a _ (wl_q ha hn)) (fun q h => by cases h) (fun h => by cases h) k1 k2 rfl hkC ⟨h0, by show _ < (arrV _ _ _).slots.size; rw [arrV_size]; exact hlt⟩ g1 (fun q h => by rw [g3] at h; cases h) (by rw [g2]; exact hkC) (by rw [g2]; exact va_assign hcls) rfl rfl d fun H1 e z oq => ?_
  refine kk H1 _ ls (wd_setn (lay_31 ha (by omega)) (okE O) hn1 hw hn ?_ z oq (fun b hb => ce_sR hb (Or.inl (a26 ha (by omega)))) (tT_R (Or.inl (a26 ha (by omega))) hw.2.2.2)) (hS.put z oq (aA_at O (by omega))) hl'
  rw [ce_q ha]
  show H1[fr F a]? = some (vp_cell _ _)
  rw [e, vp_cell_q, vp_cell_q, arrV_store, I_cl (by omega), sR_1]
  congr 2
  funext q
  by_cases hq : q = j
  · subst hq
    simp [updV, up, va_rf]
  · simp [updV, up, hq]
end GH
