/-! contracts, returns, calls -/
abbrev MD : Type := MethodName × ByteArray × Nat × Option FieldType × Room
def wsm (M : MD) : List Cond := .code M.1 M.2.1 M.2.2.1 M.2.2.2.1 :: Tb
def Pc (G : Gm) (av : List Value) (n : Nat) (h : AH) : Array Value → State → Prop := fun v U => v = (av.map (cv G.2.1)).toArray ∧ wd G n h U.heap ∧ G.1.WarmedH U.vm ∧ Env0 G
def Qc (G : Gm) (n : Nat) (Q : Option Value → AH → Prop) : Array Value → State → Outcome → State → Prop := fun _ _ oc t => ∃ (r : Option Value) (h : AH), oc = .returned (r.map (cv G.2.1)) ∧ Q r h ∧ wd G n h t.heap
/-- n, n2: the numbered cells at the start and at the end; the cells and slots that the method may make. Spec: a constructor, whose cells are all numbered -/
def Spc (G : Gm) (l : Launch) (M : MD) (n n2 mc ms : Nat) (h : AH) (av : List Value) (Q : Option Value → AH → Prop) : Prop := Met l M.1 (wsm M) M.2.2.2.2 (Pc G av n h) (Qc G n2 Q) mc ms (aA G)
abbrev Spec (G : Gm) (l : Launch) (M : MD) (w : Nat × Nat × Nat) (h : AH) (av : List Value) (Q : Option Value → AH → Prop) : Prop := Spc G l M w.1 (w.1 + w.2.1) w.2.1 w.2.2 h av Q
def MZ (F : Fr) (w : Nat × Nat × Nat) (Q : Option Value → AH → Prop) : State → Prop := MQ (fb F) (Qc (fG F) w.1 Q) (fa F) (fs F) w.2.1 w.2.2 (aA (fG F))
theorem Spec.mono {G : Gm} {l : Launch} {M : MD} {n n2 mc ms : Nat} {h : AH} {av : List Value} {Q Q2 : Option Value → AH → Prop} (S : Spc G l M n n2 mc ms h av Q) (k : ∀ r h', Q r h' → Q2 r h') : Spc G l M n n2 mc ms h av Q2 := by
  unfold Spc Met MetFree at S ⊢
  intro p e ha hc hk s m args below hf hap hP hK
  obtain ⟨t, o, h1, h2, h3, ⟨r, h', q1, q2, q3⟩, h4⟩ := S p e ha hc hk s m args below hf hap hP hK
  exact ⟨t, o, h1, h2, h3, ⟨r, h', q1, k r h' q2, q3⟩, h4⟩
theorem args_cv (r : Nat → Nat) : ∀ (n : Nat) (av : List Value), lv_args n (av.map (cv r)) = (lv_args n av).map (cvq r)
  | _, [] => rfl
  | n, v :: l => by
    simp only [List.map_cons, lv_args]
    rw [cv_cat, args_cv r _ l]
    rfl
theorem sl_cv (r : Nat → Nat) (av : List Value) : (lg_sl (av.map (cv r))).length = (lg_sl av).length := by
  induction av with
  | nil => rfl
  | cons v l ih =>
    have h1 : ∀ x : Value, ∀ l : List Value, lg_sl (x :: l) = (if x.category = 2 then [.val x, .second] else [.val x]) ++ lg_sl l := fun _ _ => rfl
    rw [List.map_cons, h1, h1, List.length_append, List.length_append, ih, cv_cat]
    by_cases hc : v.category = 2 <;> simp [hc]
theorem spc_of {G : Gm} {l : Launch} {M : MD} {n n2 mc ms : Nat} {h : AH} {av : List Value} {Q : Option Value → AH → Prop} (hy : plainName M.1.cls = true) (hlen : (lg_sl av).length ≤ M.2.2.1)
    (body : ∀ X, Ok (G, l, X) M.1.cls M.2.1 M.2.2.1 M.2.2.2.2 M.2.2.2.1 → (ft' (G, l, X)).name = M.1.name → Gd (G, l, X) (MZ (G, l, X) (n2, mc, ms) Q) (n, 0, 0) h 0 (lv_args 0 av) []) : Spc G l M n n2 mc ms h av Q := by
  refine Met.ofW (cc := M.2.1) (maxL := M.2.2.1) (ret := M.2.2.2.1) hy rfl ?_
  intro p e s m args below meth c s₁ B hml hv
  obtain ⟨rfl, hw, hWm, hE⟩ := hv
  have hts := atoms_spec (ws := wsm M) B.pre
  have hown : s.vm.findClass M.1.cls = some m.cls := findClass_of_methodNamed B.named
  have O : Ok (G, l, p, e, M.2.2.2.2, s, m, (av.map (cv G.2.1)).toArray, below, meth, c, M.2.2.1) M.1.cls M.2.1 M.2.2.1 M.2.2.2.2 M.2.2.2.1 :=
    ⟨B.exec, B.bytes, hml, hown, fun x hx => hts x (List.mem_cons_of_mem _ hx), hWm, hE, B.notSynchronized, hw.2.2.1, rfl, rfl, B.returns, by have := hw.2.1; show bs G ≤ s.heap.size; omega⟩
  have hb := body (p, e, M.2.2.2.2, s, m, (av.map (cv G.2.1)).toArray, below, meth, c, M.2.2.1) O (name_of_methodNamed B.named B.method).1
  rw [lg_entry_eq]
  refine hb s.heap [] _ hw va_S.rf ?_
  have hl := lv_entry (av.map (cv G.2.1)) (n := M.2.2.1) (by rw [sl_cv]; exact hlen)
  rw [args_cv] at hl
  exact hl
theorem spec_of {G : Gm} {l : Launch} {M : MD} {n mc ms : Nat} {h : AH} {av : List Value} {Q : Option Value → AH → Prop} (hy : plainName M.1.cls = true) (hlen : (lg_sl av).length ≤ M.2.2.1)
    (body : ∀ X, Ok (G, l, X) M.1.cls M.2.1 M.2.2.1 M.2.2.2.2 M.2.2.2.1 → (ft' (G, l, X)).name = M.1.name → Gd (G, l, X) (MZ (G, l, X) (n + mc, mc, ms) Q) (n, 0, 0) h 0 (lv_args 0 av) []) : Spec G l M (n, mc, ms) h av Q := spc_of hy hlen body
/-- more room than is used -/
theorem g_wide {F : Fr} {Z : State → Prop} {n c1 s1 c2 s2 : Nat} {h : AH} {pc : Nat} {lv : List (Nat × Value)} {st : List Value} (h1 : c1 ≤ c2) (h2 : s1 ≤ s2) (k : Gd F Z (n, c2, s2) h pc lv st) : Gd F Z (n, c1, s1) h pc lv st := fun H locs ls hw hS hl => W.widen h1 h2 (k H locs ls hw hS hl)
section GC
variable {F : Fr} {Z : State → Prop} {w : Nat × Nat × Nat} {h : AH} {pc : Nat} {lv : List (Nat × Value)} {st : List Value} {own : String} {cc : ByteArray} {nL : Nat} {rm : Room} {rt : Option FieldType} {c i k a N n b : Nat} {C : String} {T : u_T}
theorem qc_of {Q : Option Value → AH → Prop} {H : Heap} {r : Option Value} {v : Option Value} (hw : wd (fG F) w.1 h H) (q : Q r h) (hr : v = r.map (cv (fr F))) : ∀ t : State, t.heap = H → (fs F).WarmedH t.vm → Qc (fG F) w.1 Q (fa F) (fs F) (.returned v) t := fun t ht _ => ⟨r, h, by rw [hr], q, by rw [ht]; exact hw⟩
theorem g_iret (O : Ok F own cc nL rm (some .int)) {Q : Option Value → AH → Prop} (d : decode cc pc = .ok (.ireturn, 1)) {v : Int32} (q : Q (some (.int v)) h) : Gd F (MZ F w Q) w h pc lv [.int v] :=
  fun H locs ls hw hS hl => W.iret (v := v) O.1 O.2.1 O.2.2.2.2.2.2.2.2.2.2.2.1 (qc_of hw q rfl) hS.2.2 d O.2.2.2.2.2.2.2.1
theorem g_zret (O : Ok F own cc nL rm (some .boolean)) {Q : Option Value → AH → Prop} (d : decode cc pc = .ok (.ireturn, 1)) {v : Int32} (hv : v = 0 ∨ v = 1) (q : Q (some (.int v)) h) : Gd F (MZ F w Q) w h pc lv [.int v] :=
  fun H locs ls hw hS hl => W.zret (v := v) (ty := .boolean) O.1 O.2.1 O.2.2.2.2.2.2.2.2.2.2.2.1 (by rcases hv with rfl | rfl <;> rfl) (qc_of hw q rfl) hS.2.2 d O.2.2.2.2.2.2.2.1
theorem g_tret {ty : FieldType} (O : Ok F own cc nL rm (some ty)) {Q : Option Value → AH → Prop} (d : decode cc pc = .ok (.ireturn, 1)) {v : Int32} (hv : narrow ty (.int v) = .int v) (q : Q (some (.int v)) h) : Gd F (MZ F w Q) w h pc lv [.int v] :=
  fun H locs ls hw hS hl => W.zret (v := v) (ty := ty) O.1 O.2.1 O.2.2.2.2.2.2.2.2.2.2.2.1 hv (qc_of hw q rfl) hS.2.2 d O.2.2.2.2.2.2.2.1
theorem g_lret (O : Ok F own cc nL rm (some .long)) {Q : Option Value → AH → Prop} (d : decode cc pc = .ok (.lreturn, 1)) {v : Int64} (q : Q (some (.long v)) h) : Gd F (MZ F w Q) w h pc lv [.long v] :=
  fun H locs ls hw hS hl => W.lret (v := v) O.1 O.2.1 O.2.2.2.2.2.2.2.2.2.2.2.1 (qc_of hw q rfl) hS.2.2 d O.2.2.2.2.2.2.2.1
theorem g_vret (O : Ok F own cc nL rm none) {Q : Option Value → AH → Prop} (d : decode cc pc = .ok (.return_, 1)) (q : Q none h) : Gd F (MZ F w Q) w h pc lv [] :=
  fun H locs ls hw hS hl => W.vret O.1 O.2.1 O.2.2.2.2.2.2.2.2.2.2.2.1 (qc_of hw q rfl) hS.2.2 d O.2.2.2.2.2.2.2.1
/-- what every call asks of the method that it calls -/
def Mk (M : MD) (n : Nat) : Prop := Cond.initialized M.1.cls ∈ Tb ∧ Cond.code M.1 M.2.1 M.2.2.1 M.2.2.2.1 ∈ Tb ∧ M.1.cls ≠ "java/lang/invoke/MethodHandle" ∧ M.1.cls ≠ "java/lang/invoke/VarHandle" ∧ (parseMethodDescriptor M.1.desc).map (fun d => d.parameters.length) = some n
theorem mk_good {M : MD} {n : Nat} (hM : Mk M n) : GoodIn Tb (wsm M) := tb_ok (fun x hx => by
  rcases List.mem_cons.mp hx with rfl | hx
  · exact hM.2.1
  · exact hx)
theorem mk_cb (O : Ok F own cc nL rm rt) {M : MD} {mc ms : Nat} (hM : Mk M n) (hl : Cond.methodLink own i M.1 ∈ Tb) (hr : M.2.2.2.2.cells = mc ∧ M.2.2.2.2.slots = ms ∧ M.2.2.2.2.frames + 1 ≤ rm.frames ∧ 8 + (M.2.2.1 + 11) + M.2.2.2.2.locals ≤ rm.locals) : CallB (fR F) (fs F) (fa F) own i M.1 M.2.1 M.2.2.1 M.2.2.2.1 (wsm M) M.2.2.2.2 mc ms n :=
  callB_of (Ts := Tb) n O.2.2.2.2.1 (mk_good hM) rfl hr.1 hr.2.1 (okS O hM.1) (okS O hl) hM.2.2 (by rw [O.2.2.2.2.2.2.2.2.2.2.1]; exact hr.2.2)
theorem pc_blind {G : Gm} {av : List Value} {n : Nat} {h : AH} : FrameBlind (Pc G av n h) := fun a U g mk q => ⟨q.1, q.2.1, q.2.2.1, q.2.2.2⟩
theorem pc_at (O : Ok F own cc nL rm rt) {H : Heap} {av : List Value} {n : Nat} (hw : wd (fG F) n h H) : ∀ U : State, U.heap = H → (fs F).WarmedH U.vm → Pc (fG F) av n h (av.map (cv (fr F))).toArray U := fun U hU hW => ⟨rfl, by rw [hU]; exact hw, State.WarmedH.trans O.2.2.2.2.2.1 hW, okE O⟩
/-- behind a call -/
theorem g_back (O : Ok F own cc nL rm rt) {H : Heap} {locs : List Loc} {ls : Array Slot} {n2 mc ms : Nat} {st0 : List Value} {a' : Array Value} (hw0 : wd (fG F) w.1 h H) (hS : va_S (aA (fG F)) (fs F).heap H locs) (hl : lv_has ls (fn F) (lv.map (cvq (fr F))))
    (hr : va_Run (fp F) (fl F) (fe F) (fR F) (fs F) (fm F) (fa F) (fb F) (ft' F) (fc F) H locs w.2.1 w.2.2 mc ms (F0 (fm F) pc ls st0) (st.map (cv (fr F))) (Qc (fG F) n2 (fun r h' => Gd F Z (n2, w.2.1 + mc, w.2.2 + ms) h' (pc + 3) lv (r.toList ++ st)) a') (aA (fG F))) : WW F H locs w.2.1 w.2.2 Z (F0 (fm F) pc ls st0) := by
  intro Ts hT X
  obtain ⟨v, st₀, t, T', L, h0, X', hL, e1, e2, ⟨r, h', hv, hg, hw'⟩, go⟩ := hr Ts hT X
  have hv : v = r.map (cv (fr F)) := by cases hv; rfl
  have hS' : va_S (aA (fG F)) (fs F).heap t.heap (locs ++ L) := by
    refine ⟨by have h1 : (fs F).heap.size ≤ T'.heap.size := X'.same.2.1; rw [e1] at h1; exact h1, fun q h1 h2 => ?_, fun q hq => ?_⟩
    · have hq : q < bs (fG F) := Nat.not_le.mp h2
      rw [hw'.2.2.1 q hq, O.2.2.2.2.2.2.2.2.1 q hq]
    · rcases List.mem_append.mp hq with h1 | h1
      · exact hS.2.2 q h1
      · exact hL q h1
  have key := hg t.heap (locs ++ L) ls hw' hS' hl T' e1 X'
  obtain ⟨t2, a1, b1⟩ := key
  refine ⟨t2, go t2 ?_, b1⟩
  have e9 : (r.toList ++ st).map (cv (fr F)) = v.toList ++ st.map (cv (fr F)) := by
    rw [hv]
    cases r <;> simp
  rw [e9] at a1
  exact a1
theorem cat_cv (st : List Value) (r : Nat → Nat) : ((st.map (cv r)).map fun v => v.category).sum = (st.map fun v => v.category).sum := by
  induction st with
  | nil => rfl
  | cons v l ih => simp only [List.map_cons, List.sum_cons, cv_cat, ih]
theorem g_callV (O : Ok F own cc nL rm rt) {M : MD} {n2 mc ms : Nat} {av : List Value} (hM : Mk M n) (hl : Cond.methodLink own i M.1 ∈ Tb) (hi : Cond.instanceMethod M.1 ∈ Tb) (hs : Cond.selects M.1.cls M.1 M.1 ∈ Tb) (hC : Cls c M.1.cls T N) (ha : lay a = (c, N)) (han : a < w.1) (hr : M.2.2.2.2.cells = mc ∧ M.2.2.2.2.slots = ms ∧ M.2.2.2.2.frames + 1 ≤ rm.frames ∧ 8 + (M.2.2.1 + 11) + M.2.2.2.2.locals ≤ rm.locals) (hn : av.length = n) (hW : (st.map fun v => v.category).sum ≤ 8) (hrm : w.2.1 + mc ≤ rm.cells ∧ w.2.2 + ms ≤ rm.slots) (d : decode cc pc = .ok (.invokevirtual i, 3))
    (S : Spc (fG F) (fl F) M w.1 n2 mc ms h (.ref a :: av) (fun r h' => Gd F Z (n2, w.2.1 + mc, w.2.2 + ms) h' (pc + 3) lv (r.toList ++ st))) {st0 : List Value} (hst : st0 = av.reverse ++ .ref a :: st) : Gd F Z w h pc lv st0 := by
  subst hst
  intro H locs ls hw hS hl'
  have hrv : ∃ cellB : Cell, H[fr F a]? = some cellB ∧ cellB.vm.isStatics = false ∧ (fs F).vm.findClass M.1.cls = some cellB.cls := va_recv (okK O) hw.1 hC.1 (wl_o ha hC.2.2.1 han)
  refine g_back O hw hS hl' (va_runV (As := av.map (cv (fr F))) (b := fr F a) (C := M.1.cls) ⟨O.1, O.2.1, O.2.2.1, O.2.2.2.1, O.2.2.2.2.1⟩ S ⟨mk_cb O hM hl hr, okS O hi, okS O hs⟩ ⟨pc_blind, hrv, pc_at (av := .ref a :: av) O hw⟩ rfl (by rw [List.length_map]; exact hn) hl'.1 ?_ (lv_room (by rw [cat_cv]; exact hW)) d (by rw [O.2.2.2.2.2.2.2.2.2.2.1]; exact hrm))
  show ((av.reverse ++ .ref a :: st).map (cv (fr F))) = _
  rw [List.map_append, List.map_reverse]
  rfl
theorem g_callS (O : Ok F own cc nL rm rt) {M : MD} {n2 mc ms : Nat} {av : List Value} (hM : Mk M n) (hl : Cond.methodLink own i M.1 ∈ Tb) (hi : Cond.static M.1 ∈ Tb) (hr : M.2.2.2.2.cells = mc ∧ M.2.2.2.2.slots = ms ∧ M.2.2.2.2.frames + 1 ≤ rm.frames ∧ 8 + (M.2.2.1 + 11) + M.2.2.2.2.locals ≤ rm.locals) (hn : av.length = n) (hW : (st.map fun v => v.category).sum ≤ 8) (hrm : w.2.1 + mc ≤ rm.cells ∧ w.2.2 + ms ≤ rm.slots) (d : decode cc pc = .ok (.invokestatic i, 3))
    (S : Spc (fG F) (fl F) M w.1 n2 mc ms h av (fun r h' => Gd F Z (n2, w.2.1 + mc, w.2.2 + ms) h' (pc + 3) lv (r.toList ++ st))) {st0 : List Value} (hst : st0 = av.reverse ++ st) : Gd F Z w h pc lv st0 := by
  subst hst
  intro H locs ls hw hS hl'
  refine g_back O hw hS hl' (va_runS (As := av.map (cv (fr F))) ⟨O.1, O.2.1, O.2.2.1, O.2.2.2.1, O.2.2.2.2.1⟩ S ⟨mk_cb O hM hl hr, okS O hi⟩ ⟨pc_blind, pc_at (av := av) O hw⟩ rfl (by rw [List.length_map]; exact hn) hl'.1 ?_ (lv_room (by rw [cat_cv]; exact hW)) d (by rw [O.2.2.2.2.2.2.2.2.2.2.1]; exact hrm))
  show ((av.reverse ++ st).map (cv (fr F))) = _
  rw [List.map_append, List.map_reverse]
theorem g_callI (O : Ok F own cc nL rm rt) {M : MD} {n2 mc ms : Nat} {av : List Value} (hM : Mk M n) (hrt : M.2.2.2.1 = none) (hl : Cond.methodLink own i M.1 ∈ Tb) (hi : Cond.instanceMethod M.1 ∈ Tb) (hy : M.1.name = "<init>") (hr : M.2.2.2.2.cells = mc ∧ M.2.2.2.2.slots = ms ∧ M.2.2.2.2.frames + 1 ≤ rm.frames ∧ 8 + (M.2.2.1 + 11) + M.2.2.2.2.locals ≤ rm.locals) (hn : av.length = n) (hW : (st.map fun v => v.category).sum ≤ 8) (hrm : w.2.1 + mc ≤ rm.cells ∧ w.2.2 + ms ≤ rm.slots) (d : decode cc pc = .ok (.invokespecial i, 3))
    (S : Spc (fG F) (fl F) M w.1 n2 mc ms h (.ref a :: av) (fun r h' => Gd F Z (n2, w.2.1 + mc, w.2.2 + ms) h' (pc + 3) lv (r.toList ++ st))) {st0 : List Value} (hst : st0 = av.reverse ++ .ref a :: st) : Gd F Z w h pc lv st0 := by
  subst hst
  intro H locs ls hw hS hl'
  have cb := mk_cb O hM hl hr
  rw [hrt] at cb
  refine g_back O hw hS hl' (va_runI (As := av.map (cv (fr F))) (b := fr F a) ⟨O.1, O.2.1, O.2.2.1, O.2.2.2.1, O.2.2.2.2.1⟩ S ⟨cb, hy, okS O hi⟩ ⟨pc_blind, pc_at (av := .ref a :: av) O hw⟩ rfl (by rw [List.length_map]; exact hn) hl'.1 ?_ (lv_room (by rw [cat_cv]; exact hW)) d (by rw [O.2.2.2.2.2.2.2.2.2.2.1]; exact hrm))
  show ((av.reverse ++ .ref a :: st).map (cv (fr F))) = _
  rw [List.map_append, List.map_reverse]
  rfl
end GC
