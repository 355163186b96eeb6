/-! behind the constructors: all cells are there, fixed references are fixed -/
abbrev mg : Type := State × (Nat → Nat) × va_G × (Nat → ClassId)
abbrev mG (g : mg) : Gm := (g.1, g.2.1, g.2.2.1, g.2.2.2, SR)
abbrev XT : Type := Program × Env × Room × State × MethodId × Array Value × List Frame × Method × Code × Nat
abbrev FF (g : mg) (l : Launch) (X : XT) : Fr := (mG g, l, X)
abbrev W0 : Nat × Nat × Nat := (118, 0, 0)
/-- all of the method's own room used -/
abbrev WR (X : XT) : Nat × Nat × Nat := (118, X.2.2.1.cells, X.2.2.1.slots)
theorem okR {g : mg} {l : Launch} {X : XT} {own : String} {cc : ByteArray} {nL : Nat} {rm : Room} {rt : Option FieldType} (O : Ok (FF g l X) own cc nL rm rt) : X.2.2.1.cells ≤ rm.cells ∧ X.2.2.1.slots ≤ rm.slots := by
  have e : X.2.2.1 = rm := O.2.2.2.2.2.2.2.2.2.2.1
  rw [e]
  exact ⟨Nat.le_refl _, Nat.le_refl _⟩
def qI (Q : Int32 → AH → Prop) : Option Value → AH → Prop := fun r h => match r with
  | some (.int v) => Q v h
  | _ => False
def qL (Q : Int64 → AH → Prop) : Option Value → AH → Prop := fun r h => match r with
  | some (.long v) => Q v h
  | _ => False
def qV (Q : AH → Prop) : Option Value → AH → Prop := fun r h => match r with
  | none => Q h
  | _ => False
abbrev GI (g : mg) (l : Launch) (X : XT) (Q : Int32 → AH → Prop) (h : AH) (pc : Nat) (lv : List (Nat × Value)) (st : List Value) : Prop := Gd (FF g l X) (MZ (FF g l X) (WR X) (qI Q)) (WR X) h pc lv st
/-- before a row is made -/
abbrev GIA (g : mg) (l : Launch) (X : XT) (Q : Int32 → AH → Prop) (h : AH) (pc : Nat) (lv : List (Nat × Value)) (st : List Value) : Prop := Gd (FF g l X) (MZ (FF g l X) (WR X) (qI Q)) W0 h pc lv st
abbrev GL (g : mg) (l : Launch) (X : XT) (Q : Int64 → AH → Prop) (h : AH) (pc : Nat) (lv : List (Nat × Value)) (st : List Value) : Prop := Gd (FF g l X) (MZ (FF g l X) (WR X) (qL Q)) (WR X) h pc lv st
/-- before a row is made -/
abbrev GLA (g : mg) (l : Launch) (X : XT) (Q : Int64 → AH → Prop) (h : AH) (pc : Nat) (lv : List (Nat × Value)) (st : List Value) : Prop := Gd (FF g l X) (MZ (FF g l X) (WR X) (qL Q)) W0 h pc lv st
abbrev GV (g : mg) (l : Launch) (X : XT) (Q : AH → Prop) (h : AH) (pc : Nat) (lv : List (Nat × Value)) (st : List Value) : Prop := Gd (FF g l X) (MZ (FF g l X) (WR X) (qV Q)) (WR X) h pc lv st
/-- before a row is made -/
abbrev GVA (g : mg) (l : Launch) (X : XT) (Q : AH → Prop) (h : AH) (pc : Nat) (lv : List (Nat × Value)) (st : List Value) : Prop := Gd (FF g l X) (MZ (FF g l X) (WR X) (qV Q)) W0 h pc lv st
def SpI (g : mg) (l : Launch) (M : MD) (h : AH) (av : List Value) (Q : Int32 → AH → Prop) : Prop := Spc (mG g) l M 118 118 M.2.2.2.2.cells M.2.2.2.2.slots h av (qI Q)
def SpL (g : mg) (l : Launch) (M : MD) (h : AH) (av : List Value) (Q : Int64 → AH → Prop) : Prop := Spc (mG g) l M 118 118 M.2.2.2.2.cells M.2.2.2.2.slots h av (qL Q)
def SpV (g : mg) (l : Launch) (M : MD) (h : AH) (av : List Value) (Q : AH → Prop) : Prop := Spc (mG g) l M 118 118 M.2.2.2.2.cells M.2.2.2.2.slots h av (qV Q)
theorem qI_k {Q : Int32 → AH → Prop} {P : Option Value → AH → Prop} (k : ∀ v h', Q v h' → P (some (.int v)) h') : ∀ r h', qI Q r h' → P r h' := by
  intro r h' q
  cases r with
  | none => exact q.elim
  | some v => cases v <;> first | exact k _ _ q | exact q.elim
theorem qL_k {Q : Int64 → AH → Prop} {P : Option Value → AH → Prop} (k : ∀ v h', Q v h' → P (some (.long v)) h') : ∀ r h', qL Q r h' → P r h' := by
  intro r h' q
  cases r with
  | none => exact q.elim
  | some v => cases v <;> first | exact k _ _ q | exact q.elim
theorem qV_k {Q : AH → Prop} {P : Option Value → AH → Prop} (k : ∀ h', Q h' → P none h') : ∀ r h', qV Q r h' → P r h' := by
  intro r h' q
  cases r with
  | none => exact k _ q
  | some v => exact q.elim
theorem SpI.mono {g : mg} {l : Launch} {M : MD} {h : AH} {av : List Value} {Q Q2 : Int32 → AH → Prop} (S : SpI g l M h av Q) (k : ∀ v h', Q v h' → Q2 v h') : SpI g l M h av Q2 := Spec.mono S (qI_k k)
theorem SpL.mono {g : mg} {l : Launch} {M : MD} {h : AH} {av : List Value} {Q Q2 : Int64 → AH → Prop} (S : SpL g l M h av Q) (k : ∀ v h', Q v h' → Q2 v h') : SpL g l M h av Q2 := Spec.mono S (qL_k k)
theorem SpV.mono {g : mg} {l : Launch} {M : MD} {h : AH} {av : List Value} {Q Q2 : AH → Prop} (S : SpV g l M h av Q) (k : ∀ h', Q h' → Q2 h') : SpV g l M h av Q2 := Spec.mono S (qV_k k)
theorem spI_of {g : mg} {l : Launch} {M : MD} {h : AH} {av : List Value} {Q : Int32 → AH → Prop} (hy : plainName M.1.cls = true) (hlen : (lg_sl av).length ≤ M.2.2.1) (body : ∀ X, Ok (FF g l X) M.1.cls M.2.1 M.2.2.1 M.2.2.2.2 M.2.2.2.1 → GI g l X Q h 0 (lv_args 0 av) []) : SpI g l M h av Q := spc_of (n := 118) (n2 := 118) hy hlen (fun X O _ => by
  have e : X.2.2.1 = M.2.2.2.2 := O.2.2.2.2.2.2.2.2.2.2.1
  have := body X O
  rw [← e]
  exact g_wide (Nat.zero_le _) (Nat.zero_le _) this)
theorem spI_ofA {g : mg} {l : Launch} {M : MD} {h : AH} {av : List Value} {Q : Int32 → AH → Prop} (hy : plainName M.1.cls = true) (hlen : (lg_sl av).length ≤ M.2.2.1) (body : ∀ X, Ok (FF g l X) M.1.cls M.2.1 M.2.2.1 M.2.2.2.2 M.2.2.2.1 → GIA g l X Q h 0 (lv_args 0 av) []) : SpI g l M h av Q := spc_of (n := 118) (n2 := 118) hy hlen (fun X O _ => by
  have e : X.2.2.1 = M.2.2.2.2 := O.2.2.2.2.2.2.2.2.2.2.1
  have := body X O
  rw [← e]
  exact this)
theorem spL_of {g : mg} {l : Launch} {M : MD} {h : AH} {av : List Value} {Q : Int64 → AH → Prop} (hy : plainName M.1.cls = true) (hlen : (lg_sl av).length ≤ M.2.2.1) (body : ∀ X, Ok (FF g l X) M.1.cls M.2.1 M.2.2.1 M.2.2.2.2 M.2.2.2.1 → GL g l X Q h 0 (lv_args 0 av) []) : SpL g l M h av Q := spc_of (n := 118) (n2 := 118) hy hlen (fun X O _ => by
  have e : X.2.2.1 = M.2.2.2.2 := O.2.2.2.2.2.2.2.2.2.2.1
  have := body X O
  rw [← e]
  exact g_wide (Nat.zero_le _) (Nat.zero_le _) this)
theorem spL_ofA {g : mg} {l : Launch} {M : MD} {h : AH} {av : List Value} {Q : Int64 → AH → Prop} (hy : plainName M.1.cls = true) (hlen : (lg_sl av).length ≤ M.2.2.1) (body : ∀ X, Ok (FF g l X) M.1.cls M.2.1 M.2.2.1 M.2.2.2.2 M.2.2.2.1 → GLA g l X Q h 0 (lv_args 0 av) []) : SpL g l M h av Q := spc_of (n := 118) (n2 := 118) hy hlen (fun X O _ => by
  have e : X.2.2.1 = M.2.2.2.2 := O.2.2.2.2.2.2.2.2.2.2.1
  have := body X O
  rw [← e]
  exact this)
theorem spV_of {g : mg} {l : Launch} {M : MD} {h : AH} {av : List Value} {Q : AH → Prop} (hy : plainName M.1.cls = true) (hlen : (lg_sl av).length ≤ M.2.2.1) (body : ∀ X, Ok (FF g l X) M.1.cls M.2.1 M.2.2.1 M.2.2.2.2 M.2.2.2.1 → GV g l X Q h 0 (lv_args 0 av) []) : SpV g l M h av Q := spc_of (n := 118) (n2 := 118) hy hlen (fun X O _ => by
  have e : X.2.2.1 = M.2.2.2.2 := O.2.2.2.2.2.2.2.2.2.2.1
  have := body X O
  rw [← e]
  exact g_wide (Nat.zero_le _) (Nat.zero_le _) this)
theorem spV_ofA {g : mg} {l : Launch} {M : MD} {h : AH} {av : List Value} {Q : AH → Prop} (hy : plainName M.1.cls = true) (hlen : (lg_sl av).length ≤ M.2.2.1) (body : ∀ X, Ok (FF g l X) M.1.cls M.2.1 M.2.2.1 M.2.2.2.2 M.2.2.2.1 → GVA g l X Q h 0 (lv_args 0 av) []) : SpV g l M h av Q := spc_of (n := 118) (n2 := 118) hy hlen (fun X O _ => by
  have e : X.2.2.1 = M.2.2.2.2 := O.2.2.2.2.2.2.2.2.2.2.1
  have := body X O
  rw [← e]
  exact this)
section GM
variable {g : mg} {l : Launch} {X : XT} {Z : State → Prop} {h : AH} {pc : Nat} {lv : List (Nat × Value)} {st st0 : List Value} {own : String} {cc : ByteArray} {nL : Nat} {rm : Room} {rt : Option FieldType} {c i a N n : Nat} {T : u_T} {M : MD}
theorem g_wR (k : Gd (FF g l X) Z (WR X) h pc lv st) : Gd (FF g l X) Z W0 h pc lv st := g_wide (Nat.zero_le _) (Nat.zero_le _) k
theorem okQ (O : Ok (FF g l X) own cc nL rm rt) : rm.cells ≤ X.2.2.1.cells ∧ rm.slots ≤ X.2.2.1.slots := by
  have e : X.2.2.1 = rm := O.2.2.2.2.2.2.2.2.2.2.1
  rw [e]
  exact ⟨Nat.le_refl _, Nat.le_refl _⟩
/-- the callee's room in the caller's -/
def Rm (M : MD) (rm : Room) : Prop := M.2.2.2.2.cells = 0 ∧ M.2.2.2.2.slots = 0 ∧ M.2.2.2.2.frames + 1 ≤ rm.frames ∧ 8 + (M.2.2.1 + 11) + M.2.2.2.2.locals ≤ rm.locals
theorem sp_0 {G : Gm} {av : List Value} {Q : Option Value → AH → Prop} (hr : Rm M rm) (S : Spc G l M 118 118 M.2.2.2.2.cells M.2.2.2.2.slots h av Q) : Spc G l M 118 118 0 0 h av Q := by
  rw [hr.1, hr.2.1] at S
  exact S
/-- the room of a callee that may make a row -/
def RmA (M : MD) (rm : Room) : Prop := M.2.2.2.2.cells ≤ rm.cells ∧ M.2.2.2.2.slots ≤ rm.slots ∧ M.2.2.2.2.frames + 1 ≤ rm.frames ∧ 8 + (M.2.2.1 + 11) + M.2.2.2.2.locals ≤ rm.locals
theorem g_vI (av : List Value) (st : List Value) (O : Ok (FF g l X) own cc nL rm rt) (hM : Mk M n) (hl : Cond.methodLink own i M.1 ∈ Tb) (hi : Cond.instanceMethod M.1 ∈ Tb) (hs : Cond.selects M.1.cls M.1 M.1 ∈ Tb) (hC : Cls c M.1.cls T N) (ha : lay a = (c, N)) (hr : Rm M rm) (hn : av.length = n) (hW : (st.map fun v => v.category).sum ≤ 8) (d : decode cc pc = .ok (.invokevirtual i, 3)) {Q : Int32 → AH → Prop} (S : SpI g l M h (.ref a :: av) Q) (hst : st0 = av.reverse ++ .ref a :: st) (k : ∀ v h', Q v h' → Gd (FF g l X) Z (WR X) h' (pc + 3) lv (.int v :: st)) : Gd (FF g l X) Z (WR X) h pc lv st0 :=
  g_callV (w := WR X) (n2 := 118) (h := h) (mc := 0) (ms := 0) O hM hl hi hs hC ha (lay_lt ha (by have := hC.2.2.1; omega)) hr hn hW (okR O) d (Spec.mono (sp_0 hr S) (qI_k k)) hst
theorem g_vI0 (av : List Value) (st : List Value) (O : Ok (FF g l X) own cc nL rm rt) (hM : Mk M n) (hl : Cond.methodLink own i M.1 ∈ Tb) (hi : Cond.instanceMethod M.1 ∈ Tb) (hs : Cond.selects M.1.cls M.1 M.1 ∈ Tb) (hC : Cls c M.1.cls T N) (ha : lay a = (c, N)) (hr : Rm M rm) (hn : av.length = n) (hW : (st.map fun v => v.category).sum ≤ 8) (d : decode cc pc = .ok (.invokevirtual i, 3)) {Q : Int32 → AH → Prop} (S : SpI g l M h (.ref a :: av) Q) (hst : st0 = av.reverse ++ .ref a :: st) (k : ∀ v h', Q v h' → Gd (FF g l X) Z W0 h' (pc + 3) lv (.int v :: st)) : Gd (FF g l X) Z W0 h pc lv st0 :=
  g_callV (w := W0) (n2 := 118) (h := h) (mc := 0) (ms := 0) O hM hl hi hs hC ha (lay_lt ha (by have := hC.2.2.1; omega)) hr hn hW ⟨Nat.zero_le _, Nat.zero_le _⟩ d (Spec.mono (sp_0 hr S) (qI_k k)) hst
theorem g_vL (av : List Value) (st : List Value) (O : Ok (FF g l X) own cc nL rm rt) (hM : Mk M n) (hl : Cond.methodLink own i M.1 ∈ Tb) (hi : Cond.instanceMethod M.1 ∈ Tb) (hs : Cond.selects M.1.cls M.1 M.1 ∈ Tb) (hC : Cls c M.1.cls T N) (ha : lay a = (c, N)) (hr : Rm M rm) (hn : av.length = n) (hW : (st.map fun v => v.category).sum ≤ 8) (d : decode cc pc = .ok (.invokevirtual i, 3)) {Q : Int64 → AH → Prop} (S : SpL g l M h (.ref a :: av) Q) (hst : st0 = av.reverse ++ .ref a :: st) (k : ∀ v h', Q v h' → Gd (FF g l X) Z (WR X) h' (pc + 3) lv (.long v :: st)) : Gd (FF g l X) Z (WR X) h pc lv st0 :=
  g_callV (w := WR X) (n2 := 118) (h := h) (mc := 0) (ms := 0) O hM hl hi hs hC ha (lay_lt ha (by have := hC.2.2.1; omega)) hr hn hW (okR O) d (Spec.mono (sp_0 hr S) (qL_k k)) hst
theorem g_vV (av : List Value) (st : List Value) (O : Ok (FF g l X) own cc nL rm rt) (hM : Mk M n) (hl : Cond.methodLink own i M.1 ∈ Tb) (hi : Cond.instanceMethod M.1 ∈ Tb) (hs : Cond.selects M.1.cls M.1 M.1 ∈ Tb) (hC : Cls c M.1.cls T N) (ha : lay a = (c, N)) (hr : Rm M rm) (hn : av.length = n) (hW : (st.map fun v => v.category).sum ≤ 8) (d : decode cc pc = .ok (.invokevirtual i, 3)) {Q : AH → Prop} (S : SpV g l M h (.ref a :: av) Q) (hst : st0 = av.reverse ++ .ref a :: st) (k : ∀ h', Q h' → Gd (FF g l X) Z (WR X) h' (pc + 3) lv st) : Gd (FF g l X) Z (WR X) h pc lv st0 :=
  g_callV (w := WR X) (n2 := 118) (h := h) (mc := 0) (ms := 0) O hM hl hi hs hC ha (lay_lt ha (by have := hC.2.2.1; omega)) hr hn hW (okR O) d (Spec.mono (sp_0 hr S) (qV_k k)) hst
theorem g_vV0 (av : List Value) (st : List Value) (O : Ok (FF g l X) own cc nL rm rt) (hM : Mk M n) (hl : Cond.methodLink own i M.1 ∈ Tb) (hi : Cond.instanceMethod M.1 ∈ Tb) (hs : Cond.selects M.1.cls M.1 M.1 ∈ Tb) (hC : Cls c M.1.cls T N) (ha : lay a = (c, N)) (hr : Rm M rm) (hn : av.length = n) (hW : (st.map fun v => v.category).sum ≤ 8) (d : decode cc pc = .ok (.invokevirtual i, 3)) {Q : AH → Prop} (S : SpV g l M h (.ref a :: av) Q) (hst : st0 = av.reverse ++ .ref a :: st) (k : ∀ h', Q h' → Gd (FF g l X) Z W0 h' (pc + 3) lv st) : Gd (FF g l X) Z W0 h pc lv st0 :=
  g_callV (w := W0) (n2 := 118) (h := h) (mc := 0) (ms := 0) O hM hl hi hs hC ha (lay_lt ha (by have := hC.2.2.1; omega)) hr hn hW ⟨Nat.zero_le _, Nat.zero_le _⟩ d (Spec.mono (sp_0 hr S) (qV_k k)) hst
theorem g_vVA (av : List Value) (st : List Value) (O : Ok (FF g l X) own cc nL rm rt) (hM : Mk M n) (hl : Cond.methodLink own i M.1 ∈ Tb) (hi : Cond.instanceMethod M.1 ∈ Tb) (hs : Cond.selects M.1.cls M.1 M.1 ∈ Tb) (hC : Cls c M.1.cls T N) (ha : lay a = (c, N)) (hr : RmA M rm) (hn : av.length = n) (hW : (st.map fun v => v.category).sum ≤ 8) (d : decode cc pc = .ok (.invokevirtual i, 3)) {Q : AH → Prop} (S : SpV g l M h (.ref a :: av) Q) (hst : st0 = av.reverse ++ .ref a :: st) (k : ∀ h', Q h' → Gd (FF g l X) Z (WR X) h' (pc + 3) lv st) : Gd (FF g l X) Z W0 h pc lv st0 :=
  g_callV (w := W0) (n2 := 118) (h := h) (mc := M.2.2.2.2.cells) (ms := M.2.2.2.2.slots) O hM hl hi hs hC ha (lay_lt ha (by have := hC.2.2.1; omega)) ⟨rfl, rfl, hr.2.2⟩ hn hW ⟨by rw [Nat.zero_add]; exact hr.1, by rw [Nat.zero_add]; exact hr.2.1⟩ d (Spec.mono S (qV_k (fun h' q => by
    have e : X.2.2.1 = rm := O.2.2.2.2.2.2.2.2.2.2.1
    have := k h' q
    show Gd (FF g l X) Z (118, 0 + M.2.2.2.2.cells, 0 + M.2.2.2.2.slots) h' (pc + 3) lv st
    refine g_wide (c2 := X.2.2.1.cells) (s2 := X.2.2.1.slots) ?_ ?_ this
    · rw [Nat.zero_add, e]; exact hr.1
    · rw [Nat.zero_add, e]; exact hr.2.1))) hst
theorem g_sI (av : List Value) (st : List Value) (O : Ok (FF g l X) own cc nL rm rt) (hM : Mk M n) (hl : Cond.methodLink own i M.1 ∈ Tb) (hi : Cond.static M.1 ∈ Tb) (hr : Rm M rm) (hn : av.length = n) (hW : (st.map fun v => v.category).sum ≤ 8) (d : decode cc pc = .ok (.invokestatic i, 3)) {Q : Int32 → AH → Prop} (S : SpI g l M h av Q) (hst : st0 = av.reverse ++ st) (k : ∀ v h', Q v h' → Gd (FF g l X) Z (WR X) h' (pc + 3) lv (.int v :: st)) : Gd (FF g l X) Z (WR X) h pc lv st0 :=
  g_callS (w := WR X) (n2 := 118) (h := h) (mc := 0) (ms := 0) O hM hl hi hr hn hW (okR O) d (Spec.mono (sp_0 hr S) (qI_k k)) hst
theorem g_sL (av : List Value) (st : List Value) (O : Ok (FF g l X) own cc nL rm rt) (hM : Mk M n) (hl : Cond.methodLink own i M.1 ∈ Tb) (hi : Cond.static M.1 ∈ Tb) (hr : Rm M rm) (hn : av.length = n) (hW : (st.map fun v => v.category).sum ≤ 8) (d : decode cc pc = .ok (.invokestatic i, 3)) {Q : Int64 → AH → Prop} (S : SpL g l M h av Q) (hst : st0 = av.reverse ++ st) (k : ∀ v h', Q v h' → Gd (FF g l X) Z (WR X) h' (pc + 3) lv (.long v :: st)) : Gd (FF g l X) Z (WR X) h pc lv st0 :=
  g_callS (w := WR X) (n2 := 118) (h := h) (mc := 0) (ms := 0) O hM hl hi hr hn hW (okR O) d (Spec.mono (sp_0 hr S) (qL_k k)) hst
theorem g_sV (av : List Value) (st : List Value) (O : Ok (FF g l X) own cc nL rm rt) (hM : Mk M n) (hl : Cond.methodLink own i M.1 ∈ Tb) (hi : Cond.static M.1 ∈ Tb) (hr : Rm M rm) (hn : av.length = n) (hW : (st.map fun v => v.category).sum ≤ 8) (d : decode cc pc = .ok (.invokestatic i, 3)) {Q : AH → Prop} (S : SpV g l M h av Q) (hst : st0 = av.reverse ++ st) (k : ∀ h', Q h' → Gd (FF g l X) Z (WR X) h' (pc + 3) lv st) : Gd (FF g l X) Z (WR X) h pc lv st0 :=
  g_callS (w := WR X) (n2 := 118) (h := h) (mc := 0) (ms := 0) O hM hl hi hr hn hW (okR O) d (Spec.mono (sp_0 hr S) (qV_k k)) hst
/-! Math -/
theorem g_mmax (O : Ok (FF g l X) own cc nL rm rt) (hl : Cond.methodLink own i yJ9_max_7cf53 ∈ Tb) (hR : 1 ≤ rm.frames ∧ 21 ≤ rm.locals) (hW : (st.map fun v => v.category).sum ≤ 8) {x y : Int32} (d : decode cc pc = .ok (.invokestatic i, 3)) (k : Gd (FF g l X) Z (WR X) h (pc + 3) lv (.int (if x < y then y else x) :: st)) : Gd (FF g l X) Z (WR X) h pc lv (.int y :: .int x :: st) :=
  fun H locs ls hw hS hl' => va_mmax O.1 O.2.1 (by rw [hl'.1]; exact O.2.2.1) O.2.2.2.1 (okS O hl) (okS O sm_J9_max_7cf53) (okS O in_J9) (okS O cd_J9_max_7cf53) (by rw [O.2.2.2.2.2.2.2.2.2.2.1]; exact hR.1) (by rw [O.2.2.2.2.2.2.2.2.2.2.1, cat_cv]; omega) (by rw [O.2.2.2.2.2.2.2.2.2.2.1]; exact (okR O).1) (by rw [O.2.2.2.2.2.2.2.2.2.2.1]; exact (okR O).2) d (k H locs ls hw hS hl')
theorem g_mmax0 (O : Ok (FF g l X) own cc nL rm rt) (hl : Cond.methodLink own i yJ9_max_7cf53 ∈ Tb) (hR : 1 ≤ rm.frames ∧ 21 ≤ rm.locals) (hW : (st.map fun v => v.category).sum ≤ 8) {x y : Int32} (d : decode cc pc = .ok (.invokestatic i, 3)) (k : Gd (FF g l X) Z W0 h (pc + 3) lv (.int (if x < y then y else x) :: st)) : Gd (FF g l X) Z W0 h pc lv (.int y :: .int x :: st) :=
  fun H locs ls hw hS hl' => va_mmax O.1 O.2.1 (by rw [hl'.1]; exact O.2.2.1) O.2.2.2.1 (okS O hl) (okS O sm_J9_max_7cf53) (okS O in_J9) (okS O cd_J9_max_7cf53) (by rw [O.2.2.2.2.2.2.2.2.2.2.1]; exact hR.1) (by rw [O.2.2.2.2.2.2.2.2.2.2.1, cat_cv]; omega) (Nat.zero_le _) (Nat.zero_le _) d (k H locs ls hw hS hl')
theorem g_mmin (O : Ok (FF g l X) own cc nL rm rt) (hl : Cond.methodLink own i yJ9_min_7cf53 ∈ Tb) (hR : 1 ≤ rm.frames ∧ 21 ≤ rm.locals) (hW : (st.map fun v => v.category).sum ≤ 8) {x y : Int32} (d : decode cc pc = .ok (.invokestatic i, 3)) (k : Gd (FF g l X) Z (WR X) h (pc + 3) lv (.int (if y < x then y else x) :: st)) : Gd (FF g l X) Z (WR X) h pc lv (.int y :: .int x :: st) :=
  fun H locs ls hw hS hl' => va_mmin O.1 O.2.1 (by rw [hl'.1]; exact O.2.2.1) O.2.2.2.1 (okS O hl) (okS O sm_J9_min_7cf53) (okS O in_J9) (okS O cd_J9_min_7cf53) (by rw [O.2.2.2.2.2.2.2.2.2.2.1]; exact hR.1) (by rw [O.2.2.2.2.2.2.2.2.2.2.1, cat_cv]; omega) (by rw [O.2.2.2.2.2.2.2.2.2.2.1]; exact (okR O).1) (by rw [O.2.2.2.2.2.2.2.2.2.2.1]; exact (okR O).2) d (k H locs ls hw hS hl')
theorem g_mmin0 (O : Ok (FF g l X) own cc nL rm rt) (hl : Cond.methodLink own i yJ9_min_7cf53 ∈ Tb) (hR : 1 ≤ rm.frames ∧ 21 ≤ rm.locals) (hW : (st.map fun v => v.category).sum ≤ 8) {x y : Int32} (d : decode cc pc = .ok (.invokestatic i, 3)) (k : Gd (FF g l X) Z W0 h (pc + 3) lv (.int (if y < x then y else x) :: st)) : Gd (FF g l X) Z W0 h pc lv (.int y :: .int x :: st) :=
  fun H locs ls hw hS hl' => va_mmin O.1 O.2.1 (by rw [hl'.1]; exact O.2.2.1) O.2.2.2.1 (okS O hl) (okS O sm_J9_min_7cf53) (okS O in_J9) (okS O cd_J9_min_7cf53) (by rw [O.2.2.2.2.2.2.2.2.2.2.1]; exact hR.1) (by rw [O.2.2.2.2.2.2.2.2.2.2.1, cat_cv]; omega) (Nat.zero_le _) (Nat.zero_le _) d (k H locs ls hw hS hl')
theorem g_mabs (O : Ok (FF g l X) own cc nL rm rt) (hl : Cond.methodLink own i yJ9_abs_0f7a4 ∈ Tb) (hR : 1 ≤ rm.frames ∧ 20 ≤ rm.locals) (hW : (st.map fun v => v.category).sum ≤ 7) {x : Int32} (d : decode cc pc = .ok (.invokestatic i, 3)) (k : Gd (FF g l X) Z (WR X) h (pc + 3) lv (.int (if 0 ≤ x then x else 0 - x) :: st)) : Gd (FF g l X) Z (WR X) h pc lv (.int x :: st) :=
  fun H locs ls hw hS hl' => va_mabs O.1 O.2.1 (by rw [hl'.1]; exact O.2.2.1) O.2.2.2.1 (okS O hl) (okS O sm_J9_abs_0f7a4) (okS O in_J9) (okS O cd_J9_abs_0f7a4) (by rw [O.2.2.2.2.2.2.2.2.2.2.1]; exact hR.1) (by rw [O.2.2.2.2.2.2.2.2.2.2.1, cat_cv]; omega) (by rw [O.2.2.2.2.2.2.2.2.2.2.1]; exact (okR O).1) (by rw [O.2.2.2.2.2.2.2.2.2.2.1]; exact (okR O).2) d (k H locs ls hw hS hl')
end GM
/-! fixed references of objects of which there are several -/
theorem sr_chip0 {x : Nat} (h : lay x = (1, 5)) : SR x 0 = some (x + 1) := by simp [SR, h, srC]
theorem sr_chip1 {x : Nat} (h : lay x = (1, 5)) : SR x 1 = some (x + 2) := by simp [SR, h, srC]
theorem sr_book0 {x : Nat} (h : lay x = (0, 7)) : SR x 0 = some (x + 1) := by simp [SR, h, srC]
theorem sr_book1 {x : Nat} (h : lay x = (0, 7)) : SR x 1 = some (x + 2) := by simp [SR, h, srC]
theorem sr_book2 {x : Nat} (h : lay x = (0, 7)) : SR x 2 = some (x + 3) := by simp [SR, h, srC]
theorem sr_book3 {x : Nat} (h : lay x = (0, 7)) : SR x 3 = some (x + 4) := by simp [SR, h, srC]
theorem sr_book4 {x : Nat} (h : lay x = (0, 7)) : SR x 4 = some (x + 5) := by simp [SR, h, srC]
theorem sr_shelf0 {x : Nat} (h : lay x = (4, 3)) : SR x 0 = some (x + 1) := by simp [SR, h, srC]
def lay_chk (x : Nat) : Bool := ((lay x != (1, 5)) || (lay (x + 1) == (100, 10) && lay (x + 2) == (100, 10))) && ((lay x != (4, 3)) || (lay (x + 1) == (103, 4))) && ((lay x != (0, 7)) || (lay (x + 1) == (100, 12) && lay (x + 2) == (100, 12) && lay (x + 3) == (100, 12) && lay (x + 4) == (100, 8) && lay (x + 5) == (100, 8)))
theorem lay_chk_ok : (List.range 118).all lay_chk = true := by decide +kernel
theorem lay_all : ∀ x, x < 118 → (lay x = (1, 5) → lay (x + 1) = (100, 10) ∧ lay (x + 2) = (100, 10)) ∧ (lay x = (4, 3) → lay (x + 1) = (103, 4)) ∧ (lay x = (0, 7) → lay (x + 1) = (100, 12) ∧ lay (x + 2) = (100, 12) ∧ lay (x + 3) = (100, 12) ∧ lay (x + 4) = (100, 8) ∧ lay (x + 5) = (100, 8)) := by
  intro x hx
  have h := List.all_eq_true.mp lay_chk_ok x (List.mem_range.mpr hx)
  unfold lay_chk at h
  simp only [Bool.and_eq_true, Bool.or_eq_true, bne_iff_ne, beq_iff_eq, ne_eq] at h
  obtain ⟨⟨h1, h2⟩, h3⟩ := h
  refine ⟨fun e => ?_, fun e => ?_, fun e => ?_⟩
  · rcases h1 with h1 | h1
    · exact absurd e h1
    · exact h1
  · rcases h2 with h2 | h2
    · exact absurd e h2
    · exact h2
  · rcases h3 with h3 | h3
    · exact absurd e h3
    · obtain ⟨⟨⟨⟨q1, q2⟩, q3⟩, q4⟩, q5⟩ := h3
      exact ⟨q1, q2, q3, q4, q5⟩
theorem lay_chip0 {x : Nat} (h : lay x = (1, 5)) : lay (x + 1) = (100, 10) := ((lay_all x (lay_lt h (by decide))).1 h).1
theorem lay_chip1 {x : Nat} (h : lay x = (1, 5)) : lay (x + 2) = (100, 10) := ((lay_all x (lay_lt h (by decide))).1 h).2
theorem lay_shelf0 {x : Nat} (h : lay x = (4, 3)) : lay (x + 1) = (103, 4) := (lay_all x (lay_lt h (by decide))).2.1 h
theorem lay_book0 {x : Nat} (h : lay x = (0, 7)) : lay (x + 1) = (100, 12) := ((lay_all x (lay_lt h (by decide))).2.2 h).1
theorem lay_book1 {x : Nat} (h : lay x = (0, 7)) : lay (x + 2) = (100, 12) := ((lay_all x (lay_lt h (by decide))).2.2 h).2.1
theorem lay_book2 {x : Nat} (h : lay x = (0, 7)) : lay (x + 3) = (100, 12) := ((lay_all x (lay_lt h (by decide))).2.2 h).2.2.1
theorem lay_book3 {x : Nat} (h : lay x = (0, 7)) : lay (x + 4) = (100, 8) := ((lay_all x (lay_lt h (by decide))).2.2 h).2.2.2.1
theorem lay_book4 {x : Nat} (h : lay x = (0, 7)) : lay (x + 5) = (100, 8) := ((lay_all x (lay_lt h (by decide))).2.2 h).2.2.2.2
