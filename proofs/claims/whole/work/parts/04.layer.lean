/-! A LAYER OVER THE KIT: one heap for both systems. A cell's abstract name is its place in the order of making (0 .. 117); 1000 and on are cells that were there before (the script, static tables, texts).
    AH: what the int-like places, the long places and the reference places of each cell hold. -/
abbrev AH : Type := (Nat → Nat → Int32) × (Nat → Nat → Int64) × (Nat → Nat → Option Nat)
def up {α : Type} (f : Nat → α) (k : Nat) (v : α) : Nat → α := fun j => if j = k then v else f j
theorem up_s {α : Type} {f : Nat → α} {k : Nat} {v : α} : up f k v k = v := by simp [up]
theorem up_n {α : Type} {f : Nat → α} {k j : Nat} {v : α} (h : j ≠ k) : up f k v j = f j := by simp [up, h]
def sI (h : AH) (a k : Nat) (v : Int32) : AH := (up h.1 a (up (h.1 a) k v), h.2)
def sL (h : AH) (a k : Nat) (v : Int64) : AH := (h.1, up h.2.1 a (up (h.2.1 a) k v), h.2.2)
def sR (h : AH) (a k : Nat) (v : Option Nat) : AH := (h.1, h.2.1, up h.2.2 a (up (h.2.2 a) k v))
/-- what each cell is: an object of a class (its number, how many fields), or an array (100 int, 101 byte, 102 long, 103 Chip, 104 Shelf; its length) -/
def layL : List (Nat × Nat) := [(7, 12), (5, 8), (101, 400), (100, 401), (100, 401), (100, 401), (4, 3), (103, 4),
  (1, 5), (100, 10), (100, 10), (1, 5), (100, 10), (100, 10), (1, 5), (100, 10), (100, 10), (1, 5), (100, 10), (100, 10),
  (104, 2), (100, 5), (100, 12), (2, 7), (100, 121), (102, 121),
  (3, 14), (100, 40), (100, 40), (100, 40), (100, 40), (101, 64), (100, 4), (100, 4), (100, 4), (100, 12), (100, 12),
  (6, 6), (100, 40), (100, 40), (100, 40), (100, 369),
  (0, 7), (100, 12), (100, 12), (100, 12), (100, 8), (100, 8), (0, 7), (100, 12), (100, 12), (100, 12), (100, 8), (100, 8),
  (4, 3), (103, 4), (1, 5), (100, 10), (100, 10), (1, 5), (100, 10), (100, 10), (1, 5), (100, 10), (100, 10), (1, 5), (100, 10), (100, 10),
  (4, 3), (103, 4), (1, 5), (100, 10), (100, 10), (1, 5), (100, 10), (100, 10), (1, 5), (100, 10), (100, 10), (1, 5), (100, 10), (100, 10),
  (8, 51), (100, 400), (100, 4), (100, 4), (100, 4), (100, 40), (100, 40), (100, 10), (100, 10), (100, 12), (100, 12), (100, 12), (100, 8), (100, 8),
  (100, 12), (100, 12), (100, 12), (100, 8), (100, 8), (100, 5), (100, 2), (100, 8), (100, 8), (100, 8), (100, 80), (100, 80),
  (100, 121), (102, 121), (100, 14641), (100, 4), (100, 4), (100, 40), (100, 40), (100, 40), (100, 40), (100, 369)]
def lay (a : Nat) : Nat × Nat := layL.getD a (999, 0)
abbrev NN : Nat := 118
theorem lay_lt {a c n : Nat} (h : lay a = (c, n)) (hc : c ≠ 999) : a < NN := by
  by_cases ha : a < NN
  · exact ha
  · have : lay a = (999, 0) := by
      unfold lay
      rw [List.getD_eq_getElem?_getD, List.getElem?_eq_none (show 118 ≤ a from Nat.not_lt.mp ha)]
      rfl
    rw [this] at h
    exact absurd (congrArg Prod.fst h).symm hc
/-- of a class's fields: 0 int-like, 1 long, 2 a reference -/
def ftL : List (List Nat) := [[2, 2, 2, 2, 2, 0, 0], [2, 2, 0, 0, 0], [2, 2, 2, 2, 2, 0, 0], [0, 2, 2, 2, 2, 2, 2, 2, 2, 2, 2, 0, 2, 2], [2, 0, 0], [2, 0, 0, 2, 2, 2, 0, 0], [0, 2, 2, 0, 2, 2], [2, 2, 2, 2, 2, 2, 2, 2, 2, 2, 0, 1],
  [2, 0, 0, 0, 0, 0, 0, 2, 2, 2, 2, 2, 2, 2, 2, 2, 2, 0, 2, 2, 2, 2, 2, 2, 2, 2, 2, 2, 2, 2, 2, 2, 1, 2, 2, 2, 2, 2, 0, 2, 2, 0, 2, 2, 0, 2, 0, 0, 0, 0, 0]]
def ft (c k : Nat) : Nat := (ftL.getD c []).getD k 0
/-- references that are set once, in a constructor: what they are, by the object's class and its own place -/
def srC (c a k : Nat) : Option Nat := match c with
  | 0 => if k < 5 then some (a + 1 + k) else none
  | 1 => if k < 2 then some (a + 1 + k) else none
  | 2 => if k < 2 then some (a + 1 + k) else none
  | 3 => if 1 ≤ k ∧ k ≤ 10 ∧ k ≠ 5 then some (a + k) else none
  | 4 => if k = 0 then some (a + 1) else none
  | 5 => ([some 2, none, none, some 3, some 4, some 5] : List (Option Nat)).getD k none
  | 6 => ([none, some 38, some 39, none, some 40, some 41] : List (Option Nat)).getD k none
  | 7 => ([some 1, some 6, some 20, some 21, some 22, some 23, some 26, some 37] : List (Option Nat)).getD k none
  | 8 => ([some 83, none, none, none, none, none, none, some 84, some 85, some 86, some 87, some 88, some 89, some 90, some 91, some 92, some 93, none, some 94, some 95, some 96, some 97, some 98, some 99, some 100, some 101, some 102, some 103, some 104, some 105, some 106, some 107, none, some 108, some 109, some 110, some 111, some 112, none, some 113, some 114, none, some 115, some 116, none, some 117] : List (Option Nat)).getD k none
  | _ => none
def SR (a k : Nat) : Option Nat := srC (lay a).1 a k
def SR0 (_ _ : Nat) : Option Nat := none
/-! the ground: the state at the law's entry, where abstract cells lie, the classes' numbers, the array classes', which references are fixed -/
abbrev Gm : Type := State × (Nat → Nat) × va_G × (Nat → ClassId) × (Nat → Nat → Option Nat)
def cv (r : Nat → Nat) (v : Value) : Value := match v with
  | .ref a => .ref (r a)
  | w => w
def cvq (r : Nat → Nat) (q : Nat × Value) : Nat × Value := (q.1, cv r q.2)
def rv (r : Nat → Nat) (x : Option Nat) : Value := va_rf (x.map r)
def fv (G : Gm) (h : AH) (a c k : Nat) : Value := if ft c k = 0 then .int (h.1 a k) else if ft c k = 1 then .long (h.2.1 a k) else match G.2.2.2.2 a k with
  | some b => .ref (G.2.1 b)
  | none => rv G.2.1 (h.2.2 a k)
def fvs (G : Gm) (h : AH) (a c n : Nat) : List Value := (List.range n).map (fv G h a c)
def ac (G : Gm) (h : AH) (a t n : Nat) : ClassId × vp_A := (G.2.2.2.1 t, n, if t < 2 then .inl (h.1 a) else if t = 2 then .inr (.inl (h.2.1 a)) else .inr (.inr (.inr (.inr (fun i => (h.2.2 a i).map G.2.1)))))
/-! the row that grows is cell 31: the row that the field 5 of cell 26 holds now. Behind the fields of cell 26 stand how long it is (100) and how many rows were made for it behind the constructors (101); those are named 2000 and on -/
def tCur (h : AH) : Nat := (h.2.2 26 5).getD 31
def tLn (h : AH) : Nat := (h.2.2 26 100).getD 64
def tEx (h : AH) : Nat := (h.2.2 26 101).getD 0
def tNm (h : AH) (a : Nat) : Nat := if a = 31 then tCur h else a
theorem tNm_n {h : AH} {a : Nat} (e : a ≠ 31) : tNm h a = a := by simp [tNm, e]
theorem tNm_c {h : AH} {a : Nat} (e : tCur h = 31) : tNm h a = a := by
  unfold tNm
  split <;> omega
theorem lay_31 {a c n : Nat} (h : lay a = (c, n)) (hc : c ≠ 101) : a ≠ 31 := by
  intro e
  subst e
  exact hc (congrArg Prod.fst h).symm
def ce (G : Gm) (h : AH) (a : Nat) : va_E := if (lay a).1 < 100 then .inr ((lay a).1, fvs G h a (lay a).1 (lay a).2) else .inl (ac G h a ((lay a).1 - 100) (if a = 31 then tLn h else (lay a).2))
def wl (G : Gm) (n : Nat) (h : AH) : va_W := (List.range n).map (fun a => (G.2.1 (tNm h a), ce G h a))
/-- what holds of the row that grows: before the constructors' end (no reference is fixed yet), and behind it -/
def wf (G : Gm) (n : Nat) (h : AH) : Prop := (G.2.2.2.2 26 1 = none ∧ tCur h = 31 ∧ tEx h = 0 ∧ tLn h = 64) ∨ (n = 118 ∧ 64 ≤ tLn h ∧ tLn h ≤ 14641 ∧ ∃ t, h.2.2 26 5 = some t ∧ (t = 31 ∨ ∃ i, i < tEx h ∧ t = 2000 + i))
def tys5 (G : Gm) : List (ClassId × FieldType) := [(G.2.2.2.1 0, .int), (G.2.2.2.1 1, .byte), (G.2.2.2.1 2, .long), (G.2.2.2.1 3, .object RX1), (G.2.2.2.1 4, .object RX4)]
abbrev bs (G : Gm) : Nat := G.1.heap.size
abbrev aA (G : Gm) : Nat → Prop := fun q => bs G ≤ q
def wd (G : Gm) (n : Nat) (h : AH) (H : Heap) : Prop := va_P G.2.2.1 vwCl (wl G n h) H ∧ H.size = bs G + n + tEx h ∧ (∀ q : Nat, q < bs G → H[q]? = G.1.heap[q]?) ∧ wf G n h
/-- texts and tables that were there before -/
def txL : List Nat := [4, 5, 5, 5, 4]
def txB : List (List Int32) := [[114, 111, 111, 109], [112, 111, 114, 101, 115], [115, 116, 117, 102, 102], [97, 108, 105, 107, 101], [98, 105, 108, 108]]
def tuLo : List Int32 := [1, 0, 0, 0, 0]
def tuHi : List Int32 := [50, 9, 1, 20, 9]
def Ext (G : Gm) : Prop :=
  vk_S 5 txL txB (fun i => G.2.1 (1010 + i)) (fun i => G.2.1 (1020 + i)) (aA G) G.1 G.1.heap ∧
  (vk_R RX5 65 "room" (G.2.1 1010) G.1 ∧ vk_R RX5 71 "pores" (G.2.1 1011) G.1 ∧ vk_R RX5 73 "stuff" (G.2.1 1012) G.1 ∧ vk_R RX5 75 "alike" (G.2.1 1013) G.1 ∧ vk_R RX5 77 "bill" (G.2.1 1014) G.1) ∧
  (va_Z RX7 "TUNE_LOW" "[I" (.ref (G.2.1 1001)) (aA G) G.1 G.1.heap ∧ va_T .int (G.2.1 1001) 5 (fun j => .int (tuLo.getD j 0)) (aA G) G.1 G.1.heap) ∧
  (va_Z RX7 "TUNE_HIGH" "[I" (.ref (G.2.1 1002)) (aA G) G.1 G.1.heap ∧ va_T .int (G.2.1 1002) 5 (fun j => .int (tuHi.getD j 0)) (aA G) G.1 G.1.heap) ∧
  va_Z "java/lang/String" "COMPACT_STRINGS" "Z" (.int 1) (aA G) G.1 G.1.heap ∧ (va_Z "jdk/internal/util/Preconditions" "SIOOBE_FORMATTER" "Ljava/util/function/BiFunction;" .null (aA G) G.1 G.1.heap ∨ va_Z "jdk/internal/util/Preconditions" "SIOOBE_FORMATTER" "Ljava/util/function/BiFunction;" (.ref (G.2.1 1030)) (aA G) G.1 G.1.heap)
def Env0 (G : Gm) : Prop := (∀ a : Nat, a < 1000 → G.2.1 a = bs G + a) ∧ va_K G.2.2.1 vwCl (tys5 G) G.1 ∧ Ext G ∧ ∀ i : Nat, G.2.1 (2000 + i) = bs G + 118 + i
/-! a frame: the ground, the launch, the machine's own, the locals' number -/
abbrev Fr : Type := Gm × Launch × Program × Env × Room × State × MethodId × Array Value × List Frame × Method × Code × Nat
abbrev fG (F : Fr) : Gm := F.1
abbrev fl (F : Fr) : Launch := F.2.1
abbrev fp (F : Fr) : Program := F.2.2.1
abbrev fe (F : Fr) : Env := F.2.2.2.1
abbrev fR (F : Fr) : Room := F.2.2.2.2.1
abbrev fs (F : Fr) : State := F.2.2.2.2.2.1
abbrev fm (F : Fr) : MethodId := F.2.2.2.2.2.2.1
abbrev fa (F : Fr) : Array Value := F.2.2.2.2.2.2.2.1
abbrev fb (F : Fr) : List Frame := F.2.2.2.2.2.2.2.2.1
abbrev ft' (F : Fr) : Method := F.2.2.2.2.2.2.2.2.2.1
abbrev fc (F : Fr) : Code := F.2.2.2.2.2.2.2.2.2.2.1
abbrev fn (F : Fr) : Nat := F.2.2.2.2.2.2.2.2.2.2.2
abbrev fr (F : Fr) : Nat → Nat := F.1.2.1
abbrev WW (F : Fr) (H : Heap) (locs : List Loc) (cells slots : Nat) (Z : State → Prop) (g : JFrame) : Prop := W (fp F) (fl F) (fe F) (fR F) (fs F) (fm F) (fa F) (fb F) (ft' F) (fc F) H locs cells slots Z g
/-- THE JUDGEMENT: at pc, with the locals lv, the stack st and the heap h (w: cells made so far in all; this method's own cells and slots), the machine comes to Z -/
def Gd (F : Fr) (Z : State → Prop) (w : Nat × Nat × Nat) (h : AH) (pc : Nat) (lv : List (Nat × Value)) (st : List Value) : Prop :=
  ∀ (H : Heap) (locs : List Loc) (ls : Array Slot), wd (fG F) w.1 h H → va_S (aA (fG F)) (fs F).heap H locs → lv_has ls (fn F) (lv.map (cvq (fr F))) → WW F H locs w.2.1 w.2.2 Z (F0 (fm F) pc ls (st.map (cv (fr F))))
/-- what a method's frame has -/
def Ok (F : Fr) (own : String) (cc : ByteArray) (nL : Nat) (rm : Room) (rt : Option FieldType) : Prop :=
  (fp F).tables.exec = Jvm.exec ∧ (fc F).code = cc ∧ (fc F).maxLocals = fn F ∧ (fs F).vm.findClass own = some (fm F).cls ∧ (∀ x ∈ Tb, x.before (fa F) (fs F) = true) ∧ (fG F).1.WarmedH (fs F).vm ∧ Env0 (fG F) ∧ (ft' F).locks = false ∧ (∀ q : Nat, q < bs (fG F) → (fs F).heap[q]? = (fG F).1.heap[q]?) ∧ fn F = nL ∧ fR F = rm ∧ (ft' F).sig.returnType = rt ∧ bs (fG F) ≤ (fs F).heap.size
def lget (lv : List (Nat × Value)) (i : Nat) : Option Value := match lv with
  | [] => none
  | q :: l => if q.1 = i then some q.2 else lget l i
theorem lget_mem {lv : List (Nat × Value)} {i : Nat} {v : Value} (h : lget lv i = some v) : (i, v) ∈ lv := by
  induction lv with
  | nil => cases h
  | cons q l ih =>
    unfold lget at h
    by_cases hq : q.1 = i
    · rw [if_pos hq] at h
      cases h
      subst hq
      exact List.mem_cons_self
    · rw [if_neg hq] at h
      exact List.mem_cons_of_mem _ (ih h)
theorem lv_of {r : Nat → Nat} {ls : Array Slot} {n : Nat} {lv : List (Nat × Value)} {i : Nat} {v : Value} (hl : lv_has ls n (lv.map (cvq r))) (h : lget lv i = some v) : ls[i]? = some (.val (cv r v)) :=
  hl.2.2 (i, cv r v) (List.mem_map.mpr ⟨(i, v), lget_mem h, rfl⟩)
theorem cv_cat (r : Nat → Nat) (v : Value) : (cv r v).category = v.category := by cases v <;> rfl
/-- the world's cells -/
theorem wl_at {G : Gm} {n : Nat} {h : AH} {a : Nat} (ha : a < n) : (wl G n h)[a]? = some (G.2.1 (tNm h a), ce G h a) := by
  unfold wl
  rw [List.getElem?_map, List.getElem?_range ha]
  rfl
theorem wl_an {G : Gm} {n : Nat} {h : AH} {a : Nat} (ha : a < n) (e : a ≠ 31) : (wl G n h)[a]? = some (G.2.1 a, ce G h a) := by rw [wl_at ha, tNm_n e]
theorem wl_len {G : Gm} {n : Nat} {h : AH} : (wl G n h).length = n := by simp [wl]
theorem nm_ad {G : Gm} (hE : Env0 G) {n : Nat} (hn : n ≤ 1000) {h : AH} (f : wf G n h) {k : Nat} (hk : k < n) : (k ≠ 31 ∧ G.2.1 (tNm h k) = bs G + k) ∨ (k = 31 ∧ (G.2.1 (tNm h k) = bs G + 31 ∨ (n = 118 ∧ ∃ i, G.2.1 (tNm h k) = bs G + 118 + i))) := by
  by_cases e : k = 31
  · refine Or.inr ⟨e, ?_⟩
    subst e
    have e0 : tNm h 31 = tCur h := by simp [tNm]
    rw [e0]
    rcases f with ⟨-, q, -, -⟩ | ⟨q1, -, -, t, q2, q3⟩
    · rw [q]
      exact Or.inl (hE.1 31 (by omega))
    · have e1 : tCur h = t := by unfold tCur; rw [q2]; rfl
      rw [e1]
      rcases q3 with rfl | ⟨i, -, rfl⟩
      · exact Or.inl (hE.1 31 (by omega))
      · exact Or.inr ⟨q1, i, hE.2.2.2 i⟩
  · exact Or.inl ⟨e, by rw [tNm_n e]; exact hE.1 k (by omega)⟩
theorem wl_D {G : Gm} (hE : Env0 G) {n : Nat} (hn : n ≤ 1000) {h : AH} (f : wf G n h) : va_D (aA G) (wl G n h) := by
  have key : ∀ (k : Nat) (q : Nat × va_E), (wl G n h)[k]? = some q → k < n ∧ q.1 = G.2.1 (tNm h k) := by
    intro k q hk
    have hl : k < n := by
      have := (List.getElem?_eq_some_iff.mp hk).1
      rw [wl_len] at this
      exact this
    rw [wl_at hl] at hk
    cases hk
    exact ⟨hl, rfl⟩
  refine ⟨fun i j x y hi hj e => ?_, fun k q hk => ?_⟩
  · obtain ⟨a1, a2⟩ := key i x hi
    obtain ⟨b1, b2⟩ := key j y hj
    rw [a2, b2] at e
    rcases nm_ad hE hn f a1 with ⟨u1, u2⟩ | ⟨u1, u2 | ⟨u3, u4, u2⟩⟩ <;> rcases nm_ad hE hn f b1 with ⟨v1, v2⟩ | ⟨v1, v2 | ⟨v3, v4, v2⟩⟩ <;> omega
  · obtain ⟨a1, a2⟩ := key k q hk
    rw [a2]
    show bs G ≤ _
    rcases nm_ad hE hn f a1 with ⟨u1, u2⟩ | ⟨u1, u2 | ⟨u3, u4, u2⟩⟩ <;> omega
theorem wl_set {G : Gm} {n : Nat} {h h2 : AH} {a : Nat} {e : va_E} (he : e = ce G h2 a) (ho : ∀ b, b ≠ a → ce G h2 b = ce G h b) (hc : tCur h2 = tCur h) : (wl G n h).set a (G.2.1 (tNm h a), e) = wl G n h2 := by
  have hm : tNm h2 = tNm h := by funext q; unfold tNm; rw [hc]
  apply List.ext_getElem?
  intro k
  by_cases hk : k < n
  · by_cases hka : k = a
    · subst hka
      rw [List.getElem?_set_self (by rw [wl_len]; exact hk), wl_at hk, he, hm]
    · rw [List.getElem?_set_ne (Ne.symm hka), wl_at hk, wl_at hk, ho k hka, hm]
  · rw [List.getElem?_eq_none (by rw [List.length_set, wl_len]; omega), List.getElem?_eq_none (by rw [wl_len]; omega)]
theorem wl_push {G : Gm} {n : Nat} {h : AH} (hc : tCur h = 31) : wl G n h ++ [(G.2.1 n, ce G h n)] = wl G (n + 1) h := by
  apply List.ext_getElem?
  intro k
  by_cases hk : k < n
  · rw [List.getElem?_append_left (by rw [wl_len]; exact hk), wl_at hk, wl_at (by omega)]
  · by_cases hkn : k = n
    · subst hkn
      rw [List.getElem?_append_right (by rw [wl_len]; omega), wl_len, wl_at (by omega), Nat.sub_self, tNm_c hc]
      rfl
    · rw [List.getElem?_eq_none (by rw [List.length_append, wl_len]; simp; omega), List.getElem?_eq_none (by rw [wl_len]; omega)]
theorem ce_o {G : Gm} {h : AH} {a c n : Nat} (ha : lay a = (c, n)) (hc : c < 100) : ce G h a = .inr (c, fvs G h a c n) := by
  unfold ce
  rw [ha]
  simp [hc]
theorem ce_a {G : Gm} {h : AH} {a t n : Nat} (ha : lay a = (100 + t, n)) (e : a ≠ 31) : ce G h a = .inl (ac G h a t n) := by
  unfold ce
  rw [ha]
  have : ¬ (100 + t < 100) := by omega
  simp [this, e]
theorem fvs_at {G : Gm} {h : AH} {a c n k : Nat} (hk : k < n) : (fvs G h a c n)[k]? = some (fv G h a c k) := by
  unfold fvs
  rw [List.getElem?_map, List.getElem?_range hk]
  rfl
theorem fvs_len {G : Gm} {h : AH} {a c n : Nat} : (fvs G h a c n).length = n := by simp [fvs]
theorem fvs_set {G : Gm} {h h2 : AH} {a c n k : Nat} {v : Value} (hv : v = fv G h2 a c k) (ho : ∀ j, j ≠ k → fv G h2 a c j = fv G h a c j) : (fvs G h a c n).set k v = fvs G h2 a c n := by
  apply List.ext_getElem?
  intro j
  by_cases hj : j < n
  · by_cases hjk : j = k
    · subst hjk
      rw [List.getElem?_set_self (by rw [fvs_len]; exact hj), fvs_at hj, hv]
    · rw [List.getElem?_set_ne (Ne.symm hjk), fvs_at hj, fvs_at hj, ho j hjk]
  · rw [List.getElem?_eq_none (by rw [List.length_set, fvs_len]; omega), List.getElem?_eq_none (by rw [fvs_len]; omega)]
theorem fv_i {G : Gm} {h : AH} {a c k : Nat} (hf : ft c k = 0) : fv G h a c k = .int (h.1 a k) := by simp [fv, hf]
theorem fv_l {G : Gm} {h : AH} {a c k : Nat} (hf : ft c k = 1) : fv G h a c k = .long (h.2.1 a k) := by simp [fv, hf]
theorem fv_s {G : Gm} {h : AH} {a c k b : Nat} (hf : ft c k = 2) (hs : G.2.2.2.2 a k = some b) : fv G h a c k = .ref (G.2.1 b) := by simp [fv, hf, hs]
theorem fv_r {G : Gm} {h : AH} {a c k : Nat} (hf : ft c k = 2) (hs : G.2.2.2.2 a k = none) : fv G h a c k = rv G.2.1 (h.2.2 a k) := by simp [fv, hf, hs]
/-! what writes do to cells -/
theorem sI_1 {h : AH} {a k : Nat} {v : Int32} : (sI h a k v).1 a = up (h.1 a) k v := by simp [sI, up]
theorem sI_o {h : AH} {a b k : Nat} {v : Int32} (hb : b ≠ a) : (sI h a k v).1 b = h.1 b := by simp [sI, up, hb]
theorem sI_2 {h : AH} {a k : Nat} {v : Int32} : (sI h a k v).2 = h.2 := rfl
theorem sL_1 {h : AH} {a k : Nat} {v : Int64} : (sL h a k v).2.1 a = up (h.2.1 a) k v := by simp [sL, up]
theorem sL_o {h : AH} {a b k : Nat} {v : Int64} (hb : b ≠ a) : (sL h a k v).2.1 b = h.2.1 b := by simp [sL, up, hb]
theorem sR_1 {h : AH} {a k : Nat} {v : Option Nat} : (sR h a k v).2.2 a = up (h.2.2 a) k v := by simp [sR, up]
theorem sR_o {h : AH} {a b k : Nat} {v : Option Nat} (hb : b ≠ a) : (sR h a k v).2.2 b = h.2.2 b := by simp [sR, up, hb]
theorem fv_congr {G : Gm} {h h2 : AH} {a c k : Nat} (h1 : h2.1 a k = h.1 a k) (h3 : h2.2.1 a k = h.2.1 a k) (h4 : h2.2.2 a k = h.2.2 a k) : fv G h2 a c k = fv G h a c k := by simp [fv, h1, h3, h4]
theorem ce_congr {G : Gm} {h h2 : AH} {a : Nat} (h1 : h2.1 a = h.1 a) (h3 : h2.2.1 a = h.2.1 a) (h4 : h2.2.2 a = h.2.2 a) (hl : a = 31 → tLn h2 = tLn h) : ce G h2 a = ce G h a := by
  have e : fv G h2 a = fv G h a := by funext c k; exact fv_congr (by rw [h1]) (by rw [h3]) (by rw [h4])
  by_cases e31 : a = 31
  · simp only [ce, fvs, ac, e, h1, h3, h4, hl e31]
  · simp only [ce, fvs, ac, e, h1, h3, h4, if_neg e31]
/-- nothing of the row that grows has moved -/
def tT (G : Gm) (n : Nat) (h h2 : AH) : Prop := tCur h2 = tCur h ∧ tLn h2 = tLn h ∧ tEx h2 = tEx h ∧ wf G n h2
theorem tT_of {G : Gm} {n : Nat} {h h2 : AH} (e : ∀ k, k = 5 ∨ k = 100 ∨ k = 101 → h2.2.2 26 k = h.2.2 26 k) (f : wf G n h) : tT G n h h2 := by
  have e1 : tCur h2 = tCur h := by unfold tCur; rw [e 5 (by omega)]
  have e2 : tLn h2 = tLn h := by unfold tLn; rw [e 100 (by omega)]
  have e3 : tEx h2 = tEx h := by unfold tEx; rw [e 101 (by omega)]
  refine ⟨e1, e2, e3, ?_⟩
  unfold wf
  rw [e1, e2, e3, e 5 (by omega)]
  exact f
theorem tT_I {G : Gm} {n : Nat} {h : AH} {a k : Nat} {v : Int32} (f : wf G n h) : tT G n h (sI h a k v) := tT_of (fun _ _ => rfl) f
theorem tT_L {G : Gm} {n : Nat} {h : AH} {a k : Nat} {v : Int64} (f : wf G n h) : tT G n h (sL h a k v) := tT_of (fun _ _ => rfl) f
theorem tT_R {G : Gm} {n : Nat} {h : AH} {a k : Nat} {v : Option Nat} (q : a ≠ 26 ∨ (k ≠ 5 ∧ k < 100)) (f : wf G n h) : tT G n h (sR h a k v) := tT_of (fun j hj => by
  by_cases e : a = 26
  · subst e
    rw [sR_1, up_n (by omega)]
  · rw [sR_o (Ne.symm e)]) f
theorem tLn_R {h : AH} {a k : Nat} {v : Option Nat} (q : a ≠ 26 ∨ k < 100) : tLn (sR h a k v) = tLn h := by
  unfold tLn
  by_cases e : a = 26
  · subst e
    rw [sR_1, up_n (by omega)]
  · rw [sR_o (Ne.symm e)]
theorem ce_sI {G : Gm} {h : AH} {a b k : Nat} {v : Int32} (hb : b ≠ a) : ce G (sI h a k v) b = ce G h b := ce_congr (sI_o hb) rfl rfl (fun _ => rfl)
theorem ce_sL {G : Gm} {h : AH} {a b k : Nat} {v : Int64} (hb : b ≠ a) : ce G (sL h a k v) b = ce G h b := ce_congr rfl (sL_o hb) rfl (fun _ => rfl)
theorem ce_sR {G : Gm} {h : AH} {a b k : Nat} {v : Option Nat} (hb : b ≠ a) (q : a ≠ 26 ∨ k < 100) : ce G (sR h a k v) b = ce G h b := ce_congr rfl rfl (sR_o hb) (fun _ => tLn_R q)
