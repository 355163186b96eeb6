/-! ROWS OF THE LAYER: an instruction, a row -/
section GR
variable {F : Fr} {Z : State → Prop} {w : Nat × Nat × Nat} {h : AH} {pc : Nat} {lv : List (Nat × Value)} {st : List Value} {own : String} {cc : ByteArray} {nL : Nat} {rm : Room} {rt : Option FieldType}
theorem g_iadd (O : Ok F own cc nL rm rt) {x y : Int32} (d : decode cc pc = .ok (.iadd, 1)) (k : Gd F Z w h (pc + 1) lv (.int (x + y) :: st)) : Gd F Z w h pc lv (.int y :: .int x :: st) := fun H locs ls hw hS hl => lv_iadd O.1 O.2.1 d (k H locs ls hw hS hl)
theorem g_isub (O : Ok F own cc nL rm rt) {x y : Int32} (d : decode cc pc = .ok (.isub, 1)) (k : Gd F Z w h (pc + 1) lv (.int (x - y) :: st)) : Gd F Z w h pc lv (.int y :: .int x :: st) := fun H locs ls hw hS hl => lv_isub O.1 O.2.1 d (k H locs ls hw hS hl)
theorem g_imul (O : Ok F own cc nL rm rt) {x y : Int32} (d : decode cc pc = .ok (.imul, 1)) (k : Gd F Z w h (pc + 1) lv (.int (x * y) :: st)) : Gd F Z w h pc lv (.int y :: .int x :: st) := fun H locs ls hw hS hl => lv_imul O.1 O.2.1 d (k H locs ls hw hS hl)
theorem g_iand (O : Ok F own cc nL rm rt) {x y : Int32} (d : decode cc pc = .ok (.iand, 1)) (k : Gd F Z w h (pc + 1) lv (.int (x &&& y) :: st)) : Gd F Z w h pc lv (.int y :: .int x :: st) := fun H locs ls hw hS hl => lv_iand O.1 O.2.1 d (k H locs ls hw hS hl)
theorem g_ior (O : Ok F own cc nL rm rt) {x y : Int32} (d : decode cc pc = .ok (.ior, 1)) (k : Gd F Z w h (pc + 1) lv (.int (x ||| y) :: st)) : Gd F Z w h pc lv (.int y :: .int x :: st) := fun H locs ls hw hS hl => lv_ior O.1 O.2.1 d (k H locs ls hw hS hl)
theorem g_ixor (O : Ok F own cc nL rm rt) {x y : Int32} (d : decode cc pc = .ok (.ixor, 1)) (k : Gd F Z w h (pc + 1) lv (.int (x ^^^ y) :: st)) : Gd F Z w h pc lv (.int y :: .int x :: st) := fun H locs ls hw hS hl => lv_ixor O.1 O.2.1 d (k H locs ls hw hS hl)
theorem g_ishl (O : Ok F own cc nL rm rt) {x y : Int32} (d : decode cc pc = .ok (.ishl, 1)) (k : Gd F Z w h (pc + 1) lv (.int (x <<< (y &&& 31)) :: st)) : Gd F Z w h pc lv (.int y :: .int x :: st) := fun H locs ls hw hS hl => lv_ishl O.1 O.2.1 d (k H locs ls hw hS hl)
theorem g_ishr (O : Ok F own cc nL rm rt) {x y : Int32} (d : decode cc pc = .ok (.ishr, 1)) (k : Gd F Z w h (pc + 1) lv (.int (x >>> (y &&& 31)) :: st)) : Gd F Z w h pc lv (.int y :: .int x :: st) := fun H locs ls hw hS hl => lv_ishr O.1 O.2.1 d (k H locs ls hw hS hl)
theorem g_iushr (O : Ok F own cc nL rm rt) {x y : Int32} (d : decode cc pc = .ok (.iushr, 1)) (k : Gd F Z w h (pc + 1) lv (.int ((x.toUInt32 >>> (y.toUInt32 &&& Int32.toUInt32 31)).toInt32) :: st)) : Gd F Z w h pc lv (.int y :: .int x :: st) := fun H locs ls hw hS hl => lv_iushr O.1 O.2.1 d rfl (k H locs ls hw hS hl)
theorem g_ladd (O : Ok F own cc nL rm rt) {x y : Int64} (d : decode cc pc = .ok (.ladd, 1)) (k : Gd F Z w h (pc + 1) lv (.long (x + y) :: st)) : Gd F Z w h pc lv (.long y :: .long x :: st) := fun H locs ls hw hS hl => lv_ladd O.1 O.2.1 d (k H locs ls hw hS hl)
theorem g_lsub (O : Ok F own cc nL rm rt) {x y : Int64} (d : decode cc pc = .ok (.lsub, 1)) (k : Gd F Z w h (pc + 1) lv (.long (x - y) :: st)) : Gd F Z w h pc lv (.long y :: .long x :: st) := fun H locs ls hw hS hl => lv_lsub O.1 O.2.1 d (k H locs ls hw hS hl)
theorem g_lmul (O : Ok F own cc nL rm rt) {x y : Int64} (d : decode cc pc = .ok (.lmul, 1)) (k : Gd F Z w h (pc + 1) lv (.long (x * y) :: st)) : Gd F Z w h pc lv (.long y :: .long x :: st) := fun H locs ls hw hS hl => lv_lmul O.1 O.2.1 d (k H locs ls hw hS hl)
theorem g_land (O : Ok F own cc nL rm rt) {x y : Int64} (d : decode cc pc = .ok (.land, 1)) (k : Gd F Z w h (pc + 1) lv (.long (x &&& y) :: st)) : Gd F Z w h pc lv (.long y :: .long x :: st) := fun H locs ls hw hS hl => lv_land O.1 O.2.1 d (k H locs ls hw hS hl)
theorem g_lor (O : Ok F own cc nL rm rt) {x y : Int64} (d : decode cc pc = .ok (.lor, 1)) (k : Gd F Z w h (pc + 1) lv (.long (x ||| y) :: st)) : Gd F Z w h pc lv (.long y :: .long x :: st) := fun H locs ls hw hS hl => lv_lor O.1 O.2.1 d (k H locs ls hw hS hl)
theorem g_lushr (O : Ok F own cc nL rm rt) {x : Int64} {y : Int32} (d : decode cc pc = .ok (.lushr, 1)) (k : Gd F Z w h (pc + 1) lv (.long ((x.toUInt64 >>> (y.toInt64.toUInt64 &&& Int64.toUInt64 63)).toInt64) :: st)) : Gd F Z w h pc lv (.int y :: .long x :: st) := fun H locs ls hw hS hl => lv_lushr O.1 O.2.1 d rfl (k H locs ls hw hS hl)
theorem g_lshl (O : Ok F own cc nL rm rt) {x : Int64} {y : Int32} (d : decode cc pc = .ok (.lshl, 1)) (k : Gd F Z w h (pc + 1) lv (.long (x <<< (y.toInt64 &&& 63)) :: st)) : Gd F Z w h pc lv (.int y :: .long x :: st) := fun H locs ls hw hS hl => lv_lshl O.1 O.2.1 d rfl (k H locs ls hw hS hl)
theorem g_lshr (O : Ok F own cc nL rm rt) {x : Int64} {y : Int32} (d : decode cc pc = .ok (.lshr, 1)) (k : Gd F Z w h (pc + 1) lv (.long (x >>> (y.toInt64 &&& 63)) :: st)) : Gd F Z w h pc lv (.int y :: .long x :: st) := fun H locs ls hw hS hl => lv_lshr O.1 O.2.1 d rfl (k H locs ls hw hS hl)
theorem g_idiv (O : Ok F own cc nL rm rt) {x y : Int32} (hne : ¬ y = 0) (d : decode cc pc = .ok (.idiv, 1)) (k : Gd F Z w h (pc + 1) lv (.int (x / y) :: st)) : Gd F Z w h pc lv (.int y :: .int x :: st) := fun H locs ls hw hS hl => lv_idiv O.1 O.2.1 d hne (k H locs ls hw hS hl)
theorem g_irem (O : Ok F own cc nL rm rt) {x y : Int32} (hne : ¬ y = 0) (d : decode cc pc = .ok (.irem, 1)) (k : Gd F Z w h (pc + 1) lv (.int (x - x / y * y) :: st)) : Gd F Z w h pc lv (.int y :: .int x :: st) := fun H locs ls hw hS hl => lv_irem O.1 O.2.1 d hne (k H locs ls hw hS hl)
theorem g_ldiv (O : Ok F own cc nL rm rt) {x y : Int64} (hne : ¬ y = 0) (d : decode cc pc = .ok (.ldiv, 1)) (k : Gd F Z w h (pc + 1) lv (.long (x / y) :: st)) : Gd F Z w h pc lv (.long y :: .long x :: st) := fun H locs ls hw hS hl => lv_ldiv O.1 O.2.1 d hne (k H locs ls hw hS hl)
theorem g_ineg (O : Ok F own cc nL rm rt) {x : Int32} (d : decode cc pc = .ok (.ineg, 1)) (k : Gd F Z w h (pc + 1) lv (.int (-x) :: st)) : Gd F Z w h pc lv (.int x :: st) := fun H locs ls hw hS hl => lv_ineg O.1 O.2.1 d (k H locs ls hw hS hl)
theorem g_i2l (O : Ok F own cc nL rm rt) {x : Int32} (d : decode cc pc = .ok (.i2l, 1)) (k : Gd F Z w h (pc + 1) lv (.long x.toInt64 :: st)) : Gd F Z w h pc lv (.int x :: st) := fun H locs ls hw hS hl => lv_i2l O.1 O.2.1 d rfl (k H locs ls hw hS hl)
theorem g_l2i (O : Ok F own cc nL rm rt) {x : Int64} (d : decode cc pc = .ok (.l2i, 1)) (k : Gd F Z w h (pc + 1) lv (.int x.toInt32 :: st)) : Gd F Z w h pc lv (.long x :: st) := fun H locs ls hw hS hl => lv_l2i O.1 O.2.1 d rfl (k H locs ls hw hS hl)
theorem g_i2b (O : Ok F own cc nL rm rt) {x : Int32} (d : decode cc pc = .ok (.i2b, 1)) (k : Gd F Z w h (pc + 1) lv (.int x.toInt8.toInt32 :: st)) : Gd F Z w h pc lv (.int x :: st) := fun H locs ls hw hS hl => lv_i2b O.1 O.2.1 d rfl (k H locs ls hw hS hl)
theorem g_i2c (O : Ok F own cc nL rm rt) {x : Int32} (d : decode cc pc = .ok (.i2c, 1)) (k : Gd F Z w h (pc + 1) lv (.int (x.toUInt32 % 65536).toInt32 :: st)) : Gd F Z w h pc lv (.int x :: st) := fun H locs ls hw hS hl => lv_i2c O.1 O.2.1 d rfl (k H locs ls hw hS hl)
theorem g_lcmp (O : Ok F own cc nL rm rt) {x y : Int64} (d : decode cc pc = .ok (.lcmp, 1)) (k : Gd F Z w h (pc + 1) lv (.int (lg_cmp x y) :: st)) : Gd F Z w h pc lv (.long y :: .long x :: st) := fun H locs ls hw hS hl => W.lcmp O.1 O.2.1 d (k H locs ls hw hS hl)
theorem g_iconst (O : Ok F own cc nL rm rt) {n : Int} {v : Int32} (hv : Int32.ofInt n = v) (d : decode cc pc = .ok (.iconst n, 1)) (k : Gd F Z w h (pc + 1) lv (.int v :: st)) : Gd F Z w h pc lv (st) := fun H locs ls hw hS hl => lv_iconst O.1 O.2.1 d hv (k H locs ls hw hS hl)
theorem g_bipush (O : Ok F own cc nL rm rt) {n : Int} {v : Int32} (hv : (Int8.ofInt n).toInt32 = v) (d : decode cc pc = .ok (.bipush n, 2)) (k : Gd F Z w h (pc + 2) lv (.int v :: st)) : Gd F Z w h pc lv (st) := fun H locs ls hw hS hl => lv_bipush O.1 O.2.1 d hv (k H locs ls hw hS hl)
theorem g_sipush (O : Ok F own cc nL rm rt) {n : Int} {v : Int32} (hv : (Int16.ofInt n).toInt32 = v) (d : decode cc pc = .ok (.sipush n, 3)) (k : Gd F Z w h (pc + 3) lv (.int v :: st)) : Gd F Z w h pc lv (st) := fun H locs ls hw hS hl => lv_sipush O.1 O.2.1 d hv (k H locs ls hw hS hl)
theorem g_lconst (O : Ok F own cc nL rm rt) {n : Fin 2} {v : Int64} (hv : Int64.ofNat (n : Nat) = v) (d : decode cc pc = .ok (.lconst n, 1)) (k : Gd F Z w h (pc + 1) lv (.long v :: st)) : Gd F Z w h pc lv (st) := fun H locs ls hw hS hl => lv_lconst O.1 O.2.1 d hv (k H locs ls hw hS hl)
theorem g_ldc (O : Ok F own cc nL rm rt) {i : Nat} {v : Int32} (hc : Cond.constant own i v ∈ Tb) (d : decode cc pc = .ok (.ldc i, 2)) (k : Gd F Z w h (pc + 2) lv (.int v :: st)) : Gd F Z w h pc lv (st) := fun H locs ls hw hS hl => lv_ldc O.1 O.2.1 O.2.2.2.1 (O.2.2.2.2.1 _ hc) d (k H locs ls hw hS hl)
theorem g_ldcw (O : Ok F own cc nL rm rt) {i : Nat} {v : Int32} (hc : Cond.constant own i v ∈ Tb) (d : decode cc pc = .ok (.ldc_w i, 3)) (k : Gd F Z w h (pc + 3) lv (.int v :: st)) : Gd F Z w h pc lv (st) := fun H locs ls hw hS hl => lv_ldcw O.1 O.2.1 O.2.2.2.1 (O.2.2.2.2.1 _ hc) d (k H locs ls hw hS hl)
theorem g_ldc2 (O : Ok F own cc nL rm rt) {i : Nat} {v : Int64} (hc : Cond.constantLong own i v ∈ Tb) (d : decode cc pc = .ok (.ldc2_w i, 3)) (k : Gd F Z w h (pc + 3) lv (.long v :: st)) : Gd F Z w h pc lv (st) := fun H locs ls hw hS hl => lv_ldc2 O.1 O.2.1 O.2.2.2.1 (O.2.2.2.2.1 _ hc) d (k H locs ls hw hS hl)
theorem g_dup (O : Ok F own cc nL rm rt) {v : Value} (hc : v.category = 1) (d : decode cc pc = .ok (.dup, 1)) (k : Gd F Z w h (pc + 1) lv (v :: v :: st)) : Gd F Z w h pc lv (v :: st) := fun H locs ls hw hS hl => lv_dup O.1 O.2.1 d (by rw [cv_cat]; exact hc) (k H locs ls hw hS hl)
theorem g_dup2 (O : Ok F own cc nL rm rt) {v u : Value} (hc : v.category = 1) (hu : u.category = 1) (d : decode cc pc = .ok (.dup2, 1)) (k : Gd F Z w h (pc + 1) lv (v :: u :: v :: u :: st)) : Gd F Z w h pc lv (v :: u :: st) := fun H locs ls hw hS hl => lv_dup2_11 O.1 O.2.1 d (by rw [cv_cat]; exact hc) (by rw [cv_cat]; exact hu) (k H locs ls hw hS hl)
theorem g_pop (O : Ok F own cc nL rm rt) {v : Value} (hc : v.category = 1) (d : decode cc pc = .ok (.pop, 1)) (k : Gd F Z w h (pc + 1) lv (st)) : Gd F Z w h pc lv (v :: st) := fun H locs ls hw hS hl => lv_pop O.1 O.2.1 d (by rw [cv_cat]; exact hc) (k H locs ls hw hS hl)
theorem g_iloadn (O : Ok F own cc nL rm rt) {k : Fin 4} {x : Int32} (e : lget lv (k : Nat) = some (.int x)) (d : decode cc pc = .ok (.iload_n k, 1)) (k : Gd F Z w h (pc + 1) lv (.int x :: st)) : Gd F Z w h pc lv (st) := fun H locs ls hw hS hl => lv_iload_n O.1 O.2.1 d rfl (lv_of hl e) (k H locs ls hw hS hl)
theorem g_iload (O : Ok F own cc nL rm rt) {i : Nat} {x : Int32} (e : lget lv i = some (.int x)) (d : decode cc pc = .ok (.iload i, 2)) (k : Gd F Z w h (pc + 2) lv (.int x :: st)) : Gd F Z w h pc lv (st) := fun H locs ls hw hS hl => lv_iload O.1 O.2.1 d (lv_of hl e) (k H locs ls hw hS hl)
theorem g_lloadn (O : Ok F own cc nL rm rt) {k : Fin 4} {x : Int64} (e : lget lv (k : Nat) = some (.long x)) (d : decode cc pc = .ok (.lload_n k, 1)) (k : Gd F Z w h (pc + 1) lv (.long x :: st)) : Gd F Z w h pc lv (st) := fun H locs ls hw hS hl => lv_lload_n O.1 O.2.1 d rfl (lv_of hl e) (k H locs ls hw hS hl)
theorem g_lload (O : Ok F own cc nL rm rt) {i : Nat} {x : Int64} (e : lget lv i = some (.long x)) (d : decode cc pc = .ok (.lload i, 2)) (k : Gd F Z w h (pc + 2) lv (.long x :: st)) : Gd F Z w h pc lv (st) := fun H locs ls hw hS hl => lv_lload O.1 O.2.1 d (lv_of hl e) (k H locs ls hw hS hl)
theorem g_aloadn (O : Ok F own cc nL rm rt) {k : Fin 4} {x : Nat} (e : lget lv (k : Nat) = some (.ref x)) (d : decode cc pc = .ok (.aload_n k, 1)) (k : Gd F Z w h (pc + 1) lv (.ref x :: st)) : Gd F Z w h pc lv (st) := fun H locs ls hw hS hl => lv_aload_n O.1 O.2.1 d rfl (lv_of hl e) (k H locs ls hw hS hl)
theorem g_aload (O : Ok F own cc nL rm rt) {i : Nat} {x : Nat} (e : lget lv i = some (.ref x)) (d : decode cc pc = .ok (.aload i, 2)) (k : Gd F Z w h (pc + 2) lv (.ref x :: st)) : Gd F Z w h pc lv (st) := fun H locs ls hw hS hl => lv_aload O.1 O.2.1 d (lv_of hl e) (k H locs ls hw hS hl)
/-- the locals behind a store -/
def lput (lv : List (Nat × Value)) (i : Nat) (v : Value) : List (Nat × Value) := lv.filter (fun q => decide (q.1 < i) && !(q.1 + 1 == i && q.2.category == 2)) ++ (i, v) :: lv.filter (fun q => decide (i + v.category ≤ q.1))
theorem lput_in {r : Nat → Nat} {i : Nat} {v : Value} (lv : List (Nat × Value)) (hc : v.category = 1) : ∀ q ∈ (lput lv i v).map (cvq r), q ∈ (i, cv r v) :: (lv.map (cvq r)).filter (fun q => !(q.1 == i) && !(q.1 + 1 == i && q.2.category == 2)) := by
  intro q hq
  obtain ⟨p, hp, rfl⟩ := List.mem_map.mp hq
  unfold lput at hp
  rcases List.mem_append.mp hp with h1 | h1
  · obtain ⟨h2, h3⟩ := List.mem_filter.mp h1
    refine List.mem_cons_of_mem _ (List.mem_filter.mpr ⟨List.mem_map.mpr ⟨p, h2, rfl⟩, ?_⟩)
    simp only [Bool.and_eq_true, decide_eq_true_eq] at h3
    have h4 : (cvq r p).1 = p.1 := rfl
    have h5 : (cvq r p).2.category = p.2.category := cv_cat r p.2
    rw [h4, h5]
    simp only [Bool.and_eq_true]
    refine ⟨?_, h3.2⟩
    simp; omega
  · rcases List.mem_cons.mp h1 with h2 | h2
    · subst h2
      exact List.mem_cons_self
    · obtain ⟨h2, h3⟩ := List.mem_filter.mp h2
      refine List.mem_cons_of_mem _ (List.mem_filter.mpr ⟨List.mem_map.mpr ⟨p, h2, rfl⟩, ?_⟩)
      rw [hc] at h3
      simp only [decide_eq_true_eq] at h3
      have h4 : (cvq r p).1 = p.1 := rfl
      rw [h4]
      simp; omega
theorem lput_in2 {r : Nat → Nat} {i : Nat} {v : Value} (lv : List (Nat × Value)) (hc : v.category = 2) : ∀ q ∈ (lput lv i v).map (cvq r), q ∈ (i, cv r v) :: (lv.map (cvq r)).filter (fun q => !(q.1 == i) && (!(q.1 == i + 1) && !(q.1 + 1 == i && q.2.category == 2))) := by
  intro q hq
  obtain ⟨p, hp, rfl⟩ := List.mem_map.mp hq
  unfold lput at hp
  rcases List.mem_append.mp hp with h1 | h1
  · obtain ⟨h2, h3⟩ := List.mem_filter.mp h1
    refine List.mem_cons_of_mem _ (List.mem_filter.mpr ⟨List.mem_map.mpr ⟨p, h2, rfl⟩, ?_⟩)
    simp only [Bool.and_eq_true, decide_eq_true_eq] at h3
    have h4 : (cvq r p).1 = p.1 := rfl
    have h5 : (cvq r p).2.category = p.2.category := cv_cat r p.2
    rw [h4, h5]
    simp only [Bool.and_eq_true]
    refine ⟨?_, ?_, h3.2⟩
    · simp; omega
    · simp; omega
  · rcases List.mem_cons.mp h1 with h2 | h2
    · subst h2
      exact List.mem_cons_self
    · obtain ⟨h2, h3⟩ := List.mem_filter.mp h2
      refine List.mem_cons_of_mem _ (List.mem_filter.mpr ⟨List.mem_map.mpr ⟨p, h2, rfl⟩, ?_⟩)
      rw [hc] at h3
      simp only [decide_eq_true_eq] at h3
      have h4 : (cvq r p).1 = p.1 := rfl
      rw [h4]
      simp; omega
theorem lv_less {ls : Array Slot} {n : Nat} {l l' : List (Nat × Value)} (hl : lv_has ls n l) (h : ∀ q ∈ l', q ∈ l) : lv_has ls n l' := ⟨hl.1, hl.2.1, fun q hq => hl.2.2 q (h q hq)⟩
theorem g_istoren (O : Ok F own cc nL rm rt) {k : Fin 4} {i : Nat} {x : Int32} {lv' : List (Nat × Value)} (d : decode cc pc = .ok (.istore_n k, 1)) (hi : (k : Nat) = i) (hn : i < nL) (e : lput lv i (.int x) = lv') (kk : Gd F Z w h (pc + 1) lv' st) : Gd F Z w h pc lv (.int x :: st) := fun H locs ls hw hS hl => lv_istore_n O.1 O.2.1 d hi hl (by rw [O.2.2.2.2.2.2.2.2.2.1]; exact hn) rfl (fun ls' hl' => kk H locs ls' hw hS (lv_less hl' (by rw [← e]; exact lput_in lv rfl)))
theorem g_istore (O : Ok F own cc nL rm rt) {i : Nat} {x : Int32} {lv' : List (Nat × Value)} (d : decode cc pc = .ok (.istore i, 2)) (hn : i < nL) (e : lput lv i (.int x) = lv') (kk : Gd F Z w h (pc + 2) lv' st) : Gd F Z w h pc lv (.int x :: st) := fun H locs ls hw hS hl => lv_istore O.1 O.2.1 d hl (by rw [O.2.2.2.2.2.2.2.2.2.1]; exact hn) rfl (fun ls' hl' => kk H locs ls' hw hS (lv_less hl' (by rw [← e]; exact lput_in lv rfl)))
theorem g_astoren (O : Ok F own cc nL rm rt) {k : Fin 4} {i : Nat} {x : Nat} {lv' : List (Nat × Value)} (d : decode cc pc = .ok (.astore_n k, 1)) (hi : (k : Nat) = i) (hn : i < nL) (e : lput lv i (.ref x) = lv') (kk : Gd F Z w h (pc + 1) lv' st) : Gd F Z w h pc lv (.ref x :: st) := fun H locs ls hw hS hl => lv_astore_n O.1 O.2.1 d hi hl (by rw [O.2.2.2.2.2.2.2.2.2.1]; exact hn) rfl (fun ls' hl' => kk H locs ls' hw hS (lv_less hl' (by rw [← e]; exact lput_in lv rfl)))
theorem g_astore (O : Ok F own cc nL rm rt) {i : Nat} {x : Nat} {lv' : List (Nat × Value)} (d : decode cc pc = .ok (.astore i, 2)) (hn : i < nL) (e : lput lv i (.ref x) = lv') (kk : Gd F Z w h (pc + 2) lv' st) : Gd F Z w h pc lv (.ref x :: st) := fun H locs ls hw hS hl => lv_astore O.1 O.2.1 d hl (by rw [O.2.2.2.2.2.2.2.2.2.1]; exact hn) rfl (fun ls' hl' => kk H locs ls' hw hS (lv_less hl' (by rw [← e]; exact lput_in lv rfl)))
theorem g_lstoren (O : Ok F own cc nL rm rt) {k : Fin 4} {i : Nat} {x : Int64} {lv' : List (Nat × Value)} (d : decode cc pc = .ok (.lstore_n k, 1)) (hi : (k : Nat) = i) (hn : i + 1 < nL) (e : lput lv i (.long x) = lv') (kk : Gd F Z w h (pc + 1) lv' st) : Gd F Z w h pc lv (.long x :: st) := fun H locs ls hw hS hl => lv_lstore_n O.1 O.2.1 d hi hl (by rw [O.2.2.2.2.2.2.2.2.2.1]; exact hn) rfl (fun ls' hl' => kk H locs ls' hw hS (lv_less hl' (by rw [← e]; exact lput_in2 lv rfl)))
theorem g_lstore (O : Ok F own cc nL rm rt) {i : Nat} {x : Int64} {lv' : List (Nat × Value)} (d : decode cc pc = .ok (.lstore i, 2)) (hn : i + 1 < nL) (e : lput lv i (.long x) = lv') (kk : Gd F Z w h (pc + 2) lv' st) : Gd F Z w h pc lv (.long x :: st) := fun H locs ls hw hS hl => lv_lstore O.1 O.2.1 d hl (by rw [O.2.2.2.2.2.2.2.2.2.1]; exact hn) rfl (fun ls' hl' => kk H locs ls' hw hS (lv_less hl' (by rw [← e]; exact lput_in2 lv rfl)))
theorem g_iinc (O : Ok F own cc nL rm rt) {i : Nat} {n : Int} {x v : Int32} {lv' : List (Nat × Value)} (d : decode cc pc = .ok (.iinc i n, 3)) (e0 : lget lv i = some (.int x)) (hv : x + Int32.ofInt n = v) (hn : i < nL) (e : lput lv i (.int v) = lv') (kk : Gd F Z w h (pc + 3) lv' st) : Gd F Z w h pc lv st := fun H locs ls hw hS hl => by
  obtain ⟨k, hk⟩ := List.getElem?_of_mem (List.mem_map.mpr ⟨(i, .int x), lget_mem e0, rfl⟩ : cvq (fr F) (i, .int x) ∈ lv.map (cvq (fr F)))
  exact lv_iinc (k := k) (x := x) O.1 O.2.1 d hl hk hv (by rw [O.2.2.2.2.2.2.2.2.2.1]; exact hn) rfl (fun ls' hl' => kk H locs ls' hw hS (lv_less hl' (by rw [← e]; exact lput_in lv rfl)))
/-- fewer locals -/
theorem g_sub {lv' : List (Nat × Value)} (ks : List Nat) (e : lv_pick lv ks = lv') (kk : Gd F Z w h pc lv' st) : Gd F Z w h pc lv st := fun H locs ls hw hS hl => kk H locs ls hw hS (lv_less hl (fun q hq => by
  obtain ⟨p, hp, rfl⟩ := List.mem_map.mp hq
  rw [← e] at hp
  obtain ⟨i, -, hi⟩ := List.mem_filterMap.mp hp
  exact List.mem_map.mpr ⟨p, by first | exact List.mem_of_getElem? hi | exact List.getElem?_mem hi, rfl⟩))
theorem g_if_eq (O : Ok F own cc nL rm rt) {x : Int32} {off : Int} {tgt : Nat} (d : decode cc pc = .ok (.ifCond .eq off, 3)) (ht : (pc : Int) + off = (tgt : Int)) (kt : x = 0 → Gd F Z w h tgt lv st) (kf : ¬ x = 0 → Gd F Z w h (pc + 3) lv st) : Gd F Z w h pc lv (.int x :: st) := fun H locs ls hw hS hl => lv_if_eq O.1 O.2.1 d ht (fun q => kt q H locs ls hw hS hl) (fun q => kf q H locs ls hw hS hl)
theorem g_icmp_eq (O : Ok F own cc nL rm rt) {x y : Int32} {off : Int} {tgt : Nat} (d : decode cc pc = .ok (.if_icmp .eq off, 3)) (ht : (pc : Int) + off = (tgt : Int)) (kt : x = y → Gd F Z w h tgt lv st) (kf : ¬ x = y → Gd F Z w h (pc + 3) lv st) : Gd F Z w h pc lv (.int y :: .int x :: st) := fun H locs ls hw hS hl => lv_icmp_eq O.1 O.2.1 d ht (fun q => kt q H locs ls hw hS hl) (fun q => kf q H locs ls hw hS hl)
theorem g_if_ne (O : Ok F own cc nL rm rt) {x : Int32} {off : Int} {tgt : Nat} (d : decode cc pc = .ok (.ifCond .ne off, 3)) (ht : (pc : Int) + off = (tgt : Int)) (kt : ¬ x = 0 → Gd F Z w h tgt lv st) (kf : x = 0 → Gd F Z w h (pc + 3) lv st) : Gd F Z w h pc lv (.int x :: st) := fun H locs ls hw hS hl => lv_if_ne O.1 O.2.1 d ht (fun q => kt q H locs ls hw hS hl) (fun q => kf q H locs ls hw hS hl)
theorem g_icmp_ne (O : Ok F own cc nL rm rt) {x y : Int32} {off : Int} {tgt : Nat} (d : decode cc pc = .ok (.if_icmp .ne off, 3)) (ht : (pc : Int) + off = (tgt : Int)) (kt : ¬ x = y → Gd F Z w h tgt lv st) (kf : x = y → Gd F Z w h (pc + 3) lv st) : Gd F Z w h pc lv (.int y :: .int x :: st) := fun H locs ls hw hS hl => lv_icmp_ne O.1 O.2.1 d ht (fun q => kt q H locs ls hw hS hl) (fun q => kf q H locs ls hw hS hl)
theorem g_if_lt (O : Ok F own cc nL rm rt) {x : Int32} {off : Int} {tgt : Nat} (d : decode cc pc = .ok (.ifCond .lt off, 3)) (ht : (pc : Int) + off = (tgt : Int)) (kt : x < 0 → Gd F Z w h tgt lv st) (kf : ¬ x < 0 → Gd F Z w h (pc + 3) lv st) : Gd F Z w h pc lv (.int x :: st) := fun H locs ls hw hS hl => lv_if_lt O.1 O.2.1 d ht (fun q => kt q H locs ls hw hS hl) (fun q => kf q H locs ls hw hS hl)
theorem g_icmp_lt (O : Ok F own cc nL rm rt) {x y : Int32} {off : Int} {tgt : Nat} (d : decode cc pc = .ok (.if_icmp .lt off, 3)) (ht : (pc : Int) + off = (tgt : Int)) (kt : x < y → Gd F Z w h tgt lv st) (kf : ¬ x < y → Gd F Z w h (pc + 3) lv st) : Gd F Z w h pc lv (.int y :: .int x :: st) := fun H locs ls hw hS hl => lv_icmp_lt O.1 O.2.1 d ht (fun q => kt q H locs ls hw hS hl) (fun q => kf q H locs ls hw hS hl)
theorem g_if_ge (O : Ok F own cc nL rm rt) {x : Int32} {off : Int} {tgt : Nat} (d : decode cc pc = .ok (.ifCond .ge off, 3)) (ht : (pc : Int) + off = (tgt : Int)) (kt : 0 ≤ x → Gd F Z w h tgt lv st) (kf : ¬ 0 ≤ x → Gd F Z w h (pc + 3) lv st) : Gd F Z w h pc lv (.int x :: st) := fun H locs ls hw hS hl => lv_if_ge O.1 O.2.1 d ht (fun q => kt q H locs ls hw hS hl) (fun q => kf q H locs ls hw hS hl)
theorem g_icmp_ge (O : Ok F own cc nL rm rt) {x y : Int32} {off : Int} {tgt : Nat} (d : decode cc pc = .ok (.if_icmp .ge off, 3)) (ht : (pc : Int) + off = (tgt : Int)) (kt : y ≤ x → Gd F Z w h tgt lv st) (kf : ¬ y ≤ x → Gd F Z w h (pc + 3) lv st) : Gd F Z w h pc lv (.int y :: .int x :: st) := fun H locs ls hw hS hl => lv_icmp_ge O.1 O.2.1 d ht (fun q => kt q H locs ls hw hS hl) (fun q => kf q H locs ls hw hS hl)
theorem g_if_gt (O : Ok F own cc nL rm rt) {x : Int32} {off : Int} {tgt : Nat} (d : decode cc pc = .ok (.ifCond .gt off, 3)) (ht : (pc : Int) + off = (tgt : Int)) (kt : 0 < x → Gd F Z w h tgt lv st) (kf : ¬ 0 < x → Gd F Z w h (pc + 3) lv st) : Gd F Z w h pc lv (.int x :: st) := fun H locs ls hw hS hl => lv_if_gt O.1 O.2.1 d ht (fun q => kt q H locs ls hw hS hl) (fun q => kf q H locs ls hw hS hl)
theorem g_icmp_gt (O : Ok F own cc nL rm rt) {x y : Int32} {off : Int} {tgt : Nat} (d : decode cc pc = .ok (.if_icmp .gt off, 3)) (ht : (pc : Int) + off = (tgt : Int)) (kt : y < x → Gd F Z w h tgt lv st) (kf : ¬ y < x → Gd F Z w h (pc + 3) lv st) : Gd F Z w h pc lv (.int y :: .int x :: st) := fun H locs ls hw hS hl => lv_icmp_gt O.1 O.2.1 d ht (fun q => kt q H locs ls hw hS hl) (fun q => kf q H locs ls hw hS hl)
theorem g_if_le (O : Ok F own cc nL rm rt) {x : Int32} {off : Int} {tgt : Nat} (d : decode cc pc = .ok (.ifCond .le off, 3)) (ht : (pc : Int) + off = (tgt : Int)) (kt : x ≤ 0 → Gd F Z w h tgt lv st) (kf : ¬ x ≤ 0 → Gd F Z w h (pc + 3) lv st) : Gd F Z w h pc lv (.int x :: st) := fun H locs ls hw hS hl => lv_if_le O.1 O.2.1 d ht (fun q => kt q H locs ls hw hS hl) (fun q => kf q H locs ls hw hS hl)
theorem g_icmp_le (O : Ok F own cc nL rm rt) {x y : Int32} {off : Int} {tgt : Nat} (d : decode cc pc = .ok (.if_icmp .le off, 3)) (ht : (pc : Int) + off = (tgt : Int)) (kt : x ≤ y → Gd F Z w h tgt lv st) (kf : ¬ x ≤ y → Gd F Z w h (pc + 3) lv st) : Gd F Z w h pc lv (.int y :: .int x :: st) := fun H locs ls hw hS hl => lv_icmp_le O.1 O.2.1 d ht (fun q => kt q H locs ls hw hS hl) (fun q => kf q H locs ls hw hS hl)
theorem g_goto (O : Ok F own cc nL rm rt) {off : Int} {tgt : Nat} (d : decode cc pc = .ok (.goto off, 3)) (ht : (pc : Int) + off = (tgt : Int)) (k : Gd F Z w h tgt lv st) : Gd F Z w h pc lv st := fun H locs ls hw hS hl => lv_goto O.1 O.2.1 d ht (k H locs ls hw hS hl)
end GR
