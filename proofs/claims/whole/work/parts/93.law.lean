/-! printed by law.py: the law's loop and its start -/
section LW
variable {g : mg} {l : Launch} {X : XT} {Z : State → Prop} {w : Nat × Nat × Nat} {h : AH} {pc : Nat} {lv : List (Nat × Value)} {st : List Value} {own : String} {cc : ByteArray} {nL : Nat} {rm : Room} {rt : Option FieldType}
/-- the script: L ints at the cell 1000 -/
def Scr (F : Fr) (L : Nat) (xs : Nat → Int32) : Prop := va_X (fr F 1000) L xs (fs F) (fs F).heap ∧ fr F 1000 < (fs F).heap.size ∧ ¬ aA (fG F) (fr F 1000) ∧ L ≤ 256
theorem g_sld (O : Ok (FF g l X) own cc nL rm rt) {L : Nat} {xs : Nat → Int32} (S : Scr (FF g l X) L xs) (d : decode cc pc = .ok (.iaload, 1)) {x : Int32} {j : Nat} (e : x = I (j : Int)) (hj : j < L) (kk : Gd (FF g l X) Z w h (pc + 1) lv (.int (xs j) :: st)) : Gd (FF g l X) Z w h pc lv (.int x :: .ref 1000 :: st) := by
  subst e
  intro H locs ls hw hS hl'
  have l256 := S.2.2.2
  refine va_sld O.1 O.2.1 S.1 S.2.1 S.2.2.1 hS (I_in hj (by omega)) d ?_
  rw [I_cl (by omega)]
  exact kk H locs ls hw hS hl'
theorem g_slen (O : Ok (FF g l X) own cc nL rm rt) {L : Nat} {xs : Nat → Int32} (S : Scr (FF g l X) L xs) (d : decode cc pc = .ok (.arraylength, 1)) (kk : Gd (FF g l X) Z w h (pc + 1) lv (.int (I (L : Int)) :: st)) : Gd (FF g l X) Z w h pc lv (.ref 1000 :: st) := by
  intro H locs ls hw hS hl'
  refine va_slen O.1 O.2.1 S.1 S.2.1 S.2.2.1 hS d ?_
  have e : Int32.ofNat L = I (L : Int) := (I_nat L).symm
  rw [e]
  exact kk H locs ls hw hS hl'
end LW
set_option maxRecDepth 20000 in
set_option maxHeartbeats 4000000 in
theorem law_loop {g : mg} {l : Launch} {X : XT} {Z : State → Prop} (O : Ok (FF g l X) RL cL_law 4 room_1 (some .boolean)) {L : Nat} {xs : Nat → Int32} (S : Scr (FF g l X) L xs) (fin : ∀ k h lv, k ≤ 75 → Gd (FF g l X) Z (118, 118 + k, 19377 + 14641 * k) h 909 lv [.int (I 1)]) : ∀ m i k h, L < i + 4 * m + 4 → i ≤ 300 → i = 4 * k → Inv h → Gd (FF g l X) Z (118, 118 + k, 19377 + 14641 * k) h 18 [(0, .ref 1000), (1, .ref 0), (2, .ref 82), (3, .int (I (i : Int)))] [] := by
  have l256 := S.2.2.2
  intro m
  induction m with
  | zero =>
    intro i k h hm hi hk hI
    refine g_iloadn (pc := 18) O rfl dL_law_18 ?_
    refine g_aloadn (pc := 19) O rfl dL_law_19 ?_
    refine g_slen (pc := 20) O S dL_law_20 ?_
    refine g_iconst (v := I 4) (pc := 21) O rfl dL_law_21 ?_
    refine g_isub (pc := 22) O dL_law_22 ?_
    rw [I_sub]
    refine g_icmp_gt (tgt := 908) (pc := 23) O dL_law_23 rfl (fun _ => ?_) (fun q => absurd ((I_lt (by omega) (by omega) (by omega) (by omega)).mpr (by omega)) q)
    exact g_iconst (v := I 1) (pc := 908) O rfl dL_law_908 (fin k h _ (by omega))
  | succ m ih =>
    intro i k h hm hi hk hI
    refine g_iloadn (pc := 18) O rfl dL_law_18 ?_
    refine g_aloadn (pc := 19) O rfl dL_law_19 ?_
    refine g_slen (pc := 20) O S dL_law_20 ?_
    refine g_iconst (v := I 4) (pc := 21) O rfl dL_law_21 ?_
    refine g_isub (pc := 22) O dL_law_22 ?_
    rw [I_sub]
    refine g_icmp_gt (tgt := 908) (pc := 23) O dL_law_23 rfl (fun _ => g_iconst (v := I 1) (pc := 908) O rfl dL_law_908 (fin k h _ (by omega))) (fun q => ?_)
    rw [I_lt (by omega) (by omega) (by omega) (by omega)] at q
    have hiL : i + 3 < L := by omega
    have nxt : ∀ h2, Inv h2 → Gd (FF g l X) Z (118, 118 + (k + 1), 19377 + 14641 * (k + 1)) h2 902 [(0, .ref 1000), (1, .ref 0), (2, .ref 82), (3, .int (I (i : Int)))] [] := fun h2 I2 => by
      refine g_iinc (v := I ((i + 4 : Nat) : Int)) (lv' := [(0, .ref 1000), (1, .ref 0), (2, .ref 82), (3, .int (I ((i + 4 : Nat) : Int)))]) (pc := 902) O dL_law_902 rfl (I_add (i : Int) 4) (ltb rfl) rfl ?_
      refine g_goto (tgt := 18) (pc := 905) O dL_law_905 rfl ?_
      exact ih (i + 4) (k + 1) h2 (by omega) (by omega) (by omega) I2
    refine g_aloadn (pc := 26) O rfl dL_law_26 ?_
    refine g_iloadn (pc := 27) O rfl dL_law_27 ?_
    refine g_sld (j := i) (pc := 28) O S dL_law_28 rfl (by omega) ?_
    refine g_bipush (v := I 31) (pc := 29) O (by decide) dL_law_29 ?_
    refine g_iand (pc := 31) O dL_law_31 ?_
    refine g_tab (n := 26) (pc := 32) O dL_law_32 rfl rfl (leb rfl) (fun j hj _ => ?_) (fun _ => ⟨902, rfl, g_wide (by omega) (by omega) (nxt h hI)⟩)
    rcases (show j = 0 ∨ j = 1 ∨ j = 2 ∨ j = 3 ∨ j = 4 ∨ j = 5 ∨ j = 6 ∨ j = 7 ∨ j = 8 ∨ j = 9 ∨ j = 10 ∨ j = 11 ∨ j = 12 ∨ j = 13 ∨ j = 14 ∨ j = 15 ∨ j = 16 ∨ j = 17 ∨ j = 18 ∨ j = 19 ∨ j = 20 ∨ j = 21 ∨ j = 22 ∨ j = 23 ∨ j = 24 ∨ j = 25 by omega) with rfl | rfl | rfl | rfl | rfl | rfl | rfl | rfl | rfl | rfl | rfl | rfl | rfl | rfl | rfl | rfl | rfl | rfl | rfl | rfl | rfl | rfl | rfl | rfl | rfl | rfl
    · refine ⟨152, rfl, ?_⟩
      show Gd (FF g l X) Z (118, 118 + k, 19377 + 14641 * k) h 152 [(0, .ref 1000), (1, .ref 0), (2, .ref 82), (3, .int (I (i : Int)))] []
      refine g_aloadn (pc := 152) O rfl dL_law_152 ?_
      refine g_aloadn (pc := 153) O rfl dL_law_153 ?_
      refine g_iloadn (pc := 154) O rfl dL_law_154 ?_
      refine g_iconst (v := I 1) (pc := 155) O rfl dL_law_155 ?_
      refine g_iadd (pc := 156) O dL_law_156 ?_
      refine g_sld (j := i + 1) (pc := 157) O S dL_law_157 (I_add (i : Int) 1) (by omega) ?_
      refine g_i2l (pc := 158) O dL_law_158 ?_
      refine g_bipush (v := I 32) (pc := 159) O (by decide) dL_law_159 ?_
      refine g_lshl (pc := 161) O dL_law_161 ?_
      refine g_aloadn (pc := 162) O rfl dL_law_162 ?_
      refine g_iloadn (pc := 163) O rfl dL_law_163 ?_
      refine g_iconst (v := I 2) (pc := 164) O rfl dL_law_164 ?_
      refine g_iadd (pc := 165) O dL_law_165 ?_
      refine g_sld (j := i + 2) (pc := 166) O S dL_law_166 (I_add (i : Int) 2) (by omega) ?_
      refine g_i2l (pc := 167) O dL_law_167 ?_
      refine g_ldc2 (v := 4294967295) (pc := 168) O co_L_13 dL_law_168 ?_
      refine g_land (pc := 171) O dL_law_171 ?_
      refine g_lor (pc := 172) O dL_law_172 ?_
      refine g_aloadn (pc := 173) O rfl dL_law_173 ?_
      refine g_iloadn (pc := 174) O rfl dL_law_174 ?_
      refine g_iconst (v := I 3) (pc := 175) O rfl dL_law_175 ?_
      refine g_iadd (pc := 176) O dL_law_176 ?_
      refine g_sld (j := i + 3) (pc := 177) O S dL_law_177 (I_add (i : Int) 3) (by omega) ?_
      refine g_callV (M := mX7_type) (w := (118, 118 + k, 19377 + 14641 * k)) (n2 := 118) (a := 0) (av := [.long (((xs (i + 1)).toInt64 <<< ((I 32).toInt64 &&& 63)) ||| ((xs (i + 2)).toInt64 &&& 4294967295)), .int (xs (i + 3))]) (st := []) (mc := 0) (ms := 0) (pc := 178) O mk_X7_type ml_L_15 im_X7_type se_X7_type cls7 rfl (ltb rfl) ⟨rfl, rfl, leb rfl, leb rfl⟩ rfl (leb rfl) ⟨by show 118 + k + 0 ≤ 600000; omega, by show 19377 + 14641 * k + 0 ≤ 7302249; omega⟩ dL_law_178 (Spec.mono (J_type hI ((((xs (i + 1)).toInt64 <<< ((I 32).toInt64 &&& 63)) ||| ((xs (i + 2)).toInt64 &&& 4294967295))) ((xs (i + 3)))) (qI_k (fun v h1 SB => ?_))) rfl
      show Gd (FF g l X) Z (118, 118 + k + 0, 19377 + 14641 * k + 0) h1 181 [(0, .ref 1000), (1, .ref 0), (2, .ref 82), (3, .int (I (i : Int)))] [.int v]
      refine g_aloadn (pc := 181) O rfl dL_law_181 ?_
      refine g_aloadn (pc := 182) O rfl dL_law_182 ?_
      refine g_iloadn (pc := 183) O rfl dL_law_183 ?_
      refine g_iconst (v := I 1) (pc := 184) O rfl dL_law_184 ?_
      refine g_iadd (pc := 185) O dL_law_185 ?_
      refine g_sld (j := i + 1) (pc := 186) O S dL_law_186 (I_add (i : Int) 1) (by omega) ?_
      refine g_i2l (pc := 187) O dL_law_187 ?_
      refine g_bipush (v := I 32) (pc := 188) O (by decide) dL_law_188 ?_
      refine g_lshl (pc := 190) O dL_law_190 ?_
      refine g_aloadn (pc := 191) O rfl dL_law_191 ?_
      refine g_iloadn (pc := 192) O rfl dL_law_192 ?_
      refine g_iconst (v := I 2) (pc := 193) O rfl dL_law_193 ?_
      refine g_iadd (pc := 194) O dL_law_194 ?_
      refine g_sld (j := i + 2) (pc := 195) O S dL_law_195 (I_add (i : Int) 2) (by omega) ?_
      refine g_i2l (pc := 196) O dL_law_196 ?_
      refine g_ldc2 (v := 4294967295) (pc := 197) O co_L_13 dL_law_197 ?_
      refine g_land (pc := 200) O dL_law_200 ?_
      refine g_lor (pc := 201) O dL_law_201 ?_
      refine g_aloadn (pc := 202) O rfl dL_law_202 ?_
      refine g_iloadn (pc := 203) O rfl dL_law_203 ?_
      refine g_iconst (v := I 3) (pc := 204) O rfl dL_law_204 ?_
      refine g_iadd (pc := 205) O dL_law_205 ?_
      refine g_sld (j := i + 3) (pc := 206) O S dL_law_206 (I_add (i : Int) 3) (by omega) ?_
      refine g_callV (M := mX8_type) (w := (118, 118 + k + 0, 19377 + 14641 * k + 0)) (n2 := 118) (a := 82) (av := [.long (((xs (i + 1)).toInt64 <<< ((I 32).toInt64 &&& 63)) ||| ((xs (i + 2)).toInt64 &&& 4294967295)), .int (xs (i + 3))]) (st := [.int v]) (mc := 0) (ms := 0) (pc := 207) O mk_X8_type ml_L_19 im_X8_type se_X8_type cls8 rfl (ltb rfl) ⟨rfl, rfl, leb rfl, leb rfl⟩ rfl (leb rfl) ⟨by show 118 + k + 0 + 0 ≤ 600000; omega, by show 19377 + 14641 * k + 0 + 0 ≤ 7302249; omega⟩ dL_law_207 (Spec.mono SB (qI_k (fun u h2 hu => ?_))) rfl
      obtain ⟨eu, I2⟩ := hu
      subst eu
      show Gd (FF g l X) Z (118, 118 + k + 0, 19377 + 14641 * k + 0) h2 210 [(0, .ref 1000), (1, .ref 0), (2, .ref 82), (3, .int (I (i : Int)))] [.int u, .int u]
      refine g_icmp_eq (tgt := 902) (pc := 210) O dL_law_210 rfl (fun _ => ?_) (fun q => absurd rfl q)
      exact g_wide (by omega) (by omega) (nxt h2 I2)
    · refine ⟨215, rfl, ?_⟩
      show Gd (FF g l X) Z (118, 118 + k, 19377 + 14641 * k) h 215 [(0, .ref 1000), (1, .ref 0), (2, .ref 82), (3, .int (I (i : Int)))] []
      refine g_aloadn (pc := 215) O rfl dL_law_215 ?_
      refine g_callV (M := mX7_clear) (w := (118, 118 + k, 19377 + 14641 * k)) (n2 := 118) (a := 0) (av := []) (st := []) (mc := 0) (ms := 0) (pc := 216) O mk_X7_clear ml_L_20 im_X7_clear se_X7_clear cls7 rfl (ltb rfl) ⟨rfl, rfl, leb rfl, leb rfl⟩ rfl (leb rfl) ⟨by show 118 + k + 0 ≤ 600000; omega, by show 19377 + 14641 * k + 0 ≤ 7302249; omega⟩ dL_law_216 (Spec.mono (J_clear hI) (qI_k (fun v h1 SB => ?_))) rfl
      show Gd (FF g l X) Z (118, 118 + k + 0, 19377 + 14641 * k + 0) h1 219 [(0, .ref 1000), (1, .ref 0), (2, .ref 82), (3, .int (I (i : Int)))] [.int v]
      refine g_aloadn (pc := 219) O rfl dL_law_219 ?_
      refine g_callV (M := mX8_clear) (w := (118, 118 + k + 0, 19377 + 14641 * k + 0)) (n2 := 118) (a := 82) (av := []) (st := [.int v]) (mc := 0) (ms := 0) (pc := 220) O mk_X8_clear ml_L_24 im_X8_clear se_X8_clear cls8 rfl (ltb rfl) ⟨rfl, rfl, leb rfl, leb rfl⟩ rfl (leb rfl) ⟨by show 118 + k + 0 + 0 ≤ 600000; omega, by show 19377 + 14641 * k + 0 + 0 ≤ 7302249; omega⟩ dL_law_220 (Spec.mono SB (qI_k (fun u h2 hu => ?_))) rfl
      obtain ⟨eu, I2⟩ := hu
      subst eu
      show Gd (FF g l X) Z (118, 118 + k + 0, 19377 + 14641 * k + 0) h2 223 [(0, .ref 1000), (1, .ref 0), (2, .ref 82), (3, .int (I (i : Int)))] [.int u, .int u]
      refine g_icmp_eq (tgt := 902) (pc := 223) O dL_law_223 rfl (fun _ => ?_) (fun q => absurd rfl q)
      exact g_wide (by omega) (by omega) (nxt h2 I2)
    · refine ⟨228, rfl, ?_⟩
      show Gd (FF g l X) Z (118, 118 + k, 19377 + 14641 * k) h 228 [(0, .ref 1000), (1, .ref 0), (2, .ref 82), (3, .int (I (i : Int)))] []
      refine g_aloadn (pc := 228) O rfl dL_law_228 ?_
      refine g_callV (M := mX7_chip) (w := (118, 118 + k, 19377 + 14641 * k)) (n2 := 118) (a := 0) (av := []) (st := []) (mc := 0) (ms := 0) (pc := 229) O mk_X7_chip ml_L_25 im_X7_chip se_X7_chip cls7 rfl (ltb rfl) ⟨rfl, rfl, leb rfl, leb rfl⟩ rfl (leb rfl) ⟨by show 118 + k + 0 ≤ 600000; omega, by show 19377 + 14641 * k + 0 ≤ 7302249; omega⟩ dL_law_229 (Spec.mono (J_chip hI) (qI_k (fun v h1 SB => ?_))) rfl
      show Gd (FF g l X) Z (118, 118 + k + 0, 19377 + 14641 * k + 0) h1 232 [(0, .ref 1000), (1, .ref 0), (2, .ref 82), (3, .int (I (i : Int)))] [.int v]
      refine g_aloadn (pc := 232) O rfl dL_law_232 ?_
      refine g_callV (M := mX8_chip) (w := (118, 118 + k + 0, 19377 + 14641 * k + 0)) (n2 := 118) (a := 82) (av := []) (st := [.int v]) (mc := 0) (ms := 0) (pc := 233) O mk_X8_chip ml_L_28 im_X8_chip se_X8_chip cls8 rfl (ltb rfl) ⟨rfl, rfl, leb rfl, leb rfl⟩ rfl (leb rfl) ⟨by show 118 + k + 0 + 0 ≤ 600000; omega, by show 19377 + 14641 * k + 0 + 0 ≤ 7302249; omega⟩ dL_law_233 (Spec.mono SB (qI_k (fun u h2 hu => ?_))) rfl
      obtain ⟨eu, I2⟩ := hu
      subst eu
      show Gd (FF g l X) Z (118, 118 + k + 0, 19377 + 14641 * k + 0) h2 236 [(0, .ref 1000), (1, .ref 0), (2, .ref 82), (3, .int (I (i : Int)))] [.int u, .int u]
      refine g_icmp_eq (tgt := 902) (pc := 236) O dL_law_236 rfl (fun _ => ?_) (fun q => absurd rfl q)
      exact g_wide (by omega) (by omega) (nxt h2 I2)
    · refine ⟨241, rfl, ?_⟩
      show Gd (FF g l X) Z (118, 118 + k, 19377 + 14641 * k) h 241 [(0, .ref 1000), (1, .ref 0), (2, .ref 82), (3, .int (I (i : Int)))] []
      refine g_aloadn (pc := 241) O rfl dL_law_241 ?_
      refine g_callV (M := mX7_book) (w := (118, 118 + k, 19377 + 14641 * k)) (n2 := 118) (a := 0) (av := []) (st := []) (mc := 0) (ms := 0) (pc := 242) O mk_X7_book ml_L_29 im_X7_book se_X7_book cls7 rfl (ltb rfl) ⟨rfl, rfl, leb rfl, leb rfl⟩ rfl (leb rfl) ⟨by show 118 + k + 0 ≤ 600000; omega, by show 19377 + 14641 * k + 0 ≤ 7302249; omega⟩ dL_law_242 (Spec.mono (J_book hI) (qI_k (fun v h1 SB => ?_))) rfl
      show Gd (FF g l X) Z (118, 118 + k + 0, 19377 + 14641 * k + 0) h1 245 [(0, .ref 1000), (1, .ref 0), (2, .ref 82), (3, .int (I (i : Int)))] [.int v]
      refine g_aloadn (pc := 245) O rfl dL_law_245 ?_
      refine g_callV (M := mX8_book) (w := (118, 118 + k + 0, 19377 + 14641 * k + 0)) (n2 := 118) (a := 82) (av := []) (st := [.int v]) (mc := 0) (ms := 0) (pc := 246) O mk_X8_book ml_L_32 im_X8_book se_X8_book cls8 rfl (ltb rfl) ⟨rfl, rfl, leb rfl, leb rfl⟩ rfl (leb rfl) ⟨by show 118 + k + 0 + 0 ≤ 600000; omega, by show 19377 + 14641 * k + 0 + 0 ≤ 7302249; omega⟩ dL_law_246 (Spec.mono SB (qI_k (fun u h2 hu => ?_))) rfl
      obtain ⟨eu, I2⟩ := hu
      subst eu
      show Gd (FF g l X) Z (118, 118 + k + 0, 19377 + 14641 * k + 0) h2 249 [(0, .ref 1000), (1, .ref 0), (2, .ref 82), (3, .int (I (i : Int)))] [.int u, .int u]
      refine g_icmp_eq (tgt := 902) (pc := 249) O dL_law_249 rfl (fun _ => ?_) (fun q => absurd rfl q)
      exact g_wide (by omega) (by omega) (nxt h2 I2)
    · refine ⟨254, rfl, ?_⟩
      show Gd (FF g l X) Z (118, 118 + k, 19377 + 14641 * k) h 254 [(0, .ref 1000), (1, .ref 0), (2, .ref 82), (3, .int (I (i : Int)))] []
      refine g_aloadn (pc := 254) O rfl dL_law_254 ?_
      refine g_aloadn (pc := 255) O rfl dL_law_255 ?_
      refine g_iloadn (pc := 256) O rfl dL_law_256 ?_
      refine g_iconst (v := I 1) (pc := 257) O rfl dL_law_257 ?_
      refine g_iadd (pc := 258) O dL_law_258 ?_
      refine g_sld (j := i + 1) (pc := 259) O S dL_law_259 (I_add (i : Int) 1) (by omega) ?_
      refine g_callV (M := mX7_drop) (w := (118, 118 + k, 19377 + 14641 * k)) (n2 := 118) (a := 0) (av := [.int (xs (i + 1))]) (st := []) (mc := 0) (ms := 0) (pc := 260) O mk_X7_drop ml_L_33 im_X7_drop se_X7_drop cls7 rfl (ltb rfl) ⟨rfl, rfl, leb rfl, leb rfl⟩ rfl (leb rfl) ⟨by show 118 + k + 0 ≤ 600000; omega, by show 19377 + 14641 * k + 0 ≤ 7302249; omega⟩ dL_law_260 (Spec.mono (J_drop hI ((xs (i + 1)))) (qI_k (fun v h1 SB => ?_))) rfl
      show Gd (FF g l X) Z (118, 118 + k + 0, 19377 + 14641 * k + 0) h1 263 [(0, .ref 1000), (1, .ref 0), (2, .ref 82), (3, .int (I (i : Int)))] [.int v]
      refine g_aloadn (pc := 263) O rfl dL_law_263 ?_
      refine g_aloadn (pc := 264) O rfl dL_law_264 ?_
      refine g_iloadn (pc := 265) O rfl dL_law_265 ?_
      refine g_iconst (v := I 1) (pc := 266) O rfl dL_law_266 ?_
      refine g_iadd (pc := 267) O dL_law_267 ?_
      refine g_sld (j := i + 1) (pc := 268) O S dL_law_268 (I_add (i : Int) 1) (by omega) ?_
      refine g_callV (M := mX8_drop) (w := (118, 118 + k + 0, 19377 + 14641 * k + 0)) (n2 := 118) (a := 82) (av := [.int (xs (i + 1))]) (st := [.int v]) (mc := 0) (ms := 0) (pc := 269) O mk_X8_drop ml_L_37 im_X8_drop se_X8_drop cls8 rfl (ltb rfl) ⟨rfl, rfl, leb rfl, leb rfl⟩ rfl (leb rfl) ⟨by show 118 + k + 0 + 0 ≤ 600000; omega, by show 19377 + 14641 * k + 0 + 0 ≤ 7302249; omega⟩ dL_law_269 (Spec.mono SB (qI_k (fun u h2 hu => ?_))) rfl
      obtain ⟨eu, I2⟩ := hu
      subst eu
      show Gd (FF g l X) Z (118, 118 + k + 0, 19377 + 14641 * k + 0) h2 272 [(0, .ref 1000), (1, .ref 0), (2, .ref 82), (3, .int (I (i : Int)))] [.int u, .int u]
      refine g_icmp_eq (tgt := 902) (pc := 272) O dL_law_272 rfl (fun _ => ?_) (fun q => absurd rfl q)
      exact g_wide (by omega) (by omega) (nxt h2 I2)
    · refine ⟨277, rfl, ?_⟩
      show Gd (FF g l X) Z (118, 118 + k, 19377 + 14641 * k) h 277 [(0, .ref 1000), (1, .ref 0), (2, .ref 82), (3, .int (I (i : Int)))] []
      refine g_aloadn (pc := 277) O rfl dL_law_277 ?_
      refine g_aloadn (pc := 278) O rfl dL_law_278 ?_
      refine g_iloadn (pc := 279) O rfl dL_law_279 ?_
      refine g_iconst (v := I 1) (pc := 280) O rfl dL_law_280 ?_
      refine g_iadd (pc := 281) O dL_law_281 ?_
      refine g_sld (j := i + 1) (pc := 282) O S dL_law_282 (I_add (i : Int) 1) (by omega) ?_
      refine g_aloadn (pc := 283) O rfl dL_law_283 ?_
      refine g_iloadn (pc := 284) O rfl dL_law_284 ?_
      refine g_iconst (v := I 2) (pc := 285) O rfl dL_law_285 ?_
      refine g_iadd (pc := 286) O dL_law_286 ?_
      refine g_sld (j := i + 2) (pc := 287) O S dL_law_287 (I_add (i : Int) 2) (by omega) ?_
      refine g_callV (M := mX7_about) (w := (118, 118 + k, 19377 + 14641 * k)) (n2 := 118) (a := 0) (av := [.int (xs (i + 1)), .int (xs (i + 2))]) (st := []) (mc := 0) (ms := 0) (pc := 288) O mk_X7_about ml_L_38 im_X7_about se_X7_about cls7 rfl (ltb rfl) ⟨rfl, rfl, leb rfl, leb rfl⟩ rfl (leb rfl) ⟨by show 118 + k + 0 ≤ 600000; omega, by show 19377 + 14641 * k + 0 ≤ 7302249; omega⟩ dL_law_288 (Spec.mono (J_about hI ((xs (i + 1))) ((xs (i + 2)))) (qI_k (fun v h1 SB => ?_))) rfl
      show Gd (FF g l X) Z (118, 118 + k + 0, 19377 + 14641 * k + 0) h1 291 [(0, .ref 1000), (1, .ref 0), (2, .ref 82), (3, .int (I (i : Int)))] [.int v]
      refine g_aloadn (pc := 291) O rfl dL_law_291 ?_
      refine g_aloadn (pc := 292) O rfl dL_law_292 ?_
      refine g_iloadn (pc := 293) O rfl dL_law_293 ?_
      refine g_iconst (v := I 1) (pc := 294) O rfl dL_law_294 ?_
      refine g_iadd (pc := 295) O dL_law_295 ?_
      refine g_sld (j := i + 1) (pc := 296) O S dL_law_296 (I_add (i : Int) 1) (by omega) ?_
      refine g_aloadn (pc := 297) O rfl dL_law_297 ?_
      refine g_iloadn (pc := 298) O rfl dL_law_298 ?_
      refine g_iconst (v := I 2) (pc := 299) O rfl dL_law_299 ?_
      refine g_iadd (pc := 300) O dL_law_300 ?_
      refine g_sld (j := i + 2) (pc := 301) O S dL_law_301 (I_add (i : Int) 2) (by omega) ?_
      refine g_callV (M := mX8_about) (w := (118, 118 + k + 0, 19377 + 14641 * k + 0)) (n2 := 118) (a := 82) (av := [.int (xs (i + 1)), .int (xs (i + 2))]) (st := [.int v]) (mc := 0) (ms := 0) (pc := 302) O mk_X8_about ml_L_42 im_X8_about se_X8_about cls8 rfl (ltb rfl) ⟨rfl, rfl, leb rfl, leb rfl⟩ rfl (leb rfl) ⟨by show 118 + k + 0 + 0 ≤ 600000; omega, by show 19377 + 14641 * k + 0 + 0 ≤ 7302249; omega⟩ dL_law_302 (Spec.mono SB (qI_k (fun u h2 hu => ?_))) rfl
      obtain ⟨eu, I2⟩ := hu
      subst eu
      show Gd (FF g l X) Z (118, 118 + k + 0, 19377 + 14641 * k + 0) h2 305 [(0, .ref 1000), (1, .ref 0), (2, .ref 82), (3, .int (I (i : Int)))] [.int u, .int u]
      refine g_icmp_eq (tgt := 902) (pc := 305) O dL_law_305 rfl (fun _ => ?_) (fun q => absurd rfl q)
      exact g_wide (by omega) (by omega) (nxt h2 I2)
    · refine ⟨310, rfl, ?_⟩
      show Gd (FF g l X) Z (118, 118 + k, 19377 + 14641 * k) h 310 [(0, .ref 1000), (1, .ref 0), (2, .ref 82), (3, .int (I (i : Int)))] []
      refine g_aloadn (pc := 310) O rfl dL_law_310 ?_
      refine g_aloadn (pc := 311) O rfl dL_law_311 ?_
      refine g_iloadn (pc := 312) O rfl dL_law_312 ?_
      refine g_iconst (v := I 1) (pc := 313) O rfl dL_law_313 ?_
      refine g_iadd (pc := 314) O dL_law_314 ?_
      refine g_sld (j := i + 1) (pc := 315) O S dL_law_315 (I_add (i : Int) 1) (by omega) ?_
      refine g_aloadn (pc := 316) O rfl dL_law_316 ?_
      refine g_iloadn (pc := 317) O rfl dL_law_317 ?_
      refine g_iconst (v := I 2) (pc := 318) O rfl dL_law_318 ?_
      refine g_iadd (pc := 319) O dL_law_319 ?_
      refine g_sld (j := i + 2) (pc := 320) O S dL_law_320 (I_add (i : Int) 2) (by omega) ?_
      refine g_aloadn (pc := 321) O rfl dL_law_321 ?_
      refine g_iloadn (pc := 322) O rfl dL_law_322 ?_
      refine g_iconst (v := I 3) (pc := 323) O rfl dL_law_323 ?_
      refine g_iadd (pc := 324) O dL_law_324 ?_
      refine g_sld (j := i + 3) (pc := 325) O S dL_law_325 (I_add (i : Int) 3) (by omega) ?_
      refine g_callV (M := mX7_coat) (w := (118, 118 + k, 19377 + 14641 * k)) (n2 := 118) (a := 0) (av := [.int (xs (i + 1)), .int (xs (i + 2)), .int (xs (i + 3))]) (st := []) (mc := 1) (ms := 14641) (pc := 326) O mk_X7_coat ml_L_43 im_X7_coat se_X7_coat cls7 rfl (ltb rfl) ⟨rfl, rfl, leb rfl, leb rfl⟩ rfl (leb rfl) ⟨by show 118 + k + 1 ≤ 600000; omega, by show 19377 + 14641 * k + 14641 ≤ 7302249; omega⟩ dL_law_326 (Spec.mono (J_coat hI ((xs (i + 1))) ((xs (i + 2))) ((xs (i + 3)))) (qI_k (fun v h1 SB => ?_))) rfl
      show Gd (FF g l X) Z (118, 118 + k + 1, 19377 + 14641 * k + 14641) h1 329 [(0, .ref 1000), (1, .ref 0), (2, .ref 82), (3, .int (I (i : Int)))] [.int v]
      refine g_aloadn (pc := 329) O rfl dL_law_329 ?_
      refine g_aloadn (pc := 330) O rfl dL_law_330 ?_
      refine g_iloadn (pc := 331) O rfl dL_law_331 ?_
      refine g_iconst (v := I 1) (pc := 332) O rfl dL_law_332 ?_
      refine g_iadd (pc := 333) O dL_law_333 ?_
      refine g_sld (j := i + 1) (pc := 334) O S dL_law_334 (I_add (i : Int) 1) (by omega) ?_
      refine g_aloadn (pc := 335) O rfl dL_law_335 ?_
      refine g_iloadn (pc := 336) O rfl dL_law_336 ?_
      refine g_iconst (v := I 2) (pc := 337) O rfl dL_law_337 ?_
      refine g_iadd (pc := 338) O dL_law_338 ?_
      refine g_sld (j := i + 2) (pc := 339) O S dL_law_339 (I_add (i : Int) 2) (by omega) ?_
      refine g_aloadn (pc := 340) O rfl dL_law_340 ?_
      refine g_iloadn (pc := 341) O rfl dL_law_341 ?_
      refine g_iconst (v := I 3) (pc := 342) O rfl dL_law_342 ?_
      refine g_iadd (pc := 343) O dL_law_343 ?_
      refine g_sld (j := i + 3) (pc := 344) O S dL_law_344 (I_add (i : Int) 3) (by omega) ?_
      refine g_callV (M := mX8_coat) (w := (118, 118 + k + 1, 19377 + 14641 * k + 14641)) (n2 := 118) (a := 82) (av := [.int (xs (i + 1)), .int (xs (i + 2)), .int (xs (i + 3))]) (st := [.int v]) (mc := 0) (ms := 0) (pc := 345) O mk_X8_coat ml_L_47 im_X8_coat se_X8_coat cls8 rfl (ltb rfl) ⟨rfl, rfl, leb rfl, leb rfl⟩ rfl (leb rfl) ⟨by show 118 + k + 1 + 0 ≤ 600000; omega, by show 19377 + 14641 * k + 14641 + 0 ≤ 7302249; omega⟩ dL_law_345 (Spec.mono SB (qI_k (fun u h2 hu => ?_))) rfl
      obtain ⟨eu, I2⟩ := hu
      subst eu
      show Gd (FF g l X) Z (118, 118 + k + 1, 19377 + 14641 * k + 14641) h2 348 [(0, .ref 1000), (1, .ref 0), (2, .ref 82), (3, .int (I (i : Int)))] [.int u, .int u]
      refine g_icmp_eq (tgt := 902) (pc := 348) O dL_law_348 rfl (fun _ => ?_) (fun q => absurd rfl q)
      exact g_wide (by omega) (by omega) (nxt h2 I2)
    · refine ⟨353, rfl, ?_⟩
      show Gd (FF g l X) Z (118, 118 + k, 19377 + 14641 * k) h 353 [(0, .ref 1000), (1, .ref 0), (2, .ref 82), (3, .int (I (i : Int)))] []
      refine g_aloadn (pc := 353) O rfl dL_law_353 ?_
      refine g_aloadn (pc := 354) O rfl dL_law_354 ?_
      refine g_iloadn (pc := 355) O rfl dL_law_355 ?_
      refine g_iconst (v := I 1) (pc := 356) O rfl dL_law_356 ?_
      refine g_iadd (pc := 357) O dL_law_357 ?_
      refine g_sld (j := i + 1) (pc := 358) O S dL_law_358 (I_add (i : Int) 1) (by omega) ?_
      refine g_aloadn (pc := 359) O rfl dL_law_359 ?_
      refine g_iloadn (pc := 360) O rfl dL_law_360 ?_
      refine g_iconst (v := I 2) (pc := 361) O rfl dL_law_361 ?_
      refine g_iadd (pc := 362) O dL_law_362 ?_
      refine g_sld (j := i + 2) (pc := 363) O S dL_law_363 (I_add (i : Int) 2) (by omega) ?_
      refine g_callV (M := mX7_colour) (w := (118, 118 + k, 19377 + 14641 * k)) (n2 := 118) (a := 0) (av := [.int (xs (i + 1)), .int (xs (i + 2))]) (st := []) (mc := 0) (ms := 0) (pc := 364) O mk_X7_colour ml_L_48 im_X7_colour se_X7_colour cls7 rfl (ltb rfl) ⟨rfl, rfl, leb rfl, leb rfl⟩ rfl (leb rfl) ⟨by show 118 + k + 0 ≤ 600000; omega, by show 19377 + 14641 * k + 0 ≤ 7302249; omega⟩ dL_law_364 (Spec.mono (J_colour hI ((xs (i + 1))) ((xs (i + 2)))) (qI_k (fun v h1 SB => ?_))) rfl
      show Gd (FF g l X) Z (118, 118 + k + 0, 19377 + 14641 * k + 0) h1 367 [(0, .ref 1000), (1, .ref 0), (2, .ref 82), (3, .int (I (i : Int)))] [.int v]
      refine g_aloadn (pc := 367) O rfl dL_law_367 ?_
      refine g_aloadn (pc := 368) O rfl dL_law_368 ?_
      refine g_iloadn (pc := 369) O rfl dL_law_369 ?_
      refine g_iconst (v := I 1) (pc := 370) O rfl dL_law_370 ?_
      refine g_iadd (pc := 371) O dL_law_371 ?_
      refine g_sld (j := i + 1) (pc := 372) O S dL_law_372 (I_add (i : Int) 1) (by omega) ?_
      refine g_aloadn (pc := 373) O rfl dL_law_373 ?_
      refine g_iloadn (pc := 374) O rfl dL_law_374 ?_
      refine g_iconst (v := I 2) (pc := 375) O rfl dL_law_375 ?_
      refine g_iadd (pc := 376) O dL_law_376 ?_
      refine g_sld (j := i + 2) (pc := 377) O S dL_law_377 (I_add (i : Int) 2) (by omega) ?_
      refine g_callV (M := mX8_colour) (w := (118, 118 + k + 0, 19377 + 14641 * k + 0)) (n2 := 118) (a := 82) (av := [.int (xs (i + 1)), .int (xs (i + 2))]) (st := [.int v]) (mc := 0) (ms := 0) (pc := 378) O mk_X8_colour ml_L_51 im_X8_colour se_X8_colour cls8 rfl (ltb rfl) ⟨rfl, rfl, leb rfl, leb rfl⟩ rfl (leb rfl) ⟨by show 118 + k + 0 + 0 ≤ 600000; omega, by show 19377 + 14641 * k + 0 + 0 ≤ 7302249; omega⟩ dL_law_378 (Spec.mono SB (qI_k (fun u h2 hu => ?_))) rfl
      obtain ⟨eu, I2⟩ := hu
      subst eu
      show Gd (FF g l X) Z (118, 118 + k + 0, 19377 + 14641 * k + 0) h2 381 [(0, .ref 1000), (1, .ref 0), (2, .ref 82), (3, .int (I (i : Int)))] [.int u, .int u]
      refine g_icmp_eq (tgt := 902) (pc := 381) O dL_law_381 rfl (fun _ => ?_) (fun q => absurd rfl q)
      exact g_wide (by omega) (by omega) (nxt h2 I2)
    · refine ⟨386, rfl, ?_⟩
      show Gd (FF g l X) Z (118, 118 + k, 19377 + 14641 * k) h 386 [(0, .ref 1000), (1, .ref 0), (2, .ref 82), (3, .int (I (i : Int)))] []
      refine g_aloadn (pc := 386) O rfl dL_law_386 ?_
      refine g_aloadn (pc := 387) O rfl dL_law_387 ?_
      refine g_iloadn (pc := 388) O rfl dL_law_388 ?_
      refine g_iconst (v := I 1) (pc := 389) O rfl dL_law_389 ?_
      refine g_iadd (pc := 390) O dL_law_390 ?_
      refine g_sld (j := i + 1) (pc := 391) O S dL_law_391 (I_add (i : Int) 1) (by omega) ?_
      refine g_aloadn (pc := 392) O rfl dL_law_392 ?_
      refine g_iloadn (pc := 393) O rfl dL_law_393 ?_
      refine g_iconst (v := I 2) (pc := 394) O rfl dL_law_394 ?_
      refine g_iadd (pc := 395) O dL_law_395 ?_
      refine g_sld (j := i + 2) (pc := 396) O S dL_law_396 (I_add (i : Int) 2) (by omega) ?_
      refine g_callV (M := mX7_tune) (w := (118, 118 + k, 19377 + 14641 * k)) (n2 := 118) (a := 0) (av := [.int (xs (i + 1)), .int (xs (i + 2))]) (st := []) (mc := 0) (ms := 0) (pc := 397) O mk_X7_tune ml_L_52 im_X7_tune se_X7_tune cls7 rfl (ltb rfl) ⟨rfl, rfl, leb rfl, leb rfl⟩ rfl (leb rfl) ⟨by show 118 + k + 0 ≤ 600000; omega, by show 19377 + 14641 * k + 0 ≤ 7302249; omega⟩ dL_law_397 (Spec.mono (J_tune hI ((xs (i + 1))) ((xs (i + 2)))) (qI_k (fun v h1 SB => ?_))) rfl
      show Gd (FF g l X) Z (118, 118 + k + 0, 19377 + 14641 * k + 0) h1 400 [(0, .ref 1000), (1, .ref 0), (2, .ref 82), (3, .int (I (i : Int)))] [.int v]
      refine g_aloadn (pc := 400) O rfl dL_law_400 ?_
      refine g_aloadn (pc := 401) O rfl dL_law_401 ?_
      refine g_iloadn (pc := 402) O rfl dL_law_402 ?_
      refine g_iconst (v := I 1) (pc := 403) O rfl dL_law_403 ?_
      refine g_iadd (pc := 404) O dL_law_404 ?_
      refine g_sld (j := i + 1) (pc := 405) O S dL_law_405 (I_add (i : Int) 1) (by omega) ?_
      refine g_aloadn (pc := 406) O rfl dL_law_406 ?_
      refine g_iloadn (pc := 407) O rfl dL_law_407 ?_
      refine g_iconst (v := I 2) (pc := 408) O rfl dL_law_408 ?_
      refine g_iadd (pc := 409) O dL_law_409 ?_
      refine g_sld (j := i + 2) (pc := 410) O S dL_law_410 (I_add (i : Int) 2) (by omega) ?_
      refine g_callV (M := mX8_tune) (w := (118, 118 + k + 0, 19377 + 14641 * k + 0)) (n2 := 118) (a := 82) (av := [.int (xs (i + 1)), .int (xs (i + 2))]) (st := [.int v]) (mc := 0) (ms := 0) (pc := 411) O mk_X8_tune ml_L_55 im_X8_tune se_X8_tune cls8 rfl (ltb rfl) ⟨rfl, rfl, leb rfl, leb rfl⟩ rfl (leb rfl) ⟨by show 118 + k + 0 + 0 ≤ 600000; omega, by show 19377 + 14641 * k + 0 + 0 ≤ 7302249; omega⟩ dL_law_411 (Spec.mono SB (qI_k (fun u h2 hu => ?_))) rfl
      obtain ⟨eu, I2⟩ := hu
      subst eu
      show Gd (FF g l X) Z (118, 118 + k + 0, 19377 + 14641 * k + 0) h2 414 [(0, .ref 1000), (1, .ref 0), (2, .ref 82), (3, .int (I (i : Int)))] [.int u, .int u]
      refine g_icmp_eq (tgt := 902) (pc := 414) O dL_law_414 rfl (fun _ => ?_) (fun q => absurd rfl q)
      exact g_wide (by omega) (by omega) (nxt h2 I2)
    · refine ⟨419, rfl, ?_⟩
      show Gd (FF g l X) Z (118, 118 + k, 19377 + 14641 * k) h 419 [(0, .ref 1000), (1, .ref 0), (2, .ref 82), (3, .int (I (i : Int)))] []
      refine g_aloadn (pc := 419) O rfl dL_law_419 ?_
      refine g_aloadn (pc := 420) O rfl dL_law_420 ?_
      refine g_iloadn (pc := 421) O rfl dL_law_421 ?_
      refine g_iconst (v := I 1) (pc := 422) O rfl dL_law_422 ?_
      refine g_iadd (pc := 423) O dL_law_423 ?_
      refine g_sld (j := i + 1) (pc := 424) O S dL_law_424 (I_add (i : Int) 1) (by omega) ?_
      refine g_aloadn (pc := 425) O rfl dL_law_425 ?_
      refine g_iloadn (pc := 426) O rfl dL_law_426 ?_
      refine g_iconst (v := I 2) (pc := 427) O rfl dL_law_427 ?_
      refine g_iadd (pc := 428) O dL_law_428 ?_
      refine g_sld (j := i + 2) (pc := 429) O S dL_law_429 (I_add (i : Int) 2) (by omega) ?_
      refine g_callV (M := mX7_least) (w := (118, 118 + k, 19377 + 14641 * k)) (n2 := 118) (a := 0) (av := [.int (xs (i + 1)), .int (xs (i + 2))]) (st := []) (mc := 0) (ms := 0) (pc := 430) O mk_X7_least ml_L_56 im_X7_least se_X7_least cls7 rfl (ltb rfl) ⟨rfl, rfl, leb rfl, leb rfl⟩ rfl (leb rfl) ⟨by show 118 + k + 0 ≤ 600000; omega, by show 19377 + 14641 * k + 0 ≤ 7302249; omega⟩ dL_law_430 (Spec.mono (J_least hI ((xs (i + 1))) ((xs (i + 2)))) (qI_k (fun v h1 SB => ?_))) rfl
      show Gd (FF g l X) Z (118, 118 + k + 0, 19377 + 14641 * k + 0) h1 433 [(0, .ref 1000), (1, .ref 0), (2, .ref 82), (3, .int (I (i : Int)))] [.int v]
      refine g_aloadn (pc := 433) O rfl dL_law_433 ?_
      refine g_aloadn (pc := 434) O rfl dL_law_434 ?_
      refine g_iloadn (pc := 435) O rfl dL_law_435 ?_
      refine g_iconst (v := I 1) (pc := 436) O rfl dL_law_436 ?_
      refine g_iadd (pc := 437) O dL_law_437 ?_
      refine g_sld (j := i + 1) (pc := 438) O S dL_law_438 (I_add (i : Int) 1) (by omega) ?_
      refine g_aloadn (pc := 439) O rfl dL_law_439 ?_
      refine g_iloadn (pc := 440) O rfl dL_law_440 ?_
      refine g_iconst (v := I 2) (pc := 441) O rfl dL_law_441 ?_
      refine g_iadd (pc := 442) O dL_law_442 ?_
      refine g_sld (j := i + 2) (pc := 443) O S dL_law_443 (I_add (i : Int) 2) (by omega) ?_
      refine g_callV (M := mX8_least) (w := (118, 118 + k + 0, 19377 + 14641 * k + 0)) (n2 := 118) (a := 82) (av := [.int (xs (i + 1)), .int (xs (i + 2))]) (st := [.int v]) (mc := 0) (ms := 0) (pc := 444) O mk_X8_least ml_L_59 im_X8_least se_X8_least cls8 rfl (ltb rfl) ⟨rfl, rfl, leb rfl, leb rfl⟩ rfl (leb rfl) ⟨by show 118 + k + 0 + 0 ≤ 600000; omega, by show 19377 + 14641 * k + 0 + 0 ≤ 7302249; omega⟩ dL_law_444 (Spec.mono SB (qI_k (fun u h2 hu => ?_))) rfl
      obtain ⟨eu, I2⟩ := hu
      subst eu
      show Gd (FF g l X) Z (118, 118 + k + 0, 19377 + 14641 * k + 0) h2 447 [(0, .ref 1000), (1, .ref 0), (2, .ref 82), (3, .int (I (i : Int)))] [.int u, .int u]
      refine g_icmp_eq (tgt := 902) (pc := 447) O dL_law_447 rfl (fun _ => ?_) (fun q => absurd rfl q)
      exact g_wide (by omega) (by omega) (nxt h2 I2)
    · refine ⟨452, rfl, ?_⟩
      show Gd (FF g l X) Z (118, 118 + k, 19377 + 14641 * k) h 452 [(0, .ref 1000), (1, .ref 0), (2, .ref 82), (3, .int (I (i : Int)))] []
      refine g_aloadn (pc := 452) O rfl dL_law_452 ?_
      refine g_aloadn (pc := 453) O rfl dL_law_453 ?_
      refine g_iloadn (pc := 454) O rfl dL_law_454 ?_
      refine g_iconst (v := I 1) (pc := 455) O rfl dL_law_455 ?_
      refine g_iadd (pc := 456) O dL_law_456 ?_
      refine g_sld (j := i + 1) (pc := 457) O S dL_law_457 (I_add (i : Int) 1) (by omega) ?_
      refine g_aloadn (pc := 458) O rfl dL_law_458 ?_
      refine g_iloadn (pc := 459) O rfl dL_law_459 ?_
      refine g_iconst (v := I 2) (pc := 460) O rfl dL_law_460 ?_
      refine g_iadd (pc := 461) O dL_law_461 ?_
      refine g_sld (j := i + 2) (pc := 462) O S dL_law_462 (I_add (i : Int) 2) (by omega) ?_
      refine g_callV (M := mX7_ways) (w := (118, 118 + k, 19377 + 14641 * k)) (n2 := 118) (a := 0) (av := [.int (xs (i + 1)), .int (xs (i + 2))]) (st := []) (mc := 0) (ms := 0) (pc := 463) O mk_X7_ways ml_L_60 im_X7_ways se_X7_ways cls7 rfl (ltb rfl) ⟨rfl, rfl, leb rfl, leb rfl⟩ rfl (leb rfl) ⟨by show 118 + k + 0 ≤ 600000; omega, by show 19377 + 14641 * k + 0 ≤ 7302249; omega⟩ dL_law_463 (Spec.mono (J_ways hI ((xs (i + 1))) ((xs (i + 2)))) (qL_k (fun v h1 SB => ?_))) rfl
      show Gd (FF g l X) Z (118, 118 + k + 0, 19377 + 14641 * k + 0) h1 466 [(0, .ref 1000), (1, .ref 0), (2, .ref 82), (3, .int (I (i : Int)))] [.long v]
      refine g_aloadn (pc := 466) O rfl dL_law_466 ?_
      refine g_aloadn (pc := 467) O rfl dL_law_467 ?_
      refine g_iloadn (pc := 468) O rfl dL_law_468 ?_
      refine g_iconst (v := I 1) (pc := 469) O rfl dL_law_469 ?_
      refine g_iadd (pc := 470) O dL_law_470 ?_
      refine g_sld (j := i + 1) (pc := 471) O S dL_law_471 (I_add (i : Int) 1) (by omega) ?_
      refine g_aloadn (pc := 472) O rfl dL_law_472 ?_
      refine g_iloadn (pc := 473) O rfl dL_law_473 ?_
      refine g_iconst (v := I 2) (pc := 474) O rfl dL_law_474 ?_
      refine g_iadd (pc := 475) O dL_law_475 ?_
      refine g_sld (j := i + 2) (pc := 476) O S dL_law_476 (I_add (i : Int) 2) (by omega) ?_
      refine g_callV (M := mX8_ways) (w := (118, 118 + k + 0, 19377 + 14641 * k + 0)) (n2 := 118) (a := 82) (av := [.int (xs (i + 1)), .int (xs (i + 2))]) (st := [.long v]) (mc := 0) (ms := 0) (pc := 477) O mk_X8_ways ml_L_64 im_X8_ways se_X8_ways cls8 rfl (ltb rfl) ⟨rfl, rfl, leb rfl, leb rfl⟩ rfl (leb rfl) ⟨by show 118 + k + 0 + 0 ≤ 600000; omega, by show 19377 + 14641 * k + 0 + 0 ≤ 7302249; omega⟩ dL_law_477 (Spec.mono SB (qL_k (fun u h2 hu => ?_))) rfl
      obtain ⟨eu, I2⟩ := hu
      subst eu
      show Gd (FF g l X) Z (118, 118 + k + 0, 19377 + 14641 * k + 0) h2 480 [(0, .ref 1000), (1, .ref 0), (2, .ref 82), (3, .int (I (i : Int)))] [.long u, .long u]
      refine g_lcmp (pc := 480) O dL_law_480 ?_
      refine g_if_eq (tgt := 902) (pc := 481) O dL_law_481 rfl (fun _ => ?_) (fun q => absurd ((lg_cmp_eq u u).mpr rfl) q)
      exact g_wide (by omega) (by omega) (nxt h2 I2)
    · refine ⟨486, rfl, ?_⟩
      show Gd (FF g l X) Z (118, 118 + k, 19377 + 14641 * k) h 486 [(0, .ref 1000), (1, .ref 0), (2, .ref 82), (3, .int (I (i : Int)))] []
      refine g_aloadn (pc := 486) O rfl dL_law_486 ?_
      refine g_aloadn (pc := 487) O rfl dL_law_487 ?_
      refine g_iloadn (pc := 488) O rfl dL_law_488 ?_
      refine g_iconst (v := I 1) (pc := 489) O rfl dL_law_489 ?_
      refine g_iadd (pc := 490) O dL_law_490 ?_
      refine g_sld (j := i + 1) (pc := 491) O S dL_law_491 (I_add (i : Int) 1) (by omega) ?_
      refine g_aloadn (pc := 492) O rfl dL_law_492 ?_
      refine g_iloadn (pc := 493) O rfl dL_law_493 ?_
      refine g_iconst (v := I 2) (pc := 494) O rfl dL_law_494 ?_
      refine g_iadd (pc := 495) O dL_law_495 ?_
      refine g_sld (j := i + 2) (pc := 496) O S dL_law_496 (I_add (i : Int) 2) (by omega) ?_
      refine g_aloadn (pc := 497) O rfl dL_law_497 ?_
      refine g_iloadn (pc := 498) O rfl dL_law_498 ?_
      refine g_iconst (v := I 3) (pc := 499) O rfl dL_law_499 ?_
      refine g_iadd (pc := 500) O dL_law_500 ?_
      refine g_sld (j := i + 3) (pc := 501) O S dL_law_501 (I_add (i : Int) 3) (by omega) ?_
      refine g_callV (M := mX7_laid) (w := (118, 118 + k, 19377 + 14641 * k)) (n2 := 118) (a := 0) (av := [.int (xs (i + 1)), .int (xs (i + 2)), .int (xs (i + 3))]) (st := []) (mc := 0) (ms := 0) (pc := 502) O mk_X7_laid ml_L_65 im_X7_laid se_X7_laid cls7 rfl (ltb rfl) ⟨rfl, rfl, leb rfl, leb rfl⟩ rfl (leb rfl) ⟨by show 118 + k + 0 ≤ 600000; omega, by show 19377 + 14641 * k + 0 ≤ 7302249; omega⟩ dL_law_502 (Spec.mono (J_laid hI ((xs (i + 1))) ((xs (i + 2))) ((xs (i + 3)))) (qI_k (fun v h1 SB => ?_))) rfl
      show Gd (FF g l X) Z (118, 118 + k + 0, 19377 + 14641 * k + 0) h1 505 [(0, .ref 1000), (1, .ref 0), (2, .ref 82), (3, .int (I (i : Int)))] [.int v]
      refine g_aloadn (pc := 505) O rfl dL_law_505 ?_
      refine g_aloadn (pc := 506) O rfl dL_law_506 ?_
      refine g_iloadn (pc := 507) O rfl dL_law_507 ?_
      refine g_iconst (v := I 1) (pc := 508) O rfl dL_law_508 ?_
      refine g_iadd (pc := 509) O dL_law_509 ?_
      refine g_sld (j := i + 1) (pc := 510) O S dL_law_510 (I_add (i : Int) 1) (by omega) ?_
      refine g_aloadn (pc := 511) O rfl dL_law_511 ?_
      refine g_iloadn (pc := 512) O rfl dL_law_512 ?_
      refine g_iconst (v := I 2) (pc := 513) O rfl dL_law_513 ?_
      refine g_iadd (pc := 514) O dL_law_514 ?_
      refine g_sld (j := i + 2) (pc := 515) O S dL_law_515 (I_add (i : Int) 2) (by omega) ?_
      refine g_aloadn (pc := 516) O rfl dL_law_516 ?_
      refine g_iloadn (pc := 517) O rfl dL_law_517 ?_
      refine g_iconst (v := I 3) (pc := 518) O rfl dL_law_518 ?_
      refine g_iadd (pc := 519) O dL_law_519 ?_
      refine g_sld (j := i + 3) (pc := 520) O S dL_law_520 (I_add (i : Int) 3) (by omega) ?_
      refine g_callV (M := mX8_laid) (w := (118, 118 + k + 0, 19377 + 14641 * k + 0)) (n2 := 118) (a := 82) (av := [.int (xs (i + 1)), .int (xs (i + 2)), .int (xs (i + 3))]) (st := [.int v]) (mc := 0) (ms := 0) (pc := 521) O mk_X8_laid ml_L_68 im_X8_laid se_X8_laid cls8 rfl (ltb rfl) ⟨rfl, rfl, leb rfl, leb rfl⟩ rfl (leb rfl) ⟨by show 118 + k + 0 + 0 ≤ 600000; omega, by show 19377 + 14641 * k + 0 + 0 ≤ 7302249; omega⟩ dL_law_521 (Spec.mono SB (qI_k (fun u h2 hu => ?_))) rfl
      obtain ⟨eu, I2⟩ := hu
      subst eu
      show Gd (FF g l X) Z (118, 118 + k + 0, 19377 + 14641 * k + 0) h2 524 [(0, .ref 1000), (1, .ref 0), (2, .ref 82), (3, .int (I (i : Int)))] [.int u, .int u]
      refine g_icmp_eq (tgt := 902) (pc := 524) O dL_law_524 rfl (fun _ => ?_) (fun q => absurd rfl q)
      exact g_wide (by omega) (by omega) (nxt h2 I2)
    · refine ⟨529, rfl, ?_⟩
      show Gd (FF g l X) Z (118, 118 + k, 19377 + 14641 * k) h 529 [(0, .ref 1000), (1, .ref 0), (2, .ref 82), (3, .int (I (i : Int)))] []
      refine g_aloadn (pc := 529) O rfl dL_law_529 ?_
      refine g_aloadn (pc := 530) O rfl dL_law_530 ?_
      refine g_iloadn (pc := 531) O rfl dL_law_531 ?_
      refine g_iconst (v := I 1) (pc := 532) O rfl dL_law_532 ?_
      refine g_iadd (pc := 533) O dL_law_533 ?_
      refine g_sld (j := i + 1) (pc := 534) O S dL_law_534 (I_add (i : Int) 1) (by omega) ?_
      refine g_callV (M := mX7_painting) (w := (118, 118 + k, 19377 + 14641 * k)) (n2 := 118) (a := 0) (av := [.int (xs (i + 1))]) (st := []) (mc := 1) (ms := 14641) (pc := 535) O mk_X7_painting ml_L_69 im_X7_painting se_X7_painting cls7 rfl (ltb rfl) ⟨rfl, rfl, leb rfl, leb rfl⟩ rfl (leb rfl) ⟨by show 118 + k + 1 ≤ 600000; omega, by show 19377 + 14641 * k + 14641 ≤ 7302249; omega⟩ dL_law_535 (Spec.mono (J_painting hI ((xs (i + 1)))) (qI_k (fun v h1 SB => ?_))) rfl
      show Gd (FF g l X) Z (118, 118 + k + 1, 19377 + 14641 * k + 14641) h1 538 [(0, .ref 1000), (1, .ref 0), (2, .ref 82), (3, .int (I (i : Int)))] [.int v]
      refine g_aloadn (pc := 538) O rfl dL_law_538 ?_
      refine g_aloadn (pc := 539) O rfl dL_law_539 ?_
      refine g_iloadn (pc := 540) O rfl dL_law_540 ?_
      refine g_iconst (v := I 1) (pc := 541) O rfl dL_law_541 ?_
      refine g_iadd (pc := 542) O dL_law_542 ?_
      refine g_sld (j := i + 1) (pc := 543) O S dL_law_543 (I_add (i : Int) 1) (by omega) ?_
      refine g_callV (M := mX8_painting) (w := (118, 118 + k + 1, 19377 + 14641 * k + 14641)) (n2 := 118) (a := 82) (av := [.int (xs (i + 1))]) (st := [.int v]) (mc := 0) (ms := 0) (pc := 544) O mk_X8_painting ml_L_72 im_X8_painting se_X8_painting cls8 rfl (ltb rfl) ⟨rfl, rfl, leb rfl, leb rfl⟩ rfl (leb rfl) ⟨by show 118 + k + 1 + 0 ≤ 600000; omega, by show 19377 + 14641 * k + 14641 + 0 ≤ 7302249; omega⟩ dL_law_544 (Spec.mono SB (qI_k (fun u h2 hu => ?_))) rfl
      obtain ⟨eu, I2⟩ := hu
      subst eu
      show Gd (FF g l X) Z (118, 118 + k + 1, 19377 + 14641 * k + 14641) h2 547 [(0, .ref 1000), (1, .ref 0), (2, .ref 82), (3, .int (I (i : Int)))] [.int u, .int u]
      refine g_icmp_eq (tgt := 902) (pc := 547) O dL_law_547 rfl (fun _ => ?_) (fun q => absurd rfl q)
      exact g_wide (by omega) (by omega) (nxt h2 I2)
    · refine ⟨552, rfl, ?_⟩
      show Gd (FF g l X) Z (118, 118 + k, 19377 + 14641 * k) h 552 [(0, .ref 1000), (1, .ref 0), (2, .ref 82), (3, .int (I (i : Int)))] []
      refine g_aloadn (pc := 552) O rfl dL_law_552 ?_
      refine g_aloadn (pc := 553) O rfl dL_law_553 ?_
      refine g_iloadn (pc := 554) O rfl dL_law_554 ?_
      refine g_iconst (v := I 1) (pc := 555) O rfl dL_law_555 ?_
      refine g_iadd (pc := 556) O dL_law_556 ?_
      refine g_sld (j := i + 1) (pc := 557) O S dL_law_557 (I_add (i : Int) 1) (by omega) ?_
      refine g_callV (M := mX7_had) (w := (118, 118 + k, 19377 + 14641 * k)) (n2 := 118) (a := 0) (av := [.int (xs (i + 1))]) (st := []) (mc := 1) (ms := 14641) (pc := 558) O mk_X7_had ml_L_73 im_X7_had se_X7_had cls7 rfl (ltb rfl) ⟨rfl, rfl, leb rfl, leb rfl⟩ rfl (leb rfl) ⟨by show 118 + k + 1 ≤ 600000; omega, by show 19377 + 14641 * k + 14641 ≤ 7302249; omega⟩ dL_law_558 (Spec.mono (J_had hI ((xs (i + 1)))) (qI_k (fun v h1 SB => ?_))) rfl
      show Gd (FF g l X) Z (118, 118 + k + 1, 19377 + 14641 * k + 14641) h1 561 [(0, .ref 1000), (1, .ref 0), (2, .ref 82), (3, .int (I (i : Int)))] [.int v]
      refine g_aloadn (pc := 561) O rfl dL_law_561 ?_
      refine g_aloadn (pc := 562) O rfl dL_law_562 ?_
      refine g_iloadn (pc := 563) O rfl dL_law_563 ?_
      refine g_iconst (v := I 1) (pc := 564) O rfl dL_law_564 ?_
      refine g_iadd (pc := 565) O dL_law_565 ?_
      refine g_sld (j := i + 1) (pc := 566) O S dL_law_566 (I_add (i : Int) 1) (by omega) ?_
      refine g_callV (M := mX8_had) (w := (118, 118 + k + 1, 19377 + 14641 * k + 14641)) (n2 := 118) (a := 82) (av := [.int (xs (i + 1))]) (st := [.int v]) (mc := 0) (ms := 0) (pc := 567) O mk_X8_had ml_L_76 im_X8_had se_X8_had cls8 rfl (ltb rfl) ⟨rfl, rfl, leb rfl, leb rfl⟩ rfl (leb rfl) ⟨by show 118 + k + 1 + 0 ≤ 600000; omega, by show 19377 + 14641 * k + 14641 + 0 ≤ 7302249; omega⟩ dL_law_567 (Spec.mono SB (qI_k (fun u h2 hu => ?_))) rfl
      obtain ⟨eu, I2⟩ := hu
      subst eu
      show Gd (FF g l X) Z (118, 118 + k + 1, 19377 + 14641 * k + 14641) h2 570 [(0, .ref 1000), (1, .ref 0), (2, .ref 82), (3, .int (I (i : Int)))] [.int u, .int u]
      refine g_icmp_eq (tgt := 902) (pc := 570) O dL_law_570 rfl (fun _ => ?_) (fun q => absurd rfl q)
      exact g_wide (by omega) (by omega) (nxt h2 I2)
    · refine ⟨575, rfl, ?_⟩
      show Gd (FF g l X) Z (118, 118 + k, 19377 + 14641 * k) h 575 [(0, .ref 1000), (1, .ref 0), (2, .ref 82), (3, .int (I (i : Int)))] []
      refine g_aloadn (pc := 575) O rfl dL_law_575 ?_
      refine g_aloadn (pc := 576) O rfl dL_law_576 ?_
      refine g_iloadn (pc := 577) O rfl dL_law_577 ?_
      refine g_iconst (v := I 1) (pc := 578) O rfl dL_law_578 ?_
      refine g_iadd (pc := 579) O dL_law_579 ?_
      refine g_sld (j := i + 1) (pc := 580) O S dL_law_580 (I_add (i : Int) 1) (by omega) ?_
      refine g_aloadn (pc := 581) O rfl dL_law_581 ?_
      refine g_iloadn (pc := 582) O rfl dL_law_582 ?_
      refine g_iconst (v := I 2) (pc := 583) O rfl dL_law_583 ?_
      refine g_iadd (pc := 584) O dL_law_584 ?_
      refine g_sld (j := i + 2) (pc := 585) O S dL_law_585 (I_add (i : Int) 2) (by omega) ?_
      refine g_callV (M := mX7_face) (w := (118, 118 + k, 19377 + 14641 * k)) (n2 := 118) (a := 0) (av := [.int (xs (i + 1)), .int (xs (i + 2))]) (st := []) (mc := 1) (ms := 14641) (pc := 586) O mk_X7_face ml_L_77 im_X7_face se_X7_face cls7 rfl (ltb rfl) ⟨rfl, rfl, leb rfl, leb rfl⟩ rfl (leb rfl) ⟨by show 118 + k + 1 ≤ 600000; omega, by show 19377 + 14641 * k + 14641 ≤ 7302249; omega⟩ dL_law_586 (Spec.mono (J_face hI ((xs (i + 1))) ((xs (i + 2)))) (qI_k (fun v h1 SB => ?_))) rfl
      show Gd (FF g l X) Z (118, 118 + k + 1, 19377 + 14641 * k + 14641) h1 589 [(0, .ref 1000), (1, .ref 0), (2, .ref 82), (3, .int (I (i : Int)))] [.int v]
      refine g_aloadn (pc := 589) O rfl dL_law_589 ?_
      refine g_aloadn (pc := 590) O rfl dL_law_590 ?_
      refine g_iloadn (pc := 591) O rfl dL_law_591 ?_
      refine g_iconst (v := I 1) (pc := 592) O rfl dL_law_592 ?_
      refine g_iadd (pc := 593) O dL_law_593 ?_
      refine g_sld (j := i + 1) (pc := 594) O S dL_law_594 (I_add (i : Int) 1) (by omega) ?_
      refine g_aloadn (pc := 595) O rfl dL_law_595 ?_
      refine g_iloadn (pc := 596) O rfl dL_law_596 ?_
      refine g_iconst (v := I 2) (pc := 597) O rfl dL_law_597 ?_
      refine g_iadd (pc := 598) O dL_law_598 ?_
      refine g_sld (j := i + 2) (pc := 599) O S dL_law_599 (I_add (i : Int) 2) (by omega) ?_
      refine g_callV (M := mX8_face) (w := (118, 118 + k + 1, 19377 + 14641 * k + 14641)) (n2 := 118) (a := 82) (av := [.int (xs (i + 1)), .int (xs (i + 2))]) (st := [.int v]) (mc := 0) (ms := 0) (pc := 600) O mk_X8_face ml_L_80 im_X8_face se_X8_face cls8 rfl (ltb rfl) ⟨rfl, rfl, leb rfl, leb rfl⟩ rfl (leb rfl) ⟨by show 118 + k + 1 + 0 ≤ 600000; omega, by show 19377 + 14641 * k + 14641 + 0 ≤ 7302249; omega⟩ dL_law_600 (Spec.mono SB (qI_k (fun u h2 hu => ?_))) rfl
      obtain ⟨eu, I2⟩ := hu
      subst eu
      show Gd (FF g l X) Z (118, 118 + k + 1, 19377 + 14641 * k + 14641) h2 603 [(0, .ref 1000), (1, .ref 0), (2, .ref 82), (3, .int (I (i : Int)))] [.int u, .int u]
      refine g_icmp_eq (tgt := 902) (pc := 603) O dL_law_603 rfl (fun _ => ?_) (fun q => absurd rfl q)
      exact g_wide (by omega) (by omega) (nxt h2 I2)
    · refine ⟨608, rfl, ?_⟩
      show Gd (FF g l X) Z (118, 118 + k, 19377 + 14641 * k) h 608 [(0, .ref 1000), (1, .ref 0), (2, .ref 82), (3, .int (I (i : Int)))] []
      refine g_aloadn (pc := 608) O rfl dL_law_608 ?_
      refine g_aloadn (pc := 609) O rfl dL_law_609 ?_
      refine g_iloadn (pc := 610) O rfl dL_law_610 ?_
      refine g_iconst (v := I 1) (pc := 611) O rfl dL_law_611 ?_
      refine g_iadd (pc := 612) O dL_law_612 ?_
      refine g_sld (j := i + 1) (pc := 613) O S dL_law_613 (I_add (i : Int) 1) (by omega) ?_
      refine g_aloadn (pc := 614) O rfl dL_law_614 ?_
      refine g_iloadn (pc := 615) O rfl dL_law_615 ?_
      refine g_iconst (v := I 2) (pc := 616) O rfl dL_law_616 ?_
      refine g_iadd (pc := 617) O dL_law_617 ?_
      refine g_sld (j := i + 2) (pc := 618) O S dL_law_618 (I_add (i : Int) 2) (by omega) ?_
      refine g_callV (M := mX7_span) (w := (118, 118 + k, 19377 + 14641 * k)) (n2 := 118) (a := 0) (av := [.int (xs (i + 1)), .int (xs (i + 2))]) (st := []) (mc := 1) (ms := 14641) (pc := 619) O mk_X7_span ml_L_81 im_X7_span se_X7_span cls7 rfl (ltb rfl) ⟨rfl, rfl, leb rfl, leb rfl⟩ rfl (leb rfl) ⟨by show 118 + k + 1 ≤ 600000; omega, by show 19377 + 14641 * k + 14641 ≤ 7302249; omega⟩ dL_law_619 (Spec.mono (J_span hI ((xs (i + 1))) ((xs (i + 2)))) (qI_k (fun v h1 SB => ?_))) rfl
      show Gd (FF g l X) Z (118, 118 + k + 1, 19377 + 14641 * k + 14641) h1 622 [(0, .ref 1000), (1, .ref 0), (2, .ref 82), (3, .int (I (i : Int)))] [.int v]
      refine g_aloadn (pc := 622) O rfl dL_law_622 ?_
      refine g_aloadn (pc := 623) O rfl dL_law_623 ?_
      refine g_iloadn (pc := 624) O rfl dL_law_624 ?_
      refine g_iconst (v := I 1) (pc := 625) O rfl dL_law_625 ?_
      refine g_iadd (pc := 626) O dL_law_626 ?_
      refine g_sld (j := i + 1) (pc := 627) O S dL_law_627 (I_add (i : Int) 1) (by omega) ?_
      refine g_aloadn (pc := 628) O rfl dL_law_628 ?_
      refine g_iloadn (pc := 629) O rfl dL_law_629 ?_
      refine g_iconst (v := I 2) (pc := 630) O rfl dL_law_630 ?_
      refine g_iadd (pc := 631) O dL_law_631 ?_
      refine g_sld (j := i + 2) (pc := 632) O S dL_law_632 (I_add (i : Int) 2) (by omega) ?_
      refine g_callV (M := mX8_span) (w := (118, 118 + k + 1, 19377 + 14641 * k + 14641)) (n2 := 118) (a := 82) (av := [.int (xs (i + 1)), .int (xs (i + 2))]) (st := [.int v]) (mc := 0) (ms := 0) (pc := 633) O mk_X8_span ml_L_84 im_X8_span se_X8_span cls8 rfl (ltb rfl) ⟨rfl, rfl, leb rfl, leb rfl⟩ rfl (leb rfl) ⟨by show 118 + k + 1 + 0 ≤ 600000; omega, by show 19377 + 14641 * k + 14641 + 0 ≤ 7302249; omega⟩ dL_law_633 (Spec.mono SB (qI_k (fun u h2 hu => ?_))) rfl
      obtain ⟨eu, I2⟩ := hu
      subst eu
      show Gd (FF g l X) Z (118, 118 + k + 1, 19377 + 14641 * k + 14641) h2 636 [(0, .ref 1000), (1, .ref 0), (2, .ref 82), (3, .int (I (i : Int)))] [.int u, .int u]
      refine g_icmp_eq (tgt := 902) (pc := 636) O dL_law_636 rfl (fun _ => ?_) (fun q => absurd rfl q)
      exact g_wide (by omega) (by omega) (nxt h2 I2)
    · refine ⟨641, rfl, ?_⟩
      show Gd (FF g l X) Z (118, 118 + k, 19377 + 14641 * k) h 641 [(0, .ref 1000), (1, .ref 0), (2, .ref 82), (3, .int (I (i : Int)))] []
      refine g_aloadn (pc := 641) O rfl dL_law_641 ?_
      refine g_aloadn (pc := 642) O rfl dL_law_642 ?_
      refine g_iloadn (pc := 643) O rfl dL_law_643 ?_
      refine g_iconst (v := I 1) (pc := 644) O rfl dL_law_644 ?_
      refine g_iadd (pc := 645) O dL_law_645 ?_
      refine g_sld (j := i + 1) (pc := 646) O S dL_law_646 (I_add (i : Int) 1) (by omega) ?_
      refine g_aloadn (pc := 647) O rfl dL_law_647 ?_
      refine g_iloadn (pc := 648) O rfl dL_law_648 ?_
      refine g_iconst (v := I 2) (pc := 649) O rfl dL_law_649 ?_
      refine g_iadd (pc := 650) O dL_law_650 ?_
      refine g_sld (j := i + 2) (pc := 651) O S dL_law_651 (I_add (i : Int) 2) (by omega) ?_
      refine g_callV (M := mX7_day) (w := (118, 118 + k, 19377 + 14641 * k)) (n2 := 118) (a := 0) (av := [.int (xs (i + 1)), .int (xs (i + 2))]) (st := []) (mc := 1) (ms := 14641) (pc := 652) O mk_X7_day ml_L_85 im_X7_day se_X7_day cls7 rfl (ltb rfl) ⟨rfl, rfl, leb rfl, leb rfl⟩ rfl (leb rfl) ⟨by show 118 + k + 1 ≤ 600000; omega, by show 19377 + 14641 * k + 14641 ≤ 7302249; omega⟩ dL_law_652 (Spec.mono (J_day hI ((xs (i + 1))) ((xs (i + 2)))) (qI_k (fun v h1 SB => ?_))) rfl
      show Gd (FF g l X) Z (118, 118 + k + 1, 19377 + 14641 * k + 14641) h1 655 [(0, .ref 1000), (1, .ref 0), (2, .ref 82), (3, .int (I (i : Int)))] [.int v]
      refine g_aloadn (pc := 655) O rfl dL_law_655 ?_
      refine g_aloadn (pc := 656) O rfl dL_law_656 ?_
      refine g_iloadn (pc := 657) O rfl dL_law_657 ?_
      refine g_iconst (v := I 1) (pc := 658) O rfl dL_law_658 ?_
      refine g_iadd (pc := 659) O dL_law_659 ?_
      refine g_sld (j := i + 1) (pc := 660) O S dL_law_660 (I_add (i : Int) 1) (by omega) ?_
      refine g_aloadn (pc := 661) O rfl dL_law_661 ?_
      refine g_iloadn (pc := 662) O rfl dL_law_662 ?_
      refine g_iconst (v := I 2) (pc := 663) O rfl dL_law_663 ?_
      refine g_iadd (pc := 664) O dL_law_664 ?_
      refine g_sld (j := i + 2) (pc := 665) O S dL_law_665 (I_add (i : Int) 2) (by omega) ?_
      refine g_callV (M := mX8_day) (w := (118, 118 + k + 1, 19377 + 14641 * k + 14641)) (n2 := 118) (a := 82) (av := [.int (xs (i + 1)), .int (xs (i + 2))]) (st := [.int v]) (mc := 0) (ms := 0) (pc := 666) O mk_X8_day ml_L_88 im_X8_day se_X8_day cls8 rfl (ltb rfl) ⟨rfl, rfl, leb rfl, leb rfl⟩ rfl (leb rfl) ⟨by show 118 + k + 1 + 0 ≤ 600000; omega, by show 19377 + 14641 * k + 14641 + 0 ≤ 7302249; omega⟩ dL_law_666 (Spec.mono SB (qI_k (fun u h2 hu => ?_))) rfl
      obtain ⟨eu, I2⟩ := hu
      subst eu
      show Gd (FF g l X) Z (118, 118 + k + 1, 19377 + 14641 * k + 14641) h2 669 [(0, .ref 1000), (1, .ref 0), (2, .ref 82), (3, .int (I (i : Int)))] [.int u, .int u]
      refine g_icmp_eq (tgt := 902) (pc := 669) O dL_law_669 rfl (fun _ => ?_) (fun q => absurd rfl q)
      exact g_wide (by omega) (by omega) (nxt h2 I2)
    · refine ⟨674, rfl, ?_⟩
      show Gd (FF g l X) Z (118, 118 + k, 19377 + 14641 * k) h 674 [(0, .ref 1000), (1, .ref 0), (2, .ref 82), (3, .int (I (i : Int)))] []
      refine g_aloadn (pc := 674) O rfl dL_law_674 ?_
      refine g_aloadn (pc := 675) O rfl dL_law_675 ?_
      refine g_iloadn (pc := 676) O rfl dL_law_676 ?_
      refine g_iconst (v := I 1) (pc := 677) O rfl dL_law_677 ?_
      refine g_iadd (pc := 678) O dL_law_678 ?_
      refine g_sld (j := i + 1) (pc := 679) O S dL_law_679 (I_add (i : Int) 1) (by omega) ?_
      refine g_aloadn (pc := 680) O rfl dL_law_680 ?_
      refine g_iloadn (pc := 681) O rfl dL_law_681 ?_
      refine g_iconst (v := I 2) (pc := 682) O rfl dL_law_682 ?_
      refine g_iadd (pc := 683) O dL_law_683 ?_
      refine g_sld (j := i + 2) (pc := 684) O S dL_law_684 (I_add (i : Int) 2) (by omega) ?_
      refine g_callV (M := mX7_bill) (w := (118, 118 + k, 19377 + 14641 * k)) (n2 := 118) (a := 0) (av := [.int (xs (i + 1)), .int (xs (i + 2))]) (st := []) (mc := 0) (ms := 0) (pc := 685) O mk_X7_bill ml_L_89 im_X7_bill se_X7_bill cls7 rfl (ltb rfl) ⟨rfl, rfl, leb rfl, leb rfl⟩ rfl (leb rfl) ⟨by show 118 + k + 0 ≤ 600000; omega, by show 19377 + 14641 * k + 0 ≤ 7302249; omega⟩ dL_law_685 (Spec.mono (J_bill hI ((xs (i + 1))) ((xs (i + 2)))) (qI_k (fun v h1 SB => ?_))) rfl
      show Gd (FF g l X) Z (118, 118 + k + 0, 19377 + 14641 * k + 0) h1 688 [(0, .ref 1000), (1, .ref 0), (2, .ref 82), (3, .int (I (i : Int)))] [.int v]
      refine g_aloadn (pc := 688) O rfl dL_law_688 ?_
      refine g_aloadn (pc := 689) O rfl dL_law_689 ?_
      refine g_iloadn (pc := 690) O rfl dL_law_690 ?_
      refine g_iconst (v := I 1) (pc := 691) O rfl dL_law_691 ?_
      refine g_iadd (pc := 692) O dL_law_692 ?_
      refine g_sld (j := i + 1) (pc := 693) O S dL_law_693 (I_add (i : Int) 1) (by omega) ?_
      refine g_aloadn (pc := 694) O rfl dL_law_694 ?_
      refine g_iloadn (pc := 695) O rfl dL_law_695 ?_
      refine g_iconst (v := I 2) (pc := 696) O rfl dL_law_696 ?_
      refine g_iadd (pc := 697) O dL_law_697 ?_
      refine g_sld (j := i + 2) (pc := 698) O S dL_law_698 (I_add (i : Int) 2) (by omega) ?_
      refine g_callV (M := mX8_bill) (w := (118, 118 + k + 0, 19377 + 14641 * k + 0)) (n2 := 118) (a := 82) (av := [.int (xs (i + 1)), .int (xs (i + 2))]) (st := [.int v]) (mc := 0) (ms := 0) (pc := 699) O mk_X8_bill ml_L_92 im_X8_bill se_X8_bill cls8 rfl (ltb rfl) ⟨rfl, rfl, leb rfl, leb rfl⟩ rfl (leb rfl) ⟨by show 118 + k + 0 + 0 ≤ 600000; omega, by show 19377 + 14641 * k + 0 + 0 ≤ 7302249; omega⟩ dL_law_699 (Spec.mono SB (qI_k (fun u h2 hu => ?_))) rfl
      obtain ⟨eu, I2⟩ := hu
      subst eu
      show Gd (FF g l X) Z (118, 118 + k + 0, 19377 + 14641 * k + 0) h2 702 [(0, .ref 1000), (1, .ref 0), (2, .ref 82), (3, .int (I (i : Int)))] [.int u, .int u]
      refine g_icmp_eq (tgt := 902) (pc := 702) O dL_law_702 rfl (fun _ => ?_) (fun q => absurd rfl q)
      exact g_wide (by omega) (by omega) (nxt h2 I2)
    · refine ⟨707, rfl, ?_⟩
      show Gd (FF g l X) Z (118, 118 + k, 19377 + 14641 * k) h 707 [(0, .ref 1000), (1, .ref 0), (2, .ref 82), (3, .int (I (i : Int)))] []
      refine g_aloadn (pc := 707) O rfl dL_law_707 ?_
      refine g_aloadn (pc := 708) O rfl dL_law_708 ?_
      refine g_iloadn (pc := 709) O rfl dL_law_709 ?_
      refine g_iconst (v := I 1) (pc := 710) O rfl dL_law_710 ?_
      refine g_iadd (pc := 711) O dL_law_711 ?_
      refine g_sld (j := i + 1) (pc := 712) O S dL_law_712 (I_add (i : Int) 1) (by omega) ?_
      refine g_callV (M := mX7_billed) (w := (118, 118 + k, 19377 + 14641 * k)) (n2 := 118) (a := 0) (av := [.int (xs (i + 1))]) (st := []) (mc := 1) (ms := 14641) (pc := 713) O mk_X7_billed ml_L_93 im_X7_billed se_X7_billed cls7 rfl (ltb rfl) ⟨rfl, rfl, leb rfl, leb rfl⟩ rfl (leb rfl) ⟨by show 118 + k + 1 ≤ 600000; omega, by show 19377 + 14641 * k + 14641 ≤ 7302249; omega⟩ dL_law_713 (Spec.mono (J_billed hI ((xs (i + 1)))) (qI_k (fun v h1 SB => ?_))) rfl
      show Gd (FF g l X) Z (118, 118 + k + 1, 19377 + 14641 * k + 14641) h1 716 [(0, .ref 1000), (1, .ref 0), (2, .ref 82), (3, .int (I (i : Int)))] [.int v]
      refine g_aloadn (pc := 716) O rfl dL_law_716 ?_
      refine g_aloadn (pc := 717) O rfl dL_law_717 ?_
      refine g_iloadn (pc := 718) O rfl dL_law_718 ?_
      refine g_iconst (v := I 1) (pc := 719) O rfl dL_law_719 ?_
      refine g_iadd (pc := 720) O dL_law_720 ?_
      refine g_sld (j := i + 1) (pc := 721) O S dL_law_721 (I_add (i : Int) 1) (by omega) ?_
      refine g_callV (M := mX8_billed) (w := (118, 118 + k + 1, 19377 + 14641 * k + 14641)) (n2 := 118) (a := 82) (av := [.int (xs (i + 1))]) (st := [.int v]) (mc := 0) (ms := 0) (pc := 722) O mk_X8_billed ml_L_96 im_X8_billed se_X8_billed cls8 rfl (ltb rfl) ⟨rfl, rfl, leb rfl, leb rfl⟩ rfl (leb rfl) ⟨by show 118 + k + 1 + 0 ≤ 600000; omega, by show 19377 + 14641 * k + 14641 + 0 ≤ 7302249; omega⟩ dL_law_722 (Spec.mono SB (qI_k (fun u h2 hu => ?_))) rfl
      obtain ⟨eu, I2⟩ := hu
      subst eu
      show Gd (FF g l X) Z (118, 118 + k + 1, 19377 + 14641 * k + 14641) h2 725 [(0, .ref 1000), (1, .ref 0), (2, .ref 82), (3, .int (I (i : Int)))] [.int u, .int u]
      refine g_icmp_eq (tgt := 902) (pc := 725) O dL_law_725 rfl (fun _ => ?_) (fun q => absurd rfl q)
      exact g_wide (by omega) (by omega) (nxt h2 I2)
    · refine ⟨730, rfl, ?_⟩
      show Gd (FF g l X) Z (118, 118 + k, 19377 + 14641 * k) h 730 [(0, .ref 1000), (1, .ref 0), (2, .ref 82), (3, .int (I (i : Int)))] []
      refine g_aloadn (pc := 730) O rfl dL_law_730 ?_
      refine g_aloadn (pc := 731) O rfl dL_law_731 ?_
      refine g_iloadn (pc := 732) O rfl dL_law_732 ?_
      refine g_iconst (v := I 1) (pc := 733) O rfl dL_law_733 ?_
      refine g_iadd (pc := 734) O dL_law_734 ?_
      refine g_sld (j := i + 1) (pc := 735) O S dL_law_735 (I_add (i : Int) 1) (by omega) ?_
      refine g_aloadn (pc := 736) O rfl dL_law_736 ?_
      refine g_iloadn (pc := 737) O rfl dL_law_737 ?_
      refine g_iconst (v := I 2) (pc := 738) O rfl dL_law_738 ?_
      refine g_iadd (pc := 739) O dL_law_739 ?_
      refine g_sld (j := i + 2) (pc := 740) O S dL_law_740 (I_add (i : Int) 2) (by omega) ?_
      refine g_callV (M := mX7_enough) (w := (118, 118 + k, 19377 + 14641 * k)) (n2 := 118) (a := 0) (av := [.int (xs (i + 1)), .int (xs (i + 2))]) (st := []) (mc := 0) (ms := 0) (pc := 741) O mk_X7_enough ml_L_97 im_X7_enough se_X7_enough cls7 rfl (ltb rfl) ⟨rfl, rfl, leb rfl, leb rfl⟩ rfl (leb rfl) ⟨by show 118 + k + 0 ≤ 600000; omega, by show 19377 + 14641 * k + 0 ≤ 7302249; omega⟩ dL_law_741 (Spec.mono (J_enough hI ((xs (i + 1))) ((xs (i + 2)))) (qI_k (fun v h1 SB => ?_))) rfl
      show Gd (FF g l X) Z (118, 118 + k + 0, 19377 + 14641 * k + 0) h1 744 [(0, .ref 1000), (1, .ref 0), (2, .ref 82), (3, .int (I (i : Int)))] [.int v]
      refine g_aloadn (pc := 744) O rfl dL_law_744 ?_
      refine g_aloadn (pc := 745) O rfl dL_law_745 ?_
      refine g_iloadn (pc := 746) O rfl dL_law_746 ?_
      refine g_iconst (v := I 1) (pc := 747) O rfl dL_law_747 ?_
      refine g_iadd (pc := 748) O dL_law_748 ?_
      refine g_sld (j := i + 1) (pc := 749) O S dL_law_749 (I_add (i : Int) 1) (by omega) ?_
      refine g_aloadn (pc := 750) O rfl dL_law_750 ?_
      refine g_iloadn (pc := 751) O rfl dL_law_751 ?_
      refine g_iconst (v := I 2) (pc := 752) O rfl dL_law_752 ?_
      refine g_iadd (pc := 753) O dL_law_753 ?_
      refine g_sld (j := i + 2) (pc := 754) O S dL_law_754 (I_add (i : Int) 2) (by omega) ?_
      refine g_callV (M := mX8_enough) (w := (118, 118 + k + 0, 19377 + 14641 * k + 0)) (n2 := 118) (a := 82) (av := [.int (xs (i + 1)), .int (xs (i + 2))]) (st := [.int v]) (mc := 0) (ms := 0) (pc := 755) O mk_X8_enough ml_L_100 im_X8_enough se_X8_enough cls8 rfl (ltb rfl) ⟨rfl, rfl, leb rfl, leb rfl⟩ rfl (leb rfl) ⟨by show 118 + k + 0 + 0 ≤ 600000; omega, by show 19377 + 14641 * k + 0 + 0 ≤ 7302249; omega⟩ dL_law_755 (Spec.mono SB (qI_k (fun u h2 hu => ?_))) rfl
      obtain ⟨eu, I2⟩ := hu
      subst eu
      show Gd (FF g l X) Z (118, 118 + k + 0, 19377 + 14641 * k + 0) h2 758 [(0, .ref 1000), (1, .ref 0), (2, .ref 82), (3, .int (I (i : Int)))] [.int u, .int u]
      refine g_icmp_eq (tgt := 902) (pc := 758) O dL_law_758 rfl (fun _ => ?_) (fun q => absurd rfl q)
      exact g_wide (by omega) (by omega) (nxt h2 I2)
    · refine ⟨763, rfl, ?_⟩
      show Gd (FF g l X) Z (118, 118 + k, 19377 + 14641 * k) h 763 [(0, .ref 1000), (1, .ref 0), (2, .ref 82), (3, .int (I (i : Int)))] []
      refine g_aloadn (pc := 763) O rfl dL_law_763 ?_
      refine g_callV (M := mX7_next) (w := (118, 118 + k, 19377 + 14641 * k)) (n2 := 118) (a := 0) (av := []) (st := []) (mc := 1) (ms := 14641) (pc := 764) O mk_X7_next ml_L_101 im_X7_next se_X7_next cls7 rfl (ltb rfl) ⟨rfl, rfl, leb rfl, leb rfl⟩ rfl (leb rfl) ⟨by show 118 + k + 1 ≤ 600000; omega, by show 19377 + 14641 * k + 14641 ≤ 7302249; omega⟩ dL_law_764 (Spec.mono (J_next hI) (qI_k (fun v h1 SB => ?_))) rfl
      show Gd (FF g l X) Z (118, 118 + k + 1, 19377 + 14641 * k + 14641) h1 767 [(0, .ref 1000), (1, .ref 0), (2, .ref 82), (3, .int (I (i : Int)))] [.int v]
      refine g_aloadn (pc := 767) O rfl dL_law_767 ?_
      refine g_callV (M := mX8_next) (w := (118, 118 + k + 1, 19377 + 14641 * k + 14641)) (n2 := 118) (a := 82) (av := []) (st := [.int v]) (mc := 0) (ms := 0) (pc := 768) O mk_X8_next ml_L_104 im_X8_next se_X8_next cls8 rfl (ltb rfl) ⟨rfl, rfl, leb rfl, leb rfl⟩ rfl (leb rfl) ⟨by show 118 + k + 1 + 0 ≤ 600000; omega, by show 19377 + 14641 * k + 14641 + 0 ≤ 7302249; omega⟩ dL_law_768 (Spec.mono SB (qI_k (fun u h2 hu => ?_))) rfl
      obtain ⟨eu, I2⟩ := hu
      subst eu
      show Gd (FF g l X) Z (118, 118 + k + 1, 19377 + 14641 * k + 14641) h2 771 [(0, .ref 1000), (1, .ref 0), (2, .ref 82), (3, .int (I (i : Int)))] [.int u, .int u]
      refine g_icmp_eq (tgt := 902) (pc := 771) O dL_law_771 rfl (fun _ => ?_) (fun q => absurd rfl q)
      exact g_wide (by omega) (by omega) (nxt h2 I2)
    · refine ⟨776, rfl, ?_⟩
      show Gd (FF g l X) Z (118, 118 + k, 19377 + 14641 * k) h 776 [(0, .ref 1000), (1, .ref 0), (2, .ref 82), (3, .int (I (i : Int)))] []
      refine g_aloadn (pc := 776) O rfl dL_law_776 ?_
      refine g_aloadn (pc := 777) O rfl dL_law_777 ?_
      refine g_iloadn (pc := 778) O rfl dL_law_778 ?_
      refine g_iconst (v := I 1) (pc := 779) O rfl dL_law_779 ?_
      refine g_iadd (pc := 780) O dL_law_780 ?_
      refine g_sld (j := i + 1) (pc := 781) O S dL_law_781 (I_add (i : Int) 1) (by omega) ?_
      refine g_aloadn (pc := 782) O rfl dL_law_782 ?_
      refine g_iloadn (pc := 783) O rfl dL_law_783 ?_
      refine g_iconst (v := I 2) (pc := 784) O rfl dL_law_784 ?_
      refine g_iadd (pc := 785) O dL_law_785 ?_
      refine g_sld (j := i + 2) (pc := 786) O S dL_law_786 (I_add (i : Int) 2) (by omega) ?_
      refine g_aloadn (pc := 787) O rfl dL_law_787 ?_
      refine g_iloadn (pc := 788) O rfl dL_law_788 ?_
      refine g_iconst (v := I 3) (pc := 789) O rfl dL_law_789 ?_
      refine g_iadd (pc := 790) O dL_law_790 ?_
      refine g_sld (j := i + 3) (pc := 791) O S dL_law_791 (I_add (i : Int) 3) (by omega) ?_
      refine g_callV (M := mX7_rank) (w := (118, 118 + k, 19377 + 14641 * k)) (n2 := 118) (a := 0) (av := [.int (xs (i + 1)), .int (xs (i + 2)), .int (xs (i + 3))]) (st := []) (mc := 1) (ms := 14641) (pc := 792) O mk_X7_rank ml_L_105 im_X7_rank se_X7_rank cls7 rfl (ltb rfl) ⟨rfl, rfl, leb rfl, leb rfl⟩ rfl (leb rfl) ⟨by show 118 + k + 1 ≤ 600000; omega, by show 19377 + 14641 * k + 14641 ≤ 7302249; omega⟩ dL_law_792 (Spec.mono (J_rank hI ((xs (i + 1))) ((xs (i + 2))) ((xs (i + 3)))) (qI_k (fun v h1 SB => ?_))) rfl
      show Gd (FF g l X) Z (118, 118 + k + 1, 19377 + 14641 * k + 14641) h1 795 [(0, .ref 1000), (1, .ref 0), (2, .ref 82), (3, .int (I (i : Int)))] [.int v]
      refine g_aloadn (pc := 795) O rfl dL_law_795 ?_
      refine g_aloadn (pc := 796) O rfl dL_law_796 ?_
      refine g_iloadn (pc := 797) O rfl dL_law_797 ?_
      refine g_iconst (v := I 1) (pc := 798) O rfl dL_law_798 ?_
      refine g_iadd (pc := 799) O dL_law_799 ?_
      refine g_sld (j := i + 1) (pc := 800) O S dL_law_800 (I_add (i : Int) 1) (by omega) ?_
      refine g_aloadn (pc := 801) O rfl dL_law_801 ?_
      refine g_iloadn (pc := 802) O rfl dL_law_802 ?_
      refine g_iconst (v := I 2) (pc := 803) O rfl dL_law_803 ?_
      refine g_iadd (pc := 804) O dL_law_804 ?_
      refine g_sld (j := i + 2) (pc := 805) O S dL_law_805 (I_add (i : Int) 2) (by omega) ?_
      refine g_aloadn (pc := 806) O rfl dL_law_806 ?_
      refine g_iloadn (pc := 807) O rfl dL_law_807 ?_
      refine g_iconst (v := I 3) (pc := 808) O rfl dL_law_808 ?_
      refine g_iadd (pc := 809) O dL_law_809 ?_
      refine g_sld (j := i + 3) (pc := 810) O S dL_law_810 (I_add (i : Int) 3) (by omega) ?_
      refine g_callV (M := mX8_rank) (w := (118, 118 + k + 1, 19377 + 14641 * k + 14641)) (n2 := 118) (a := 82) (av := [.int (xs (i + 1)), .int (xs (i + 2)), .int (xs (i + 3))]) (st := [.int v]) (mc := 0) (ms := 0) (pc := 811) O mk_X8_rank ml_L_108 im_X8_rank se_X8_rank cls8 rfl (ltb rfl) ⟨rfl, rfl, leb rfl, leb rfl⟩ rfl (leb rfl) ⟨by show 118 + k + 1 + 0 ≤ 600000; omega, by show 19377 + 14641 * k + 14641 + 0 ≤ 7302249; omega⟩ dL_law_811 (Spec.mono SB (qI_k (fun u h2 hu => ?_))) rfl
      obtain ⟨eu, I2⟩ := hu
      subst eu
      show Gd (FF g l X) Z (118, 118 + k + 1, 19377 + 14641 * k + 14641) h2 814 [(0, .ref 1000), (1, .ref 0), (2, .ref 82), (3, .int (I (i : Int)))] [.int u, .int u]
      refine g_icmp_eq (tgt := 902) (pc := 814) O dL_law_814 rfl (fun _ => ?_) (fun q => absurd rfl q)
      exact g_wide (by omega) (by omega) (nxt h2 I2)
    · refine ⟨819, rfl, ?_⟩
      show Gd (FF g l X) Z (118, 118 + k, 19377 + 14641 * k) h 819 [(0, .ref 1000), (1, .ref 0), (2, .ref 82), (3, .int (I (i : Int)))] []
      refine g_aloadn (pc := 819) O rfl dL_law_819 ?_
      refine g_aloadn (pc := 820) O rfl dL_law_820 ?_
      refine g_iloadn (pc := 821) O rfl dL_law_821 ?_
      refine g_iconst (v := I 1) (pc := 822) O rfl dL_law_822 ?_
      refine g_iadd (pc := 823) O dL_law_823 ?_
      refine g_sld (j := i + 1) (pc := 824) O S dL_law_824 (I_add (i : Int) 1) (by omega) ?_
      refine g_callV (M := mX7_keep) (w := (118, 118 + k, 19377 + 14641 * k)) (n2 := 118) (a := 0) (av := [.int (xs (i + 1))]) (st := []) (mc := 0) (ms := 0) (pc := 825) O mk_X7_keep ml_L_109 im_X7_keep se_X7_keep cls7 rfl (ltb rfl) ⟨rfl, rfl, leb rfl, leb rfl⟩ rfl (leb rfl) ⟨by show 118 + k + 0 ≤ 600000; omega, by show 19377 + 14641 * k + 0 ≤ 7302249; omega⟩ dL_law_825 (Spec.mono (J_keep hI ((xs (i + 1)))) (qI_k (fun v h1 SB => ?_))) rfl
      show Gd (FF g l X) Z (118, 118 + k + 0, 19377 + 14641 * k + 0) h1 828 [(0, .ref 1000), (1, .ref 0), (2, .ref 82), (3, .int (I (i : Int)))] [.int v]
      refine g_aloadn (pc := 828) O rfl dL_law_828 ?_
      refine g_aloadn (pc := 829) O rfl dL_law_829 ?_
      refine g_iloadn (pc := 830) O rfl dL_law_830 ?_
      refine g_iconst (v := I 1) (pc := 831) O rfl dL_law_831 ?_
      refine g_iadd (pc := 832) O dL_law_832 ?_
      refine g_sld (j := i + 1) (pc := 833) O S dL_law_833 (I_add (i : Int) 1) (by omega) ?_
      refine g_callV (M := mX8_keep) (w := (118, 118 + k + 0, 19377 + 14641 * k + 0)) (n2 := 118) (a := 82) (av := [.int (xs (i + 1))]) (st := [.int v]) (mc := 0) (ms := 0) (pc := 834) O mk_X8_keep ml_L_112 im_X8_keep se_X8_keep cls8 rfl (ltb rfl) ⟨rfl, rfl, leb rfl, leb rfl⟩ rfl (leb rfl) ⟨by show 118 + k + 0 + 0 ≤ 600000; omega, by show 19377 + 14641 * k + 0 + 0 ≤ 7302249; omega⟩ dL_law_834 (Spec.mono SB (qI_k (fun u h2 hu => ?_))) rfl
      obtain ⟨eu, I2⟩ := hu
      subst eu
      show Gd (FF g l X) Z (118, 118 + k + 0, 19377 + 14641 * k + 0) h2 837 [(0, .ref 1000), (1, .ref 0), (2, .ref 82), (3, .int (I (i : Int)))] [.int u, .int u]
      refine g_icmp_eq (tgt := 902) (pc := 837) O dL_law_837 rfl (fun _ => ?_) (fun q => absurd rfl q)
      exact g_wide (by omega) (by omega) (nxt h2 I2)
    · refine ⟨842, rfl, ?_⟩
      show Gd (FF g l X) Z (118, 118 + k, 19377 + 14641 * k) h 842 [(0, .ref 1000), (1, .ref 0), (2, .ref 82), (3, .int (I (i : Int)))] []
      refine g_aloadn (pc := 842) O rfl dL_law_842 ?_
      refine g_aloadn (pc := 843) O rfl dL_law_843 ?_
      refine g_iloadn (pc := 844) O rfl dL_law_844 ?_
      refine g_iconst (v := I 1) (pc := 845) O rfl dL_law_845 ?_
      refine g_iadd (pc := 846) O dL_law_846 ?_
      refine g_sld (j := i + 1) (pc := 847) O S dL_law_847 (I_add (i : Int) 1) (by omega) ?_
      refine g_callV (M := mX7_back) (w := (118, 118 + k, 19377 + 14641 * k)) (n2 := 118) (a := 0) (av := [.int (xs (i + 1))]) (st := []) (mc := 0) (ms := 0) (pc := 848) O mk_X7_back ml_L_113 im_X7_back se_X7_back cls7 rfl (ltb rfl) ⟨rfl, rfl, leb rfl, leb rfl⟩ rfl (leb rfl) ⟨by show 118 + k + 0 ≤ 600000; omega, by show 19377 + 14641 * k + 0 ≤ 7302249; omega⟩ dL_law_848 (Spec.mono (J_back hI ((xs (i + 1)))) (qI_k (fun v h1 SB => ?_))) rfl
      show Gd (FF g l X) Z (118, 118 + k + 0, 19377 + 14641 * k + 0) h1 851 [(0, .ref 1000), (1, .ref 0), (2, .ref 82), (3, .int (I (i : Int)))] [.int v]
      refine g_aloadn (pc := 851) O rfl dL_law_851 ?_
      refine g_aloadn (pc := 852) O rfl dL_law_852 ?_
      refine g_iloadn (pc := 853) O rfl dL_law_853 ?_
      refine g_iconst (v := I 1) (pc := 854) O rfl dL_law_854 ?_
      refine g_iadd (pc := 855) O dL_law_855 ?_
      refine g_sld (j := i + 1) (pc := 856) O S dL_law_856 (I_add (i : Int) 1) (by omega) ?_
      refine g_callV (M := mX8_back) (w := (118, 118 + k + 0, 19377 + 14641 * k + 0)) (n2 := 118) (a := 82) (av := [.int (xs (i + 1))]) (st := [.int v]) (mc := 0) (ms := 0) (pc := 857) O mk_X8_back ml_L_116 im_X8_back se_X8_back cls8 rfl (ltb rfl) ⟨rfl, rfl, leb rfl, leb rfl⟩ rfl (leb rfl) ⟨by show 118 + k + 0 + 0 ≤ 600000; omega, by show 19377 + 14641 * k + 0 + 0 ≤ 7302249; omega⟩ dL_law_857 (Spec.mono SB (qI_k (fun u h2 hu => ?_))) rfl
      obtain ⟨eu, I2⟩ := hu
      subst eu
      show Gd (FF g l X) Z (118, 118 + k + 0, 19377 + 14641 * k + 0) h2 860 [(0, .ref 1000), (1, .ref 0), (2, .ref 82), (3, .int (I (i : Int)))] [.int u, .int u]
      refine g_icmp_eq (tgt := 902) (pc := 860) O dL_law_860 rfl (fun _ => ?_) (fun q => absurd rfl q)
      exact g_wide (by omega) (by omega) (nxt h2 I2)
    · refine ⟨865, rfl, ?_⟩
      show Gd (FF g l X) Z (118, 118 + k, 19377 + 14641 * k) h 865 [(0, .ref 1000), (1, .ref 0), (2, .ref 82), (3, .int (I (i : Int)))] []
      refine g_aloadn (pc := 865) O rfl dL_law_865 ?_
      refine g_aloadn (pc := 866) O rfl dL_law_866 ?_
      refine g_iloadn (pc := 867) O rfl dL_law_867 ?_
      refine g_iconst (v := I 1) (pc := 868) O rfl dL_law_868 ?_
      refine g_iadd (pc := 869) O dL_law_869 ?_
      refine g_sld (j := i + 1) (pc := 870) O S dL_law_870 (I_add (i : Int) 1) (by omega) ?_
      refine g_callV (M := mX7_count) (w := (118, 118 + k, 19377 + 14641 * k)) (n2 := 118) (a := 0) (av := [.int (xs (i + 1))]) (st := []) (mc := 0) (ms := 0) (pc := 871) O mk_X7_count ml_L_117 im_X7_count se_X7_count cls7 rfl (ltb rfl) ⟨rfl, rfl, leb rfl, leb rfl⟩ rfl (leb rfl) ⟨by show 118 + k + 0 ≤ 600000; omega, by show 19377 + 14641 * k + 0 ≤ 7302249; omega⟩ dL_law_871 (Spec.mono (J_count hI ((xs (i + 1)))) (qI_k (fun v h1 SB => ?_))) rfl
      show Gd (FF g l X) Z (118, 118 + k + 0, 19377 + 14641 * k + 0) h1 874 [(0, .ref 1000), (1, .ref 0), (2, .ref 82), (3, .int (I (i : Int)))] [.int v]
      refine g_aloadn (pc := 874) O rfl dL_law_874 ?_
      refine g_aloadn (pc := 875) O rfl dL_law_875 ?_
      refine g_iloadn (pc := 876) O rfl dL_law_876 ?_
      refine g_iconst (v := I 1) (pc := 877) O rfl dL_law_877 ?_
      refine g_iadd (pc := 878) O dL_law_878 ?_
      refine g_sld (j := i + 1) (pc := 879) O S dL_law_879 (I_add (i : Int) 1) (by omega) ?_
      refine g_callV (M := mX8_count) (w := (118, 118 + k + 0, 19377 + 14641 * k + 0)) (n2 := 118) (a := 82) (av := [.int (xs (i + 1))]) (st := [.int v]) (mc := 0) (ms := 0) (pc := 880) O mk_X8_count ml_L_120 im_X8_count se_X8_count cls8 rfl (ltb rfl) ⟨rfl, rfl, leb rfl, leb rfl⟩ rfl (leb rfl) ⟨by show 118 + k + 0 + 0 ≤ 600000; omega, by show 19377 + 14641 * k + 0 + 0 ≤ 7302249; omega⟩ dL_law_880 (Spec.mono SB (qI_k (fun u h2 hu => ?_))) rfl
      obtain ⟨eu, I2⟩ := hu
      subst eu
      show Gd (FF g l X) Z (118, 118 + k + 0, 19377 + 14641 * k + 0) h2 883 [(0, .ref 1000), (1, .ref 0), (2, .ref 82), (3, .int (I (i : Int)))] [.int u, .int u]
      refine g_icmp_eq (tgt := 902) (pc := 883) O dL_law_883 rfl (fun _ => ?_) (fun q => absurd rfl q)
      exact g_wide (by omega) (by omega) (nxt h2 I2)
    · refine ⟨888, rfl, ?_⟩
      show Gd (FF g l X) Z (118, 118 + k, 19377 + 14641 * k) h 888 [(0, .ref 1000), (1, .ref 0), (2, .ref 82), (3, .int (I (i : Int)))] []
      refine g_aloadn (pc := 888) O rfl dL_law_888 ?_
      refine g_callV (M := mX7_trace) (w := (118, 118 + k, 19377 + 14641 * k)) (n2 := 118) (a := 0) (av := []) (st := []) (mc := 0) (ms := 0) (pc := 889) O mk_X7_trace ml_L_121 im_X7_trace se_X7_trace cls7 rfl (ltb rfl) ⟨rfl, rfl, leb rfl, leb rfl⟩ rfl (leb rfl) ⟨by show 118 + k + 0 ≤ 600000; omega, by show 19377 + 14641 * k + 0 ≤ 7302249; omega⟩ dL_law_889 (Spec.mono (J_trace hI) (qL_k (fun v h1 SB => ?_))) rfl
      show Gd (FF g l X) Z (118, 118 + k + 0, 19377 + 14641 * k + 0) h1 892 [(0, .ref 1000), (1, .ref 0), (2, .ref 82), (3, .int (I (i : Int)))] [.long v]
      refine g_aloadn (pc := 892) O rfl dL_law_892 ?_
      refine g_callV (M := mX8_trace) (w := (118, 118 + k + 0, 19377 + 14641 * k + 0)) (n2 := 118) (a := 82) (av := []) (st := [.long v]) (mc := 0) (ms := 0) (pc := 893) O mk_X8_trace ml_L_125 im_X8_trace se_X8_trace cls8 rfl (ltb rfl) ⟨rfl, rfl, leb rfl, leb rfl⟩ rfl (leb rfl) ⟨by show 118 + k + 0 + 0 ≤ 600000; omega, by show 19377 + 14641 * k + 0 + 0 ≤ 7302249; omega⟩ dL_law_893 (Spec.mono SB (qL_k (fun u h2 hu => ?_))) rfl
      obtain ⟨eu, I2⟩ := hu
      subst eu
      show Gd (FF g l X) Z (118, 118 + k + 0, 19377 + 14641 * k + 0) h2 896 [(0, .ref 1000), (1, .ref 0), (2, .ref 82), (3, .int (I (i : Int)))] [.long u, .long u]
      refine g_lcmp (pc := 896) O dL_law_896 ?_
      refine g_if_eq (tgt := 902) (pc := 897) O dL_law_897 rfl (fun _ => ?_) (fun q => absurd ((lg_cmp_eq u u).mpr rfl) q)
      exact g_wide (by omega) (by omega) (nxt h2 I2)
set_option maxRecDepth 20000 in
set_option maxHeartbeats 4000000 in
theorem law_start {g : mg} {l : Launch} {X : XT} {Z : State → Prop} (W : NestW g.1) (O : Ok (F0' g l X) RL cL_law 4 room_1 (some .boolean)) {L : Nat} {xs : Nat → Int32} (S : Scr (FF g l X) L xs) (fin : ∀ k h lv, k ≤ 75 → Gd (FF g l X) Z (118, 118 + k, 19377 + 14641 * k) h 909 lv [.int (I 1)]) : Gd (F0' g l X) Z (0, 0, 0) Z0 0 [(0, .ref 1000)] [] := by
  refine g_new (c := 7) (n := 0) (cs := 0) (ss := 0) (N := 12) (pc := 0) O clsN7 cl_L_7 dL_law_0 rfl (ltb rfl) zA_Z0 ⟨leb rfl, leb rfl⟩ ?_
  show Gd (F0' g l X) _ (1, 1, 12) Z0 3 [(0, .ref 1000)] [.ref 0]
  refine g_dup (pc := 3) O rfl dL_law_3 ?_
  refine g_callI (av := []) (st := [.ref 0]) (w := (1, 1, 12)) (a := 0) (mc := 81) (ms := 3087) (pc := 4) O mk_X7_init rfl ml_L_9 im_X7_init rfl ⟨rfl, rfl, leb rfl, leb rfl⟩ rfl (leb rfl) ⟨leb rfl, leb rfl⟩ dL_law_4 (Spec.mono (cX7_0 W zA_Z0) (qE_k ?_)) rfl
  show Gd (F0' g l X) _ (82, 82, 3099) (iX7_0 Z0) 7 [(0, .ref 1000)] [.ref 0]
  refine g_astoren (lv' := [(0, .ref 1000), (1, .ref 0)]) (pc := 7) O dL_law_7 rfl (ltb rfl) rfl ?_
  refine g_new (c := 8) (n := 82) (cs := 82) (ss := 3099) (N := 51) (pc := 8) O clsN8 cl_L_10 dL_law_8 rfl (ltb rfl) (zX7_0 zA_Z0) ⟨leb rfl, leb rfl⟩ ?_
  show Gd (F0' g l X) _ (83, 83, 3150) (iX7_0 Z0) 11 [(0, .ref 1000), (1, .ref 0)] [.ref 82]
  refine g_dup (pc := 11) O rfl dL_law_11 ?_
  refine g_callI (av := []) (st := [.ref 82]) (w := (83, 83, 3150)) (a := 82) (mc := 35) (ms := 16227) (pc := 12) O mk_X8_init rfl ml_L_12 im_X8_init rfl ⟨rfl, rfl, leb rfl, leb rfl⟩ rfl (leb rfl) ⟨leb rfl, leb rfl⟩ dL_law_12 (Spec.mono (cX8_82 W (zA_up (zX7_0 zA_Z0) (leb rfl))) (qE_k ?_)) rfl
  show Gd (F0' g l X) _ (118, 118, 19377) hS0 15 [(0, .ref 1000), (1, .ref 0)] [.ref 82]
  refine g_fix ?_
  have O1 : Ok (FF g l X) RL cL_law 4 room_1 (some .boolean) := O
  refine g_astoren (lv' := [(0, .ref 1000), (1, .ref 0), (2, .ref 82)]) (pc := 15) O1 dL_law_15 rfl (ltb rfl) rfl ?_
  refine g_iconst (v := I 0) (pc := 16) O1 rfl dL_law_16 ?_
  refine g_istoren (lv' := [(0, .ref 1000), (1, .ref 0), (2, .ref 82), (3, .int (I 0))]) (pc := 17) O1 dL_law_17 rfl (ltb rfl) rfl ?_
  exact law_loop O1 S fin 65 0 0 hS0 (by have := S.2.2.2; omega) (by omega) (by omega) Inv_00
