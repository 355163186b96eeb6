/-! the kinds -/
def stT (s : ST) (t : Int64) : ST := (s.1, s.2.1, s.2.2.1, s.2.2.2.1, s.2.2.2.2.1, t)
def cnB (e : PE) (p : Nat) : Nat → Nat
  | 0 => 0
  | c + 1 => if hdb e p c then cnB e p c + 1 else cnB e p c
def pcn (n : Nat) : Nat := n % 2 + n / 2 % 2 + n / 4 % 2 + n / 8 % 2
theorem pcn_hbt {e : PE} {p : Nat} : ∀ n, n ≤ 4 → pcn (hbt e p n) = cnB e p n
  | 0, _ => by
    show pcn 0 = 0
    rfl
  | 1, _ => by
    show pcn (0 + (if hdb e p 0 then 2 ^ 0 else 0)) = (if hdb e p 0 then 0 + 1 else 0)
    cases hdb e p 0 <;> rfl
  | 2, _ => by
    show pcn (0 + (if hdb e p 0 then 2 ^ 0 else 0) + (if hdb e p 1 then 2 ^ 1 else 0)) = (if hdb e p 1 then (if hdb e p 0 then 0 + 1 else 0) + 1 else (if hdb e p 0 then 0 + 1 else 0))
    cases hdb e p 0 <;> cases hdb e p 1 <;> rfl
  | 3, _ => by
    show pcn (0 + (if hdb e p 0 then 2 ^ 0 else 0) + (if hdb e p 1 then 2 ^ 1 else 0) + (if hdb e p 2 then 2 ^ 2 else 0)) = (if hdb e p 2 then (if hdb e p 1 then (if hdb e p 0 then 0 + 1 else 0) + 1 else (if hdb e p 0 then 0 + 1 else 0)) + 1 else (if hdb e p 1 then (if hdb e p 0 then 0 + 1 else 0) + 1 else (if hdb e p 0 then 0 + 1 else 0)))
    cases hdb e p 0 <;> cases hdb e p 1 <;> cases hdb e p 2 <;> rfl
  | 4, _ => by
    show pcn (0 + (if hdb e p 0 then 2 ^ 0 else 0) + (if hdb e p 1 then 2 ^ 1 else 0) + (if hdb e p 2 then 2 ^ 2 else 0) + (if hdb e p 3 then 2 ^ 3 else 0)) = (if hdb e p 3 then cnB e p 3 + 1 else cnB e p 3)
    show _ = (if hdb e p 3 then (if hdb e p 2 then (if hdb e p 1 then (if hdb e p 0 then 0 + 1 else 0) + 1 else (if hdb e p 0 then 0 + 1 else 0)) + 1 else (if hdb e p 1 then (if hdb e p 0 then 0 + 1 else 0) + 1 else (if hdb e p 0 then 0 + 1 else 0))) + 1 else (if hdb e p 2 then (if hdb e p 1 then (if hdb e p 0 then 0 + 1 else 0) + 1 else (if hdb e p 0 then 0 + 1 else 0)) + 1 else (if hdb e p 1 then (if hdb e p 0 then 0 + 1 else 0) + 1 else (if hdb e p 0 then 0 + 1 else 0))))
    cases hdb e p 0 <;> cases hdb e p 1 <;> cases hdb e p 2 <;> cases hdb e p 3 <;> rfl
  | n + 5, h => absurd h (by omega)
section JR
variable {g : mg} {l : Launch} {h : AH} {s s' : ST}
theorem wp_bitCount {Q : Int32 → AH → Prop} {n : Nat} (hn : n < 16) (k : Q (I (pcn n : Int)) h) : SpI g l mJ6_bitCount_0f7a4 h [.int (I (n : Int))] Q := by
  refine sJ6_bitCount_0f7a4 ?_
  rcases (show n = 0 ∨ n = 1 ∨ n = 2 ∨ n = 3 ∨ n = 4 ∨ n = 5 ∨ n = 6 ∨ n = 7 ∨ n = 8 ∨ n = 9 ∨ n = 10 ∨ n = 11 ∨ n = 12 ∨ n = 13 ∨ n = 14 ∨ n = 15 by omega) with rfl | rfl | rfl | rfl | rfl | rfl | rfl | rfl | rfl | rfl | rfl | rfl | rfl | rfl | rfl | rfl <;> exact Eq.mpr (congrArg (fun x => Q x h) (by decide +kernel)) k
theorem vS_t {t : Int64} (v : vS s) : vS (stT s t) := v
theorem RC_t {t : Int64} (R : RC s h) : RC (stT s t) (sL h 0 11 t) := ⟨⟨R.1.1, R.1.2.1, R.1.2.2.1, R.1.2.2.2.1, R.1.2.2.2.2.1, by rw [sL_1, up_s]; rfl⟩, R.2⟩
theorem RM_0 {t : Int64} (M : RM s h) : RM s (sL h 0 11 t) := RM_k (EqH.rf.sL (by omega)) M
theorem RM_t {t : Int64} (M : RM s h) : RM (stT s t) (sL h 82 32 t) := ⟨⟨M.1.1, M.1.2.1, M.1.2.2.1, M.1.2.2.2.1, M.1.2.2.2.2.1, by rw [sL_1, up_s]; rfl⟩, M.2⟩
theorem RC_0 {t : Int64} (v : vS s) (R : RC s h) : RC s (sL h 82 32 t) := RC_k (EqL.rf.sL (by omega)) v R
theorem wp_asCoat {Q : Int32 → AH → Prop} (v : vS s) (R : RC s h) (M : RM s' h) (P : pcE (pE s) h) {c j : Nat} (hc : c < s.2.1.1) (hj : j < szP (pE s) c) (k : ∀ h2, RC (stT s (s.2.2.2.2.2 + 1)) h2 → RM s' h2 → pcE (pE s) h2 → Q (I (coP (pE s) c j : Int) + I 1) h2) : SpI g l mX7_asCoat h [.ref 0, .int (I (c : Int)), .int (I (j : Int))] Q := by
  have h4 := v.2.1.1
  have z10 : szP (pE s) c ≤ 10 := (v.2.1.2 c hc).2.2.2.1
  obtain ⟨p, hp⟩ := R.1.2.1
  refine sX7_asCoat ⟨c, rfl, by omega, p c, hp.2.1 c (by omega), lay_pm (Or.inl rfl) hp.1 (by omega), j, rfl, by omega, ?_⟩
  rw [(hp.2.2.2 c hc).2.2.2.1 j hj, R.1.2.2.2.2.2]
  exact k _ (RC_t R) (RM_0 M) P
theorem wp_asUnder {Q : Int32 → AH → Prop} (v : vS s) (R : RC s h) (M : RM s' h) (P : pcE (pE s) h) {c j : Nat} (hc : c < s.2.1.1) (hj : j < szP (pE s) c) (k : ∀ h2, RC (stT s (s.2.2.2.2.2 + 100 + 1)) h2 → RM s' h2 → pcE (pE s) h2 → Q (I (coP (pE s) c j : Int) + I 1 + I (diP (pE s) c j : Int)) h2) : SpI g l mX7_asUnder h [.ref 0, .int (I (c : Int)), .int (I (j : Int))] Q := by
  have h4 := v.2.1.1
  have z10 : szP (pE s) c ≤ 10 := (v.2.1.2 c hc).2.2.2.1
  refine sX7_asUnder ?_
  rw [R.1.2.2.2.2.2]
  refine wp_asCoat (s := stT s (s.2.2.2.2.2 + 100)) (vS_t v) (RC_t R) (RM_0 M) P hc hj (fun h2 R2 M2 P2 => ?_)
  obtain ⟨p, hp⟩ := R2.1.2.1
  refine ⟨c, rfl, by omega, p c, hp.2.1 c (by omega), lay_pm (Or.inl rfl) hp.1 (by omega), j, rfl, by omega, ?_⟩
  have e2 : h2.1 (p c + 2) j = I (diP (pE s) c j : Int) := (hp.2.2.2 c hc).2.2.2.2 j hj
  rw [e2]
  exact k h2 R2 M2 P2
theorem wp_asWhole {Q : Int32 → AH → Prop} (v : vS s) (R : RC s h) (M : RM s' h) (P : pcE (pE s) h) {c j : Nat} (hc : c < s.2.1.1) (hj : j < szP (pE s) c) (k : ∀ h2, RC (stT s (s.2.2.2.2.2 + 10 + 1)) h2 → RM s' h2 → pcE (pE s) h2 → Q ((I (coP (pE s) c j : Int) + I 1) * I (cnB (pE s) (pof (pE s) c j) s.2.1.1 : Int)) h2) : SpI g l mX7_asWhole h [.ref 0, .int (I (c : Int)), .int (I (j : Int))] Q := by
  have h4 := v.2.1.1
  have ok : okPE (pE s) := v.2.1
  have n40 := np_le ok
  have z10 : szP (pE s) c ≤ 10 := (v.2.1.2 c hc).2.2.2.1
  have pl := (pof_ex ok hc hj).1
  refine sX7_asWhole ?_
  rw [R.1.2.2.2.2.2]
  refine wp_asCoat (s := stT s (s.2.2.2.2.2 + 10)) (vS_t v) (RC_t R) (RM_0 M) P hc hj (fun h2 R2 M2 P2 => ?_)
  have hb : hbt (pE s) (pof (pE s) c j) s.2.1.1 < 2 ^ s.2.1.1 := hbt_lt _
  have p4 : 2 ^ s.2.1.1 ≤ 2 ^ 4 := Nat.pow_le_pow_right (by omega) h4
  have e30 : h2.1 30 (c * 10 + j) = I (pof (pE s) c j : Int) := P2.2.2 c hc j hj
  have e28 : h2.1 28 (pof (pE s) c j) = I (hbt (pE s) (pof (pE s) c j) s.2.1.1 : Int) := (P2.2.1 _ pl).2.1
  refine sX7_paintingOf ⟨c * 10 + j, by rw [I_mul, I_add]; rfl, by omega, ?_⟩
  refine ⟨pof (pE s) c j, e30, by omega, ?_⟩
  rw [e28]
  refine wp_bitCount (by omega) ?_
  rw [pcn_hbt s.2.1.1 h4]
  exact k h2 R2 M2 P2
theorem wp_ofCoat {Q : Int32 → AH → Prop} (v : vS s) (v' : vS s') (R : RC s' h) (M : RM s h) (P : pmS s h) {c j : Nat} (hc : c < s.2.1.1) (hj : j < szP (pE s) c) (k : ∀ h2, RC s' h2 → RM (stT s (s.2.2.2.2.2 + 1)) h2 → pmS s h2 → Q (I (coP (pE s) c j : Int) + I 1) h2) : SpI g l mX8_ofCoat h [.ref 82, .int (I (c : Int)), .int (I (j : Int))] Q := by
  have h4 := v.2.1.1
  have z10 : szP (pE s) c ≤ 10 := (v.2.1.2 c hc).2.2.2.1
  refine sX8_ofCoat ⟨10 * c + j, by rw [I_mul, I_add]; rfl, by omega, ?_⟩
  rw [e87M M.1 hc hj, M.1.2.2.2.2.2]
  exact k _ (RC_0 v' R) (RM_t M) P
theorem wp_ofUnder {Q : Int32 → AH → Prop} (v : vS s) (v' : vS s') (R : RC s' h) (M : RM s h) (P : pmS s h) {c j : Nat} (hc : c < s.2.1.1) (hj : j < szP (pE s) c) (k : ∀ h2, RC s' h2 → RM (stT s (s.2.2.2.2.2 + 100 + 1)) h2 → pmS s h2 → Q (I (coP (pE s) c j : Int) + I 1 + I (diP (pE s) c j : Int)) h2) : SpI g l mX8_ofUnder h [.ref 82, .int (I (c : Int)), .int (I (j : Int))] Q := by
  have h4 := v.2.1.1
  have z10 : szP (pE s) c ≤ 10 := (v.2.1.2 c hc).2.2.2.1
  refine sX8_ofUnder ?_
  rw [M.1.2.2.2.2.2]
  refine wp_ofCoat (s := stT s (s.2.2.2.2.2 + 100)) (vS_t v) v' (RC_0 v' R) (RM_t M) P hc hj (fun h2 R2 M2 P2 => ?_)
  refine ⟨10 * c + j, by rw [I_mul, I_add]; rfl, by omega, ?_⟩
  have e2 : h2.1 88 (10 * c + j) = I (diP (pE s) c j : Int) := e88M M2.1 hc hj
  rw [e2]
  exact k h2 R2 M2 P2
theorem wp_ofWhole {Q : Int32 → AH → Prop} (v : vS s) (v' : vS s') (R : RC s' h) (M : RM s h) (P : pmS s h) {c j : Nat} (hc : c < s.2.1.1) (hj : j < szP (pE s) c) (k : ∀ h2, RC s' h2 → RM (stT s (s.2.2.2.2.2 + 10 + 1)) h2 → pmS s h2 → Q ((I (coP (pE s) c j : Int) + I 1) * I (cnB (pE s) (pof (pE s) c j) s.2.1.1 : Int)) h2) : SpI g l mX8_ofWhole h [.ref 82, .int (I (c : Int)), .int (I (j : Int))] Q := by
  have h4 := v.2.1.1
  have ok : okPE (pE s) := v.2.1
  have n40 := np_le ok
  have z10 : szP (pE s) c ≤ 10 := (v.2.1.2 c hc).2.2.2.1
  have pl := (pof_ex ok hc hj).1
  refine sX8_ofWhole (fun X O => ?_)
  rw [M.1.2.2.2.2.2]
  have M1 : RM (stT s (s.2.2.2.2.2 + 10)) (sL h 82 32 (s.2.2.2.2.2 + 10)) := RM_t M
  have R1 : RC s' (sL h 82 32 (s.2.2.2.2.2 + 10)) := RC_0 v' R
  have P1 : pmS s (sL h 82 32 (s.2.2.2.2.2 + 10)) := P
  generalize sL h 82 32 (s.2.2.2.2.2 + 10) = h1 at M1 R1 P1 ⊢
  have e6 : h1.1 82 6 = I (s.2.1.1 : Int) := M1.1.2.1.1
  have e114 : h1.1 114 (10 * c + j) = I (pof (pE s) c j : Int) := P1.2.2.1 c hc j hj
  have lp : ∀ m d, d + m = s.2.1.1 → GI g l X Q h1 17 [(0, .ref 82), (1, .int (I (c : Int))), (2, .int (I (j : Int))), (3, .int (I (cnB (pE s) (pof (pE s) c j) d : Int))), (4, .int (I (d : Int)))] [] := by
    intro m
    induction m with
    | zero =>
      intro d hd
      have de : d = s.2.1.1 := by omega
      refine bX8_ofWhole_17 O ?_
      rw [e6, de]
      refine br_t ((I_le (by omega) (by omega) (by omega) (by omega)).mpr (by omega)) ?_
      exact wp_ofCoat (s := stT s (s.2.2.2.2.2 + 10)) (vS_t v) v' R1 M1 P1 hc hj (fun h2 R2 M2 P2 => k h2 R2 M2 P2)
    | succ m ih =>
      intro d hd
      have cs : cnB (pE s) (pof (pE s) c j) (d + 1) = if hdb (pE s) (pof (pE s) c j) d then cnB (pE s) (pof (pE s) c j) d + 1 else cnB (pE s) (pof (pE s) c j) d := rfl
      have IH := ih (d + 1) (by omega)
      rw [cs] at IH
      refine bX8_ofWhole_17 O ?_
      rw [e6]
      refine br_f (fun q => absurd ((I_le (by omega) (by omega) (by omega) (by omega)).mp q) (by omega)) ⟨10 * c + j, by rw [I_mul, I_add]; rfl, by omega, ?_⟩
      rw [e114]
      refine wp_hasPainting (s := stT s (s.2.2.2.2.2 + 10)) (vS_t v) M1.1 P1.2.2.1 (show d < s.2.1.1 by omega) pl ?_
      show ((I (if hdb (pE s) (pof (pE s) c j) d then 1 else 0) = 0) → _) ∧ (¬ (I (if hdb (pE s) (pof (pE s) c j) d then 1 else 0) = 0) → _)
      rw [I_add, I_add]
      cases hh : hdb (pE s) (pof (pE s) c j) d with
      | false =>
        rw [hh] at IH
        exact br_t y00 IH
      | true =>
        rw [hh] at IH
        exact br_f n10 IH
  exact lp s.2.1.1 0 (by omega)
end JR
section JR2
variable {g : mg} {l : Launch} {h : AH} {s s' : ST} {t : Int64}
theorem RC_sh (R : RC (stT s t) h) : ∃ p, atSH h 6 p s.2.1 := R.1.2.1
theorem e85T (M : RM (stT s t) h) {c : Nat} (hc : c < s.2.1.1) : h.1 85 c = I ((s.2.1.2 c).2.1 : Int) := e85M (s := stT s t) M.1 hc
theorem asCoat_t {Q : Int32 → AH → Prop} (v : vS s) (R : RC (stT s t) h) (M : RM s' h) (P : pcE (pE s) h) {c j : Nat} (hc : c < s.2.1.1) (hj : j < szP (pE s) c) (k : ∀ h2, RC (stT s (t + 1)) h2 → RM s' h2 → pcE (pE s) h2 → Q (I (coP (pE s) c j : Int) + I 1) h2) : SpI g l mX7_asCoat h [.ref 0, .int (I (c : Int)), .int (I (j : Int))] Q := wp_asCoat (s := stT s t) v R M P hc hj k
theorem asUnder_t {Q : Int32 → AH → Prop} (v : vS s) (R : RC (stT s t) h) (M : RM s' h) (P : pcE (pE s) h) {c j : Nat} (hc : c < s.2.1.1) (hj : j < szP (pE s) c) (k : ∀ h2, RC (stT s (t + 100 + 1)) h2 → RM s' h2 → pcE (pE s) h2 → Q (I (coP (pE s) c j : Int) + I 1 + I (diP (pE s) c j : Int)) h2) : SpI g l mX7_asUnder h [.ref 0, .int (I (c : Int)), .int (I (j : Int))] Q := wp_asUnder (s := stT s t) v R M P hc hj k
theorem asWhole_t {Q : Int32 → AH → Prop} (v : vS s) (R : RC (stT s t) h) (M : RM s' h) (P : pcE (pE s) h) {c j : Nat} (hc : c < s.2.1.1) (hj : j < szP (pE s) c) (k : ∀ h2, RC (stT s (t + 10 + 1)) h2 → RM s' h2 → pcE (pE s) h2 → Q ((I (coP (pE s) c j : Int) + I 1) * I (cnB (pE s) (pof (pE s) c j) s.2.1.1 : Int)) h2) : SpI g l mX7_asWhole h [.ref 0, .int (I (c : Int)), .int (I (j : Int))] Q := wp_asWhole (s := stT s t) v R M P hc hj k
theorem ofCoat_t {Q : Int32 → AH → Prop} (v : vS s) (v' : vS s') (R : RC s' h) (M : RM (stT s t) h) (P : pmS s h) {c j : Nat} (hc : c < s.2.1.1) (hj : j < szP (pE s) c) (k : ∀ h2, RC s' h2 → RM (stT s (t + 1)) h2 → pmS s h2 → Q (I (coP (pE s) c j : Int) + I 1) h2) : SpI g l mX8_ofCoat h [.ref 82, .int (I (c : Int)), .int (I (j : Int))] Q := wp_ofCoat (s := stT s t) v v' R M P hc hj k
theorem ofUnder_t {Q : Int32 → AH → Prop} (v : vS s) (v' : vS s') (R : RC s' h) (M : RM (stT s t) h) (P : pmS s h) {c j : Nat} (hc : c < s.2.1.1) (hj : j < szP (pE s) c) (k : ∀ h2, RC s' h2 → RM (stT s (t + 100 + 1)) h2 → pmS s h2 → Q (I (coP (pE s) c j : Int) + I 1 + I (diP (pE s) c j : Int)) h2) : SpI g l mX8_ofUnder h [.ref 82, .int (I (c : Int)), .int (I (j : Int))] Q := wp_ofUnder (s := stT s t) v v' R M P hc hj k
theorem ofWhole_t {Q : Int32 → AH → Prop} (v : vS s) (v' : vS s') (R : RC s' h) (M : RM (stT s t) h) (P : pmS s h) {c j : Nat} (hc : c < s.2.1.1) (hj : j < szP (pE s) c) (k : ∀ h2, RC s' h2 → RM (stT s (t + 10 + 1)) h2 → pmS s h2 → Q ((I (coP (pE s) c j : Int) + I 1) * I (cnB (pE s) (pof (pE s) c j) s.2.1.1 : Int)) h2) : SpI g l mX8_ofWhole h [.ref 82, .int (I (c : Int)), .int (I (j : Int))] Q := wp_ofWhole (s := stT s t) v v' R M P hc hj k
end JR2
section JR3
variable {g : mg} {l : Launch} {h : AH}
theorem J_rank (hI : Inv h) (x1 x2 x3 : Int32) : JI g l mX7_rank mX8_rank h [.ref 0, .int x1, .int x2, .int x3] [.ref 82, .int x1, .int x2, .int x3] := by
  have hI2 := hI
  obtain ⟨s, v, R, M⟩ := hI
  obtain ⟨z1, a1, a2, rfl⟩ := I_any x1
  obtain ⟨z2, b1, b2, rfl⟩ := I_any x2
  obtain ⟨z3, c1, c2, rfl⟩ := I_any x3
  have ok : okPE (pE s) := v.2.1
  have h4 : s.2.1.1 ≤ 4 := ok.1
  refine sX7_rank (wp_isCoatC v R ⟨b1, b2⟩ ⟨c1, c2⟩ (fun c j e1 e2 hc hj => nb_t n10 ?_) (fun no => nb_f y00 ?_))
  · subst e1
    subst e2
    have z10 : szP (pE s) c ≤ 10 := (ok.2 c hc).2.2.2.1
    have po1 : (s.2.1.2 c).2.1 ≤ 1 := (ok.2 c hc).2.1
    refine wp_settle v R M (fun h1 R1 M1 _ P1 => ?_)
    -- the reference
    have key : ∀ (h1 : AH) (u : Int32) (T : Int64), RC (stT s T) h1 → RM s h1 →
        (z1 = 0 → u = I (coP (pE s) c j : Int) + I 1 ∧ T = s.2.2.2.2.2 + 1) →
        (z1 = 1 → u = (I (coP (pE s) c j : Int) + I 1) * I (cnB (pE s) (pof (pE s) c j) s.2.1.1 : Int) ∧ T = s.2.2.2.2.2 + 10 + 1) →
        (z1 = 2 → u = I (coP (pE s) c j : Int) + I 1 + I (diP (pE s) c j : Int) ∧ T = s.2.2.2.2.2 + 100 + 1) →
        (z1 = 3 → u = (I (coP (pE s) c j : Int) + I 1) * I (cnB (pE s) (pof (pE s) c j) s.2.1.1 : Int) - I (j : Int) ∧ T = s.2.2.2.2.2 + 1000 + 10 + 1) →
        (z1 = 4 → u = I 2 * (I (coP (pE s) c j : Int) + I 1 + I (diP (pE s) c j : Int)) ∧ T = s.2.2.2.2.2 + 10000 + 100 + 1) →
        (z1 = 5 → u = I (coP (pE s) c j : Int) + I 1 + I (if (s.2.1.2 c).2.1 = 1 then 20 else 0) ∧ T = s.2.2.2.2.2 + 100000 + 1) →
        (z1 < 0 ∨ 5 < z1 → u = -1000000 ∧ T = s.2.2.2.2.2) → SpI g l mX8_rank h1 [.ref 82, .int (I z1), .int (I (c : Int)), .int (I (j : Int))] (fun x h2 => x = u ∧ Inv h2) := by
      intro h1 u T R1 M1 u0 u1 u2 u3 u4 u5 u6
      refine sX8_rank (wp_in ⟨a1, a2⟩ ⟨by omega, by omega⟩ ⟨by omega, by omega⟩ (fun q1 q2 => br_f n10 ?_) (fun q => br_t y00 ?_))
      · refine wp_isCoatM v M1 ⟨b1, b2⟩ ⟨c1, c2⟩ (fun _ _ _ _ _ _ => nb_t n10 (wp_make2 v (vS_t v) R1 M1 (fun h2 R2 M2 _ P2 => ?_))) (fun no => absurd (no c j rfl rfl hc hj) id)
        rw [I_eq0 a1 a2, I_eq a1 a2 (by omega) (by omega), I_eq a1 a2 (by omega) (by omega), I_eq a1 a2 (by omega) (by omega), I_eq a1 a2 (by omega) (by omega)]
        have tr : h2.2.1 82 32 = s.2.2.2.2.2 := M2.1.2.2.2.2.2
        rw [tr]
        refine ⟨fun n0 => ⟨fun n1 => ⟨fun n2 => ⟨fun n3 => ⟨fun n4 => ?_, fun y => ?_⟩, fun y => ?_⟩, fun y => ?_⟩, fun y => ?_⟩, fun y => ?_⟩
        · obtain ⟨eu, eT⟩ := u5 (by omega)
          refine ofCoat_t (t := s.2.2.2.2.2 + 100000) v (vS_t v) (RC_0 (vS_t v) R2) (RM_t M2) P2 hc hj (fun h3 R3 M3 P3 => ⟨c, rfl, by omega, ?_⟩)
          have e85 : h3.1 85 c = I ((s.2.1.2 c).2.1 : Int) := e85T M3 hc
          rw [e85, I_eq (by omega) (by omega) (by omega) (by omega)]
          rw [eT] at R3
          refine ⟨fun y => ⟨?_, _, vS_t v, R3, M3⟩, fun y => ⟨?_, _, vS_t v, R3, M3⟩⟩
          · rw [eu, if_neg (by omega)]
          · rw [eu, if_pos (by omega)]
        · obtain ⟨eu, eT⟩ := u4 y
          refine ofUnder_t (t := s.2.2.2.2.2 + 10000) v (vS_t v) (RC_0 (vS_t v) R2) (RM_t M2) P2 hc hj (fun h3 R3 M3 P3 => ?_)
          rw [eT] at R3
          exact ⟨eu.symm, _, vS_t v, R3, M3⟩
        · obtain ⟨eu, eT⟩ := u3 y
          refine ofWhole_t (t := s.2.2.2.2.2 + 1000) v (vS_t v) (RC_0 (vS_t v) R2) (RM_t M2) P2 hc hj (fun h3 R3 M3 P3 => ?_)
          rw [eT] at R3
          exact ⟨eu.symm, _, vS_t v, R3, M3⟩
        · obtain ⟨eu, eT⟩ := u2 y
          refine wp_ofUnder v (vS_t v) R2 M2 P2 hc hj (fun h3 R3 M3 P3 => ?_)
          rw [eT] at R3
          exact ⟨eu.symm, _, vS_t v, R3, M3⟩
        · obtain ⟨eu, eT⟩ := u1 y
          refine wp_ofWhole v (vS_t v) R2 M2 P2 hc hj (fun h3 R3 M3 P3 => ?_)
          rw [eT] at R3
          exact ⟨eu.symm, _, vS_t v, R3, M3⟩
        · obtain ⟨eu, eT⟩ := u0 y
          refine wp_ofCoat v (vS_t v) R2 M2 P2 hc hj (fun h3 R3 M3 P3 => ?_)
          rw [eT] at R3
          exact ⟨eu.symm, _, vS_t v, R3, M3⟩
      · obtain ⟨eu, eT⟩ := u6 q
        subst eT
        exact ⟨eu.symm, s, v, R1, M1⟩
    rw [I_eq a1 a2 (by omega) (by omega), I_eq a1 a2 (by omega) (by omega), I_eq a1 a2 (by omega) (by omega), I_eq a1 a2 (by omega) (by omega), I_eq a1 a2 (by omega) (by omega), I_eq a1 a2 (by omega) (by omega)]
    have tr : h1.2.1 0 11 = s.2.2.2.2.2 := R1.1.2.2.2.2.2
    refine ⟨fun q => ?_, fun q => ?_, fun q => ?_, fun q => ?_, fun q => ?_, fun q => ?_, fun q => ?_⟩
    · exact wp_asCoat v R1 M1 P1 hc hj (fun h2 R2 M2 P2 => key h2 _ _ R2 M2 (fun _ => ⟨rfl, rfl⟩) (fun _ => by omega) (fun _ => by omega) (fun _ => by omega) (fun _ => by omega) (fun _ => by omega) (fun _ => by omega))
    · exact wp_asWhole v R1 M1 P1 hc hj (fun h2 R2 M2 P2 => key h2 _ _ R2 M2 (fun _ => by omega) (fun _ => ⟨rfl, rfl⟩) (fun _ => by omega) (fun _ => by omega) (fun _ => by omega) (fun _ => by omega) (fun _ => by omega))
    · exact wp_asUnder v R1 M1 P1 hc hj (fun h2 R2 M2 P2 => key h2 _ _ R2 M2 (fun _ => by omega) (fun _ => by omega) (fun _ => ⟨rfl, rfl⟩) (fun _ => by omega) (fun _ => by omega) (fun _ => by omega) (fun _ => by omega))
    · refine sX7_asPatch ?_
      rw [tr]
      exact asWhole_t (t := s.2.2.2.2.2 + 1000) v (RC_t R1) (RM_0 M1) P1 hc hj (fun h2 R2 M2 P2 => key h2 _ _ R2 M2 (fun _ => by omega) (fun _ => by omega) (fun _ => by omega) (fun _ => ⟨rfl, rfl⟩) (fun _ => by omega) (fun _ => by omega) (fun _ => by omega))
    · refine sX7_asScraped ?_
      rw [tr]
      exact asUnder_t (t := s.2.2.2.2.2 + 10000) v (RC_t R1) (RM_0 M1) P1 hc hj (fun h2 R2 M2 P2 => key h2 _ _ R2 M2 (fun _ => by omega) (fun _ => by omega) (fun _ => by omega) (fun _ => by omega) (fun _ => ⟨rfl, rfl⟩) (fun _ => by omega) (fun _ => by omega))
    · refine sX7_asVarnish ?_
      rw [tr]
      refine asCoat_t (t := s.2.2.2.2.2 + 100000) v (RC_t R1) (RM_0 M1) P1 hc hj (fun h2 R2 M2 P2 => ?_)
      obtain ⟨p, hp⟩ := RC_sh R2
      have e4 : h2.1 (p c) 4 = I ((s.2.1.2 c).2.1 : Int) := (hp.2.2.2 c hc).2.2.1
      refine ⟨c, rfl, by omega, p c, hp.2.1 c (by omega), lay_pm (Or.inl rfl) hp.1 (by omega), ?_⟩
      rw [e4, I_eq0 (by omega) (by omega)]
      refine ⟨fun y => ?_, fun y => ?_⟩
      · exact key h2 _ _ R2 M2 (fun _ => by omega) (fun _ => by omega) (fun _ => by omega) (fun _ => by omega) (fun _ => by omega) (fun _ => ⟨by rw [if_neg (by omega)], rfl⟩) (fun _ => by omega)
      · exact key h2 _ _ R2 M2 (fun _ => by omega) (fun _ => by omega) (fun _ => by omega) (fun _ => by omega) (fun _ => by omega) (fun _ => ⟨by rw [if_pos (by omega)], rfl⟩) (fun _ => by omega)
    · have q0 := q 0 (by omega)
      have q1 := q 1 (by omega)
      have q2 := q 2 (by omega)
      have q3 := q 3 (by omega)
      have q4 := q 4 (by omega)
      have q5 := q 5 (by omega)
      exact key h1 _ s.2.2.2.2.2 R1 M1 (fun e => absurd (by rw [e]; rfl) q0) (fun e => absurd (by rw [e]; rfl) q1) (fun e => absurd (by rw [e]; rfl) q2) (fun e => absurd (by rw [e]; rfl) q3) (fun e => absurd (by rw [e]; rfl) q4) (fun e => absurd (by rw [e]; rfl) q5) (fun _ => ⟨rfl, rfl⟩)
  · refine sX8_rank (wp_in ⟨a1, a2⟩ ⟨by omega, by omega⟩ ⟨by omega, by omega⟩ (fun q1 q2 => br_f n10 ?_) (fun q => br_t y00 ⟨rfl, hI2⟩))
    exact wp_isCoatM v M ⟨b1, b2⟩ ⟨c1, c2⟩ (fun c k e1 e2 hc hk => absurd (no c k e1 e2 hc hk) id) (fun _ => nb_f y00 ⟨rfl, hI2⟩)
end JR3
