/-! bits -/
theorem I_bv (n : Nat) : (I (n : Int)).toBitVec = BitVec.ofNat 32 n := by rw [I_nat]; rfl
theorem I_or (a b : Nat) : I (a : Int) ||| I (b : Int) = I ((a ||| b : Nat) : Int) := by
  apply Int32.toBitVec_inj.mp
  show (I (a : Int)).toBitVec ||| (I (b : Int)).toBitVec = _
  rw [I_bv, I_bv, I_bv, BitVec.ofNat_or]
theorem I_and (a b : Nat) : I (a : Int) &&& I (b : Int) = I ((a &&& b : Nat) : Int) := by
  apply Int32.toBitVec_inj.mp
  show (I (a : Int)).toBitVec &&& (I (b : Int)).toBitVec = _
  rw [I_bv, I_bv, I_bv, BitVec.ofNat_and]
theorem sh_l : ∀ n, n < 32 → ((nI n &&& 31).toBitVec.smod 32).toNat = n := by decide
theorem I_shl {l : Nat} (h : l < 20) : I 1 <<< (I (l : Int) &&& 31) = I ((2 ^ l : Nat) : Int) := by
  rw [I_nat, I_nat, show I 1 = nI 1 from I_nat 1, pk_shlN _ l (sh_l l (by omega)) (by rw [Nat.one_mul]; exact Nat.pow_lt_pow_right (by omega) (by omega)), Nat.one_mul]
theorem I_bit {a m : Nat} (ha : a < 2 ^ 31) (hm : m < 32) : ((I (a : Int) >>> (I (m : Int) &&& 31)) &&& I 1) = I (if a.testBit m then 1 else 0) := by
  rw [I_nat, I_nat, pk_shrN ha _ m (sh_l m hm), show I 1 = nI 1 from I_nat 1, pk_andN (Nat.lt_of_le_of_lt (Nat.div_le_self _ _) (by omega)) 1 (by decide)]
  rw [Nat.testBit_eq_decide_div_mod_eq]
  by_cases h : a / 2 ^ m % 2 = 1
  · rw [if_pos (by simpa using h), show (2 : Nat) ^ 1 = 2 from rfl, h]; exact (I_nat 1).symm
  · rw [if_neg (by simpa using h), show (2 : Nat) ^ 1 = 2 from rfl, show a / 2 ^ m % 2 = 0 by omega]; exact (I_nat 0).symm
/-- the colours that are the same as l -/
def smk (e : PE) (l : Nat) : Nat := 2 ^ l ||| (if e.2.2 = 0 then e.2.1 l else 0)
theorem smk_bit (e : PE) (l m : Nat) : (smk e l).testBit m = smb e l m := by
  unfold smk smb
  rw [Nat.testBit_or, Nat.testBit_two_pow]
  by_cases h : e.2.2 = 0
  · rw [if_pos h]
    by_cases h2 : l = m <;> simp [h, h2]
  · rw [if_neg h]
    by_cases h2 : l = m <;> simp [h, h2]
theorem smk_lt {e : PE} {l : Nat} (hl : l < 12) (ha : e.2.1 l < 4096) : smk e l < 4096 := by
  unfold smk
  have h1 : 2 ^ l < 2 ^ 12 := Nat.pow_lt_pow_right (by omega) hl
  by_cases h : e.2.2 = 0
  · rw [if_pos h]; exact Nat.or_lt_two_pow (n := 12) h1 ha
  · rw [if_neg h]; exact Nat.or_lt_two_pow (n := 12) h1 (by decide)
section FS
variable {g : mg} {l : Launch}
/-- the class's row of what is the same -/
theorem wp_findSame {h : AH} {s : ST} {Q : AH → Prop} (v : vS s) (R : RC s h) (k : ∀ h2, Chg (fun a _ => a = 22) nR h h2 → (∀ l, l < 12 → h2.1 22 l = I (smk (pE s) l : Int)) → Q h2) : SpV g l mX7_findSame h [.ref 0] Q := by
  refine sX7_findSame (fun X O => ?_)
  obtain ⟨b, b', hb⟩ := R.1.2.2.1
  have tu := R.1.2.2.2.1 2 (by omega)
  have t1 := v.2.2.2.1.2.2.1
  have lp : ∀ (m c : Nat) (h2 : AH), c + m = 12 → Chg (fun a _ => a = 22) nR h h2 → (∀ l, l < c → h2.1 22 l = I (smk (pE s) l : Int)) → GV g l X Q h2 2 [(0, .ref 0), (1, .int (I (c : Int)))] [] := by
    intro m
    induction m with
    | zero =>
      intro c h2 hc e e1
      exact bX7_findSame_2 O (br_t ((I_le (by omega) (by omega) (by omega) (by omega)).mpr (by omega)) (k h2 e (fun l hl => e1 l (by omega))))
    | succ m ih =>
      intro c h2 hc e e1
      refine bX7_findSame_2 O (br_f (fun e => absurd ((I_le (by omega) (by omega) (by omega) (by omega)).mp e) (by omega)) ?_)
      have u2 : h2.1 21 2 = I (s.2.2.2.1 2 : Int) := by rw [e.1 _ _ (by omega)]; exact tu
      rw [u2, I_shl (by omega), I_add]
      simp (disch := omega) only [I_eq0]
      have nx : ∀ w : Int32, w = I (smk (pE s) c : Int) → GV g l X Q (sI h2 22 c w) 2 [(0, .ref 0), (1, .int (I ((c : Int) + 1)))] [] := fun w hw => by
        refine ih (c + 1) _ (by omega) (e.i rfl) (fun l hl => ?_)
        rw [sI_1]
        by_cases hlc : l = c
        · subst hlc; rw [up_s, hw]
        · rw [up_n hlc]; exact e1 l (by omega)
      refine ⟨fun q => ⟨c, rfl, by omega, nx _ ?_⟩, fun q => ⟨b, by rw [e.2.1 _ _ id]; exact hb.2.1, lay_bk hb.1, c, rfl, by omega, c, rfl, by omega, nx _ ?_⟩⟩
      · rw [show I 0 = I ((0 : Nat) : Int) from rfl, I_or]
        unfold smk
        rw [if_neg (by show ¬ s.2.2.2.1 2 = 0; omega)]
      · rw [e.1 _ _ (by have := hb.1; omega), (hb.2.2.2.1 c (by omega)).2.2, I_or]
        unfold smk
        rw [if_pos (by show s.2.2.2.1 2 = 0; omega)]
        rfl
  exact lp 12 0 h (by omega) Chg.rf (fun l hl => absurd hl (by omega))
/-- whether two colours are the same, as the reference asks -/
theorem wp_misSame {h : AH} {s : ST} {Q : Int32 → AH → Prop} {a b : Nat} (v : vS s) (M : RM s h) (ha : a < 12) (hb : b < 12) (k : Q (I (if smb (pE s) a b then 1 else 0)) h) : SpI g l mX8_isSame h [.ref 82, .int (I (a : Int)), .int (I (b : Int))] Q := by
  refine sX8_isSame ?_
  have tu := M.1.2.2.2.1 2 (by omega)
  have t1 := v.2.2.2.1.2.2.1
  rw [tu]
  simp (disch := omega) only [I_eq, I_eq0]
  have al := (v.2.2.1.1 a ha).2.2
  refine ⟨fun q => ?_, fun q => ⟨fun q2 => ?_, fun q2 => ⟨a, rfl, ha, ?_⟩⟩⟩
  · have : smb (pE s) a b = true := by unfold smb; simp; left; omega
    rw [this] at k; exact k
  · have : smb (pE s) a b = false := by
      unfold smb
      have h1 : ¬ a = b := by omega
      have h2 : ¬ (pE s).2.2 = 0 := by show ¬ s.2.2.2.1 2 = 0; omega
      simp [h1, h2]
    rw [this] at k; exact k
  · rw [(M.1.2.2.1.1 a ha).2.2, I_bit (by omega) (by omega)]
    have : smb (pE s) a b = (s.2.2.1.2.2.1 a).testBit b := by
      unfold smb
      have h1 : ¬ a = b := by omega
      have h2 : (pE s).2.2 = 0 := by show s.2.2.2.1 2 = 0; omega
      have h3 : (a == b) = false := by simpa using h1
      have h4 : ((pE s).2.2 == 0) = true := by simpa using h2
      rw [h3, h4, Bool.false_or, Bool.true_and]
      rfl
    rw [← this]
    cases hq : smb (pE s) a b with
    | true => rw [hq] at k; exact nb_f rfl k
    | false => rw [hq] at k; exact nb_t (by decide) k
end FS
