section JP
variable {g : mg} {l : Launch} {h : AH} {s : ST}
theorem wp_isPt {Q : Int32 → AH → Prop} (v : vS s) (P : pcE (pE s) h) {z : Int} (hz : inr z) (k1 : ∀ n : Nat, z = n → n < np (pE s) → Q (I 1) h) (k0 : z < 0 ∨ (np (pE s) : Int) ≤ z → Q (I 0) h) : SpI g l mX7_isPainting h [.ref 0, .int (I z)] Q := by
  have n40 : np (pE s) ≤ 40 := np_le v.2.1
  obtain ⟨z1, z2⟩ := hz
  refine sX7_isPainting ?_
  rw [P.1, I_lt0 z1 z2, I_le (by omega) (by omega) z1 z2]
  exact ⟨fun q => k0 (Or.inl q), fun q => ⟨fun q2 => k0 (Or.inr q2), fun q2 => k1 z.toNat (by omega) (by omega)⟩⟩
theorem J_painting (hI : Inv h) (x1 : Int32) : JI g l mX7_painting mX8_painting h [.ref 0, .int x1] [.ref 82, .int x1] := by
  obtain ⟨s, v, R, M⟩ := hI
  obtain ⟨z, a1, a2, rfl⟩ := I_any x1
  have n40 : np (pE s) ≤ 40 := np_le v.2.1
  have key : ∀ (h1 : AH) (u : Int32), RC s h1 → RM s h1 → (z = -1 → u = I (np (pE s) : Int)) → (∀ n : Nat, z = n → n < np (pE s) → u = I (pcl (pE s) n : Int)) → (z < -1 ∨ (np (pE s) : Int) ≤ z → u = I (-1)) → SpI g l mX8_painting h1 [.ref 82, .int (I z)] (fun x h2 => x = u ∧ Inv h2) := by
    intro h1 u R1 M1 u0 u1 u2
    refine sX8_painting (wp_make v R1 M1 (fun h2 R2 M2 _ P2 => ?_))
    have e38 : h2.1 82 38 = I (np (pE s) : Int) := P2.1
    rw [e38, I_sub]
    refine wp_in ⟨a1, a2⟩ ⟨by omega, by omega⟩ ⟨by omega, by omega⟩ (fun a b => nb_t n10 ?_) (fun a => nb_f y00 ⟨(u2 (by omega)).symm, s, v, R2, M2⟩)
    rw [I_ge0 a1 a2]
    refine ⟨fun c => ?_, fun c => ⟨by rw [e38]; exact (u0 (by omega)).symm, s, v, R2, M2⟩⟩
    obtain ⟨n, rfl⟩ : ∃ n : Nat, z = n := ⟨z.toNat, by omega⟩
    exact ⟨n, rfl, by omega, ((P2.2.1 n (show n < np (pE s) by omega)).1).trans (u1 n rfl (by omega)).symm, s, v, R2, M2⟩
  refine sX7_painting (wp_settle v R M (fun h1 R1 M1 _ P1 => ?_))
  rw [I_eq a1 a2 (by omega) (by omega)]
  refine ⟨fun q => wp_isPt v P1 ⟨a1, a2⟩ (fun n e hn => br_f n10 ?_) (fun q2 => br_t y00 (key h1 _ R1 M1 (fun e => absurd e q) (fun n e hn => by omega) (fun _ => rfl))), fun q => ?_⟩
  · subst e
    refine ⟨n, rfl, by omega, key h1 _ R1 M1 (fun e => absurd e q) (fun n' e hn' => ?_) (fun e => by omega)⟩
    obtain rfl : n = n' := by omega
    exact (P1.2.1 n hn).1
  · rw [P1.1]
    exact key h1 _ R1 M1 (fun _ => rfl) (fun n e hn => by omega) (fun e => by omega)
theorem J_had (hI : Inv h) (x1 : Int32) : JI g l mX7_had mX8_had h [.ref 0, .int x1] [.ref 82, .int x1] := by
  obtain ⟨s, v, R, M⟩ := hI
  obtain ⟨z, a1, a2, rfl⟩ := I_any x1
  have ok : okPE (pE s) := v.2.1
  have h4 : s.2.1.1 ≤ 4 := ok.1
  have n40 := np_le ok
  have key : ∀ (h1 : AH) (u : Int32), RC s h1 → RM s h1 → (∀ n : Nat, z = n → n < np (pE s) → u = I (hbt (pE s) n s.2.1.1 : Int)) → (z < 0 ∨ (np (pE s) : Int) ≤ z → u = I (-1)) → SpI g l mX8_had h1 [.ref 82, .int (I z)] (fun x h2 => x = u ∧ Inv h2) := by
    intro h1 u R1 M1 u1 u2
    refine sX8_had (fun X O => wp_make v R1 M1 (fun h2 R2 M2 _ P2 => ?_))
    have e38 : h2.1 82 38 = I (np (pE s) : Int) := P2.1
    rw [e38, I_sub]
    refine wp_in ⟨a1, a2⟩ ⟨by omega, by omega⟩ ⟨by omega, by omega⟩ (fun a b => nb_t n10 ?_) (fun a => nb_f y00 ⟨(u2 (by omega)).symm, s, v, R2, M2⟩)
    obtain ⟨n, rfl⟩ : ∃ n : Nat, z = n := ⟨z.toNat, by omega⟩
    have hn : n < np (pE s) := by omega
    have e6 : h2.1 82 6 = I (s.2.1.1 : Int) := M2.1.2.1.1
    have lp : ∀ m c, c + m = s.2.1.1 → GI g l X (fun x h2 => x = u ∧ Inv h2) h2 24 [(0, .ref 82), (1, .int (I (n : Int))), (2, .int (I (hbt (pE s) n c : Int))), (3, .int (I (c : Int)))] [] := by
      intro m
      induction m with
      | zero =>
        intro c hc
        have ce : c = s.2.1.1 := by omega
        refine bX8_had_24 O ?_
        rw [e6, ce]
        exact br_t ((I_le (by omega) (by omega) (by omega) (by omega)).mpr (by omega)) ⟨(u1 n rfl hn).symm, s, v, R2, M2⟩
      | succ m ih =>
        intro c hc
        have hb := hbt_lt (e := pE s) (k := n) c
        have eh : hbt (pE s) n (c + 1) = hbt (pE s) n c + (if hdb (pE s) n c then 2 ^ c else 0) := rfl
        have IH : ∀ b, hbt (pE s) n (c + 1) = b → GI g l X (fun x h2 => x = u ∧ Inv h2) h2 24 [(0, .ref 82), (1, .int (I (n : Int))), (2, .int (I (b : Int))), (3, .int (I (c : Int) + I 1))] [] := fun b eb => by
          rw [I_add, ← eb]
          exact ih (c + 1) (by omega)
        refine bX8_had_24 O ?_
        rw [e6]
        refine br_f (fun q => absurd ((I_le (by omega) (by omega) (by omega) (by omega)).mp q) (by omega)) (wp_hasPainting v M2.1 P2.2.2.1 (by omega) hn ?_)
        cases hh : hdb (pE s) n c with
        | false => exact br_t y00 (IH _ (by rw [eh, hh]; rfl))
        | true =>
          have eo : hbt (pE s) n c ||| 2 ^ c = hbt (pE s) n c + 2 ^ c := by
            have := Nat.two_pow_add_eq_or_of_lt hb 1
            rw [Nat.mul_one] at this
            rw [Nat.or_comm, ← this, Nat.add_comm]
          refine br_f n10 ?_
          rw [I_shl (by omega), I_or, eo]
          exact IH _ (by rw [eh, hh]; rfl)
    exact lp s.2.1.1 0 (by omega)
  refine sX7_had (wp_settle v R M (fun h1 R1 M1 _ P1 => wp_isPt v P1 ⟨a1, a2⟩ (fun n e hn => br_f n10 ?_) (fun q2 => br_t y00 (key h1 _ R1 M1 (fun n e hn => by omega) (fun _ => rfl)))))
  subst e
  refine ⟨n, rfl, by omega, key h1 _ R1 M1 (fun n' e hn' => ?_) (fun e => by omega)⟩
  obtain rfl : n = n' := by omega
  exact (P1.2.1 n hn).2.1
theorem J_coat (hI : Inv h) (x1 x2 x3 : Int32) : JI g l mX7_coat mX8_coat h [.ref 0, .int x1, .int x2, .int x3] [.ref 82, .int x1, .int x2, .int x3] := by
  have hI2 := hI
  obtain ⟨s, v, R, M⟩ := hI
  obtain ⟨z1, a1, a2, rfl⟩ := I_any x1
  obtain ⟨z2, b1, b2, rfl⟩ := I_any x2
  obtain ⟨z3, c1, c2, rfl⟩ := I_any x3
  have ok : okPE (pE s) := v.2.1
  have h4 : s.2.1.1 ≤ 4 := ok.1
  refine sX7_coat (wp_isCoatC v R ⟨a1, a2⟩ ⟨b1, b2⟩ (fun c k e1 e2 hc hk => nb_t n10 ?_) (fun no => nb_f y00 ?_))
  · subst e1
    subst e2
    obtain ⟨p, hp⟩ := R.1.2.1
    have A := hp.2.2.2 c hc
    have z10 : szP (pE s) c ≤ 10 := (ok.2 c hc).2.2.2.1
    have key : ∀ (h1 : AH) (u : Int32), RC s h1 → RM s h1 → (z3 = 0 → u = I (coP (pE s) c k : Int)) → (z3 = 1 → u = I (diP (pE s) c k : Int)) → (z3 = 2 → u = I (pof (pE s) c k : Int)) → (z3 < 0 ∨ 2 < z3 → u = I (-1)) → SpI g l mX8_coat h1 [.ref 82, .int (I (c : Int)), .int (I (k : Int)), .int (I z3)] (fun x h2 => x = u ∧ Inv h2) := by
      intro h1 u R1 M1 u0 u1 u2 u3
      refine sX8_coat (wp_isCoatM v M1 ⟨a1, a2⟩ ⟨b1, b2⟩ (fun _ _ _ _ _ _ => br_f n10 ?_) (fun no => absurd (no c k rfl rfl hc hk) id))
      refine wp_in ⟨c1, c2⟩ ⟨by omega, by omega⟩ ⟨by omega, by omega⟩ (fun _ _ => nb_t n10 ?_) (fun q => nb_f y00 ⟨(u3 q).symm, s, v, R1, M1⟩)
      rw [I_eq c1 c2 (by omega) (by omega), I_eq0 c1 c2]
      refine ⟨fun q => ⟨fun q2 => ⟨10 * c + k, by rw [I_mul, I_add]; rfl, by omega, ?_, s, v, R1, M1⟩, fun q2 => ⟨10 * c + k, by rw [I_mul, I_add]; rfl, by omega, ?_, s, v, R1, M1⟩⟩, fun q => wp_make v R1 M1 (fun h2 R2 M2 _ P2 => ⟨10 * c + k, by rw [I_mul, I_add]; rfl, by omega, (P2.2.2.1 c hc k hk).trans (u2 q).symm, s, v, R2, M2⟩)⟩
      · rw [e88M M1.1 hc hk]; exact (u1 (by omega)).symm
      · rw [e87M M1.1 hc hk]; exact (u0 q2).symm
    rw [I_eq c1 c2 (by omega) (by omega), I_eq c1 c2 (by omega) (by omega), I_eq c1 c2 (by omega) (by omega)]
    refine ⟨fun q => ⟨c, rfl, by omega, p c, hp.2.1 c (by omega), lay_pm (Or.inl rfl) hp.1 (by omega), k, rfl, by omega, key h _ R M (fun _ => A.2.2.2.1 k hk) (fun _ => by omega) (fun _ => by omega) (fun _ => by omega)⟩, fun q => ⟨c, rfl, by omega, p c, hp.2.1 c (by omega), lay_pm (Or.inl rfl) hp.1 (by omega), k, rfl, by omega, key h _ R M (fun _ => by omega) (fun _ => A.2.2.2.2 k hk) (fun _ => by omega) (fun _ => by omega)⟩, fun q => wp_settle v R M (fun h1 R1 M1 _ P1 => sX7_paintingOf ⟨c * 10 + k, by rw [I_mul, I_add]; rfl, by omega, key h1 _ R1 M1 (fun _ => by omega) (fun _ => by omega) (fun _ => P1.2.2 c hc k hk) (fun _ => by omega)⟩), fun q => ?_⟩
    have q0 := q 0 (by omega)
    have q1 := q 1 (by omega)
    have q2 := q 2 (by omega)
    exact key h _ R M (fun e => absurd (by rw [e]; rfl) q0) (fun e => absurd (by rw [e]; rfl) q1) (fun e => absurd (by rw [e]; rfl) q2) (fun _ => rfl)
  · exact sX8_coat (wp_isCoatM v M ⟨a1, a2⟩ ⟨b1, b2⟩ (fun c k e1 e2 hc hk => absurd (no c k e1 e2 hc hk) id) (fun _ => br_t y00 ⟨rfl, hI2⟩))
end JP
