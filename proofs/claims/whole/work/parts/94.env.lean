/-! what was there before: texts, tables, classes -/
abbrev PRE : Cond := Jvm.Cond.and given_1 narrow_1
def tmS (i : Nat) : Term := Term.string "CoatRows$Text" ([65, 71, 73, 75, 77].getD i 0)
theorem pm_ex : ∀ i, i < 5 → Cond.exactly (tmS i) "java/lang/String" ∈ flatC PRE := by decide +kernel
theorem pm_co : ∀ i, i < 5 → Cond.eq (.field (tmS i) "java/lang/String" "coder" "B") (.int 0) ∈ flatC PRE := by decide +kernel
theorem pm_ar : ∀ i, i < 5 → Cond.arrayOf (.field (tmS i) "java/lang/String" "value" "[B") .byte ∈ flatC PRE := by decide +kernel
theorem pm_le : ∀ i, i < 5 → Cond.eq (.length (.field (tmS i) "java/lang/String" "value" "[B")) (.int (Int32.ofNat (txL.getD i 0))) ∈ flatC PRE := by decide +kernel
theorem pm_el : ∀ i, i < 5 → ∀ j, j < txL.getD i 0 → Cond.eq (.elem (.field (tmS i) "java/lang/String" "value" "[B") (.int (Int32.ofNat j))) (.int ((txB.getD i []).getD j 0)) ∈ flatC PRE := by decide +kernel
theorem pm_ne : ∀ i, i < 5 → ∀ j, j < 5 → i ≠ j → Cond.not (Cond.eq (tmS i) (tmS j)) ∈ flatC PRE ∨ Cond.not (Cond.eq (tmS j) (tmS i)) ∈ flatC PRE := by decide +kernel
theorem pm_lo : Cond.arrayOf (.static "CoatRows" "TUNE_LOW" "[I") .int ∈ flatC PRE ∧ Cond.eq (.length (.static "CoatRows" "TUNE_LOW" "[I")) (.int (Int32.ofNat 5)) ∈ flatC PRE := by decide +kernel
theorem pm_loe : ∀ j, j < 5 → Cond.eq (.elem (.static "CoatRows" "TUNE_LOW" "[I") (.int (Int32.ofNat j))) (.int (tuLo.getD j 0)) ∈ flatC PRE := by decide +kernel
theorem pm_hi : Cond.arrayOf (.static "CoatRows" "TUNE_HIGH" "[I") .int ∈ flatC PRE ∧ Cond.eq (.length (.static "CoatRows" "TUNE_HIGH" "[I")) (.int (Int32.ofNat 5)) ∈ flatC PRE := by decide +kernel
theorem pm_hie : ∀ j, j < 5 → Cond.eq (.elem (.static "CoatRows" "TUNE_HIGH" "[I") (.int (Int32.ofNat j))) (.int (tuHi.getD j 0)) ∈ flatC PRE := by decide +kernel
theorem pm_cs : Cond.eq (.static "java/lang/String" "COMPACT_STRINGS" "Z") (.int 1) ∈ flatC PRE ∧ Cond.isRef (.static "jdk/internal/util/Preconditions" "SIOOBE_FORMATTER" "Ljava/util/function/BiFunction;") ∈ flatC PRE := by decide +kernel
theorem tw_s : lw_tbl[436]? = some (.stringRef RX5 65 "room") ∧ lw_tbl[489]? = some (.stringRef RX5 71 "pores") ∧ lw_tbl[490]? = some (.stringRef RX5 73 "stuff") ∧ lw_tbl[491]? = some (.stringRef RX5 75 "alike") ∧ lw_tbl[492]? = some (.stringRef RX5 77 "bill") := by decide +kernel
theorem tw_l : lw_tbl[636]? = some (.laysStatic "CoatRows" "TUNE_LOW" "[I") ∧ lw_tbl[638]? = some (.laysStatic "CoatRows" "TUNE_HIGH" "[I") ∧ lw_tbl[450]? = some (.laysStatic "java/lang/String" "COMPACT_STRINGS" "Z") ∧ lw_tbl[466]? = some (.laysStatic "jdk/internal/util/Preconditions" "SIOOBE_FORMATTER" "Ljava/util/function/BiFunction;") := by decide +kernel
theorem tw_n : lw_tbl[100]? = some (.methodLinkNest RX7 11 yX5_init RX7) ∧ lw_tbl[143]? = some (.methodLinkNest RX4 17 yX1_init RX7) ∧ lw_tbl[193]? = some (.methodLinkNest RX7 36 yX2_init RX7) ∧ lw_tbl[222]? = some (.methodLinkNest RX7 43 yX3_init RX7) ∧ lw_tbl[278]? = some (.methodLinkNest RX7 50 yX6_init RX7) ∧ lw_tbl[141]? = some (.arrayOver (.object RX1)) ∧ lw_tbl[190]? = some (.arrayOver (.object RX4)) := by decide +kernel
theorem nest_of {s : State} {A : Array Value} (hts : ∀ w ∈ lw_tbl, w.before A s = true) : NestW s := by
  obtain ⟨n1, n2, n3, n4, n5, n6, n7⟩ := tw_n
  exact ⟨va_Nw.of rfl (hts _ (List.mem_of_getElem? n1)), va_Nw.of rfl (hts _ (List.mem_of_getElem? n2)), va_Nw.of rfl (hts _ (List.mem_of_getElem? n3)), va_Nw.of rfl (hts _ (List.mem_of_getElem? n4)), va_Nw.of rfl (hts _ (List.mem_of_getElem? n5)), va_AO.of (hts _ (List.mem_of_getElem? n6)), va_AO.of (hts _ (List.mem_of_getElem? n7))⟩
/-- where abstract cells lie -/
def rAd (sz b t1 t2 tF : Nat) (aK aV : Nat → Nat) (a : Nat) : Nat := if a < 1000 then sz + a else if a = 1000 then b else if a = 1001 then t1 else if a = 1002 then t2 else if a < 1020 then aK (a - 1010) else if a < 1030 then aV (a - 1020) else if a < 2000 then tF else sz + 118 + (a - 2000)
theorem rAd_K {sz b t1 t2 tF : Nat} {aK aV : Nat → Nat} {i : Nat} (hi : i < 5) : rAd sz b t1 t2 tF aK aV (1010 + i) = aK i := by
  unfold rAd
  rw [if_neg (by omega), if_neg (by omega), if_neg (by omega), if_neg (by omega), if_pos (by omega), show 1010 + i - 1010 = i by omega]
theorem rAd_V {sz b t1 t2 tF : Nat} {aK aV : Nat → Nat} {i : Nat} (hi : i < 5) : rAd sz b t1 t2 tF aK aV (1020 + i) = aV i := by
  unfold rAd
  rw [if_neg (by omega), if_neg (by omega), if_neg (by omega), if_neg (by omega), if_neg (by omega), if_pos (by omega), show 1020 + i - 1020 = i by omega]
set_option maxHeartbeats 4000000 in
theorem env_ex {s : State} {b : Nat} (hts : ∀ w ∈ lw_tbl, w.before #[Value.ref b] s = true) (hgv : PRE.before #[Value.ref b] s = true) : ∃ (r : Nat → Nat) (D : va_G) (cA : Nat → ClassId), Env0 (mG0 (s, r, D, cA)) ∧ r 1000 = b := by
  have hs := flat_of_before _ hgv
  have htb : ∀ w ∈ Tb, w.before #[Value.ref b] s = true := fun w hw => hts w (List.mem_filter.mp hw).1
  have hA : ∀ a : Nat, a < s.heap.size → ¬ (fun q : Nat => s.heap.size ≤ q) a := fun a ha => Nat.not_le.mpr ha
  obtain ⟨w1, w2, w3, w4, w5⟩ := tw_s
  obtain ⟨l1, l2, l3, l4⟩ := tw_l
  obtain ⟨-, -, -, -, -, n6, n7⟩ := tw_n
  -- texts
  obtain ⟨aK, aV, hSt, hEv⟩ := vk_Sof (args := #[Value.ref b]) (s := s) (N := 5) (tm := tmS) (len := txL) (byt := txB) (A := fun q : Nat => s.heap.size ≤ q) (fun i hi => by have := tx_len hi; omega) (fun i hi => hs _ (pm_ex i hi)) (fun i hi => hs _ (pm_co i hi)) (fun i hi => hs _ (pm_ar i hi)) (fun i hi => hs _ (pm_le i hi)) (fun i hi j hj => hs _ (pm_el i hi j hj)) (fun i j hi hj hij => (pm_ne i hi j hj hij).elim (fun q => Or.inl (hs _ q)) (fun q => Or.inr (hs _ q))) hA
  -- tables
  obtain ⟨t1, e1, T1⟩ := va_Tof (args := #[Value.ref b]) (s := s) (N := 5) (f := fun j => .int (tuLo.getD j 0)) (A := fun q : Nat => s.heap.size ≤ q) (by omega) (hs _ pm_lo.1) (va_eqt (hs _ pm_lo.2)) (fun j hj => va_eqt (hs _ (pm_loe j hj))) hA
  obtain ⟨t2, e2, T2⟩ := va_Tof (args := #[Value.ref b]) (s := s) (N := 5) (f := fun j => .int (tuHi.getD j 0)) (A := fun q : Nat => s.heap.size ≤ q) (by omega) (hs _ pm_hi.1) (va_eqt (hs _ pm_hi.2)) (fun j hj => va_eqt (hs _ (pm_hie j hj))) hA
  have Z1 := va_Zof (A := fun q : Nat => s.heap.size ≤ q) (hts _ (List.mem_of_getElem? l1)) (htb _ in_X7) e1 hA
  have Z2 := va_Zof (A := fun q : Nat => s.heap.size ≤ q) (hts _ (List.mem_of_getElem? l2)) (htb _ in_X7) e2 hA
  have Z3 := va_Zof (A := fun q : Nat => s.heap.size ≤ q) (hts _ (List.mem_of_getElem? l3)) (htb _ in_J0) (va_eqi (hs _ pm_cs.1)) hA
  have Z4 := va_Zqof (A := fun q : Nat => s.heap.size ≤ q) (hts _ (List.mem_of_getElem? l4)) (htb _ in_J3) (hs _ pm_cs.2) hA
  -- classes
  obtain ⟨c0, j0, K0⟩ := u_known (C := RX0) (T := TX0) (N := 7) htb clw0 (htb _ nw_X0)
  obtain ⟨c1, j1, K1⟩ := u_known (C := RX1) (T := TX1) (N := 5) htb clw1 (htb _ nw_X1)
  obtain ⟨c2, j2, K2⟩ := u_known (C := RX2) (T := TX2) (N := 7) htb clw2 (htb _ nw_X2)
  obtain ⟨c3, j3, K3⟩ := u_known (C := RX3) (T := TX3) (N := 14) htb clw3 (htb _ nw_X3)
  obtain ⟨c4, j4, K4⟩ := u_known (C := RX4) (T := TX4) (N := 3) htb clw4 (htb _ nw_X4)
  obtain ⟨c5, j5, K5⟩ := u_known (C := RX5) (T := TX5) (N := 8) htb clw5 (htb _ nw_X5)
  obtain ⟨c6, j6, K6⟩ := u_known (C := RX6) (T := TX6) (N := 6) htb clw6 (htb _ nw_X6)
  obtain ⟨c7, j7, K7⟩ := u_known (C := RX7) (T := TX7) (N := 12) htb clw7 (htb _ nw_X7)
  obtain ⟨c8, j8, K8⟩ := u_known (C := RX8) (T := TX8) (N := 51) htb clw8 (htb _ nw_X8)
  obtain ⟨D, hKc⟩ : ∃ D : va_G, ∀ (k : Nat) (q : vw_C), vwCl[k]? = some q → u_Kn s q.1 q.2.1 q.2.2 (D.1 k) (D.2 k) := by
    refine ⟨(fun k => match k with | 0 => c0 | 1 => c1 | 2 => c2 | 3 => c3 | 4 => c4 | 5 => c5 | 6 => c6 | 7 => c7 | _ => c8, fun k => match k with | 0 => j0 | 1 => j1 | 2 => j2 | 3 => j3 | 4 => j4 | 5 => j5 | 6 => j6 | 7 => j7 | _ => j8), ?_⟩
    intro k q hq
    match k, hq with
    | 0, hq => cases hq; exact K0
    | 1, hq => cases hq; exact K1
    | 2, hq => cases hq; exact K2
    | 3, hq => cases hq; exact K3
    | 4, hq => cases hq; exact K4
    | 5, hq => cases hq; exact K5
    | 6, hq => cases hq; exact K6
    | 7, hq => cases hq; exact K7
    | 8, hq => cases hq; exact K8
    | k + 9, hq => cases hq
  -- array classes
  obtain ⟨a0, k0, m0, f0, g0, h0⟩ := Cond.arrayClass_spec (htb _ ac_int)
  obtain ⟨a1, k1, m1, f1, g1, h1⟩ := Cond.arrayClass_spec (htb _ ac_byte)
  obtain ⟨a2, k2, m2, f2, g2, h2⟩ := Cond.arrayClass_spec (htb _ ac_long)
  obtain ⟨m3, a3, k3, f3, -, g3, h3, i3⟩ := Cond.arrayOver_spec (hts _ (List.mem_of_getElem? n6))
  obtain ⟨m4, a4, k4, f4, -, g4, h4, i4⟩ := Cond.arrayOver_spec (hts _ (List.mem_of_getElem? n7))
  obtain ⟨tF, hF⟩ : ∃ tF : Nat, va_Z "jdk/internal/util/Preconditions" "SIOOBE_FORMATTER" "Ljava/util/function/BiFunction;" .null (fun q : Nat => s.heap.size ≤ q) s s.heap ∨ va_Z "jdk/internal/util/Preconditions" "SIOOBE_FORMATTER" "Ljava/util/function/BiFunction;" (.ref tF) (fun q : Nat => s.heap.size ≤ q) s s.heap := by
    rcases Z4 with q | ⟨t, q⟩
    · exact ⟨0, Or.inl q⟩
    · exact ⟨t, Or.inr q⟩
  refine ⟨rAd s.heap.size b t1 t2 tF aK aV, D, (fun k => match k with | 0 => a0 | 1 => a1 | 2 => a2 | 3 => a3 | _ => a4), ⟨fun a ha => ?_, ⟨hKc, fun k q hq => ?_⟩, ?_, fun i => ?_⟩, rfl⟩
  · show rAd s.heap.size b t1 t2 tF aK aV a = s.heap.size + a
    unfold rAd
    rw [if_pos ha]
  · match k, hq with
    | 0, hq => cases hq; exact ⟨fun n z => ⟨fun k h => (by cases h), k0, g0, m0, h0⟩, f0⟩
    | 1, hq => cases hq; exact ⟨fun n z => ⟨fun k h => (by cases h), k1, g1, m1, h1⟩, f1⟩
    | 2, hq => cases hq; exact ⟨fun n z => ⟨fun k h => (by cases h), k2, g2, m2, h2⟩, f2⟩
    | 3, hq => cases hq; exact ⟨fun n z => ⟨fun k h => (by cases h), k3, g3, m3, h3⟩, ⟨k3, m3, g3, h3, f3, i3⟩⟩
    | 4, hq => cases hq; exact ⟨fun n z => ⟨fun k h => (by cases h), k4, g4, m4, h4⟩, ⟨k4, m4, g4, h4, f4, i4⟩⟩
    | k + 5, hq => cases hq
  · refine ⟨⟨fun i hi => ?_, fun i j hi hj e => ?_⟩, ⟨vk_R.of (hts _ (List.mem_of_getElem? w1)) (hEv 0 (by omega)), vk_R.of (hts _ (List.mem_of_getElem? w2)) (hEv 1 (by omega)), vk_R.of (hts _ (List.mem_of_getElem? w3)) (hEv 2 (by omega)), vk_R.of (hts _ (List.mem_of_getElem? w4)) (hEv 3 (by omega)), vk_R.of (hts _ (List.mem_of_getElem? w5)) (hEv 4 (by omega))⟩, ⟨Z1, T1⟩, ⟨Z2, T2⟩, Z3, hF⟩
    · show va_O "java/lang/String" (rAd s.heap.size b t1 t2 tF aK aV (1010 + i)) (fun q : Nat => s.heap.size ≤ q) s s.heap ∧ va_OF "java/lang/String" "coder" "B" (.int 0) (rAd s.heap.size b t1 t2 tF aK aV (1010 + i)) (fun q : Nat => s.heap.size ≤ q) s s.heap ∧ va_OF "java/lang/String" "value" "[B" (.ref (rAd s.heap.size b t1 t2 tF aK aV (1020 + i))) (rAd s.heap.size b t1 t2 tF aK aV (1010 + i)) (fun q : Nat => s.heap.size ≤ q) s s.heap ∧ va_T .byte (rAd s.heap.size b t1 t2 tF aK aV (1020 + i)) (txL.getD i 0) (fun j => .int ((txB.getD i []).getD j 0)) (fun q : Nat => s.heap.size ≤ q) s s.heap
      rw [rAd_K hi, rAd_V hi]
      exact hSt.1 i hi
    · refine hSt.2 i j hi hj ?_
      have e : rAd s.heap.size b t1 t2 tF aK aV (1010 + i) = rAd s.heap.size b t1 t2 tF aK aV (1010 + j) := e
      rw [rAd_K hi, rAd_K hj] at e
      exact e
  · show rAd s.heap.size b t1 t2 tF aK aV (2000 + i) = s.heap.size + 118 + i
    unfold rAd
    rw [if_neg (by omega), if_neg (by omega), if_neg (by omega), if_neg (by omega), if_neg (by omega), if_neg (by omega), if_neg (by omega), show 2000 + i - 2000 = i by omega]
