theorem bkF_e {t : TX} {f a n : Nat} {B : BK} (q : tK t a = 0) : bkF t (f + 1) a n B = .inr (n, B) := by
  unfold bkF
  rw [if_pos q]
theorem bkF_l {t : TX} {f a n x : Nat} {B : BK} (q : tK t a ≠ 0) (e : itB t a B = .inl x) : bkF t (f + 1) a n B = .inl x := by
  unfold bkF
  rw [if_neg q, e]
theorem bkF_r {t : TX} {f a n a2 : Nat} {B B2 : BK} (q : tK t a ≠ 0) (e : itB t a B = .inr (a2, B2)) : bkF t (f + 1) a n B = if tK t a2 ≠ 3 then .inl a2 else bkF t f (a2 + 1) (n + 1) B2 := by
  conv => lhs; unfold bkF
  rw [if_neg q, e]
section BR
variable {g : mg} {l : Launch} {h : AH}
theorem wp_jfill {Q : AH → Prop} {x0 n : Nat} (hx0 : lay x0 = (100, n)) (hn : n ≤ 1000000) (v : Int32) (k : ∀ h2, Chg (fun a _ => a = x0) nR h h2 → (∀ j, j < n → h2.1 x0 j = v) → Q h2) : SpV g l mJ7_fill_53178 h [.ref x0, .int v] Q := by
  refine sJ7_fill_53178 hx0 (by omega) (fun X O => ?_)
  have lp : ∀ m c h1, c + m = n → Chg (fun a _ => a = x0) nR h h1 → (∀ j, j < c → h1.1 x0 j = v) → GV g l X Q h1 5 [(0, .ref x0), (1, .int v), (2, .int (I (c : Int))), (3, .int (I (n : Nat)))] [] := by
    intro m
    induction m with
    | zero =>
      intro c h1 hc e al
      refine bJ7_fill_53178_5 O hx0 (by omega) (br_t ((I_le (by omega) (by omega) (by omega) (by omega)).mpr (by omega)) (k h1 e (fun j hj => al j (by omega))))
    | succ m ih =>
      intro c h1 hc e al
      refine bJ7_fill_53178_5 O hx0 (by omega) (br_f (fun q => absurd ((I_le (by omega) (by omega) (by omega) (by omega)).mp q) (by omega)) ⟨c, rfl, by omega, ?_⟩)
      rw [I_add]
      refine ih (c + 1) _ (by omega) (Chg.i e rfl) (fun j hj => ?_)
      rw [sI_1]
      by_cases ej : j = c
      · subst ej; rw [up_s]
      · rw [up_n ej]; exact al j (by omega)
  exact lp n 0 h (by omega) Chg.rf (fun j hj => absurd hj (by omega))
abbrev cBr (b : Nat) : Nat → Nat → Prop := fun a k => (a = 1 ∧ (k = 2 ∨ k = 7)) ∨ (b ≤ a ∧ a ≤ b + 5)
theorem wp_empty {Q : AH → Prop} {b : Nat} (hb : b = 42 ∨ b = 48) (k : ∀ h2, Chg (fun a _ => b ≤ a ∧ a ≤ b + 5) nR h h2 → atBK h2 b bk0 → h2.1 b 6 = I 0 → Q h2) : SpV g l mX0_empty h [.ref b] Q := by
  have lb : lay b = (0, 7) := by rcases hb with rfl | rfl <;> rfl
  have l1 : lay (b + 1) = (100, 12) := by rcases hb with rfl | rfl <;> rfl
  have l2 : lay (b + 2) = (100, 12) := by rcases hb with rfl | rfl <;> rfl
  have l3 : lay (b + 3) = (100, 12) := by rcases hb with rfl | rfl <;> rfl
  refine sX0_empty lb (wp_jfill l1 (by omega) _ (fun h1 c1 a1 => wp_jfill l2 (by omega) _ (fun h2 c2 a2 => wp_jfill l3 (by omega) _ (fun h3 c3 a3 => ?_))))
  refine k _ (Chg.i (Chg.i (((c1.up (fun a k q => by omega) (fun _ _ q => q)).tr (c2.up (fun a k q => by omega) (fun _ _ q => q))).tr (c3.up (fun a k q => by omega) (fun _ _ q => q))) (by omega)) (by omega)) ⟨fun k hk => ⟨?_, ?_, ?_⟩, ?_, fun i hi => absurd hi (by show ¬ i < 0; omega)⟩ ?_
  · rw [sI_o (by omega), sI_o (by omega), c3.1 _ _ (by omega), c2.1 _ _ (by omega)]; exact a1 k hk
  · rw [sI_o (by omega), sI_o (by omega), c3.1 _ _ (by omega)]; exact a2 k hk
  · rw [sI_o (by omega), sI_o (by omega)]; exact a3 k hk
  · rw [sI_1, up_n (by omega), sI_1, up_s]; rfl
  · rw [sI_1, up_s]
theorem wp_bkread {Q : Int32 → AH → Prop} {t : TX} {m b : Nat} (hb : b = 42 ∨ b = 48) (T : tokC t h m) (ea : h.1 1 7 = I 0) (k1 : ∀ h2 n B, Chg (cBr b) nR h h2 → bkF t 401 0 0 bk0 = .inr (n, B) → okBK B → atBK h2 b B → h2.1 b 6 = I (n : Int) → Q (I 1) h2) (k0 : ∀ h2 f, Chg (cBr b) nR h h2 → bkF t 401 0 0 bk0 = .inl f → f ≤ m → h2.1 1 7 = I (f : Int) → Q (I 0) h2) : SpI g l mX0_read h [.ref b, .ref 1] Q := by
  have h4 := T.1
  have lb : lay b = (0, 7) := by rcases hb with rfl | rfl <;> rfl
  have TT : ∀ {x : AH}, Chg (cBr b) nR h x → tokC t x m := fun e => tokC_c T e (by omega) (fun a k q1 q2 => by omega)
  refine sX0_read lb (fun X O => wp_empty hb (fun h0 c0 A0 e60 => ?_))
  have lp : ∀ (f a n : Nat) (B : BK) (h1 : AH), bkF t f a n B = bkF t 401 0 0 bk0 → Chg (cBr b) nR h h1 → a ≤ m → m < a + f → 4 * n ≤ a → h1.1 1 7 = I (a : Int) → atBK h1 b B → okBK B → h1.1 b 6 = I (n : Int) → GI g l X Q h1 4 [(0, .ref b), (1, .ref 1)] [] := by
    intro f
    induction f with
    | zero => intro a n B h1 _ _ q1 q2; omega
    | succ f ih =>
      intro a n B h1 E e ha hf hn e7 A ok e6
      have T1 := TT e
      refine bX0_read_4 O lb ?_
      rw [e6, I_le (by omega) (by omega) (by omega) (by omega)]
      refine br_f (by omega) (wp_isAt0 T1 ha e7 (fun q => nb_t n10 (wp_isAt0 T1 ha e7 (fun _ => ⟨Or.inr (by decide), ?_⟩) (fun z => absurd q z))) (fun q => nb_f y00 ?_))
      · refine k1 h1 n B e ?_ ok A e6
        rw [← E, bkF_e q]
      · skip
        refine wp_readItem hb T1 ha e7 A ok (fun h2 a2 B2 c2 ei l2 e2 A2 => br_f n10 ?_) (fun h2 x c2 ei l2 e2 => br_t y00 (k0 h2 x (e.tr (c2.up (fun a k q => by omega) (fun _ _ q => q))) (by rw [← E, bkF_l q ei]) l2 e2))
        have d2 := e.tr (c2.up (P2 := cBr b) (R2 := nR) (fun a k q => by omega) (fun _ _ q => q))
        have hi := itB_ok ei ok ha (fun k hk hz => tokC_lt T hk hz)
        have eF := bkF_r (f := f) (n := n) q ei
        refine wp_take (TT d2) l2 e2 1 3 (by decide) (fun h3 q3 l3 c3 e3 _ => nb_t n10 ?_) (fun q3 => nb_f y00 (k0 h2 a2 d2 (by rw [← E, eF, if_pos q3]) l2 e2))
        have g6 : h3.1 b 6 = I (n : Int) := by rw [c3.1 _ _ (by omega), c2.1 _ _ (by omega)]; exact e6
        rw [g6, I_add]
        have f3 : Chg (fun a k => a = b ∧ k = 6) nR h3 (sI h3 b 6 (I ((n : Int) + 1))) := Chg.rf.i ⟨rfl, rfl⟩
        refine ih (a2 + 1) (n + 1) B2 _ (by rw [← E, eF, if_neg (fun z => z q3)]) ((d2.tr (c3.up (fun a k q => Or.inl q) (fun _ _ q => q))).i (Or.inr (by omega))) l3 (by omega) (by omega) (by rw [sI_o (by omega)]; exact e3) ?_ hi.1 (by rw [sI_1, up_s]; rfl)
        have A3 : atBK h3 b B2 := atBK_c c3 (fun a k q1 q2 => by omega) A2
        exact ⟨fun k hk => by rw [f3.1 _ _ (by omega), f3.1 _ _ (by omega), f3.1 _ _ (by omega)]; exact A3.1 k hk, by rw [f3.1 _ _ (by omega)]; exact A3.2.1, fun i hi => by rw [f3.1 _ _ (by omega), f3.1 _ _ (by omega)]; exact A3.2.2 i hi⟩
  exact lp 401 0 0 bk0 h0 rfl (c0.up (fun a k q => Or.inr q) (fun _ _ q => q)) (by omega) (by omega) (by omega) (by rw [c0.1 _ _ (by omega)] ; exact ea) A0 okBK_0 e60
end BR
