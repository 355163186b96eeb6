section JB
variable {g : mg} {l : Launch}
def bkM (h : AH) (B : BK) : Prop := (∀ l, l < 12 → h.1 91 l = I (B.1 l : Int) ∧ h.1 92 l = I (B.2.1 l : Int) ∧ h.1 93 l = I (B.2.2.1 l : Int)) ∧ h.1 82 17 = I (B.2.2.2.1 : Int) ∧ ∀ i, i < B.2.2.2.1 → h.1 94 i = I (B.2.2.2.2.1 i : Int) ∧ h.1 95 i = I (B.2.2.2.2.2 i : Int)
abbrev cMk : Nat → Nat → Prop := fun a k => (a = 82 ∧ (k = 1 ∨ (2 ≤ k ∧ k ≤ 5) ∨ k = 17 ∨ k = 41 ∨ k = 49)) ∨ (91 ≤ a ∧ a ≤ 100)
theorem wp_mbook {h : AH} {Q : Int32 → AH → Prop} {t : TX} {m : Nat} (T : txM t h) (m4 : m ≤ 400) (hm : ∀ k, k ≤ m → tK t k ≠ 0 → k < m) (k1 : ∀ h2 n B, Chg cMk nR h h2 → bkF t 401 0 0 bk0 = .inr (n, B) → bkM h2 B → h2.1 82 1 = I 0 → h2.1 82 41 = I 0 → Q (I (n : Int)) h2) (k0 : ∀ h2 f, Chg cMb nR h h2 → bkF t 401 0 0 bk0 = .inl f → Q (I (-10) - I (tkP t f : Int)) h2) : SpI g l mX8_book h [.ref 82] Q := by
  have TT : ∀ {a : AH}, Chg cMb nR h a → txM t a := fun e => txM_c T e (by omega) (fun k => by omega)
  refine sX8_book (fun X O => ?_)
  -- the bills
  have lp3 : ∀ (n : Nat) (B : BK), bkF t 401 0 0 bk0 = .inr (n, B) → okBK B → ∀ m c h1, c + m = B.2.2.2.1 → Chg cMk nR h h1 → rdB h1 B → (∀ l, l < 12 → h1.1 91 l = I (B.1 l : Int) ∧ h1.1 92 l = I (B.2.1 l : Int) ∧ h1.1 93 l = I (B.2.2.1 l : Int)) → h1.1 82 17 = I (B.2.2.2.1 : Int) → (∀ i, i < c → h1.1 94 i = I (B.2.2.2.2.1 i : Int) ∧ h1.1 95 i = I (B.2.2.2.2.2 i : Int)) → GI g l X Q h1 196 [(0, .ref 82), (1, .int (I (n : Int))), (2, .int (I (c : Int)))] [] := by
    intro n B eF ok m
    have h8 := ok.2.1
    induction m with
    | zero =>
      intro c h1 hc e D b1 b2 b3
      refine bX8_book_196 O ?_
      rw [b2, I_le (by omega) (by omega) (by omega) (by omega)]
      refine br_t (by omega) ?_
      have f : Chg (fun a k => a = 82 ∧ (k = 1 ∨ k = 41)) nR h1 (sI (sI h1 82 1 (I 0)) 82 41 (I 0)) := (Chg.rf.i (by omega)).i (by omega)
      refine k1 _ n B (e.tr (f.up (fun a k q => by omega) (fun _ _ q => q))) eF ⟨fun k hk => ?_, ?_, fun i hi => ?_⟩ ?_ ?_
      · rw [f.1 _ _ (by omega), f.1 _ _ (by omega), f.1 _ _ (by omega)]; exact b1 k hk
      · rw [f.1 _ _ (by omega)]; exact b2
      · rw [f.1 _ _ (by omega), f.1 _ _ (by omega)]; exact b3 i (by omega)
      · rw [sI_1, up_n (by omega), sI_1, up_s]
      · rw [sI_1, up_s]
    | succ m ih =>
      intro c h1 hc e D b1 b2 b3
      refine bX8_book_196 O ?_
      rw [b2, I_le (by omega) (by omega) (by omega) (by omega)]
      refine br_f (by omega) ⟨c, rfl, by omega, c, rfl, by omega, c, rfl, by omega, c, rfl, by omega, ?_⟩
      have dd := D.2.2 c (by omega)
      rw [dd.1, dd.2, I_add]
      have f : Chg (fun a k => (a = 94 ∨ a = 95) ∧ k = c) nR h1 (sI (sI h1 94 c (I (B.2.2.2.2.1 c : Int))) 95 c (I (B.2.2.2.2.2 c : Int))) := (Chg.rf.i (by omega)).i (by omega)
      refine ih (c + 1) _ (by omega) (e.tr (f.up (fun a k q => by omega) (fun _ _ q => q))) (rdB_c f (by omega) (fun a k q1 q2 => by omega) D) (fun k hk => ?_) ?_ (fun i hi => ?_)
      · rw [f.1 _ _ (by omega), f.1 _ _ (by omega), f.1 _ _ (by omega)]; exact b1 k hk
      · rw [f.1 _ _ (by omega)]; exact b2
      · by_cases ei : i = c
        · subst ei
          rw [sI_o (by omega), sI_1, up_s, sI_1, up_s]
          exact ⟨rfl, rfl⟩
        · rw [f.1 _ _ (by omega), f.1 _ _ (by omega)]; exact b3 i (by omega)
  have lp2 : ∀ (n : Nat) (B : BK), bkF t 401 0 0 bk0 = .inr (n, B) → okBK B → ∀ m c h1, c + m = 12 → Chg cMk nR h h1 → rdB h1 B → (∀ l, l < c → h1.1 91 l = I (B.1 l : Int) ∧ h1.1 92 l = I (B.2.1 l : Int) ∧ h1.1 93 l = I (B.2.2.1 l : Int)) → GI g l X Q h1 138 [(0, .ref 82), (1, .int (I (n : Int))), (2, .int (I (c : Int)))] [] := by
    intro n B eF ok m
    induction m with
    | zero =>
      intro c h1 hc e D b1
      refine bX8_book_138 O (br_t ((I_le (by omega) (by omega) (by omega) (by omega)).mpr (by omega)) ?_)
      rw [D.2.1]
      have f : Chg (fun a k => a = 82 ∧ k = 17) nR h1 (sI h1 82 17 (I (B.2.2.2.1 : Int))) := Chg.rf.i ⟨rfl, rfl⟩
      refine lp3 n B eF ok B.2.2.2.1 0 _ (by omega) (e.tr (f.up (fun a k q => by omega) (fun _ _ q => q))) (rdB_c f (by omega) (fun a k q1 q2 => by omega) D) (fun k hk => ?_) (by rw [sI_1, up_s]) (fun i hi => absurd hi (by omega))
      rw [f.1 _ _ (by omega), f.1 _ _ (by omega), f.1 _ _ (by omega)]
      exact b1 k (by omega)
    | succ m ih =>
      intro c h1 hc e D b1
      refine bX8_book_138 O (br_f (fun q => absurd ((I_le (by omega) (by omega) (by omega) (by omega)).mp q) (by omega)) ⟨c, rfl, by omega, c, rfl, by omega, c, rfl, by omega, c, rfl, by omega, c, rfl, by omega, c, rfl, by omega, ?_⟩)
      have dd := D.1 c (by omega)
      rw [dd.1, dd.2.1, dd.2.2, I_add]
      have f : Chg (fun a k => (91 ≤ a ∧ a ≤ 93) ∧ k = c) nR h1 (sI (sI (sI h1 91 c (I (B.1 c : Int))) 92 c (I (B.2.1 c : Int))) 93 c (I (B.2.2.1 c : Int))) := ((Chg.rf.i (by omega)).i (by omega)).i (by omega)
      refine ih (c + 1) _ (by omega) (e.tr (f.up (fun a k q => by omega) (fun _ _ q => q))) (rdB_c f (by omega) (fun a k q1 q2 => by omega) D) (fun i hi => ?_)
      by_cases ei : i = c
      · subst ei
        rw [sI_o (by omega), sI_o (by omega), sI_1, up_s, sI_o (by omega), sI_1, up_s, sI_1, up_s]
        exact ⟨rfl, rfl, rfl⟩
      · rw [f.1 _ _ (by omega), f.1 _ _ (by omega), f.1 _ _ (by omega)]; exact b1 i (by omega)
  -- the items
  have lp1 : ∀ (f a n : Nat) (B : BK) (h1 : AH), bkF t f a n B = bkF t 401 0 0 bk0 → Chg cMb nR h h1 → a ≤ m → m < a + f → 4 * n ≤ a → cur t a h1 → rdB h1 B → okBK B → GI g l X Q h1 53 [(0, .ref 82), (1, .int (I (n : Int)))] [] := by
    intro f
    induction f with
    | zero => intro a n B h1 _ _ q1 q2; omega
    | succ f ih =>
      intro a n B h1 E e ha hf hn C D ok
      refine bX8_book_53 O ?_
      rw [I_z]
      rw [cur_k C 0 0 rfl (by omega), cur_k C 6 6 rfl (by omega), cur_k C 7 7 rfl (by omega), cur_k C 8 8 rfl (by omega)]
      rw [← I_z]
      refine ⟨fun q => lp2 n B (by rw [← E, bkF_e q]) ok 12 0 h1 (by omega) (e.up (fun a k q => by omega) (fun _ _ q => q)) D (fun i hi => absurd hi (by omega)), fun q0 => ?_⟩
      have bad : ∀ h2 x, Chg cMb nR h1 h2 → itF t a B x → h2.1 82 3 = I (tkP t x : Int) → Q (I (-10) - h2.1 82 3) h2 := fun h2 x c2 iF e3 => by
        rw [e3]
        refine k0 h2 x (e.tr c2) ?_
        rw [← E]
        rcases iF with q | ⟨B2, q, q3⟩
        · rw [bkF_l q0 q]
        · rw [bkF_r q0 q, if_pos q3]
      have good : ∀ h2 a2 B2, Chg cMb nR h1 h2 → itB t a B = .inr (a2, B2) → tK t a2 = 3 → cur t a2 h2 → rdB h2 B2 → SpV g l mX8_read h2 [.ref 82] (fun hv => GI g l X Q hv 53 [(0, .ref 82), (1, .int (I (n : Int) + I 1))] []) := fun h2 a2 B2 c2 ei q3 C2 D2 => by
        have hi := itB_ok ei ok ha hm
        have l2 := hm a2 hi.2.2 (by omega)
        have d2 := e.tr c2
        refine wp_next (TT d2) C2 (fun h3 c3 C3 => ?_)
        rw [I_add]
        exact ih (a2 + 1) (n + 1) B2 h3 (by rw [← E, bkF_r q0 ei, if_neg (fun z => z q3)]) (d2.tr (upM c3)) (by omega) (by omega) (by omega) C3 (rdM c3 D2) hi.1
      refine ⟨fun q6 => ⟨fun q7 => ⟨fun q8 => nb_f y00 ?_, fun q8 => ?_⟩, fun q7 => ?_⟩, fun q6 => ?_⟩
      · refine bad h1 a Chg.rf (Or.inl ?_) C.2.1
        unfold itB
        rw [if_neg q6, if_neg q7, if_pos (fun z => q8 z.1)]
      · exact wp_isBill (TT e) C q8 D ok.2.1 (fun h2 a2 B2 c2 ei q3 C2 D2 => br_f n10 (nb_t n10 (good h2 a2 B2 c2 ei q3 C2 D2))) (fun h2 x c2 iF e3 => br_t y00 (nb_f y00 (bad h2 x c2 iF e3)))
      · exact wp_areAlike (TT e) C q7 D (fun h2 a2 B2 c2 ei q3 C2 D2 => nb_t n10 (good h2 a2 B2 c2 ei q3 C2 D2)) (fun h2 x c2 iF e3 => nb_f y00 (bad h2 x c2 iF e3))
      · exact wp_isStuff (TT e) C q6 D (fun h2 a2 B2 c2 ei q3 C2 D2 => nb_t n10 (good h2 a2 B2 c2 ei q3 C2 D2)) (fun h2 x c2 iF e3 => nb_f y00 (bad h2 x c2 iF e3))
  have lp0 : ∀ m c h1, c + m = 12 → Chg cMb nR h h1 → (∀ l, l < c → h1.1 96 l = I 0 ∧ h1.1 97 l = I 999 ∧ h1.1 98 l = I 0) → GI g l X Q h1 2 [(0, .ref 82), (1, .int (I (c : Int)))] [] := by
    intro m
    induction m with
    | zero =>
      intro c h1 hc e b1
      refine bX8_book_2 O (br_t ((I_le (by omega) (by omega) (by omega) (by omega)).mpr (by omega)) ?_)
      have f : Chg (fun a k => a = 82 ∧ (k = 49 ∨ k = 2)) nR h1 (sI (sI h1 82 49 (I 0)) 82 2 (I 0)) := (Chg.rf.i (by omega)).i (by omega)
      have d := e.tr (f.up (P2 := cMb) (R2 := nR) (fun a k q => by omega) (fun _ _ q => q))
      refine wp_first (TT d) (by rw [sI_1, up_s]) (fun h2 c2 C2 => ?_)
      refine lp1 401 0 0 bk0 h2 rfl (d.tr (upM c2)) (by omega) (by omega) (by omega) C2 (rdM c2 ⟨fun k hk => ?_, ?_, fun i hi => absurd hi (by show ¬ i < 0; omega)⟩) okBK_0
      · rw [f.1 _ _ (by omega), f.1 _ _ (by omega), f.1 _ _ (by omega)]; exact b1 k (by omega)
      · rw [sI_1, up_n (by omega), sI_1, up_s]; rfl
    | succ m ih =>
      intro c h1 hc e b1
      refine bX8_book_2 O (br_f (fun q => absurd ((I_le (by omega) (by omega) (by omega) (by omega)).mp q) (by omega)) ⟨c, rfl, by omega, c, rfl, by omega, c, rfl, by omega, ?_⟩)
      rw [I_add]
      have f : Chg (fun a k => (96 ≤ a ∧ a ≤ 98) ∧ k = c) nR h1 (sI (sI (sI h1 96 c (I 0)) 97 c (I 999)) 98 c (I 0)) := ((Chg.rf.i (by omega)).i (by omega)).i (by omega)
      refine ih (c + 1) _ (by omega) (e.tr (f.up (fun a k q => by omega) (fun _ _ q => q))) (fun i hi => ?_)
      by_cases ei : i = c
      · subst ei
        rw [sI_o (by omega), sI_o (by omega), sI_1, up_s, sI_o (by omega), sI_1, up_s, sI_1, up_s]
        exact ⟨rfl, rfl, rfl⟩
      · rw [f.1 _ _ (by omega), f.1 _ _ (by omega), f.1 _ _ (by omega)]; exact b1 i (by omega)
  exact lp0 12 0 h (by omega) Chg.rf (fun i hi => absurd hi (by omega))
theorem J_book {h : AH} (hI : Inv h) : JI g l mX7_book mX8_book h [.ref 0] [.ref 82] := by
  obtain ⟨s, v, R, M⟩ := hI
  obtain ⟨⟨rT, ⟨p, rS⟩, ⟨b, b', bb⟩, rU, rI, rTr⟩, rCc⟩ := id R
  have TR : txR s.1 h := ⟨v.1, rT.1, rT.2⟩
  have hb' : b' = 42 ∨ b' = 48 := by have := bb.1; omega
  have hb : b = 42 ∨ b = 48 := by have := bb.1; omega
  have hbb := bb.1
  have lb : lay b = (0, 7) := by rcases hb with rfl | rfl <;> rfl
  have lb' : lay b' = (0, 7) := by rcases hb' with rfl | rfl <;> rfl
  refine sX7_book (wp_split TR (fun h1 m c1 e7 tk => ?_))
  refine ⟨b', by rw [c1.2.1 _ _ (fun q => q)]; exact bb.2.2.1, lb', ?_⟩
  have hm : ∀ k, k ≤ m → tK s.1 k ≠ 0 → k < m := fun k hk hz => tokC_lt tk hk hz
  refine wp_bkread hb' tk e7 (fun h2 n B c2 eF ok A e6 => nb_t n10 ?_) (fun h2 f c2 eF fm f7 => nb_f y00 ?_)
  · have d : Chg (fun a k => (3 ≤ a ∧ a ≤ 5) ∨ (a = 1 ∧ k ≠ 1) ∨ (b' ≤ a ∧ a ≤ b' + 5)) nR h h2 := (c1.up (fun a k q => by omega) (fun _ _ q => q)).tr (c2.up (fun a k q => by omega) (fun _ _ q => q))
    refine ⟨b, by rw [d.2.1 _ _ (fun q => q)]; exact bb.2.1, lb, b', by rw [d.2.1 _ _ (fun q => q)]; exact bb.2.2.1, lb', ?_⟩
    generalize hh3 : sI (sI (sR (sR h2 0 8 (some b')) 0 9 (some b)) 1 1 (I 0)) 0 10 (I 0) = h3
    have d3 : Chg (fun a k => (1 ≤ a ∧ a ≤ 5) ∧ (a = 2 → False) ∨ (a = 0 ∧ k = 10) ∨ (b' ≤ a ∧ a ≤ b' + 5)) (fun a k => a = 0 ∧ (k = 8 ∨ k = 9)) h h3 := by
      rw [← hh3]
      refine Chg.i (Chg.i (Chg.r (Chg.r (d.up (fun a k q => by omega) (fun _ _ q => absurd q id)) (by omega)) (by omega)) (by omega)) (by omega)
    have d23 : Chg (fun a k => (a = 1 ∧ k = 1) ∨ (a = 0 ∧ k = 10)) (fun a k => a = 0 ∧ (k = 8 ∨ k = 9)) h2 h3 := by
      rw [← hh3]
      refine Chg.i (Chg.i (Chg.r (Chg.r Chg.rf (by omega)) (by omega)) (by omega)) (by omega)
    have g6 : h3.1 b' 6 = I (n : Int) := by rw [d23.1 _ _ (by omega)]; exact e6
    rw [g6]
    have v' : vS ((0, s.1.2), s.2.1, B, s.2.2.2) := ⟨⟨by show (0 : Nat) ≤ 400; omega, v.1.2⟩, v.2.1, ok, v.2.2.2⟩
    have R3 : RC ((0, s.1.2), s.2.1, B, s.2.2.2) h3 := by
      refine ⟨⟨⟨?_, fun i hi => absurd hi (by show ¬ i < 0; omega)⟩, ⟨p, atSH_c d3 v.2.1.1 (fun a k h1 h2 => by omega) (fun k => by omega) rS⟩, ⟨b', b, by omega, ?_, ?_, atBK_c d23 (fun a k q1 q2 => by omega) A⟩, fun j hj => by rw [d3.1 _ _ (by omega)]; exact rU j hj, rcI_c (s := s) d3 v (fun a k h1 h2 => by omega) (fun a k hh => by omega) rI, by rw [d3.2.2.1]; exact rTr⟩, Or.inl ?_⟩
      · rw [← hh3, sI_o (by omega), sI_1, up_s]; rfl
      · rw [← hh3]
        show (sR (sR h2 0 8 (some b')) 0 9 (some b)).2.2 0 8 = some b'
        rw [sR_1, up_n (by omega), sR_1, up_s]
      · rw [← hh3]
        show (sR (sR h2 0 8 (some b')) 0 9 (some b)).2.2 0 9 = some b
        rw [sR_1, up_s]
      · rw [← hh3, sI_1, up_s]
    have TM3 : txM s.1 h3 := ⟨v.1, by rw [d3.1 _ _ (by omega)]; exact M.1.1.1, fun i hi => by rw [d3.1 _ _ (by omega)]; exact M.1.1.2 i hi⟩
    refine wp_mbook TM3 tk.1 hm (fun h5 n' B' c5 eF' bM e1 e41 => ?_) (fun h5 f c5 eF' => absurd eF' (by rw [eF]; exact fun q => by cases q))
    rw [eF] at eF'
    injection eF' with eF'
    injection eF' with en eB
    subst en eB
    refine ⟨rfl, ((0, s.1.2), s.2.1, B, s.2.2.2), v', RC_c (c5.up (fun a k q => Or.inl (by omega)) (fun _ _ q => absurd q id)) v' R3, ?_⟩
    have d5 : Chg (fun a k => a < 82 ∨ cMk a k) (fun a _ => a < 82) h h5 := (d3.up (fun a k q => Or.inl (by omega)) (fun a k q => by omega)).tr (c5.up (fun a k q => Or.inr q) (fun _ _ q => absurd q id))
    obtain ⟨⟨_, mc, _, mu, mi, mtr⟩, _⟩ := M
    exact RM_of ⟨by rw [e1]; rfl, fun i hi => absurd hi (by show ¬ i < 0; omega)⟩ (rmCh_c (s := s) d5 (by omega) (fun a k h1 h2 => by omega) mc) bM (fun j hj => by rw [d5.1 _ _ (by omega)]; exact mu j hj) (rmI_c (s := s) d5 (fun a k h1 h2 => by omega) mi) (by rw [d5.2.2.2]; exact mtr) (Or.inl e41)
  · have d : Chg (fun a k => (3 ≤ a ∧ a ≤ 5) ∨ (a = 1 ∧ k ≠ 1) ∨ (b' ≤ a ∧ a ≤ b' + 5)) nR h h2 := (c1.up (fun a k q => by omega) (fun _ _ q => q)).tr (c2.up (fun a k q => by omega) (fun _ _ q => q))
    have tk2 := tokC_c tk c2 (by omega) (fun a k q1 q2 => by omega)
    refine wp_fault tk2 fm f7 ?_
    have R2 : RC s h2 := by
      refine ⟨⟨rcT_c (s := s) d (by omega) (fun k => by omega) rT, ⟨p, atSH_c d v.2.1.1 (fun a k h1 h2 => by omega) (fun k => id) rS⟩, ⟨b, b', bb.1, ?_, ?_, atBK_c d (fun a k q1 q2 => by omega) bb.2.2.2⟩, fun j hj => by rw [d.1 _ _ (by omega)]; exact rU j hj, rcI_c (s := s) d v (fun a k h1 h2 => by omega) (fun a k hh => id) rI, by rw [d.2.2.1]; exact rTr⟩, rcC_c (s := s) d (by omega) (by omega) (fun a k h1 h2 => by omega) rCc⟩
      · rw [d.2.1 _ _ (fun q => q)]; exact bb.2.1
      · rw [d.2.1 _ _ (fun q => q)]; exact bb.2.2.1
    have TM2 : txM s.1 h2 := ⟨v.1, by rw [d.1 _ _ (by omega)]; exact M.1.1.1, fun i hi => by rw [d.1 _ _ (by omega)]; exact M.1.1.2 i hi⟩
    have M2 : RM s h2 := RM_c (d.up (fun a k q => Or.inl (by omega)) (fun _ _ q => q)) M
    refine wp_mbook TM2 tk.1 hm (fun h5 n' B' c5 eF' => absurd eF' (by rw [eF]; exact fun q => by cases q)) (fun h5 f' c5 eF' => ?_)
    rw [eF] at eF'
    have ef : f = f' := by injection eF'
    subst ef
    refine ⟨rfl, Inv_sc v R2 M2 c5 (fun a k q => Or.inl (by omega)) (fun a k q => ?_) (fun _ _ q => absurd q id)⟩
    unfold scM
    omega
end JB
