/-! PAINTINGS, as pure words. pe: chips, alike, lamp -/
abbrev PE : Type := CS × (Nat → Nat) × Nat
def pE (s : ST) : PE := (s.2.1, s.2.2.1.2.2.1, s.2.2.2.1 2)
def smb (e : PE) (l m : Nat) : Bool := l == m || (e.2.2 == 0 && (e.2.1 l).testBit m)
abbrev szP (e : PE) (c : Nat) : Nat := (e.1.2 c).2.2.1
abbrev coP (e : PE) (c k : Nat) : Nat := (e.1.2 c).2.2.2.1 k
abbrev diP (e : PE) (c k : Nat) : Nat := (e.1.2 c).2.2.2.2 k
/-- a painting of colour l takes chip c on -/
def mvb (e : PE) (l : Nat) (q : Nat → Nat) (c : Nat) : Bool := decide (c < e.1.1) && decide (q c < szP e c) && smb e l (coP e c (q c))
def nxt (e : PE) (l : Nat) (q : Nat → Nat) : Nat → Nat := fun c => if mvb e l q c then q c + 1 else q c
def wnt (e : PE) (l : Nat) (q : Nat → Nat) : Bool := mvb e l q 0 || mvb e l q 1 || mvb e l q 2 || mvb e l q 3
def dne (e : PE) (q : Nat → Nat) : Bool := (List.range e.1.1).all (fun c => q c == szP e c)
def bestOf (e : PE) (q : Nat → Nat) (f : (Nat → Nat) → Nat) : Nat → Nat
  | 0 => 99
  | l + 1 => if wnt e l q && decide (f (nxt e l q) + 1 < bestOf e q f l) then f (nxt e l q) + 1 else bestOf e q f l
def Wf (e : PE) : Nat → (Nat → Nat) → Nat
  | 0, _ => 0
  | n + 1, q => if dne e q then 0 else bestOf e q (Wf e n) 12
/-- the fewest from here on -/
def Wn (e : PE) (q : Nat → Nat) : Nat := Wf e 40 q
/-- the first of n numbers from i on with p -/
def fnd (p : Nat → Bool) : Nat → Nat → Nat
  | 0, i => i
  | n + 1, i => if p i then i else fnd p n (i + 1)
def fcl (e : PE) (q : Nat → Nat) : Nat := fnd (fun l => wnt e l q && (Wn e (nxt e l q) + 1 == Wn e q)) 12 0
def wk (e : PE) : Nat → (Nat → Nat)
  | 0 => fun _ => 0
  | k + 1 => nxt e (fcl e (wk e k)) (wk e k)
def np (e : PE) : Nat := Wn e (fun _ => 0)
def pcl (e : PE) (k : Nat) : Nat := fcl e (wk e k)
def hdb (e : PE) (k c : Nat) : Bool := mvb e (pcl e k) (wk e k) c
def pof (e : PE) (c j : Nat) : Nat := fnd (fun k => wk e (k + 1) c == j + 1) 40 0
def hbt (e : PE) (k : Nat) : Nat → Nat
  | 0 => 0
  | c + 1 => hbt e k c + (if hdb e k c then 2 ^ c else 0)
def dmx (e : PE) (k : Nat) : Nat → Nat
  | 0 => 0
  | c + 1 => if hdb e k c then max (dmx e k c) (diP e c (wk e k c)) else dmx e k c
/-- years (paintings, sold from, sold to, wait): earliest; latest, counted from the last painting; whether it can be -/
abbrev YE : Type := PE × (Nat → Nat) × (Nat → Nat) × Nat
def yE (s : ST) : YE := (pE s, s.2.2.1.1, s.2.2.1.2.1, s.2.2.2.1 3)
def ltr (y : YE) (k : Nat) : Nat := y.2.2.2 * dmx y.1 k y.1.1.1 + 1
def ea (y : YE) : Nat → Nat
  | 0 => y.2.1 (pcl y.1 0)
  | k + 1 => max (ea y k + ltr y k) (y.2.1 (pcl y.1 (k + 1)))
def lb (y : YE) : Nat → Int
  | 0 => min 999 (y.2.2.1 (pcl y.1 (np y.1 - 1)) : Int)
  | i + 1 => min (lb y i - (ltr y (np y.1 - 2 - i) : Int)) (y.2.2.1 (pcl y.1 (np y.1 - 2 - i)) : Int)
def la (y : YE) (k : Nat) : Int := lb y (np y.1 - 1 - k)
def canY (y : YE) : Nat → Bool
  | 0 => true
  | k + 1 => canY y k && decide (ea y k ≤ y.2.2.1 (pcl y.1 k))
/-! what was found, as each holds it -/
def pcE (e : PE) (h : AH) : Prop := h.1 26 0 = I (np e : Int) ∧ (∀ k, k < np e → h.1 27 k = I (pcl e k : Int) ∧ h.1 28 k = I (hbt e k e.1.1 : Int) ∧ h.1 29 k = I (dmx e k e.1.1 : Int)) ∧ ∀ c, c < e.1.1 → ∀ j, j < szP e c → h.1 30 (c * 10 + j) = I (pof e c j : Int)
def pmY (y : YE) (h : AH) : Prop := h.1 82 38 = I (np y.1 : Int) ∧ (∀ k, k < np y.1 → h.1 113 k = I (pcl y.1 k : Int) ∧ h.1 115 k = I (ea y k : Int) ∧ h.1 116 k = I (la y k)) ∧ (∀ c, c < y.1.1.1 → ∀ j, j < szP y.1 c → h.1 114 (10 * c + j) = I (pof y.1 c j : Int)) ∧ h.1 82 44 = I (if canY y (np y.1) then 1 else 0)
def pmS (s : ST) (h : AH) : Prop := pmY (yE s) h
def rcC (s : ST) (h : AH) : Prop := h.1 0 10 = I 0 ∨ (h.1 0 10 = I 1 ∧ pcE (pE s) h)
def rmC (s : ST) (h : AH) : Prop := h.1 82 41 = I 0 ∨ (h.1 82 41 = I 1 ∧ pmS s h)
def RC (s : ST) (h : AH) : Prop := rcS s h ∧ rcC s h
def RM (s : ST) (h : AH) : Prop := rmS s h ∧ rmC s h
def Inv (h : AH) : Prop := ∃ s, vS s ∧ RC s h ∧ RM s h
/-- what a pair of calls must do: the same answer, and the state stays one -/
def JI (g : mg) (l : Launch) (A B : MD) (h : AH) (av bv : List Value) : Prop := SpI g l A h av (fun v h1 => SpI g l B h1 bv (fun u h2 => u = v ∧ Inv h2))
def JL (g : mg) (l : Launch) (A B : MD) (h : AH) (av bv : List Value) : Prop := SpL g l A h av (fun v h1 => SpL g l B h1 bv (fun u h2 => u = v ∧ Inv h2))
/-! the masks keep each side -/
theorem atCH_k {h h2 : AH} {b : Nat} {c : CH} (e : EqL h h2) (hb : b + 2 < 82) (x : atCH h b c) : atCH h2 b c := by
  unfold atCH at *
  rw [(e b (by omega)).1, (e (b + 1) (by omega)).1, (e (b + 2) hb).1]
  exact x
theorem perm_lt {s : Nat} {p : Nat → Nat} (hp : perm s p) {c : Nat} (hc : c < 4) : p c ≤ s + 11 := by
  rcases hp.1 c hc with h | h | h | h <;> omega
theorem atSH_k {h h2 : AH} {s : Nat} {p : Nat → Nat} {cs : CS} (e : EqL h h2) (hs : s ≤ 68) (h4 : cs.1 ≤ 4) (x : atSH h s p cs) : atSH h2 s p cs := by
  obtain ⟨x1, x2, x3, x4⟩ := x
  refine ⟨x1, fun c hc => by rw [(e (s + 1) (by omega)).2.2]; exact x2 c hc, by rw [(e s (by omega)).1]; exact x3, fun c hc => atCH_k e ?_ (x4 c hc)⟩
  have := perm_lt x1 (c := c) (by omega)
  omega
theorem atBK_k {h h2 : AH} {b : Nat} {k : BK} (e : EqL h h2) (hb : b + 5 < 82) (x : atBK h b k) : atBK h2 b k := by
  unfold atBK at *
  rw [(e b (by omega)).1, (e (b + 1) (by omega)).1, (e (b + 2) (by omega)).1, (e (b + 3) (by omega)).1, (e (b + 4) (by omega)).1, (e (b + 5) hb).1]
  exact x
theorem RC_k {s : ST} {h h2 : AH} (e : EqL h h2) (v : vS s) (x : RC s h) : RC s h2 := by
  obtain ⟨⟨t, ⟨p, c⟩, ⟨b, b', b1, b2, b3, b4⟩, u, i, tr⟩, ca⟩ := x
  refine ⟨⟨?_, ⟨p, atSH_k e (by omega) v.2.1.1 c⟩, ⟨b, b', b1, by rw [(e 0 (by omega)).2.2]; exact b2, by rw [(e 0 (by omega)).2.2]; exact b3, atBK_k e (by omega) b4⟩, by rw [(e 21 (by omega)).1]; exact u, fun j hj => ?_, by rw [(e 0 (by omega)).2.1]; exact tr⟩, ?_⟩
  · unfold rcT at *
    rw [(e 1 (by omega)).1, (e 2 (by omega)).1]
    exact t
  · have i1 := i j hj
    have vi := v.2.2.2.2 j
    rw [(e 20 (by omega)).2.2]
    refine ⟨i1.1, ?_⟩
    have i2 := i1.2
    cases hq : s.2.2.2.2.1 j with
    | none =>
      rw [hq] at i2
      simp only at i2 ⊢
      rw [(e _ (by omega)).1, (e (54 + 14 * j + 1) (by omega)).2.2]
      exact i2
    | some cs =>
      rw [hq] at i2
      simp only at i2 ⊢
      rw [(e _ (by omega)).1]
      obtain ⟨i3, q, i4⟩ := i2
      exact ⟨i3, q, atSH_k e (by omega) (vi cs hq).1 i4⟩
  · unfold rcC pcE at *
    rw [(e 0 (by omega)).1, (e 26 (by omega)).1, (e 27 (by omega)).1, (e 28 (by omega)).1, (e 29 (by omega)).1, (e 30 (by omega)).1]
    exact ca
theorem RM_k {s : ST} {h h2 : AH} (e : EqH h h2) (x : RM s h) : RM s h2 := by
  unfold RM rmS rmC pmS pmY mCS at *
  rw [(e 82 (by omega)).1, (e 82 (by omega)).2.1, (e 83 (by omega)).1, (e 84 (by omega)).1, (e 85 (by omega)).1, (e 86 (by omega)).1, (e 87 (by omega)).1, (e 88 (by omega)).1, (e 91 (by omega)).1, (e 92 (by omega)).1, (e 93 (by omega)).1, (e 94 (by omega)).1, (e 95 (by omega)).1, (e 101 (by omega)).1, (e 102 (by omega)).1, (e 103 (by omega)).1, (e 104 (by omega)).1, (e 105 (by omega)).1, (e 106 (by omega)).1, (e 107 (by omega)).1, (e 113 (by omega)).1, (e 114 (by omega)).1, (e 115 (by omega)).1, (e 116 (by omega)).1]
  exact x
