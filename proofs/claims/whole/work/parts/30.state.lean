/-! ===== the state that both hold: text, own words, letters, what was done, sheets, the latest finding ===== -/
abbrev Gs : Type := (Nat × (Nat → Nat) × (Nat → Nat)) × (Nat × (Nat → Nat) × (Nat → Nat) × (Nat → Nat) × (Nat → Nat) × (Nat → Option Nat)) × (Nat × (Nat → Nat) × (Nat → Nat) × (Nat → Nat) × (Nat → Nat)) × ((Nat → Bool) × (Nat → Nat) × (Nat → Nat) × (Nat → Nat → Int32)) × Nat
def tl (G : Gs) : Nat := G.1.1
def tb (G : Gs) : Nat → Nat := G.1.2.1
def om (G : Gs) : Nat → Nat := G.1.2.2
def ls (G : Gs) : Nat := G.2.1.1
def lw (G : Gs) : Nat → Nat := G.2.1.2.1
def lr (G : Gs) : Nat → Nat := G.2.1.2.2.1
def ly (G : Gs) : Nat → Nat := G.2.1.2.2.2.1
def lo_ (G : Gs) : Nat → Nat := G.2.1.2.2.2.2.1
def ln_ (G : Gs) : Nat → Option Nat := G.2.1.2.2.2.2.2
def ds (G : Gs) : Nat := G.2.2.1.1
def dy (G : Gs) : Nat → Nat := G.2.2.1.2.1
def dp (G : Gs) : Nat → Nat := G.2.2.1.2.2.1
def dw (G : Gs) : Nat → Nat := G.2.2.1.2.2.2.1
def di (G : Gs) : Nat → Nat := G.2.2.1.2.2.2.2
def sh (G : Gs) : Nat → Bool := G.2.2.2.1.1
def sf (G : Gs) : Nat → Nat := G.2.2.2.1.2.1
def ss (G : Gs) : Nat → Nat := G.2.2.2.1.2.2.1
def si (G : Gs) : Nat → Nat → Int32 := G.2.2.2.1.2.2.2
def fi (G : Gs) : Nat := G.2.2.2.2
/-! the text that tells people -/
def fig (x : Nat) : Bool := decide (48 ≤ x) && decide (x ≤ 57)
def gOn (t : Nat → Nat) (i : Nat) : Bool := if i % 6 = 3 then fig (t i) && (decide (t i ≠ 48) || decide (t (i - 1) ≠ 48)) else if i % 6 = 4 then decide (t i = 111) || decide (t i = 101) || decide (t i = 102) else if i % 6 = 5 then decide (t i = 59) else fig (t i)
def fstF (g : Nat → Bool) : Nat → Option Nat
  | 0 => none
  | m + 1 => match fstF g m with
    | some i => some i
    | none => if g m = true then none else some m
theorem fstF_none {g : Nat → Bool} : ∀ {m : Nat}, (∀ i, i < m → g i = true) → fstF g m = none
  | 0, _ => rfl
  | m + 1, h => by
    have ih := fstF_none (g := g) (m := m) (fun i hi => h i (by omega))
    unfold fstF
    rw [ih]
    show (if g m = true then none else some m) = none
    rw [if_pos (h m (by omega))]
theorem fstF_some {g : Nat → Bool} {i : Nat} (h : ∀ j, j < i → g j = true) (hi : g i = false) : ∀ (d : Nat), fstF g (i + 1 + d) = some i
  | 0 => by
    show fstF g (i + 1) = some i
    unfold fstF
    rw [fstF_none h]
    show (if g i = true then none else some i) = some i
    rw [if_neg (by rw [hi]; decide)]
  | d + 1 => by
    show fstF g (i + 1 + d + 1) = some i
    unfold fstF
    rw [fstF_some h hi d]
/-- the fault; none -/
def flt (n : Nat) (t : Nat → Nat) : Option Nat := match fstF (gOn t) n with
  | some i => some i
  | none => if n = 0 ∨ n % 6 = 5 then none else some n
theorem flt_at {n i : Nat} {t : Nat → Nat} (hi : i < n) (h : ∀ j, j < i → gOn t j = true) (hg : gOn t i = false) : flt n t = some i := by
  unfold flt
  have e := fstF_some h hg (n - (i + 1))
  rw [show i + 1 + (n - (i + 1)) = n by omega] at e
  rw [e]
theorem flt_all {n : Nat} {t : Nat → Nat} (h : ∀ j, j < n → gOn t j = true) : flt n t = if n = 0 ∨ n % 6 = 5 then none else some n := by
  unfold flt
  rw [fstF_none h]
def cnt (G : Gs) : Nat := if flt (tl G) (tb G) = none then (tl G + 1) / 6 else 0
def two (t : Nat → Nat) (i : Nat) : Nat := (t i - 48) * 10 + (t (i + 1) - 48)
def kdp (t : Nat → Nat) (p : Nat) : Nat := if t (6 * p + 4) = 101 then 1 else if t (6 * p + 4) = 102 then 2 else 0
/-- people and letters as they are told -/
def scn (G : Gs) : Sc := ((cnt G, fun p => two (tb G) (6 * p), fun p => two (tb G) (6 * p + 2), fun p => decide (kdp (tb G) p = 1), fun p => if kdp (tb G) p = 2 then 5 else 0, fun p w => (om G p).testBit w), (ls G, lw G, lr G, ly G, lo_ G, ln_ G, fun _ => true))
theorem flt_none {n : Nat} {t : Nat → Nat} (h : flt n t = none) : ∀ j, j < n → gOn t j = true := by
  intro j
  induction j using Nat.strongRecOn with
  | ind j ih =>
    intro hj
    cases e : gOn t j with
    | true => rfl
    | false =>
      rw [flt_at hj (fun i hi => ih i hi (by omega)) e] at h
      cases h
/-- who is there has figures and a letter at its places -/
theorem cnt_ok {G : Gs} (hn : tl G ≤ 59) : cnt G ≤ 10 ∧ ∀ p, p < cnt G → 6 * p + 4 < tl G ∧ fig (tb G (6 * p)) = true ∧ fig (tb G (6 * p + 1)) = true ∧ fig (tb G (6 * p + 2)) = true ∧ fig (tb G (6 * p + 3)) = true ∧ (tb G (6 * p + 3) ≠ 48 ∨ tb G (6 * p + 2) ≠ 48) ∧ (tb G (6 * p + 4) = 111 ∨ tb G (6 * p + 4) = 101 ∨ tb G (6 * p + 4) = 102) := by
  unfold cnt
  by_cases h : flt (tl G) (tb G) = none
  · rw [if_pos h]
    refine ⟨by omega, fun p hp => ?_⟩
    have hm : 6 * p + 4 < tl G := by
      have h2 := h
      rw [flt_all (flt_none h)] at h2
      by_cases c : tl G = 0 ∨ tl G % 6 = 5
      · omega
      · rw [if_neg c] at h2; cases h2
    have g := flt_none h
    have g0 := g (6 * p) (by omega)
    have g1 := g (6 * p + 1) (by omega)
    have g2 := g (6 * p + 2) (by omega)
    have g3 := g (6 * p + 3) (by omega)
    have g4 := g (6 * p + 4) (by omega)
    unfold gOn at g0 g1 g2 g3 g4
    rw [if_neg (by omega), if_neg (by omega), if_neg (by omega)] at g0 g1 g2
    rw [if_pos (by omega)] at g3
    rw [if_neg (by omega), if_pos (by omega)] at g4
    simp only [Bool.and_eq_true, Bool.or_eq_true, decide_eq_true_eq, ne_eq] at g3 g4
    refine ⟨hm, g0, g1, g2, g3.1, ?_, ?_⟩
    · rcases g3.2 with q | q
      · exact Or.inl q
      · exact Or.inr (by rw [show 6 * p + 3 - 1 = 6 * p + 2 by omega] at q; exact q)
    · rcases g4 with (q | q) | q
      · exact Or.inl q
      · exact Or.inr (Or.inl q)
      · exact Or.inr (Or.inr q)
  · rw [if_neg h]
    exact ⟨by omega, fun p hp => absurd hp (Nat.not_lt_zero p)⟩
theorem fig_iff {x : Nat} : fig x = true ↔ 48 ≤ x ∧ x ≤ 57 := by
  unfold fig
  simp only [Bool.and_eq_true, decide_eq_true_eq]
theorem two_lt {t : Nat → Nat} {i : Nat} (h1 : fig (t i) = true) (h2 : fig (t (i + 1)) = true) : two t i < 100 := by
  have a := fig_iff.mp h1
  have b := fig_iff.mp h2
  unfold two
  omega
