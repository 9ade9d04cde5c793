/-! ===== the years, as plain mathematics ===== -/
/-- people: how many, born, end, elder, more, own words; letters: how many, writer, reader, year, word, needed, there -/
abbrev Sc : Type := (Nat × (Nat → Nat) × (Nat → Nat) × (Nat → Bool) × (Nat → Nat) × (Nat → Nat → Bool)) × (Nat × (Nat → Nat) × (Nat → Nat) × (Nat → Nat) × (Nat → Nat) × (Nat → Option Nat) × (Nat → Bool))
def cn (S : Sc) : Nat := S.1.1
def bo (S : Sc) : Nat → Nat := S.1.2.1
def en (S : Sc) : Nat → Nat := S.1.2.2.1
def el (S : Sc) : Nat → Bool := S.1.2.2.2.1
def mo (S : Sc) : Nat → Nat := S.1.2.2.2.2.1
def ow (S : Sc) : Nat → Nat → Bool := S.1.2.2.2.2.2
def sz (S : Sc) : Nat := S.2.1
def wr (S : Sc) : Nat → Nat := S.2.2.1
def rd (S : Sc) : Nat → Nat := S.2.2.2.1
def yr (S : Sc) : Nat → Nat := S.2.2.2.2.1
def wd (S : Sc) : Nat → Nat := S.2.2.2.2.2.1
def nd (S : Sc) : Nat → Option Nat := S.2.2.2.2.2.2.1
def ac (S : Sc) : Nat → Bool := S.2.2.2.2.2.2.2
def lvs (S : Sc) (p y : Nat) : Bool := decide (p < cn S) && decide (bo S p ≤ y) && decide (y ≤ bo S p + en S p)
def tls (S : Sc) (p y : Nat) : Nat := y - bo S p + mo S p
def can (S : Sc) (k y : Nat) : Bool := lvs S (rd S k) y && decide (tls S (wr S k) (yr S k) ≤ tls S (rd S k) y)
def wok (S : Sc) (k : Nat) : Bool := ac S k && lvs S (wr S k) (yr S k)
def hrs (S : Sc) (k y p : Nat) : Bool := if el S (rd S k) then decide (p ≠ rd S k) && lvs S p y else decide (p = rd S k)
/-- written, opened when, known since when -/
abbrev Ys : Type := (Nat → Bool) × (Nat → Option Nat) × (Nat → Nat → Option Nat)
def has (st : Ys) (S : Sc) (k : Nat) : Bool := (nd S k).all (fun w => (st.2.2 (rd S k) w).isSome)
def opc (S : Sc) (y k : Nat) (st : Ys) : Bool := st.1 k && (st.2.1 k).isNone && can S k y && has st S k
def opn (S : Sc) (y k : Nat) (st : Ys) : Ys := if opc S y k st = true then (st.1, fun i => if i = k then some y else st.2.1 i, fun p w => if (decide (w = wd S k) && hrs S k y p && (st.2.2 p w).isNone) = true then some y else st.2.2 p w) else st
def wrt (S : Sc) (y : Nat) (st : Ys) : Ys := (fun k => st.1 k || (decide (k < sz S) && decide (yr S k = y) && wok S k && (st.2.2 (wr S k) (wd S k)).isSome), st.2.1, st.2.2)
def opns (S : Sc) (y : Nat) : Nat → Ys → Ys
  | 0, st => st
  | m + 1, st => opn S y m (opns S y m st)
def ini (S : Sc) : Ys := (fun _ => false, fun _ => none, fun p w => if (decide (p < cn S) && ow S p w) = true then some 0 else none)
def sim (S : Sc) : Nat → Ys
  | 0 => ini S
  | y + 1 => opns S y (sz S) (wrt S y (sim S y))
/-! what only grows -/
def leY (y : Nat) (a b : Ys) : Prop := (∀ k, a.1 k = true → b.1 k = true) ∧ (∀ k t, a.2.1 k = some t → b.2.1 k = some t) ∧ (∀ k t, b.2.1 k = some t → a.2.1 k = some t ∨ t = y) ∧ (∀ p w t, a.2.2 p w = some t → b.2.2 p w = some t) ∧ (∀ p w t, b.2.2 p w = some t → a.2.2 p w = some t ∨ t = y)
theorem leY.rf (y : Nat) (a : Ys) : leY y a a := ⟨fun _ h => h, fun _ _ h => h, fun _ _ h => Or.inl h, fun _ _ _ h => h, fun _ _ _ h => Or.inl h⟩
theorem leY.tr {y : Nat} {a b c : Ys} (h : leY y a b) (h2 : leY y b c) : leY y a c :=
  ⟨fun k q => h2.1 k (h.1 k q), fun k t q => h2.2.1 k t (h.2.1 k t q), fun k t q => (h2.2.2.1 k t q).elim (fun z => h.2.2.1 k t z) Or.inr, fun p w t q => h2.2.2.2.1 p w t (h.2.2.2.1 p w t q), fun p w t q => (h2.2.2.2.2 p w t q).elim (fun z => h.2.2.2.2 p w t z) Or.inr⟩
theorem opn_le (S : Sc) (y k : Nat) (st : Ys) : leY y st (opn S y k st) := by
  unfold opn
  by_cases h : opc S y k st = true
  · rw [if_pos h]
    have hO : st.2.1 k = none := by
      unfold opc at h
      simp only [Bool.and_eq_true, Option.isNone_iff_eq_none] at h
      exact h.1.1.2
    refine ⟨fun _ q => q, fun i t q => ?_, fun i t q => ?_, fun p w t q => ?_, fun p w t q => ?_⟩
    · show (if i = k then some y else st.2.1 i) = some t
      rw [if_neg (fun e => by rw [e, hO] at q; cases q)]
      exact q
    · have q' : (if i = k then some y else st.2.1 i) = some t := q
      by_cases e : i = k
      · rw [if_pos e] at q'; exact Or.inr (Option.some.inj q').symm
      · rw [if_neg e] at q'; exact Or.inl q'
    · show (if (decide (w = wd S k) && hrs S k y p && (st.2.2 p w).isNone) = true then some y else st.2.2 p w) = some t
      rw [if_neg (by rw [q]; simp)]
      exact q
    · have q' : (if (decide (w = wd S k) && hrs S k y p && (st.2.2 p w).isNone) = true then some y else st.2.2 p w) = some t := q
      split at q'
      · exact Or.inr (Option.some.inj q').symm
      · exact Or.inl q'
  · rw [if_neg h]
    exact leY.rf y st
theorem opns_le (S : Sc) (y : Nat) : ∀ (m : Nat) (st : Ys), leY y st (opns S y m st)
  | 0, st => leY.rf y st
  | m + 1, st => (opns_le S y m st).tr (opn_le S y m _)
theorem opn_W (S : Sc) (y k : Nat) (st : Ys) : (opn S y k st).1 = st.1 := by
  unfold opn
  split <;> rfl
theorem opns_W (S : Sc) (y : Nat) : ∀ (m : Nat) (st : Ys), (opns S y m st).1 = st.1
  | 0, _ => rfl
  | m + 1, st => (opn_W S y m _).trans (opns_W S y m st)
theorem wrt_le (S : Sc) (y : Nat) (st : Ys) : leY y st (wrt S y st) := by
  refine ⟨fun k q => ?_, fun _ _ q => q, fun _ _ q => Or.inl q, fun _ _ _ q => q, fun _ _ _ q => Or.inl q⟩
  show (st.1 k || _) = true
  rw [q, Bool.true_or]
theorem sim_le (S : Sc) (y : Nat) : leY y (sim S y) (sim S (y + 1)) := (wrt_le S y (sim S y)).tr (opns_le S y (sz S) _)
theorem sim_K_up (S : Sc) {y p w t : Nat} : ∀ (d : Nat), (sim S y).2.2 p w = some t → (sim S (y + d)).2.2 p w = some t
  | 0, h => h
  | d + 1, h => (sim_le S (y + d)).2.2.2.1 p w t (sim_K_up S d h)
theorem sim_O_up (S : Sc) {y k t : Nat} : ∀ (d : Nat), (sim S y).2.1 k = some t → (sim S (y + d)).2.1 k = some t
  | 0, h => h
  | d + 1, h => (sim_le S (y + d)).2.1 k t (sim_O_up S d h)
theorem sim_K_dn (S : Sc) {y p w t : Nat} : ∀ (d : Nat), (sim S (y + d)).2.2 p w = some t → (sim S y).2.2 p w = some t ∨ (y ≤ t ∧ t < y + d)
  | 0, h => Or.inl h
  | d + 1, h => by
    rcases (sim_le S (y + d)).2.2.2.2 p w t h with q | q
    · rcases sim_K_dn S d q with z | z
      · exact Or.inl z
      · exact Or.inr (by omega)
    · exact Or.inr (by omega)
theorem sim_O_dn (S : Sc) {y k t : Nat} : ∀ (d : Nat), (sim S (y + d)).2.1 k = some t → (sim S y).2.1 k = some t ∨ (y ≤ t ∧ t < y + d)
  | 0, h => Or.inl h
  | d + 1, h => by
    rcases (sim_le S (y + d)).2.2.1 k t h with q | q
    · rcases sim_O_dn S d q with z | z
      · exact Or.inl z
      · exact Or.inr (by omega)
    · exact Or.inr (by omega)
theorem sim_K_0 (S : Sc) (p w : Nat) : (sim S 0).2.2 p w = if (decide (p < cn S) && ow S p w) = true then some 0 else none := rfl
theorem sim_K_lt (S : Sc) {y p w t : Nat} (hy : 0 < y) (h : (sim S y).2.2 p w = some t) : t < y := by
  have h2 := sim_K_dn S (y := 0) y (by rw [Nat.zero_add]; exact h)
  rcases h2 with q | q
  · rw [sim_K_0] at q
    split at q
    · cases q; exact hy
    · cases q
  · omega
theorem sim_O_lt (S : Sc) {y k t : Nat} (h : (sim S y).2.1 k = some t) : t < y := by
  have h2 := sim_O_dn S (y := 0) y (by rw [Nat.zero_add]; exact h)
  rcases h2 with q | q
  · have q' : (none : Option Nat) = some t := q
    cases q'
  · omega
/-- what is known behind a year is what is learned by then -/
theorem sim_K_iff (S : Sc) {y z p w : Nat} (h : y < z) : ((sim S (y + 1)).2.2 p w).isSome = true ↔ ∃ t, (sim S z).2.2 p w = some t ∧ t ≤ y := by
  obtain ⟨d, rfl⟩ : ∃ d, z = y + 1 + d := ⟨z - (y + 1), by omega⟩
  constructor
  · intro q
    obtain ⟨t, ht⟩ := Option.isSome_iff_exists.mp q
    exact ⟨t, sim_K_up S d ht, by have := sim_K_lt S (by omega) ht; omega⟩
  · rintro ⟨t, ht, h1⟩
    rcases sim_K_dn S d ht with q | q
    · rw [q]; rfl
    · omega
theorem sim_O_iff (S : Sc) {y z k t : Nat} (h : y < z) : (sim S (y + 1)).2.1 k = some t ↔ (sim S z).2.1 k = some t ∧ t ≤ y := by
  obtain ⟨d, rfl⟩ : ∃ d, z = y + 1 + d := ⟨z - (y + 1), by omega⟩
  constructor
  · intro ht
    exact ⟨sim_O_up S d ht, by have := sim_O_lt S ht; omega⟩
  · rintro ⟨ht, h1⟩
    rcases sim_O_dn S d ht with q | q
    · exact q
    · omega
theorem sim_W (S : Sc) (y k : Nat) : (sim S (y + 1)).1 k = ((sim S y).1 k || (decide (k < sz S) && decide (yr S k = y) && wok S k && ((sim S y).2.2 (wr S k) (wd S k)).isSome)) := by
  show (opns S y (sz S) (wrt S y (sim S y))).1 k = _
  rw [opns_W]
  rfl
theorem sim_W_late (S : Sc) {y k : Nat} : ∀ (d : Nat), yr S k < y → (sim S (y + d)).1 k = (sim S y).1 k
  | 0, _ => rfl
  | d + 1, h => by
    rw [show y + (d + 1) = (y + d) + 1 by omega, sim_W, sim_W_late S d h, decide_eq_false (show ¬ yr S k = y + d by omega), Bool.and_false, Bool.false_and, Bool.false_and, Bool.or_false]
theorem sim_W_early (S : Sc) {k : Nat} : ∀ (y : Nat), y ≤ yr S k → (sim S y).1 k = false
  | 0, _ => rfl
  | y + 1, h => by
    rw [sim_W, sim_W_early S y (by omega), decide_eq_false (show ¬ yr S k = y by omega), Bool.and_false, Bool.false_and, Bool.false_and, Bool.or_false]
theorem sim_W_iff (S : Sc) {y z k : Nat} (h : y < z) : (sim S (y + 1)).1 k = ((sim S z).1 k && decide (yr S k ≤ y)) := by
  obtain ⟨d, rfl⟩ : ∃ d, z = y + 1 + d := ⟨z - (y + 1), by omega⟩
  by_cases c : yr S k ≤ y
  · rw [decide_eq_true c, Bool.and_true, sim_W_late S d (by omega)]
  · rw [decide_eq_false c, Bool.and_false, sim_W_early S _ (by omega)]
/-- a written letter could be written -/
theorem sim_W_ok (S : Sc) {k : Nat} : ∀ (y : Nat), (sim S y).1 k = true → k < sz S ∧ wok S k = true ∧ yr S k < y
  | 0, h => by cases h
  | y + 1, h => by
    rw [sim_W, Bool.or_eq_true] at h
    rcases h with h | h
    · obtain ⟨a, b, c⟩ := sim_W_ok S y h
      exact ⟨a, b, by omega⟩
    · simp only [Bool.and_eq_true, decide_eq_true_eq] at h
      exact ⟨h.1.1.1, h.1.2, by omega⟩
/-- who isn't there knows nothing -/
theorem hrs_cn {S : Sc} {k y p : Nat} (hc : can S k y = true) (h : hrs S k y p = true) : p < cn S := by
  unfold hrs at h
  by_cases e : el S (rd S k) = true
  · rw [if_pos e] at h
    simp only [Bool.and_eq_true, lvs, decide_eq_true_eq] at h
    exact h.2.1.1
  · rw [if_neg e] at h
    have h' := of_decide_eq_true h
    subst h'
    unfold can lvs at hc
    simp only [Bool.and_eq_true, decide_eq_true_eq] at hc
    exact hc.1.1.1
theorem opn_cn (S : Sc) (y k : Nat) (st : Ys) (h : ∀ p w, cn S ≤ p → st.2.2 p w = none) : ∀ p w, cn S ≤ p → (opn S y k st).2.2 p w = none := by
  intro p w hp
  unfold opn
  by_cases c : opc S y k st = true
  · rw [if_pos c]
    show (if (decide (w = wd S k) && hrs S k y p && (st.2.2 p w).isNone) = true then some y else st.2.2 p w) = none
    rw [if_neg, h p w hp]
    intro q
    simp only [Bool.and_eq_true] at q
    unfold opc at c
    simp only [Bool.and_eq_true] at c
    have := hrs_cn c.1.2 q.1.2
    omega
  · rw [if_neg c]
    exact h p w hp
theorem opns_cn (S : Sc) (y : Nat) : ∀ (m : Nat) (st : Ys), (∀ p w, cn S ≤ p → st.2.2 p w = none) → ∀ p w, cn S ≤ p → (opns S y m st).2.2 p w = none
  | 0, _, h => h
  | m + 1, st, h => opn_cn S y m _ (opns_cn S y m st h)
theorem sim_cn (S : Sc) : ∀ (y p w : Nat), cn S ≤ p → (sim S y).2.2 p w = none
  | 0, p, w, h => by
    rw [sim_K_0, if_neg]
    intro q
    simp only [Bool.and_eq_true, decide_eq_true_eq] at q
    omega
  | y + 1, p, w, h => opns_cn S y (sz S) (wrt S y (sim S y)) (fun p w h => sim_cn S y p w h) p w h
