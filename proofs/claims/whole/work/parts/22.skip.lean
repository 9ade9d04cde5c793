/-! ===== when a letter falls due; years in which nothing stirs ===== -/
def du0 (S : Sc) (k : Nat) : Nat := max (yr S k) (bo S (rd S k) + (tls S (wr S k) (yr S k) - mo S (rd S k)))
def dueY (S : Sc) (k : Nat) : Nat := if (lvs S (wr S k) (yr S k) && decide (rd S k < cn S) && lvs S (rd S k) (du0 S k)) = true then du0 S k else 200
theorem lvs_iff {S : Sc} {p y : Nat} : lvs S p y = true ↔ p < cn S ∧ bo S p ≤ y ∧ y ≤ bo S p + en S p := by
  unfold lvs
  simp only [Bool.and_eq_true, decide_eq_true_eq, and_assoc]
theorem can_iff {S : Sc} {k y : Nat} : can S k y = true ↔ lvs S (rd S k) y = true ∧ tls S (wr S k) (yr S k) ≤ tls S (rd S k) y := by
  unfold can
  simp only [Bool.and_eq_true, decide_eq_true_eq]
theorem can_du0 {S : Sc} {k y : Nat} (hy : yr S k ≤ y) : can S k y = true ↔ lvs S (rd S k) y = true ∧ du0 S k ≤ y := by
  rw [can_iff]
  constructor
  · rintro ⟨h1, h2⟩
    refine ⟨h1, ?_⟩
    have h3 := lvs_iff.mp h1
    unfold du0
    unfold tls at h2
    unfold tls
    omega
  · rintro ⟨h1, h2⟩
    refine ⟨h1, ?_⟩
    have h3 := lvs_iff.mp h1
    unfold du0 at h2
    unfold tls at h2
    unfold tls
    omega
theorem due_le {S : Sc} {k y : Nat} (hy : y < 200) (h : dueY S k ≤ y) : dueY S k = du0 S k ∧ lvs S (wr S k) (yr S k) = true ∧ lvs S (rd S k) (du0 S k) = true := by
  unfold dueY at h ⊢
  by_cases c : (lvs S (wr S k) (yr S k) && decide (rd S k < cn S) && lvs S (rd S k) (du0 S k)) = true
  · rw [if_pos c]
    simp only [Bool.and_eq_true] at c
    exact ⟨rfl, c.1.1, c.2⟩
  · rw [if_neg c] at h
    omega
theorem due_can {S : Sc} {k y : Nat} (hw : lvs S (wr S k) (yr S k) = true) (hy : yr S k ≤ y) (h2 : y < 200) : can S k y = true ↔ dueY S k ≤ y ∧ lvs S (rd S k) y = true := by
  rw [can_du0 hy]
  constructor
  · rintro ⟨h3, h4⟩
    refine ⟨?_, h3⟩
    have h5 := lvs_iff.mp h3
    have h6 : lvs S (rd S k) (du0 S k) = true := lvs_iff.mpr ⟨h5.1, by unfold du0; omega, by omega⟩
    unfold dueY
    rw [if_pos (by rw [hw, h6, decide_eq_true h5.1]; rfl)]
    exact h4
  · rintro ⟨h3, h4⟩
    refine ⟨h4, ?_⟩
    rw [(due_le h2 h3).1] at h3
    exact h3
theorem opns_same {S : Sc} {y : Nat} : ∀ (m : Nat) (st : Ys), (∀ k, k < m → (opns S y m st).2.1 k = st.2.1 k) → opns S y m st = st ∧ ∀ k, k < m → opc S y k st = false
  | 0, st, _ => ⟨rfl, fun k h => absurd h (Nat.not_lt_zero k)⟩
  | m + 1, st, h => by
    have hmid : ∀ k, k < m → (opns S y m st).2.1 k = st.2.1 k := by
      intro k hk
      have h1 := h k (by omega)
      have h2 := opns_le S y m st
      have h3 : leY y (opns S y m st) (opns S y (m + 1) st) := opn_le S y m _
      cases e : st.2.1 k with
      | some t => exact h2.2.1 k t e
      | none =>
        cases e2 : (opns S y m st).2.1 k with
        | none => rfl
        | some t =>
          have h4 := h3.2.1 k t e2
          rw [h1, e] at h4
          cases h4
    obtain ⟨i1, i2⟩ := opns_same m st hmid
    have e1 : opns S y (m + 1) st = opn S y m st := by
      show opn S y m (opns S y m st) = _
      rw [i1]
    have hm := h m (by omega)
    rw [e1] at hm
    by_cases c : opc S y m st = true
    · exfalso
      unfold opn at hm
      rw [if_pos c] at hm
      have hm' : (if m = m then some y else st.2.1 m) = st.2.1 m := hm
      rw [if_pos rfl] at hm'
      unfold opc at c
      simp only [Bool.and_eq_true, Option.isNone_iff_eq_none] at c
      rw [c.1.1.2] at hm'
      cases hm'
    · refine ⟨?_, fun k hk => ?_⟩
      · rw [e1]
        unfold opn
        rw [if_neg c]
      · by_cases e : k < m
        · exact i2 k e
        · have : k = m := by omega
          subst this
          simpa using c
theorem opns_none {S : Sc} {y : Nat} : ∀ (m : Nat) (st : Ys), (∀ k, k < m → opc S y k st = false) → opns S y m st = st
  | 0, _, _ => rfl
  | m + 1, st, h => by
    have i1 := opns_none m st (fun k hk => h k (by omega))
    show opn S y m (opns S y m st) = st
    rw [i1]
    unfold opn
    rw [if_neg (by rw [h m (by omega)]; decide)]
theorem wrt_none {S : Sc} {y : Nat} {st : Ys} (h : ∀ k, k < sz S → yr S k ≠ y) : wrt S y st = st := by
  unfold wrt
  have e : (fun k => st.1 k || (decide (k < sz S) && decide (yr S k = y) && wok S k && (st.2.2 (wr S k) (wd S k)).isSome)) = st.1 := by
    funext k
    by_cases c : k < sz S
    · rw [decide_eq_false (h k c), Bool.and_false, Bool.false_and, Bool.false_and, Bool.or_false]
    · rw [decide_eq_false c, Bool.false_and, Bool.false_and, Bool.false_and, Bool.or_false]
  rw [e]
/-- no letter is opened in year y; till N none is written, none falls due: the years till N change nothing -/
theorem sim_skip {S : Sc} {y N : Nat} (hN : N ≤ 200) (hy : y < N) (h0 : ∀ k, k < sz S → (sim S (y + 1)).2.1 k = (sim S y).2.1 k) (h1 : ∀ k, k < sz S → y < yr S k → N ≤ yr S k) (h2 : ∀ k, k < sz S → yr S k ≤ y → (sim S (y + 1)).1 k = true → (sim S (y + 1)).2.1 k = none → y < dueY S k → N ≤ dueY S k) :
    ∀ d, y + 1 + d ≤ N → sim S (y + 1 + d) = sim S (y + 1) := by
  obtain ⟨s1, s2⟩ := opns_same (S := S) (y := y) (sz S) (wrt S y (sim S y)) h0
  have s3 : sim S (y + 1) = wrt S y (sim S y) := s1
  intro d
  induction d with
  | zero => intro _; rfl
  | succ d ih =>
    intro hd
    have ih' := ih (by omega)
    show opns S (y + 1 + d) (sz S) (wrt S (y + 1 + d) (sim S (y + 1 + d))) = _
    rw [ih', wrt_none (fun k hk e => by have := h1 k hk (by omega); omega)]
    apply opns_none
    intro k hk
    have hk2 := s2 k hk
    rw [← s3] at hk2
    by_cases cW : (sim S (y + 1)).1 k = true
    · obtain ⟨-, w2, w3⟩ := sim_W_ok S (y + 1) cW
      have hwl : lvs S (wr S k) (yr S k) = true := by
        unfold wok at w2
        simp only [Bool.and_eq_true] at w2
        exact w2.2
      by_cases cO : (sim S (y + 1)).2.1 k = none
      · unfold opc at hk2 ⊢
        rw [cW, cO] at hk2 ⊢
        simp only [Option.isNone_none, Bool.true_and, Bool.and_true] at hk2 ⊢
        by_cases cH : has (sim S (y + 1)) S k = true
        · rw [cH, Bool.and_true] at hk2 ⊢
          by_cases cD : y < dueY S k
          · have h3 := h2 k hk (by omega) cW cO cD
            by_cases c : can S k (y + 1 + d) = true
            · exfalso
              have h4 := ((due_can hwl (by omega) (by omega)).mp c).1
              omega
            · simpa using c
          · by_cases c : can S k (y + 1 + d) = true
            · exfalso
              have h4 := ((due_can hwl (by omega) (by omega)).mp c).2
              have h5 := due_le (by omega) (Nat.not_lt.mp cD)
              have h6 := lvs_iff.mp h5.2.2
              have h7 := lvs_iff.mp h4
              have h8 : can S k y = true := (due_can hwl (by omega) (by omega)).mpr ⟨by omega, lvs_iff.mpr ⟨h6.1, by omega, by omega⟩⟩
              rw [h8] at hk2
              cases hk2
            · simpa using c
        · simp only [Bool.not_eq_true] at cH
          rw [cH, Bool.and_false]
      · unfold opc
        cases e : (sim S (y + 1)).2.1 k with
        | none => exact absurd e cO
        | some t => simp
    · unfold opc
      simp only [Bool.not_eq_true] at cW
      rw [cW]
      rfl
