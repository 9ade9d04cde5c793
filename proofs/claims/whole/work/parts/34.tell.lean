/-! ===== both sides answer alike, call by call ===== -/
def HC (σ : Sg) (o : Option (Int32 × Sg)) (a : Int32) (G : Gs) : Prop := ∃ σ', o = some (a, σ') ∧ RC G σ' ∧ ∀ k, 53 ≤ k → σ' k = σ k
def HM (σ : Sg) (o : Option (Int32 × Sg)) (a : Int32) (G : Gs) : Prop := ∃ σ', o = some (a, σ') ∧ RM G σ' ∧ ∀ k, k < 53 → σ' k = σ k
theorem HC.rf {G : Gs} {σ : Sg} {a : Int32} (h : RC G σ) : HC σ (some (a, σ)) a G := ⟨σ, rfl, h, fun _ _ => rfl⟩
theorem HM.rf {G : Gs} {σ : Sg} {a : Int32} (h : RM G σ) : HM σ (some (a, σ)) a G := ⟨σ, rfl, h, fun _ _ => rfl⟩
/-- all but people and lives -/
def RC1 (G : Gs) (σ : Sg) : Prop := GOk G ∧ CText G σ ∧ COwn G σ ∧ CLet G σ ∧ σ 3 2 = 0 ∧ CDeed G σ ∧ CSheet G σ ∧ CFind G σ
theorem RC1.take {n : Nat} {G : Gs} {σ : Sg} (hn : 300 ≤ n) (h : RC1 G σ) : ∃ σ', fn_X6_takePeople n σ = some σ' ∧ RC G σ' ∧ ∀ k, k = 1 ∨ k = 2 ∨ 20 ≤ k → σ' k = σ k := by
  obtain ⟨g, a1, a2, a4, a5, a6, a7, a8⟩ := h
  obtain ⟨σ1, r1, r2, r3, r4⟩ := sp_tellPeople (n := n) (G := G) (σ := σ) (by omega) ⟨a1.1, g.1, fun i hi => ⟨a1.2 i hi, g.2.1 i hi⟩⟩
  have E : ∀ k, k < 4 ∨ 8 < k → σ1 k = σ k := fun k q => r2 k (by omega) (by omega) (by omega) (by omega) (by omega)
  have h1 : RC0 G σ1 := by
    refine ⟨g, ?_, ?_, ⟨r3, r4⟩, ?_, ?_, ?_, ?_, ?_⟩
    · unfold CText at *
      rw [E 1 (by omega), E 2 (by omega)]; exact a1
    · unfold COwn at *
      rw [E 9 (by omega)]; exact a2
    · unfold CLet at *
      rw [E 10 (by omega), E 11 (by omega), E 12 (by omega), E 13 (by omega), E 14 (by omega), E 15 (by omega)]; exact a4
    · rw [E 3 (by omega)]; exact a5
    · unfold CDeed at *
      rw [E 39 (by omega), E 40 (by omega), E 41 (by omega), E 42 (by omega), E 43 (by omega)]; exact a6
    · intro s hs
      rw [E (45 + 2 * s) (by omega), E (45 + 2 * s + 1) (by omega)]
      exact a7 s hs
    · unfold CFind at *
      rw [E 0 (by omega)]; exact a8
  obtain ⟨σ2, s1, s2, s3⟩ := h1.live hn
  refine ⟨σ2, ?_, s2, fun k q => ?_⟩
  · unfold fn_X6_takePeople
    rw [r1, Option.bind_some, s1]
    rfl
  · rw [s3 k (by omega) (by omega) (by omega) (by omega) (by omega), E k (by omega)]
theorem RC.one {G : Gs} {σ : Sg} (h : RC G σ) : RC1 G σ := ⟨h.1.1, h.1.2.1, h.1.2.2.1, h.1.2.2.2.2.1, h.1.2.2.2.2.2.1, h.1.2.2.2.2.2.2.1, h.1.2.2.2.2.2.2.2.1, h.1.2.2.2.2.2.2.2.2⟩
/-- another text -/
def gText (G : Gs) (n : Nat) (t : Nat → Nat) : Gs := ((n, t, om G), G.2)
theorem gText_ok {G : Gs} {n : Nat} {t : Nat → Nat} (h : GOk G) (hn : n ≤ 59) (ht : ∀ i, i < n → t i < 256) : GOk (gText G n t) := ⟨hn, ht, h.2.2⟩
theorem RC1.text {G : Gs} {σ σ' : Sg} {n : Nat} {t : Nat → Nat} (h : RC1 G σ) (hn : n ≤ 59) (ht : ∀ i, i < n → t i < 256) (e1 : σ' 1 1 = nI n) (e2 : ∀ i, i < n → σ' 2 i = nI (t i)) (e : ∀ k, k ≠ 1 → k ≠ 2 → σ' k = σ k) : RC1 (gText G n t) σ' := by
  obtain ⟨g, a1, a2, a4, a5, a6, a7, a8⟩ := h
  refine ⟨gText_ok g hn ht, ⟨e1, e2⟩, ?_, ?_, ?_, ?_, ?_, ?_⟩
  · unfold COwn at *
    rw [e 9 (by omega) (by omega)]; exact a2
  · unfold CLet at *
    rw [e 10 (by omega) (by omega), e 11 (by omega) (by omega), e 12 (by omega) (by omega), e 13 (by omega) (by omega), e 14 (by omega) (by omega), e 15 (by omega) (by omega)]; exact a4
  · rw [e 3 (by omega) (by omega)]; exact a5
  · unfold CDeed at *
    rw [e 39 (by omega) (by omega), e 40 (by omega) (by omega), e 41 (by omega) (by omega), e 42 (by omega) (by omega), e 43 (by omega) (by omega)]; exact a6
  · intro s hs
    rw [e (45 + 2 * s) (by omega) (by omega), e (45 + 2 * s + 1) (by omega) (by omega)]
    exact a7 s hs
  · unfold CFind at *
    rw [e 0 (by omega) (by omega)]; exact a8
theorem RM.text {G : Gs} {σ σ' : Sg} {n : Nat} {t : Nat → Nat} (h : RM G σ) (hn : n ≤ 59) (ht : ∀ i, i < n → t i < 256) (e1 : σ' 53 1 = nI n) (e2 : ∀ i, i < n → σ' 54 i = nI (t i)) (e : ∀ k, k ≠ 53 → k ≠ 54 → σ' k = σ k) (e0 : ∀ i, i ≠ 1 → σ' 53 i = σ 53 i) : RM (gText G n t) σ' := by
  obtain ⟨⟨g, a1, a2, a3, a6, a7, a8⟩, m⟩ := h
  refine ⟨⟨gText_ok g hn ht, ⟨e1, e2⟩, ?_, ?_, ?_, ?_, ?_⟩, ?_⟩
  · unfold MOwn at *
    rw [e 58 (by omega) (by omega)]; exact a2
  · unfold MLet at *
    rw [e0 7 (by omega), e 59 (by omega) (by omega), e 60 (by omega) (by omega), e 61 (by omega) (by omega), e 62 (by omega) (by omega), e 63 (by omega) (by omega)]; exact a3
  · unfold MDeed at *
    rw [e0 26 (by omega), e 68 (by omega) (by omega), e 69 (by omega) (by omega), e 70 (by omega) (by omega), e 71 (by omega) (by omega)]; exact a6
  · unfold MSheet at *
    rw [e 72 (by omega) (by omega), e 73 (by omega) (by omega), e 74 (by omega) (by omega), e 75 (by omega) (by omega)]; exact a7
  · unfold MFind at *
    rw [e0 36 (by omega)]; exact a8
  · unfold MTold at *
    rw [e0 13 (by omega), e0 14 (by omega), e0 15 (by omega), e0 16 (by omega), e0 17 (by omega)]; exact m
/-- in(x, 0, m) -/
theorem sm_in0 {m : Nat} (hm : m < 2 ^ 31) (x : Int32) (σ : Sg) : (x < 0 ∨ ∃ j, j < 2 ^ 31 ∧ m < j ∧ x = nI j) ∧ fn_X7_in x 0 (nI m) σ = some 0 ∨ (∃ j, j ≤ m ∧ x = nI j) ∧ fn_X7_in x 0 (nI m) σ = some 1 := by
  unfold fn_X7_in
  rcases ma_cases x with q | ⟨j, hj, rfl⟩
  · left
    rw [if_pos q]
    exact ⟨Or.inl q, rfl⟩
  · rw [if_neg (nI_pos hj)]
    by_cases c : m < j
    · left
      rw [if_pos (nI_lt c hj)]
      exact ⟨Or.inr ⟨j, hj, c, rfl⟩, rfl⟩
    · right
      rw [if_neg (nI_nlt (by omega) hm)]
      exact ⟨⟨j, by omega, rfl⟩, rfl⟩
