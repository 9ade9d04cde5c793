/-! person, knows, letter, back, done, forget -/
theorem sp_below {m : Nat} (hm : m < 2 ^ 31) (x : Int32) (σ : Sg) : (x < 0 ∨ ∃ j, j < 2 ^ 31 ∧ m ≤ j ∧ x = nI j) ∧ fn_X6_isBelow x (nI m) σ = some 0 ∨ (∃ j, j < m ∧ x = nI j) ∧ fn_X6_isBelow x (nI m) σ = some 1 := by
  unfold fn_X6_isBelow
  rcases ma_cases x with q | ⟨j, hj, rfl⟩
  · left
    rw [if_pos q]
    exact ⟨Or.inl q, rfl⟩
  · rw [if_neg (nI_pos hj)]
    by_cases c : m ≤ j
    · left
      rw [if_pos (nI_le c hj)]
      exact ⟨Or.inr ⟨j, hj, c, rfl⟩, rfl⟩
    · right
      rw [if_neg (nI_ge (by omega) (by omega))]
      exact ⟨⟨j, by omega, rfl⟩, rfl⟩
/-- the same bound on both sides -/
theorem bo_ck {m : Nat} (hm : m + 1 < 2 ^ 31) (x : Int32) (σ τ : Sg) : (∃ j, j < m + 1 ∧ x = nI j) ∧ fn_X6_isBelow x (nI (m + 1)) σ = some 1 ∧ fn_X7_in x 0 (nI m) τ = some 1 ∨ fn_X6_isBelow x (nI (m + 1)) σ = some 0 ∧ fn_X7_in x 0 (nI m) τ = some 0 := by
  rcases sp_below hm x σ with ⟨h1, e1⟩ | ⟨⟨j, hj, rfl⟩, e1⟩
  · right
    refine ⟨e1, ?_⟩
    rcases sm_in0 (m := m) (by omega) x τ with ⟨-, e2⟩ | ⟨⟨j, hj, rfl⟩, e2⟩
    · exact e2
    · rcases h1 with q | ⟨j', a, b, c⟩
      · exact absurd q (nI_pos (by omega))
      · have := (nI_eq (by omega) a).mp c
        omega
  · left
    refine ⟨⟨j, hj, rfl⟩, e1, ?_⟩
    rcases sm_in0 (m := m) (by omega) (nI j) τ with ⟨h2, e2⟩ | ⟨-, e2⟩
    · rcases h2 with q | ⟨j', a, b, c⟩
      · exact absurd q (nI_pos (by omega))
      · have := (nI_eq (by omega) a).mp c
        omega
    · exact e2
theorem sm_ten {x : Int32} {σ : Sg} {a : Int32} (h : fn_X7_in x 0 9 σ = some a) (ha : ag_bl a = true) : fn_X7_isTen x σ = some a := by
  unfold fn_X7_isTen
  rw [h, Option.bind_some, if_pos ha]
theorem sm_year {x : Int32} {σ : Sg} {a : Int32} (h : fn_X7_in x 0 199 σ = some a) (ha : ag_bl a = true) : fn_X7_isYear x σ = some a := by
  unfold fn_X7_isYear
  rw [h, Option.bind_some, if_pos ha]
theorem sm_word {x : Int32} {σ : Sg} {a : Int32} (h : fn_X7_in x 0 7 σ = some a) (ha : ag_bl a = true) : fn_X7_isWord x σ = some a := by
  unfold fn_X7_isWord
  rw [h, Option.bind_some, if_pos ha]
theorem sm_sheet {x : Int32} {σ : Sg} {a : Int32} (h : fn_X7_in x 0 3 σ = some a) (ha : ag_bl a = true) : fn_X7_isSheet x σ = some a := by
  unfold fn_X7_isSheet
  rw [h, Option.bind_some, if_pos ha]
theorem bl0 : ag_bl 0 = true := by decide
theorem bl1 : ag_bl 1 = true := by decide
theorem ck_ten (x : Int32) (σ τ : Sg) : (∃ j, j < 10 ∧ x = nI j) ∧ fn_X6_isBelow x 10 σ = some 1 ∧ fn_X7_isTen x τ = some 1 ∨ fn_X6_isBelow x 10 σ = some 0 ∧ fn_X7_isTen x τ = some 0 := by
  rcases bo_ck (m := 9) (by omega) x σ τ with ⟨a, b, c⟩ | ⟨b, c⟩
  · exact Or.inl ⟨a, b, sm_ten c bl1⟩
  · exact Or.inr ⟨b, sm_ten c bl0⟩
theorem ck_year (x : Int32) (σ τ : Sg) : (∃ j, j < 200 ∧ x = nI j) ∧ fn_X6_isBelow x 200 σ = some 1 ∧ fn_X7_isYear x τ = some 1 ∨ fn_X6_isBelow x 200 σ = some 0 ∧ fn_X7_isYear x τ = some 0 := by
  rcases bo_ck (m := 199) (by omega) x σ τ with ⟨a, b, c⟩ | ⟨b, c⟩
  · exact Or.inl ⟨a, b, sm_year c bl1⟩
  · exact Or.inr ⟨b, sm_year c bl0⟩
theorem ck_word (x : Int32) (σ τ : Sg) : (∃ j, j < 8 ∧ x = nI j) ∧ fn_X6_isBelow x 8 σ = some 1 ∧ fn_X7_isWord x τ = some 1 ∨ fn_X6_isBelow x 8 σ = some 0 ∧ fn_X7_isWord x τ = some 0 := by
  rcases bo_ck (m := 7) (by omega) x σ τ with ⟨a, b, c⟩ | ⟨b, c⟩
  · exact Or.inl ⟨a, b, sm_word c bl1⟩
  · exact Or.inr ⟨b, sm_word c bl0⟩
theorem ck_sheet (x : Int32) (σ τ : Sg) : (∃ j, j < 4 ∧ x = nI j) ∧ fn_X6_isBelow x 4 σ = some 1 ∧ fn_X7_isSheet x τ = some 1 ∨ fn_X6_isBelow x 4 σ = some 0 ∧ fn_X7_isSheet x τ = some 0 := by
  rcases bo_ck (m := 3) (by omega) x σ τ with ⟨a, b, c⟩ | ⟨b, c⟩
  · exact Or.inl ⟨a, b, sm_sheet c bl1⟩
  · exact Or.inr ⟨b, sm_sheet c bl0⟩
theorem n10 : ¬ (1 : Int32) = 0 := by decide
/-- isPerson, on both sides -/
theorem ck_pers {n : Nat} {G : Gs} {σ τ : Sg} (hn : 20 ≤ n) (hc : RC G σ) (hm : RM G τ) (x : Int32) : ∃ τ', RM G τ' ∧ MFolk G τ' ∧ (∀ k, k < 53 → τ' k = τ k) ∧ ((∃ j, j < cnt G ∧ x = nI j) ∧ fn_X1_isThere 4 x σ = some 1 ∧ fn_X7_isPerson n x τ = some (1, τ') ∨ fn_X1_isThere 4 x σ = some 0 ∧ fn_X7_isPerson n x τ = some (0, τ')) := by
  obtain ⟨τ', r1, r2, r3, r4⟩ := hm.1.reads hn
  have hl : cnt G ≤ 10 := (cnt_ok hc.1.1.1).1
  have c1 : σ 4 0 = nI (cnt G) := hc.1.2.2.2.1.1
  refine ⟨τ', ⟨r3, hm.2.f5 r2⟩, r4, fun k hk => r2.2 k (by omega) (by omega) (by omega) (by omega), ?_⟩
  unfold fn_X1_isThere fn_X7_isPerson fn_X7_in
  rw [r1, Option.bind_some, r4.1, c1]
  rcases ma_cases x with q | ⟨j, hj, rfl⟩
  · right
    rw [if_pos q, if_pos q, Option.bind_some, if_pos bl0]
    exact ⟨rfl, rfl⟩
  · rw [if_neg (nI_pos hj), if_neg (nI_pos hj)]
    by_cases c : j < cnt G
    · left
      obtain ⟨m, e⟩ : ∃ m, cnt G = m + 1 := ⟨cnt G - 1, by omega⟩
      rw [if_neg (nI_ge c (by omega)), e, nI_pred, if_neg (nI_nlt (by omega) (by omega)), Option.bind_some, if_pos bl1]
      exact ⟨⟨j, by omega, rfl⟩, rfl, rfl⟩
    · right
      have q : nI (cnt G) - 1 < nI j := by
        by_cases z : cnt G = 0
        · rw [z]
          exact Int32.lt_of_lt_of_le (show nI 0 - 1 < (0 : Int32) by decide) (nI_pos' hj)
        · obtain ⟨m, e⟩ : ∃ m, cnt G = m + 1 := ⟨cnt G - 1, by omega⟩
          rw [e, nI_pred]
          exact nI_lt (by omega) hj
      rw [if_pos (nI_le (by omega) hj), if_pos q, Option.bind_some, if_pos bl0]
      exact ⟨rfl, rfl⟩
theorem bo_person {n : Nat} {G : Gs} {σ τ : Sg} {x1 x2 : Int32} (hn : 20 ≤ n) (hc : RC G σ) (hm : RM G τ) : ∃ a, fn_X6_person x1 x2 σ = some a ∧ HM τ (fn_X7_person n x1 x2 τ) a G := by
  have hl : cnt G ≤ 10 := (cnt_ok hc.1.1.1).1
  obtain ⟨τ', hm', hf, ek, h⟩ := ck_pers hn hc hm x1
  unfold fn_X6_person fn_X7_person
  rcases h with ⟨⟨j, hj, rfl⟩, e1, e2⟩ | ⟨e1, e2⟩
  · rw [e1, e2, Option.bind_some, Option.bind_some, if_neg n10]
    dsimp only
    rw [if_neg n10]
    obtain ⟨a1, a2, a3, a4⟩ := hc.1.2.2.2.1.2 j hj
    obtain ⟨b1, b2, b3⟩ := hf.2 j hj
    rcases sm_in0 (m := 2) (by omega) x2 τ' with ⟨h2, e⟩ | ⟨⟨i, hi, rfl⟩, e⟩
    · rw [show fn_X7_in x2 0 2 τ' = _ from e, Option.bind_some, if_pos rfl]
      have N : ∀ i : Nat, i ≤ 2 → ¬ x2 = nI i := by
        intro i hi q
        rcases h2 with z | ⟨j', z1, z2, rfl⟩
        · rw [q] at z; exact nI_pos (by omega) z
        · have := (nI_eq z1 (by omega)).mp q
          omega
      refine ⟨-2, ?_, τ', rfl, hm', ek⟩
      rw [if_neg (show ¬ x2 = 0 from N 0 (by omega)), if_neg (show ¬ x2 = 1 from N 1 (by omega)), if_neg (show ¬ x2 = 2 from N 2 (by omega))]
    · rw [show fn_X7_in (nI i) 0 2 τ' = _ from e, Option.bind_some, if_neg n10, ma_cl (by omega)]
      by_cases c0 : i = 0
      · subst c0
        rw [if_pos (show nI 0 = 0 from rfl), if_pos (show nI 0 = 0 from rfl), if_pos (ma_ib (show j < 10 by omega) (by omega)), if_pos (ma_ib (show j < 11 by omega) (by omega))]
        exact ⟨_, rfl, τ', by rw [a1, b1], hm', ek⟩
      · rw [if_neg (show ¬ nI i = 0 from nI_ne0 (by omega) (by omega)), if_neg (show ¬ nI i = 0 from nI_ne0 (by omega) (by omega))]
        by_cases c1 : i = 1
        · subst c1
          rw [if_pos (show nI 1 = 1 from rfl), if_pos (show nI 1 = 1 from rfl), if_pos (ma_ib (show j < 10 by omega) (by omega)), if_pos (ma_ib (show j < 11 by omega) (by omega))]
          exact ⟨_, rfl, τ', by rw [a2, b2], hm', ek⟩
        · have c2 : i = 2 := by omega
          subst c2
          rw [if_neg (show ¬ nI 2 = 1 by decide), if_neg (show ¬ nI 2 = 1 by decide), if_pos (show nI 2 = 2 from rfl), if_pos (ma_ib (show j < 10 by omega) (by omega)), if_pos (ma_ib (show j < 11 by omega) (by omega))]
          exact ⟨_, rfl, τ', by rw [a3, b3], hm', ek⟩
  · rw [e1, e2]
    exact ⟨-2, rfl, τ', rfl, hm', ek⟩
theorem bo_knows {n : Nat} {G : Gs} {σ τ : Sg} {x1 x2 : Int32} (hn : 300 ≤ n) (hc : RC G σ) (hm : RM G τ) : ∃ a G', HC σ (fn_X6_knows n x1 x2 σ) a G' ∧ HM τ (fn_X7_knows x1 x2 τ) a G' := by
  unfold fn_X6_knows fn_X7_knows
  rcases ck_ten x1 σ τ with ⟨⟨p, hp, rfl⟩, e1, e2⟩ | ⟨e1, e2⟩
  · rw [e1, e2, Option.bind_some, Option.bind_some, if_neg n10, if_neg n10]
    rcases bo_ck (m := 255) (by omega) x2 σ τ with ⟨⟨w, hw, rfl⟩, e3, e4⟩ | ⟨e3, e4⟩
    · rw [show fn_X6_isBelow (nI w) 256 σ = _ from e3, show fn_X7_in (nI w) 0 255 τ = _ from e4, Option.bind_some, Option.bind_some, if_neg n10, if_neg n10, if_pos (ma_ib hp (by omega)), if_pos (ma_ib hp (by omega)), if_pos (ma_ib hp (by omega)), if_pos (ma_ib hp (by omega)), ma_cl (by omega)]
      have g := hc.1.1
      have g' : GOk ((tl G, tb G, fun q => if q = p then w else om G q), G.2) := by
        refine ⟨g.1, g.2.1, fun q hq => ?_, g.2.2.2⟩
        show (if q = p then w else om G q) < 256
        by_cases z : q = p
        · rw [if_pos z]; omega
        · rw [if_neg z]; exact g.2.2.1 q hq
      obtain ⟨⟨-, a1, a2, a3, a4, a5, a6, a7, a8⟩, -⟩ := hc
      have c0 : RC0 ((tl G, tb G, fun q => if q = p then w else om G q), G.2) (ag_up σ 9 p (nI w)) := by
        refine ⟨g', ?_, ?_, ?_, ?_, ?_, ?_, ?_, ?_⟩
        · unfold CText at *
          rw [ag_up_ne (show 1 ≠ 9 by decide), ag_up_ne (show 2 ≠ 9 by decide)]; exact a1
        · intro q hq
          show _ = nI (if q = p then w else om G q)
          by_cases z : q = p
          · rw [if_pos z, z, ma_up_s]
          · rw [if_neg z, ma_up_i z]; exact a2 q hq
        · unfold CFolk FC at *
          rw [ag_up_ne (show 4 ≠ 9 by decide), ag_up_ne (show 5 ≠ 9 by decide), ag_up_ne (show 6 ≠ 9 by decide), ag_up_ne (show 7 ≠ 9 by decide), ag_up_ne (show 8 ≠ 9 by decide)]; exact a3
        · unfold CLet at *
          rw [ag_up_ne (show 10 ≠ 9 by decide), ag_up_ne (show 11 ≠ 9 by decide), ag_up_ne (show 12 ≠ 9 by decide), ag_up_ne (show 13 ≠ 9 by decide), ag_up_ne (show 14 ≠ 9 by decide), ag_up_ne (show 15 ≠ 9 by decide)]; exact a4
        · rw [ag_up_ne (show 3 ≠ 9 by decide)]; exact a5
        · unfold CDeed at *
          rw [ag_up_ne (show 39 ≠ 9 by decide), ag_up_ne (show 40 ≠ 9 by decide), ag_up_ne (show 41 ≠ 9 by decide), ag_up_ne (show 42 ≠ 9 by decide), ag_up_ne (show 43 ≠ 9 by decide)]; exact a6
        · intro s hs
          rw [ag_up_ne (show 45 + 2 * s ≠ 9 by omega), ag_up_ne (show 45 + 2 * s + 1 ≠ 9 by omega)]; exact a7 s hs
        · unfold CFind at *
          rw [ag_up_ne (show 0 ≠ 9 by decide)]; exact a8
      obtain ⟨σ', r1, r2, r3⟩ := c0.live hn
      obtain ⟨⟨-, b1, b2, b3, b6, b7, b8⟩, bm⟩ := hm
      refine ⟨nI (om G p), _, ⟨σ', by rw [r1, Option.bind_some, a2 p hp], r2, fun k hk => by rw [r3 k (by omega) (by omega) (by omega) (by omega) (by omega), ag_up_ne (by omega)]⟩, ⟨ag_up τ 58 p (nI w), by rw [b2 p hp], ⟨⟨g', ?_, ?_, ?_, ?_, ?_, ?_⟩, ?_⟩, fun k hk => ag_up_ne (by omega)⟩⟩
      · unfold MText at *
        rw [ag_up_ne (show 53 ≠ 58 by decide), ag_up_ne (show 54 ≠ 58 by decide)]; exact b1
      · intro q hq
        show _ = nI (if q = p then w else om G q)
        by_cases z : q = p
        · rw [if_pos z, z, ma_up_s]
        · rw [if_neg z, ma_up_i z]; exact b2 q hq
      · unfold MLet at *
        rw [ag_up_ne (show 53 ≠ 58 by decide), ag_up_ne (show 59 ≠ 58 by decide), ag_up_ne (show 60 ≠ 58 by decide), ag_up_ne (show 61 ≠ 58 by decide), ag_up_ne (show 62 ≠ 58 by decide), ag_up_ne (show 63 ≠ 58 by decide)]; exact b3
      · unfold MDeed at *
        rw [ag_up_ne (show 53 ≠ 58 by decide), ag_up_ne (show 68 ≠ 58 by decide), ag_up_ne (show 69 ≠ 58 by decide), ag_up_ne (show 70 ≠ 58 by decide), ag_up_ne (show 71 ≠ 58 by decide)]; exact b6
      · unfold MSheet at *
        rw [ag_up_ne (show 72 ≠ 58 by decide), ag_up_ne (show 73 ≠ 58 by decide), ag_up_ne (show 74 ≠ 58 by decide), ag_up_ne (show 75 ≠ 58 by decide)]; exact b7
      · unfold MFind at *
        rw [ag_up_ne (show 53 ≠ 58 by decide)]; exact b8
      · unfold MTold at *
        rw [ag_up_ne (show 53 ≠ 58 by decide)]; exact bm
    · rw [show fn_X6_isBelow x2 256 σ = _ from e3, show fn_X7_in x2 0 255 τ = _ from e4]
      exact ⟨-2, G, HC.rf hc, HM.rf hm⟩
  · rw [e1, e2]
    exact ⟨-2, G, HC.rf hc, HM.rf hm⟩
