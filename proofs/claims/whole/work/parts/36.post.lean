/-! letter, back -/
theorem CText.kp {G : Gs} {σ σ' : Sg} (h : CText G σ) (e1 : σ' 1 = σ 1) (e2 : σ' 2 = σ 2) : CText G σ' := by
  unfold CText at *; rw [e1, e2]; exact h
theorem COwn.kp {G : Gs} {σ σ' : Sg} (h : COwn G σ) (e : σ' 9 = σ 9) : COwn G σ' := by
  unfold COwn at *; rw [e]; exact h
theorem CFolk.kp {G : Gs} {σ σ' : Sg} (h : CFolk G σ) (e : ∀ k, 4 ≤ k → k ≤ 8 → σ' k = σ k) : CFolk G σ' := by
  unfold CFolk FC at *
  rw [e 4 (by omega) (by omega), e 5 (by omega) (by omega), e 6 (by omega) (by omega), e 7 (by omega) (by omega), e 8 (by omega) (by omega)]; exact h
theorem CLet.kp {G : Gs} {σ σ' : Sg} (h : CLet G σ) (e : ∀ k, 10 ≤ k → k ≤ 15 → σ' k = σ k) : CLet G σ' := by
  unfold CLet at *
  rw [e 10 (by omega) (by omega), e 11 (by omega) (by omega), e 12 (by omega) (by omega), e 13 (by omega) (by omega), e 14 (by omega) (by omega), e 15 (by omega) (by omega)]; exact h
theorem CDeed.kp {G : Gs} {σ σ' : Sg} (h : CDeed G σ) (e : ∀ k, 39 ≤ k → k ≤ 43 → σ' k = σ k) : CDeed G σ' := by
  unfold CDeed at *
  rw [e 39 (by omega) (by omega), e 40 (by omega) (by omega), e 41 (by omega) (by omega), e 42 (by omega) (by omega), e 43 (by omega) (by omega)]; exact h
theorem CSheet.kp {G : Gs} {σ σ' : Sg} (h : CSheet G σ) (e : ∀ k, 45 ≤ k → k ≤ 52 → σ' k = σ k) : CSheet G σ' := by
  intro s hs
  rw [e (45 + 2 * s) (by omega) (by omega), e (45 + 2 * s + 1) (by omega) (by omega)]; exact h s hs
theorem CFind.kp {G : Gs} {σ σ' : Sg} (h : CFind G σ) (e : σ' 0 = σ 0) : CFind G σ' := by
  unfold CFind at *; rw [e]; exact h
theorem MText.kp {G : Gs} {σ σ' : Sg} (h : MText G σ) (e1 : σ' 53 1 = σ 53 1) (e2 : σ' 54 = σ 54) : MText G σ' := by
  unfold MText at *; rw [e1, e2]; exact h
theorem MOwn.kp {G : Gs} {σ σ' : Sg} (h : MOwn G σ) (e : σ' 58 = σ 58) : MOwn G σ' := by
  unfold MOwn at *; rw [e]; exact h
theorem MLet.kp {G : Gs} {σ σ' : Sg} (h : MLet G σ) (e7 : σ' 53 7 = σ 53 7) (e : ∀ k, 59 ≤ k → k ≤ 63 → σ' k = σ k) : MLet G σ' := by
  unfold MLet at *
  rw [e7, e 59 (by omega) (by omega), e 60 (by omega) (by omega), e 61 (by omega) (by omega), e 62 (by omega) (by omega), e 63 (by omega) (by omega)]; exact h
theorem MDeed.kp {G : Gs} {σ σ' : Sg} (h : MDeed G σ) (e26 : σ' 53 26 = σ 53 26) (e : ∀ k, 68 ≤ k → k ≤ 71 → σ' k = σ k) : MDeed G σ' := by
  unfold MDeed at *
  rw [e26, e 68 (by omega) (by omega), e 69 (by omega) (by omega), e 70 (by omega) (by omega), e 71 (by omega) (by omega)]; exact h
theorem MSheet.kp {G : Gs} {σ σ' : Sg} (h : MSheet G σ) (e : ∀ k, 72 ≤ k → k ≤ 75 → σ' k = σ k) : MSheet G σ' := by
  unfold MSheet at *
  rw [e 72 (by omega) (by omega), e 73 (by omega) (by omega), e 74 (by omega) (by omega), e 75 (by omega) (by omega)]; exact h
theorem MFind.kp {G : Gs} {σ σ' : Sg} (h : MFind G σ) (e : σ' 53 36 = σ 53 36) : MFind G σ' := by
  unfold MFind at *; rw [e]; exact h
theorem MTold.kp {σ σ' : Sg} (h : MTold σ) (e : ∀ i, 13 ≤ i → i ≤ 17 → σ' 53 i = σ 53 i) : MTold σ' := by
  unfold MTold at *
  rw [e 13 (by omega) (by omega), e 14 (by omega) (by omega), e 15 (by omega) (by omega), e 16 (by omega) (by omega), e 17 (by omega) (by omega)]; exact h
/-- one letter more -/
def gAdd (G : Gs) (a b y w : Nat) (o : Option Nat) : Gs := (G.1, (ls G + 1, fun k => if k = ls G then a else lw G k, fun k => if k = ls G then b else lr G k, fun k => if k = ls G then y else ly G k, fun k => if k = ls G then w else lo_ G k, fun k => if k = ls G then o else ln_ G k), G.2.2)
theorem gAdd_ok {G : Gs} {a b y w : Nat} {o : Option Nat} (g : GOk G) (hl : ls G < 12) (ha : a < 10) (hb : b < 10) (hab : a ≠ b) (hy : y < 200) (hw : w < 8) (ho : ∀ v, o = some v → v < 8) : GOk (gAdd G a b y w o) := by
  refine ⟨g.1, g.2.1, g.2.2.1, show ls G + 1 ≤ 12 by omega, fun k hk => ?_, g.2.2.2.2.2⟩
  have hk' : k < ls G + 1 := hk
  show (if k = ls G then a else lw G k) < 10 ∧ (if k = ls G then b else lr G k) < 10 ∧ (if k = ls G then a else lw G k) ≠ (if k = ls G then b else lr G k) ∧ (if k = ls G then y else ly G k) < 200 ∧ (if k = ls G then w else lo_ G k) < 8 ∧ ∀ v, (if k = ls G then o else ln_ G k) = some v → v < 8
  by_cases c : k = ls G
  · simp only [if_pos c]
    exact ⟨ha, hb, hab, hy, hw, ho⟩
  · simp only [if_neg c]
    exact g.2.2.2.2.1 k (by omega)
theorem sp_setLast {G : Gs} {σ : Sg} {a b y w : Nat} {o : Option Nat} (h : RC0 G σ) (hl : ls G < 12) (g' : GOk (gAdd G a b y w o)) : ∃ σ', fn_X2_setLast 10 (nI a) (nI b) (nI y) (nI w) (oI o) (ag_up σ 10 0 (nI (ls G + 1))) = some σ' ∧ RC0 (gAdd G a b y w o) σ' ∧ σ' 10 0 = nI (ls G + 1) ∧ ∀ k, k < 10 ∨ 15 < k → σ' k = σ k := by
  unfold fn_X2_setLast
  rw [ma_up_s, nI_pred, if_neg (nI_pos (by omega)), if_pos (show nI (ls G) < (13 : Int32) from nI_lt (b := 13) (by omega) (by omega)), if_pos (ma_ib (by omega) (by omega)), if_pos (ma_ib (by omega) (by omega)), ma_cl (by omega)]
  unfold ag_sg
  dsimp only
  rw [if_pos (ma_ib (by omega) (by omega)), if_pos (ma_ib (by omega) (by omega)), if_pos (ma_ib (by omega) (by omega))]
  refine ⟨_, rfl, ?_, ?_, fun k hk => ?_⟩
  · obtain ⟨g, a1, a2, a3, a4, a5, a6, a7, a8⟩ := h
    have E : ∀ k, k < 10 ∨ 15 < k → ag_up (ag_up (ag_up (ag_up (ag_up (ag_up σ 10 0 (nI (ls G + 1))) (10 + 1) (ls G) (nI a)) (10 + 2) (ls G) (nI b)) (10 + 3) (ls G) (nI y)) (10 + 4) (ls G) (nI w)) (10 + 5) (ls G) (oI o) k = σ k := fun k hk => by
      rw [ag_up_ne (by omega), ag_up_ne (by omega), ag_up_ne (by omega), ag_up_ne (by omega), ag_up_ne (by omega), ag_up_ne (by omega)]
    refine ⟨g', a1.kp (E 1 (by omega)) (E 2 (by omega)), a2.kp (E 9 (by omega)), a3.kp (fun k p q => E k (by omega)), ⟨?_, fun k hk => ?_⟩, ?_, a6.kp (fun k p q => E k (by omega)), a7.kp (fun k p q => E k (by omega)), a8.kp (E 0 (by omega))⟩
    · rw [ag_up_ne (by decide), ag_up_ne (by decide), ag_up_ne (by decide), ag_up_ne (by decide), ag_up_ne (by decide), ma_up_s]; rfl
    · have hk' : k < ls G + 1 := hk
      show _ = nI (if k = ls G then a else lw G k) ∧ _ = nI (if k = ls G then b else lr G k) ∧ _ = nI (if k = ls G then y else ly G k) ∧ _ = nI (if k = ls G then w else lo_ G k) ∧ _ = oI (if k = ls G then o else ln_ G k)
      by_cases c : k = ls G
      · simp only [if_pos c]
        subst c
        refine ⟨?_, ?_, ?_, ?_, ma_up_s _ _ _ _⟩
        · rw [ag_up_ne (by decide), ag_up_ne (by decide), ag_up_ne (by decide), ag_up_ne (by decide)]; exact ma_up_s _ _ _ _
        · rw [ag_up_ne (by decide), ag_up_ne (by decide), ag_up_ne (by decide)]; exact ma_up_s _ _ _ _
        · rw [ag_up_ne (by decide), ag_up_ne (by decide)]; exact ma_up_s _ _ _ _
        · rw [ag_up_ne (by decide)]; exact ma_up_s _ _ _ _
      · simp only [if_neg c]
        rw [ma_up_i c, ma_up_i c, ma_up_i c, ma_up_i c, ma_up_i c, ma_up_i c, ma_up_i c, ma_up_i c, ma_up_i c, ma_up_i c, ma_up_i c, ma_up_i c, ma_up_i c, ma_up_i c, ma_up_i c, ma_up_i c, ma_up_i c, ma_up_i c, ma_up_i c, ma_up_i c, ma_up_i c, ma_up_i c, ma_up_i c, ma_up_i c, ma_up_i c, ag_up_ne (show 11 ≠ 10 by decide), ag_up_ne (show 12 ≠ 10 by decide), ag_up_ne (show 13 ≠ 10 by decide), ag_up_ne (show 14 ≠ 10 by decide), ag_up_ne (show 15 ≠ 10 by decide)]
        exact a4.2 k (by omega)
    · rw [E 3 (by omega)]; exact a5
  · rw [ag_up_ne (by decide), ag_up_ne (by decide), ag_up_ne (by decide), ag_up_ne (by decide), ag_up_ne (by decide), ma_up_s]
  · rw [ag_up_ne (by omega), ag_up_ne (by omega), ag_up_ne (by omega), ag_up_ne (by omega), ag_up_ne (by omega), ag_up_ne (by omega)]
/-- the reference's letter is laid -/
theorem sm_lays {G : Gs} {τ : Sg} {a b y w : Nat} {o : Option Nat} (h : RM G τ) (hl : ls G < 12) (g' : GOk (gAdd G a b y w o)) : ∃ τ', fn_X7_lays (τ 53 7) (nI a) (nI b) (nI y) (nI w) (oI o) τ = some τ' ∧ RM (gAdd G a b y w o) (ag_up τ' 53 7 ((τ' 53 7) + 1)) ∧ ag_up τ' 53 7 ((τ' 53 7) + 1) 53 7 = nI (ls G + 1) ∧ ∀ k, k < 53 → ag_up τ' 53 7 ((τ' 53 7) + 1) k = τ k := by
  obtain ⟨⟨g, a1, a2, a3, a6, a7, a8⟩, m⟩ := h
  unfold fn_X7_lays
  rw [a3.1, if_pos (ma_ib (by omega) (by omega)), if_pos (ma_ib (by omega) (by omega)), ma_cl (by omega)]
  unfold ag_sg
  dsimp only
  rw [if_pos (ma_ib (by omega) (by omega)), if_pos (ma_ib (by omega) (by omega)), if_pos (ma_ib (by omega) (by omega))]
  have E53 : ag_up (ag_up (ag_up (ag_up (ag_up τ 59 (ls G) (nI a)) 60 (ls G) (nI b)) 61 (ls G) (nI y)) 62 (ls G) (nI w)) 63 (ls G) (oI o) 53 = τ 53 := by
    rw [ag_up_ne (by decide), ag_up_ne (by decide), ag_up_ne (by decide), ag_up_ne (by decide), ag_up_ne (by decide)]
  refine ⟨_, rfl, ?_⟩
  rw [E53, a3.1, nI_1]
  have E : ∀ k, k ≠ 53 → k < 59 ∨ 63 < k → ag_up (ag_up (ag_up (ag_up (ag_up (ag_up τ 59 (ls G) (nI a)) 60 (ls G) (nI b)) 61 (ls G) (nI y)) 62 (ls G) (nI w)) 63 (ls G) (oI o)) 53 7 (nI (ls G + 1)) k = τ k := fun k h0 hk => by
      rw [ag_up_ne h0, ag_up_ne (by omega), ag_up_ne (by omega), ag_up_ne (by omega), ag_up_ne (by omega), ag_up_ne (by omega)]
  have E0 : ∀ i, i ≠ 7 → ag_up (ag_up (ag_up (ag_up (ag_up (ag_up τ 59 (ls G) (nI a)) 60 (ls G) (nI b)) 61 (ls G) (nI y)) 62 (ls G) (nI w)) 63 (ls G) (oI o)) 53 7 (nI (ls G + 1)) 53 i = τ 53 i := fun i hi => by
      rw [ma_up_i hi, E53]
  refine ⟨⟨⟨g', a1.kp (E0 1 (by decide)) (E 54 (by omega) (by omega)), a2.kp (E 58 (by omega) (by omega)), ⟨ma_up_s _ _ _ _, fun k hk => ?_⟩, a6.kp (E0 26 (by decide)) (fun k p q => E k (by omega) (by omega)), a7.kp (fun k p q => E k (by omega) (by omega)), a8.kp (E0 36 (by decide))⟩, m.kp (fun i p q => E0 i (by omega))⟩, ma_up_s _ _ _ _, fun k hk => E k (by omega) (by omega)⟩
  have hk' : k < ls G + 1 := hk
  rw [ag_up_ne (show 59 ≠ 53 by decide), ag_up_ne (show 60 ≠ 53 by decide), ag_up_ne (show 61 ≠ 53 by decide), ag_up_ne (show 62 ≠ 53 by decide), ag_up_ne (show 63 ≠ 53 by decide)]
  show _ = nI (if k = ls G then a else lw G k) ∧ _ = nI (if k = ls G then b else lr G k) ∧ _ = nI (if k = ls G then y else ly G k) ∧ _ = nI (if k = ls G then w else lo_ G k) ∧ _ = oI (if k = ls G then o else ln_ G k)
  by_cases c : k = ls G
  · simp only [if_pos c]
    subst c
    refine ⟨?_, ?_, ?_, ?_, ma_up_s _ _ _ _⟩
    · rw [ag_up_ne (by decide), ag_up_ne (by decide), ag_up_ne (by decide), ag_up_ne (by decide)]; exact ma_up_s _ _ _ _
    · rw [ag_up_ne (by decide), ag_up_ne (by decide), ag_up_ne (by decide)]; exact ma_up_s _ _ _ _
    · rw [ag_up_ne (by decide), ag_up_ne (by decide)]; exact ma_up_s _ _ _ _
    · rw [ag_up_ne (by decide)]; exact ma_up_s _ _ _ _
  · simp only [if_neg c]
    rw [ma_up_i c, ma_up_i c, ma_up_i c, ma_up_i c, ma_up_i c, ma_up_i c, ma_up_i c, ma_up_i c, ma_up_i c, ma_up_i c, ma_up_i c, ma_up_i c, ma_up_i c, ma_up_i c, ma_up_i c, ma_up_i c, ma_up_i c, ma_up_i c, ma_up_i c, ma_up_i c, ma_up_i c, ma_up_i c, ma_up_i c, ma_up_i c, ma_up_i c]
    exact a3.2 k (by omega)
/-- the word that a letter needs, or none -/
theorem ck_need (x : Int32) (σ τ : Sg) : (∃ o : Option Nat, x = oI o ∧ (∀ v, o = some v → v < 8) ∧ (o = none ∨ ¬ x = -1 ∧ fn_X6_isBelow x 8 σ = some 1) ∧ fn_X7_in x (-1) 7 τ = some 1) ∨ (¬ x = -1 ∧ fn_X6_isBelow x 8 σ = some 0 ∧ fn_X7_in x (-1) 7 τ = some 0) := by
  by_cases c : x = -1
  · left
    subst c
    exact ⟨none, rfl, (fun v q => nomatch q), Or.inl rfl, rfl⟩
  · rcases sp_below (m := 8) (by omega) x σ with ⟨h1, e1⟩ | ⟨⟨j, hj, rfl⟩, e1⟩
    · right
      refine ⟨c, e1, ?_⟩
      unfold fn_X7_in
      rcases h1 with q | ⟨j, a, b, rfl⟩
      · have : x < -1 := by
          rw [Int32.lt_iff_toInt_lt] at q ⊢
          have n : x.toInt ≠ (-1 : Int32).toInt := fun z => c (Int32.toInt_inj.mp z)
          have e1 : (-1 : Int32).toInt = -1 := by decide
          have e0 : (0 : Int32).toInt = 0 := by decide
          rw [e1] at n ⊢
          rw [e0] at q
          omega
        rw [if_pos this]
      · rw [if_pos (show (7 : Int32) < nI j from nI_lt (a := 7) (by omega) a)]
        split <;> rfl
    · left
      refine ⟨some j, rfl, fun v q => by cases q; exact hj, Or.inr ⟨c, e1⟩, ?_⟩
      unfold fn_X7_in
      have : ¬ nI j < -1 := by
        rw [Int32.lt_iff_toInt_lt, nI_toInt (by omega)]
        have e1 : (-1 : Int32).toInt = -1 := by decide
        rw [e1]
        omega
      rw [if_neg this, if_neg (show ¬ (7 : Int32) < nI j from nI_nlt (b := j) (a := 7) (by omega) (by omega))]
theorem bo_take {G : Gs} {σ τ : Sg} {x1 x2 x3 x4 x5 : Int32} (hc : RC0 G σ) (hm : RM G τ) : (∃ a : Int32, ¬ 0 ≤ a ∧ a ≤ 0 ∧ fn_X6_takeLetter x1 x2 x3 x4 x5 σ = some (a, σ) ∧ fn_X7_letter x1 x2 x3 x4 x5 τ = some (a, τ)) ∨ ∃ G' σ' τ', ls G < 12 ∧ G'.2.2 = G.2.2 ∧ ls G' = ls G + 1 ∧ fn_X6_takeLetter x1 x2 x3 x4 x5 σ = some (nI (ls G + 1), σ') ∧ fn_X7_letter x1 x2 x3 x4 x5 τ = some (nI (ls G + 1), τ') ∧ RC0 G' σ' ∧ RM G' τ' ∧ (∀ k, k < 10 ∨ 15 < k → σ' k = σ k) ∧ ∀ k, k < 53 → τ' k = τ k := by
  have l1 : σ 10 0 = nI (ls G) := hc.2.2.2.2.1.1
  have l2 : τ 53 7 = nI (ls G) := hm.1.2.2.2.1.1
  have hl : ls G ≤ 12 := hc.1.2.2.2.1
  have D2 : ∀ {P : Prop}, P → (¬ (0 : Int32) ≤ -2 ∧ (-2 : Int32) ≤ 0 ∧ P) := fun p => ⟨by decide, by decide, p⟩
  unfold fn_X6_takeLetter fn_X7_letter
  rcases ck_ten x1 σ τ with ⟨⟨a, ha, rfl⟩, e1, e2⟩ | ⟨e1, e2⟩
  case inr => left; rw [e1, e2]; exact ⟨-2, D2 ⟨rfl, rfl⟩⟩
  rw [e1, e2, Option.bind_some, Option.bind_some, if_neg n10, if_neg n10]
  rcases ck_ten x2 σ τ with ⟨⟨b, hb, rfl⟩, e3, e4⟩ | ⟨e3, e4⟩
  case inr => left; rw [e3, e4]; exact ⟨-2, D2 ⟨rfl, rfl⟩⟩
  rw [e3, e4, Option.bind_some, Option.bind_some, if_neg n10, if_neg n10]
  by_cases cab : a = b
  · left
    rw [if_pos (eqL cab), if_pos (eqL cab)]
    exact ⟨-2, D2 ⟨rfl, rfl⟩⟩
  rw [if_neg (neL (by omega) (by omega) cab), if_neg (neL (by omega) (by omega) cab)]
  rcases ck_year x3 σ τ with ⟨⟨y, hy, rfl⟩, e5, e6⟩ | ⟨e5, e6⟩
  case inr => left; rw [e5, e6]; exact ⟨-2, D2 ⟨rfl, rfl⟩⟩
  rw [e5, e6, Option.bind_some, Option.bind_some, if_neg n10, if_neg n10]
  rcases ck_word x4 σ τ with ⟨⟨w, hw, rfl⟩, e7, e8⟩ | ⟨e7, e8⟩
  case inr => left; rw [e7, e8]; exact ⟨-2, D2 ⟨rfl, rfl⟩⟩
  rw [e7, e8, Option.bind_some, Option.bind_some, if_neg n10, if_neg n10]
  rcases ck_need x5 σ τ with ⟨o, rfl, ho, e9, e10⟩ | ⟨c5, e9, e10⟩
  case inr => left; rw [if_neg c5, e9, e10]; exact ⟨-2, D2 ⟨rfl, rfl⟩⟩
  have key : (if oI o = -1 then fn_X6_takeLetter_b68 (nI a) (nI b) (nI y) (nI w) (oI o) σ else (fn_X6_isBelow (oI o) 8 σ).bind fun q81 => if q81 = 0 then some (-2, σ) else fn_X6_takeLetter_b68 (nI a) (nI b) (nI y) (nI w) (oI o) σ) = fn_X6_takeLetter_b68 (nI a) (nI b) (nI y) (nI w) (oI o) σ := by
    rcases e9 with rfl | ⟨c5, e9⟩
    · rw [if_pos (show oI none = -1 from rfl)]
    · rw [if_neg c5, e9, Option.bind_some, if_neg n10]
  rw [key, e10, Option.bind_some, if_neg n10]
  unfold fn_X6_takeLetter_b68
  by_cases c : ls G = 12
  · left
    rw [l1, l2, if_neg (show ¬ nI (ls G) < (12 : Int32) from nI_nlt (b := 12) (by omega) (by omega)), if_pos (show nI (ls G) = (12 : Int32) from eqL c)]
    exact ⟨-4, by decide, by decide, rfl, rfl⟩
  · right
    have g' := gAdd_ok (a := a) (b := b) (y := y) (w := w) (o := o) hc.1 (by omega) ha hb cab hy hw ho
    obtain ⟨σ', r1, r2, r3, r4⟩ := sp_setLast hc (by omega) g'
    obtain ⟨τ', s1, s2, s3, s4⟩ := sm_lays hm (by omega) g'
    refine ⟨gAdd G a b y w o, σ', ag_up τ' 53 7 ((τ' 53 7) + 1), by omega, rfl, rfl, ?_, ?_, r2, s2, r4, s4⟩
    · rw [l1, if_pos (show nI (ls G) < (12 : Int32) from nI_lt (b := 12) (by omega) (by omega)), nI_1, r1, Option.bind_some, r3]
    · rw [s1, l2, if_neg (show ¬ nI (ls G) = (12 : Int32) from neL (k := 12) (by omega) (by omega) c), Option.bind_some, s3]
theorem bo_letter {n : Nat} {G : Gs} {σ τ : Sg} {x1 x2 x3 x4 x5 : Int32} (hn : 300 ≤ n) (hc : RC G σ) (hm : RM G τ) : ∃ a G', HC σ (fn_X6_letter n x1 x2 x3 x4 x5 σ) a G' ∧ HM τ (fn_X7_letter x1 x2 x3 x4 x5 τ) a G' := by
  unfold fn_X6_letter
  rcases bo_take (x1 := x1) (x2 := x2) (x3 := x3) (x4 := x4) (x5 := x5) hc.1 hm with ⟨a, h1, h2, e1, e2⟩ | ⟨G', σ', τ', hl, eG, el, e1, e2, hc', hm', r1, r2⟩
  · rw [e1, e2, Option.bind_some]
    dsimp only
    rw [if_pos h2]
    exact ⟨a, G, HC.rf hc, HM.rf hm⟩
  · rw [e1, e2, Option.bind_some]
    dsimp only
    rw [if_neg (nI_nle (by omega) (by omega))]
    obtain ⟨σ2, s1, s2, s3⟩ := hc'.live hn
    refine ⟨_, G', ⟨σ2, by rw [s1]; rfl, s2, fun k hk => ?_⟩, ⟨τ', rfl, hm', r2⟩⟩
    rw [s3 k (by omega) (by omega) (by omega) (by omega) (by omega), r1 k (by omega)]
theorem bo_back {n : Nat} {G : Gs} {σ τ : Sg} (hn : 300 ≤ n) (hc : RC G σ) (hm : RM G τ) : ∃ a G', HC σ (fn_X6_back n σ) a G' ∧ HM τ (fn_X7_back τ) a G' := by
  have l1 : σ 10 0 = nI (ls G) := hc.1.2.2.2.2.1.1
  have l2 : τ 53 7 = nI (ls G) := hm.1.2.2.2.1.1
  have hl : ls G ≤ 12 := hc.1.1.2.2.2.1
  unfold fn_X6_back fn_X7_back
  rw [l1, l2]
  by_cases c : ls G = 0
  · rw [if_pos (show nI (ls G) = 0 from eqL c), if_pos (show nI (ls G) = 0 from eqL c)]
    exact ⟨-3, G, HC.rf hc, HM.rf hm⟩
  · rw [if_neg (nI_ne0 (by omega) (by omega)), if_neg (nI_ne0 (by omega) (by omega))]
    obtain ⟨m, e⟩ : ∃ m, ls G = m + 1 := ⟨ls G - 1, by omega⟩
    rw [e, nI_pred]
    obtain ⟨⟨g, a1, a2, a3, a4, a5, a6, a7, a8⟩, -⟩ := hc
    obtain ⟨⟨-, b1, b2, b3, b6, b7, b8⟩, bm⟩ := hm
    have g' : GOk (G.1, (m, G.2.1.2), G.2.2) := ⟨g.1, g.2.1, g.2.2.1, show m ≤ 12 by omega, fun k hk => g.2.2.2.2.1 k (by have hk' : k < m := hk; omega), g.2.2.2.2.2⟩
    have c0 : RC0 (G.1, (m, G.2.1.2), G.2.2) (ag_up σ 10 0 (nI m)) := by
      refine ⟨g', a1.kp (ag_up_ne (by decide)) (ag_up_ne (by decide)), a2.kp (ag_up_ne (by decide)), a3.kp (fun k p q => ag_up_ne (by omega)), ⟨ma_up_s _ _ _ _, fun k hk => ?_⟩, ?_, a6.kp (fun k p q => ag_up_ne (by omega)), a7.kp (fun k p q => ag_up_ne (by omega)), a8.kp (ag_up_ne (by decide))⟩
      · have hk' : k < m := hk
        rw [ag_up_ne (show 11 ≠ 10 by decide), ag_up_ne (show 12 ≠ 10 by decide), ag_up_ne (show 13 ≠ 10 by decide), ag_up_ne (show 14 ≠ 10 by decide), ag_up_ne (show 15 ≠ 10 by decide)]
        exact a4.2 k (by omega)
      · rw [ag_up_ne (show 3 ≠ 10 by decide)]; exact a5
    obtain ⟨σ2, s1, s2, s3⟩ := c0.live hn
    refine ⟨nI m, _, ⟨σ2, ?_, s2, fun k hk => ?_⟩, ⟨ag_up τ 53 7 (nI m), by rw [ma_up_s], ⟨⟨g', b1.kp (ma_up_i (by decide) 53) (ag_up_ne (by decide)), b2.kp (ag_up_ne (by decide)), ⟨ma_up_s _ _ _ _, fun k hk => ?_⟩, b6.kp (ma_up_i (by decide) 53) (fun k p q => ag_up_ne (by omega)), b7.kp (fun k p q => ag_up_ne (by omega)), b8.kp (ma_up_i (by decide) 53)⟩, bm.kp (fun i p q => ma_up_i (by omega) 53)⟩, fun k hk => ag_up_ne (by omega)⟩⟩
    · rw [s1, Option.bind_some, s3 10 (by omega) (by omega) (by omega) (by omega) (by omega), ma_up_s]
    · rw [s3 k (by omega) (by omega) (by omega) (by omega) (by omega), ag_up_ne (by omega)]
    · have hk' : k < m := hk
      rw [ag_up_ne (show 59 ≠ 53 by decide), ag_up_ne (show 60 ≠ 53 by decide), ag_up_ne (show 61 ≠ 53 by decide), ag_up_ne (show 62 ≠ 53 by decide), ag_up_ne (show 63 ≠ 53 by decide)]
      exact b3.2 k (by omega)
