/-! put, get, sheet -/
theorem bo_put {G : Gs} {σ τ : Sg} {x1 x2 x3 x4 : Int32} (hc : RC G σ) (hm : RM G τ) : ∃ a G', HC σ (fn_X6_put x1 x2 x3 x4 σ) a G' ∧ HM τ (fn_X7_put x1 x2 x3 x4 τ) a G' := by
  unfold fn_X6_put fn_X7_put
  rcases ck_sheet x1 σ τ with ⟨⟨s, hs, rfl⟩, e1, e2⟩ | ⟨e1, e2⟩
  case inr => rw [e1, e2]; exact ⟨-2, G, HC.rf hc, HM.rf hm⟩
  have I : ag_ib (nI s) 4 = true := ma_ib hs (by omega)
  rw [e1, e2, Option.bind_some, Option.bind_some, if_neg n10, if_neg n10]
  rcases bo_ck (m := 2) (by omega) x2 σ τ with ⟨⟨f, hf, rfl⟩, e3, e4⟩ | ⟨e3, e4⟩
  case inr => rw [show fn_X6_isBelow x2 3 σ = _ from e3, show fn_X7_in x2 0 2 τ = _ from e4]; exact ⟨-2, G, HC.rf hc, HM.rf hm⟩
  rw [show fn_X6_isBelow (nI f) 3 σ = _ from e3, show fn_X7_in (nI f) 0 2 τ = _ from e4, Option.bind_some, Option.bind_some, if_neg n10, if_neg n10, if_pos I, ma_cl (by omega)]
  have g2 := (hc.1.1.2.2.2.2.2.2.2.1 s hs).2
  rcases ck_find hc hm hs hf x3 with ⟨i, hi, rfl, e5, e6⟩ | ⟨v, h1, h3, e5, e6⟩
  · rw [e5, e6, Option.bind_some, Option.bind_some, if_pos rfl, if_pos (show (0 : Int32) ≤ 0 by decide), if_pos I, sp_setItem hc hs hi, sm_keep hm hs hi]
    exact ⟨1, gSet G s i (nar (sf G s) x4), ⟨_, rfl, hc.set hs, fun k hk => ag_up_ne (by omega)⟩, ⟨_, rfl, hm.set hs (by omega), fun k hk => ag_up_ne (by omega)⟩⟩
  · rw [e5, e6, Option.bind_some, Option.bind_some, if_neg (nI_ne0 (by omega) (by omega)), if_neg (nI_nle (by omega) (by omega))]
    exact ⟨_, _, HC.find hc (by omega), HM.meet hm (by omega)⟩
theorem bo_get {G : Gs} {σ τ : Sg} {x1 x2 x3 : Int32} (hc : RC G σ) (hm : RM G τ) : ∃ a G', HC σ (fn_X6_get x1 x2 x3 σ) a G' ∧ HM τ (fn_X7_get x1 x2 x3 τ) a G' := by
  unfold fn_X6_get fn_X7_get fn_X6_get_b16 fn_X7_get_b16
  rcases ck_sheet x1 σ τ with ⟨⟨s, hs, rfl⟩, e1, e2⟩ | ⟨e1, e2⟩
  case inr => rw [e1, e2]; exact ⟨_, G, HC.rf hc, HM.rf hm⟩
  have I : ag_ib (nI s) 4 = true := ma_ib hs (by omega)
  rw [e1, e2, Option.bind_some, Option.bind_some, if_neg n10, if_neg n10]
  rcases bo_ck (m := 2) (by omega) x2 σ τ with ⟨⟨f, hf, rfl⟩, e3, e4⟩ | ⟨e3, e4⟩
  case inr => rw [show fn_X6_isBelow x2 3 σ = _ from e3, show fn_X7_in x2 0 2 τ = _ from e4]; exact ⟨_, G, HC.rf hc, HM.rf hm⟩
  rw [show fn_X6_isBelow (nI f) 3 σ = _ from e3, show fn_X7_in (nI f) 0 2 τ = _ from e4, Option.bind_some, Option.bind_some, if_neg n10, if_neg n10, if_pos I, ma_cl (by omega)]
  have g2 := (hc.1.1.2.2.2.2.2.2.2.1 s hs).2
  obtain ⟨c0, c1, c2, c3⟩ := hc.1.2.2.2.2.2.2.2.1 s hs
  obtain ⟨d0, d1, d2, d3⟩ := hm.1.2.2.2.2.2.1 s hs
  rcases ck_find hc hm hs hf x3 with ⟨i, hi, rfl, e5, e6⟩ | ⟨v, h1, h3, e5, e6⟩
  · have T0 : 48 * nI s + nI i = nI (48 * s + i) := by
      rw [← nI_add]
      congr 1
      exact (Int32.ofNat_mul 48 s).symm
    rw [e5, e6, Option.bind_some, Option.bind_some, if_pos rfl, if_pos (show (0 : Int32) ≤ 0 by decide), if_pos I, if_pos (ma_ib (show i < 48 by omega) (by omega)), T0, if_pos (ma_ib (show 48 * s + i < 192 by omega) (by omega)), ma_cl (show i < 2 ^ 31 by omega), ma_cl (show 48 * s + i < 2 ^ 31 by omega), c3 i (by omega), d3 i (by omega)]
    exact ⟨_, G, HC.rf hc, HM.rf hm⟩
  · rw [e5, e6, Option.bind_some, Option.bind_some, if_neg (nI_ne0 (by omega) (by omega)), if_neg (nI_nle (by omega) (by omega))]
    exact ⟨_, gFi G v, ⟨_, rfl, hc.find (by omega), fun k hk => ag_up_ne (by omega)⟩, ⟨_, rfl, hm.meet (by omega), fun k hk => ag_up_ne (by omega)⟩⟩
theorem sp_fill {n c : Nat} {x : Int32} : ∀ (i j : Nat) (σ : Sg), 48 < i + j → j ≤ 48 → ∃ σ', fn_J7_fill_53178_b5 n c 48 x i (nI j) (nI 48) σ = some σ' ∧ (∀ k, k ≠ c → σ' k = σ k) ∧ (∀ k, j ≤ k → k < 48 → σ' c k = x) ∧ ∀ k, k < j → σ' c k = σ c k
  | 0, j, σ, h, hj => by omega
  | i + 1, j, σ, h, hj => by
    unfold fn_J7_fill_53178_b5
    by_cases z : j = 48
    · subst z
      rw [if_pos (nI_le (Nat.le_refl 48) (by omega))]
      exact ⟨σ, rfl, fun _ _ => rfl, fun k a b => by omega, fun _ _ => rfl⟩
    · rw [if_neg (nI_ge (by omega) (by omega)), if_pos (ma_ib (by omega) (by omega)), ma_cl (by omega), nI_1]
      obtain ⟨σ', r1, r2, r3, r4⟩ := sp_fill (n := n) (c := c) (x := x) i (j + 1) (ag_up σ c j x) (by omega) (by omega)
      refine ⟨σ', r1, fun k hk => by rw [r2 k hk, ag_up_ne hk], fun k a b => ?_, fun k hk => by rw [r4 k (by omega), ma_up_i (by omega)]⟩
      by_cases e : k = j
      · rw [r4 k (by omega), e, ma_up_s]
      · exact r3 k (by omega) b
theorem sm_sheetL {n s : Nat} {x2 x3 : Int32} (hs : s < 4) : ∀ (i j : Nat) (σ : Sg), 48 < i + j → j ≤ 48 → ∃ σ', fn_X7_sheet_b59 n (nI s) x2 x3 i (nI j) σ = some (x3, σ') ∧ (∀ k, k ≠ 75 → σ' k = σ k) ∧ (∀ k, j ≤ k → k < 48 → σ' 75 (48 * s + k) = 0) ∧ ∀ k, k < 48 * s + j ∨ 48 * s + 48 ≤ k → σ' 75 k = σ 75 k
  | 0, j, σ, h, hj => by omega
  | i + 1, j, σ, h, hj => by
    unfold fn_X7_sheet_b59
    by_cases z : j = 48
    · subst z
      rw [if_pos (show (48 : Int32) ≤ nI 48 by decide)]
      exact ⟨σ, rfl, fun _ _ => rfl, fun k a b => by omega, fun _ _ => rfl⟩
    · have T0 : 48 * nI s + nI j = nI (48 * s + j) := by
        rw [← nI_add]
        congr 1
        exact (Int32.ofNat_mul 48 s).symm
      rw [if_neg (show ¬ (48 : Int32) ≤ nI j from nI_ge (b := 48) (by omega) (by omega)), T0, if_pos (ma_ib (by omega) (by omega)), ma_cl (by omega), nI_1]
      obtain ⟨σ', r1, r2, r3, r4⟩ := sm_sheetL (n := n) (x2 := x2) (x3 := x3) hs i (j + 1) (ag_up σ 75 (48 * s + j) 0) (by omega) (by omega)
      refine ⟨σ', r1, fun k hk => by rw [r2 k hk, ag_up_ne hk], fun k a b => ?_, fun k hk => by rw [r4 k (by omega), ma_up_i (by omega)]⟩
      by_cases e : k = j
      · rw [r4 _ (by omega), e, ma_up_s]
      · exact r3 k (by omega) b
theorem bo_sheet {n : Nat} {G : Gs} {σ τ : Sg} {x1 x2 x3 : Int32} (hn : 300 ≤ n) (hc : RC G σ) (hm : RM G τ) : ∃ a G', HC σ (fn_X6_sheet n x1 x2 x3 σ) a G' ∧ HM τ (fn_X7_sheet n x1 x2 x3 τ) a G' := by
  unfold fn_X6_sheet fn_X7_sheet
  rcases ck_sheet x1 σ τ with ⟨⟨s, hs, rfl⟩, e1, e2⟩ | ⟨e1, e2⟩
  case inr => rw [e1, e2]; exact ⟨-2, G, HC.rf hc, HM.rf hm⟩
  have I : ag_ib (nI s) 4 = true := ma_ib hs (by omega)
  rw [e1, e2, Option.bind_some, Option.bind_some, if_neg n10, if_neg n10]
  rcases bo_ck (m := 2) (by omega) x2 σ τ with ⟨⟨f, hf, rfl⟩, e3, e4⟩ | ⟨e3, e4⟩
  case inr => rw [show fn_X6_isBelow x2 3 σ = _ from e3, show fn_X7_in x2 0 2 τ = _ from e4]; exact ⟨-2, G, HC.rf hc, HM.rf hm⟩
  rw [show fn_X6_isBelow (nI f) 3 σ = _ from e3, show fn_X7_in (nI f) 0 2 τ = _ from e4, Option.bind_some, Option.bind_some, if_neg n10, if_neg n10]
  by_cases q48 : x3 ≤ 48
  case neg => rw [if_neg q48, if_neg q48]; exact ⟨-2, G, HC.rf hc, HM.rf hm⟩
  rw [if_pos q48, if_pos q48]
  by_cases q0 : 0 ≤ x3
  case neg => rw [if_neg q0, if_neg q0]; exact ⟨_, _, HC.find (v := 5) hc (by omega), HM.meet (v := 5) hm (by omega)⟩
  obtain ⟨z, hz, rfl⟩ : ∃ z : Nat, z ≤ 48 ∧ x3 = nI z := nI_of2 (M := 48) (n := 48) (by decide) (by
    intro q
    exact Int32.lt_irrefl (Int32.lt_of_lt_of_le q q0)) q48
  unfold fn_X3_begin fn_J7_fill_53178 ag_sg
  dsimp only
  rw [if_pos q0, if_pos q0, if_pos I, if_pos I, if_pos I, if_pos I, ma_cl (by omega)]
  obtain ⟨σ', r1, r2, r3, -⟩ := sp_fill (n := n) (c := 45 + 2 * s + 1) (x := 0) n 0 (ag_up (ag_up (ag_up σ (45 + 2 * s) 0 0) (45 + 2 * s) 1 (nI f)) (45 + 2 * s) 2 (nI z)) (by omega) (by omega)
  obtain ⟨τ', s1, s2, s3, s4⟩ := sm_sheetL (n := n) (x2 := nI f) (x3 := nI z) hs n 0 (ag_up (ag_up (ag_up τ 72 s (vp_nar .boolean 1)) 73 s (nI f)) 74 s (nI z)) (by omega) (by omega)
  refine ⟨nI z, gSh G s true f z (fun _ => 0), ⟨σ', ?_, hc.sheet hs hf hz ?_ ?_ ?_ (fun i hi => r3 i (by omega) hi) (fun k p q => ?_), fun k hk => ?_⟩, ⟨τ', s1, hm.sheet hf hz ?_ ?_ ?_ (fun i hi => s3 i (by omega) hi) (fun k t p q => ?_) (fun t i p q => ?_) (fun k hk => ?_), fun k hk => ?_⟩⟩
  · rw [show fn_J7_fill_53178_b5 n (45 + 2 * s + 1) 48 0 n 0 (Int32.ofNat 48) _ = _ from r1]; rfl
  · rw [r2 _ (by omega), ma_up_i (show 0 ≠ 2 by decide), ma_up_i (show 0 ≠ 1 by decide), ma_up_s]; rfl
  · rw [r2 _ (by omega), ma_up_i (show 1 ≠ 2 by decide), ma_up_s]
  · rw [r2 _ (by omega), ma_up_s]
  · rw [r2 k q, ag_up_ne p, ag_up_ne p, ag_up_ne p]
  · rw [r2 k (by omega), ag_up_ne (by omega), ag_up_ne (by omega), ag_up_ne (by omega)]
  · rw [s2 72 (by decide), ag_up_ne (by decide), ag_up_ne (by decide), ma_up_s]; rfl
  · rw [s2 73 (by decide), ag_up_ne (by decide), ma_up_s]
  · rw [s2 74 (by decide), ma_up_s]
  · rw [s2 k (by omega), ma_up_i p, ma_up_i p, ma_up_i p]
  · rw [s4 _ (by omega), ag_up_ne (by decide), ag_up_ne (by decide), ag_up_ne (by decide)]
  · rw [s2 k (by omega), ag_up_ne (by omega), ag_up_ne (by omega), ag_up_ne (by omega)]
  · rw [s2 k (by omega), ag_up_ne (by omega), ag_up_ne (by omega), ag_up_ne (by omega)]
