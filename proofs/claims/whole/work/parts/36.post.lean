/-! letter, back -/
theorem CText.kp {G : Gs} {σ σ' : Sg} (h : CText G σ) (e1 : σ' 1 = σ 1) (e2 : σ' 2 = σ 2) : CText G σ' := by
  unfold CText at *; rw [e1, e2]; exact h
theorem COwn.kp {G : Gs} {σ σ' : Sg} (h : COwn G σ) (e : σ' 9 = σ 9) : COwn G σ' := by
  unfold COwn at *; rw [e]; exact h
theorem CFolk.kp {G : Gs} {σ σ' : Sg} (h : CFolk G σ) (e : ∀ k, 4 ≤ k → k ≤ 8 → σ' k = σ k) : CFolk G σ' := by
  unfold CFolk FC at *
  rw [e 4 (by omega) (by omega), e 5 (by omega) (by omega), e 6 (by omega) (by omega), e 7 (by omega) (by omega), e 8 (by omega) (by omega)]; exact h
theorem CLet.kp {G : Gs} {σ σ' : Sg} (h : CLet G σ) (e : ∀ k, 10 ≤ k → k ≤ 15 → σ' k = σ k) : CLet G σ' := by
  unfold CLet at *
  rw [e 10 (by omega) (by omega), e 11 (by omega) (by omega), e 12 (by omega) (by omega), e 13 (by omega) (by omega), e 14 (by omega) (by omega), e 15 (by omega) (by omega)]; exact h
theorem CDeed.kp {G : Gs} {σ σ' : Sg} (h : CDeed G σ) (e : ∀ k, 39 ≤ k → k ≤ 43 → σ' k = σ k) : CDeed G σ' := by
  unfold CDeed at *
  rw [e 39 (by omega) (by omega), e 40 (by omega) (by omega), e 41 (by omega) (by omega), e 42 (by omega) (by omega), e 43 (by omega) (by omega)]; exact h
theorem CSheet.kp {G : Gs} {σ σ' : Sg} (h : CSheet G σ) (e : ∀ k, 45 ≤ k → k ≤ 52 → σ' k = σ k) : CSheet G σ' := by
  intro s hs
  rw [e (45 + 2 * s) (by omega) (by omega), e (45 + 2 * s + 1) (by omega) (by omega)]; exact h s hs
theorem CFind.kp {G : Gs} {σ σ' : Sg} (h : CFind G σ) (e : σ' 0 = σ 0) : CFind G σ' := by
  unfold CFind at *; rw [e]; exact h
theorem MText.kp {G : Gs} {σ σ' : Sg} (h : MText G σ) (e1 : σ' 53 1 = σ 53 1) (e2 : σ' 54 = σ 54) : MText G σ' := by
  unfold MText at *; rw [e1, e2]; exact h
theorem MOwn.kp {G : Gs} {σ σ' : Sg} (h : MOwn G σ) (e : σ' 58 = σ 58) : MOwn G σ' := by
  unfold MOwn at *; rw [e]; exact h
theorem MLet.kp {G : Gs} {σ σ' : Sg} (h : MLet G σ) (e7 : σ' 53 7 = σ 53 7) (e : ∀ k, 59 ≤ k → k ≤ 63 → σ' k = σ k) : MLet G σ' := by
  unfold MLet at *
  rw [e7, e 59 (by omega) (by omega), e 60 (by omega) (by omega), e 61 (by omega) (by omega), e 62 (by omega) (by omega), e 63 (by omega) (by omega)]; exact h
theorem MDeed.kp {G : Gs} {σ σ' : Sg} (h : MDeed G σ) (e26 : σ' 53 26 = σ 53 26) (e : ∀ k, 68 ≤ k → k ≤ 71 → σ' k = σ k) : MDeed G σ' := by
  unfold MDeed at *
  rw [e26, e 68 (by omega) (by omega), e 69 (by omega) (by omega), e 70 (by omega) (by omega), e 71 (by omega) (by omega)]; exact h
theorem MSheet.kp {G : Gs} {σ σ' : Sg} (h : MSheet G σ) (e : ∀ k, 72 ≤ k → k ≤ 75 → σ' k = σ k) : MSheet G σ' := by
  unfold MSheet at *
  rw [e 72 (by omega) (by omega), e 73 (by omega) (by omega), e 74 (by omega) (by omega), e 75 (by omega) (by omega)]; exact h
theorem MFind.kp {G : Gs} {σ σ' : Sg} (h : MFind G σ) (e : σ' 53 36 = σ 53 36) : MFind G σ' := by
  unfold MFind at *; rw [e]; exact h
theorem MTold.kp {σ σ' : Sg} (h : MTold σ) (e : ∀ i, 13 ≤ i → i ≤ 17 → σ' 53 i = σ 53 i) : MTold σ' := by
  unfold MTold at *
  rw [e 13 (by omega) (by omega), e 14 (by omega) (by omega), e 15 (by omega) (by omega), e 16 (by omega) (by omega), e 17 (by omega) (by omega)]; exact h
/-- one letter more -/
def gAdd (G : Gs) (a b y w : Nat) (o : Option Nat) : Gs := (G.1, (ls G + 1, fun k => if k = ls G then a else lw G k, fun k => if k = ls G then b else lr G k, fun k => if k = ls G then y else ly G k, fun k => if k = ls G then w else lo_ G k, fun k => if k = ls G then o else ln_ G k), G.2.2)
theorem gAdd_ok {G : Gs} {a b y w : Nat} {o : Option Nat} (g : GOk G) (hl : ls G < 12) (ha : a < 10) (hb : b < 10) (hab : a ≠ b) (hy : y < 200) (hw : w < 8) (ho : ∀ v, o = some v → v < 8) : GOk (gAdd G a b y w o) := by
  refine ⟨g.1, g.2.1, g.2.2.1, show ls G + 1 ≤ 12 by omega, fun k hk => ?_, g.2.2.2.2.2⟩
  have hk' : k < ls G + 1 := hk
  show (if k = ls G then a else lw G k) < 10 ∧ (if k = ls G then b else lr G k) < 10 ∧ (if k = ls G then a else lw G k) ≠ (if k = ls G then b else lr G k) ∧ (if k = ls G then y else ly G k) < 200 ∧ (if k = ls G then w else lo_ G k) < 8 ∧ ∀ v, (if k = ls G then o else ln_ G k) = some v → v < 8
  by_cases c : k = ls G
  · simp only [if_pos c]
    exact ⟨ha, hb, hab, hy, hw, ho⟩
  · simp only [if_neg c]
    exact g.2.2.2.2.1 k (by omega)
theorem sp_setLast {G : Gs} {σ : Sg} {a b y w : Nat} {o : Option Nat} (h : RC0 G σ) (hl : ls G < 12) (g' : GOk (gAdd G a b y w o)) : ∃ σ', fn_X2_setLast 10 (nI a) (nI b) (nI y) (nI w) (oI o) (ag_up σ 10 0 (nI (ls G + 1))) = some σ' ∧ RC0 (gAdd G a b y w o) σ' ∧ σ' 10 0 = nI (ls G + 1) ∧ ∀ k, k < 10 ∨ 15 < k → σ' k = σ k := by
  unfold fn_X2_setLast
  rw [ma_up_s, nI_pred, if_neg (nI_pos (by omega)), if_pos (show nI (ls G) < (13 : Int32) from nI_lt (b := 13) (by omega) (by omega)), if_pos (ma_ib (by omega) (by omega)), if_pos (ma_ib (by omega) (by omega)), ma_cl (by omega)]
  unfold ag_sg
  dsimp only
  rw [if_pos (ma_ib (by omega) (by omega)), if_pos (ma_ib (by omega) (by omega)), if_pos (ma_ib (by omega) (by omega))]
  refine ⟨_, rfl, ?_, ?_, fun k hk => ?_⟩
  · obtain ⟨g, a1, a2, a3, a4, a5, a6, a7, a8⟩ := h
    have E : ∀ k, k < 10 ∨ 15 < k → ag_up (ag_up (ag_up (ag_up (ag_up (ag_up σ 10 0 (nI (ls G + 1))) (10 + 1) (ls G) (nI a)) (10 + 2) (ls G) (nI b)) (10 + 3) (ls G) (nI y)) (10 + 4) (ls G) (nI w)) (10 + 5) (ls G) (oI o) k = σ k := fun k hk => by
      rw [ag_up_ne (by omega), ag_up_ne (by omega), ag_up_ne (by omega), ag_up_ne (by omega), ag_up_ne (by omega), ag_up_ne (by omega)]
    refine ⟨g', a1.kp (E 1 (by omega)) (E 2 (by omega)), a2.kp (E 9 (by omega)), a3.kp (fun k p q => E k (by omega)), ⟨?_, fun k hk => ?_⟩, ?_, a6.kp (fun k p q => E k (by omega)), a7.kp (fun k p q => E k (by omega)), a8.kp (E 0 (by omega))⟩
    · rw [ag_up_ne (by decide), ag_up_ne (by decide), ag_up_ne (by decide), ag_up_ne (by decide), ag_up_ne (by decide), ma_up_s]; rfl
    · have hk' : k < ls G + 1 := hk
      show _ = nI (if k = ls G then a else lw G k) ∧ _ = nI (if k = ls G then b else lr G k) ∧ _ = nI (if k = ls G then y else ly G k) ∧ _ = nI (if k = ls G then w else lo_ G k) ∧ _ = oI (if k = ls G then o else ln_ G k)
      by_cases c : k = ls G
      · simp only [if_pos c]
        subst c
        refine ⟨?_, ?_, ?_, ?_, ma_up_s _ _ _ _⟩
        · rw [ag_up_ne (by decide), ag_up_ne (by decide), ag_up_ne (by decide), ag_up_ne (by decide)]; exact ma_up_s _ _ _ _
        · rw [ag_up_ne (by decide), ag_up_ne (by decide), ag_up_ne (by decide)]; exact ma_up_s _ _ _ _
        · rw [ag_up_ne (by decide), ag_up_ne (by decide)]; exact ma_up_s _ _ _ _
        · rw [ag_up_ne (by decide)]; exact ma_up_s _ _ _ _
      · simp only [if_neg c]
        rw [ma_up_i c, ma_up_i c, ma_up_i c, ma_up_i c, ma_up_i c, ma_up_i c, ma_up_i c, ma_up_i c, ma_up_i c, ma_up_i c, ma_up_i c, ma_up_i c, ma_up_i c, ma_up_i c, ma_up_i c, ma_up_i c, ma_up_i c, ma_up_i c, ma_up_i c, ma_up_i c, ma_up_i c, ma_up_i c, ma_up_i c, ma_up_i c, ma_up_i c, ag_up_ne (show 11 ≠ 10 by decide), ag_up_ne (show 12 ≠ 10 by decide), ag_up_ne (show 13 ≠ 10 by decide), ag_up_ne (show 14 ≠ 10 by decide), ag_up_ne (show 15 ≠ 10 by decide)]
        exact a4.2 k (by omega)
    · rw [E 3 (by omega)]; exact a5
  · rw [ag_up_ne (by decide), ag_up_ne (by decide), ag_up_ne (by decide), ag_up_ne (by decide), ag_up_ne (by decide), ma_up_s]
  · rw [ag_up_ne (by omega), ag_up_ne (by omega), ag_up_ne (by omega), ag_up_ne (by omega), ag_up_ne (by omega), ag_up_ne (by omega)]
