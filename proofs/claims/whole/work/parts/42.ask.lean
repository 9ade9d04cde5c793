/-! opened, written, age -/
theorem sp_opening {G : Gs} {σ : Sg} {k : Nat} (h : RC G σ) (hk : k < ls G) : fn_X5_openingYear 3 (nI k) σ = some (oI ((sim (scn G) 200).2.1 k)) := by
  have hl : ls G ≤ 12 := h.1.1.2.2.2.1
  obtain ⟨-, ⟨o1, o2⟩, -⟩ := h.2
  have e : bt (σ 3 4) k = ((sim (scn G) 200).2.1 k).isSome := o1.at hk (by rw [scn_sz]; omega)
  unfold fn_X5_openingYear
  cases c : (sim (scn G) 200).2.1 k with
  | none =>
    rw [c] at e
    rw [if_neg (fun q => by have := (ma_b1 _ (show k < 32 by omega)).mp q; rw [e] at this; cases this)]
    rfl
  | some t =>
    rw [c] at e
    rw [if_pos ((ma_b1 _ (show k < 32 by omega)).mpr e), if_pos (ma_ib (by omega) (by omega)), ma_cl (by omega), show σ (3 + 13) k = _ from o2 k hk t c]
    rfl
theorem RM.all {n : Nat} {G : Gs} {τ : Sg} (hn : 600 ≤ n) (h : RM G τ) : ∃ τ', fn_X7_runsTo n 199 τ = some τ' ∧ RM G τ' ∧ MFolk G τ' ∧ Rm (scn G) (sim (scn G) 200) τ' ∧ ∀ k, k < 53 → τ' k = τ k := h.runsTo (y := 199) hn (by omega)
theorem bo_opened {n : Nat} {G : Gs} {σ τ : Sg} {x : Int32} (hn : 600 ≤ n) (hc : RC G σ) (hm : RM G τ) : ∃ a, fn_X6_opened x σ = some a ∧ HM τ (fn_X7_opened n x τ) a G := by
  have l1 : σ 10 0 = nI (ls G) := hc.1.2.2.2.2.1.1
  have l2 : τ 53 7 = nI (ls G) := hm.1.2.2.2.1.1
  have hl : ls G ≤ 12 := hc.1.1.2.2.2.1
  unfold fn_X6_opened fn_X7_opened fn_X7_openedOf
  rw [l1, l2]
  rcases ck_lt (z := ls G) (by omega) x σ τ with ⟨⟨k, hk, rfl⟩, e1, e2⟩ | ⟨e1, e2⟩
  · obtain ⟨τ', r1, r2, -, r3, r4⟩ := hm.all hn
    rw [e1, e2, Option.bind_some, Option.bind_some, if_neg n10, if_neg n10, sp_opening hc hk, r1, Option.bind_some, Option.bind_some, if_pos (ma_ib (by omega) (by omega)), ma_cl (by omega), r3.2.1 k (by omega)]
    exact ⟨_, rfl, τ', rfl, r2, r4⟩
  · rw [e1, e2]
    exact ⟨-2, rfl, HM.rf hm⟩
theorem bo_written {n : Nat} {G : Gs} {σ τ : Sg} {x : Int32} (hn : 600 ≤ n) (hc : RC G σ) (hm : RM G τ) : ∃ a, fn_X6_written x σ = some a ∧ HM τ (fn_X7_written n x τ) a G := by
  have l1 : σ 10 0 = nI (ls G) := hc.1.2.2.2.2.1.1
  have l2 : τ 53 7 = nI (ls G) := hm.1.2.2.2.1.1
  have hl : ls G ≤ 12 := hc.1.1.2.2.2.1
  unfold fn_X6_written fn_X7_written fn_X7_writtenOf
  rw [l1, l2]
  rcases ck_lt (z := ls G) (by omega) x σ τ with ⟨⟨k, hk, rfl⟩, e1, e2⟩ | ⟨e1, e2⟩
  · obtain ⟨τ', r1, r2, -, r3, r4⟩ := hm.all hn
    have e : bt (σ 3 3) k = (sim (scn G) 200).1 k := hc.2.1.1.at hk (by rw [scn_sz]; omega)
    rw [e1, e2, Option.bind_some, Option.bind_some, if_neg n10, if_neg n10, r1, Option.bind_some, if_pos (ma_ib (by omega) (by omega)), ma_cl (by omega), r3.1 k (by omega), ma_bit _ (show k < 32 by omega), e]
    cases c : (sim (scn G) 200).1 k with
    | false =>
      rw [if_neg (by decide), if_pos (by rw [if_neg (by decide)])]
      exact ⟨0, rfl, τ', rfl, r2, r4⟩
    | true =>
      obtain ⟨c1, c2⟩ := cnt_ok hc.1.1.1
      have tl3 : tls (scn G) (wr (scn G) k) (yr (scn G) k) < 2 ^ 31 := by
        have : yr (scn G) k < 200 := (hc.1.1.2.2.2.2.1 k hk).2.2.2.1
        unfold tls
        have m5 : mo (scn G) (wr (scn G) k) ≤ 5 := by
          show (if kdp (tb G) _ = 2 then 5 else 0) ≤ 5
          split <;> omega
        first | omega | (split <;> omega)
      rw [if_pos rfl, if_pos rfl, if_neg (ma_m1 tl3)]
      exact ⟨1, rfl, τ', rfl, r2, r4⟩
  · rw [e1, e2]
    exact ⟨-2, rfl, HM.rf hm⟩
theorem lvs_bo {S : Sc} {p y : Nat} (h : lvs S p y = true) : p < cn S ∧ bo S p ≤ y := by
  unfold lvs at h
  simp only [Bool.and_eq_true, decide_eq_true_eq] at h
  omega
theorem bo_age {n : Nat} {G : Gs} {σ τ : Sg} {x1 x2 : Int32} (hn : 20 ≤ n) (hc : RC G σ) (hm : RM G τ) : ∃ a, fn_X6_age x1 x2 σ = some a ∧ HM τ (fn_X7_age n x1 x2 τ) a G := by
  have hl : cnt G ≤ 10 := (cnt_ok hc.1.1.1).1
  obtain ⟨τ', hm', hf, ek, h⟩ := ck_pers hn hc hm x1
  unfold fn_X6_age fn_X7_age
  rcases h with ⟨⟨p, hp, rfl⟩, e1, e2⟩ | ⟨e1, e2⟩
  case inr => rw [e1, e2]; exact ⟨-2, rfl, τ', rfl, hm', ek⟩
  rw [e1, e2, Option.bind_some, Option.bind_some, if_neg n10]
  dsimp only
  rw [if_neg n10]
  rcases ck_year x2 σ τ' with ⟨⟨y, hy, rfl⟩, e3, e4⟩ | ⟨e3, e4⟩
  case inr => rw [e3, e4]; exact ⟨-2, rfl, τ', rfl, hm', ek⟩
  rw [e3, e4, Option.bind_some, Option.bind_some, if_neg n10, if_neg n10]
  unfold fn_X7_ageOf
  rw [sp_lives hc.1.VF (by omega) (by omega), sm_lives (hm'.VM hf) (by omega) (by omega), Option.bind_some, Option.bind_some]
  cases c : lvs (scn G) p y with
  | false =>
    rw [if_pos (show bI false = 0 from rfl), if_pos (show bI false = 0 from rfl)]
    exact ⟨-1, rfl, τ', rfl, hm', ek⟩
  | true =>
    rw [if_neg (show ¬ bI true = 0 from n10), if_neg (show ¬ bI true = 0 from n10), sp_told hc.1.VF hp (lvs_bo c).2 (by omega), sm_tells (hm'.VM hf) hp (lvs_bo c).2 (by omega)]
    exact ⟨_, rfl, τ', rfl, hm', ek⟩
