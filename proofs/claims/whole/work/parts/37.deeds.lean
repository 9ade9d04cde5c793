/-! done, forget, findings, read -/
def gFi (G : Gs) (v : Nat) : Gs := (G.1, G.2.1, G.2.2.1, G.2.2.2.1, v)
theorem gFi_ok {G : Gs} {v : Nat} (g : GOk G) (h : v ≤ 5) : GOk (gFi G v) := ⟨g.1, g.2.1, g.2.2.1, g.2.2.2.1, g.2.2.2.2.1, g.2.2.2.2.2.1, g.2.2.2.2.2.2.1, g.2.2.2.2.2.2.2.1, h⟩
theorem RC.find {G : Gs} {σ : Sg} {v : Nat} (h : RC G σ) (hv : v ≤ 5) : RC (gFi G v) (ag_up σ 0 7 (nI v)) := by
  obtain ⟨⟨g, a1, a2, a3, a4, a5, a6, a7, a8⟩, l⟩ := h
  refine ⟨⟨gFi_ok g hv, a1.kp (ag_up_ne (by decide)) (ag_up_ne (by decide)), a2.kp (ag_up_ne (by decide)), a3.kp (fun k p q => ag_up_ne (by omega)), a4.kp (fun k p q => ag_up_ne (by omega)), ?_, a6.kp (fun k p q => ag_up_ne (by omega)), a7.kp (fun k p q => ag_up_ne (by omega)), ma_up_s _ _ _ _⟩, l.keep ?_ ?_ (ag_up_ne (by decide)) (ag_up_ne (by decide)) (ag_up_ne (by decide)) (ag_up_ne (by decide))⟩
  · rw [ag_up_ne (show 3 ≠ 0 by decide)]; exact a5
  · rw [ag_up_ne (show 3 ≠ 0 by decide)]
  · rw [ag_up_ne (show 3 ≠ 0 by decide)]
theorem RM.meet {G : Gs} {σ : Sg} {v : Nat} (h : RM G σ) (hv : v ≤ 5) : RM (gFi G v) (ag_up σ 53 36 (nI v)) := by
  obtain ⟨⟨g, b1, b2, b3, b6, b7, b8⟩, bm⟩ := h
  exact ⟨⟨gFi_ok g hv, b1.kp (ma_up_i (by decide) 53) (ag_up_ne (by decide)), b2.kp (ag_up_ne (by decide)), b3.kp (ma_up_i (by decide) 53) (fun k p q => ag_up_ne (by omega)), b6.kp (ma_up_i (by decide) 53) (fun k p q => ag_up_ne (by omega)), b7.kp (fun k p q => ag_up_ne (by omega)), ma_up_s _ _ _ _⟩, bm.kp (fun i p q => ma_up_i (by omega) 53)⟩
theorem HC.find {G : Gs} {σ : Sg} {v : Nat} (h : RC G σ) (hv : v ≤ 5) : HC σ (Option.bind (fn_X6_find (nI v) σ) fun q => some (q.1, q.2)) (-10 - nI v) (gFi G v) := ⟨_, rfl, h.find hv, fun k hk => ag_up_ne (by omega)⟩
theorem HM.meet {G : Gs} {σ : Sg} {v : Nat} (h : RM G σ) (hv : v ≤ 5) : HM σ (Option.bind (fn_X7_meets (nI v) σ) fun q => some (q.1, q.2)) (-10 - nI v) (gFi G v) := ⟨_, rfl, h.meet hv, fun k hk => ag_up_ne (by omega)⟩
theorem bo_forget {G : Gs} {σ τ : Sg} (hc : RC G σ) (hm : RM G τ) : ∃ a G', HC σ (fn_X6_forget σ) a G' ∧ HM τ (fn_X7_forget τ) a G' := by
  obtain ⟨⟨g, a1, a2, a3, a4, a5, a6, a7, a8⟩, l⟩ := hc
  obtain ⟨⟨-, b1, b2, b3, b6, b7, b8⟩, bm⟩ := hm
  unfold fn_X6_forget fn_X7_forget
  rw [a6.1, b6.1]
  have g' : GOk (G.1, G.2.1, (0, G.2.2.1.2), G.2.2.2) := ⟨g.1, g.2.1, g.2.2.1, g.2.2.2.1, g.2.2.2.2.1, Nat.zero_le _, fun i hi => absurd hi (Nat.not_lt_zero i), g.2.2.2.2.2.2.2⟩
  refine ⟨nI (ds G), (G.1, G.2.1, (0, G.2.2.1.2), G.2.2.2), ⟨ag_up σ 39 0 0, rfl, ⟨⟨g', a1.kp (ag_up_ne (by decide)) (ag_up_ne (by decide)), a2.kp (ag_up_ne (by decide)), a3.kp (fun k p q => ag_up_ne (by omega)), a4.kp (fun k p q => ag_up_ne (by omega)), ?_, ⟨ma_up_s _ _ _ _, fun i hi => absurd hi (Nat.not_lt_zero i)⟩, a7.kp (fun k p q => ag_up_ne (by omega)), a8.kp (ag_up_ne (by decide))⟩, l.keep ?_ ?_ (ag_up_ne (by decide)) (ag_up_ne (by decide)) (ag_up_ne (by decide)) (ag_up_ne (by decide))⟩, fun k hk => ag_up_ne (by omega)⟩, ⟨ag_up τ 53 26 0, rfl, ⟨⟨g', b1.kp (ma_up_i (by decide) 53) (ag_up_ne (by decide)), b2.kp (ag_up_ne (by decide)), b3.kp (ma_up_i (by decide) 53) (fun k p q => ag_up_ne (by omega)), ⟨ma_up_s _ _ _ _, fun i hi => absurd hi (Nat.not_lt_zero i)⟩, b7.kp (fun k p q => ag_up_ne (by omega)), b8.kp (ma_up_i (by decide) 53)⟩, bm.kp (fun i p q => ma_up_i (by omega) 53)⟩, fun k hk => ag_up_ne (by omega)⟩⟩
  · rw [ag_up_ne (show 3 ≠ 39 by decide)]; exact a5
  · rw [ag_up_ne (show 3 ≠ 39 by decide)]
  · rw [ag_up_ne (show 3 ≠ 39 by decide)]
def gDo (G : Gs) (y p w i : Nat) : Gs := (G.1, G.2.1, (ds G + 1, (fun k => if k = ds G then y else dy G k), (fun k => if k = ds G then p else dp G k), (fun k => if k = ds G then w else dw G k), (fun k => if k = ds G then i else di G k)), G.2.2.2)
theorem bo_done {G : Gs} {σ τ : Sg} {x1 x2 x3 x4 : Int32} (hc : RC G σ) (hm : RM G τ) : ∃ a G', HC σ (fn_X6_done x1 x2 x3 x4 σ) a G' ∧ HM τ (fn_X7_done x1 x2 x3 x4 τ) a G' := by
  unfold fn_X6_done fn_X7_done
  rcases ck_year x1 σ τ with ⟨⟨y, hy, rfl⟩, e1, e2⟩ | ⟨e1, e2⟩
  case inr => rw [e1, e2]; exact ⟨-2, G, HC.rf hc, HM.rf hm⟩
  rw [e1, e2, Option.bind_some, Option.bind_some, if_neg n10, if_neg n10]
  rcases ck_ten x2 σ τ with ⟨⟨p, hp, rfl⟩, e3, e4⟩ | ⟨e3, e4⟩
  case inr => rw [e3, e4]; exact ⟨-2, G, HC.rf hc, HM.rf hm⟩
  rw [e3, e4, Option.bind_some, Option.bind_some, if_neg n10, if_neg n10]
  rcases ck_word x3 σ τ with ⟨⟨w, hw, rfl⟩, e5, e6⟩ | ⟨e5, e6⟩
  case inr => rw [e5, e6]; exact ⟨-2, G, HC.rf hc, HM.rf hm⟩
  rw [e5, e6, Option.bind_some, Option.bind_some, if_neg n10, if_neg n10]
  rcases bo_ck (m := 1) (by omega) x4 σ τ with ⟨⟨j, hj, rfl⟩, e7, e8⟩ | ⟨e7, e8⟩
  case inr => rw [show fn_X6_isBelow x4 2 σ = _ from e7, show fn_X7_in x4 0 1 τ = _ from e8]; exact ⟨-2, G, HC.rf hc, HM.rf hm⟩
  rw [show fn_X6_isBelow (nI j) 2 σ = _ from e7, show fn_X7_in (nI j) 0 1 τ = _ from e8, Option.bind_some, Option.bind_some, if_neg n10, if_neg n10]
  have l1 : σ 39 0 = nI (ds G) := hc.1.2.2.2.2.2.2.1.1
  have l2 : τ 53 26 = nI (ds G) := hm.1.2.2.2.2.1.1
  have hl : ds G ≤ 8 := hc.1.1.2.2.2.2.2.1
  by_cases c : ds G = 8
  · rw [l1, l2, if_neg (show ¬ nI (ds G) < (8 : Int32) from nI_nlt (b := 8) (by omega) (by omega)), if_pos (show nI (ds G) = (8 : Int32) from eqL c)]
    exact ⟨-4, G, HC.rf hc, HM.rf hm⟩
  have hlt : ds G < 8 := by omega
  have P : nI (ds G) < (8 : Int32) := nI_lt (b := 8) hlt (by omega)
  have I : ag_ib (nI (ds G)) 8 = true := ma_ib hlt (by omega)
  unfold fn_X0_addOne
  unfold ag_sg
  dsimp only
  obtain ⟨⟨g, a1, a2, a3, a4, a5, a6, a7, a8⟩, l⟩ := hc
  obtain ⟨⟨-, b1, b2, b3, b6, b7, b8⟩, bm⟩ := hm
  rw [ag_up_ne (show 39 ≠ 42 by decide), ag_up_ne (show 39 ≠ 43 by decide), ag_up_ne (show 39 ≠ 42 by decide), ag_up_ne (show 39 ≠ 41 by decide), ag_up_ne (show 39 ≠ 40 by decide), l1, if_pos P, if_pos P, if_pos I, if_pos I, if_pos I, if_pos I, Option.bind_some, ma_up_s, ma_cl (by omega), nI_1]
  rw [ag_up_ne (show 53 ≠ 70 by decide), ag_up_ne (show 53 ≠ 71 by decide), ag_up_ne (show 53 ≠ 70 by decide), ag_up_ne (show 53 ≠ 69 by decide), ag_up_ne (show 53 ≠ 68 by decide), l2, if_neg (show ¬ nI (ds G) = (8 : Int32) from neL (k := 8) (by omega) (by omega) c), if_pos I, if_pos I, if_pos I, if_pos I, ma_up_s, ma_cl (by omega), nI_1]
  have g' : GOk (gDo G y p w j) := by
    refine ⟨g.1, g.2.1, g.2.2.1, g.2.2.2.1, g.2.2.2.2.1, show ds G + 1 ≤ 8 by omega, fun k hk => ?_, g.2.2.2.2.2.2.2⟩
    have hk' : k < ds G + 1 := hk
    show (if k = ds G then y else dy G k) < 200 ∧ (if k = ds G then p else dp G k) < 10 ∧ (if k = ds G then w else dw G k) < 8 ∧ (if k = ds G then j else di G k) < 2
    by_cases z : k = ds G
    · simp only [if_pos z]
      exact ⟨hy, hp, hw, hj⟩
    · simp only [if_neg z]
      exact g.2.2.2.2.2.2.1 k (by omega)
  have E : ∀ k, k < 39 ∨ 43 < k → ag_up (ag_up (ag_up (ag_up (ag_up σ 40 (ds G) (nI y)) 41 (ds G) (nI p)) 42 (ds G) (nI w)) 43 (ds G) (nI j)) 39 0 (nI (ds G + 1)) k = σ k := fun k hk => by
    rw [ag_up_ne (by omega), ag_up_ne (by omega), ag_up_ne (by omega), ag_up_ne (by omega), ag_up_ne (by omega)]
  have F : ∀ k, k ≠ 53 → k < 68 ∨ 71 < k → ag_up (ag_up (ag_up (ag_up (ag_up τ 68 (ds G) (nI y)) 69 (ds G) (nI p)) 70 (ds G) (nI w)) 71 (ds G) (nI j)) 53 26 (nI (ds G + 1)) k = τ k := fun k h0 hk => by
    rw [ag_up_ne (by omega), ag_up_ne (by omega), ag_up_ne (by omega), ag_up_ne (by omega), ag_up_ne (by omega)]
  have F0 : ∀ i, i ≠ 26 → ag_up (ag_up (ag_up (ag_up (ag_up τ 68 (ds G) (nI y)) 69 (ds G) (nI p)) 70 (ds G) (nI w)) 71 (ds G) (nI j)) 53 26 (nI (ds G + 1)) 53 i = τ 53 i := fun i h0 => by
    rw [ma_up_i h0, ag_up_ne (by decide), ag_up_ne (by decide), ag_up_ne (by decide), ag_up_ne (by decide)]
  refine ⟨nI (ds G + 1), gDo G y p w j, ⟨_, rfl, ⟨⟨g', a1.kp (E 1 (by omega)) (E 2 (by omega)), a2.kp (E 9 (by omega)), a3.kp (fun k p q => E k (by omega)), a4.kp (fun k p q => E k (by omega)), ?_, ⟨ma_up_s _ _ _ _, fun k hk => ?_⟩, a7.kp (fun k p q => E k (by omega)), a8.kp (E 0 (by omega))⟩, l.keep ?_ ?_ (E 16 (by omega)) (E 17 (by omega)) (E 18 (by omega)) (E 19 (by omega))⟩, fun k hk => E k (by omega)⟩, ⟨_, rfl, ⟨⟨g', b1.kp (F0 1 (by decide)) (F 54 (by omega) (by omega)), b2.kp (F 58 (by omega) (by omega)), b3.kp (F0 7 (by decide)) (fun k p q => F k (by omega) (by omega)), ⟨ma_up_s _ _ _ _, fun k hk => ?_⟩, b7.kp (fun k p q => F k (by omega) (by omega)), b8.kp (F0 36 (by decide))⟩, bm.kp (fun i p q => F0 i (by omega))⟩, fun k hk => F k (by omega) (by omega)⟩⟩
  · rw [E 3 (by omega)]; exact a5
  · have hk' : k < ds G + 1 := hk
    show _ = nI (if k = ds G then y else dy G k) ∧ _ = nI (if k = ds G then p else dp G k) ∧ _ = nI (if k = ds G then w else dw G k) ∧ _ = nI (if k = ds G then j else di G k)
    rw [ag_up_ne (show 40 ≠ 39 by decide), ag_up_ne (show 41 ≠ 39 by decide), ag_up_ne (show 42 ≠ 39 by decide), ag_up_ne (show 43 ≠ 39 by decide)]
    by_cases z : k = ds G
    · simp only [if_pos z]
      subst z
      refine ⟨?_, ?_, ?_, ma_up_s _ _ _ _⟩
      · rw [ag_up_ne (by decide), ag_up_ne (by decide), ag_up_ne (by decide)]; exact ma_up_s _ _ _ _
      · rw [ag_up_ne (by decide), ag_up_ne (by decide)]; exact ma_up_s _ _ _ _
      · rw [ag_up_ne (by decide)]; exact ma_up_s _ _ _ _
    · simp only [if_neg z]
      rw [ma_up_i z, ma_up_i z, ma_up_i z, ma_up_i z, ma_up_i z, ma_up_i z, ma_up_i z, ma_up_i z, ma_up_i z, ma_up_i z, ma_up_i z, ma_up_i z, ma_up_i z, ma_up_i z, ma_up_i z, ma_up_i z]
      exact a6.2 k (by omega)
  · rw [E 3 (by omega)]
  · rw [E 3 (by omega)]
  · have hk' : k < ds G + 1 := hk
    show _ = nI (if k = ds G then y else dy G k) ∧ _ = nI (if k = ds G then p else dp G k) ∧ _ = nI (if k = ds G then w else dw G k) ∧ _ = nI (if k = ds G then j else di G k)
    rw [ag_up_ne (show 68 ≠ 53 by decide), ag_up_ne (show 69 ≠ 53 by decide), ag_up_ne (show 70 ≠ 53 by decide), ag_up_ne (show 71 ≠ 53 by decide)]
    by_cases z : k = ds G
    · simp only [if_pos z]
      subst z
      refine ⟨?_, ?_, ?_, ma_up_s _ _ _ _⟩
      · rw [ag_up_ne (by decide), ag_up_ne (by decide), ag_up_ne (by decide)]; exact ma_up_s _ _ _ _
      · rw [ag_up_ne (by decide), ag_up_ne (by decide)]; exact ma_up_s _ _ _ _
      · rw [ag_up_ne (by decide)]; exact ma_up_s _ _ _ _
    · simp only [if_neg z]
      rw [ma_up_i z, ma_up_i z, ma_up_i z, ma_up_i z, ma_up_i z, ma_up_i z, ma_up_i z, ma_up_i z, ma_up_i z, ma_up_i z, ma_up_i z, ma_up_i z, ma_up_i z, ma_up_i z, ma_up_i z, ma_up_i z]
      exact b6.2 k (by omega)
