/-! loud, the reference -/
theorem sm_cntL {n y : Nat} {G : Gs} {τ : Sg} {x v2 v3 : Int32} {k14 : Int32 → Int32 → Int32 → Sg → Option (Int32 × Sg)} (hm : RM G τ) (ho : MO (sim (scn G) 200).2.1 τ) (hy : y < 200) : ∀ (i v : Nat), ls G < i + v → v ≤ ls G → fn_X7_loudOf_b28 n x k14 i v2 v3 (nI y) (nI (cO (sim (scn G) 200).2.1 y v)) (nI v) τ = if nI (cO (sim (scn G) 200).2.1 y (ls G)) ≤ v3 then k14 v2 v3 (nI (y + 1)) τ else k14 (nI y) (nI (cO (sim (scn G) 200).2.1 y (ls G))) (nI (y + 1)) τ
  | 0, v, h, hv => by omega
  | i + 1, v, h, hv => by
    have hl : ls G ≤ 12 := hm.1.1.2.2.2.1
    have l2 : τ 53 7 = nI (ls G) := hm.1.2.2.2.1.1
    unfold fn_X7_loudOf_b28
    rw [l2]
    by_cases z : v = ls G
    · rw [if_pos (nI_le (show ls G ≤ v by omega) (by omega)), z]
      unfold fn_X7_loudOf_b77 fn_X7_loudOf_b90
      rw [nI_1]
      by_cases c : nI (cO (sim (scn G) 200).2.1 y (ls G)) ≤ v3
      · rw [if_pos c, if_pos c, if_pos c]
      · rw [if_neg c, if_neg c, if_neg c]
    · rw [if_neg (nI_ge (by omega) (by omega)), if_pos (ma_ib (by omega) (by omega)), ma_cl (by omega), ho v (by omega)]
      unfold fn_X7_loudOf_b56
      have ih := sm_cntL (n := n) (x := x) (v2 := v2) (v3 := v3) (k14 := k14) hm ho hy i (v + 1) (by omega) (by omega)
      have e : cO (sim (scn G) 200).2.1 y (v + 1) = cO (sim (scn G) 200).2.1 y v + if (sim (scn G) 200).2.1 v = some y then 1 else 0 := rfl
      rw [e] at ih
      rw [nI_1 v]
      by_cases c : (sim (scn G) 200).2.1 v = some y
      · rw [if_pos c] at ih
        rw [if_pos (show oI ((sim (scn G) 200).2.1 v) = nI y by rw [c]; rfl), nI_1]
        exact ih
      · rw [if_neg c, Nat.add_zero] at ih
        have N : ¬ oI ((sim (scn G) 200).2.1 v) = nI y := by
          intro q
          cases d : (sim (scn G) 200).2.1 v with
          | none =>
            rw [d] at q
            exact ma_m1' (show y < 2 ^ 31 by omega) q
          | some t =>
            have tl : t < 200 := sim_O_lt _ d
            rw [d] at q c
            exact c (congrArg some ((nI_eq (by omega) (by omega)).mp q))
        rw [if_neg N, show nI (cO (sim (scn G) 200).2.1 y v) + 0 = nI (cO (sim (scn G) 200).2.1 y v) from nI_add _ 0]
        exact ih
def BestM (O : Nat → Option Nat) (m Y : Nat) (a c : Int32) : Prop := (a = -1 ∧ c = 0 ∧ ∀ y, y < Y → cO O y m = 0) ∨ ∃ y, y < Y ∧ a = nI y ∧ c = nI (cO O y m) ∧ 0 < cO O y m ∧ ∀ u, u < Y → cO O u m < cO O y m ∨ (cO O u m = cO O y m ∧ y ≤ u)
theorem sm_loudL {n : Nat} {G : Gs} {τ : Sg} {x : Int32} (hn : 20 ≤ n) (hm : RM G τ) (ho : MO (sim (scn G) 200).2.1 τ) : ∀ (i Y : Nat) (a c : Int32), 200 < i + Y → Y ≤ 200 → BestM (sim (scn G) 200).2.1 (ls G) Y a c → ∃ a' c', BestM (sim (scn G) 200).2.1 (ls G) 200 a' c' ∧ fn_X7_loudOf_b14 n x i a c (nI Y) τ = if x = 0 then some (a', τ) else if a' = -1 then some (a', τ) else some (c', τ)
  | 0, Y, a, c, h, hv, _ => by omega
  | i + 1, Y, a, c, h, hv, hb => by
    have hl : ls G ≤ 12 := hm.1.1.2.2.2.1
    unfold fn_X7_loudOf_b14 fn_X7_loudOf_b106
    by_cases z : Y = 200
    · subst z
      rw [if_pos (show (200 : Int32) ≤ nI 200 by decide)]
      exact ⟨a, c, hb, rfl⟩
    · have yle := cO_le (sim (scn G) 200).2.1 Y (ls G)
      rw [if_neg (show ¬ (200 : Int32) ≤ nI Y from nI_ge (b := 200) (by omega) (by omega)), show fn_X7_loudOf_b28 n x (fn_X7_loudOf_b14 n x i) n a c (nI Y) 0 0 τ = _ from sm_cntL (n := n) (x := x) (v2 := a) (v3 := c) hm ho (show Y < 200 by omega) n 0 (by omega) (by omega)]
      have stay : cO (sim (scn G) 200).2.1 Y (ls G) = 0 → a = -1 → c = 0 → BestM (sim (scn G) 200).2.1 (ls G) (Y + 1) a c := by
        intro h0 h1 h2
        left
        refine ⟨h1, h2, fun y hy => ?_⟩
        rcases hb with ⟨-, -, b3⟩ | ⟨y', y1, y2, -⟩
        · by_cases e : y = Y
          · rw [e]; exact h0
          · exact b3 y (by omega)
        · rw [h1] at y2
          exact absurd y2 (ma_m1' (by omega))
      by_cases q : nI (cO (sim (scn G) 200).2.1 Y (ls G)) ≤ c
      · rw [if_pos q]
        refine sm_loudL hn hm ho i (Y + 1) a c (by omega) (by omega) ?_
        rcases hb with ⟨b1, b2, b3⟩ | ⟨y, b0, b1, b2, b3, b4⟩
        · refine stay ?_ b1 b2
          by_cases e : cO (sim (scn G) 200).2.1 Y (ls G) = 0
          · exact e
          · rw [b2] at q
            exact absurd q (nI_nle (by omega) (by omega))
        · have yl2 := cO_le (sim (scn G) 200).2.1 y (ls G)
          rw [b2] at q
          have q' := (nI_leI (by omega) (by omega)).mp q
          refine Or.inr ⟨y, by omega, b1, b2, b3, fun u hu => ?_⟩
          by_cases e : u = Y
          · rw [e]; omega
          · exact b4 u (by omega)
      · rw [if_neg q]
        refine sm_loudL hn hm ho i (Y + 1) _ _ (by omega) (by omega) (Or.inr ⟨Y, by omega, rfl, rfl, ?_, fun u hu => ?_⟩)
        · rcases hb with ⟨b1, b2, b3⟩ | ⟨y, b0, b1, b2, b3, b4⟩
          · rw [b2] at q
            by_cases e : cO (sim (scn G) 200).2.1 Y (ls G) = 0
            · rw [e] at q; exact absurd (show nI 0 ≤ (0 : Int32) by decide) q
            · omega
          · have yl2 := cO_le (sim (scn G) 200).2.1 y (ls G)
            rw [b2] at q
            have q' : ¬ cO (sim (scn G) 200).2.1 Y (ls G) ≤ cO (sim (scn G) 200).2.1 y (ls G) := fun w => q ((nI_leI (by omega) (by omega)).mpr w)
            omega
        · by_cases e : u = Y
          · rw [e]; exact Or.inr ⟨rfl, Nat.le_refl _⟩
          · left
            rcases hb with ⟨b1, b2, b3⟩ | ⟨y, b0, b1, b2, b3, b4⟩
            · rw [b3 u (by omega)]
              rw [b2] at q
              by_cases e : cO (sim (scn G) 200).2.1 Y (ls G) = 0
              · rw [e] at q; exact absurd (show nI 0 ≤ (0 : Int32) by decide) q
              · omega
            · have yl2 := cO_le (sim (scn G) 200).2.1 y (ls G)
              rw [b2] at q
              have q' : ¬ cO (sim (scn G) 200).2.1 Y (ls G) ≤ cO (sim (scn G) 200).2.1 y (ls G) := fun w => q ((nI_leI (by omega) (by omega)).mpr w)
              have := b4 u (by omega)
              omega
theorem best_eq {O : Nat → Option Nat} {m : Nat} (hO : ∀ k t, O k = some t → t < 200) {a c a' c' : Int32} (h1 : BestC O m m a c) (h2 : BestM O m 200 a' c') : a = a' ∧ (a = -1 ↔ ∀ k, k < m → O k = none) ∧ (∀ y, y < 200 → a = nI y → c' = nI (cO O y m)) := by
  rcases h1 with ⟨b1, b2, b3⟩ | ⟨y, b0, b1, b2, b3, b4⟩
  · rcases h2 with ⟨d1, d2, d3⟩ | ⟨z, d0, d1, d2, d3, d4⟩
    · exact ⟨by rw [b1, d1], ⟨fun _ => b3, fun _ => b1⟩, fun y hy e => absurd (b1.symm.trans e) (ma_m1' (by omega))⟩
    · obtain ⟨k, k1, k2⟩ := cO_pos.mp d3
      rw [b3 k k1] at k2
      cases k2
  · obtain ⟨k, k1, k2⟩ := cO_pos.mp b3
    rcases h2 with ⟨d1, d2, d3⟩ | ⟨z, d0, d1, d2, d3, d4⟩
    · have := d3 y b0
      omega
    · have e : y = z := by
        obtain ⟨k', k3, k4⟩ := cO_pos.mp d3
        have p1 := b4 k' z k3 k4
        have p2 := d4 y b0
        omega
      subst e
      refine ⟨by rw [b1, d1], ⟨fun q => absurd (q.symm.trans b1) (ma_m1' (by omega)), fun q => by rw [q k k1] at k2; cases k2⟩, fun u hu e => ?_⟩
      have : y = u := (nI_eq (by omega) (by omega)).mp (b1.symm.trans e)
      rw [← this]; exact d2
theorem bo_loud {n : Nat} {G : Gs} {σ τ : Sg} {x : Int32} (hn : 600 ≤ n) (hc : RC G σ) (hm : RM G τ) : ∃ a, fn_X6_loud n x σ = some a ∧ HM τ (fn_X7_loud n x τ) a G := by
  have hl : ls G ≤ 12 := hc.1.1.2.2.2.1
  unfold fn_X6_loud fn_X7_loud
  rcases bo_ck (m := 1) (by omega) x σ τ with ⟨⟨j, hj, rfl⟩, e7, e8⟩ | ⟨e7, e8⟩
  case inr => rw [show fn_X6_isBelow x 2 σ = _ from e7, show fn_X7_in x 0 1 τ = _ from e8]; exact ⟨-2, rfl, HM.rf hm⟩
  rw [show fn_X6_isBelow (nI j) 2 σ = _ from e7, show fn_X7_in (nI j) 0 1 τ = _ from e8, Option.bind_some, Option.bind_some, if_neg n10, if_neg n10]
  obtain ⟨τ2, s1, s2, -, s3, s4⟩ := hm.all hn
  obtain ⟨a, c, r1, r2⟩ := sp_loudL (n := n) (by omega) hc n 0 (-1) 0 (by omega) (by omega) (Or.inl ⟨rfl, rfl, fun k hk => absurd hk (Nat.not_lt_zero k)⟩)
  obtain ⟨a', c', t1, t2⟩ := sm_loudL (n := n) (x := nI j) (by omega) s2 s3.2.1 n 0 (-1) 0 (by omega) (by omega) (Or.inl ⟨rfl, rfl, fun k hk => absurd hk (Nat.not_lt_zero k)⟩)
  obtain ⟨b1, b2, b3⟩ := best_eq (fun k t h => sim_O_lt _ h) r2 t1
  subst b1
  unfold fn_X7_loudOf fn_X5_loudestYear
  rw [s1, Option.bind_some, show fn_X7_loudOf_b14 n (nI j) n (-1) 0 0 τ2 = _ from t2, show fn_X5_loudestYear_b6 n 3 σ n (-1) 0 0 = _ from r1]
  have o1 := hc.2.2.1.1
  by_cases q : σ 3 4 = 0
  · have all : ∀ k, k < ls G → (sim (scn G) 200).2.1 k = none := by
      intro k hk
      have e : bt (σ 3 4) k = ((sim (scn G) 200).2.1 k).isSome := o1.at hk (by rw [scn_sz]; omega)
      rw [q, b_0] at e
      cases d : (sim (scn G) 200).2.1 k with
      | none => rfl
      | some t => rw [d] at e; cases e
    have am := b2.mpr all
    rw [if_pos q, if_pos am, am]
    exact ⟨-1, rfl, τ2, by split <;> rfl, s2, s4⟩
  · have na : ¬ a = -1 := by
      intro w
      refine q (o1.eq (IsB.zero _) (fun k hk => ?_))
      rw [b2.mp w k hk]; rfl
    rw [if_neg q, if_neg na, Option.bind_some]
    by_cases z : j = 0
    · subst z
      rw [if_pos (show nI 0 = 0 from rfl), if_pos (show nI 0 = 0 from rfl)]
      exact ⟨a, rfl, τ2, rfl, s2, s4⟩
    · rcases r2 with ⟨w, -⟩ | ⟨y, y0, y1, y2, -⟩
      · exact absurd w na
      · have ow : fn_X5_openedWithin n 3 (nI y) σ = some (nI (cO (sim (scn G) 200).2.1 y (ls G))) := sp_within (n := n) hc y0 n 0 (by omega) (by omega)
        rw [if_neg (nI_ne0 (by omega) (by omega)), if_neg (nI_ne0 (by omega) (by omega)), y1, ow, b3 y y0 y1]
        exact ⟨_, rfl, τ2, rfl, s2, s4⟩
