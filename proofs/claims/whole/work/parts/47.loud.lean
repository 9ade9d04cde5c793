/-! loud -/
def cO (O : Nat → Option Nat) (y : Nat) : Nat → Nat
  | 0 => 0
  | m + 1 => cO O y m + if O m = some y then 1 else 0
theorem cO_le (O : Nat → Option Nat) (y : Nat) : ∀ m, cO O y m ≤ m
  | 0 => Nat.le_refl 0
  | m + 1 => by
    have := cO_le O y m
    unfold cO
    split <;> omega
theorem cO_pos {O : Nat → Option Nat} {y : Nat} : ∀ {m : Nat}, 0 < cO O y m ↔ ∃ k, k < m ∧ O k = some y
  | 0 => ⟨fun h => absurd h (Nat.lt_irrefl 0), fun ⟨k, h, _⟩ => absurd h (Nat.not_lt_zero k)⟩
  | m + 1 => by
    have ih := cO_pos (O := O) (y := y) (m := m)
    unfold cO
    by_cases c : O m = some y
    · rw [if_pos c]
      exact ⟨fun _ => ⟨m, by omega, c⟩, fun _ => by omega⟩
    · rw [if_neg c, Nat.add_zero, ih]
      constructor
      · rintro ⟨k, h1, h2⟩
        exact ⟨k, by omega, h2⟩
      · rintro ⟨k, h1, h2⟩
        refine ⟨k, ?_, h2⟩
        by_cases e : k = m
        · exact absurd (e ▸ h2) c
        · omega
theorem sp_within {n y : Nat} {G : Gs} {σ : Sg} (hc : RC G σ) (hy : y < 200) : ∀ (i v : Nat), ls G < i + v → v ≤ ls G → fn_X5_openedWithin_b4 n 3 (nI y) σ i (nI (cO (sim (scn G) 200).2.1 y v)) (nI v) = some (nI (cO (sim (scn G) 200).2.1 y (ls G)))
  | 0, v, h, hv => by omega
  | i + 1, v, h, hv => by
    have hl : ls G ≤ 12 := hc.1.1.2.2.2.1
    have l1 : σ (3 + 7) 0 = nI (ls G) := hc.1.2.2.2.2.1.1
    unfold fn_X5_openedWithin_b4
    rw [l1]
    by_cases z : v = ls G
    · rw [if_pos (nI_le (show ls G ≤ v by omega) (by omega)), z]
    · rw [if_neg (nI_ge (by omega) (by omega)), sp_opening hc (by omega), Option.bind_some]
      unfold fn_X5_openedWithin_b30
      have ih := sp_within (n := n) hc hy i (v + 1) (by omega) (by omega)
      have e : cO (sim (scn G) 200).2.1 y (v + 1) = cO (sim (scn G) 200).2.1 y v + if (sim (scn G) 200).2.1 v = some y then 1 else 0 := rfl
      rw [e] at ih
      rw [nI_1 v]
      by_cases c : (sim (scn G) 200).2.1 v = some y
      · rw [if_pos c] at ih
        rw [if_pos (by rw [c]; rfl), nI_1]
        exact ih
      · rw [if_neg c, Nat.add_zero] at ih
        rw [if_neg, show nI (cO (sim (scn G) 200).2.1 y v) + 0 = nI (cO (sim (scn G) 200).2.1 y v) from nI_add _ 0]
        · exact ih
        · intro q
          cases d : (sim (scn G) 200).2.1 v with
          | none =>
            rw [d] at q
            exact ma_m1' (show y < 2 ^ 31 by omega) q
          | some t =>
            have tl : t < 200 := sim_O_lt _ d
            rw [d] at q c
            exact c (congrArg some ((nI_eq (by omega) (by omega)).mp q))
/-- the best of the letters before v -/
def BestC (O : Nat → Option Nat) (m v : Nat) (a c : Int32) : Prop := (a = -1 ∧ c = 0 ∧ ∀ k, k < v → O k = none) ∨ ∃ y, y < 200 ∧ a = nI y ∧ c = nI (cO O y m) ∧ 0 < cO O y m ∧ ∀ k t, k < v → O k = some t → cO O t m < cO O y m ∨ (cO O t m = cO O y m ∧ y ≤ t)
theorem sp_loudL {n : Nat} {G : Gs} {σ : Sg} (hn : 20 ≤ n) (hc : RC G σ) : ∀ (i v : Nat) (a c : Int32), ls G < i + v → v ≤ ls G → BestC (sim (scn G) 200).2.1 (ls G) v a c → ∃ a' c', fn_X5_loudestYear_b6 n 3 σ i a c (nI v) = some a' ∧ BestC (sim (scn G) 200).2.1 (ls G) (ls G) a' c'
  | 0, v, a, c, h, hv, _ => by omega
  | i + 1, v, a, c, h, hv, hb => by
    have hl : ls G ≤ 12 := hc.1.1.2.2.2.1
    have l1 : σ (3 + 7) 0 = nI (ls G) := hc.1.2.2.2.2.1.1
    unfold fn_X5_loudestYear_b6
    rw [l1]
    by_cases z : v = ls G
    · rw [if_pos (nI_le (show ls G ≤ v by omega) (by omega))]
      exact ⟨a, c, rfl, z ▸ hb⟩
    · rw [if_neg (nI_ge (by omega) (by omega)), sp_opening hc (by omega), Option.bind_some]
      unfold fn_X5_loudestYear_b40 fn_X5_loudestYear_b65 fn_X5_loudestYear_b71
      rw [nI_1]
      have same : (∀ t, (sim (scn G) 200).2.1 v = some t → ∃ y, y < 200 ∧ a = nI y ∧ c = nI (cO (sim (scn G) 200).2.1 y (ls G)) ∧ (cO (sim (scn G) 200).2.1 t (ls G) < cO (sim (scn G) 200).2.1 y (ls G) ∨ (cO (sim (scn G) 200).2.1 t (ls G) = cO (sim (scn G) 200).2.1 y (ls G) ∧ y ≤ t))) → ∃ a' c', fn_X5_loudestYear_b6 n 3 σ i a c (nI (v + 1)) = some a' ∧ BestC (sim (scn G) 200).2.1 (ls G) (ls G) a' c' := by
        intro hh
        refine sp_loudL hn hc i (v + 1) a c (by omega) (by omega) ?_
        rcases hb with ⟨b1, b2, b3⟩ | ⟨y, b0, b1, b2, b3, b4⟩
        · left
          refine ⟨b1, b2, fun k hk => ?_⟩
          by_cases e : k = v
          · cases d : (sim (scn G) 200).2.1 v with
            | none => rw [e]; exact d
            | some t =>
              obtain ⟨y, y1, y2, -⟩ := hh t d
              rw [b1] at y2
              exact absurd y2 (ma_m1' (by omega))
          · exact b3 k (by omega)
        · right
          refine ⟨y, b0, b1, b2, b3, fun k t hk ht => ?_⟩
          by_cases e : k = v
          · obtain ⟨y', y1, y2, -, y4⟩ := hh t (e ▸ ht)
            have : y = y' := (nI_eq (by omega) (by omega)).mp (b1.symm.trans y2)
            rw [this]; exact y4
          · exact b4 k t (by omega) ht
      have c0 : ¬ c < 0 := by
        rcases hb with ⟨-, b2, -⟩ | ⟨y, -, -, b2, -⟩
        · rw [b2]; decide
        · rw [b2]; exact nI_pos (by have := cO_le (sim (scn G) 200).2.1 y (ls G); omega)
      cases d : (sim (scn G) 200).2.1 v with
      | none =>
        have sm := same (fun t ht => by rw [d] at ht; cases ht)
        rw [if_pos (show oI none = -1 from rfl), if_neg c0, if_pos (show (0 : Int32) ≤ 0 by decide)]
        by_cases q : (0 : Int32) = c
        · rw [if_pos q]; exact sm
        · rw [if_neg q]; exact sm
      | some t =>
        have tl : t < 200 := sim_O_lt _ d
        have tp : 0 < cO (sim (scn G) 200).2.1 t (ls G) := cO_pos.mpr ⟨v, by omega, d⟩
        have tle := cO_le (sim (scn G) 200).2.1 t (ls G)
        have ow : fn_X5_openedWithin n 3 (oI (some t)) σ = some (nI (cO (sim (scn G) 200).2.1 t (ls G))) := sp_within (n := n) hc tl n 0 (by omega) (by omega)
        rw [if_neg (show ¬ oI (some t) = -1 from ma_m1 (by omega)), ow, Option.bind_some]
        have new : (∀ k u, k < v → (sim (scn G) 200).2.1 k = some u → cO (sim (scn G) 200).2.1 u (ls G) < cO (sim (scn G) 200).2.1 t (ls G) ∨ (cO (sim (scn G) 200).2.1 u (ls G) = cO (sim (scn G) 200).2.1 t (ls G) ∧ t ≤ u)) → ∃ a' c', fn_X5_loudestYear_b6 n 3 σ i (oI (some t)) (nI (cO (sim (scn G) 200).2.1 t (ls G))) (nI (v + 1)) = some a' ∧ BestC (sim (scn G) 200).2.1 (ls G) (ls G) a' c' := by
          intro hh
          refine sp_loudL hn hc i (v + 1) _ _ (by omega) (by omega) (Or.inr ⟨t, tl, rfl, rfl, tp, fun k u hk hu => ?_⟩)
          by_cases e : k = v
          · rw [e, d] at hu
            injection hu with e2
            rw [e2]; exact Or.inr ⟨rfl, Nat.le_refl _⟩
          · exact hh k u (by omega) hu
        rcases hb with ⟨b1, b2, b3⟩ | ⟨y, b0, b1, b2, b3, b4⟩
        · rw [if_pos (by rw [b2]; exact nI_lt (a := 0) tp (by omega))]
          exact new (fun k u hk hu => by rw [b3 k hk] at hu; cases hu)
        · have yle := cO_le (sim (scn G) 200).2.1 y (ls G)
          by_cases q1 : cO (sim (scn G) 200).2.1 y (ls G) < cO (sim (scn G) 200).2.1 t (ls G)
          · rw [if_pos (by rw [b2]; exact nI_lt q1 (by omega))]
            exact new (fun k u hk hu => by have := b4 k u hk hu; omega)
          · rw [if_neg (by rw [b2]; exact nI_nlt (by omega) (by omega)), if_neg (nI_nle tp (by omega))]
            by_cases q2 : cO (sim (scn G) 200).2.1 t (ls G) = cO (sim (scn G) 200).2.1 y (ls G)
            · rw [if_pos (by rw [b2]; exact eqL q2)]
              by_cases q3 : y ≤ t
              · rw [if_pos (by rw [b1]; exact nI_le q3 (by omega))]
                exact same (fun u hu => by rw [d] at hu; injection hu with e; exact ⟨y, b0, b1, b2, Or.inr ⟨by rw [← e]; exact q2, by omega⟩⟩)
              · rw [if_neg (by rw [b1]; exact nI_ge (by omega) (by omega))]
                exact new (fun k u hk hu => by have := b4 k u hk hu; omega)
            · rw [if_neg (by rw [b2]; exact neL (by omega) (by omega) q2)]
              exact same (fun u hu => by rw [d] at hu; injection hu with e; exact ⟨y, b0, b1, b2, Or.inl (by rw [← e]; omega)⟩)
