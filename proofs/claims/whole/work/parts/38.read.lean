/-! read -/
theorem bo_readL {n s : Nat} {x : Int32} (hn : 300 ≤ n) (hs : s < 4) : ∀ (i i' v : Nat) (G : Gs) (σ τ : Sg), 12 ≤ i + v → 13 ≤ i' + v → v ≤ 9 → RC0 G σ → RM G τ → ∃ a G', HC σ (fn_X6_read_b36 n x i (45 + 2 * s) (nI v) (nI (5 * v)) σ) a G' ∧ HM τ (fn_X7_read_b29 n (nI s) i' (nI v) 1 τ) a G'
  | 0, _, v => fun G σ τ h _ h9 _ _ => by omega
  | _ + 1, 0, v => fun G σ τ _ h h9 _ _ => by omega
  | i + 1, i' + 1, v => fun G σ τ h1 h2 h9 hc hm => by
    obtain ⟨-, c1, c2, c3⟩ := hc.2.2.2.2.2.2.2.1 s hs
    obtain ⟨-, d1, d2, d3⟩ := hm.1.2.2.2.2.2.1 s hs
    have hz : ss G s ≤ 48 := (hc.1.2.2.2.2.2.2.2.1 s hs).2
    have S0 : ∀ z : Nat, nI (5 * v) + nI z = nI (5 * v + z) := fun z => nI_add _ _
    have T0 : 48 * nI s + 5 * nI v = nI (48 * s + 5 * v) := by
      rw [← nI_add]
      congr 1
      · exact (Int32.ofNat_mul 48 s).symm
      · exact (Int32.ofNat_mul 5 v).symm
    have T5 : 5 * nI v + 4 = nI (5 * v + 4) := by
      rw [← nI_add]
      congr 1
      exact (Int32.ofNat_mul 5 v).symm
    have T1 : ∀ z : Nat, nI (48 * s + 5 * v) + nI z = nI (48 * s + 5 * v + z) := fun z => nI_add _ _
    unfold fn_X6_read_b36 fn_X7_read_b29
    rw [ma_cl (show s < 2 ^ 31 by omega), c2, d2, if_neg n10, if_pos (ma_ib hs (by omega)), T5, show nI (5 * v) + 5 = nI (5 * v + 5) from S0 5]
    by_cases c : ss G s < 5 * v + 5
    · rw [if_pos (nI_lt c (by omega)), if_pos (nI_le (show ss G s ≤ 5 * v + 4 by omega) (by omega))]
      unfold fn_X6_read_b105
      obtain ⟨σ2, s1, s2, s3⟩ := hc.live hn
      exact ⟨nI v, G, ⟨σ2, by rw [s1]; rfl, s2, fun k hk => s3 k (by omega) (by omega) (by omega) (by omega) (by omega)⟩, HM.rf hm⟩
    · rw [if_neg (nI_nlt (by omega) (by omega)), if_neg (nI_ge (show 5 * v + 4 < ss G s by omega) (by omega)), T0, nI_1 (5 * v), nI_1 (48 * s + 5 * v), show nI (5 * v) + 2 = nI (5 * v + 2) from S0 2, show nI (5 * v) + 3 = nI (5 * v + 3) from S0 3, show nI (5 * v) + 4 = nI (5 * v + 4) from S0 4, show nI (48 * s + 5 * v) + 2 = nI (48 * s + 5 * v + 2) from T1 2, show nI (48 * s + 5 * v) + 3 = nI (48 * s + 5 * v + 3) from T1 3, show nI (48 * s + 5 * v) + 4 = nI (48 * s + 5 * v + 4) from T1 4, if_pos (ma_ib (show 5 * v < 48 by omega) (by omega)), if_pos (ma_ib (show 5 * v + 1 < 48 by omega) (by omega)), if_pos (ma_ib (show 5 * v + 2 < 48 by omega) (by omega)), if_pos (ma_ib (show 5 * v + 3 < 48 by omega) (by omega)), if_pos (ma_ib (show 5 * v + 4 < 48 by omega) (by omega)), if_pos (ma_ib (show 48 * s + 5 * v < 192 by omega) (by omega)), if_pos (ma_ib (show 48 * s + 5 * v + 1 < 192 by omega) (by omega)), if_pos (ma_ib (show 48 * s + 5 * v + 2 < 192 by omega) (by omega)), if_pos (ma_ib (show 48 * s + 5 * v + 3 < 192 by omega) (by omega)), if_pos (ma_ib (show 48 * s + 5 * v + 4 < 192 by omega) (by omega)), ma_cl (show 5 * v < 2 ^ 31 by omega), ma_cl (show 5 * v + 1 < 2 ^ 31 by omega), ma_cl (show 5 * v + 2 < 2 ^ 31 by omega), ma_cl (show 5 * v + 3 < 2 ^ 31 by omega), ma_cl (show 5 * v + 4 < 2 ^ 31 by omega), ma_cl (show 48 * s + 5 * v < 2 ^ 31 by omega), ma_cl (show 48 * s + 5 * v + 1 < 2 ^ 31 by omega), ma_cl (show 48 * s + 5 * v + 2 < 2 ^ 31 by omega), ma_cl (show 48 * s + 5 * v + 3 < 2 ^ 31 by omega), ma_cl (show 48 * s + 5 * v + 4 < 2 ^ 31 by omega), c3 (5 * v) (by omega), c3 (5 * v + 1) (by omega), c3 (5 * v + 2) (by omega), c3 (5 * v + 3) (by omega), c3 (5 * v + 4) (by omega), d3 (5 * v) (by omega), show τ 75 (48 * s + 5 * v + 1) = _ from d3 (5 * v + 1) (by omega), show τ 75 (48 * s + 5 * v + 2) = _ from d3 (5 * v + 2) (by omega), show τ 75 (48 * s + 5 * v + 3) = _ from d3 (5 * v + 3) (by omega), show τ 75 (48 * s + 5 * v + 4) = _ from d3 (5 * v + 4) (by omega)]
      rcases bo_take (x1 := si G s (5 * v)) (x2 := si G s (5 * v + 1)) (x3 := si G s (5 * v + 2)) (x4 := si G s (5 * v + 3)) (x5 := si G s (5 * v + 4)) hc hm with ⟨a, q1, q2, e1, e2⟩ | ⟨G', σ', τ', hl, eG, el, e1, e2, hc', hm', r1, r2⟩
      · rw [e1, e2, Option.bind_some, Option.bind_some, if_neg q1, if_pos q2]
        unfold fn_X6_read_b105 fn_X7_read_b112 fn_X7_read_b123
        rw [if_pos rfl]
        obtain ⟨σ2, s1, s2, s3⟩ := hc.live hn
        obtain ⟨i2, rfl⟩ : ∃ i2, i' = i2 + 1 := ⟨i' - 1, by omega⟩
        refine ⟨nI v, G, ⟨σ2, by rw [s1]; rfl, s2, fun k hk => s3 k (by omega) (by omega) (by omega) (by omega) (by omega)⟩, ?_⟩
        unfold fn_X7_read_b29
        rw [if_pos rfl, show nI v + 0 = nI v from nI_add v 0]
        exact HM.rf hm
      · rw [e1, e2, Option.bind_some, Option.bind_some, if_pos (nI_pos' (by omega)), if_neg (nI_nle (by omega) (by omega))]
        unfold fn_X7_read_b112 fn_X7_read_b123
        rw [if_neg n10, nI_1 v]
        obtain ⟨a, G2, ⟨σ2, z1, z2, z3⟩, ⟨τ2, y1, y2, y3⟩⟩ := bo_readL (x := x) hn hs i i' (v + 1) G' σ' τ' (by omega) (by omega) (by omega) hc' hm'
        exact ⟨a, G2, ⟨σ2, z1, z2, fun k hk => by rw [z3 k hk, r1 k (by omega)]⟩, ⟨τ2, y1, y2, fun k hk => by rw [y3 k hk, r2 k hk]⟩⟩
theorem bo_read {n : Nat} {G : Gs} {σ τ : Sg} {x : Int32} (hn : 300 ≤ n) (hc : RC G σ) (hm : RM G τ) : ∃ a G', HC σ (fn_X6_read n x σ) a G' ∧ HM τ (fn_X7_read n x τ) a G' := by
  unfold fn_X6_read fn_X7_read
  rcases ck_sheet x σ τ with ⟨⟨s, hs, rfl⟩, e1, e2⟩ | ⟨e1, e2⟩
  case inr => rw [e1, e2]; exact ⟨-2, G, HC.rf hc, HM.rf hm⟩
  rw [e1, e2, Option.bind_some, Option.bind_some, if_neg n10, if_neg n10, if_pos (ma_ib hs (by omega)), if_pos (ma_ib hs (by omega)), ma_cl (by omega)]
  obtain ⟨c0, -⟩ := hc.1.2.2.2.2.2.2.2.1 s hs
  obtain ⟨d0, -⟩ := hm.1.2.2.2.2.2.1 s hs
  rw [c0, d0]
  cases sh G s with
  | true =>
    rw [if_pos (show bI (!true) = 0 from rfl), if_neg (show ¬ bI true = 0 from n10)]
    exact bo_readL hn hs n n 0 G σ τ (by omega) (by omega) (by omega) hc.1 hm
  | false =>
    rw [if_neg (show ¬ bI (!false) = 0 from n10), if_pos (show bI false = 0 from rfl)]
    exact ⟨_, _, HC.find (v := 1) hc (by omega), HM.meet (v := 1) hm (by omega)⟩
