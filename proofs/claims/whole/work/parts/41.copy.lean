/-! copy -/
theorem lN_ltb {a b : Nat} (ha : a < 2 ^ 40) (hb : b < 2 ^ 40) : lN a < lN b ↔ a < b := by
  rw [Int64.lt_iff_toInt_lt, show (lN a).toInt = (a : Int) from lg_ofNat_toInt (by omega), show (lN b).toInt = (b : Int) from lg_ofNat_toInt (by omega)]
  omega
theorem lN_leb {a b : Nat} (ha : a < 2 ^ 40) (hb : b < 2 ^ 40) : lN a ≤ lN b ↔ a ≤ b := by
  rw [Int64.le_iff_toInt_le, show (lN a).toInt = (a : Int) from lg_ofNat_toInt (by omega), show (lN b).toInt = (b : Int) from lg_ofNat_toInt (by omega)]
  omega
theorem sp_str {b z : Nat} {σ : Sg} (e : σ b 2 = nI z) (hz : z ≤ 48) (x y : Int32) : (∃ p q, x = nI p ∧ y = nI q ∧ p + q ≤ z ∧ fn_X3_hasStretch b x y σ = some 1) ∨ ((∀ p q, x = nI p → y = nI q → ¬ p + q ≤ z) ∧ fn_X3_hasStretch b x y σ = some 0) := by
  unfold fn_X3_hasStretch
  rw [e]
  have N : ∀ {x : Int32} {p z : Nat}, z ≤ 48 → x < 0 → x = nI p → ¬ p ≤ z := by
    intro x p z hz h1 h2 h3
    rw [h2] at h1
    exact nI_pos (by omega) h1
  rcases ma_cases x with h1 | ⟨p, hp, rfl⟩
  · right
    rw [if_pos h1]
    exact ⟨fun p q a b c => N hz h1 a (by omega), rfl⟩
  rw [if_neg (nI_pos hp)]
  rcases ma_cases y with h1 | ⟨q, hq, rfl⟩
  · right
    rw [if_pos h1]
    exact ⟨fun p q a b c => N hz h1 b (by omega), rfl⟩
  rw [if_neg (nI_pos hq)]
  by_cases c : p + q ≤ z
  · left
    rw [if_neg (nI_nlt (by omega) (by omega)), pk_sub (by omega), if_neg (nI_nlt (by omega) (by omega))]
    exact ⟨p, q, rfl, rfl, c, rfl⟩
  · right
    refine ⟨fun p' q' a b d => ?_, ?_⟩
    · have a' := (nI_eq hp (by omega)).mp a
      have b' := (nI_eq hq (by omega)).mp b
      omega
    · by_cases d : z < p
      · rw [if_pos (nI_lt d hp)]
      · rw [if_neg (nI_nlt (by omega) (by omega)), pk_sub (by omega), if_pos (nI_lt (by omega) hq)]
/-- the reference asks the same -/
theorem sm_str {α : Type} {z1 z3 : Nat} (h1 : z1 ≤ 48) (h3 : z3 ≤ 48) (x2 x4 x5 : Int32) (N K : α) : (∃ p r q, x2 = nI p ∧ x4 = nI r ∧ x5 = nI q ∧ p + q ≤ z1 ∧ r + q ≤ z3) ∧ (if x2 < 0 then N else if x4 < 0 then N else if x5 < 0 then N else if 0 < lg_cmp (x2.toInt64 + x5.toInt64) (nI z1).toInt64 then N else if lg_cmp (x4.toInt64 + x5.toInt64) (nI z3).toInt64 ≤ 0 then K else N) = K ∨ ((∀ p q, x2 = nI p → x5 = nI q → ¬ p + q ≤ z1) ∨ (∀ r q, x4 = nI r → x5 = nI q → ¬ r + q ≤ z3)) ∧ (if x2 < 0 then N else if x4 < 0 then N else if x5 < 0 then N else if 0 < lg_cmp (x2.toInt64 + x5.toInt64) (nI z1).toInt64 then N else if lg_cmp (x4.toInt64 + x5.toInt64) (nI z3).toInt64 ≤ 0 then K else N) = N := by
  have M : ∀ {x : Int32} {p z : Nat}, z ≤ 48 → x < 0 → x = nI p → ¬ p ≤ z := by
    intro x p z hz h1 h2 h3
    rw [h2] at h1
    exact nI_pos (by omega) h1
  rcases ma_cases x2 with h | ⟨p, hp, rfl⟩
  · right
    rw [if_pos h]
    exact ⟨Or.inl fun p q a b c => M h1 h a (by omega), rfl⟩
  rw [if_neg (nI_pos hp)]
  rcases ma_cases x4 with h | ⟨r, hr, rfl⟩
  · right
    rw [if_pos h]
    exact ⟨Or.inr fun p q a b c => M h3 h a (by omega), rfl⟩
  rw [if_neg (nI_pos hr)]
  rcases ma_cases x5 with h | ⟨q, hq, rfl⟩
  · right
    rw [if_pos h]
    exact ⟨Or.inl fun p q a b c => M h1 h b (by omega), rfl⟩
  rw [if_neg (nI_pos hq), nI_l hp, nI_l hq, nI_l hr, nI_l (show z1 < 2 ^ 31 by omega), nI_l (show z3 < 2 ^ 31 by omega), lN_add, lN_add]
  by_cases c : p + q ≤ z1
  · rw [if_neg (by rw [lg_cmp_gt, lN_ltb (by omega) (by omega)]; omega)]
    by_cases d : r + q ≤ z3
    · left
      rw [if_pos (by rw [lg_cmp_le, lN_leb (by omega) (by omega)]; omega)]
      exact ⟨⟨p, r, q, rfl, rfl, rfl, c, d⟩, rfl⟩
    · right
      rw [if_neg (by rw [lg_cmp_le, lN_leb (by omega) (by omega)]; omega)]
      refine ⟨Or.inr fun r' q' a b e => ?_, rfl⟩
      have a' := (nI_eq hr (by omega)).mp a
      have b' := (nI_eq hq (by omega)).mp b
      omega
  · right
    rw [if_pos (by rw [lg_cmp_gt, lN_ltb (by omega) (by omega)]; omega)]
    refine ⟨Or.inl fun r' q' a b e => ?_, rfl⟩
    have a' := (nI_eq hp (by omega)).mp a
    have b' := (nI_eq hq (by omega)).mp b
    omega
theorem sm_cpy2 {n t r q : Nat} {x1 x2 : Int32} (ht : t < 4) (hr : r + q ≤ 48) : ∀ (i v : Nat) (τ : Sg), q < i + v → v ≤ q → ∃ τ', fn_X7_copy_b157 n x1 x2 (nI t) (nI r) (nI q) i (nI v) τ = some (1, τ') ∧ (∀ k, k ≠ 75 → τ' k = τ k) ∧ (∀ k, v ≤ k → k < q → τ' 75 (48 * t + r + k) = τ 76 k) ∧ ∀ k, k < 48 * t + r + v ∨ 48 * t + r + q ≤ k → τ' 75 k = τ 75 k
  | 0, v, τ, h, hv => by omega
  | i + 1, v, τ, h, hv => by
    unfold fn_X7_copy_b157
    by_cases z : v = q
    · subst z
      rw [if_pos (nI_le (Nat.le_refl v) (by omega))]
      exact ⟨τ, rfl, fun _ _ => rfl, fun k a b => by omega, fun _ _ => rfl⟩
    · have T0 : 48 * nI t + nI r + nI v = nI (48 * t + r + v) := by
        rw [← nI_add, ← nI_add]
        congr 2
        exact (Int32.ofNat_mul 48 t).symm
      rw [if_neg (nI_ge (by omega) (by omega)), if_pos (ma_ib (by omega) (by omega)), T0, if_pos (ma_ib (by omega) (by omega)), ma_cl (show v < 2 ^ 31 by omega), ma_cl (show 48 * t + r + v < 2 ^ 31 by omega), nI_1]
      obtain ⟨τ', r1, r2, r3, r4⟩ := sm_cpy2 (n := n) (x1 := x1) (x2 := x2) ht hr i (v + 1) (ag_up τ 75 (48 * t + r + v) (τ 76 v)) (by omega) (by omega)
      refine ⟨τ', r1, fun k hk => by rw [r2 k hk, ag_up_ne hk], fun k a b => ?_, fun k hk => by rw [r4 k (by omega), ma_up_i (by omega)]⟩
      by_cases e : k = v
      · rw [r4 _ (by omega), e, ma_up_s]
      · rw [r3 k (by omega) b, ag_up_ne (by decide)]
theorem sm_cpy1 {n s t p r q : Nat} (hn : 300 ≤ n) (hs : s < 4) (ht : t < 4) (hp : p + q ≤ 48) (hr : r + q ≤ 48) : ∀ (i v : Nat) (τ : Sg), q < i + v → v ≤ q → (∀ k, k < v → τ 76 k = τ 75 (48 * s + p + k)) → ∃ τ', fn_X7_copy_b120 n (nI s) (nI p) (nI t) (nI r) (nI q) i (nI v) τ = some (1, τ') ∧ (∀ k, k ≠ 75 → k ≠ 76 → τ' k = τ k) ∧ (∀ k, k < q → τ' 75 (48 * t + r + k) = τ 75 (48 * s + p + k)) ∧ ∀ k, k < 48 * t + r ∨ 48 * t + r + q ≤ k → τ' 75 k = τ 75 k
  | 0, v, τ, h, hv, _ => by omega
  | i + 1, v, τ, h, hv, hy => by
    unfold fn_X7_copy_b120
    by_cases z : v = q
    · rw [if_pos (nI_le (show q ≤ v by omega) (by omega))]
      obtain ⟨τ', r1, r2, r3, r4⟩ := sm_cpy2 (n := n) (x1 := nI s) (x2 := nI p) ht hr n 0 τ (by omega) (by omega)
      exact ⟨τ', r1, fun k a b => r2 k a, fun k hk => by rw [r3 k (by omega) hk, hy k (by omega)], fun k hk => r4 k (by omega)⟩
    · have T0 : 48 * nI s + nI p + nI v = nI (48 * s + p + v) := by
        rw [← nI_add, ← nI_add]
        congr 2
        exact (Int32.ofNat_mul 48 s).symm
      rw [if_neg (nI_ge (by omega) (by omega)), T0, if_pos (ma_ib (by omega) (by omega)), if_pos (ma_ib (by omega) (by omega)), ma_cl (show v < 2 ^ 31 by omega), ma_cl (show 48 * s + p + v < 2 ^ 31 by omega), nI_1]
      obtain ⟨τ', r1, r2, r3, r4⟩ := sm_cpy1 (n := n) hn hs ht hp hr i (v + 1) (ag_up τ 76 v (τ 75 (48 * s + p + v))) (by omega) (by omega) (fun k hk => by
        rw [ag_up_ne (show 75 ≠ 76 by decide)]
        by_cases e : k = v
        · rw [e, ma_up_s]
        · rw [ma_up_i e, hy k (by omega)])
      refine ⟨τ', r1, fun k a b => by rw [r2 k a b, ag_up_ne b], fun k hk => ?_, fun k hk => ?_⟩
      · rw [r3 k hk, ag_up_ne (show 75 ≠ 76 by decide)]
      · rw [r4 k hk, ag_up_ne (show 75 ≠ 76 by decide)]
theorem bo_copy {n : Nat} {G : Gs} {σ τ : Sg} {x1 x2 x3 x4 x5 : Int32} (hn : 300 ≤ n) (hc : RC G σ) (hm : RM G τ) : ∃ a G', HC σ (fn_X6_copy x1 x2 x3 x4 x5 σ) a G' ∧ HM τ (fn_X7_copy n x1 x2 x3 x4 x5 τ) a G' := by
  unfold fn_X6_copy fn_X7_copy fn_X6_copy_b99 fn_X6_copy_b51 fn_X7_copy_b111 fn_X7_copy_b35
  rcases ck_sheet x1 σ τ with ⟨⟨s, hs, rfl⟩, e1, e2⟩ | ⟨e1, e2⟩
  case inr => rw [e1, e2]; exact ⟨-2, G, HC.rf hc, HM.rf hm⟩
  rcases ck_sheet x3 σ τ with ⟨⟨t, ht, rfl⟩, e3, e4⟩ | ⟨e3, e4⟩
  case inr => rw [e1, e2, Option.bind_some, Option.bind_some, if_neg n10, if_neg n10, e3, e4]; exact ⟨-2, G, HC.rf hc, HM.rf hm⟩
  have I : ag_ib (nI s) 4 = true := ma_ib hs (by omega)
  have J : ag_ib (nI t) 4 = true := ma_ib ht (by omega)
  obtain ⟨c0, c1, c2, c3⟩ := hc.1.2.2.2.2.2.2.2.1 s hs
  obtain ⟨d0, d1, d2, d3⟩ := hm.1.2.2.2.2.2.1 s hs
  obtain ⟨p0, p1, p2, p3⟩ := hc.1.2.2.2.2.2.2.2.1 t ht
  obtain ⟨q0, q1, q2, q3⟩ := hm.1.2.2.2.2.2.1 t ht
  obtain ⟨g1, g2⟩ := hc.1.1.2.2.2.2.2.2.2.1 s hs
  obtain ⟨g3, g4⟩ := hc.1.1.2.2.2.2.2.2.2.1 t ht
  rw [e1, e2, Option.bind_some, Option.bind_some, if_neg n10, if_neg n10, e3, e4, Option.bind_some, Option.bind_some, if_neg n10, if_neg n10, ma_cl (show s < 2 ^ 31 by omega), ma_cl (show t < 2 ^ 31 by omega)]
  simp only [if_pos I, if_pos J]
  rw [c0, c1, p0, p1, d0, d1, d2, q0, q1, q2]
  have F1 : ∀ X Y : Option (Int32 × Sg), X = (fn_X6_find 1 σ).bind (fun q => some (q.1, q.2)) → Y = (fn_X7_meets 1 τ).bind (fun q => some (q.1, q.2)) → ∃ a G', HC σ X a G' ∧ HM τ Y a G' := fun X Y a b => by
    rw [a, b]; exact ⟨_, _, HC.find (v := 1) hc (by omega), HM.meet (v := 1) hm (by omega)⟩
  have F2 : ∀ X Y : Option (Int32 × Sg), X = (fn_X6_find 2 σ).bind (fun q => some (q.1, q.2)) → Y = (fn_X7_meets 2 τ).bind (fun q => some (q.1, q.2)) → ∃ a G', HC σ X a G' ∧ HM τ Y a G' := fun X Y a b => by
    rw [a, b]; exact ⟨_, _, HC.find (v := 2) hc (by omega), HM.meet (v := 2) hm (by omega)⟩
  cases es : sh G s with
  | false => exact F1 _ _ (if_neg (show ¬ bI (!false) = 0 from n10)) (if_pos (show bI false = 0 from rfl))
  | true =>
    rw [if_pos (show bI (!true) = 0 from rfl), if_neg (show ¬ bI true = 0 from n10)]
    cases et : sh G t with
    | false => exact F1 _ _ (if_neg (show ¬ bI (!false) = 0 from n10)) (if_pos (show bI false = 0 from rfl))
    | true =>
      rw [if_pos (show bI (!true) = 0 from rfl), if_neg (show ¬ bI true = 0 from n10)]
      by_cases ef : sf G s = sf G t
      case neg =>
        rw [if_neg (neL (by omega) (by omega) ef), if_neg (neL (by omega) (by omega) ef)]
        exact ⟨_, _, HC.find (v := 4) hc (by omega), HM.meet (v := 4) hm (by omega)⟩
      rw [if_pos (eqL ef), if_pos (eqL ef)]
      rcases sm_str g2 g4 x2 x4 x5 ((fn_X7_meets 2 τ).bind fun q419 => some (q419.1, q419.2)) (fn_X7_copy_b120 n (nI s) x2 (nI t) x4 x5 n 0 τ) with ⟨⟨p, r, q, rfl, rfl, rfl, h1, h2⟩, e⟩ | ⟨h, e⟩
      · rw [e]
        have S1 : fn_X3_hasStretch (45 + 2 * s) (nI p) (nI q) σ = some 1 := by
          rcases sp_str c2 g2 (nI p) (nI q) with ⟨_, _, _, _, _, k⟩ | ⟨k, _⟩
          · exact k
          · exact absurd h1 (k p q rfl rfl)
        have S2 : fn_X3_hasStretch (45 + 2 * t) (nI r) (nI q) σ = some 1 := by
          rcases sp_str p2 g4 (nI r) (nI q) with ⟨_, _, _, _, _, k⟩ | ⟨k, _⟩
          · exact k
          · exact absurd h2 (k r q rfl rfl)
        have K : ag_cpok (nI p) (nI r) (nI q) 48 48 = true := by
          unfold ag_cpok
          rw [ma_cl (show p < 2 ^ 31 by omega), ma_cl (show q < 2 ^ 31 by omega), ma_cl (show r < 2 ^ 31 by omega)]
          exact decide_eq_true ⟨nI_pos (by omega), nI_pos (by omega), nI_pos (by omega), by omega, by omega⟩
        rw [S1, S2, Option.bind_some, Option.bind_some, if_neg n10, if_neg n10, if_pos K, ma_cl (show p < 2 ^ 31 by omega), ma_cl (show q < 2 ^ 31 by omega), ma_cl (show r < 2 ^ 31 by omega)]
        obtain ⟨τ', r1, r2, r3, r4⟩ := sm_cpy1 (n := n) hn hs ht (show p + q ≤ 48 by omega) (show r + q ≤ 48 by omega) n 0 τ (by omega) (by omega) (fun k hk => absurd hk (Nat.not_lt_zero k))
        refine ⟨1, gSh G t true (sf G t) (ss G t) (fun k => if r ≤ k ∧ k < r + q then si G s (p + (k - r)) else si G t k), ⟨_, rfl, hc.sheet ht g3 g4 ?_ ?_ ?_ (fun k hk => ?_) (fun k a b => ma_ar_n b), fun k hk => ma_ar_n (by omega)⟩, ⟨τ', r1, hm.sheet g3 g4 ?_ ?_ ?_ (fun k hk => ?_) (fun k u a b => ?_) (fun u k a b => ?_) (fun k hk => r2 k (by omega) (by omega)), fun k hk => r2 k (by omega) (by omega)⟩⟩
        · rw [ma_ar_n (by omega), p0, et]
        · rw [ma_ar_n (by omega), p1]
        · rw [ma_ar_n (by omega), p2]
        · rw [ma_ar_s]
          unfold va_cpy
          by_cases z : r ≤ k ∧ k < r + q
          · rw [if_pos z, if_pos z, c3 _ (by omega)]
          · rw [if_neg z, if_neg z, p3 k hk]
        · rw [r2 72 (by decide) (by decide), q0, et]
        · rw [r2 73 (by decide) (by decide), q1]
        · rw [r2 74 (by decide) (by decide), q2]
        · by_cases z : r ≤ k ∧ k < r + q
          · rw [if_pos z]
            have := r3 (k - r) (by omega)
            rw [show 48 * t + r + (k - r) = 48 * t + k by omega, show 48 * s + p + (k - r) = 48 * s + (p + (k - r)) by omega, d3 _ (by omega)] at this
            exact this
          · rw [if_neg z, r4 _ (by omega), q3 k hk]
        · rw [r2 k (by omega) (by omega)]
        · exact r4 _ (by omega)
      · rw [e]
        refine F2 _ _ ?_ rfl
        rcases sp_str c2 g2 x2 x5 with ⟨p, q, rfl, rfl, h1, k⟩ | ⟨_, k⟩
        · rw [k, Option.bind_some, if_neg n10]
          rcases sp_str p2 g4 x4 (nI q) with ⟨r, q', rfl, eq, h2, k2⟩ | ⟨_, k2⟩
          · rcases h with h | h
            · exact absurd h1 (h p q rfl rfl)
            · exact absurd h2 (h r q' rfl eq)
          · rw [k2]; rfl
        · rw [k]; rfl
