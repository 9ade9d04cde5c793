/-! learned -/
theorem ma_mid {a b : Nat} (h : a + b < 2 ^ 31) : (nI a + nI b) / 2 = nI ((a + b) / 2) := by
  rw [nI_add, show (2 : Int32) = nI 2 from rfl, pk_div h (by omega) (by omega)]
theorem sm_learnsL {n p w t : Nat} {S : Sc} (hn : 600 ≤ n) (hp : p < cn S) (hw : w < 8) (hK : (sim S 200).2.2 p w = some t) : ∀ (i lo hi : Nat) (τ : Sg), hi - lo < i → lo ≤ t → t ≤ hi → hi ≤ 199 → VM S τ → ∃ τ', fn_X7_learnsIn_b31 n (nI p) (nI w) (nI (sz S)) i (nI lo) (nI hi) τ = some (nI t, τ') ∧ F3 τ τ'
  | 0, lo, hi, τ, h, _, _, _, _ => by omega
  | i + 1, lo, hi, τ, h, h1, h2, h3, hv => by
    have h10 : cn S ≤ 10 := hv.1.2.1
    unfold fn_X7_learnsIn_b31
    by_cases z : hi ≤ lo
    · rw [if_pos (nI_le z (by omega)), show lo = t by omega]
      exact ⟨τ, rfl, fun _ _ _ _ => rfl⟩
    · rw [if_neg (nI_ge (by omega) (by omega)), ma_mid (by omega)]
      obtain ⟨τ1, r1, r2, r3⟩ := sm_runs (last := (lo + hi) / 2) hn (by omega) hv
      have e : bt (τ1 64 p) w = ((sim S ((lo + hi) / 2 + 1)).2.2 p w).isSome := (r3.2.2 p (by omega)).at hw (by omega)
      rw [r1, Option.bind_some, if_pos (ma_ib (by omega) (by omega)), ma_cl (by omega), sm_isIn _ (by omega), Option.bind_some, e]
      unfold fn_X7_learnsIn_b78 fn_X7_learnsIn_b94
      have hv1 : VM S τ1 := f3_VM r2 hv
      by_cases c : t ≤ (lo + hi) / 2
      · rw [(sim_K_iff S (show (lo + hi) / 2 < 200 by omega)).mpr ⟨t, hK, c⟩, if_neg (show ¬ bI true = 0 from n10), if_neg (show ¬ bI true = 0 from n10)]
        obtain ⟨τ2, s1, s2⟩ := sm_learnsL hn hp hw hK i lo ((lo + hi) / 2) τ1 (by omega) h1 c (by omega) hv1
        exact ⟨τ2, s1, fun k a b c => (s2 k a b c).trans (r2 k a b c)⟩
      · have : ((sim S ((lo + hi) / 2 + 1)).2.2 p w).isSome = false := by
          rw [Bool.eq_false_iff]
          intro q
          obtain ⟨t', ht, h2⟩ := (sim_K_iff S (show (lo + hi) / 2 < 200 by omega)).mp q
          rw [hK] at ht
          injection ht with e
          omega
        rw [this, if_pos (show bI false = 0 from rfl), if_pos (show bI false = 0 from rfl), nI_1]
        obtain ⟨τ2, s1, s2⟩ := sm_learnsL hn hp hw hK i ((lo + hi) / 2 + 1) hi τ1 (by omega) (by omega) h2 h3 hv1
        exact ⟨τ2, s1, fun k a b c => (s2 k a b c).trans (r2 k a b c)⟩
theorem sm_learnsIn {n p w : Nat} {S : Sc} {τ : Sg} (hn : 600 ≤ n) (hp : p < cn S) (hw : w < 8) (hv : VM S τ) : ∃ τ', fn_X7_learnsIn n (nI p) (nI w) (nI (sz S)) τ = some (oI ((sim S 200).2.2 p w), τ') ∧ F3 τ τ' := by
  have h10 : cn S ≤ 10 := hv.1.2.1
  unfold fn_X7_learnsIn
  obtain ⟨τ1, r1, r2, r3⟩ := sm_runs (last := 199) hn (by omega) hv
  have e : bt (τ1 64 p) w = ((sim S 200).2.2 p w).isSome := (r3.2.2 p (by omega)).at hw (by omega)
  rw [show fn_X7_runs n 199 (nI (sz S)) τ = _ from r1, Option.bind_some, if_pos (ma_ib (by omega) (by omega)), ma_cl (by omega), sm_isIn _ (by omega), Option.bind_some, e]
  cases c : (sim S 200).2.2 p w with
  | none =>
    rw [if_pos (show bI (none : Option Nat).isSome = 0 from rfl)]
    exact ⟨τ1, rfl, r2⟩
  | some t =>
    rw [if_neg (show ¬ bI (some t).isSome = 0 from n10)]
    have tl : t < 200 := sim_K_lt S (by omega) c
    obtain ⟨τ2, s1, s2⟩ := sm_learnsL hn hp hw c n 0 199 τ1 (by omega) (by omega) (by omega) (by omega) (f3_VM r2 hv)
    exact ⟨τ2, s1, fun k a b c => (s2 k a b c).trans (r2 k a b c)⟩
theorem bo_learned {n : Nat} {G : Gs} {σ τ : Sg} {x1 x2 : Int32} (hn : 600 ≤ n) (hc : RC G σ) (hm : RM G τ) : ∃ a, fn_X6_learned x1 x2 σ = some a ∧ HM τ (fn_X7_learned n x1 x2 τ) a G := by
  have hl : cnt G ≤ 10 := (cnt_ok hc.1.1.1).1
  obtain ⟨τ', hm', hf, ek, h⟩ := ck_pers (show 20 ≤ n by omega) hc hm x1
  unfold fn_X6_learned fn_X7_learned
  rcases h with ⟨⟨p, hp, rfl⟩, e1, e2⟩ | ⟨e1, e2⟩
  case inr => rw [e1, e2]; exact ⟨-2, rfl, τ', rfl, hm', ek⟩
  rw [e1, e2, Option.bind_some, Option.bind_some, if_neg n10]
  dsimp only
  rw [if_neg n10]
  rcases ck_word x2 σ τ' with ⟨⟨w, hw, rfl⟩, e3, e4⟩ | ⟨e3, e4⟩
  case inr => rw [e3, e4]; exact ⟨-2, rfl, τ', rfl, hm', ek⟩
  rw [e3, e4, Option.bind_some, Option.bind_some, if_neg n10, if_neg n10]
  obtain ⟨τ1, r1, r2, r3, r4⟩ := hm'.1.reads (show 20 ≤ n by omega)
  have m1 : RM G τ1 := ⟨r3, hm'.2.f5 r2⟩
  obtain ⟨τ2, s1, s2⟩ := sm_learnsIn hn hp hw (m1.VM r4)
  have l2 : τ1 53 7 = nI (sz (scn G)) := r3.2.2.2.1.1
  unfold fn_X7_learnedOf
  rw [sp_learning (b := 3) hc.1.VF hc.2 hp hw, r1, Option.bind_some, Option.bind_some, l2, s1]
  exact ⟨_, rfl, τ2, rfl, ⟨r3.f3 s2, m1.2.f3 s2⟩, fun k hk => by rw [s2 k (by omega) (by omega) (by omega), r2.2 k (by omega) (by omega) (by omega) (by omega), ek k hk]⟩
