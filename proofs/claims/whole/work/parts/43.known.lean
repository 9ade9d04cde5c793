/-! known, learned: what somebody knows behind a year -/
theorem sp_learning {b p w : Nat} {S : Sc} {σ : Sg} (hv : VF (b + 1) S σ) (hr : Rs b S (sim S 200) σ) (hp : p < cn S) (hw : w < 8) : fn_X5_learningYear b (nI p) (nI w) σ = some (oI ((sim S 200).2.2 p w)) := by
  obtain ⟨-, h10, hv2⟩ := hv
  obtain ⟨-, -, -, -, -, -, -, ho⟩ := hv2 p hp
  obtain ⟨k1, k2⟩ := hr.2.2 p hp
  have e : bt (σ (b + 15) p) w = ((sim S 200).2.2 p w).isSome := k1.at hw (by omega)
  have eo : bt (σ (b + 6) p) w = ow S p w := ho.at hw (by omega)
  have T : nI p * 8 + nI w = nI (p * 8 + w) := by
    rw [← nI_add]
    congr 1
    exact (Int32.ofNat_mul p 8).symm
  unfold fn_X5_learningYear
  rw [if_pos (ma_ib (by omega) (by omega)), if_pos (ma_ib (by omega) (by omega)), ma_cl (show p < 2 ^ 31 by omega), T, ma_cl (show p * 8 + w < 2 ^ 31 by omega), if_pos (ma_ib (show p * 8 + w < 80 by omega) (by omega))]
  cases c : (sim S 200).2.2 p w with
  | none =>
    rw [c] at e
    rw [if_pos ((ma_b0 _ (show w < 32 by omega)).mpr e)]
    rfl
  | some t =>
    rw [c] at e
    rw [if_neg (fun q => by have := (ma_b0 _ (show w < 32 by omega)).mp q; rw [e] at this; cases this)]
    cases o : ow S p w with
    | true =>
      rw [o] at eo
      rw [if_pos ((ma_b1 _ (show w < 32 by omega)).mpr eo)]
      have t0 : t = 0 := by
        have z : (sim S 0).2.2 p w = some 0 := by
          rw [sim_K_0, if_pos (by rw [o, decide_eq_true hp]; rfl)]
        have := sim_K_up S (y := 0) 200 z
        rw [show 0 + 200 = 200 from rfl, c] at this
        injection this
      rw [t0]; rfl
    | false =>
      rw [o] at eo
      rw [if_neg (fun q => by have := (ma_b1 _ (show w < 32 by omega)).mp q; rw [eo] at this; cases this), k2 w hw t c o]
      rfl
theorem sp_knew {b p w y : Nat} {S : Sc} {σ : Sg} (hv : VF (b + 1) S σ) (hr : Rs b S (sim S 200) σ) (hp : p < cn S) (hw : w < 8) (hy : y < 200) : fn_X5_knew b (nI p) (nI w) (nI y) σ = some (bI ((sim S (y + 1)).2.2 p w).isSome) := by
  have h10 : cn S ≤ 10 := hv.2.1
  unfold fn_X5_knew
  rw [sp_isThere hv (by omega), Option.bind_some, decide_eq_true hp, if_neg (show ¬ bI true = 0 from n10), sp_learning hv hr hp hw, Option.bind_some]
  cases c : (sim S 200).2.2 p w with
  | none =>
    rw [if_pos (show oI none = -1 from rfl)]
    have : ((sim S (y + 1)).2.2 p w).isSome = false := by
      rw [Bool.eq_false_iff]
      intro q
      obtain ⟨t, ht, -⟩ := (sim_K_iff S hy).mp q
      rw [c] at ht
      cases ht
    rw [this]; rfl
  | some t =>
    have tl : t < 200 := sim_K_lt S (by omega) c
    rw [if_neg (show ¬ oI (some t) = -1 from ma_m1 (by omega))]
    by_cases z : t ≤ y
    · rw [if_neg (show ¬ nI y < oI (some t) from nI_nlt z (by omega)), (sim_K_iff S hy).mpr ⟨t, c, z⟩]; rfl
    · rw [if_pos (show nI y < oI (some t) from nI_lt (by omega) (by omega))]
      have : ((sim S (y + 1)).2.2 p w).isSome = false := by
        rw [Bool.eq_false_iff]
        intro q
        obtain ⟨t', ht, h2⟩ := (sim_K_iff S hy).mp q
        rw [c] at ht
        injection ht with e
        omega
      rw [this]; rfl
theorem sp_words {n b p y : Nat} {S : Sc} {σ : Sg} (hv : VF (b + 1) S σ) (hr : Rs b S (sim S 200) σ) (hp : p < cn S) (hy : y < 200) : ∀ (i v : Nat) (x : Int32), 8 < i + v → v ≤ 8 → IsB x 8 (fun w => decide (w < v) && ((sim S (y + 1)).2.2 p w).isSome) → ∃ x', fn_X5_wordsBehind_b5 n b (nI y) (nI p) σ i x (nI v) = some x' ∧ IsB x' 8 (fun w => ((sim S (y + 1)).2.2 p w).isSome)
  | 0, v, x, h, hv8, _ => by omega
  | i + 1, v, x, h, hv8, hx => by
    unfold fn_X5_wordsBehind_b5
    by_cases z : v = 8
    · subst z
      rw [if_pos (show (8 : Int32) ≤ nI 8 by decide)]
      exact ⟨x, rfl, hx.congr (fun w hw => by rw [decide_eq_true hw]; rfl)⟩
    · rw [if_neg (show ¬ (8 : Int32) ≤ nI v from nI_ge (b := 8) (by omega) (by omega)), sp_knew hv hr hp (by omega) hy, Option.bind_some]
      unfold fn_X5_wordsBehind_b30
      rw [nI_1]
      cases c : ((sim S (y + 1)).2.2 p v).isSome with
      | false =>
        rw [if_pos (show bI false = 0 from rfl)]
        refine sp_words hv hr hp hy i (v + 1) x (by omega) (by omega) (hx.congr (fun w hw => ?_))
        by_cases e : w = v
        · subst e
          rw [c, Bool.and_false, Bool.and_false]
        · rw [decide_eq_decide.mpr (show w < v ↔ w < v + 1 by omega)]
      | true =>
        rw [if_neg (show ¬ bI true = 0 from n10)]
        refine sp_words hv hr hp hy i (v + 1) _ (by omega) (by omega) ((hx.set (k := v) (by omega) (by omega)).congr (fun w hw => ?_))
        by_cases e : w = v
        · subst e
          rw [c, decide_eq_true rfl, decide_eq_true (show w < w + 1 by omega), Bool.or_true]; rfl
        · rw [decide_eq_false e, Bool.or_false, decide_eq_decide.mpr (show w < v ↔ w < v + 1 by omega)]
theorem bo_known {n : Nat} {G : Gs} {σ τ : Sg} {x1 x2 : Int32} (hn : 600 ≤ n) (hc : RC G σ) (hm : RM G τ) : ∃ a, fn_X6_known n x1 x2 σ = some a ∧ HM τ (fn_X7_known n x1 x2 τ) a G := by
  have hl : cnt G ≤ 10 := (cnt_ok hc.1.1.1).1
  unfold fn_X6_known fn_X7_known
  rcases ck_year x1 σ τ with ⟨⟨y, hy, rfl⟩, e3, e4⟩ | ⟨e3, e4⟩
  case inr => rw [e3, e4]; exact ⟨-2, rfl, HM.rf hm⟩
  rw [e3, e4, Option.bind_some, Option.bind_some, if_neg n10, if_neg n10]
  obtain ⟨τ', hm', hf, ek, h⟩ := ck_pers (show 20 ≤ n by omega) hc hm x2
  rcases h with ⟨⟨p, hp, rfl⟩, e1, e2⟩ | ⟨e1, e2⟩
  case inr => rw [e1, e2]; exact ⟨-2, rfl, τ', rfl, hm', ek⟩
  rw [e1, e2, Option.bind_some, Option.bind_some, if_neg n10]
  dsimp only
  rw [if_neg n10]
  obtain ⟨x, r1, r2⟩ := sp_words (n := n) (b := 3) hc.1.VF hc.2 hp hy n 0 0 (by omega) (by omega) ((IsB.zero 8).congr (fun w hw => rfl))
  obtain ⟨τ2, s1, s2, -, s3, s4⟩ := hm'.runsTo hn (show y < 500 by omega)
  unfold fn_X5_wordsBehind fn_X7_knownOf
  rw [s1, Option.bind_some, if_pos (ma_ib (show p < 10 by omega) (by omega)), ma_cl (by omega), show fn_X5_wordsBehind_b5 n 3 (nI y) (nI p) σ n 0 0 = _ from r1, r2.eq (s3.2.2 p (by omega)) (fun w hw => rfl)]
  exact ⟨_, rfl, τ2, rfl, s2, fun k hk => by rw [s4 k hk, ek k hk]⟩
