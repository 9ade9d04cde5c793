/-! count -/
theorem nat_of (f : Nat → Bool) : ∀ n, ∃ m, m < 2 ^ n ∧ ∀ i, i < n → m.testBit i = f i
  | 0 => ⟨0, by omega, fun i hi => absurd hi (Nat.not_lt_zero i)⟩
  | n + 1 => by
    obtain ⟨m, h1, h2⟩ := nat_of f n
    cases c : f n with
    | false =>
      refine ⟨m, by rw [Nat.pow_succ]; omega, fun i hi => ?_⟩
      by_cases e : i = n
      · rw [e, c]; exact Nat.testBit_lt_two_pow h1
      · exact h2 i (by omega)
    | true =>
      refine ⟨2 ^ n + m, by rw [Nat.pow_succ]; omega, fun i hi => ?_⟩
      by_cases e : i = n
      · rw [e, c, Nat.testBit_two_pow_add_eq, Nat.testBit_lt_two_pow h1]; rfl
      · rw [Nat.testBit_two_pow_add_gt (by omega)]; exact h2 i (by omega)
theorem bc_more (f : Nat → Bool) (n : Nat) : ∀ d, bc (fun i => decide (i < n) && f i) (n + d) = bc f n
  | 0 => bc_congr (fun i hi => by rw [decide_eq_true (show i < n from hi)]; rfl)
  | d + 1 => by
    show bc _ (n + d) + (if (decide (n + d < n) && f (n + d)) = true then 1 else 0) = bc f n
    rw [bc_more f n d, decide_eq_false (by omega), Bool.false_and, if_neg (by decide), Nat.add_zero]
theorem sp_bitCount {x : Int32} {n : Nat} {f : Nat → Bool} (hn : n ≤ 13) (h : IsB x n f) (σ : Sg) : fn_J6_bitCount_0f7a4 x σ = some (nI (bc f n)) := by
  obtain ⟨m, h1, h2⟩ := nat_of (fun i => decide (i < n) && f i) 13
  have e : x = nI m := by
    have hx : IsB x 13 (fun i => decide (i < n) && f i) := by
      intro i hi
      rw [h i hi]
      show _ = (decide (i < 13) && (decide (i < n) && f i))
      by_cases c : i < n
      · rw [decide_eq_true c, decide_eq_true (show i < 13 by omega)]; rfl
      · rw [decide_eq_false c, Bool.false_and, Bool.and_false]
    exact hx.eq (IsB.ofN (n := 13) h1 (by omega)) (fun i hi => (h2 i hi).symm)
  have b := bc_all (m / 256) (by omega) (m % 256) (by omega)
  rw [show 256 * (m / 256) + m % 256 = m by omega] at b
  obtain ⟨d, hd⟩ : ∃ d, 13 = n + d := ⟨13 - n, by omega⟩
  rw [bc_congr (k := 13) (fun i hi => h2 i hi), hd, bc_more] at b
  rw [e]
  exact b
theorem sm_onesL {n : Nat} {x : Int32} {σ : Sg} : ∀ (i v : Nat), 12 < i + v → v ≤ 12 → fn_X7_ones_b4 n x σ i (nI (bc (bt x) v)) (nI v) = some (nI (bc (bt x) 12))
  | 0, v, h, hv => by omega
  | i + 1, v, h, hv => by
    unfold fn_X7_ones_b4
    by_cases z : v = 12
    · subst z
      rw [if_pos (show (12 : Int32) ≤ nI 12 by decide)]
    · have ih := sm_onesL (n := n) (x := x) (σ := σ) i (v + 1) (by omega) (by omega)
      rw [if_neg (show ¬ (12 : Int32) ≤ nI v from nI_ge (b := 12) (by omega) (by omega)), ma_bit _ (show v < 32 by omega), nI_1 v, ← ih]
      have e : bc (bt x) (v + 1) = bc (bt x) v + if bt x v = true then 1 else 0 := rfl
      rw [e]
      by_cases c : bt x v = true
      · rw [if_pos c, if_pos c, nI_1]
      · rw [if_neg c, if_neg c, show nI (bc (bt x) v) + 0 = nI (bc (bt x) v + 0) from nI_add _ 0]
theorem sm_ones {n m : Nat} {x : Int32} {f : Nat → Bool} {σ : Sg} (hn : 20 ≤ n) (hm : m ≤ 12) (h : IsB x m f) : fn_X7_ones n x σ = some (nI (bc f m)) := by
  unfold fn_X7_ones
  rw [show fn_X7_ones_b4 n x σ n 0 0 = _ from sm_onesL (n := n) (x := x) (σ := σ) n 0 (by omega) (by omega)]
  obtain ⟨d, hd⟩ : ∃ d, 12 = m + d := ⟨12 - m, by omega⟩
  rw [bc_congr (k := 12) (g := fun i => decide (i < m) && f i) (fun i hi => h i (by omega)), hd, bc_more]
