/-! count -/
theorem nat_of (f : Nat → Bool) : ∀ n, ∃ m, m < 2 ^ n ∧ ∀ i, i < n → m.testBit i = f i
  | 0 => ⟨0, by omega, fun i hi => absurd hi (Nat.not_lt_zero i)⟩
  | n + 1 => by
    obtain ⟨m, h1, h2⟩ := nat_of f n
    cases c : f n with
    | false =>
      refine ⟨m, by rw [Nat.pow_succ]; omega, fun i hi => ?_⟩
      by_cases e : i = n
      · rw [e, c]; exact Nat.testBit_lt_two_pow h1
      · exact h2 i (by omega)
    | true =>
      refine ⟨2 ^ n + m, by rw [Nat.pow_succ]; omega, fun i hi => ?_⟩
      by_cases e : i = n
      · rw [e, c, Nat.testBit_two_pow_add_eq, Nat.testBit_lt_two_pow h1]; rfl
      · rw [Nat.testBit_two_pow_add_gt (by omega)]; exact h2 i (by omega)
theorem bc_more (f : Nat → Bool) (n : Nat) : ∀ d, bc (fun i => decide (i < n) && f i) (n + d) = bc f n
  | 0 => bc_congr (fun i hi => by rw [decide_eq_true (show i < n from hi)]; rfl)
  | d + 1 => by
    show bc _ (n + d) + (if (decide (n + d < n) && f (n + d)) = true then 1 else 0) = bc f n
    rw [bc_more f n d, decide_eq_false (by omega), Bool.false_and, if_neg (by decide), Nat.add_zero]
theorem sp_bitCount {x : Int32} {n : Nat} {f : Nat → Bool} (hn : n ≤ 13) (h : IsB x n f) (σ : Sg) : fn_J6_bitCount_0f7a4 x σ = some (nI (bc f n)) := by
  obtain ⟨m, h1, h2⟩ := nat_of (fun i => decide (i < n) && f i) 13
  have e : x = nI m := by
    have hx : IsB x 13 (fun i => decide (i < n) && f i) := by
      intro i hi
      rw [h i hi]
      show _ = (decide (i < 13) && (decide (i < n) && f i))
      by_cases c : i < n
      · rw [decide_eq_true c, decide_eq_true (show i < 13 by omega)]; rfl
      · rw [decide_eq_false c, Bool.false_and, Bool.and_false]
    exact hx.eq (IsB.ofN (n := 13) h1 (by omega)) (fun i hi => (h2 i hi).symm)
  have b := bc_all (m / 256) (by omega) (m % 256) (by omega)
  rw [show 256 * (m / 256) + m % 256 = m by omega] at b
  obtain ⟨d, hd⟩ : ∃ d, 13 = n + d := ⟨13 - n, by omega⟩
  rw [bc_congr (k := 13) (fun i hi => h2 i hi), hd, bc_more] at b
  rw [e]
  exact b
