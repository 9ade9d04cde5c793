/-! some of these bits: all groups, one after the other -/
theorem and_half (x y : Nat) : x &&& y = 2 * ((x / 2) &&& (y / 2)) + (if x % 2 = 1 ∧ y % 2 = 1 then 1 else 0) := by
  refine Nat.eq_of_testBit_eq (fun i => ?_)
  cases i with
  | zero =>
    rw [Nat.testBit_and, Nat.testBit_zero, Nat.testBit_zero, Nat.testBit_zero]
    by_cases c : x % 2 = 1 ∧ y % 2 = 1
    · rw [if_pos c, decide_eq_true c.1, decide_eq_true c.2, decide_eq_true (show (2 * ((x / 2) &&& (y / 2)) + 1) % 2 = 1 by omega)]
      rfl
    · rw [if_neg c, decide_eq_false (show ¬ (2 * ((x / 2) &&& (y / 2)) + 0) % 2 = 1 by omega)]
      by_cases cx : x % 2 = 1
      · rw [decide_eq_false (fun q => c ⟨cx, q⟩), Bool.and_false]
      · rw [decide_eq_false cx, Bool.false_and]
  | succ i =>
    rw [Nat.testBit_and, Nat.testBit_succ, Nat.testBit_succ, Nat.testBit_succ]
    have : (2 * ((x / 2) &&& (y / 2)) + (if x % 2 = 1 ∧ y % 2 = 1 then 1 else 0)) / 2 = (x / 2) &&& (y / 2) := by
      split <;> omega
    rw [this, Nat.testBit_and]
/-- the bits of i laid into the places of H -/
def pd : Nat → Nat → Nat → Nat
  | 0, _, _ => 0
  | N + 1, H, i => if H % 2 = 1 then 2 * pd N (H / 2) (i / 2) + i % 2 else 2 * pd N (H / 2) i
theorem pd_0 : ∀ (N H : Nat), pd N H 0 = 0
  | 0, _ => rfl
  | N + 1, H => by
    unfold pd
    rw [show 0 / 2 = 0 from rfl, pd_0 N]
    split <;> rfl
theorem pd_co : ∀ (N M H i : Nat), H < 2 ^ N → N ≤ M → (2 ^ M - H + pd N H i - 1) &&& H = pd N H i
  | 0, M, H, i, h, hm => by
    have : H = 0 := by
      have : 2 ^ 0 = 1 := rfl
      omega
    rw [this, Nat.and_zero]; rfl
  | N + 1, M, H, i, h, hm => by
    obtain ⟨M, rfl⟩ : ∃ m, M = m + 1 := ⟨M - 1, by omega⟩
    have hp : 2 ^ (N + 1) = 2 ^ N * 2 := Nat.pow_succ ..
    have hq : 2 ^ (M + 1) = 2 ^ M * 2 := Nat.pow_succ ..
    have hl : 2 ^ N ≤ 2 ^ M := Nat.pow_le_pow_right (by omega) (by omega)
    have h2 : H / 2 < 2 ^ N := by omega
    unfold pd
    by_cases c : H % 2 = 1
    · have ih := pd_co N M (H / 2) (i / 2) h2 (by omega)
      rw [if_pos c, and_half]
      have d : (2 ^ (M + 1) - H + (2 * pd N (H / 2) (i / 2) + i % 2) - 1) / 2 = 2 ^ M - H / 2 + pd N (H / 2) (i / 2) - 1 := by omega
      have e : (2 ^ (M + 1) - H + (2 * pd N (H / 2) (i / 2) + i % 2) - 1) % 2 = i % 2 := by omega
      rw [d, e, ih]
      by_cases z : i % 2 = 1
      · rw [if_pos ⟨z, c⟩, z]
      · rw [if_neg (fun q => z q.1)]; omega
    · have ih := pd_co N M (H / 2) i h2 (by omega)
      rw [if_neg c, and_half]
      have d : (2 ^ (M + 1) - H + 2 * pd N (H / 2) i - 1) / 2 = 2 ^ M - H / 2 + pd N (H / 2) i - 1 := by omega
      rw [d, ih, if_neg (fun q => c q.2)]; omega
theorem pd_next : ∀ (N M H i : Nat), H < 2 ^ N → N ≤ M → (2 ^ M - H + pd N H i) &&& H = pd N H (i + 1)
  | 0, M, H, i, h, hm => by
    have : H = 0 := by
      have : 2 ^ 0 = 1 := rfl
      omega
    rw [this, Nat.and_zero]; rfl
  | N + 1, M, H, i, h, hm => by
    obtain ⟨M, rfl⟩ : ∃ m, M = m + 1 := ⟨M - 1, by omega⟩
    have hp : 2 ^ (N + 1) = 2 ^ N * 2 := Nat.pow_succ ..
    have hq : 2 ^ (M + 1) = 2 ^ M * 2 := Nat.pow_succ ..
    have hl : 2 ^ N ≤ 2 ^ M := Nat.pow_le_pow_right (by omega) (by omega)
    have h2 : H / 2 < 2 ^ N := by omega
    unfold pd
    by_cases c : H % 2 = 1
    · rw [if_pos c, if_pos c, and_half]
      by_cases z : i % 2 = 1
      · have ih := pd_next N M (H / 2) (i / 2) h2 (by omega)
        have d : (2 ^ (M + 1) - H + (2 * pd N (H / 2) (i / 2) + i % 2)) / 2 = 2 ^ M - H / 2 + pd N (H / 2) (i / 2) := by omega
        have e : (2 ^ (M + 1) - H + (2 * pd N (H / 2) (i / 2) + i % 2)) % 2 = 0 := by omega
        rw [d, e, ih, if_neg (fun q => absurd q.1 (by decide)), show (i + 1) / 2 = i / 2 + 1 by omega]; omega
      · have ih := pd_co N M (H / 2) (i / 2) h2 (by omega)
        have d : (2 ^ (M + 1) - H + (2 * pd N (H / 2) (i / 2) + i % 2)) / 2 = 2 ^ M - H / 2 + pd N (H / 2) (i / 2) - 1 := by omega
        have e : (2 ^ (M + 1) - H + (2 * pd N (H / 2) (i / 2) + i % 2)) % 2 = 1 := by omega
        rw [d, e, ih, if_pos ⟨rfl, c⟩, show (i + 1) / 2 = i / 2 by omega]; omega
    · have ih := pd_next N M (H / 2) i h2 (by omega)
      rw [if_neg c, if_neg c, and_half]
      have d : (2 ^ (M + 1) - H + 2 * pd N (H / 2) i) / 2 = 2 ^ M - H / 2 + pd N (H / 2) i := by omega
      rw [d, ih, if_neg (fun q => c q.2)]; omega
theorem pd_lt : ∀ (N H i : Nat), pd N H i < 2 ^ N
  | 0, _, _ => by show 0 < 2 ^ 0; omega
  | N + 1, H, i => by
    have hp : 2 ^ (N + 1) = 2 ^ N * 2 := Nat.pow_succ ..
    unfold pd
    split
    · have := pd_lt N (H / 2) (i / 2); omega
    · have := pd_lt N (H / 2) i; omega
theorem pd_sub : ∀ (N H i k : Nat), (pd N H i).testBit k = true → H.testBit k = true
  | 0, H, i, k, h => by
    rw [show pd 0 H i = 0 from rfl, Nat.zero_testBit] at h
    cases h
  | N + 1, H, i, 0, h => by
    unfold pd at h
    rw [Nat.testBit_zero] at h ⊢
    have h := of_decide_eq_true h
    refine decide_eq_true ?_
    by_cases c : H % 2 = 1
    · exact c
    · rw [if_neg c] at h; omega
  | N + 1, H, i, k + 1, h => by
    unfold pd at h
    rw [Nat.testBit_succ] at h ⊢
    by_cases c : H % 2 = 1
    · rw [if_pos c, show (2 * pd N (H / 2) (i / 2) + i % 2) / 2 = pd N (H / 2) (i / 2) by omega] at h
      exact pd_sub N _ _ k h
    · rw [if_neg c, show 2 * pd N (H / 2) i / 2 = pd N (H / 2) i by omega] at h
      exact pd_sub N _ _ k h
theorem bc_low (f : Nat → Bool) : ∀ n, bc f (n + 1) = (if f 0 = true then 1 else 0) + bc (fun i => f (i + 1)) n
  | 0 => by
    show 0 + (if f 0 = true then 1 else 0) = _ + 0
    omega
  | n + 1 => by
    show bc f (n + 1) + (if f (n + 1) = true then 1 else 0) = _ + (bc (fun i => f (i + 1)) n + (if f (n + 1) = true then 1 else 0))
    rw [bc_low f n]
    omega
/-- ones of the lower N bits -/
def pcn (N H : Nat) : Nat := bc (fun i => H.testBit i) N
theorem pcn_s (N H : Nat) : pcn (N + 1) H = H % 2 + pcn N (H / 2) := by
  unfold pcn
  rw [bc_low, Nat.testBit_zero]
  have : bc (fun i => H.testBit (i + 1)) N = bc (fun i => (H / 2).testBit i) N := bc_congr (fun i _ => by rw [Nat.testBit_succ])
  rw [this]
  by_cases c : H % 2 = 1
  · rw [decide_eq_true c, if_pos rfl, c]
  · rw [decide_eq_false c, if_neg (by decide)]; omega
theorem pd_mono : ∀ (N H i j : Nat), i < j → j < 2 ^ pcn N H → pd N H i < pd N H j
  | 0, H, i, j, a, b => by
    have : 2 ^ pcn 0 H = 1 := rfl
    omega
  | N + 1, H, i, j, a, b => by
    rw [pcn_s] at b
    unfold pd
    by_cases c : H % 2 = 1
    · rw [c, Nat.add_comm, Nat.pow_succ] at b
      rw [if_pos c, if_pos c]
      by_cases z : i / 2 < j / 2
      · have := pd_mono N (H / 2) (i / 2) (j / 2) z (by omega)
        omega
      · have : i / 2 = j / 2 := by omega
        rw [this]
        omega
    · rw [show H % 2 = 0 by omega, Nat.zero_add] at b
      rw [if_neg c, if_neg c]
      have := pd_mono N (H / 2) i j a b
      omega
theorem pd_sur : ∀ (N H s : Nat), s < 2 ^ N → (∀ k, s.testBit k = true → H.testBit k = true) → ∃ i, i < 2 ^ pcn N H ∧ pd N H i = s
  | 0, H, s, a, b => ⟨0, Nat.pow_pos (by omega), by
      have : 2 ^ 0 = 1 := rfl
      show 0 = s
      omega⟩
  | N + 1, H, s, a, b => by
    have hp : 2 ^ (N + 1) = 2 ^ N * 2 := Nat.pow_succ ..
    obtain ⟨i, i1, i2⟩ := pd_sur N (H / 2) (s / 2) (by omega) (fun k hk => by
      rw [← Nat.testBit_succ] at hk ⊢
      exact b (k + 1) hk)
    have b0 := b 0
    rw [Nat.testBit_zero, Nat.testBit_zero] at b0
    rw [pcn_s]
    by_cases c : H % 2 = 1
    · refine ⟨2 * i + s % 2, ?_, ?_⟩
      · rw [c, Nat.add_comm 1 (pcn N (H / 2)), Nat.pow_succ]; omega
      · unfold pd
        rw [if_pos c, show (2 * i + s % 2) / 2 = i by omega, i2]
        omega
    · have : s % 2 = 0 := by
        by_cases z : s % 2 = 1
        · exact absurd (of_decide_eq_true (b0 (decide_eq_true z))) c
        · omega
      refine ⟨i, ?_, ?_⟩
      · rw [show H % 2 = 0 by omega, Nat.zero_add]; exact i1
      · unfold pd
        rw [if_neg c, i2]
        omega
/-- nextWithin -/
theorem sp_next {H i : Nat} (hH : H < 2 ^ 12) (σ : Sg) : fn_X6_nextWithin (nI (pd 12 H i)) (nI H) σ = some (nI (pd 12 H (i + 1))) := by
  have hl := pd_lt 12 H i
  have e := pd_next 12 32 H i hH (by omega)
  have p12 : 2 ^ 12 = 4096 := rfl
  have p32 : 2 ^ 32 = 4294967296 := rfl
  unfold fn_X6_nextWithin
  congr 1
  apply Int32.toBitVec_inj.mp
  apply BitVec.eq_of_toNat_eq
  rw [← e]
  show ((nI (pd 12 H i) - nI H).toBitVec &&& (nI H).toBitVec).toNat = _
  rw [BitVec.toNat_and, Int32.toBitVec_sub, BitVec.toNat_sub]
  show ((2 ^ 32 - (BitVec.ofNat 32 H).toNat + (BitVec.ofNat 32 (pd 12 H i)).toNat) % 2 ^ 32) &&& (BitVec.ofNat 32 H).toNat = (BitVec.ofNat 32 _).toNat
  rw [BitVec.toNat_ofNat, BitVec.toNat_ofNat, BitVec.toNat_ofNat, Nat.mod_eq_of_lt (show H < 2 ^ 32 by omega), Nat.mod_eq_of_lt (show pd 12 H i < 2 ^ 32 by omega)]
  have k1 : ((2 ^ 32 - H + pd 12 H i) &&& H) < 2 ^ 32 := Nat.lt_of_le_of_lt Nat.and_le_right (by omega)
  rw [Nat.mod_eq_of_lt k1]
  refine Nat.eq_of_testBit_eq (fun j => ?_)
  rw [Nat.testBit_and, Nat.testBit_and, Nat.testBit_mod_two_pow]
  by_cases c : j < 32
  · rw [decide_eq_true c, Bool.true_and]
  · have : H.testBit j = false := Nat.testBit_lt_two_pow (Nat.lt_of_lt_of_le hH (Nat.pow_le_pow_right (by omega) (by omega)))
    rw [this, Bool.and_false, Bool.and_false]
