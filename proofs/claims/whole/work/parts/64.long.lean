/-! longs that are numbers -/
theorem lT {n : Nat} (h : n < 2 ^ 63) : (lN n).toInt = (n : Int) := lg_ofNat_toInt h
theorem lN_inj {a b : Nat} (ha : a < 2 ^ 63) (hb : b < 2 ^ 63) : lN a = lN b ↔ a = b := ⟨fun e => by
    have := congrArg Int64.toInt e
    rw [lT ha, lT hb] at this
    omega, fun e => by rw [e]⟩
theorem lN_leB {a b : Nat} (ha : a < 2 ^ 63) (hb : b < 2 ^ 63) : lN a ≤ lN b ↔ a ≤ b := by
  rw [Int64.le_iff_toInt_le, lT ha, lT hb]
  omega
theorem lN_div {a d : Nat} (ha : a < 2 ^ 63) (h0 : 0 < d) (hd : d < 2 ^ 63) : lN a / lN d = lN (a / d) := by
  apply Int64.toInt_inj.mp
  rw [lg_ldiv_nonneg (by rw [lT ha]; omega) (by rw [lT hd]; omega), lT ha, lT hd, lT (Nat.lt_of_le_of_lt (Nat.div_le_self a d) ha)]
  first | rfl | exact (Int.natCast_ediv _ _).symm
theorem lN_rem {a d : Nat} (ha : a < 2 ^ 63) (h0 : 0 < d) (hd : d < 2 ^ 63) : lN a - lN a / lN d * lN d = lN (a % d) := by
  rw [lN_div ha h0 hd, lN_mul, lN_sub (Nat.div_mul_le_self a d)]
  exact congrArg lN (by have := Nat.div_add_mod' a d; omega)
theorem lN_bvn {n : Nat} (h : n < 2 ^ 63) : (lN n).toBitVec.toNat = n := by
  show (BitVec.ofNat 64 n).toNat = n
  rw [BitVec.toNat_ofNat]
  exact Nat.mod_eq_of_lt (by omega)
theorem lN_and1 {a : Nat} (ha : a < 2 ^ 63) : lN a &&& 1 = lN (a % 2) := by
  apply Int64.toBitVec_inj.mp
  apply BitVec.eq_of_toNat_eq
  rw [Int64.toBitVec_and, BitVec.toNat_and, lN_bvn ha, lN_bvn (show a % 2 < 2 ^ 63 by omega), show (1 : Int64).toBitVec.toNat = 1 from rfl, Nat.and_one_is_mod]
theorem lN_shr1 {a : Nat} (ha : a < 2 ^ 63) : lN a >>> ((1 : Int32).toInt64 &&& 63) = lN (a / 2) := by
  apply Int64.toBitVec_inj.mp
  rw [Int64.toBitVec_shiftRight]
  show (lN a).toBitVec.sshiftRight (((1 : Int32).toInt64 &&& 63).toBitVec.smod 64).toNat = _
  rw [show (((1 : Int32).toInt64 &&& 63).toBitVec.smod 64).toNat = 1 by decide +kernel]
  have hm : (lN a).toBitVec.msb = false := by
    rw [BitVec.msb_eq_decide, lN_bvn ha]
    exact decide_eq_false (by omega)
  rw [BitVec.sshiftRight_eq_of_msb_false hm]
  apply BitVec.eq_of_toNat_eq
  rw [BitVec.toNat_ushiftRight, lN_bvn ha, lN_bvn (show a / 2 < 2 ^ 63 by omega), Nat.shiftRight_eq_div_pow]
theorem gcd_step (x y : Nat) : Nat.gcd x y = Nat.gcd y (x % y) := by
  rw [Nat.gcd_comm x y, Nat.gcd_rec y x, Nat.gcd_comm]
/-- Euclid's way -/
theorem sm_low {n top bot : Nat} {x4 : Int32} {σ : Sg} (ht : top < 2 ^ 63) (hb : bot < 2 ^ 63) : ∀ (k i x y : Nat), y < 2 ^ k → 2 * k + 1 ≤ i → x < 2 ^ 63 → y < 2 ^ 63 → 0 < Nat.gcd x y → fn_X7_lowest_b6 n (lN top) (lN bot) x4 σ i (lN x) (lN y) = some (if x4 = 0 then lN (top / Nat.gcd x y) else lN (bot / Nat.gcd x y)) := by
  have base : ∀ (i x : Nat), 1 ≤ i → x < 2 ^ 63 → 0 < x → fn_X7_lowest_b6 n (lN top) (lN bot) x4 σ i (lN x) (lN 0) = some (if x4 = 0 then lN (top / x) else lN (bot / x)) := fun i x hi hx h0 => by
    obtain ⟨j, rfl⟩ : ∃ j, i = j + 1 := ⟨i - 1, by omega⟩
    unfold fn_X7_lowest_b6
    have nz : ¬ lN x = 0 := fun e => by
      have := (lN_inj (b := 0) hx (by omega)).mp e
      omega
    rw [if_pos (show lg_cmp (lN 0) 0 = 0 from (lg_cmp_eq _ _).mpr rfl), if_neg nz, if_neg nz, lN_div ht h0 hx, lN_div hb h0 hx]
    by_cases c : x4 = 0
    · rw [if_pos c, if_pos c]
    · rw [if_neg c, if_neg c]
  have step : ∀ (i x y : Nat), x < 2 ^ 63 → y < 2 ^ 63 → 0 < y → fn_X7_lowest_b6 n (lN top) (lN bot) x4 σ (i + 1) (lN x) (lN y) = fn_X7_lowest_b6 n (lN top) (lN bot) x4 σ i (lN y) (lN (x % y)) := fun i x y hx hy h0 => by
    have nz : ¬ lN y = 0 := fun e => by
      have := (lN_inj (b := 0) hy (by omega)).mp e
      omega
    rw [fn_X7_lowest_b6]
    dsimp only
    rw [if_neg (fun e => nz ((lg_cmp_eq _ _).mp e)), if_neg nz, lN_rem hx h0 hy]
  intro k
  induction k with
  | zero =>
    intro i x y h1 h2 h3 h4 h5
    have : y = 0 := by
      have : 2 ^ 0 = 1 := rfl
      omega
    subst this
    rw [Nat.gcd_zero_right] at h5 ⊢
    exact base i x (by omega) h3 h5
  | succ k ih =>
    intro i x y h1 h2 h3 h4 h5
    by_cases z : y = 0
    · subst z
      rw [Nat.gcd_zero_right] at h5 ⊢
      exact base i x (by omega) h3 h5
    · obtain ⟨j, rfl⟩ : ∃ j, i = j + 1 := ⟨i - 1, by omega⟩
      have hr : x % y < y := Nat.mod_lt _ (by omega)
      rw [step j x y h3 h4 (by omega), gcd_step x y]
      rw [gcd_step x y] at h5
      by_cases zr : x % y = 0
      · rw [zr] at h5 ⊢
        rw [Nat.gcd_zero_right] at h5 ⊢
        exact base j y (by omega) h4 h5
      · obtain ⟨l, rfl⟩ : ∃ l, j = l + 1 := ⟨j - 1, by omega⟩
        rw [step l y (x % y) h4 (by omega) (by omega), gcd_step y (x % y)]
        rw [gcd_step y (x % y)] at h5
        have hh : 2 * (y % (x % y)) < y := by
          have h6 : y % (x % y) < x % y := Nat.mod_lt _ (by omega)
          have h7 := Nat.div_add_mod y (x % y)
          have h8 : 1 ≤ y / (x % y) := Nat.div_pos (by omega) (by omega)
          have h9 : (x % y) * 1 ≤ (x % y) * (y / (x % y)) := Nat.mul_le_mul_left _ h8
          omega
        have hp : 2 ^ (k + 1) = 2 ^ k * 2 := Nat.pow_succ ..
        exact ih l (x % y) (y % (x % y)) (by omega) (by omega) (by omega) (by omega) h5
/-! sums over groups -/
theorem sF_add (f g : Nat → Nat) : ∀ k, sF (fun i => f i + g i) k = sF f k + sF g k
  | 0 => rfl
  | k + 1 => by
    show sF (fun i => f i + g i) k + (f k + g k) = (sF f k + f k) + (sF g k + g k)
    rw [sF_add f g k]; omega
theorem sF_mul (c : Nat) (f : Nat → Nat) : ∀ k, sF (fun i => c * f i) k = c * sF f k
  | 0 => (Nat.mul_zero c).symm
  | k + 1 => by
    show sF (fun i => c * f i) k + c * f k = c * (sF f k + f k)
    rw [sF_mul c f k, Nat.mul_add]
theorem sF_two (g : Nat → Nat) : ∀ M, sF g (2 * M) = sF (fun s => g (2 * s) + g (2 * s + 1)) M
  | 0 => rfl
  | M + 1 => by
    show sF g (2 * M + 1 + 1) = sF (fun s => g (2 * s) + g (2 * s + 1)) M + (g (2 * M) + g (2 * M + 1))
    rw [← sF_two g M]
    show sF g (2 * M) + g (2 * M) + g (2 * M + 1) = _
    omega
def Wg (c N o : Nat) : Nat := c ^ o * (16 - c) ^ (N - o)
theorem Wg_0 {c N o : Nat} (h : o ≤ N) : Wg c (N + 1) o = (16 - c) * Wg c N o := by
  unfold Wg
  rw [show N + 1 - o = N - o + 1 by omega, Nat.pow_succ, ← Nat.mul_assoc, Nat.mul_comm]
theorem Wg_1 {c N o : Nat} : Wg c (N + 1) (o + 1) = c * Wg c N o := by
  unfold Wg
  rw [show N + 1 - (o + 1) = N - o by omega, Nat.pow_succ, Nat.mul_comm (c ^ o) c, Nat.mul_assoc]
theorem pcn_le (N s : Nat) : pcn N s ≤ N := bc_le _ _
theorem pcn_2 (N s : Nat) : pcn (N + 1) (2 * s) = pcn N s := by
  rw [pcn_s, show 2 * s % 2 = 0 by omega, show 2 * s / 2 = s by omega, Nat.zero_add]
theorem pcn_21 (N s : Nat) : pcn (N + 1) (2 * s + 1) = pcn N s + 1 := by
  rw [pcn_s, show (2 * s + 1) % 2 = 1 by omega, show (2 * s + 1) / 2 = s by omega, Nat.add_comm]
def SR (c N : Nat) (f : Nat → Nat) : Nat := sF (fun s => Wg c N (pcn N s) * f s) (2 ^ N)
def SCl (c N I : Nat) (f : Nat → Nat) : Nat := sF (fun i => Wg c (pcn N I) (pcn N (pd N I i)) * f (pd N I i)) (2 ^ pcn N I)
theorem SR_s (c N : Nat) (f : Nat → Nat) : SR c (N + 1) f = (16 - c) * SR c N (fun s => f (2 * s)) + c * SR c N (fun s => f (2 * s + 1)) := by
  unfold SR
  rw [Nat.pow_succ, Nat.mul_comm (2 ^ N) 2, sF_two, ← sF_mul, ← sF_mul, ← sF_add]
  refine sF_congr (fun s _ => ?_)
  dsimp only
  rw [pcn_2, pcn_21, Wg_0 (pcn_le N s), Wg_1, Nat.mul_assoc, Nat.mul_assoc]
theorem SCl_odd {c N I : Nat} (f : Nat → Nat) (h : I % 2 = 1) : SCl c (N + 1) I f = (16 - c) * SCl c N (I / 2) (fun s => f (2 * s)) + c * SCl c N (I / 2) (fun s => f (2 * s + 1)) := by
  unfold SCl
  rw [show pcn (N + 1) I = pcn N (I / 2) + 1 by rw [pcn_s, h, Nat.add_comm], Nat.pow_succ, Nat.mul_comm (2 ^ pcn N (I / 2)) 2, sF_two, ← sF_mul, ← sF_mul, ← sF_add]
  refine sF_congr (fun s _ => ?_)
  dsimp only
  have e0 : pd (N + 1) I (2 * s) = 2 * pd N (I / 2) s := by
    unfold pd
    rw [if_pos h, show 2 * s / 2 = s by omega, show 2 * s % 2 = 0 by omega]
    cases N <;> rfl
  have e1 : pd (N + 1) I (2 * s + 1) = 2 * pd N (I / 2) s + 1 := by
    rw [show pd (N + 1) I (2 * s + 1) = if I % 2 = 1 then 2 * pd N (I / 2) ((2 * s + 1) / 2) + (2 * s + 1) % 2 else 2 * pd N (I / 2) (2 * s + 1) from rfl, if_pos h, show (2 * s + 1) / 2 = s by omega, show (2 * s + 1) % 2 = 1 by omega]
  have le : pcn N (pd N (I / 2) s) ≤ pcn N (I / 2) := bc_mono (fun i _ hi => pd_sub N (I / 2) s i hi)
  rw [e0, e1, pcn_2, pcn_21, Wg_0 le, Wg_1, Nat.mul_assoc, Nat.mul_assoc]
theorem SCl_even {c N I : Nat} (f : Nat → Nat) (h : ¬ I % 2 = 1) : SCl c (N + 1) I f = SCl c N (I / 2) (fun s => f (2 * s)) := by
  unfold SCl
  rw [show pcn (N + 1) I = pcn N (I / 2) by rw [pcn_s, show I % 2 = 0 by omega, Nat.zero_add]]
  refine sF_congr (fun s _ => ?_)
  have e0 : pd (N + 1) I s = 2 * pd N (I / 2) s := by
    rw [show pd (N + 1) I s = if I % 2 = 1 then 2 * pd N (I / 2) (s / 2) + s % 2 else 2 * pd N (I / 2) s from rfl, if_neg h]
  rw [e0, pcn_2]
/-- the weight over all is the weight over the involved ones, times sixteen for each other one -/
theorem SR_SC {c : Nat} (hc : c ≤ 16) : ∀ (N I : Nat) (f : Nat → Nat), (∀ s, f s = f (s &&& I)) → SR c N f = 16 ^ (N - pcn N I) * SCl c N I f
  | 0, I, f, h => by
    show 0 + Wg c 0 0 * f 0 = 1 * (0 + Wg c 0 0 * f 0)
    omega
  | N + 1, I, f, h => by
    rw [SR_s]
    have a0 : ∀ s, 2 * s &&& I = 2 * (s &&& (I / 2)) := fun s => by
      rw [and_half, show 2 * s / 2 = s by omega, if_neg (by omega), Nat.add_zero]
    have f0 : ∀ s, f (2 * s) = f (2 * (s &&& (I / 2))) := fun s => by
      rw [h (2 * s), a0]
    rw [SR_SC hc N (I / 2) (fun s => f (2 * s)) f0]
    have le := pcn_le N (I / 2)
    by_cases c1 : I % 2 = 1
    · have a1 : ∀ s, (2 * s + 1) &&& I = 2 * (s &&& (I / 2)) + 1 := fun s => by
        rw [and_half, show (2 * s + 1) / 2 = s by omega, if_pos ⟨by omega, c1⟩]
      have f1 : ∀ s, f (2 * s + 1) = f (2 * (s &&& (I / 2)) + 1) := fun s => by
        rw [h (2 * s + 1), a1]
      rw [SR_SC hc N (I / 2) (fun s => f (2 * s + 1)) f1, SCl_odd f c1, pcn_s, c1, show N + 1 - (1 + pcn N (I / 2)) = N - pcn N (I / 2) by omega, Nat.mul_add, Nat.mul_left_comm, Nat.mul_left_comm c]
    · have e : ∀ s, f (2 * s + 1) = f (2 * s) := fun s => by
        rw [h (2 * s + 1), and_half, show (2 * s + 1) / 2 = s by omega, if_neg (fun q => c1 q.2), Nat.add_zero, ← f0]
      have e2 : SR c N (fun s => f (2 * s + 1)) = SR c N (fun s => f (2 * s)) := by
        unfold SR
        exact sF_congr (fun s _ => by dsimp only; rw [e s])
      rw [e2, SR_SC hc N (I / 2) (fun s => f (2 * s)) f0, SCl_even f c1, pcn_s, show I % 2 = 0 by omega, Nat.zero_add, show N + 1 - pcn N (I / 2) = N - pcn N (I / 2) + 1 by omega, Nat.pow_succ, ← Nat.add_mul, show 16 - c + c = 16 by omega, Nat.mul_comm (16 ^ (N - pcn N (I / 2))) 16, Nat.mul_assoc]
theorem pd_more : ∀ (N H i : Nat), H < 2 ^ N → pd (N + 1) H i = pd N H i
  | 0, H, i, h => by
    have : H = 0 := by
      have : 2 ^ 0 = 1 := rfl
      omega
    rw [this]
    rfl
  | N + 1, H, i, h => by
    have hp : 2 ^ (N + 1) = 2 ^ N * 2 := Nat.pow_succ ..
    have h2 : H / 2 < 2 ^ N := by omega
    show (if H % 2 = 1 then 2 * pd (N + 1) (H / 2) (i / 2) + i % 2 else 2 * pd (N + 1) (H / 2) i) = (if H % 2 = 1 then 2 * pd N (H / 2) (i / 2) + i % 2 else 2 * pd N (H / 2) i)
    rw [pd_more N _ _ h2, pd_more N _ _ h2]
theorem pd_ext {N H : Nat} (h : H < 2 ^ N) (i : Nat) : ∀ d, pd (N + d) H i = pd N H i
  | 0 => rfl
  | d + 1 => by
    rw [← pd_ext h i d]
    exact pd_more (N + d) H i (Nat.lt_of_lt_of_le h (Nat.pow_le_pow_right (by omega) (by omega)))
theorem pcn_ext {N s : Nat} (h : s < 2 ^ N) : ∀ d, pcn (N + d) s = pcn N s
  | 0 => rfl
  | d + 1 => by
    rw [← pcn_ext h d]
    show bc (fun i => s.testBit i) (N + d) + (if s.testBit (N + d) = true then 1 else 0) = bc (fun i => s.testBit i) (N + d)
    rw [Nat.testBit_lt_two_pow (Nat.lt_of_lt_of_le h (Nat.pow_le_pow_right (by omega) (by omega))), if_neg (by decide)]
    rfl
