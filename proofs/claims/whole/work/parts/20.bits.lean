-- rows of kit/laws/BITS (the family bt) and rows of our own on bits and numbers
def bt (x : Int32) (i : Nat) : Bool := x.toBitVec.getLsbD i
theorem b_ext {x y : Int32} (h : ∀ i, i < 32 → bt x i = bt y i) : x = y := Int32.toBitVec_inj.mp (BitVec.eq_of_getLsbD_eq (fun i hi => h i hi))
theorem b_or (x y : Int32) (i : Nat) : bt (x ||| y) i = (bt x i || bt y i) := by unfold bt; rw [Int32.toBitVec_or, BitVec.getLsbD_or]
theorem b_and (x y : Int32) (i : Nat) : bt (x &&& y) i = (bt x i && bt y i) := by unfold bt; rw [Int32.toBitVec_and, BitVec.getLsbD_and]
theorem b_xor (x y : Int32) (i : Nat) : bt (x ^^^ y) i = (bt x i ^^ bt y i) := by unfold bt; rw [Int32.toBitVec_xor, BitVec.getLsbD_xor]
theorem b_big {x : Int32} {i : Nat} (h : 32 ≤ i) : bt x i = false := BitVec.getLsbD_of_ge _ _ h
theorem b_255 (i : Nat) : bt 255 i = decide (i < 8) := by
  rcases Nat.lt_or_ge i 32 with h | h
  · exact (by decide +kernel : ∀ i, i < 32 → bt 255 i = decide (i < 8)) i h
  · rw [b_big h, decide_eq_false (by omega)]
theorem b_65535 (i : Nat) : bt 65535 i = decide (i < 16) := by
  rcases Nat.lt_or_ge i 32 with h | h
  · exact (by decide +kernel : ∀ i, i < 32 → bt 65535 i = decide (i < 16)) i h
  · rw [b_big h, decide_eq_false (by omega)]
theorem b_m1 : ∀ i, i < 32 → bt (-1) i = true := by decide +kernel
theorem b_0 (i : Nat) : bt 0 i = false := BitVec.getLsbD_zero
theorem s_l : ∀ n, n < 32 → ((nI n &&& 31).toBitVec.smod 32).toNat = n := by decide +kernel
theorem s_u : ∀ n, n < 32 → (((nI n).toUInt32 &&& Int32.toUInt32 31).toBitVec % 32).toNat = n := by decide +kernel
theorem b_shl (n : Nat) (hn : n < 32) (x : Int32) {i : Nat} (hi : i < 32) : bt (x <<< (nI n &&& 31)) i = (decide (n ≤ i) && bt x (i - n)) := by
  unfold bt
  rw [Int32.toBitVec_shiftLeft]
  show (x.toBitVec <<< ((nI n &&& 31).toBitVec.smod 32).toNat).getLsbD i = _
  rw [s_l n hn, BitVec.getLsbD_shiftLeft]
  rcases Nat.lt_or_ge i n with h | h
  · simp [h, Nat.not_le.mpr h]
  · simp [hi, h, Nat.not_lt.mpr h]
theorem b_ushr (n : Nat) (hn : n < 32) (x : Int32) (i : Nat) : bt ((x.toUInt32 >>> ((nI n).toUInt32 &&& Int32.toUInt32 31)).toInt32) i = bt x (n + i) := by
  show (x.toUInt32 >>> ((nI n).toUInt32 &&& Int32.toUInt32 31)).toBitVec.getLsbD i = x.toUInt32.toBitVec.getLsbD (n + i)
  rw [UInt32.toBitVec_shiftRight]
  show (x.toUInt32.toBitVec >>> (((nI n).toUInt32 &&& Int32.toUInt32 31).toBitVec % 32).toNat).getLsbD i = _
  rw [s_u n hn, BitVec.getLsbD_ushiftRight]
theorem b_sshr (n : Nat) (hn : n < 32) (x : Int32) {i : Nat} (hi : i < 32) : bt (x >>> (nI n &&& 31)) i = if n + i < 32 then bt x (n + i) else bt x 31 := by
  unfold bt
  rw [Int32.toBitVec_shiftRight]
  show (x.toBitVec.sshiftRight ((nI n &&& 31).toBitVec.smod 32).toNat).getLsbD i = _
  rw [s_l n hn, BitVec.getLsbD_sshiftRight, BitVec.msb_eq_getLsbD_last]
  simp [hi]
theorem b_shl8 (x : Int32) {i : Nat} (hi : i < 32) : bt (x <<< ((8 : Int32) &&& 31)) i = (decide (8 ≤ i) && bt x (i - 8)) := b_shl 8 (by omega) x hi
theorem b_shl16 (x : Int32) {i : Nat} (hi : i < 32) : bt (x <<< ((16 : Int32) &&& 31)) i = (decide (16 ≤ i) && bt x (i - 16)) := b_shl 16 (by omega) x hi
theorem b_shl24 (x : Int32) {i : Nat} (hi : i < 32) : bt (x <<< ((24 : Int32) &&& 31)) i = (decide (24 ≤ i) && bt x (i - 24)) := b_shl 24 (by omega) x hi
theorem b_sshr8 (x : Int32) {i : Nat} (hi : i < 32) : bt (x >>> ((8 : Int32) &&& 31)) i = if 8 + i < 32 then bt x (8 + i) else bt x 31 := b_sshr 8 (by omega) x hi

/-! ===== one bit of an int, as the code asks for it ===== -/
theorem ma_1 : ∀ i, i < 32 → bt 1 i = decide (i = 0) := by decide +kernel
theorem ma_nI_lt {k : Nat} (h : k < 32) : k < 2 ^ 31 := by omega
theorem ma_bit (x : Int32) {k : Nat} (hk : k < 32) : ((x >>> (nI k &&& 31)) &&& 1) = if bt x k = true then 1 else 0 := by
  apply b_ext
  intro i hi
  rw [b_and, b_sshr k hk x hi, ma_1 i hi]
  by_cases h0 : i = 0
  · subst h0
    rw [if_pos (by omega)]
    by_cases hb : bt x k = true
    · rw [if_pos hb, ma_1 0 (by omega)]; simp [hb]
    · rw [if_neg hb, b_0]; simp at hb; simp [hb]
  · rw [decide_eq_false h0, Bool.and_false]
    split
    · rw [ma_1 i hi, decide_eq_false h0]
    · rw [b_0]
theorem ma_b1 (x : Int32) {k : Nat} (hk : k < 32) : ((x >>> (nI k &&& 31)) &&& 1) = 1 ↔ bt x k = true := by
  rw [ma_bit x hk]
  by_cases h : bt x k = true
  · simp [h]
  · rw [if_neg h]
    exact ⟨fun q => absurd q (by decide), fun q => absurd q h⟩
theorem ma_b0 (x : Int32) {k : Nat} (hk : k < 32) : ((x >>> (nI k &&& 31)) &&& 1) = 0 ↔ bt x k = false := by
  rw [ma_bit x hk]
  by_cases h : bt x k = true
  · rw [if_pos h]
    exact ⟨fun q => absurd q (by decide), fun q => by rw [h] at q; cases q⟩
  · simp at h
    simp [h]
theorem ma_or1 (x : Int32) {k i : Nat} (hk : k < 32) (hi : i < 32) : bt (x ||| (1 <<< (nI k &&& 31))) i = (bt x i || decide (i = k)) := by
  rw [b_or, b_shl k hk 1 hi]
  congr 1
  by_cases h : k ≤ i
  · rw [decide_eq_true h, Bool.true_and, ma_1 (i - k) (by omega)]
    congr 1
    apply propext
    constructor <;> intro q <;> omega
  · rw [decide_eq_false h, Bool.false_and, decide_eq_false (by omega)]
theorem ma_shl1 {k i : Nat} (hk : k < 32) (hi : i < 32) : bt ((1 : Int32) <<< (nI k &&& 31)) i = decide (i = k) := by
  have h := ma_or1 0 hk hi
  rw [b_or, b_0, Bool.false_or, Bool.false_or] at h
  exact h
theorem ma_andn (x y : Int32) {i : Nat} (hi : i < 32) : bt (x &&& (y ^^^ (-1))) i = (bt x i && !bt y i) := by
  rw [b_and, b_xor, b_m1 i hi, Bool.xor_true]
theorem ma_btn (m i : Nat) : bt (nI m) i = (decide (i < 32) && m.testBit i) := by
  show (BitVec.ofNat 32 m).getLsbD i = _
  rw [BitVec.getLsbD_ofNat]
/-- bits of an int below n are f's, the others are not there -/
def IsB (x : Int32) (n : Nat) (f : Nat → Bool) : Prop := ∀ i, i < 32 → bt x i = (decide (i < n) && f i)
theorem IsB.eq {x y : Int32} {n : Nat} {f g : Nat → Bool} (h : IsB x n f) (h2 : IsB y n g) (hf : ∀ i, i < n → f i = g i) : x = y := by
  apply b_ext
  intro i hi
  rw [h i hi, h2 i hi]
  by_cases c : i < n
  · rw [hf i c]
  · rw [decide_eq_false c, Bool.false_and, Bool.false_and]
theorem IsB.congr {x : Int32} {n : Nat} {f g : Nat → Bool} (h : IsB x n f) (hf : ∀ i, i < n → f i = g i) : IsB x n g := by
  intro i hi
  rw [h i hi]
  by_cases c : i < n
  · rw [hf i c]
  · rw [decide_eq_false c, Bool.false_and, Bool.false_and]
theorem IsB.at {x : Int32} {n : Nat} {f : Nat → Bool} (h : IsB x n f) {k : Nat} (hk : k < n) (hn : n ≤ 32) : bt x k = f k := by
  rw [h k (by omega), decide_eq_true hk, Bool.true_and]
theorem IsB.zero (n : Nat) : IsB 0 n (fun _ => false) := by
  intro i _
  rw [b_0, Bool.and_false]
theorem IsB.set {x : Int32} {n : Nat} {f : Nat → Bool} (h : IsB x n f) {k : Nat} (hk : k < n) (hn : n ≤ 32) : IsB (x ||| (1 <<< (nI k &&& 31))) n (fun i => f i || decide (i = k)) := by
  intro i hi
  rw [ma_or1 x (by omega) hi, h i hi]
  by_cases c : i < n
  · rw [decide_eq_true c, Bool.true_and, Bool.true_and]
  · rw [decide_eq_false c, Bool.false_and, Bool.false_and, decide_eq_false (by omega)]; rfl
theorem IsB.andn {x y : Int32} {n : Nat} {f g : Nat → Bool} (h : IsB x n f) (h2 : IsB y n g) : IsB (x &&& (y ^^^ (-1))) n (fun i => f i && !g i) := by
  intro i hi
  rw [ma_andn x y hi, h i hi, h2 i hi]
  by_cases c : i < n
  · rw [decide_eq_true c, Bool.true_and, Bool.true_and, Bool.true_and]
  · rw [decide_eq_false c, Bool.false_and, Bool.false_and, Bool.false_and]
theorem IsB.or {x y : Int32} {n : Nat} {f g : Nat → Bool} (h : IsB x n f) (h2 : IsB y n g) : IsB (x ||| y) n (fun i => f i || g i) := by
  intro i hi
  rw [b_or, h i hi, h2 i hi]
  by_cases c : i < n
  · rw [decide_eq_true c, Bool.true_and, Bool.true_and, Bool.true_and]
  · rw [decide_eq_false c, Bool.false_and, Bool.false_and, Bool.false_and]; rfl
theorem IsB.ofN {m n : Nat} (h : m < 2 ^ n) (hn : n ≤ 32) : IsB (nI m) n (fun i => m.testBit i) := by
  intro i hi
  rw [ma_btn, decide_eq_true hi, Bool.true_and]
  by_cases c : i < n
  · rw [decide_eq_true c, Bool.true_and]
  · rw [decide_eq_false c, Bool.false_and]
    exact Nat.testBit_lt_two_pow (Nat.lt_of_lt_of_le h (Nat.pow_le_pow_right (by omega) (by omega)))
/-- no bit from k on -/
theorem IsB.shr0 {x : Int32} {n : Nat} {f : Nat → Bool} (h : IsB x n f) (hn : n < 32) {k : Nat} (hk : k < 32) : (x >>> (nI k &&& 31)) = 0 ↔ ∀ i, k ≤ i → i < n → f i = false := by
  constructor
  · intro q i h1 h2
    have e : bt (x >>> (nI k &&& 31)) (i - k) = bt 0 (i - k) := by rw [q]
    rw [b_0, b_sshr k hk x (by omega), if_pos (by omega), show k + (i - k) = i by omega, h i (by omega), decide_eq_true h2, Bool.true_and] at e
    exact e
  · intro q
    apply b_ext
    intro i hi
    rw [b_0, b_sshr k hk x hi]
    split
    · rw [h (k + i) (by omega)]
      by_cases c : k + i < n
      · rw [q (k + i) (by omega) c, Bool.and_false]
      · rw [decide_eq_false c, Bool.false_and]
    · rw [h 31 (by omega), decide_eq_false (by omega), Bool.false_and]
/-! ===== numbers ===== -/
theorem ma_ib {j n : Nat} (h : j < n) (hn : n < 2 ^ 31) : ag_ib (nI j) n = true := decide_eq_true (nI_in h hn)
theorem ma_cl {j : Nat} (h : j < 2 ^ 31) : (nI j).toNatClampNeg = j := nI_clamp h
theorem ma_m1 {j : Nat} (h : j < 2 ^ 31) : ¬ nI j = -1 := by
  intro q
  have e : (nI j).toInt = (-1 : Int32).toInt := by rw [q]
  rw [nI_toInt h] at e
  have e2 : (-1 : Int32).toInt = -1 := by decide
  omega
theorem ma_m1' {j : Nat} (h : j < 2 ^ 31) : ¬ (-1 : Int32) = nI j := fun q => ma_m1 h q.symm
theorem ma_max {a b : Nat} (ha : a < 2 ^ 31) (hb : b < 2 ^ 31) : ag_max (nI a) (nI b) = nI (max a b) := by
  unfold ag_max
  by_cases h : a < b
  · rw [if_pos (nI_lt h hb), Nat.max_eq_right (by omega)]
  · rw [if_neg (nI_nlt (by omega) ha), Nat.max_eq_left (by omega)]
theorem ma_min {a b : Nat} (ha : a < 2 ^ 31) (hb : b < 2 ^ 31) : ag_min (nI a) (nI b) = nI (min a b) := by
  unfold ag_min
  by_cases h : b < a
  · rw [if_pos (nI_lt h ha), Nat.min_eq_right (by omega)]
  · rw [if_neg (nI_nlt (by omega) hb), Nat.min_eq_left (by omega)]
theorem ma_nle {a b : Nat} (ha : a < 2 ^ 31) (hb : b < 2 ^ 31) : (nI a ≤ nI b) = (a ≤ b) := propext (nI_leI ha hb)
theorem ma_nlt {a b : Nat} (ha : a < 2 ^ 31) (hb : b < 2 ^ 31) : (nI a < nI b) = (a < b) := propext (nI_ltI ha hb)
theorem ma_neq {a b : Nat} (ha : a < 2 ^ 31) (hb : b < 2 ^ 31) : (nI a = nI b) = (a = b) := propext (nI_eq ha hb)
theorem ma_lt0 {a : Nat} (ha : a < 2 ^ 31) : (nI a < 0) = False := eq_false (nI_pos ha)
theorem ma_0le {a : Nat} (ha : a < 2 ^ 31) : ((0 : Int32) ≤ nI a) = True := eq_true (nI_pos' ha)
/-- an int is below 0, or a number -/
theorem ma_cases (x : Int32) : x < 0 ∨ ∃ j : Nat, j < 2 ^ 31 ∧ x = nI j := by
  by_cases h : x < 0
  · exact Or.inl h
  · exact Or.inr (nI_of h)
theorem ma_up_s (σ : Sg) (k i : Nat) (v : Int32) : ag_up σ k i v k i = v := by
  unfold ag_up
  rw [if_pos ⟨rfl, rfl⟩]
theorem ma_up_n {σ : Sg} {k i k' i' : Nat} {v : Int32} (h : ¬ (k' = k ∧ i' = i)) : ag_up σ k i v k' i' = σ k' i' := by
  unfold ag_up
  rw [if_neg h]
theorem ma_up_k {σ : Sg} {k i k' : Nat} {v : Int32} (h : k' ≠ k) (i' : Nat) : ag_up σ k i v k' i' = σ k' i' := ma_up_n (fun q => h q.1)
theorem ma_up_i {σ : Sg} {k i i' : Nat} {v : Int32} (h : i' ≠ i) (k' : Nat) : ag_up σ k i v k' i' = σ k' i' := ma_up_n (fun q => h q.2)
theorem ma_ar_s (σ : Sg) (k : Nat) (f : Nat → Int32) : ag_ar σ k f k = f := by
  unfold ag_ar
  rw [if_pos rfl]
theorem ma_ar_n {σ : Sg} {k k' : Nat} {f : Nat → Int32} (h : k' ≠ k) : ag_ar σ k f k' = σ k' := by
  unfold ag_ar
  rw [if_neg h]
