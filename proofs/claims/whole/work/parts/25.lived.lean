/-! ===== writing, the next stir, and all years ===== -/
def wrW (S : Sc) (y : Nat) (st : Ys) (j : Nat) : Nat → Bool := fun k => st.1 k || (decide (k < j) && decide (yr S k = y) && wok S k && (st.2.2 (wr S k) (wd S k)).isSome)
theorem RW.congr {b : Nat} {S : Sc} {W W' : Nat → Bool} {σ : Sg} (h : RW b S W σ) (e : ∀ k, k < sz S → W k = W' k) : RW b S W' σ :=
  ⟨h.1.congr e, fun k hk hw => h.2 k hk (by rw [e k hk]; exact hw)⟩
theorem sp_write {n b y : Nat} {S : Sc} {st : Ys} (hy : y < 200) : ∀ (i j : Nat) (σ : Sg), sz S < i + j → j ≤ sz S → Vw b S σ → RW b S (wrW S y st j) σ → RO b S st.2.1 σ → RK b S st.2.2 σ → ∃ σ', fn_X5_writeThoseOf_b2 n b (nI y) i (nI j) σ = some σ' ∧ Kp b σ σ' ∧ RW b S (wrW S y st (sz S)) σ' ∧ RO b S st.2.1 σ' ∧ RK b S st.2.2 σ' ∧ σ' b 4 = σ b 4 := by
  intro i
  induction i with
  | zero => intro j σ h1 h2; exact absurd h1 (by omega)
  | succ i ih =>
    intro j σ h1 h2 hv hW hO hK
    have hv' := hv
    obtain ⟨hF, ⟨hz1, hz, hL⟩, hA⟩ := hv'
    have hz1 : σ (b + 7) 0 = nI (sz S) := hz1
    rw [fn_X5_writeThoseOf_b2_s, hz1]
    unfold fn_X5_writeThoseOf_b110
    by_cases c : j < sz S
    · obtain ⟨a1, a2, a3, a4, a5, a6, a7, a8, -⟩ := hL j c
      have a1 : σ (b + 8) j = nI (wr S j) := a1
      have a5 : σ (b + 10) j = nI (yr S j) := a5
      have a7 : σ (b + 11) j = nI (wd S j) := a7
      have ib : ag_ib (nI j) 13 = true := ma_ib (by omega) (by omega)
      have skip : (decide (yr S j = y) && wok S j && (st.2.2 (wr S j) (wd S j)).isSome) = false → RW b S (wrW S y st (j + 1)) σ := by
        intro q
        refine hW.congr (fun k hk => ?_)
        unfold wrW
        by_cases e : k = j
        · subst e
          rw [decide_eq_true (show k < k + 1 by omega), decide_eq_false (Nat.lt_irrefl k), Bool.true_and, q]
          rfl
        · have : decide (k < j + 1) = decide (k < j) := by
            by_cases z : k < j
            · rw [decide_eq_true z, decide_eq_true (by omega)]
            · rw [decide_eq_false z, decide_eq_false (by omega)]
          rw [this]
      rw [if_neg (nI_ge c (by omega)), if_pos ib, ma_cl (by omega), a5, nI_1]
      by_cases c1 : yr S j = y
      · rw [if_pos (by rw [c1])]
        by_cases c2 : ac S j = true
        · rw [if_pos (by rw [ma_b0 _ (by omega), hA j c, c2]; rfl), if_pos ib, a1, sp_lives hF (by omega) (by omega), Option.bind_some]
          by_cases c3 : lvs S (wr S j) y = true
          · have l3 := lvs_iff.mp c3
            rw [c3, bI_t, if_neg (by decide), if_pos ib, if_pos (ma_ib (by omega) (by omega)), if_pos ib, ma_cl (by omega), a7]
            have hb := (hK (wr S j) l3.1).1.at a8 (by omega)
            have hwok : wok S j = true := by unfold wok; rw [c2, c1, c3]; rfl
            by_cases c4 : (st.2.2 (wr S j) (wd S j)).isSome = true
            · rw [if_pos (by rw [ma_b1 _ (by omega), hb]; exact c4)]
              generalize hs1 : ag_up σ b 3 (σ b 3 ||| 1 <<< (nI j &&& 31)) = σ1
              have k1 : Kp b σ σ1 := by rw [← hs1]; exact kp_b (Or.inl rfl)
              have v1 := kp_Vw k1 hv
              rw [sp_due v1 c, Option.bind_some, if_pos ib]
              generalize hs2 : ag_up σ1 (b + 14) j (nI (dueY S j)) = σ2
              have k2 : Kp b σ1 σ2 := by rw [← hs2]; exact kp_c (Or.inr (Or.inl rfl))
              have k12 := k1.tr k2
              have rW : RW b S (wrW S y st (j + 1)) σ2 := by
                constructor
                · rw [← hs2, ma_up_k (by omega), ← hs1, ma_up_s]
                  refine (hW.1.set c (by omega)).congr (fun k hk => ?_)
                  show (wrW S y st j k || decide (k = j)) = wrW S y st (j + 1) k
                  unfold wrW
                  by_cases e : k = j
                  · subst e
                    rw [decide_eq_true (show k < k + 1 by omega), decide_eq_true rfl, Bool.or_true, decide_eq_true c1, hwok, c4]
                    simp
                  · have : decide (k < j + 1) = decide (k < j) := by
                      by_cases z : k < j
                      · rw [decide_eq_true z, decide_eq_true (by omega)]
                      · rw [decide_eq_false z, decide_eq_false (by omega)]
                    rw [this, decide_eq_false e, Bool.or_false]
                · intro k hk hw
                  rw [← hs2]
                  by_cases e : k = j
                  · subst e
                    exact ma_up_s _ _ _ _
                  · rw [ma_up_i e, ← hs1, ma_up_k (by omega)]
                    refine hW.2 k hk ?_
                    unfold wrW at hw ⊢
                    have : decide (k < j + 1) = decide (k < j) := by
                      by_cases z : k < j
                      · rw [decide_eq_true z, decide_eq_true (by omega)]
                      · rw [decide_eq_false z, decide_eq_false (by omega)]
                    rw [this] at hw
                    exact hw
              have e4 : σ2 b 4 = σ b 4 := by rw [← hs2, ma_up_k (by omega), ← hs1, ma_up_i (by decide)]
              have e13 : σ2 (b + 13) = σ (b + 13) := by rw [← hs2, ag_up_ne (by omega), ← hs1, ag_up_ne (by omega)]
              have e15 : σ2 (b + 15) = σ (b + 15) := by rw [← hs2, ag_up_ne (by omega), ← hs1, ag_up_ne (by omega)]
              have e16 : σ2 (b + 16) = σ (b + 16) := by rw [← hs2, ag_up_ne (by omega), ← hs1, ag_up_ne (by omega)]
              have rO : RO b S st.2.1 σ2 := by unfold RO; rw [e4, e13]; exact hO
              have rK : RK b S st.2.2 σ2 := by unfold RK; rw [e15, e16]; exact hK
              obtain ⟨σ3, t1, t2, t3, t4, t5, t6⟩ := ih (j + 1) σ2 (by omega) (by omega) (kp_Vw k12 hv) rW rO rK
              exact ⟨σ3, t1, k12.tr t2, t3, t4, t5, t6.trans e4⟩
            · rw [if_neg (by rw [ma_b1 _ (by omega), hb]; exact c4)]
              simp only [Bool.not_eq_true] at c4
              exact ih (j + 1) σ (by omega) (by omega) hv (skip (by rw [c4, Bool.and_false])) hO hK
          · simp only [Bool.not_eq_true] at c3
            rw [c3, bI_f, if_pos rfl]
            exact ih (j + 1) σ (by omega) (by omega) hv (skip (by unfold wok; rw [c1, c3]; simp)) hO hK
        · rw [if_neg (by rw [ma_b0 _ (by omega), hA j c]; simp only [Bool.not_eq_true] at c2; rw [c2]; decide)]
          simp only [Bool.not_eq_true] at c2
          exact ih (j + 1) σ (by omega) (by omega) hv (skip (by unfold wok; rw [c2]; simp)) hO hK
      · rw [if_neg (fun q => c1 ((nI_eq (by omega) (by omega)).mp q))]
        exact ih (j + 1) σ (by omega) (by omega) hv (skip (by rw [decide_eq_false c1]; rfl)) hO hK
    · rw [if_pos (nI_le (by omega) (by omega))]
      have e : j = sz S := by omega
      subst e
      exact ⟨σ, rfl, Kp.rf b σ, hW, hO, hK, rfl⟩
/-- the next year in which something may stir, by the first j letters -/
def stir (S : Sc) (y : Nat) (st : Ys) : Nat → Nat
  | 0 => 200
  | j + 1 => if y < yr S j then min (stir S y st j) (yr S j) else if (st.1 j && (st.2.1 j).isNone) = true ∧ y < dueY S j then min (stir S y st j) (dueY S j) else stir S y st j
theorem stir_hi (S : Sc) (y : Nat) (st : Ys) : ∀ j, stir S y st j ≤ 200
  | 0 => Nat.le_refl _
  | j + 1 => by
    have := stir_hi S y st j
    unfold stir
    split
    · omega
    · split
      · omega
      · omega
theorem stir_lo (S : Sc) {y : Nat} (st : Ys) (hy : y < 200) : ∀ j, y < stir S y st j
  | 0 => hy
  | j + 1 => by
    have := stir_lo S st hy j
    unfold stir
    split
    · omega
    · split
      · omega
      · omega
theorem stir_le (S : Sc) (y : Nat) (st : Ys) : ∀ j k, k < j → (y < yr S k → stir S y st j ≤ yr S k) ∧ (yr S k ≤ y → (st.1 k && (st.2.1 k).isNone) = true → y < dueY S k → stir S y st j ≤ dueY S k)
  | 0, k, h => absurd h (Nat.not_lt_zero k)
  | j + 1, k, h => by
    by_cases e : k = j
    · subst e
      constructor
      · intro q
        unfold stir
        rw [if_pos q]
        omega
      · intro q1 q2 q3
        unfold stir
        rw [if_neg (by omega), if_pos ⟨q2, q3⟩]
        omega
    · obtain ⟨h1, h2⟩ := stir_le S y st j k (by omega)
      have hm : stir S y st (j + 1) ≤ stir S y st j := by
        conv => lhs; unfold stir
        split
        · omega
        · split
          · omega
          · omega
      exact ⟨fun q => Nat.le_trans hm (h1 q), fun q1 q2 q3 => Nat.le_trans hm (h2 q1 q2 q3)⟩
theorem due_hi {b : Nat} {S : Sc} {σ : Sg} (hF : VF (b + 1) S σ) (k : Nat) : dueY S k < 2 ^ 31 := by
  unfold dueY
  split
  · next q =>
    simp only [Bool.and_eq_true] at q
    have q2 := lvs_iff.mp q.2
    have := (hF.2.2 (rd S k) q2.1).2.1
    have := (hF.2.2 (rd S k) q2.1).2.2.2.1
    omega
  · omega
theorem sp_nextStir {n b y : Nat} {S : Sc} {st : Ys} {σ : Sg} (hy : y < 200) (hv : Vw b S σ) (h : Rs b S st σ) : ∀ (i j : Nat), sz S < i + j → j ≤ sz S → fn_X5_nextStir_b6 n b (nI y) σ i (nI (stir S y st j)) (nI j) = some (nI (stir S y st (sz S))) := by
  intro i
  induction i with
  | zero => intro j h1 h2; exact absurd h1 (by omega)
  | succ i ih =>
    intro j h1 h2
    have hv' := hv
    obtain ⟨hF, ⟨hz1, hz, hL⟩, hA⟩ := hv'
    have hz1 : σ (b + 7) 0 = nI (sz S) := hz1
    have hs := stir_hi S y st j
    rw [fn_X5_nextStir_b6_s, hz1]
    unfold fn_X5_nextStir_b76
    by_cases c : j < sz S
    · obtain ⟨a1, a2, a3, a4, a5, a6, a7, a8, -⟩ := hL j c
      have a5 : σ (b + 10) j = nI (yr S j) := a5
      have ib : ag_ib (nI j) 13 = true := ma_ib (by omega) (by omega)
      have ihj := ih (j + 1) (by omega) (by omega)
      have es : stir S y st (j + 1) = if y < yr S j then min (stir S y st j) (yr S j) else if (st.1 j && (st.2.1 j).isNone) = true ∧ y < dueY S j then min (stir S y st j) (dueY S j) else stir S y st j := rfl
      rw [if_neg (nI_ge c (by omega)), if_pos ib, ma_cl (by omega), a5, nI_1]
      by_cases c1 : yr S j ≤ y
      · rw [if_neg (show ¬ y < yr S j by omega)] at es
        rw [if_pos (nI_le c1 (by omega)), sp_waiting hz h c, Option.bind_some]
        by_cases w : (st.1 j && (st.2.1 j).isNone) = true
        · have w' := w
          simp only [Bool.and_eq_true] at w'
          have hd := due_hi hF j
          rw [w, bI_t, if_neg (by decide), if_pos ib, h.1.2 j c w'.1]
          by_cases d : dueY S j ≤ y
          · rw [if_neg (fun q => by omega)] at es
            rw [if_pos (nI_le d (by omega)), ← es]
            exact ihj
          · rw [if_pos ⟨w, by omega⟩] at es
            rw [if_neg (nI_ge (by omega) hd), if_pos ib, ma_min (by omega) hd, ← es]
            exact ihj
        · rw [if_neg (fun q => w q.1)] at es
          simp only [Bool.not_eq_true] at w
          rw [w, bI_f, if_pos rfl, ← es]
          exact ihj
      · rw [if_pos (by omega)] at es
        rw [if_neg (nI_ge (by omega) (by omega)), if_pos ib, ma_min (by omega) (by omega), ← es]
        exact ihj
    · rw [if_pos (nI_le (by omega) (by omega))]
      have e : j = sz S := by omega
      subst e
      rfl
