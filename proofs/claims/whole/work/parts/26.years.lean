theorem ma_c0 : (0 : Int32).toNatClampNeg = 0 := by decide
theorem ma_c10 : (10 : Int32).toNatClampNeg = 10 := by decide
theorem ma_c13 : (13 : Int32).toNatClampNeg = 13 := by decide
theorem ma_cpy {f g : Nat → Int32} {N p : Nat} (h : p < N) : va_cpy f g 0 0 N p = f p := by
  unfold va_cpy
  rw [if_pos ⟨Nat.zero_le _, by omega⟩, Nat.zero_add, Nat.sub_zero]
theorem ma_cpy_out {f g : Nat → Int32} {N p : Nat} (h : N ≤ p) : va_cpy f g 0 0 N p = g p := by
  unfold va_cpy
  rw [if_neg (by omega)]
theorem sp_years {n b : Nat} {S : Sc} (hn : 300 ≤ n) : ∀ (i y v : Nat) (σ : Sg), 200 < i + y → y ≤ 200 → v ≤ y → Vw b S σ → Rs b S (sim S y) σ → ∃ σ', fn_X5_live_b32 n b i (nI y) (nI v) σ = some σ' ∧ Kp b σ σ' ∧ Rs b S (sim S 200) σ' := by
  intro i
  induction i with
  | zero => intro y v σ h1 h2; exact absurd h1 (by omega)
  | succ i ih =>
    intro y v σ h1 h2 h3 hv h
    rw [fn_X5_live_b32_s, nI_lit200]
    by_cases cv : 200 ≤ v
    · rw [if_pos (nI_le cv (by omega))]
      have : y = 200 := by omega
      subst this
      exact ⟨σ, rfl, Kp.rf b σ, h⟩
    · rw [if_neg (nI_ge (by omega) (by omega))]
      by_cases cy : 200 ≤ y
      · rw [if_pos (nI_le cy (by omega))]
        have : y = 200 := by omega
        subst this
        exact ⟨σ, rfl, Kp.rf b σ, h⟩
      · rw [if_neg (nI_ge (by omega) (by omega))]
        have hsz := hv.2.1.2.1
        have e0 : wrW S y (sim S y) 0 = (sim S y).1 := by
          funext k
          unfold wrW
          rw [decide_eq_false (Nat.not_lt_zero k), Bool.false_and, Bool.false_and, Bool.false_and, Bool.or_false]
        obtain ⟨σ1, w1, w2, w3, w4, w5, w6⟩ := sp_write (n := n) (st := sim S y) (show y < 200 by omega) n 0 σ (by omega) (by omega) hv (by rw [e0]; exact h.1) h.2.1 h.2.2
        have ew : fn_X5_writeThoseOf n b (nI y) σ = some σ1 := w1
        rw [ew, Option.bind_some]
        have v1 := kp_Vw w2 hv
        have r1 : Rs b S (wrt S y (sim S y)) σ1 := ⟨w3, w4, w5⟩
        obtain ⟨σ2, o1, o2, o3⟩ := sp_openThose (n := n) (st := wrt S y (sim S y)) (show 20 ≤ n by omega) (show y < 200 by omega) (fun k hk => by
          have hk' : (sim S (y + 1)).1 k = true := by
            show (opns S y (sz S) (wrt S y (sim S y))).1 k = true
            rw [opns_W]; exact hk
          obtain ⟨-, q2, q3⟩ := sim_W_ok S (y + 1) hk'
          unfold wok at q2
          simp only [Bool.and_eq_true] at q2
          exact ⟨q2.2, by omega⟩) n 0 σ1 (by omega) (by omega) v1 r1
        have eo : fn_X5_openThoseDue n b (nI y) σ1 = some σ2 := o1
        have r2 : Rs b S (sim S (y + 1)) σ2 := o3
        rw [eo, Option.bind_some]
        have v2 := kp_Vw o2 v1
        have k12 := w2.tr o2
        unfold fn_X5_live_b80
        rw [nI_1, nI_1]
        by_cases ce : σ2 b 4 = σ b 4
        · rw [if_pos ce]
          have hO : ∀ k, k < sz S → (sim S (y + 1)).2.1 k = (sim S y).2.1 k := by
            intro k hk
            have q1 := r2.2.1.1.at hk (by omega)
            have q2 := h.2.1.1.at hk (by omega)
            rw [ce, q2] at q1
            cases e : (sim S y).2.1 k with
            | some t => exact (sim_le S y).2.1 k t e
            | none =>
              rw [e] at q1
              cases e2 : (sim S (y + 1)).2.1 k with
              | none => rfl
              | some t => rw [e2] at q1; cases q1
          have en : fn_X5_nextStir n b (nI y) σ2 = some (nI (stir S y (sim S (y + 1)) (sz S))) := sp_nextStir (n := n) (show y < 200 by omega) v2 r2 n 0 (by omega) (by omega)
          rw [en, Option.bind_some]
          generalize hN : stir S y (sim S (y + 1)) (sz S) = N
          have hN1 : N ≤ 200 := by rw [← hN]; exact stir_hi _ _ _ _
          have hN2 : y < N := by rw [← hN]; exact stir_lo S (sim S (y + 1)) (by omega) _
          have hsk := sim_skip (S := S) (y := y) (N := N) hN1 hN2 hO (fun k hk q => by rw [← hN]; exact (stir_le S y (sim S (y + 1)) (sz S) k hk).1 q) (fun k hk q1 q2 q3 q4 => by rw [← hN]; exact (stir_le S y (sim S (y + 1)) (sz S) k hk).2 q1 (by rw [q2, q3]; rfl) q4) (N - (y + 1)) (by omega)
          rw [show y + 1 + (N - (y + 1)) = N by omega] at hsk
          obtain ⟨σ3, t1, t2, t3⟩ := ih N (v + 1) σ2 (by omega) hN1 (by omega) v2 (by rw [hsk]; exact r2)
          exact ⟨σ3, t1, k12.tr t2, t3⟩
        · rw [if_neg ce]
          obtain ⟨σ3, t1, t2, t3⟩ := ih (y + 1) (v + 1) σ2 (by omega) (by omega) (by omega) v2 r2
          exact ⟨σ3, t1, k12.tr t2, t3⟩
/-- live(): the years are lived -/
theorem sp_live {n b : Nat} {S : Sc} {σ : Sg} (hn : 300 ≤ n) (hv : Vw b S σ) : ∃ σ', fn_X5_live n b σ = some σ' ∧ Kp b σ σ' ∧ Rs b S (sim S 200) σ' := by
  unfold fn_X5_live
  show ∃ σ', (if ag_cpok 0 0 10 10 10 = true then fn_X5_live_b32 n b n 0 0 (ag_ar (ag_up (ag_up σ b 3 0) b 4 0) (b + 15) (va_cpy ((ag_up (ag_up σ b 3 0) b 4 0) (b + 6)) ((ag_up (ag_up σ b 3 0) b 4 0) (b + 15)) (0 : Int32).toNatClampNeg (0 : Int32).toNatClampNeg (10 : Int32).toNatClampNeg)) else none) = some σ' ∧ _
  rw [if_pos (by decide)]
  generalize h0 : ag_ar (ag_up (ag_up σ b 3 0) b 4 0) (b + 15) (va_cpy ((ag_up (ag_up σ b 3 0) b 4 0) (b + 6)) ((ag_up (ag_up σ b 3 0) b 4 0) (b + 15)) (0 : Int32).toNatClampNeg (0 : Int32).toNatClampNeg (10 : Int32).toNatClampNeg) = σ0
  have kA : Kp b σ (ag_up (ag_up σ b 3 0) b 4 0) := (kp_b (Or.inl rfl)).tr (kp_b (Or.inr rfl))
  have k0 : Kp b σ σ0 := by
    refine kA.tr ?_
    rw [← h0]
    exact ⟨fun i h3 h4 => by rw [ma_ar_n (by omega)], fun k h1 h2 h3 h4 h5 => ma_ar_n h4⟩
  have v0 := kp_Vw k0 hv
  have e3 : σ0 b 3 = 0 := by rw [← h0, ma_ar_n (by omega), ma_up_i (by decide), ma_up_s]
  have e4 : σ0 b 4 = 0 := by rw [← h0, ma_ar_n (by omega), ma_up_s]
  have e15 : ∀ p, p < 10 → σ0 (b + 15) p = σ (b + 6) p := by
    intro p hp
    rw [← h0, ma_ar_s, ma_c0, ma_c10, ma_cpy hp, ma_up_k (by omega), ma_up_k (by omega)]
  have r0 : Rs b S (sim S 0) σ0 := by
    refine ⟨⟨?_, fun k _ q => ?_⟩, ⟨?_, fun k _ t q => ?_⟩, fun p hp => ⟨?_, fun w hw t q ho => ?_⟩⟩
    · rw [e3]; exact IsB.zero _
    · cases q
    · rw [e4]; exact IsB.zero _
    · cases q
    · have hc := hv.1.2.1
      rw [e15 p (by omega)]
      obtain ⟨-, -, -, -, -, -, -, e8⟩ := hv.1.2.2 p hp
      have e8 : IsB (σ (b + 6) p) 8 (ow S p) := e8
      refine e8.congr (fun w hw => ?_)
      show ow S p w = ((sim S 0).2.2 p w).isSome
      rw [sim_K_0, decide_eq_true hp, Bool.true_and]
      cases ow S p w <;> rfl
    · rw [sim_K_0, ho, Bool.and_false, if_neg (by decide)] at q
      cases q
  obtain ⟨σ', t1, t2, t3⟩ := sp_years (n := n) hn n 0 0 σ0 (by omega) (by omega) (by omega) v0 r0
  exact ⟨σ', t1, k0.tr t2, t3⟩
