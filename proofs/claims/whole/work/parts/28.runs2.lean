theorem MW.congr {S : Sc} {W W' : Nat → Bool} {σ : Sg} (h : MW S W σ) (e : ∀ k, k < 13 → W k = W' k) : MW S W' σ := fun k hk => by rw [h k hk, e k hk]
theorem wrW_s {S : Sc} {y j k : Nat} {st : Ys} (e : k ≠ j) : wrW S y st (j + 1) k = wrW S y st j k := by
  unfold wrW
  have : decide (k < j + 1) = decide (k < j) := by
    by_cases z : k < j
    · rw [decide_eq_true z, decide_eq_true (by omega)]
    · rw [decide_eq_false z, decide_eq_false (by omega)]
  rw [this]
theorem sm_wr {n y : Nat} {S : Sc} {st : Ys} {x1 : Int32} {k90 : Int32 → Sg → Option Sg} (hy : y < 1000) : ∀ (i j : Nat) (σ : Sg), sz S < i + j → j ≤ sz S → VM S σ → MW S (wrW S y st j) σ → MO st.2.1 σ → MK st.2.2 σ → ∃ σ', fn_X7_runs_b98 n x1 (nI (sz S)) k90 i (nI y) (nI j) σ = fn_X7_runs_b217 n x1 (nI (sz S)) k90 n (nI y) 0 σ' ∧ F3 σ σ' ∧ MW S (wrW S y st (sz S)) σ' ∧ MO st.2.1 σ' ∧ MK st.2.2 σ' := by
  intro i
  induction i with
  | zero => intro j σ h1 h2; exact absurd h1 (by omega)
  | succ i ih =>
    intro j σ h1 h2 hv hW hO hK
    have hv' := hv
    obtain ⟨⟨v1, v2, v3⟩, w1, w2, w3⟩ := hv'
    rw [fn_X7_runs_b98_s]
    by_cases c : j < sz S
    · obtain ⟨a1, a2, a3, a4, a5, a6, a7, a8, -⟩ := w2 j c
      have ib : ag_ib (nI j) 13 = true := ma_ib (by omega) (by omega)
      have step : ∀ v : Int32, MW S (wrW S y st (j + 1)) (ag_up σ 66 j v) → ∃ σ', (fn_X7_runs_b98 n x1 (nI (sz S)) k90 i) (nI y) (nI (j + 1)) (ag_up σ 66 j v) = fn_X7_runs_b217 n x1 (nI (sz S)) k90 n (nI y) 0 σ' ∧ F3 σ σ' ∧ MW S (wrW S y st (sz S)) σ' ∧ MO st.2.1 σ' ∧ MK st.2.2 σ' := by
        intro v hm
        have f1 : F3 σ (ag_up σ 66 j v) := f3_up (Or.inr (Or.inr rfl))
        obtain ⟨σ', t1, t2, t3, t4, t5⟩ := ih (j + 1) (ag_up σ 66 j v) (by omega) (by omega) (f3_VM f1 hv) hm (fun k hk => by rw [ma_up_k (by decide)]; exact hO k hk) (fun p hp => by rw [ma_up_k (by decide)]; exact hK p hp)
        exact ⟨σ', t1, f1.tr t2, t3, t4, t5⟩
      have skip : (decide (yr S j = y) && wok S j && (st.2.2 (wr S j) (wd S j)).isSome) = false → ∃ σ', fn_X7_runs_b171 n x1 (nI (sz S)) k90 (fn_X7_runs_b98 n x1 (nI (sz S)) k90 i) (nI y) (nI j) σ = fn_X7_runs_b217 n x1 (nI (sz S)) k90 n (nI y) 0 σ' ∧ F3 σ σ' ∧ MW S (wrW S y st (sz S)) σ' ∧ MO st.2.1 σ' ∧ MK st.2.2 σ' := by
        intro q
        unfold fn_X7_runs_b171 fn_X7_runs_b172 fn_X7_runs_b207
        rw [if_pos rfl, if_pos ib, if_pos ib, ma_cl (show j < 2 ^ 31 by omega), nI_1]
        refine step _ (fun k hk => ?_)
        have hwk : wrW S y st (j + 1) k = wrW S y st j k := by
          by_cases e : k = j
          · subst e
            unfold wrW
            rw [decide_eq_true (show k < k + 1 by omega), decide_eq_false (Nat.lt_irrefl k), Bool.true_and, q]
            rfl
          · exact wrW_s e
        rw [hwk]
        by_cases e : k = j
        · subst e
          rw [ma_up_s]
          exact hW k hk
        · rw [ma_up_i e]
          exact hW k hk
      rw [if_neg (nI_ge c (by omega)), if_pos ib, ma_cl (show j < 2 ^ 31 by omega), a5]
      by_cases c1 : yr S j = y
      · rw [if_pos (by rw [c1]), sm_isIn _ (by omega), Option.bind_some, w3 j c]
        by_cases c2 : ac S j = true
        · rw [c2, bI_t, if_neg (by decide), if_pos ib, a1, sm_lives hv (by omega) (by omega), Option.bind_some]
          by_cases c3 : lvs S (wr S j) y = true
          · have l3 := lvs_iff.mp c3
            rw [c3, bI_t, if_neg (by decide), if_pos ib, if_pos (ma_ib (by omega) (by omega)), if_pos ib, ma_cl (show wr S j < 2 ^ 31 by omega), a7, sm_isIn _ (by omega), Option.bind_some, (hK (wr S j) (by omega)).at a8 (by omega)]
            have hwok : wok S j = true := by unfold wok; rw [c2, c1, c3]; rfl
            by_cases c4 : (st.2.2 (wr S j) (wd S j)).isSome = true
            · rw [c4, bI_t, if_neg (by decide)]
              unfold fn_X7_runs_b172 fn_X7_runs_b207
              rw [if_neg (by decide), if_pos ib, ma_cl (show j < 2 ^ 31 by omega), a1, sm_tells hv l3.1 l3.2.1 (by omega), Option.bind_some, if_pos ib, nI_1]
              refine step _ (fun k hk => ?_)
              by_cases e : k = j
              · subst e
                have hwk : wrW S y st (k + 1) k = true := by
                  unfold wrW
                  rw [decide_eq_true (show k < k + 1 by omega), decide_eq_true c1, hwok, c4]
                  simp
                rw [ma_up_s, hwk, if_pos rfl, c1]
              · rw [ma_up_i e, wrW_s e]
                exact hW k hk
            · simp only [Bool.not_eq_true] at c4
              rw [c4, bI_f, if_pos rfl]
              exact skip (by rw [c4, Bool.and_false])
          · simp only [Bool.not_eq_true] at c3
            rw [c3, bI_f, if_pos rfl]
            exact skip (by unfold wok; rw [c1, c3]; simp)
        · simp only [Bool.not_eq_true] at c2
          rw [c2, bI_f, if_pos rfl]
          exact skip (by unfold wok; rw [c2]; simp)
      · rw [if_neg (fun q => c1 ((nI_eq (by omega) (by omega)).mp q))]
        exact skip (by rw [decide_eq_false c1]; rfl)
    · rw [if_pos (nI_le (by omega) (by omega))]
      have e : j = sz S := by omega
      subst e
      exact ⟨σ, rfl, F3.rf σ, hW, hO, hK⟩
theorem sm_op {n y : Nat} {S : Sc} {st : Ys} {x1 : Int32} {k90 : Int32 → Sg → Option Sg} (hn : 20 ≤ n) (hy : y < 1000) (hW : ∀ k, st.1 k = true → lvs S (wr S k) (yr S k) = true) (hB : ∀ k t, st.2.1 k = some t → t < 1000) : ∀ (i j : Nat) (σ : Sg), sz S < i + j → j ≤ sz S → VM S σ → Rm S (opns S y j st) σ → ∃ σ', fn_X7_runs_b217 n x1 (nI (sz S)) k90 i (nI y) (nI j) σ = k90 (nI (y + 1)) σ' ∧ F3 σ σ' ∧ Rm S (opns S y (sz S) st) σ' := by
  intro i
  induction i with
  | zero => intro j σ h1 h2; exact absurd h1 (by omega)
  | succ i ih =>
    intro j σ h1 h2 hv h
    have hs := hv.2.1
    rw [fn_X7_runs_b217_s]
    by_cases c : j < sz S
    · rw [if_neg (nI_ge c (by omega))]
      obtain ⟨σ1, r1, r2, r3⟩ := sm_opens hn hv h c hy (fun q => hW j (by rw [← opns_W S y j st]; exact q)) (fun t q => by
        rcases (opns_le S y j st).2.2.1 j t q with z | z
        · exact hB j t z
        · omega)
      rw [r1, Option.bind_some, nI_1]
      obtain ⟨σ2, t1, t2, t3⟩ := ih (j + 1) σ1 (by omega) (by omega) (f3_VM r2 hv) r3
      exact ⟨σ2, t1, r2.tr t2, t3⟩
    · rw [if_pos (nI_le (by omega) (by omega)), nI_1]
      have e : j = sz S := by omega
      subst e
      exact ⟨σ, rfl, F3.rf σ, h⟩
theorem sm_years {n last : Nat} {S : Sc} (hn : 300 ≤ n) (hl : last < 500) : ∀ (i y : Nat) (σ : Sg), last + 1 < i + y → y ≤ last + 1 → VM S σ → Rm S (sim S y) σ → ∃ σ', fn_X7_runs_b90 n (nI last) (nI (sz S)) i (nI y) σ = some σ' ∧ F3 σ σ' ∧ Rm S (sim S (last + 1)) σ' := by
  intro i
  induction i with
  | zero => intro y σ h1 h2; exact absurd h1 (by omega)
  | succ i ih =>
    intro y σ h1 h2 hv h
    have hs := hv.2.1
    rw [fn_X7_runs_b90_s]
    by_cases c : y ≤ last
    · rw [if_neg (nI_nlt c (by omega))]
      have e0 : wrW S y (sim S y) 0 = (sim S y).1 := by
        funext k
        unfold wrW
        rw [decide_eq_false (Nat.not_lt_zero k), Bool.false_and, Bool.false_and, Bool.false_and, Bool.or_false]
      obtain ⟨σ1, w1, w2, w3, w4, w5⟩ := sm_wr (n := n) (st := sim S y) (x1 := nI last) (k90 := fn_X7_runs_b90 n (nI last) (nI (sz S)) i) (show y < 1000 by omega) n 0 σ (by omega) (by omega) hv (by rw [e0]; exact h.1) h.2.1 h.2.2
      have w1 : fn_X7_runs_b98 n (nI last) (nI (sz S)) (fn_X7_runs_b90 n (nI last) (nI (sz S)) i) n (nI y) 0 σ = _ := w1
      rw [w1]
      have v1 := f3_VM w2 hv
      have r1 : Rm S (wrt S y (sim S y)) σ1 := ⟨w3, w4, w5⟩
      obtain ⟨σ2, o1, o2, o3⟩ := sm_op (n := n) (st := wrt S y (sim S y)) (x1 := nI last) (k90 := fn_X7_runs_b90 n (nI last) (nI (sz S)) i) (show 20 ≤ n by omega) (show y < 1000 by omega) (fun k hk => by
          have hk' : (sim S (y + 1)).1 k = true := by
            show (opns S y (sz S) (wrt S y (sim S y))).1 k = true
            rw [opns_W]; exact hk
          obtain ⟨-, q2, q3⟩ := sim_W_ok S (y + 1) hk'
          unfold wok at q2
          simp only [Bool.and_eq_true] at q2
          exact q2.2) (fun k t q => by have := sim_O_lt S (y := y) (k := k) (t := t) q; omega) n 0 σ1 (by omega) (by omega) v1 r1
      have o1 : fn_X7_runs_b217 n (nI last) (nI (sz S)) (fn_X7_runs_b90 n (nI last) (nI (sz S)) i) n (nI y) 0 σ1 = _ := o1
      rw [o1]
      obtain ⟨σ3, t1, t2, t3⟩ := ih (y + 1) σ2 (by omega) (by omega) (f3_VM o2 v1) o3
      exact ⟨σ3, t1, (w2.tr o2).tr t2, t3⟩
    · rw [if_pos (nI_lt (by omega) (by omega))]
      have e : y = last + 1 := by omega
      subst e
      exact ⟨σ, rfl, F3.rf σ, h⟩
theorem sm_ini2 {n : Nat} {x1 x2 : Int32} : ∀ (i j : Nat) (σ : Sg), 13 < i + j → j ≤ 13 → (∀ k, k < j → σ 65 k = -1 ∧ σ 66 k = -1) → ∃ σ', fn_X7_runs_b62 n x1 x2 i (nI j) σ = fn_X7_runs_b90 n x1 x2 n 0 σ' ∧ F3 σ σ' ∧ σ' 64 = σ 64 ∧ ∀ k, k < 13 → σ' 65 k = -1 ∧ σ' 66 k = -1 := by
  intro i
  induction i with
  | zero => intro j σ h1 h2; exact absurd h1 (by omega)
  | succ i ih =>
    intro j σ h1 h2 h
    rw [fn_X7_runs_b62_s, show (13 : Int32) = nI 13 from rfl]
    by_cases c : j < 13
    · have ib : ag_ib (nI j) 13 = true := ma_ib (by omega) (by omega)
      rw [if_neg (nI_ge c (by omega)), if_pos ib, if_pos ib, ma_cl (by omega), nI_1]
      unfold ag_sg
      obtain ⟨σ', t1, t2, t3, t4⟩ := ih (j + 1) (ag_up (ag_up σ 65 j (-1)) 66 j (-1)) (by omega) (by omega) (fun k hk => by
        by_cases e : k = j
        · subst e
          exact ⟨by rw [ma_up_k (by decide), ma_up_s], by rw [ma_up_s]⟩
        · rw [ma_up_i e, ma_up_i e, ma_up_i e, ma_up_i e]
          exact h k (by omega))
      refine ⟨σ', t1, F3.tr (F3.tr (f3_up (Or.inr (Or.inl rfl))) (f3_up (Or.inr (Or.inr rfl)))) t2, ?_, t4⟩
      rw [t3, ag_up_ne (by decide), ag_up_ne (by decide)]
    · rw [if_pos (nI_le (by omega) (by omega))]
      have e : j = 13 := by omega
      subst e
      exact ⟨σ, rfl, F3.rf σ, rfl, h⟩
theorem sm_ini1 {n : Nat} {S : Sc} {x1 x2 : Int32} : ∀ (i j : Nat) (σ : Sg), 10 < i + j → j ≤ 10 → VM S σ → (∀ p, p < j → IsB (σ 64 p) 8 (fun w => ((sim S 0).2.2 p w).isSome)) → ∃ σ', fn_X7_runs_b2 n x1 x2 i (nI j) σ = fn_X7_runs_b62 n x1 x2 n 0 σ' ∧ F3 σ σ' ∧ MK (sim S 0).2.2 σ' := by
  intro i
  induction i with
  | zero => intro j σ h1 h2; exact absurd h1 (by omega)
  | succ i ih =>
    intro j σ h1 h2 hv h
    have hv' := hv
    obtain ⟨⟨v1, v2, v3⟩, w1, w2, w3⟩ := hv'
    rw [fn_X7_runs_b2_s, show (10 : Int32) = nI 10 from rfl, v1]
    by_cases c : j < 10
    · have ib : ag_ib (nI j) 10 = true := ma_ib (by omega) (by omega)
      have step : ∀ v : Int32, IsB v 8 (fun w => ((sim S 0).2.2 j w).isSome) → ∃ σ', (fn_X7_runs_b2 n x1 x2 i) (nI (j + 1)) (ag_up σ 64 j v) = fn_X7_runs_b62 n x1 x2 n 0 σ' ∧ F3 σ σ' ∧ MK (sim S 0).2.2 σ' := by
        intro v hm
        have f1 : F3 σ (ag_up σ 64 j v) := f3_up (Or.inl rfl)
        obtain ⟨σ', t1, t2, t3⟩ := ih (j + 1) (ag_up σ 64 j v) (by omega) (by omega) (f3_VM f1 hv) (fun p hp => by
          by_cases e : p = j
          · subst e; rw [ma_up_s]; exact hm
          · rw [ma_up_i e]; exact h p (by omega))
        exact ⟨σ', t1, f1.tr t2, t3⟩
      rw [if_neg (nI_ge c (by omega))]
      unfold fn_X7_runs_b48 fn_X7_runs_b53
      by_cases c2 : j < cn S
      · obtain ⟨-, -, -, -, -, e6⟩ := v3 j c2
        have hm : IsB (σ 58 j ||| (if bt (σ 53 17) j = true then 1 <<< (σ 53 18 &&& 31) else 0)) 8 (fun w => ((sim S 0).2.2 j w).isSome) := e6.congr (fun w hw => by
          rw [sim_K_0, decide_eq_true c2, Bool.true_and]
          cases ow S j w <;> rfl)
        rw [if_neg (nI_ge c2 (by omega)), if_pos ib, sm_isIn _ (by omega), Option.bind_some, if_pos ib, if_pos ib, ma_cl (by omega), nI_1]
        by_cases c3 : bt (σ 53 17) j = true
        · rw [if_pos c3] at hm
          rw [c3, bI_t, if_neg (by decide)]
          exact step _ hm
        · rw [if_neg c3] at hm
          simp only [Bool.not_eq_true] at c3
          rw [c3, bI_f, if_pos rfl]
          exact step _ hm
      · rw [if_pos (nI_le (by omega) (by omega)), if_pos ib, ma_cl (by omega), nI_1]
        refine step _ ((IsB.zero 8).congr (fun w hw => ?_))
        rw [sim_K_0, decide_eq_false c2]
        rfl
    · rw [if_pos (nI_le (by omega) (by omega))]
      have e : j = 10 := by omega
      subst e
      exact ⟨σ, rfl, F3.rf σ, h⟩
/-- runs(last, many): the reference runs the years -/
theorem sm_runs {n last : Nat} {S : Sc} {σ : Sg} (hn : 600 ≤ n) (hl : last < 500) (hv : VM S σ) : ∃ σ', fn_X7_runs n (nI last) (nI (sz S)) σ = some σ' ∧ F3 σ σ' ∧ Rm S (sim S (last + 1)) σ' := by
  obtain ⟨σ1, a1, a2, a3⟩ := sm_ini1 (n := n) (x1 := nI last) (x2 := nI (sz S)) n 0 σ (by omega) (by omega) hv (fun p hp => absurd hp (Nat.not_lt_zero p))
  obtain ⟨σ2, b1, b2, b3, b4⟩ := sm_ini2 (n := n) (x1 := nI last) (x2 := nI (sz S)) n 0 σ1 (by omega) (by omega) (fun k hk => absurd hk (Nat.not_lt_zero k))
  have v2 := f3_VM (a2.tr b2) hv
  obtain ⟨σ3, c1, c2, c3⟩ := sm_years (n := n) (show 300 ≤ n by omega) hl n 0 σ2 (by omega) (by omega) v2 ⟨fun k hk => (b4 k hk).2, fun k hk => (b4 k hk).1, fun p hp => by rw [b3]; exact a3 p hp⟩
  refine ⟨σ3, ?_, (a2.tr b2).tr c2, c3⟩
  show fn_X7_runs_b2 n (nI last) (nI (sz S)) n (nI 0) σ = _
  rw [a1]
  show fn_X7_runs_b62 n (nI last) (nI (sz S)) n (nI 0) σ1 = _
  rw [b1]
  exact c1
