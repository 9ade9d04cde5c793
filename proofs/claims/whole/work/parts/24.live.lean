/-! ===== the class lives years: its steps are the mathematics' steps ===== -/
theorem sp_waiting {b k : Nat} {S : Sc} {st : Ys} {σ : Sg} (hz : sz S ≤ 13) (h : Rs b S st σ) (hk : k < sz S) : fn_X5_isWaiting b (nI k) σ = some (bI (st.1 k && (st.2.1 k).isNone)) := by
  unfold fn_X5_isWaiting
  have hb := (h.1.1.andn h.2.1.1).at hk (by omega)
  by_cases c : (st.1 k && (st.2.1 k).isNone) = true
  · rw [if_pos, c, bI_t]
    rw [ma_b1 _ (by omega), hb, ← c]
    cases st.2.1 k <;> rfl
  · rw [if_neg]
    · simp only [Bool.not_eq_true] at c
      rw [c, bI_f]
    · rw [ma_b1 _ (by omega), hb]
      intro q
      apply c
      rw [← q]
      cases st.2.1 k <;> rfl
theorem sp_needed {b k : Nat} {S : Sc} {st : Ys} {σ : Sg} (hv : Vw b S σ) (h : RK b S st.2.2 σ) (hk : k < sz S) (hr : rd S k < cn S) : fn_X5_hasNeeded b (nI k) σ = some (bI (has st S k)) := by
  obtain ⟨hF, ⟨-, hz, hL⟩, -⟩ := hv
  obtain ⟨-, -, a3, a4, -, -, -, -, a9, a10⟩ := hL k hk
  have a3 : σ (b + 9) k = nI (rd S k) := a3
  have a9 : σ (b + 12) k = oI (nd S k) := a9
  have ib : ag_ib (nI k) 13 = true := ma_ib (by omega) (by omega)
  unfold fn_X5_hasNeeded fn_X5_hasNeeded_b37 has
  rw [if_pos ib, ma_cl (by omega), a9, a3]
  cases e : nd S k with
  | none =>
    rw [if_pos (show oI none = -1 from rfl)]
    rfl
  | some w =>
    have hw := a10 w e
    rw [show oI (some w) = nI w from rfl, if_neg (ma_m1 (by omega)), if_pos ib, if_pos (ma_ib (by omega) (by omega)), ma_cl (by omega)]
    have hb := (h (rd S k) hr).1.at hw (by omega)
    show (if _ then _ else _) = some (bI ((st.2.2 (rd S k) w).isSome))
    by_cases c : (st.2.2 (rd S k) w).isSome = true
    · rw [if_pos, c, bI_t]
      rw [ma_b1 _ (by omega), hb]
      exact c
    · rw [if_neg]
      · simp only [Bool.not_eq_true] at c
        rw [c, bI_f]
      · rw [ma_b1 _ (by omega), hb]
        exact c
/-- one more learns a word -/
def upK (K : Nat → Nat → Option Nat) (p w y : Nat) : Nat → Nat → Option Nat := fun q v => if q = p ∧ v = w ∧ K q v = none then some y else K q v
theorem sp_grant {b p w y : Nat} {S : Sc} {K : Nat → Nat → Option Nat} {σ : Sg} (hc : cn S ≤ 10) (h : RK b S K σ) (hp : p < cn S) (hw : w < 8) : ∃ σ', fn_X5_grant b (nI p) (nI w) (nI y) σ = some σ' ∧ RK b S (upK K p w y) σ' ∧ (∀ k, k ≠ b + 15 → k ≠ b + 16 → σ' k = σ k) := by
  have ib : ag_ib (nI p) 10 = true := ma_ib (by omega) (by omega)
  have hb := (h p hp).1.at hw (by omega)
  unfold fn_X5_grant
  rw [if_pos ib, ma_cl (by omega)]
  by_cases c : K p w = none
  · rw [if_pos (by rw [ma_b0 _ (by omega), hb, c]; rfl), if_pos ib, if_pos ib]
    have e8 : nI p * 8 + nI w = nI (p * 8 + w) := by rw [nI_lit8, pk_mul, nI_add]
    rw [e8, if_pos (ma_ib (by omega) (by omega)), ma_cl (by omega)]
    refine ⟨_, rfl, ?_, ?_⟩
    · intro q hq
      obtain ⟨h1, h2⟩ := h q hq
      constructor
      · rw [ma_up_k (by omega)]
        by_cases e : q = p
        · subst e
          rw [ma_up_s]
          refine (h1.set hw (by omega)).congr (fun v hv => ?_)
          show ((K q v).isSome || decide (v = w)) = (upK K q w y q v).isSome
          unfold upK
          by_cases e : v = w
          · subst e
            rw [if_pos ⟨rfl, rfl, c⟩, decide_eq_true rfl, Bool.or_true]; rfl
          · rw [if_neg (fun z => e z.2.1), decide_eq_false e, Bool.or_false]
        · rw [ma_up_i e]
          refine h1.congr (fun v hv => ?_)
          unfold upK
          rw [if_neg (fun z => e z.1)]
      · intro v hv t ht ho
        unfold upK at ht
        by_cases e : q = p ∧ v = w ∧ K q v = none
        · rw [if_pos e] at ht
          cases ht
          obtain ⟨rfl, rfl, -⟩ := e
          exact ma_up_s _ _ _ _
        · rw [if_neg e] at ht
          have hne : ¬ (q = p ∧ v = w) := fun z => e ⟨z.1, z.2, by rw [z.1, z.2]; exact c⟩
          rw [ma_up_i (by omega), ma_up_k (by omega)]
          exact h2 v hv t ht ho
    · intro k h15 h16
      rw [ag_up_ne h16, ag_up_ne h15]
  · rw [if_neg (by rw [ma_b0 _ (by omega), hb]; cases e : K p w with | none => exact absurd e c | some t => simp)]
    refine ⟨σ, rfl, ?_, fun _ _ _ => rfl⟩
    have e : upK K p w y = K := by
      funext q v
      unfold upK
      rw [if_neg (fun z => c (by rw [← z.1, ← z.2.1]; exact z.2.2))]
    rw [e]
    exact h
theorem RK.congr {b : Nat} {S : Sc} {K K' : Nat → Nat → Option Nat} {σ : Sg} (h : RK b S K σ) (e : ∀ p, p < cn S → ∀ w, w < 8 → K p w = K' p w) : RK b S K' σ := by
  intro p hp
  obtain ⟨h1, h2⟩ := h p hp
  refine ⟨h1.congr (fun w hw => by rw [e p hp w hw]), fun w hw t ht ho => h2 w hw t (by rw [e p hp w hw]; exact ht) ho⟩
/-- only who knows what changes -/
def F2 (b : Nat) (σ σ' : Sg) : Prop := ∀ k, k ≠ b + 15 → k ≠ b + 16 → σ' k = σ k
theorem F2.rf (b : Nat) (σ : Sg) : F2 b σ σ := fun _ _ _ => rfl
theorem F2.tr {b : Nat} {σ σ' σ'' : Sg} (h : F2 b σ σ') (h2 : F2 b σ' σ'') : F2 b σ σ'' := fun k a c => (h2 k a c).trans (h k a c)
theorem F2.kp {b : Nat} {σ σ' : Sg} (h : F2 b σ σ') : Kp b σ σ' := ⟨fun i _ _ => by rw [h b (by omega) (by omega)], fun k _ _ _ h4 h5 => h k h4 h5⟩
theorem f2_RW {b : Nat} {S : Sc} {W : Nat → Bool} {σ σ' : Sg} (h : F2 b σ σ') (q : RW b S W σ) : RW b S W σ' := by
  unfold RW at *
  rw [h b (by omega) (by omega), h (b + 14) (by omega) (by omega)]
  exact q
theorem f2_RO {b : Nat} {S : Sc} {O : Nat → Option Nat} {σ σ' : Sg} (h : F2 b σ σ') (q : RO b S O σ) : RO b S O σ' := by
  unfold RO at *
  rw [h b (by omega) (by omega), h (b + 13) (by omega) (by omega)]
  exact q
/-- an elder's reading out, to the first j -/
def elK (S : Sc) (k y : Nat) (K : Nat → Nat → Option Nat) (j : Nat) : Nat → Nat → Option Nat := fun p w => if (decide (w = wd S k) && decide (p < j) && decide (p ≠ rd S k) && lvs S p y && (K p w).isNone) = true then some y else K p w
theorem elK_0 (S : Sc) (k y : Nat) (K : Nat → Nat → Option Nat) : elK S k y K 0 = K := by
  funext p w
  unfold elK
  rw [if_neg (by simp)]
theorem sp_elder {n b k y : Nat} {S : Sc} {K : Nat → Nat → Option Nat} (hk : k < sz S) (hy : y < 200) : ∀ (i j : Nat) (σ : Sg), cn S < i + j → j ≤ cn S → Vw b S σ → RK b S (elK S k y K j) σ → ∃ σ', fn_X5_openOne_b61 n b (nI k) (nI y) i (nI (rd S k)) (nI j) σ = some σ' ∧ RK b S (elK S k y K (cn S)) σ' ∧ F2 b σ σ' := by
  intro i
  induction i with
  | zero => intro j σ h1 h2; exact absurd h1 (by omega)
  | succ i ih =>
    intro j σ h1 h2 hv hK
    have hv' := hv
    obtain ⟨hF, ⟨-, hz, hL⟩, -⟩ := hv'
    obtain ⟨a1, a2, a3, a4, a5, a6, a7, a8, -⟩ := hL k hk
    have a7 : σ (b + 11) k = nI (wd S k) := a7
    have hcn := hF.2.1
    have hcn1 : σ (b + 1) 0 = nI (cn S) := hF.1
    rw [fn_X5_openOne_b61_s, hcn1]
    unfold fn_X5_openOne_b108
    by_cases c : j < cn S
    · rw [if_neg (nI_ge c (by omega)), nI_1]
      have same : (∀ w, w < 8 → elK S k y K (j + 1) j w = elK S k y K j j w) → RK b S (elK S k y K (j + 1)) σ := by
        intro q
        refine hK.congr (fun p hp w hw => ?_)
        by_cases e : p = j
        · subst e; exact (q w hw).symm
        · unfold elK
          have : decide (p < j + 1) = decide (p < j) := by
            by_cases z : p < j
            · rw [decide_eq_true z, decide_eq_true (by omega)]
            · rw [decide_eq_false z, decide_eq_false (by omega)]
          rw [this]
      by_cases e : j = rd S k
      · rw [if_pos (by rw [e])]
        exact ih (j + 1) σ (by omega) (by omega) hv (same (fun w hw => by unfold elK; rw [decide_eq_false (show ¬ j ≠ rd S k by omega)]; simp))
      · rw [if_neg (fun q => e ((nI_eq (by omega) (by omega)).mp q)), sp_lives hF (by omega) (by omega), Option.bind_some]
        by_cases l : lvs S j y = true
        · rw [l, bI_t, if_neg (by decide), if_pos (ma_ib (by omega) (by omega)), ma_cl (by omega), a7]
          obtain ⟨σ', g1, g2, g3⟩ := sp_grant (y := y) hcn hK c a8
          rw [g1, Option.bind_some]
          have hF2 : F2 b σ σ' := g3
          obtain ⟨σ2, r1, r2, r3⟩ := ih (j + 1) σ' (by omega) (by omega) (kp_Vw hF2.kp hv) (g2.congr (fun p hp w hw => by
            unfold upK elK
            by_cases e1 : p = j
            · subst e1
              rw [decide_eq_true (show p < p + 1 by omega), decide_eq_false (Nat.lt_irrefl p), decide_eq_true e, l]
              by_cases e2 : w = wd S k
              · subst e2
                simp only [decide_true, Bool.and_false, Bool.false_and, Bool.true_and, Bool.and_true, if_neg (show ¬ (false = true) by decide)]
                cases K p (wd S k) <;> simp
              · rw [decide_eq_false e2]
                simp [e2]
            · have : decide (p < j + 1) = decide (p < j) := by
                by_cases z : p < j
                · rw [decide_eq_true z, decide_eq_true (by omega)]
                · rw [decide_eq_false z, decide_eq_false (by omega)]
              rw [this, if_neg (fun z => e1 z.1)]))
          exact ⟨σ2, r1, r2, hF2.tr r3⟩
        · simp only [Bool.not_eq_true] at l
          rw [l, bI_f, if_pos rfl]
          exact ih (j + 1) σ (by omega) (by omega) hv (same (fun w hw => by unfold elK; rw [l]; simp))
    · rw [if_pos (nI_le (by omega) (by omega))]
      have : j = cn S := by omega
      subst this
      exact ⟨σ, rfl, hK, F2.rf b σ⟩
theorem sp_openOne {n b k y : Nat} {S : Sc} {st : Ys} {σ : Sg} (hn : 20 ≤ n) (hv : Vw b S σ) (h : Rs b S st σ) (hk : k < sz S) (hy : y < 200) (hr : rd S k < cn S) (ho : opc S y k st = true) : ∃ σ', fn_X5_openOne n b (nI k) (nI y) σ = some σ' ∧ Kp b σ σ' ∧ Rs b S (opn S y k st) σ' := by
  have hv' := hv
  obtain ⟨hF, ⟨-, hz, hL⟩, -⟩ := hv'
  obtain ⟨a1, a2, a3, a4, a5, a6, a7, a8, -⟩ := hL k hk
  have a3 : σ (b + 9) k = nI (rd S k) := a3
  have a7 : σ (b + 11) k = nI (wd S k) := a7
  obtain ⟨-, -, -, -, e5, -⟩ := hF.2.2 (rd S k) hr
  have hcn := hF.2.1
  have e5 : σ (b + 4) (rd S k) = 1 ↔ el S (rd S k) = true := e5
  have ib : ag_ib (nI k) 13 = true := ma_ib (by omega) (by omega)
  have eo : opn S y k st = (st.1, fun i => if i = k then some y else st.2.1 i, fun p w => if (decide (w = wd S k) && hrs S k y p && (st.2.2 p w).isNone) = true then some y else st.2.2 p w) := by
    unfold opn
    rw [if_pos ho]
  unfold fn_X5_openOne
  rw [if_pos ib, if_pos ib, ma_cl (by omega), a3]
  unfold ag_sg
  generalize h1 : ag_up (ag_up σ b 4 (σ b 4 ||| 1 <<< (nI k &&& 31))) (b + 13) k (nI y) = σ1
  have k1 : Kp b σ σ1 := by
    rw [← h1]
    exact (kp_b (Or.inr rfl)).tr (kp_c (Or.inl rfl))
  have q4 : σ1 (b + 4) = σ (b + 4) := k1.2 (b + 4) (by omega) (by omega) (by omega) (by omega) (by omega)
  have q11 : σ1 (b + 11) = σ (b + 11) := k1.2 (b + 11) (by omega) (by omega) (by omega) (by omega) (by omega)
  have rO : RO b S (fun i => if i = k then some y else st.2.1 i) σ1 := by
    constructor
    · rw [← h1, ma_up_k (by omega), ma_up_s]
      refine (h.2.1.1.set hk (by omega)).congr (fun i hi => ?_)
      show ((st.2.1 i).isSome || decide (i = k)) = (if i = k then some y else st.2.1 i).isSome
      by_cases e : i = k
      · rw [if_pos e, decide_eq_true e, Bool.or_true]; rfl
      · rw [if_neg e, decide_eq_false e, Bool.or_false]
    · intro i hi t ht
      have ht' : (if i = k then some y else st.2.1 i) = some t := ht
      rw [← h1]
      by_cases e : i = k
      · rw [if_pos e] at ht'
        cases ht'
        rw [e]
        exact ma_up_s _ _ _ _
      · rw [if_neg e] at ht'
        rw [ma_up_i e, ma_up_k (by omega)]
        exact h.2.1.2 i hi t ht'
  have rW : RW b S st.1 σ1 := by
    unfold RW
    rw [← h1, ma_up_k (by omega), ma_up_i (by decide)]
    refine ⟨h.1.1, fun i hi hw => ?_⟩
    rw [ma_up_k (by omega), ma_up_k (by omega)]
    exact h.1.2 i hi hw
  have rK : RK b S st.2.2 σ1 := by
    intro p hp
    rw [← h1]
    refine ⟨?_, fun w hw t ht hh => ?_⟩
    · rw [ma_up_k (by omega), ma_up_k (by omega)]
      exact (h.2.2 p hp).1
    · rw [ma_up_k (by omega), ma_up_k (by omega)]
      exact (h.2.2 p hp).2 w hw t ht hh
  have v1 := kp_Vw k1 hv
  dsimp only
  rw [if_pos (ma_ib a4 (by omega)), ma_cl (by omega), q4, q11, a7]
  by_cases c : el S (rd S k) = true
  · rw [if_pos (e5.mpr c)]
    obtain ⟨σ', r1, r2, r3⟩ := sp_elder (n := n) (K := st.2.2) hk hy n 0 σ1 (by omega) (by omega) v1 (by rw [elK_0]; exact rK)
    rw [nI_0] at r1
    refine ⟨σ', r1, k1.tr r3.kp, ?_⟩
    rw [eo]
    refine ⟨f2_RW r3 rW, f2_RO r3 rO, r2.congr (fun p hp w hw => ?_)⟩
    show elK S k y st.2.2 (cn S) p w = if _ then _ else _
    unfold elK hrs
    rw [if_pos c, decide_eq_true hp, Bool.and_true, ← Bool.and_assoc (decide (w = wd S k))]
  · rw [if_neg (fun q => c (e5.mp q)), if_pos ib]
    obtain ⟨σ', g1, g2, g3⟩ := sp_grant (y := y) hcn rK hr a8
    rw [g1, Option.bind_some]
    have hF2 : F2 b σ1 σ' := g3
    refine ⟨σ', rfl, k1.tr hF2.kp, ?_⟩
    rw [eo]
    refine ⟨f2_RW hF2 rW, f2_RO hF2 rO, g2.congr (fun p hp w hw => ?_)⟩
    show upK st.2.2 (rd S k) (wd S k) y p w = if _ then _ else _
    unfold upK hrs
    rw [if_neg c]
    by_cases e1 : p = rd S k
    · by_cases e2 : w = wd S k
      · rw [decide_eq_true e1, decide_eq_true e2, Bool.true_and, Bool.true_and]
        cases e3 : st.2.2 p w with
        | none => rw [if_pos ⟨e1, e2, rfl⟩]; rfl
        | some t => rw [if_neg (fun z => by cases z.2.2), if_neg (by simp)]
      · rw [if_neg (fun z => e2 z.2.1), decide_eq_false e2, Bool.false_and, Bool.false_and, if_neg (by decide)]
    · rw [if_neg (fun z => e1 z.1), decide_eq_false e1, Bool.and_false, Bool.false_and, if_neg (by decide)]
/-! the letters of a year, opened one by one -/
theorem opns_stop {S : Sc} {y j : Nat} {st : Ys} : ∀ (d : Nat), (∀ k, j ≤ k → k < j + d → opc S y k (opns S y j st) = false) → opns S y (j + d) st = opns S y j st
  | 0, _ => rfl
  | d + 1, h => by
    have i1 := opns_stop d (fun k a c => h k a (by omega))
    show opn S y (j + d) (opns S y (j + d) st) = _
    rw [i1]
    unfold opn
    rw [if_neg (by rw [h (j + d) (by omega) (by omega)]; decide)]
theorem sp_openThose {n b y : Nat} {S : Sc} {st : Ys} (hn : 20 ≤ n) (hy : y < 200) (hW : ∀ k, st.1 k = true → lvs S (wr S k) (yr S k) = true ∧ yr S k ≤ y) : ∀ (i j : Nat) (σ : Sg), sz S < i + j → j ≤ sz S → Vw b S σ → Rs b S (opns S y j st) σ → ∃ σ', fn_X5_openThoseDue_b2 n b (nI y) i (nI j) σ = some σ' ∧ Kp b σ σ' ∧ Rs b S (opns S y (sz S) st) σ' := by
  intro i
  induction i with
  | zero => intro j σ h1 h2; exact absurd h1 (by omega)
  | succ i ih =>
    intro j σ h1 h2 hv h
    have hv' := hv
    obtain ⟨hF, ⟨hz1, hz, hL⟩, -⟩ := hv'
    have hz1 : σ (b + 7) 0 = nI (sz S) := hz1
    have hWj : (opns S y j st).1 = st.1 := opns_W S y j st
    rw [fn_X5_openThoseDue_b2_s, hz1]
    unfold fn_X5_openThoseDue_b84
    by_cases c : j < sz S
    · rw [if_neg (nI_ge c (by omega))]
      have hb := h.1.1.andn h.2.1.1
      by_cases z : (σ b 3 &&& (σ b 4 ^^^ -1)) >>> (nI j &&& 31) = 0
      · rw [if_pos z]
        refine ⟨σ, rfl, Kp.rf b σ, ?_⟩
        have e : opns S y (j + (sz S - j)) st = opns S y j st := opns_stop (sz S - j) (fun k a1 a2 => by
          have q := (hb.shr0 (by omega) (by omega)).mp z k a1 (by omega)
          unfold opc
          cases e1 : (opns S y j st).1 k with
          | false => rfl
          | true =>
            rw [e1] at q
            cases e2 : (opns S y j st).2.1 k with
            | none => rw [e2] at q; cases q
            | some t => simp)
        rw [show j + (sz S - j) = sz S by omega] at e
        rw [e]
        exact h
      · rw [if_neg z, sp_waiting hz h c, Option.bind_some, nI_1]
        have next : opc S y j (opns S y j st) = false → Rs b S (opns S y (j + 1) st) σ := by
          intro q
          show Rs b S (opn S y j (opns S y j st)) σ
          unfold opn
          rw [if_neg (by rw [q]; decide)]
          exact h
        by_cases w : ((opns S y j st).1 j && ((opns S y j st).2.1 j).isNone) = true
        · have w' := w
          simp only [Bool.and_eq_true] at w'
          have hwj := hW j (by rw [← hWj]; exact w'.1)
          obtain ⟨a1, a2, a3, a4, a5, a6, a7, a8, -⟩ := hL j c
          have a3 : σ (b + 9) j = nI (rd S j) := a3
          have hdue := h.1.2 j c w'.1
          have hd200 : dueY S j < 2 ^ 31 := by
            unfold dueY
            split
            · next q =>
              simp only [Bool.and_eq_true] at q
              have q2 := lvs_iff.mp q.2
              have := (hF.2.2 (rd S j) q2.1).2.1
              have := (hF.2.2 (rd S j) q2.1).2.2.2.1
              omega
            · omega
          rw [w, bI_t, if_neg (by decide), if_pos (ma_ib (by omega) (by omega)), ma_cl (by omega), hdue, a3]
          by_cases d : dueY S j ≤ y
          · rw [if_neg (nI_nlt d (by omega)), if_pos (ma_ib (by omega) (by omega)), sp_lives hF (by omega) (by omega), Option.bind_some]
            by_cases l : lvs S (rd S j) y = true
            · have hr := (lvs_iff.mp l).1
              have hcan := (due_can hwj.1 hwj.2 hy).mpr ⟨d, l⟩
              rw [l, bI_t, if_neg (by decide), sp_needed hv h.2.2 c hr, Option.bind_some]
              by_cases g : has (opns S y j st) S j = true
              · rw [g, bI_t, if_neg (by decide)]
                have ho : opc S y j (opns S y j st) = true := by
                  unfold opc
                  rw [w, hcan, g]; rfl
                obtain ⟨σ', r1, r2, r3⟩ := sp_openOne hn hv h c hy hr ho
                rw [r1, Option.bind_some]
                obtain ⟨σ2, t1, t2, t3⟩ := ih (j + 1) σ' (by omega) (by omega) (kp_Vw r2 hv) r3
                exact ⟨σ2, t1, r2.tr t2, t3⟩
              · simp only [Bool.not_eq_true] at g
                rw [g, bI_f, if_pos rfl]
                exact ih (j + 1) σ (by omega) (by omega) hv (next (by unfold opc; rw [g, Bool.and_false]))
            · have hc : can S j y = false := by
                cases e : can S j y with
                | false => rfl
                | true => exact absurd ((due_can hwj.1 hwj.2 hy).mp e).2 l
              simp only [Bool.not_eq_true] at l
              rw [l, bI_f, if_pos rfl]
              exact ih (j + 1) σ (by omega) (by omega) hv (next (by unfold opc; rw [hc, Bool.and_false, Bool.false_and]))
          · have hc : can S j y = false := by
              cases e : can S j y with
              | false => rfl
              | true => exact absurd ((due_can hwj.1 hwj.2 hy).mp e).1 d
            rw [if_pos (nI_lt (by omega) hd200)]
            exact ih (j + 1) σ (by omega) (by omega) hv (next (by unfold opc; rw [hc, Bool.and_false, Bool.false_and]))
        · simp only [Bool.not_eq_true] at w
          rw [w, bI_f, if_pos rfl]
          exact ih (j + 1) σ (by omega) (by omega) hv (next (by unfold opc; rw [w, Bool.false_and, Bool.false_and]))
    · rw [if_pos (nI_le (by omega) (by omega))]
      have e : j = sz S := by omega
      subst e
      exact ⟨σ, rfl, Kp.rf b σ, h⟩
