/-! forged -/
def sFg (G : Gs) (q : Nat) : Sc := scS G (en (scn G)) (fun p => if p = q then 5 else 0) (ow (scn G)) (lo_ G) (fun _ => true)
def fFg (G : Gs) (p : Nat) : Bool := if p = 10 then dnA G (sFg G 10) (ds G) else decide (p < cnt G) && dnA G (sFg G p) (ds G)
theorem came_26 {n : Nat} {σ σ' : Sg} (e : ∀ k, k ≠ 26 → σ' k = σ k) : ∀ (i : Nat) (v : Int32), fn_X0_cameOutIn_b2 n 21 σ' i v = fn_X0_cameOutIn_b2 n 21 σ i v
  | 0, v => rfl
  | i + 1, v => by
    have ih := came_26 (n := n) e i
    unfold fn_X0_cameOutIn_b2 fn_X0_cameOutIn_b47 fn_X5_knew fn_X1_isThere fn_X5_learningYear
    rw [e 39 (by decide), e 40 (by decide), e 41 (by decide), e 42 (by decide), e 43 (by decide), e (21 + 1) (by decide), e (21 + 15) (by decide), e (21 + 6) (by decide), e (21 + 16) (by decide)]
    simp only [ih]
theorem sp_fillN {n c N : Nat} {x : Int32} (hN : N < 2 ^ 31) : ∀ (i j : Nat) (σ : Sg), N < i + j → j ≤ N → ∃ σ', fn_J7_fill_53178_b5 n c N x i (nI j) (nI N) σ = some σ' ∧ (∀ k, k ≠ c → σ' k = σ k) ∧ (∀ k, j ≤ k → k < N → σ' c k = x)
      ∧ ∀ k, k < j → σ' c k = σ c k
  | 0, j, σ, a, b => by omega
  | i + 1, j, σ, a, b => by
    unfold fn_J7_fill_53178_b5
    by_cases z : j = N
    · subst z
      rw [if_pos (nI_le (Nat.le_refl j) hN)]
      exact ⟨σ, rfl, fun _ _ => rfl, fun k a b => by omega, fun _ _ => rfl⟩
    · rw [if_neg (nI_ge (by omega) hN), if_pos (ma_ib (by omega) hN), ma_cl (by omega), nI_1]
      obtain ⟨σ', r1, r2, r3, r4⟩ := sp_fillN (n := n) (c := c) (x := x) hN i (j + 1) (ag_up σ c j x) (by omega) (by omega)
      refine ⟨σ', r1, fun k hk => by rw [r2 k hk, ag_up_ne hk], fun k a b => ?_, fun k hk => by rw [r4 k (by omega), ma_up_i (by omega)]⟩
      by_cases e : k = j
      · rw [r4 _ (by omega), e, ma_up_s]
      · exact r3 k (by omega) b
theorem SB.up26 {G : Gs} {e m m' : Nat → Nat} {o : Nat → Nat → Bool} {w : Nat → Nat} {a : Nat → Bool} {σ : Sg} {q : Nat} {v : Int32} (h : SB G e m o w a σ) (h1 : q < cnt G → v = nI (m' q)) (h2 : ∀ p, p < cnt G → p ≠ q → m' p = m p) : SB G e m' o w a (ag_up σ 26 q v) := by
  refine h.re (fun k k1 k2 k3 k4 k5 k6 k7 => ag_up_ne k4) (fun p hp => by rw [ag_up_ne (by decide)]; exact h.h3 p hp) (fun p hp => ?_) (fun p hp => by rw [ag_up_ne (by decide)]; exact h.h5 p hp) (fun p hp => by rw [ag_up_ne (by decide)]; exact h.h6 p hp) (fun p hp => by rw [ag_up_ne (by decide)]; exact h.h7 p hp)
  by_cases z : p = q
  · rw [z, ma_up_s]; exact h1 (z ▸ hp)
  · rw [ma_up_i z, h2 p hp z]; exact h.h4 p hp
theorem b_1024 : (1024 : Int32) = 1 <<< (nI 10 &&& 31) := by decide
theorem sp_forgedL {n : Nat} {G : Gs} (hn : 300 ≤ n) (hg : GOk G) : ∀ (i v : Nat) (x : Int32) (σ : Sg), cnt G < i + v → v ≤ cnt G → SB G (en (scn G)) (fun _ => 0) (ow (scn G)) (lo_ G) (fun _ => true) σ → IsB x 11 (fun p => decide (p < v) && fFg G p) → ∃ x' σ', fn_X6_forged_b29 n i x (nI v) σ = some (x', σ') ∧ RC G σ' ∧ (∀ k, 53 ≤ k → σ' k = σ k) ∧ IsB x' 11 (fFg G)
  | 0, v, x, σ, a, b, h, hb => by omega
  | i + 1, v, x, σ, a, b, h, hb => by
    have h10 : cnt G ≤ 10 := (cnt_ok hg.1).1
    have he : ∀ p, p < cnt G → en (scn G) p ≤ 100 := fun p hp => Nat.le_of_lt (en_le hg hp)
    have hw : ∀ k, k < ls G → lo_ G k < 8 := fun k hk => (hg.2.2.2.2.1 k hk).2.2.2.2.1
    have hm5 : ∀ q p : Nat, p < cnt G → (fun p => if p = q then 5 else 0) p ≤ 5 := fun q p _ => by
      dsimp only
      split <;> omega
    unfold fn_X6_forged_b29 fn_X6_forged_b93
    rw [h.1.1.2.2.2.1.1]
    by_cases z : v = cnt G
    · rw [if_pos (nI_le (show cnt G ≤ v by omega) (by omega))]
      have h1 : SB G (en (scn G)) (fun p => if p = 10 then 5 else 0) (ow (scn G)) (lo_ G) (fun _ => true) σ := h.re (fun _ _ _ _ _ _ _ _ => rfl) h.h3 (fun p hp => by rw [if_neg (by omega)]; exact h.h4 p hp) h.h5 h.h6 h.h7
      obtain ⟨σ1, r1, r2, r3, r4⟩ := h1.live hn he (hm5 10) hw
      rw [r1, Option.bind_some, sp_cameOut (n := n) (by omega) r2.1 (r2.Vw he (hm5 10) hw).1 r3, Option.bind_some]
      have ef : ∀ k, 53 ≤ k → σ1 k = σ k := fun k hk => r4 k (by omega)
      show ∃ x' σ', (if bI (dnA G (sFg G 10) (ds G)) = 0 then _ else _) = some (x', σ') ∧ _
      cases c : dnA G (sFg G 10) (ds G) with
      | false =>
        rw [if_pos (show bI false = 0 from rfl)]
        refine ⟨x, σ1, rfl, r2.1, ef, hb.congr (fun p hp => ?_)⟩
        unfold fFg
        by_cases zz : p = 10
        · rw [if_pos zz, c, Bool.and_false]
        · rw [if_neg zz, z]
          cases decide (p < cnt G) <;> rfl
      | true =>
        rw [if_neg (show ¬ bI true = 0 from n10), b_1024]
        refine ⟨_, σ1, rfl, r2.1, ef, (hb.set (k := 10) (by omega) (by omega)).congr (fun p hp => ?_)⟩
        unfold fFg
        by_cases zz : p = 10
        · rw [if_pos zz, c, decide_eq_true zz, Bool.or_true]
        · rw [if_neg zz, z, decide_eq_false zz, Bool.or_false]
          cases decide (p < cnt G) <;> rfl
    · have hv : v < cnt G := by omega
      obtain ⟨s0, s1⟩ := ib_step (m := 11) (by omega) (show v < 11 by omega) hb
      have I : ag_ib (nI v) 10 = true := ma_ib (by omega) (by omega)
      rw [if_neg (nI_ge (by omega) (by omega)), if_pos I, ma_cl (by omega)]
      have h1 : SB G (en (scn G)) (fun p => if p = v then 5 else 0) (ow (scn G)) (lo_ G) (fun _ => true) (ag_up σ 26 v 5) := h.up26 (fun _ => by rw [if_pos rfl]; rfl) (fun p _ z => by rw [if_neg z])
      obtain ⟨σ1, r1, r2, r3, r4⟩ := h1.live hn he (hm5 v) hw
      have cm : fn_X0_cameOutIn n 21 (ag_up σ1 26 v 0) = some (bI (dnA G (sFg G v) (ds G))) := by
        have q := sp_cameOut (n := n) (by omega) r2.1 (r2.Vw he (hm5 v) hw).1 r3
        refine Eq.trans ?_ q
        exact came_26 (fun k hk => ag_up_ne hk) n 0
      rw [r1, Option.bind_some, if_pos I, cm, Option.bind_some, nI_1 v]
      have h2 : SB G (en (scn G)) (fun _ => 0) (ow (scn G)) (lo_ G) (fun _ => true) (ag_up σ1 26 v 0) := r2.up26 (fun _ => rfl) (fun p _ z => by rw [if_neg z])
      have ef : ∀ k, 53 ≤ k → ag_up σ1 26 v 0 k = σ k := fun k hk => by rw [ag_up_ne (by omega), r4 k (by omega), ag_up_ne (by omega)]
      have e : fFg G v = dnA G (sFg G v) (ds G) := by
        unfold fFg
        rw [if_neg (by omega), decide_eq_true hv]; rfl
      cases c : dnA G (sFg G v) (ds G) with
      | false =>
        rw [if_pos (show bI false = 0 from rfl)]
        obtain ⟨x', τ', q1, q2, q3, q4⟩ := sp_forgedL hn hg i (v + 1) x (ag_up σ1 26 v 0) (by omega) (by omega) h2 (s0 (e.trans c))
        exact ⟨x', τ', q1, q2, fun k hk => (q3 k hk).trans (ef k hk), q4⟩
      | true =>
        rw [if_neg (show ¬ bI true = 0 from n10)]
        obtain ⟨x', τ', q1, q2, q3, q4⟩ := sp_forgedL hn hg i (v + 1) _ (ag_up σ1 26 v 0) (by omega) (by omega) h2 (s1 (e.trans c))
        exact ⟨x', τ', q1, q2, fun k hk => (q3 k hk).trans (ef k hk), q4⟩
/-- a told cell of the reference set -/
theorem RM0.up53 {G : Gs} {τ : Sg} {i : Nat} {v : Int32} (h : RM0 G τ) (hi : 13 ≤ i ∧ i ≤ 25) : RM0 G (ag_up τ 53 i v) := h.keep (ma_up_i (by omega) _) (ma_up_i (by omega) _) (ma_up_i (by omega) _) (ma_up_i (by omega) _) (fun k q => ag_up_ne (by omega)) (fun k i a b _ => by rw [ag_up_ne (by omega)])
theorem MFolk.up53 {G : Gs} {τ : Sg} {i : Nat} {v : Int32} (h : MFolk G τ) (hi : i ≠ 2) : MFolk G (ag_up τ 53 i v) := h.k53 (ma_up_i (fun q => hi q.symm) _) (fun k q => ag_up_ne (by omega))
theorem sm_forgedStep {n q : Nat} {G : Gs} {τ : Sg} {c0 y : Int32} (hn : 600 ≤ n) (h : RM0 G τ) (hf : MFolk G τ) (ht : MT τ 8191 c0 0 (-1) 0) (hy : (q = 10 ∧ y = -1) ∨ (q < 10 ∧ y = nI q)) : ∃ τ', fn_X7_isDone n (ag_up τ 53 14 y) = some (bI (dnA G (sFg G q) (ds G)), τ') ∧ RM0 G τ' ∧ MFolk G τ' ∧ MT τ' 8191 y 0 (-1) 0 ∧ ∀ k, k < 53 → τ' k = τ k := by
  have h10 : cnt G ≤ 10 := (cnt_ok h.1.1).1
  have h1 : RM0 G (ag_up τ 53 14 y) := h.up53 (by omega)
  have f1 : MFolk G (ag_up τ 53 14 y) := hf.up53 (by decide)
  have t1 : MT (ag_up τ 53 14 y) 8191 y 0 (-1) 0 := ⟨by rw [ma_up_i (by decide)]; exact ht.1, ma_up_s _ _ _ _, by rw [ma_up_i (by decide)]; exact ht.2.2.1, by rw [ma_up_i (by decide)]; exact ht.2.2.2.1, by rw [ma_up_i (by decide)]; exact ht.2.2.2.2⟩
  have vm : VM (sFg G q) (ag_up τ 53 14 y) := h1.VMS f1 t1 (fun p hp => by rw [b_0, decide_eq_false (ma_m1 (by omega)), eE_0]) (fun p hp => by
    rcases hy with ⟨rfl, rfl⟩ | ⟨hq, rfl⟩
    · rw [if_neg (show ¬ (-1 : Int32) = -2 by decide), if_neg (ma_m1' (by omega)), if_neg (by omega)]
    · rw [if_neg (show ¬ nI q = -2 from fun e => by
        have hl : (nI q) < 0 := by rw [e]; decide
        exact nI_pos (by omega) hl)]
      by_cases zz : p = q
      · rw [if_pos zz, if_pos (congrArg nI zz.symm)]
      · rw [if_neg zz, if_neg (neL (by omega) (by omega) (fun e => zz e.symm))]) (fun p hp => ow_ok h.1 hp) (fun k hk => by
    have := h.1.2.2.2.1
    exact (b_8191 k (by omega)).symm)
  obtain ⟨τ1, r1, r2⟩ := sm_isDone (n := n) (S := sFg G q) hn rfl h1 vm
  exact ⟨τ1, r1, h1.f3 r2, f1.f3 r2, t1.f3 r2, fun k hk => by rw [r2 k (by omega) (by omega) (by omega), ag_up_ne (by omega)]⟩
theorem sm_forgedL {n : Nat} {G : Gs} (hn : 600 ≤ n) (hg : GOk G) : ∀ (i v : Nat) (x c0 : Int32) (τ : Sg), cnt G < i + v → v ≤ cnt G → RM0 G τ → MFolk G τ → MT τ 8191 c0 0 (-1) 0 → IsB x 11 (fun p => (decide (p < v) || decide (p = 10)) && fFg G p) → ∃ x' τ', fn_X7_forgedNow_b8 n i x (nI v) τ = some (x', τ') ∧ RM G τ' ∧ (∀ k, k < 53 → τ' k = τ k) ∧ IsB x' 11 (fFg G)
  | 0, v, x, c0, τ, a, b, h, hf, ht, hb => by omega
  | i + 1, v, x, c0, τ, a, b, h, hf, ht, hb => by
    have h10 : cnt G ≤ 10 := (cnt_ok hg.1).1
    unfold fn_X7_forgedNow_b8 fn_X7_forgedNow_b41 fn_X7_forgedNow_b46
    rw [hf.1]
    by_cases z : v = cnt G
    · rw [if_pos (nI_le (show cnt G ≤ v by omega) (by omega))]
      obtain ⟨τ', r1, r2, -, r3⟩ := sm_asTold h
      rw [r1]
      refine ⟨x, τ', rfl, r2, fun k hk => r3 k (by omega), hb.congr (fun p hp => ?_)⟩
      by_cases zz : p = 10
      · rw [decide_eq_true zz, Bool.or_true, Bool.true_and]
      · unfold fFg
        rw [if_neg zz, z, decide_eq_false zz, Bool.or_false]
        cases decide (p < cnt G) <;> rfl
    · have hv : v < cnt G := by omega
      have e : fFg G v = dnA G (sFg G v) (ds G) := by
        unfold fFg
        rw [if_neg (by omega), decide_eq_true hv]; rfl
      obtain ⟨τ1, r1, r2, r3, r4, r5⟩ := sm_forgedStep (q := v) hn h hf ht (Or.inr ⟨by omega, rfl⟩)
      rw [if_neg (nI_ge (by omega) (by omega)), r1, Option.bind_some, nI_1 v]
      dsimp only
      cases c : dnA G (sFg G v) (ds G) with
      | false =>
        rw [if_pos (show bI false = 0 from rfl), ma_or0]
        obtain ⟨x', τ', q1, q2, q3, q4⟩ := sm_forgedL hn hg i (v + 1) x _ τ1 (by omega) (by omega) r2 r3 r4 (hb.congr (fun p hp => by
          by_cases zz : p = v
          · rw [zz, e, c, Bool.and_false, Bool.and_false]
          · have : decide (p < v) = decide (p < v + 1) := decide_eq_decide.mpr (by omega)
            rw [this]))
        exact ⟨x', τ', q1, q2, fun k hk => (q3 k hk).trans (r5 k hk), q4⟩
      | true =>
        rw [if_neg (show ¬ bI true = 0 from n10), if_neg (ma_m1 (by omega))]
        obtain ⟨x', τ', q1, q2, q3, q4⟩ := sm_forgedL hn hg i (v + 1) _ _ τ1 (by omega) (by omega) r2 r3 r4 ((hb.set (k := v) (by omega) (by omega)).congr (fun p hp => by
          by_cases zz : p = v
          · rw [zz, e, c, decide_eq_true (show v < v + 1 by omega), decide_eq_true rfl, Bool.or_true]; rfl
          · have : decide (p < v) = decide (p < v + 1) := decide_eq_decide.mpr (by omega)
            rw [this, decide_eq_false zz, Bool.or_false]))
        exact ⟨x', τ', q1, q2, fun k hk => (q3 k hk).trans (r5 k hk), q4⟩
theorem bo_forged {n : Nat} {G : Gs} {σ τ : Sg} (hn : 600 ≤ n) (hc : RC G σ) (hm : RM G τ) : ∃ a, HC σ (fn_X6_forged n σ) a G ∧ HM τ (fn_X7_forged n τ) a G := by
  have hg := hc.1.1
  have h10 : cnt G ≤ 10 := (cnt_ok hg.1).1
  obtain ⟨σ1, r1, r2, r3⟩ := sp_take hc
  obtain ⟨σ2, f1, f2, f3, -⟩ := sp_fillN (n := n) (c := 26) (N := 10) (x := 0) (by omega) n 0 σ1 (by omega) (by omega)
  have hs : SB G (en (scn G)) (fun _ => 0) (ow (scn G)) (lo_ G) (fun _ => true) σ2 := r2.re (fun k k1 k2 k3 k4 k5 k6 k7 => f2 k k4) (fun p hp => by rw [f2 24 (by decide)]; exact r2.h3 p hp) (fun p hp => f3 p (by omega) (by omega)) (fun p hp => by rw [f2 27 (by decide)]; exact r2.h5 p hp) (fun p hp => by rw [f2 32 (by decide)]; exact r2.h6 p hp) (fun p hp => by rw [f2 21 (by decide)]; exact r2.h7 p hp)
  obtain ⟨x, σ3, s1, s2, s3, s4⟩ := sp_forgedL (n := n) (by omega) hg n 0 0 σ2 (by omega) (by omega) hs ((IsB.zero _).congr (fun k _ => by rw [decide_eq_false (by omega)]; rfl))
  obtain ⟨τ1, q1, q2, q3, q4⟩ := hm.1.reads (show 20 ≤ n by omega)
  obtain ⟨τ2, u1, u2, u3, u4, u5⟩ := sm_forgedStep (q := 10) (y := -1) hn q3 q4 (hm.2.f5 q2) (Or.inl ⟨rfl, rfl⟩)
  have step : ∃ x' τ3, fn_X7_forgedNow_b8 n n 0 (-1) τ1 = some (x', τ3) ∧ RM G τ3 ∧ (∀ k, k < 53 → τ3 k = τ2 k) ∧ IsB x' 11 (fFg G) := by
    obtain ⟨j, e⟩ : ∃ j, n = j + 1 := ⟨n - 1, by omega⟩
    have hj : cnt G < j + 0 := by omega
    rw [show fn_X7_forgedNow_b8 n n 0 (-1) τ1 = fn_X7_forgedNow_b8 n (j + 1) 0 (-1) τ1 by rw [← e]]
    unfold fn_X7_forgedNow_b8 fn_X7_forgedNow_b41 fn_X7_forgedNow_b46
    rw [q4.1, if_neg (show ¬ nI (cnt G) ≤ (-1 : Int32) from fun q => by
      have : (nI (cnt G)) < 0 := Int32.lt_of_le_of_lt q (by decide)
      exact nI_pos (by omega) this), u1, Option.bind_some]
    dsimp only
    have e10 : fFg G 10 = dnA G (sFg G 10) (ds G) := by
      unfold fFg
      rw [if_pos rfl]
    cases c : dnA G (sFg G 10) (ds G) with
    | false =>
      rw [if_pos (show bI false = 0 from rfl), ma_or0]
      exact sm_forgedL hn hg j 0 0 _ τ2 hj (by omega) u2 u3 u4 ((IsB.zero _).congr (fun p _ => by
        by_cases zz : p = 10
        · rw [zz, e10, c, Bool.and_false]
        · rw [decide_eq_false (show ¬ p < 0 by omega), decide_eq_false zz]; rfl))
    | true =>
      rw [if_neg (show ¬ bI true = 0 from n10), if_pos rfl]
      exact sm_forgedL hn hg j 0 _ _ τ2 hj (by omega) u2 u3 u4 (((IsB.zero 11).set (k := 10) (by omega) (by omega)).congr (fun p _ => by
        by_cases zz : p = 10
        · rw [zz, e10, c]; rfl
        · rw [decide_eq_false (show ¬ p < 0 by omega), decide_eq_false zz]; rfl))
  obtain ⟨x', τ3, v1, v2, v3, v4⟩ := step
  refine ⟨x, ⟨σ3, ?_, s2, fun k hk => by rw [s3 k hk, f2 k (by omega), r3 k (by omega)]⟩, ⟨τ3, ?_, v2, fun k hk => by rw [v3 k hk, u5 k hk, q2.2 k (by omega) (by omega) (by omega) (by omega)]⟩⟩
  · unfold fn_X6_forged fn_J7_fill_53178
    rw [r1, Option.bind_some, show fn_J7_fill_53178_b5 n 26 10 0 n 0 (Int32.ofNat 10) σ1 = _ from f1, Option.bind_some]
    exact s1
  · unfold fn_X7_forged fn_X7_forgedNow
    rw [q1, Option.bind_some, v1, s4.eq v4 (fun _ _ => rfl)]
    rfl
/-! drawn -/
def eSh (G : Gs) (x : Int32) (p : Nat) : Nat := eE (en (scn G) p) false (bt x p)
def sSh (G : Gs) (x : Int32) : Sc := scS G (eSh G x) (mo (scn G)) (ow (scn G)) (lo_ G) (fun _ => true)
theorem ma_short : ∀ E, E < 100 → ag_max 1 (nI E - 10) = nI (if 10 < E then E - 10 else 1) := by decide +kernel
theorem eSh_t {G : Gs} {x : Int32} {p : Nat} (h : bt x p = true) : eSh G x p = if 10 < en (scn G) p then en (scn G) p - 10 else 1 := by
  unfold eSh eE
  rw [h, if_pos rfl, if_neg (show ¬ false = true by decide), Nat.add_zero]
theorem eSh_f {G : Gs} {x : Int32} {p : Nat} (h : bt x p = false) : eSh G x p = en (scn G) p := by
  unfold eSh eE
  rw [h, if_neg (show ¬ false = true by decide), if_neg (show ¬ false = true by decide), Nat.add_zero]
theorem sp_shortenL {n : Nat} {G : Gs} {x : Int32} {m : Nat → Nat} {o : Nat → Nat → Bool} {w : Nat → Nat} {a : Nat → Bool} (hg : GOk G) : ∀ (i v : Nat) (σ : Sg) (e : Nat → Nat), cnt G < i + v → v ≤ cnt G → SB G e m o w a σ → (∀ p, p < v → e p = eSh G x p) → ∃ σ', fn_X1_shorten_b2 n 22 4 x i (nI v) σ = some σ' ∧ SB G (eSh G x) m o w a σ' ∧ ∀ k, k ≠ 24 → σ' k = σ k
  | 0, v, σ, e, a1, b, h, he => by omega
  | i + 1, v, σ, e, a1, b, h, he => by
    have h10 : cnt G ≤ 10 := (cnt_ok hg.1).1
    unfold fn_X1_shorten_b2 fn_X1_shorten_b24 fn_X1_shorten_b58
    rw [h.2.1.1]
    by_cases z : v = cnt G
    · rw [if_pos (nI_le (show cnt G ≤ v by omega) (by omega))]
      exact ⟨σ, rfl, h.re (fun _ _ _ _ _ _ _ _ => rfl) (fun p hp => by rw [← he p (by omega)]; exact h.h3 p hp) h.h4 h.h5 h.h6 h.h7, fun _ _ => rfl⟩
    · have hv : v < cnt G := by omega
      have I : ag_ib (nI v) 10 = true := ma_ib (by omega) (by omega)
      have e6 : σ (4 + 2) v = nI (en (scn G) v) := (h.1.1.2.2.2.1.2 v hv).2.1
      have go : ∀ y : Nat, y = eSh G x v → ∃ σ', fn_X1_shorten_b2 n 22 4 x i (nI (v + 1)) (ag_up σ (22 + 2) v (nI y)) = some σ' ∧ SB G (eSh G x) m o w a σ' ∧ ∀ k, k ≠ 24 → σ' k = σ k := fun y hy => by
        have h1 : SB G (fun p => if p = v then y else e p) m o w a (ag_up σ 24 v (nI y)) := h.up24 (fun _ => by rw [if_pos rfl]) (fun p _ z => by rw [if_neg z])
        obtain ⟨σ', q1, q2, q3⟩ := sp_shortenL (n := n) (x := x) hg i (v + 1) (ag_up σ 24 v (nI y)) (fun p => if p = v then y else e p) (by omega) (by omega) h1 (fun p hp => by
          by_cases zz : p = v
          · rw [if_pos zz, zz]; exact hy
          · rw [if_neg zz]; exact he p (by omega))
        exact ⟨σ', q1, q2, fun k hk => by rw [q3 k hk, ag_up_ne hk]⟩
      rw [if_neg (nI_ge (by omega) (by omega)), if_neg n10, if_pos rfl, if_pos I, if_pos I, if_pos I, if_pos I, ma_cl (by omega), e6, nI_1 v]
      cases c : bt x v with
      | true =>
        rw [if_pos ((ma_b1 _ (show v < 32 by omega)).mpr c), ma_short _ (en_le hg hv)]
        exact go _ (eSh_t c).symm
      | false =>
        rw [if_neg (fun q => by have := (ma_b1 _ (show v < 32 by omega)).mp q; rw [c] at this; cases this)]
        exact go _ (eSh_f c).symm
theorem sp_shorten {n : Nat} {G : Gs} {x : Int32} {e m : Nat → Nat} {o : Nat → Nat → Bool} {w : Nat → Nat} {a : Nat → Bool} {σ : Sg} (hn : 20 ≤ n) (h : SB G e m o w a σ) : ∃ σ', fn_X1_shorten n 22 4 x σ = some σ' ∧ SB G (eSh G x) m o w a σ' ∧ ∀ k, k ≠ 24 → σ' k = σ k := by
  have h10 : cnt G ≤ 10 := (cnt_ok h.1.1.1.1).1
  exact sp_shortenL h.1.1.1 n 0 σ e (by omega) (by omega) h (fun p hp => by omega)
theorem eSh_le {G : Gs} {x : Int32} {p : Nat} (hg : GOk G) (hp : p < cnt G) : eSh G x p ≤ 100 := by
  have := en_le hg hp
  cases c : bt x p with
  | true => rw [eSh_t c]; split <;> omega
  | false => rw [eSh_f c]; omega
theorem RM0.VMsh {G : Gs} {τ : Sg} {x : Int32} (h : RM0 G τ) (hf : MFolk G τ) (ht : MT τ 8191 (-2) x (-1) 0) : VM (sSh G x) τ := h.VMS hf ht (fun p hp => by
    have : cnt G ≤ 10 := (cnt_ok h.1.1).1
    rw [decide_eq_false (ma_m1 (by omega))]
    rfl) (fun p hp => by rw [if_pos rfl]) (fun p hp => ow_ok h.1 hp) (fun k hk => by
    have := h.1.2.2.2.1
    exact (b_8191 k (by omega)).symm)
theorem bo_drawnL {n : Nat} {G : Gs} {x1 x2 : Int32} (hn : 600 ≤ n) : ∀ (i v : Nat) (s x : Int32) (σ τ : Sg), cnt G < i + v → v ≤ cnt G → RC G σ → RM0 G τ → MFolk G τ → MTs τ → ∃ a, HC σ (fn_X6_drawn_b20 n x1 x2 i s x (nI v) σ) a G ∧ HM τ (fn_X7_drawnOf_b12 n x1 x2 i s x (nI v) τ) a G
  | 0, v, s, x, σ, τ, a, b, hc, h, hf, ht => by omega
  | i + 1, v, s, x, σ, τ, a, b, hc, h, hf, ht => by
    have hg := hc.1.1
    have h10 : cnt G ≤ 10 := (cnt_ok hg.1).1
    have h12 : ls G ≤ 12 := hg.2.2.2.1
    unfold fn_X6_drawn_b20 fn_X7_drawnOf_b12 fn_X6_drawn_b62 fn_X7_drawnOf_b52
    rw [hc.1.2.2.2.1.1, hf.1]
    by_cases z : v = cnt G
    · rw [if_pos (nI_le (show cnt G ≤ v by omega) (by omega)), if_pos (nI_le (show cnt G ≤ v by omega) (by omega))]
      obtain ⟨σ1, r1, r2, r3⟩ := sp_take hc
      obtain ⟨σ2, s1, s2, s3⟩ := sp_shorten (n := n) (x := x) (by omega) r2
      obtain ⟨σ3, u1, u2, u3, u4⟩ := s2.live (show 300 ≤ n by omega) (fun p hp => eSh_le hg hp) (fun p _ => mo_le G p) (fun k hk => (hg.2.2.2.2.1 k hk).2.2.2.2.1)
      have h1 : RM0 G (ag_up τ 53 15 x) := h.up53 (by omega)
      have f1 : MFolk G (ag_up τ 53 15 x) := hf.up53 (by decide)
      have t1 : MT (ag_up τ 53 15 x) 8191 (-2) x (-1) 0 := ⟨by rw [ma_up_i (by decide)]; exact ht.1, by rw [ma_up_i (by decide)]; exact ht.2.1, ma_up_s _ _ _ _, by rw [ma_up_i (by decide)]; exact ht.2.2.2.1, by rw [ma_up_i (by decide)]; exact ht.2.2.2.2⟩
      obtain ⟨τ1, w1, w2, w3⟩ := sm_runs (last := 199) hn (by omega) (h1.VMsh f1 t1)
      obtain ⟨τ2, y1, y2, -, y3⟩ := sm_asTold (h1.f3 w2)
      have rm : Rm (scn G) (sim (sSh G x) 200) τ2 := by
        refine ⟨fun k hk => ?_, fun k hk => ?_, fun p hp => ?_⟩
        · rw [y3 66 (by decide)]; exact w3.1 k hk
        · rw [y3 65 (by decide)]; exact w3.2.1 k hk
        · rw [y3 64 (by decide)]; exact w3.2.2 p hp
      obtain ⟨xb, p1, p2⟩ := sm_bits (n := n) (m := true) y2 rm (fun k t q => by have := sim_O_lt _ q; omega) n 0 0 (by omega) (by omega) ((IsB.zero _).congr (fun k _ => by rw [decide_eq_false (by omega)]; rfl))
      refine ⟨σ3 21 4, ⟨σ3, ?_, u2.1, fun k hk => by rw [u4 k (by omega), s3 k (by omega), r3 k (by omega)]⟩, ⟨τ2, ?_, y2, fun k hk => by rw [y3 k (by omega), w2 k (by omega) (by omega) (by omega), ag_up_ne (by omega)]⟩⟩
      · rw [r1, Option.bind_some, s1, Option.bind_some, u1]
        rfl
      · have e7 : ag_up τ 53 15 x 53 7 = nI (sz (sSh G x)) := h1.2.2.2.1.1
        have eb : xb = σ3 21 4 := p2.eq u3.2.1.1 (fun k hk => by rw [if_pos rfl]; rfl)
        unfold fn_X7_bitsNow
        rw [e7, show fn_X7_runs n 199 (nI (sz (sSh G x))) (ag_up τ 53 15 x) = _ from w1, Option.bind_some, y1, Option.bind_some, show fn_X7_bitsNow_b4 n 1 τ2 n 0 0 = _ from p1, eb]
        rfl
    · rw [if_neg (nI_ge (by omega) (by omega)), if_neg (nI_ge (by omega) (by omega)), nI_1 v, ma_or0]
      by_cases c : x2 ≤ ((ag_ushr ((1103515245 * s) + 12345) 16) - (ag_ushr ((1103515245 * s) + 12345) 16) / 16 * 16)
      · rw [if_pos c, if_pos c]
        exact bo_drawnL hn i (v + 1) _ x σ τ (by omega) (by omega) hc h hf ht
      · rw [if_neg c, if_neg c]
        exact bo_drawnL hn i (v + 1) _ _ σ τ (by omega) (by omega) hc h hf ht
theorem bo_drawn {n : Nat} {G : Gs} {σ τ : Sg} {x1 x2 : Int32} (hn : 600 ≤ n) (hc : RC G σ) (hm : RM G τ) : ∃ a, HC σ (fn_X6_drawn n x1 x2 σ) a G ∧ HM τ (fn_X7_drawn n x1 x2 τ) a G := by
  have h10 : cnt G ≤ 10 := (cnt_ok hc.1.1.1).1
  unfold fn_X6_drawn fn_X7_drawn fn_X7_drawnOf
  rcases bo_ck (m := 16) (by omega) x2 σ τ with ⟨-, e1, e2⟩ | ⟨e1, e2⟩
  case inr => rw [show fn_X6_isBelow x2 17 σ = _ from e1, show fn_X7_in x2 0 16 τ = _ from e2]; exact ⟨-2, HC.rf hc, HM.rf hm⟩
  obtain ⟨τ1, q1, q2, q3, q4⟩ := hm.1.reads (show 20 ≤ n by omega)
  rw [show fn_X6_isBelow x2 17 σ = _ from e1, show fn_X7_in x2 0 16 τ = _ from e2, Option.bind_some, Option.bind_some, if_neg n10, if_neg n10, q1, Option.bind_some]
  obtain ⟨a, a1, τ2, b1, b2, b3⟩ := bo_drawnL (x1 := x1) (x2 := x2) hn n 0 x1 0 σ τ1 (by omega) (by omega) hc q3 q4 (hm.2.f5 q2)
  refine ⟨a, a1, τ2, ?_, b2, fun k hk => by rw [b3 k hk, q2.2 k (by omega) (by omega) (by omega) (by omega)]⟩
  rw [show fn_X7_drawnOf_b12 n x1 x2 n x1 0 0 τ1 = _ from b1]
  rfl
