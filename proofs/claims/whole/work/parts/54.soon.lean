/-! tooSoon -/
theorem opns_can (S : Sc) (y k t : Nat) : ∀ (m : Nat) (st : Ys), (opns S y m st).2.1 k = some t → st.2.1 k = some t ∨ (t = y ∧ can S k y = true)
  | 0, st, h => Or.inl h
  | m + 1, st, h => by
    have h : (opn S y m (opns S y m st)).2.1 k = some t := h
    unfold opn at h
    by_cases c : opc S y m (opns S y m st) = true
    · rw [if_pos c] at h
      dsimp only at h
      by_cases z : k = m
      · rw [if_pos z] at h
        unfold opc at c
        simp only [Bool.and_eq_true] at c
        exact Or.inr ⟨(Option.some.inj h).symm, by rw [z]; exact c.1.2⟩
      · rw [if_neg z] at h
        exact opns_can S y k t m st h
    · rw [if_neg c] at h
      exact opns_can S y k t m st h
theorem sim_O_can (S : Sc) (k t : Nat) : ∀ y, (sim S y).2.1 k = some t → can S k t = true
  | 0, h => by cases h
  | y + 1, h => by
    rcases opns_can S y k t (sz S) (wrt S y (sim S y)) h with q | ⟨q, c⟩
    · exact sim_O_can S k t y q
    · rw [q]; exact c
theorem SB.re {G : Gs} {e m e' m' : Nat → Nat} {o o' : Nat → Nat → Bool} {w w' : Nat → Nat} {a a' : Nat → Bool} {σ σ' : Sg} (h : SB G e m o w a σ) (E : ∀ k, k < 53 → k ≠ 21 → k ≠ 24 → k ≠ 26 → k ≠ 27 → k ≠ 32 → ¬ (34 ≤ k ∧ k ≤ 38) → σ' k = σ k) (h3 : ∀ p, p < cnt G → σ' 24 p = nI (e' p)) (h4 : ∀ p, p < cnt G → σ' 26 p = nI (m' p)) (h5 : ∀ p, p < cnt G → IsB (σ' 27 p) 8 (o' p)) (h6 : ∀ k, k < ls G → σ' 32 k = nI (w' k)) (h7 : ∀ k, k < ls G → bt (σ' 21 2) k = !a' k) : SB G e' m' o' w' a' σ' := by
  obtain ⟨hc, ⟨f1, f2⟩, ⟨p1, p2⟩, -⟩ := h
  refine ⟨hc.keep (fun k k1 k2 => E k k1 (by omega) (by omega) (by omega) (by omega) (by omega) (by omega)), ⟨by rw [E 22 (by omega) (by omega) (by omega) (by omega) (by omega) (by omega) (by omega)]; exact f1, fun p hp => ?_⟩, ⟨by rw [E 28 (by omega) (by omega) (by omega) (by omega) (by omega) (by omega) (by omega)]; exact p1, fun k hk => ?_⟩, h3, h4, h5, h6, h7⟩
  · rw [E 23 (by omega) (by omega) (by omega) (by omega) (by omega) (by omega) (by omega), E 25 (by omega) (by omega) (by omega) (by omega) (by omega) (by omega) (by omega)]; exact f2 p hp
  · rw [E 29 (by omega) (by omega) (by omega) (by omega) (by omega) (by omega) (by omega), E 30 (by omega) (by omega) (by omega) (by omega) (by omega) (by omega) (by omega), E 31 (by omega) (by omega) (by omega) (by omega) (by omega) (by omega) (by omega), E 33 (by omega) (by omega) (by omega) (by omega) (by omega) (by omega) (by omega)]; exact p2 k hk
theorem SB.h3 {G : Gs} {e m : Nat → Nat} {o : Nat → Nat → Bool} {w : Nat → Nat} {a : Nat → Bool} {σ : Sg} (h : SB G e m o w a σ) : ∀ p, p < cnt G → σ 24 p = nI (e p) := h.2.2.2.1
theorem SB.h4 {G : Gs} {e m : Nat → Nat} {o : Nat → Nat → Bool} {w : Nat → Nat} {a : Nat → Bool} {σ : Sg} (h : SB G e m o w a σ) : ∀ p, p < cnt G → σ 26 p = nI (m p) := h.2.2.2.2.1
theorem SB.h5 {G : Gs} {e m : Nat → Nat} {o : Nat → Nat → Bool} {w : Nat → Nat} {a : Nat → Bool} {σ : Sg} (h : SB G e m o w a σ) : ∀ p, p < cnt G → IsB (σ 27 p) 8 (o p) := h.2.2.2.2.2.1
theorem SB.h6 {G : Gs} {e m : Nat → Nat} {o : Nat → Nat → Bool} {w : Nat → Nat} {a : Nat → Bool} {σ : Sg} (h : SB G e m o w a σ) : ∀ k, k < ls G → σ 32 k = nI (w k) := h.2.2.2.2.2.2.1
theorem SB.h7 {G : Gs} {e m : Nat → Nat} {o : Nat → Nat → Bool} {w : Nat → Nat} {a : Nat → Bool} {σ : Sg} (h : SB G e m o w a σ) : ∀ k, k < ls G → bt (σ 21 2) k = !a k := h.2.2.2.2.2.2.2
theorem SB.up24 {G : Gs} {e m e' : Nat → Nat} {o : Nat → Nat → Bool} {w : Nat → Nat} {a : Nat → Bool} {σ : Sg} {q : Nat} {v : Int32} (h : SB G e m o w a σ) (h1 : q < cnt G → v = nI (e' q)) (h2 : ∀ p, p < cnt G → p ≠ q → e' p = e p) : SB G e' m o w a (ag_up σ 24 q v) := by
  refine h.re (fun k k1 k2 k3 k4 k5 k6 k7 => ag_up_ne k3) (fun p hp => ?_) (fun p hp => by rw [ag_up_ne (by decide)]; exact h.h4 p hp) (fun p hp => by rw [ag_up_ne (by decide)]; exact h.h5 p hp) (fun p hp => by rw [ag_up_ne (by decide)]; exact h.h6 p hp) (fun p hp => by rw [ag_up_ne (by decide)]; exact h.h7 p hp)
  by_cases z : p = q
  · rw [z, ma_up_s]; exact h1 (z ▸ hp)
  · rw [ma_up_i z, h2 p hp z]; exact h.h3 p hp
/-- one year's grace for r -/
def eGr (G : Gs) (r p : Nat) : Nat := en (scn G) p + if p = r then 1 else 0
def sGr (G : Gs) (r : Nat) : Sc := scS G (eGr G r) (mo (scn G)) (ow (scn G)) (lo_ G) (fun _ => true)
def SB0 (G : Gs) (σ : Sg) : Prop := SB G (en (scn G)) (mo (scn G)) (ow (scn G)) (lo_ G) (fun _ => true) σ
theorem en_le {G : Gs} (g : GOk G) {p : Nat} (hp : p < cnt G) : en (scn G) p < 100 := by
  obtain ⟨-, -, -, b4, b5, -⟩ := (cnt_ok g.1).2 p hp
  exact two_lt b4 b5
theorem mo_le (G : Gs) (p : Nat) : mo (scn G) p ≤ 5 := by
  show (if kdp (tb G) p = 2 then 5 else 0) ≤ 5
  split <;> omega
theorem sp_grace {n k : Nat} {G : Gs} {σ : Sg} (hn : 300 ≤ n) (h : SB0 G σ) (hk : k < ls G) : ∃ σ', fn_X6_opensWithGrace n (nI k) σ = some (bI ((sim (sGr G (lr G k)) 200).2.1 k).isSome, σ') ∧ SB0 G σ' ∧ ∀ c, 53 ≤ c → σ' c = σ c := by
  have hc := h.1
  have g := hc.1.1
  have hl : ls G ≤ 12 := g.2.2.2.1
  have hr : lr G k < 10 := (g.2.2.2.2.1 k hk).2.1
  have e12 : σ 12 k = nI (lr G k) := (hc.1.2.2.2.2.1.2 k hk).2.1
  unfold fn_X6_opensWithGrace
  rw [if_pos (ma_ib (by omega) (by omega)), ma_cl (by omega), e12, sp_isThere hc.1.VF (by omega), Option.bind_some, scn_cn]
  by_cases c : lr G k < cnt G
  · have I : ag_ib (nI (lr G k)) 10 = true := ma_ib hr (by omega)
    rw [decide_eq_true c, if_neg (show ¬ bI true = 0 from n10), if_pos I, if_pos I, ma_cl (by omega)]
    have e6 : σ 6 (lr G k) = nI (en (scn G) (lr G k)) := (hc.1.2.2.2.1.2 _ c).2.1
    have hs1 : SB G (eGr G (lr G k)) (mo (scn G)) (ow (scn G)) (lo_ G) (fun _ => true) (ag_up σ 24 (lr G k) (σ 6 (lr G k) + 1)) := by
      refine h.up24 (fun _ => ?_) (fun p _ z => ?_)
      · rw [e6, nI_1]
        unfold eGr
        rw [if_pos rfl]
      · unfold eGr
        rw [if_neg z]; rfl
    obtain ⟨σ2, r1, r2, r3, r4⟩ := hs1.live hn (fun p hp => by
      have := en_le g hp
      unfold eGr
      split <;> omega) (fun p _ => mo_le G p) (fun k hk => (g.2.2.2.2.1 k hk).2.2.2.2.1)
    rw [r1, Option.bind_some, if_pos I, if_pos I]
    have e6' : σ2 6 (lr G k) = nI (en (scn G) (lr G k)) := by rw [r4 6 (by omega), ag_up_ne (by decide)]; exact e6
    have hs2 : SB0 G (ag_up σ2 24 (lr G k) (σ2 6 (lr G k))) := by
      refine r2.up24 (fun _ => e6') (fun p _ z => ?_)
      unfold eGr
      rw [if_neg z]; rfl
    have eb : bt (σ2 21 4) k = ((sim (sGr G (lr G k)) 200).2.1 k).isSome := r3.2.1.1.at hk (by show ls G ≤ 32; omega)
    rw [ma_up_k (by decide)]
    have ef : ∀ c, 53 ≤ c → ag_up σ2 24 (lr G k) (σ2 6 (lr G k)) c = σ c := fun c hc => by rw [ag_up_ne (by omega), r4 c (by omega), ag_up_ne (by omega)]
    cases cc : ((sim (sGr G (lr G k)) 200).2.1 k).isSome with
    | true => rw [if_pos ((ma_b1 _ (show k < 32 by omega)).mpr (eb.trans cc))]; exact ⟨_, rfl, hs2, ef⟩
    | false => rw [if_neg (fun q => by have := (ma_b1 _ (show k < 32 by omega)).mp q; rw [eb, cc] at this; cases this)]; exact ⟨_, rfl, hs2, ef⟩
  · rw [decide_eq_false c, if_pos (show bI false = 0 from rfl)]
    have : ((sim (sGr G (lr G k)) 200).2.1 k).isSome = false := by
      cases q : (sim (sGr G (lr G k)) 200).2.1 k with
      | none => rfl
      | some t =>
        have := (lvs_iff.mp (can_iff.mp (sim_O_can _ _ _ _ q)).1).1
        exact absurd this c
    rw [this]
    exact ⟨σ, rfl, h, fun _ _ => rfl⟩
def fSoon (G : Gs) (k : Nat) : Bool := ((sim (scn G) 200).1 k && !((sim (scn G) 200).2.1 k).isSome) && ((sim (sGr G (lr G k)) 200).2.1 k).isSome
theorem sp_soonL {n : Nat} {G : Gs} {s : Int32} (hn : 300 ≤ n) (hx : IsB s (ls G) (fun k => (sim (scn G) 200).1 k && !((sim (scn G) 200).2.1 k).isSome)) : ∀ (i v : Nat) (x : Int32) (σ : Sg), ls G < i + v → v ≤ ls G → SB0 G σ → IsB x (ls G) (fun k => decide (k < v) && fSoon G k) → ∃ x' σ', fn_X6_tooSoon_b23 n i s x (nI v) σ = some (x', σ') ∧ RC G σ' ∧ (∀ k, 53 ≤ k → σ' k = σ k) ∧ IsB x' (ls G) (fSoon G)
  | 0, v, x, σ, a, b, h, hb => by omega
  | i + 1, v, x, σ, a, b, h, hb => by
    have hl : ls G ≤ 12 := h.1.1.1.2.2.2.1
    unfold fn_X6_tooSoon_b23 fn_X6_tooSoon_b57
    rw [h.1.1.2.2.2.2.1.1]
    by_cases z : v = ls G
    · rw [if_pos (nI_le (show ls G ≤ v by omega) (by omega))]
      exact ⟨x, σ, rfl, h.1, fun _ _ => rfl, hb.congr (fun k hk => by rw [z, decide_eq_true hk]; rfl)⟩
    · have hv : v < ls G := by omega
      have eb := hx.at hv (by omega)
      obtain ⟨s0, s1⟩ := ib_step (by omega) hv hb
      rw [if_neg (nI_ge (by omega) (by omega)), nI_1 v]
      cases c : bt s v with
      | false =>
        rw [if_neg (fun q => by have := (ma_b1 _ (show v < 32 by omega)).mp q; rw [c] at this; cases this)]
        exact sp_soonL hn hx i (v + 1) x σ (by omega) (by omega) h (s0 (by unfold fSoon; rw [← eb, c]; rfl))
      | true =>
        obtain ⟨σ1, r1, r2, r3⟩ := sp_grace hn h hv
        rw [if_pos ((ma_b1 _ (show v < 32 by omega)).mpr c), r1, Option.bind_some]
        dsimp only
        cases cc : ((sim (sGr G (lr G v)) 200).2.1 v).isSome with
        | false =>
          rw [if_pos (show bI false = 0 from rfl)]
          obtain ⟨x', σ', t1, t2, t3, t4⟩ := sp_soonL hn hx i (v + 1) x σ1 (by omega) (by omega) r2 (s0 (by unfold fSoon; rw [cc, Bool.and_false]))
          exact ⟨x', σ', t1, t2, fun k hk => (t3 k hk).trans (r3 k hk), t4⟩
        | true =>
          rw [if_neg (show ¬ bI true = 0 from n10)]
          obtain ⟨x', σ', t1, t2, t3, t4⟩ := sp_soonL hn hx i (v + 1) _ σ1 (by omega) (by omega) r2 (s1 (by unfold fSoon; rw [← eb, c, cc]; rfl))
          exact ⟨x', σ', t1, t2, fun k hk => (t3 k hk).trans (r3 k hk), t4⟩
/-- runsTo where something is supposed -/
theorem RM0.runsToS {n y : Nat} {G : Gs} {τ : Sg} {S : Sc} (hn : 600 ≤ n) (hy : y < 500) (h : RM0 G τ) (hz : sz S = ls G) (hS : ∀ τ', F5 τ τ' → RM0 G τ' → MFolk G τ' → VM S τ') : ∃ τ', fn_X7_runsTo n (nI y) τ = some τ' ∧ RM0 G τ' ∧ MFolk G τ' ∧ Rm S (sim S (y + 1)) τ' ∧ (∀ k, k < 53 → τ' k = τ k) ∧ ∀ i, i ≠ 2 → τ' 53 i = τ 53 i := by
  obtain ⟨σ1, r1, r2, r3, r4⟩ := h.reads (show 20 ≤ n by omega)
  obtain ⟨σ2, s1, s2, s3⟩ := sm_runs (last := y) hn hy (hS σ1 r2 r3 r4)
  have e7 : σ1 53 7 = nI (sz S) := by rw [hz]; exact r3.2.2.2.1.1
  refine ⟨σ2, ?_, r3.f3 s2, r4.f3 s2, s3, fun k hk => ?_, fun i hi => ?_⟩
  · unfold fn_X7_runsTo
    rw [r1, Option.bind_some, e7, s1]
    rfl
  · rw [s2 k (by omega) (by omega) (by omega), r2.2 k (by omega) (by omega) (by omega) (by omega)]
  · rw [s2 53 (by omega) (by omega) (by omega), r2.1 i hi]
theorem ow_ok {G : Gs} (g : GOk G) {x : Int32} {p : Nat} (hp : p < cnt G) : IsB (nI (om G p) ||| (if bt 0 p = true then 1 <<< (x &&& 31) else 0)) 8 (ow (scn G) p) := by
  rw [b_0, if_neg (by decide), ma_or0]
  exact IsB.ofN (g.2.2.1 p (Nat.lt_of_lt_of_le hp (cnt_ok g.1).1)) (by omega)
theorem sm_soonL {n : Nat} {G : Gs} {s : Int32} (hn : 600 ≤ n) (hx : IsB s (ls G) (fun k => (sim (scn G) 200).1 k && !((sim (scn G) 200).2.1 k).isSome)) : ∀ (i v : Nat) (x d : Int32) (τ : Sg), ls G < i + v → v ≤ ls G → RM0 G τ → MT τ 8191 (-2) 0 d 0 → IsB x (ls G) (fun k => decide (k < v) && fSoon G k) → ∃ x' τ', fn_X7_tooSoonNow_b9 n i x s (nI v) τ = some (x', τ') ∧ RM G τ' ∧ (∀ k, k < 53 → τ' k = τ k) ∧ IsB x' (ls G) (fSoon G)
  | 0, v, x, d, τ, a, b, h, ht, hb => by omega
  | i + 1, v, x, d, τ, a, b, h, ht, hb => by
    have g := h.1
    have hl : ls G ≤ 12 := h.1.2.2.2.1
    unfold fn_X7_tooSoonNow_b9 fn_X7_tooSoonNow_b60 fn_X7_tooSoonNow_b62
    rw [h.2.2.2.1.1]
    by_cases z : v = ls G
    · rw [if_pos (nI_le (show ls G ≤ v by omega) (by omega))]
      obtain ⟨τ', r1, r2, -, r3⟩ := sm_asTold h
      rw [r1]
      exact ⟨x, τ', rfl, r2, fun k hk => r3 k (by omega), hb.congr (fun k hk => by rw [z, decide_eq_true hk]; rfl)⟩
    · have hv : v < ls G := by omega
      have eb := hx.at hv (by omega)
      obtain ⟨s0, s1⟩ := ib_step (by omega) hv hb
      rw [if_neg (nI_ge (by omega) (by omega)), sm_isIn s (show v < 32 by omega), Option.bind_some, nI_1 v]
      cases c : bt s v with
      | false =>
        rw [if_pos (show bI false = 0 from rfl)]
        exact sm_soonL hn hx i (v + 1) x d τ (by omega) (by omega) h ht (s0 (by unfold fSoon; rw [← eb, c]; rfl))
      | true =>
        have hr : lr G v < 10 := (g.2.2.2.2.1 v hv).2.1
        have e60 : τ 60 v = nI (lr G v) := (h.2.2.2.1.2 v hv).2.1
        rw [if_neg (show ¬ bI true = 0 from n10), if_pos (ma_ib (by omega) (by omega)), ma_cl (by omega), e60]
        have h1 : RM0 G (ag_up τ 53 16 (nI (lr G v))) := h.keep (ma_up_i (by decide) _) (ma_up_i (by decide) _) (ma_up_i (by decide) _) (ma_up_i (by decide) _) (fun k q => ag_up_ne (by omega)) (fun k i a b _ => by rw [ag_up_ne (by omega)])
        have t1 : MT (ag_up τ 53 16 (nI (lr G v))) 8191 (-2) 0 (nI (lr G v)) 0 := ⟨by rw [ma_up_i (by decide)]; exact ht.1, by rw [ma_up_i (by decide)]; exact ht.2.1, by rw [ma_up_i (by decide)]; exact ht.2.2.1, by rw [ma_up_s], by rw [ma_up_i (by decide)]; exact ht.2.2.2.2⟩
        obtain ⟨τ2, r1, r2, r3, r4, r5, r6⟩ := h1.runsToS (y := 199) (S := sGr G (lr G v)) hn (by omega) rfl (fun τ' f5 m0 mf => m0.VMS mf (t1 := 8191) (t2 := -2) (t3 := 0) (t4 := nI (lr G v)) (t5 := 0) ⟨by rw [f5.1 13 (by decide)]; exact t1.1, by rw [f5.1 14 (by decide)]; exact t1.2.1, by rw [f5.1 15 (by decide)]; exact t1.2.2.1, by rw [f5.1 16 (by decide)]; exact t1.2.2.2.1, by rw [f5.1 17 (by decide)]; exact t1.2.2.2.2⟩ (fun p hp => by
            have hp10 : p < 10 := Nat.lt_of_lt_of_le hp (cnt_ok g.1).1
            unfold eGr eE
            rw [b_0, if_neg (show ¬ false = true by decide)]
            by_cases zz : p = lr G v
            · rw [if_pos zz, if_pos (decide_eq_true (congrArg nI zz))]
            · rw [if_neg zz, if_neg (show ¬ decide (nI p = nI (lr G v)) = true by rw [decide_eq_true_eq]; exact neL (by omega) (by omega) zz)]) (fun p hp => by rw [if_pos rfl]) (fun p hp => ow_ok g hp) (fun k hk => (b_8191 k (by omega)).symm))
        have t2 : MT τ2 8191 (-2) 0 (nI (lr G v)) 0 := ⟨by rw [r6 13 (by decide)]; exact t1.1, by rw [r6 14 (by decide)]; exact t1.2.1, by rw [r6 15 (by decide)]; exact t1.2.2.1, by rw [r6 16 (by decide)]; exact t1.2.2.2.1, by rw [r6 17 (by decide)]; exact t1.2.2.2.2⟩
        have ef : ∀ k, k < 53 → τ2 k = τ k := fun k hk => by rw [r5 k hk, ag_up_ne (by omega)]
        rw [show fn_X7_runsTo n 199 (ag_up τ 53 16 (nI (lr G v))) = _ from r1, Option.bind_some, if_pos (ma_ib (by omega) (by omega)), r4.2.1 v (by omega)]
        cases cc : (sim (sGr G (lr G v)) 200).2.1 v with
        | none =>
          rw [if_pos (show oI none = -1 from rfl), ma_or0]
          obtain ⟨x', τ', q1, q2, q3, q4⟩ := sm_soonL hn hx i (v + 1) x _ τ2 (by omega) (by omega) r2 t2 (s0 (by unfold fSoon; rw [cc, Bool.and_comm]; rfl))
          exact ⟨x', τ', q1, q2, fun k hk => (q3 k hk).trans (ef k hk), q4⟩
        | some t =>
          have := sim_O_lt _ cc
          rw [if_neg (show ¬ oI (some t) = -1 from ma_m1 (by omega))]
          obtain ⟨x', τ', q1, q2, q3, q4⟩ := sm_soonL hn hx i (v + 1) _ _ τ2 (by omega) (by omega) r2 t2 (s1 (by unfold fSoon; rw [← eb, c, cc]; rfl))
          exact ⟨x', τ', q1, q2, fun k hk => (q3 k hk).trans (ef k hk), q4⟩
theorem bo_tooSoon {n : Nat} {G : Gs} {σ τ : Sg} (hn : 600 ≤ n) (hc : RC G σ) (hm : RM G τ) : ∃ a, HC σ (fn_X6_tooSoon n σ) a G ∧ HM τ (fn_X7_tooSoon n τ) a G := by
  have hl : ls G ≤ 12 := hc.1.1.2.2.2.1
  have z0 : IsB 0 (ls G) (fun k => decide (k < 0) && fSoon G k) := (IsB.zero _).congr (fun k _ => by rw [decide_eq_false (by omega)]; rfl)
  obtain ⟨σ1, r1, r2, r3⟩ := sp_take hc
  obtain ⟨x, σ2, s1, s2, s3, s4⟩ := sp_soonL (n := n) (G := G) (s := σ 3 3 &&& (σ 3 4 ^^^ (-1))) (by omega) (hc.2.1.1.andn hc.2.2.1.1) n 0 0 σ1 (by omega) (by omega) r2 z0
  obtain ⟨s, τ1, q1, q2, q3, q4⟩ := sm_waitsOf (y := 199) (m := false) hn (by omega) hm
  obtain ⟨x', τ2, u1, u2, u3, u4⟩ := sm_soonL (n := n) (G := G) (s := s) hn (q4.congr (fun k hk => by rw [if_neg (by decide)])) n 0 0 (-1) τ1 (by omega) (by omega) q2.1 q2.2 z0
  refine ⟨x, ⟨σ2, ?_, s2, fun k hk => (s3 k hk).trans (r3 k (by omega))⟩, ⟨τ2, ?_, u2, fun k hk => (u3 k hk).trans (q3 k hk)⟩⟩
  · unfold fn_X6_tooSoon fn_X5_sealedBits
    rw [Option.bind_some, r1, Option.bind_some]
    exact s1
  · unfold fn_X7_tooSoon fn_X7_tooSoonNow fn_X7_sealedNow
    rw [show fn_X7_waitsOf n 199 0 τ = _ from q1, Option.bind_some, Option.bind_some]
    dsimp only
    rw [show fn_X7_tooSoonNow_b9 n n 0 s 0 τ1 = _ from u1, s4.eq u4 (fun _ _ => rfl)]
    rfl
