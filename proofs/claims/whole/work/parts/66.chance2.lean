/-! chance: the reference, and both -/
theorem odd_gcd {A : Nat} (h : A % 2 = 1) (j : Nat) : Nat.gcd A (2 ^ j) = 1 := by
  have h2 : Nat.Coprime A 2 := by
    show Nat.gcd A 2 = 1
    rw [Nat.gcd_comm, Nat.gcd_rec, h]
    rfl
  exact Nat.Coprime.pow_right j h2
theorem low_eq {P A t k : Nat} (hP : 0 < P) (ht : t ≤ k) (hc : t = k ∨ A % 2 = 1) : (P * (A * 2 ^ t)) / Nat.gcd (P * (A * 2 ^ t)) (P * 2 ^ k) = A ∧ (P * 2 ^ k) / Nat.gcd (P * (A * 2 ^ t)) (P * 2 ^ k) = 2 ^ (k - t) := by
  have hk : 2 ^ k = 2 ^ (k - t) * 2 ^ t := by
    rw [← Nat.pow_add]
    congr 1
    omega
  have g1 : Nat.gcd A (2 ^ (k - t)) = 1 := by
    rcases hc with c | c
    · rw [c, Nat.sub_self]
      exact Nat.gcd_one_right A
    · exact odd_gcd c _
  have hg : Nat.gcd (P * (A * 2 ^ t)) (P * 2 ^ k) = P * 2 ^ t := by
    rw [hk, Nat.gcd_mul_left, Nat.gcd_mul_right, g1, Nat.one_mul]
  have hpos : 0 < P * 2 ^ t := Nat.mul_pos hP (Nat.pow_pos (by omega))
  rw [hg]
  constructor
  · rw [Nat.mul_left_comm, Nat.mul_div_cancel _ hpos]
  · rw [hk, Nat.mul_left_comm, Nat.mul_div_cancel _ hpos]
theorem SR_le {c : Nat} (hc : c ≤ 16) : ∀ (N : Nat) (f : Nat → Nat), (∀ s, f s ≤ 1) → SR c N f ≤ 16 ^ N
  | 0, f, h => by
    show 0 + 1 * 1 * f 0 ≤ 1
    have := h 0
    omega
  | N + 1, f, h => by
    rw [SR_s, Nat.pow_succ]
    have h0 := Nat.mul_le_mul_left (16 - c) (SR_le hc N (fun s => f (2 * s)) (fun s => h _))
    have h1 := Nat.mul_le_mul_left c (SR_le hc N (fun s => f (2 * s + 1)) (fun s => h _))
    have e : (16 - c) * 16 ^ N + c * 16 ^ N = 16 ^ N * 16 := by
      rw [← Nat.add_mul, show 16 - c + c = 16 by omega, Nat.mul_comm]
    omega
theorem SCl_ext {c N I d : Nat} {f : Nat → Nat} (h : I < 2 ^ N) : SCl c (N + d) I f = SCl c N I f := by
  unfold SCl
  rw [pcn_ext h d]
  refine sF_congr (fun i _ => ?_)
  rw [pd_ext h i d, pcn_ext (pd_lt N I i) d]
theorem sm_prodL {n c per w s : Nat} {G : Gs} {τ : Sg} {x4 : Int32} {K : Int64 → Int64 → Int32 → Sg → Option (Int64 × Sg)} {v5 v7 : Int64} (hc : c ≤ 16) (h10 : cnt G ≤ 10) (hf : MFolk G τ) : ∀ (i v : Nat), cnt G < i + v → v ≤ cnt G → fn_X7_chanceOf_b56 n (nI c) (nI per) (nI w) x4 K i v5 v7 (nI s) (lN (Wg c v (pcn v s))) (nI v) τ = fn_X7_chanceOf_b56 n (nI c) (nI per) (nI w) x4 K 1 v5 v7 (nI s) (lN (Wg c (cnt G) (pcn (cnt G) s))) (nI (cnt G)) τ
  | 0, v, a, b => by omega
  | i + 1, v, a, b => by
    have e1 : ∀ (j : Nat) (u : Int64), fn_X7_chanceOf_b56 n (nI c) (nI per) (nI w) x4 K (j + 1) v5 v7 (nI s) u (nI (cnt G)) τ = fn_X7_chanceOf_b56 n (nI c) (nI per) (nI w) x4 K (0 + 1) v5 v7 (nI s) u (nI (cnt G)) τ := fun j u => by
      rw [fn_X7_chanceOf_b56, fn_X7_chanceOf_b56]
      dsimp only
      rw [hf.1, if_pos (nI_le (Nat.le_refl _) (by omega)), if_pos (nI_le (Nat.le_refl _) (by omega))]
    by_cases z : v = cnt G
    · rw [z]
      exact e1 i _
    · rw [fn_X7_chanceOf_b56]
      dsimp only
      unfold fn_X7_chanceOf_b87
      rw [hf.1, if_neg (nI_ge (show v < cnt G by omega) (by omega)), sm_isIn _ (show v < 32 by omega), Option.bind_some, nI_l (show c < 2 ^ 31 by omega), show (16 : Int32) - nI c = nI (16 - c) from pk_sub (a := 16) hc, nI_l (show 16 - c < 2 ^ 31 by omega), lN_mul, lN_mul, nI_1 v, ma_btn, decide_eq_true (show v < 32 by omega), Bool.true_and]
      have ih := sm_prodL (n := n) (per := per) (w := w) (s := s) (x4 := x4) (K := K) (v5 := v5) (v7 := v7) hc h10 hf i (v + 1) (by omega) (by omega)
      have ep : pcn (v + 1) s = pcn v s + if s.testBit v = true then 1 else 0 := rfl
      cases cb : s.testBit v with
      | false =>
        have ep0 : pcn (v + 1) s = pcn v s := by rw [ep, cb]; rfl
        rw [if_pos (show bI false = 0 from rfl), ← ih, ep0, Wg_0 (pcn_le v s), Nat.mul_comm]
      | true =>
        have ep1 : pcn (v + 1) s = pcn v s + 1 := by rw [ep, cb]; rfl
        rw [if_neg (show ¬ bI true = 0 from n10), ← ih, ep1, Wg_1, Nat.mul_comm]
theorem sm_chanceL {n c per w : Nat} {G : Gs} {x4 : Int32} (hn : 2000 ≤ n) (hg : GOk G) (hp : per < cnt G) (hw : w < 8) (hc : c ≤ 16) : ∀ (i s : Nat) (t0 : Int32) (τ : Sg), 2 ^ cnt G < i + s → s ≤ 2 ^ cnt G → RM0 G τ → MFolk G τ → MT τ 8191 (-2) t0 (-1) 0 → ∃ τ', fn_X7_chanceOf_b39 n (nI c) (nI per) (nI w) x4 i (lN (16 ^ cnt G)) (lN (sF (fun s => Wg c (cnt G) (pcn (cnt G) s) * fSh G per w s) s)) (nI s) τ = some (if x4 = 0 then lN (SR c (cnt G) (fSh G per w) / Nat.gcd (SR c (cnt G) (fSh G per w)) (16 ^ cnt G)) else lN (16 ^ cnt G / Nat.gcd (SR c (cnt G) (fSh G per w)) (16 ^ cnt G)), τ') ∧ RM G τ' ∧ ∀ k, k < 53 → τ' k = τ k
  | 0, s, t0, τ, a, b, h, hf, ht => by omega
  | i + 1, s, t0, τ, a, b, h, hf, ht => by
    have h10 : cnt G ≤ 10 := (cnt_ok hg.1).1
    have h12 : ls G ≤ 12 := hg.2.2.2.1
    have hpw : 2 ^ cnt G ≤ 1024 := Nat.pow_le_pow_right (n := 2) (by omega) h10
    have h16 := pow16 (show cnt G ≤ 12 by omega)
    have f1 : ∀ s, fSh G per w s ≤ 1 := fun s => by
      unfold fSh
      split <;> omega
    have hS := SR_le hc (cnt G) (fSh G per w) f1
    rw [fn_X7_chanceOf_b39]
    dsimp only
    rw [hf.1, ma_pow _ (by omega)]
    by_cases zz : s = 2 ^ cnt G
    · obtain ⟨τ', r1, r2, -, r3⟩ := sm_asTold h
      rw [if_pos (nI_le (show 2 ^ cnt G ≤ s by omega) (by omega)), r1, Option.bind_some]
      have lw := sm_low (n := n) (x4 := x4) (σ := τ') (top := SR c (cnt G) (fSh G per w)) (bot := 16 ^ cnt G) (by omega) (by omega) 49 n (SR c (cnt G) (fSh G per w)) (16 ^ cnt G) (by omega) (by omega) (by omega) (by omega) (Nat.gcd_pos_of_pos_right _ (Nat.pow_pos (by omega)))
      refine ⟨τ', ?_, r2, fun k hk => r3 k (by omega)⟩
      unfold fn_X7_lowest
      rw [zz, show lN (sF (fun s => Wg c (cnt G) (pcn (cnt G) s) * fSh G per w s) (2 ^ cnt G)) = lN (SR c (cnt G) (fSh G per w)) from rfl, lw]
      rfl
    · have hs : s < 2 ^ cnt G := by omega
      have hW := Wg_le hc (pcn_le (cnt G) s)
      rw [if_neg (nI_ge (by omega) (by omega)), show fn_X7_chanceOf_b56 n (nI c) (nI per) (nI w) x4 (fn_X7_chanceOf_b39 n (nI c) (nI per) (nI w) x4 i) n (lN (16 ^ cnt G)) (lN (sF (fun s => Wg c (cnt G) (pcn (cnt G) s) * fSh G per w s) s)) (nI s) 1 0 τ = _ from sm_prodL (c := c) (s := s) hc h10 hf n 0 (by omega) (by omega), fn_X7_chanceOf_b56]
      dsimp only
      unfold fn_X7_chanceOf_b141 fn_X7_chanceOf_b144
      rw [hf.1, if_pos (nI_le (Nat.le_refl _) (by omega)), nI_1 s]
      have es : sF (fun s => Wg c (cnt G) (pcn (cnt G) s) * fSh G per w s) (s + 1) = sF (fun s => Wg c (cnt G) (pcn (cnt G) s) * fSh G per w s) s + Wg c (cnt G) (pcn (cnt G) s) * fSh G per w s := rfl
      by_cases cz : Wg c (cnt G) (pcn (cnt G) s) = 0
      · rw [if_pos (show lg_cmp (lN (Wg c (cnt G) (pcn (cnt G) s))) 0 ≤ 0 from (lg_cmp_le _ _).mpr (by rw [cz]; exact (lN_leB (a := 0) (b := 0) (by omega) (by omega)).mpr (Nat.le_refl _)))]
        have := sm_chanceL (x4 := x4) hn hg hp hw hc i (s + 1) t0 τ (by omega) (by omega) h hf ht
        rw [es, cz, Nat.zero_mul, Nat.add_zero] at this
        exact this
      · rw [if_neg (show ¬ lg_cmp (lN (Wg c (cnt G) (pcn (cnt G) s))) 0 ≤ 0 from fun q => by
          have := (lN_leB (b := 0) (by omega) (by omega)).mp ((lg_cmp_le _ _).mp q)
          omega)]
        have h1 : RM0 G (ag_up τ 53 15 (nI s)) := h.up53 (by omega)
        have f1 : MFolk G (ag_up τ 53 15 (nI s)) := hf.up53 (by decide)
        have t1 : MT (ag_up τ 53 15 (nI s)) 8191 (-2) (nI s) (-1) 0 := ⟨by rw [ma_up_i (by decide)]; exact ht.1, by rw [ma_up_i (by decide)]; exact ht.2.1, ma_up_s _ _ _ _, by rw [ma_up_i (by decide)]; exact ht.2.2.2.1, by rw [ma_up_i (by decide)]; exact ht.2.2.2.2⟩
        obtain ⟨τ1, w1, w2, w3⟩ := sm_runs (last := 199) (show 600 ≤ n by omega) (by omega) (h1.VMsh f1 t1)
        have e7 : ag_up τ 53 15 (nI s) 53 7 = nI (sz (sSh G (nI s))) := h1.2.2.2.1.1
        have eb : bt (τ1 64 per) w = kSh G per w s := (w3.2.2 per (by omega)).at hw (by omega)
        have ef : ∀ k, k < 53 → τ1 k = τ k := fun k hk => by rw [w2 k (by omega) (by omega) (by omega), ag_up_ne (by omega)]
        rw [e7, show fn_X7_runs n 199 (nI (sz (sSh G (nI s)))) (ag_up τ 53 15 (nI s)) = _ from w1, Option.bind_some, if_pos (ma_ib (by omega) (by omega)), ma_cl (by omega), sm_isIn _ (show w < 32 by omega), Option.bind_some, eb]
        obtain ⟨τ', q1, q2, q3⟩ := sm_chanceL (x4 := x4) hn hg hp hw hc i (s + 1) _ τ1 (by omega) (by omega) (h1.f3 w2) (f1.f3 w2) (t1.f3 w2)
        cases ck : kSh G per w s with
        | false =>
          have e0 : fSh G per w s = 0 := by unfold fSh; rw [ck, if_neg (by decide)]
          rw [es, e0, Nat.mul_zero, ← lN_add] at q1
          rw [if_pos (show bI false = 0 from rfl)]
          exact ⟨τ', q1, q2, fun k hk => (q3 k hk).trans (ef k hk)⟩
        | true =>
          have e0 : fSh G per w s = 1 := by unfold fSh; rw [ck, if_pos rfl]
          rw [es, e0, Nat.mul_one, ← lN_add] at q1
          rw [if_neg (show ¬ bI true = 0 from n10)]
          exact ⟨τ', q1, q2, fun k hk => (q3 k hk).trans (ef k hk)⟩
theorem sm_allL {n N : Nat} {x1 x2 x3 x4 : Int32} {τ : Sg} (hN : N < 2 ^ 31) (hf : τ 53 2 = nI N) : ∀ (i v : Nat), N < i + v → v ≤ N → fn_X7_chanceOf_b10 n x1 x2 x3 x4 i (lN (16 ^ v)) (nI v) τ = fn_X7_chanceOf_b39 n x1 x2 x3 x4 n (lN (16 ^ N)) 0 0 τ
  | 0, v, a, b => by omega
  | i + 1, v, a, b => by
    rw [fn_X7_chanceOf_b10]
    dsimp only
    rw [hf]
    by_cases z : v = N
    · rw [if_pos (nI_le (show N ≤ v by omega) (by omega)), z]
    · rw [if_neg (nI_ge (by omega) (by omega)), show lN (16 ^ v) * 16 = lN (16 ^ v * 16) from lN_mul _ 16, nI_1 v, ← Nat.pow_succ]
      exact sm_allL hN hf i (v + 1) (by omega) (by omega)
def HCL (σ : Sg) (o : Option (Int64 × Sg)) (a : Int64) (G : Gs) : Prop := ∃ σ', o = some (a, σ') ∧ RC G σ' ∧ ∀ k, 53 ≤ k → σ' k = σ k
def HML (σ : Sg) (o : Option (Int64 × Sg)) (a : Int64) (G : Gs) : Prop := ∃ σ', o = some (a, σ') ∧ RM G σ' ∧ ∀ k, k < 53 → σ' k = σ k
theorem b16_48 : (16 : Nat) = 2 ^ 4 := rfl
theorem bo_chanceOf {n c per w : Nat} {G : Gs} {σ τ : Sg} {x4 : Int32} (hn : 5000 ≤ n) (hc : RC G σ) (hm : RM G τ) (hcc : c ≤ 16) (hp : per < cnt G) (hw : w < 8) : ∃ a, HCL σ (Option.bind (fn_X5_helpfulFor n 3 (nI per) (1 <<< (nI w &&& 31)) 199 σ) fun q173 =>
  (Option.bind (fn_X5_involvedIn n 3 q173.1 q173.2) fun q174 =>
  (Option.bind (fn_X6_weightOfKnowing n (nI c) (nI per) (nI w) (q174 ||| (1 <<< (nI per &&& 31))) q173.2) fun q175 =>
  (Option.bind (fn_J6_bitCount_0f7a4 (q174 ||| (1 <<< (nI per &&& 31))) q175.2) fun q176 =>
  (Option.bind (fn_X6_power n 16 q176 q175.2) fun q177 =>
  (fn_X6_chance_b95 n (nI c) (nI per) (nI w) x4 n q175.1 q177 0 q175.2)))))) a G ∧ HML τ (fn_X7_chanceOf n (nI c) (nI per) (nI w) x4 τ) a G := by
  have hg := hc.1.1
  have h10 : cnt G ≤ 10 := (cnt_ok hg.1).1
  have h12 : ls G ≤ 12 := hg.2.2.2.1
  have hpw : 2 ^ cnt G ≤ 1024 := Nat.pow_le_pow_right (n := 2) (by omega) h10
  obtain ⟨hh, H, W, σ1, r1, ⟨c1, c2, c3, c4, c5, c6⟩, r2⟩ := sp_helpful (n := n) (Y := 199) (per := per) (by omega) (by omega) hc (by omega) (IsB.one hw (show 8 ≤ 32 by omega))
  obtain ⟨x, s1, s2⟩ := sp_invL (n := n) c1 c2 n 0 0 (by omega) (by omega) (IsB.zero _)
  obtain ⟨I, i1, i2, i3⟩ := (s2.set (k := per) (by omega) (by omega)).toN (by omega)
  have hIn : ∀ p, I.testBit p = true → p < cnt G := fun p hpb => by
    rw [i3 p, Bool.and_eq_true, Bool.or_eq_true] at hpb
    obtain ⟨b1, b2⟩ := hpb
    rcases b2 with b2 | b2
    · obtain ⟨k, k1, k2⟩ := anyB_ex b2
      simp only [Bool.and_eq_true, Bool.or_eq_true, decide_eq_true_eq] at k2
      obtain ⟨d1, d2, d3⟩ := due_le (S := scn G) (y := 199) (by omega) (c6 k k1 k2.1)
      rcases k2.2 with e | e
      · rw [e]; exact (lvs_iff.mp d2).1
      · rw [e]; exact (lvs_iff.mp d3).1
    · have : p = per := of_decide_eq_true b2
      rw [this]; exact hp
  have hIc : I < 2 ^ cnt G := Nat.lt_pow_two_of_testBit I (fun p hpc => by
    cases cb : I.testBit p with
    | false => rfl
    | true => have := hIn p cb; omega)
  have hI12 : I < 2 ^ 12 := by
    have : 2 ^ 12 = 4096 := rfl
    omega
  have same : ∀ s, fSh G per w s = fSh G per w (s &&& I) := fun s => by
    unfold fSh
    rw [kSh_same (t := s &&& I) hg hp hw c4 r2 (fun q hq => ?_)]
    have hq2 : q < 10 ∧ (inv G H q = true ∨ q = per) := by
      rcases hq with e | ⟨k, k1, k2, k3⟩
      · exact ⟨by omega, Or.inr e⟩
      · obtain ⟨g1, g2, -⟩ := hg.2.2.2.2.1 k k1
        refine ⟨by rcases k3 with e | e <;> omega, Or.inl (anyB_t (v := k) ?_ k1)⟩
        rw [k2, Bool.true_and]
        rcases k3 with e | e
        · rw [decide_eq_true e, Bool.true_or]
        · rw [decide_eq_true e, Bool.or_true]
    have ib : I.testBit q = true := by
      rw [i3 q, decide_eq_true hq2.1, Bool.true_and]
      rcases hq2.2 with e | e
      · rw [e, Bool.true_or]
      · rw [decide_eq_true e, Bool.or_true]
    rw [ma_btn, ma_btn, Nat.testBit_and, ib, Bool.and_true]
  have mle := pcn_le (cnt G) I
  obtain ⟨d, hd⟩ : ∃ d, 12 = cnt G + d := ⟨12 - cnt G, by omega⟩
  have em : pc I = pcn (cnt G) I := by
    show pcn 12 I = _
    rw [hd]
    exact pcn_ext hIc d
  have eS : SCl c 12 I (fSh G per w) = SCl c (cnt G) I (fSh G per w) := by
    rw [hd]
    exact SCl_ext hIc
  have hSR := SR_SC hcc (cnt G) I (fSh G per w) same
  have f1 : ∀ s, fSh G per w s ≤ 1 := fun s => by
    unfold fSh
    split <;> omega
  have hSle := SR_le hcc (cnt G) (fSh G per w) f1
  have e16 : 16 ^ cnt G = 16 ^ (cnt G - pcn (cnt G) I) * 2 ^ (4 * pcn (cnt G) I) := by
    rw [Nat.pow_mul, show (2 : Nat) ^ 4 = 16 from rfl, ← Nat.pow_add]
    congr 1
    omega
  have hP : 0 < 16 ^ (cnt G - pcn (cnt G) I) := Nat.pow_pos (by omega)
  have hA : SCl c (cnt G) I (fSh G per w) ≤ 2 ^ (4 * pcn (cnt G) I) := by
    rw [hSR, e16] at hSle
    exact Nat.le_of_mul_le_mul_left hSle hP
  have h40 : 2 ^ (4 * pcn (cnt G) I) ≤ 2 ^ 40 := Nat.pow_le_pow_right (by omega) (by omega)
  obtain ⟨σ2, t1, t2, t3⟩ := sp_take c1
  have hpcI := pc_le I
  have hpw2 := pow_12 hpcI
  obtain ⟨σ3, u1, u2, u3⟩ := sp_sumL (n := n) (c := c) (I := I) (by omega) hg hp hw hcc hI12 n 0 σ2 (by omega) (Nat.zero_le _) ⟨_, t2⟩
  rw [pd_0] at u1
  obtain ⟨t, A, v1, v2, v3, v4⟩ := sp_halveL (n := n) (k := 4 * pcn (cnt G) I) (A0 := SCl c (cnt G) I (fSh G per w)) (x1 := nI c) (x2 := nI per) (x3 := nI w) (x4 := x4) (σ := σ3) (by omega) (by omega) n 0 (SCl c (cnt G) I (fSh G per w)) (by omega) (by omega) (by rw [Nat.pow_zero, Nat.mul_one])
  obtain ⟨τ1, q1, q2, q3, q4⟩ := hm.1.reads (show 20 ≤ n by omega)
  obtain ⟨τ2, y1, y2, y3⟩ := sm_chanceL (n := n) (c := c) (x4 := x4) (by omega) hg hp hw hcc n 0 0 τ1 (by omega) (Nat.zero_le _) q3 q4 (hm.2.f5 q2)
  have low := low_eq (P := 16 ^ (cnt G - pcn (cnt G) I)) (A := A) (t := t) (k := 4 * pcn (cnt G) I) hP v1 v3
  rw [v2, ← hSR, ← e16] at low
  refine ⟨if x4 = 0 then lN A else lN (2 ^ (4 * pcn (cnt G) I - t)), ⟨σ3, ?_, u2, fun k hk => by rw [u3 k hk, t3 k (by omega), c5 k (by omega)]⟩, ⟨τ2, ?_, y2, fun k hk => by rw [y3 k hk, q2.2 k (by omega) (by omega) (by omega) (by omega)]⟩⟩
  · rw [show fn_X5_helpfulFor n 3 (nI per) (1 <<< (nI w &&& 31)) 199 σ = _ from r1, Option.bind_some]
    dsimp only
    unfold fn_X5_involvedIn fn_X6_weightOfKnowing
    rw [show fn_X5_involvedIn_b4 n 3 hh σ1 n 0 0 = _ from s1, Option.bind_some, i2, sp_pc hI12, Option.bind_some, t1, Option.bind_some, show fn_X6_weightOfKnowing_b27 n (nI c) (nI per) (nI w) (nI I) n 0 (nI (pc I)) 0 0 σ2 = _ from u1, Option.bind_some]
    dsimp only
    rw [sp_pc hI12, Option.bind_some, show fn_X6_power n 16 (nI (pc I)) σ3 = _ from sp_power (n := n) (b := 16) (by omega) (by omega) hpcI σ3, Option.bind_some, eS, em, show (16 : Nat) ^ pcn (cnt G) I = 2 ^ (4 * pcn (cnt G) I - 0) by rw [Nat.sub_zero, Nat.pow_mul]]
    exact v4
  · unfold fn_X7_chanceOf
    rw [q1, Option.bind_some, show fn_X7_chanceOf_b10 n (nI c) (nI per) (nI w) x4 n 1 0 τ1 = _ from sm_allL (n := n) (N := cnt G) (by omega) q4.1 n 0 (by omega) (by omega), show fn_X7_chanceOf_b39 n (nI c) (nI per) (nI w) x4 n (lN (16 ^ cnt G)) 0 0 τ1 = _ from y1, low.1, low.2]
theorem bo_chance {n : Nat} {G : Gs} {σ τ : Sg} {x1 x2 x3 x4 : Int32} (hn : 5000 ≤ n) (hc : RC G σ) (hm : RM G τ) : ∃ a, HCL σ (fn_X6_chance n x1 x2 x3 x4 σ) a G ∧ HML τ (fn_X7_chance n x1 x2 x3 x4 τ) a G := by
  have bad : ∀ τ', RM G τ' → (∀ k, k < 53 → τ' k = τ k) → HML τ (fn_X7_chance_b59 n x1 x2 x3 x4 τ') (-9223372036854775806) G := fun τ' h1 h2 => ⟨τ', rfl, h1, h2⟩
  unfold fn_X6_chance fn_X7_chance fn_X7_chance_b29 fn_X7_chance_b30
  rw [if_pos (show (0 : Int32) = 0 from rfl)]
  rcases bo_ck (m := 16) (by omega) x1 σ τ with ⟨⟨c, hcc, rfl⟩, e1, e2⟩ | ⟨e1, e2⟩
  case inr =>
    rw [show fn_X6_isBelow x1 17 σ = _ from e1, show fn_X7_in x1 0 16 τ = _ from e2, Option.bind_some, Option.bind_some, if_pos rfl, if_pos rfl]
    exact ⟨_, ⟨σ, rfl, hc, fun _ _ => rfl⟩, bad τ hm (fun _ _ => rfl)⟩
  rw [show fn_X6_isBelow (nI c) 17 σ = _ from e1, show fn_X7_in (nI c) 0 16 τ = _ from e2, Option.bind_some, Option.bind_some, if_neg n10, if_neg n10]
  obtain ⟨τ', hm', hf, ek, h⟩ := ck_pers (show 20 ≤ n by omega) hc hm x2
  rcases h with ⟨⟨p, hp, rfl⟩, e3, e4⟩ | ⟨e3, e4⟩
  case inr =>
    rw [e3, e4, Option.bind_some, Option.bind_some, if_pos rfl]
    dsimp only
    rw [if_pos (show (0 : Int32) = 0 from rfl), if_pos (show (0 : Int32) = 0 from rfl)]
    exact ⟨_, ⟨σ, rfl, hc, fun _ _ => rfl⟩, bad τ' hm' ek⟩
  rw [e3, e4, Option.bind_some, Option.bind_some, if_neg n10]
  dsimp only
  rw [if_neg n10]
  rcases ck_word x3 σ τ' with ⟨⟨w, hw, rfl⟩, e5, e6⟩ | ⟨e5, e6⟩
  case inr =>
    rw [e5, e6, Option.bind_some, Option.bind_some, if_pos rfl, if_pos rfl, if_pos rfl]
    exact ⟨_, ⟨σ, rfl, hc, fun _ _ => rfl⟩, bad τ' hm' ek⟩
  rw [e5, e6, Option.bind_some, Option.bind_some, if_neg n10, if_neg n10, if_neg n10]
  rcases bo_ck (m := 1) (by omega) x4 σ τ' with ⟨-, e7, e8⟩ | ⟨e7, e8⟩
  case inr =>
    rw [show fn_X6_isBelow x4 2 σ = _ from e7, show fn_X7_in x4 0 1 τ' = _ from e8, Option.bind_some, Option.bind_some, if_pos rfl, if_pos rfl]
    exact ⟨_, ⟨σ, rfl, hc, fun _ _ => rfl⟩, bad τ' hm' ek⟩
  rw [show fn_X6_isBelow x4 2 σ = _ from e7, show fn_X7_in x4 0 1 τ' = _ from e8, Option.bind_some, Option.bind_some, if_neg n10, if_neg n10]
  obtain ⟨a, a1, τ2, b1, b2, b3⟩ := bo_chanceOf (x4 := x4) hn hc hm' (show c ≤ 16 by omega) hp hw
  refine ⟨a, a1, τ2, ?_, b2, fun k hk => (b3 k hk).trans (ek k hk)⟩
  rw [b1]
  rfl
