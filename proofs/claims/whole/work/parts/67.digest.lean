/-! digest -/
theorem bi_et {α β : Type} (o : Option (α × β)) : (Option.bind o fun q => some (q.1, q.2)) = o := by
  cases o <;> rfl
theorem sp_in {j m : Nat} (h : j < m) (hm : m < 2 ^ 31) (σ : Sg) : fn_X6_isBelow (nI j) (nI m) σ = some 1 := by
  unfold fn_X6_isBelow
  rw [if_neg (nI_pos (by omega)), if_neg (nI_ge h hm)]
theorem sm_inN {j m : Nat} (h : j ≤ m) (hm : m < 2 ^ 31) (τ : Sg) : fn_X7_in (nI j) 0 (nI m) τ = some 1 := by
  rw [sm_in, decide_eq_true (nI_pos' (show j < 2 ^ 31 by omega)), decide_eq_true (nI_le h hm)]
  rfl
theorem sm_inP {j z : Nat} (h : j < z) (hz : z < 2 ^ 31) (τ : Sg) : fn_X7_in (nI j) 0 (nI z - 1) τ = some 1 := by
  rw [sm_in, decide_eq_true (nI_pos' (show j < 2 ^ 31 by omega)), decide_eq_true ((ma_le_pred (by omega) hz).mpr h)]
  rfl
theorem HM.tr {τ τ1 : Sg} {o : Option (Int32 × Sg)} {a : Int32} {G : Gs} (h : HM τ1 o a G) (f : ∀ k, k < 53 → τ1 k = τ k) : HM τ o a G := by
  obtain ⟨τ', e, m, g⟩ := h
  exact ⟨τ', e, m, fun k hk => (g k hk).trans (f k hk)⟩
theorem d_opened {n k : Nat} {G : Gs} {σ τ : Sg} (hn : 600 ≤ n) (hc : RC G σ) (hm : RM G τ) (hk : k < ls G) : ∃ a, fn_X6_opened (nI k) σ = some a ∧ HM τ (fn_X7_openedOf n (nI k) τ) a G := by
  have h12 : ls G ≤ 12 := hc.1.1.2.2.2.1
  obtain ⟨a, e, h⟩ := bo_opened (x := nI k) hn hc hm
  unfold fn_X7_opened at h
  rw [hm.1.2.2.2.1.1, sm_inP hk (by omega), Option.bind_some, if_neg n10, bi_et] at h
  exact ⟨a, e, h⟩
theorem d_written {n k : Nat} {G : Gs} {σ τ : Sg} (hn : 600 ≤ n) (hc : RC G σ) (hm : RM G τ) (hk : k < ls G) : ∃ a, fn_X6_written (nI k) σ = some a ∧ HM τ (fn_X7_writtenOf n (nI k) τ) a G := by
  have h12 : ls G ≤ 12 := hc.1.1.2.2.2.1
  obtain ⟨a, e, h⟩ := bo_written (x := nI k) hn hc hm
  unfold fn_X7_written at h
  rw [hm.1.2.2.2.1.1, sm_inP hk (by omega), Option.bind_some, if_neg n10, bi_et] at h
  exact ⟨a, e, h⟩
theorem d_said {n k : Nat} {G : Gs} {σ τ : Sg} (hn : 600 ≤ n) (hc : RC G σ) (hm : RM G τ) (hk : k < ls G) : ∃ a, HC σ (fn_X6_said n (nI k) σ) a G ∧ HM τ (fn_X7_saidOf n (nI k) τ) a G := by
  have h12 : ls G ≤ 12 := hc.1.1.2.2.2.1
  obtain ⟨a, e, h⟩ := bo_said (x := nI k) hn hc hm
  unfold fn_X7_said at h
  rw [hm.1.2.2.2.1.1, sm_inP hk (by omega), Option.bind_some, if_neg n10, bi_et] at h
  exact ⟨a, e, h⟩
theorem d_loud {n f : Nat} {G : Gs} {σ τ : Sg} (hn : 600 ≤ n) (hc : RC G σ) (hm : RM G τ) (hf : f < 2) : ∃ a, fn_X6_loud n (nI f) σ = some a ∧ HM τ (fn_X7_loudOf n (nI f) τ) a G := by
  obtain ⟨a, e, h⟩ := bo_loud (x := nI f) hn hc hm
  unfold fn_X7_loud at h
  rw [show fn_X7_in (nI f) 0 1 τ = _ from sm_inN (m := 1) (by omega) (by omega) τ, Option.bind_some, if_neg n10, bi_et] at h
  exact ⟨a, e, h⟩
theorem d_waits {n f : Nat} {G : Gs} {σ τ : Sg} (hn : 600 ≤ n) (hc : RC G σ) (hm : RM G τ) (hf : f < 2) : ∃ a, fn_X6_waits n 60 (nI f) σ = some a ∧ HM τ (fn_X7_waitsOf n 60 (nI f) τ) a G := by
  obtain ⟨a, e, h⟩ := bo_waits (x1 := 60) (x2 := nI f) hn hc hm
  unfold fn_X7_waits at h
  rw [sm_year (x := 60) (sm_inN (j := 60) (m := 199) (by omega) (by omega) τ) bl1, Option.bind_some, if_neg n10, show fn_X7_in (nI f) 0 1 τ = _ from sm_inN (m := 1) (by omega) (by omega) τ, Option.bind_some, if_neg n10, bi_et] at h
  exact ⟨a, e, h⟩
theorem d_known {n y p : Nat} {G : Gs} {σ τ : Sg} (hn : 600 ≤ n) (hc : RC G σ) (hm : RM G τ) (hy : y < 200) (hp : p < cnt G) : ∃ a, fn_X6_known n (nI y) (nI p) σ = some a ∧ HM τ (fn_X7_knownOf n (nI y) (nI p) τ) a G := by
  have h10 : cnt G ≤ 10 := (cnt_ok hc.1.1.1).1
  obtain ⟨x, s1, s2⟩ := sp_words (n := n) (b := 3) (p := p) (y := y) (S := scn G) hc.1.VF hc.2 hp hy n 0 0 (by omega) (by omega) ((IsB.zero _).congr (fun k _ => by rw [decide_eq_false (by omega)]; rfl))
  obtain ⟨τ1, r1, r2, r3, r4, r5⟩ := hm.runsTo (n := n) (y := y) hn (by omega)
  refine ⟨x, ?_, τ1, ?_, r2, r5⟩
  · unfold fn_X6_known fn_X5_wordsBehind
    rw [show fn_X6_isBelow (nI y) 200 σ = _ from sp_in (m := 200) hy (by omega) σ, Option.bind_some, if_neg n10, sp_isThere hc.1.VF (by omega), Option.bind_some, decide_eq_true (show p < cn (scn G) from hp), if_neg (show ¬ bI true = 0 from n10), show fn_X5_wordsBehind_b5 n 3 (nI y) (nI p) σ n 0 0 = _ from s1]
    rfl
  · unfold fn_X7_knownOf
    rw [r1, Option.bind_some, if_pos (ma_ib (by omega) (by omega)), ma_cl (by omega), (r4.2.2 p (by omega)).eq s2 (fun _ _ => rfl)]
theorem d_learned {n p : Nat} {G : Gs} {σ τ : Sg} (hn : 600 ≤ n) (hc : RC G σ) (hm : RM G τ) (hp : p < cnt G) : ∃ a τ', fn_X6_learned (nI p) 0 σ = some a ∧ fn_X7_learnedOf n (nI p) 0 τ = some (a, τ') ∧ RM G τ' ∧ MFolk G τ' ∧ ∀ k, k < 53 → τ' k = τ k := by
  have h10 : cnt G ≤ 10 := (cnt_ok hc.1.1.1).1
  obtain ⟨τ1, q1, q2, q3, q4⟩ := hm.1.reads (show 20 ≤ n by omega)
  have m1 : RM G τ1 := ⟨q3, hm.2.f5 q2⟩
  obtain ⟨τ2, t1, t2⟩ := sm_learnsIn (n := n) (p := p) (w := 0) (S := scn G) hn hp (by omega) (m1.VM q4)
  refine ⟨oI ((sim (scn G) 200).2.2 p 0), τ2, ?_, ?_, ⟨m1.1.f3 t2, m1.2.f3 t2⟩, q4.f3 t2, fun k hk => by rw [t2 k (by omega) (by omega) (by omega), q2.2 k (by omega) (by omega) (by omega) (by omega)]⟩
  · unfold fn_X6_learned
    rw [sp_isThere hc.1.VF (by omega), Option.bind_some, decide_eq_true (show p < cn (scn G) from hp), if_neg (show ¬ bI true = 0 from n10), show fn_X6_isBelow 0 8 σ = _ from sp_in (j := 0) (m := 8) (by omega) (by omega) σ, Option.bind_some, if_neg n10, show fn_X5_learningYear 3 (nI p) 0 σ = _ from sp_learning (b := 3) (w := 0) hc.1.VF hc.2 hp (by omega)]
    rfl
  · unfold fn_X7_learnedOf
    have e7 : τ1 53 7 = nI (sz (scn G)) := m1.1.2.2.2.1.1
    rw [q1, Option.bind_some, e7, show fn_X7_learnsIn n (nI p) 0 (nI (sz (scn G))) τ1 = _ from t1]
    rfl
theorem d_age {p : Nat} {G : Gs} {σ τ : Sg} (hc : RC G σ) (hm : RM G τ) (hf : MFolk G τ) (hp : p < cnt G) : ∃ a, fn_X6_age (nI p) 40 σ = some a ∧ fn_X7_ageOf (nI p) 40 τ = some a := by
  have h10 : cnt G ≤ 10 := (cnt_ok hc.1.1.1).1
  unfold fn_X6_age fn_X7_ageOf
  rw [sp_isThere hc.1.VF (by omega), Option.bind_some, decide_eq_true (show p < cn (scn G) from hp), if_neg (show ¬ bI true = 0 from n10), show fn_X6_isBelow 40 200 σ = _ from sp_in (j := 40) (m := 200) (by omega) (by omega) σ, Option.bind_some, if_neg n10, show fn_X1_lives 4 (nI p) 40 σ = _ from sp_lives (y := 40) hc.1.VF (by omega) (by omega), show fn_X7_lives (nI p) 40 τ = _ from sm_lives (y := 40) (hm.VM hf) (by omega) (by omega), Option.bind_some, Option.bind_some]
  cases c : lvs (scn G) p 40 with
  | false =>
    rw [if_pos (show bI false = 0 from rfl), if_pos (show bI false = 0 from rfl)]
    exact ⟨_, rfl, rfl⟩
  | true =>
    rw [if_neg (show ¬ bI true = 0 from n10), if_neg (show ¬ bI true = 0 from n10), show fn_X1_toldAge 4 (nI p) 40 σ = _ from sp_told (y := 40) hc.1.VF hp (lvs_bo c).2 (by omega), show fn_X7_tells (nI p) 40 τ = _ from sm_tells (y := 40) (hm.VM hf) hp (lvs_bo c).2 (by omega)]
    exact ⟨_, rfl, rfl⟩
theorem d_person {n p f : Nat} {G : Gs} {σ τ : Sg} (hn : 20 ≤ n) (hc : RC G σ) (hm : RM G τ) (hp : p < cnt G) (hf : f < 3) : HM τ (fn_X7_person n (nI p) (nI f) τ) (σ (5 + f) p) G := by
  have h10 : cnt G ≤ 10 := (cnt_ok hc.1.1.1).1
  obtain ⟨a, e, h⟩ := bo_person (x1 := nI p) (x2 := nI f) hn hc hm
  have I : ag_ib (nI p) 10 = true := ma_ib (by omega) (by omega)
  unfold fn_X6_person at e
  rw [sp_isThere hc.1.VF (by omega), Option.bind_some, decide_eq_true (show p < cn (scn G) from hp), if_neg (show ¬ bI true = 0 from n10), if_pos I, if_pos I, if_pos I, ma_cl (by omega)] at e
  have : σ (5 + f) p = a := by
    have : f = 0 ∨ f = 1 ∨ f = 2 := by omega
    rcases this with q | q | q
    · subst q
      rw [if_pos (show nI 0 = (0 : Int32) from rfl)] at e
      exact Option.some.inj e
    · subst q
      rw [if_neg (show ¬ nI 1 = (0 : Int32) by decide), if_pos (show nI 1 = (1 : Int32) from rfl)] at e
      exact Option.some.inj e
    · subst q
      rw [if_neg (show ¬ nI 2 = (0 : Int32) by decide), if_neg (show ¬ nI 2 = (1 : Int32) by decide), if_pos (show nI 2 = (2 : Int32) from rfl)] at e
      exact Option.some.inj e
  rw [this]
  exact h
/-- the end of it -/
theorem bo_dEnd {n : Nat} {G : Gs} {σ τ : Sg} {h s0 : Int64} {s1 : Int32} (hn : 5000 ≤ n) (hc : RC G σ) (hm : RM G τ) (hh : h = s0 + s1.toInt64) : ∃ a, HCL σ (Option.bind (fn_X6_trust n 0 0 σ) fun q227 =>
  (Option.bind (fn_X6_teach n 0 1 30 q227.2) fun q228 =>
  (Option.bind (fn_X6_forged n q228.2) fun q229 =>
  (Option.bind (fn_X6_chance n 4 0 0 0 q229.2) fun q230 =>
  (Option.bind (fn_X6_chance n 4 0 0 1 q230.2) fun q231 =>
  (Option.bind (fn_X6_drawn n 7 4 q231.2) fun q232 =>
  (some (((31 * ((31 * ((31 * ((31 * ((31 * ((31 * h) + q227.1.toInt64)) + q228.1.toInt64)) + q229.1.toInt64)) + q230.1)) + q231.1)) + q232.1.toInt64), q232.2)))))))) a G ∧ HML τ (fn_X7_digest_b344 n s0 s1 τ) a G := by
  obtain ⟨a1, ⟨σ1, c1, r1, f1⟩, τ1, d1, m1, g1⟩ := bo_trust (x1 := 0) (x2 := 0) (show 2000 ≤ n by omega) hc hm
  obtain ⟨a2, ⟨σ2, c2, r2, f2⟩, τ2, d2, m2, g2⟩ := bo_teach (x1 := 0) (x2 := 1) (x3 := 30) hn r1 m1
  obtain ⟨a3, ⟨σ3, c3, r3, f3⟩, τ3, d3, m3, g3⟩ := bo_forged (show 600 ≤ n by omega) r2 m2
  obtain ⟨a4, ⟨σ4, c4, r4, f4⟩, τ4, d4, m4, g4⟩ := bo_chance (x1 := 4) (x2 := 0) (x3 := 0) (x4 := 0) hn r3 m3
  obtain ⟨a5, ⟨σ5, c5, r5, f5⟩, τ5, d5, m5, g5⟩ := bo_chance (x1 := 4) (x2 := 0) (x3 := 0) (x4 := 1) hn r4 m4
  obtain ⟨a6, ⟨σ6, c6, r6, f6⟩, τ6, d6, m6, g6⟩ := bo_drawn (x1 := 7) (x2 := 4) (show 600 ≤ n by omega) r5 m5
  unfold fn_X7_forged at d3
  rw [bi_et] at d3
  unfold fn_X7_drawn at d6
  rw [show fn_X7_in 4 0 16 τ5 = _ from sm_inN (j := 4) (m := 16) (by omega) (by omega) τ5, Option.bind_some, if_neg n10, bi_et] at d6
  refine ⟨31 * (31 * (31 * (31 * (31 * (31 * h + a1.toInt64) + a2.toInt64) + a3.toInt64) + a4) + a5) + a6.toInt64, ⟨σ6, ?_, r6, fun k hk => by rw [f6 k hk, f5 k hk, f4 k hk, f3 k hk, f2 k hk, f1 k hk]⟩, ⟨τ6, ?_, m6, fun k hk => by rw [g6 k hk, g5 k hk, g4 k hk, g3 k hk, g2 k hk, g1 k hk]⟩⟩
  · rw [c1, Option.bind_some]
    dsimp only
    rw [c2, Option.bind_some]
    dsimp only
    rw [c3, Option.bind_some]
    dsimp only
    rw [c4, Option.bind_some]
    dsimp only
    rw [c5, Option.bind_some]
    dsimp only
    rw [c6, Option.bind_some]
  · unfold fn_X7_digest_b344
    rw [d1, Option.bind_some]
    dsimp only
    rw [d2, Option.bind_some]
    dsimp only
    rw [d3, Option.bind_some]
    dsimp only
    rw [d4, Option.bind_some]
    dsimp only
    rw [d5, Option.bind_some]
    dsimp only
    rw [d6, Option.bind_some, hh]
/-- send, by what the reference has set -/
theorem d_send {n w p f : Nat} {G : Gs} {σ τ τ1 : Sg} (hn : 600 ≤ n) (hc : RC G σ) (hm : RM G τ) (hp : p < cnt G) (hw : w < 8) (hf : f < 3) (e : fn_X7_sends n (nI w) (nI p) τ = some τ1) : HC σ (fn_X6_send n (nI w) (nI p) (nI f) σ) (if f = 0 then τ1 53 22 else if f = 1 then τ1 53 23 else τ1 53 24) G := by
  have h10 : cnt G ≤ 10 := (cnt_ok hc.1.1.1).1
  obtain ⟨best, σ1, τ1', a1, a2, a3, a4, a5, a6, a7⟩ := bo_sends hn hc hm hp hw
  have : τ1' = τ1 := Option.some.inj (a2.symm.trans e)
  subst this
  unfold fn_X6_send
  rw [show fn_X6_isBelow (nI w) 8 σ = _ from sp_in (m := 8) hw (by omega) σ, Option.bind_some, if_neg n10, sp_isThere hc.1.VF (by omega), Option.bind_some, decide_eq_true (show p < cn (scn G) from hp), if_neg (show ¬ bI true = 0 from n10), show fn_X6_isBelow (nI f) 3 σ = _ from sp_in (m := 3) hf (by omega) σ, Option.bind_some, if_neg n10, a1, Option.bind_some]
  dsimp only
  rcases a5 with ⟨b0, b1, b2, b3⟩ | ⟨t, q, y, t1, t2, t3, b0, b1, b2, b3⟩
  · rw [if_pos b0, b1, b2, b3, ite_self, ite_self]
    exact ⟨σ1, rfl, a3, a6⟩
  · have d1 : nI ((t * 10 + q) * 200 + y) / 2000 = nI t := by
      rw [show nI ((t * 10 + q) * 200 + y) / 2000 = nI (((t * 10 + q) * 200 + y) / 2000) from pk_div (d := 2000) (by omega) (by omega) (by omega)]
      congr 1
      omega
    have d2 : nI ((t * 10 + q) * 200 + y) / 200 = nI (t * 10 + q) := by
      rw [show nI ((t * 10 + q) * 200 + y) / 200 = nI (((t * 10 + q) * 200 + y) / 200) from pk_div (d := 200) (by omega) (by omega) (by omega)]
      congr 1
      omega
    have d3 : nI (t * 10 + q) / 10 = nI t := by
      rw [show nI (t * 10 + q) / 10 = nI ((t * 10 + q) / 10) from pk_div (d := 10) (by omega) (by omega) (by omega)]
      congr 1
      omega
    have d4 : nI (t * 10 + q) - nI t * 10 = nI q := by
      rw [show nI t * 10 = nI (t * 10) from nI_mul t 10, pk_sub (by omega)]
      congr 1
      omega
    have d5 : nI ((t * 10 + q) * 200 + y) - nI (t * 10 + q) * 200 = nI y := by
      rw [show nI (t * 10 + q) * 200 = nI ((t * 10 + q) * 200) from nI_mul _ 200, pk_sub (by omega)]
      congr 1
      omega
    rw [b0, if_neg (ma_m1 (by omega)), d1, d2, d3, d4, d5, b1, b2, b3]
    have : f = 0 ∨ f = 1 ∨ f = 2 := by omega
    rcases this with z | z | z
    · subst z
      exact ⟨σ1, rfl, a3, a6⟩
    · subst z
      exact ⟨σ1, rfl, a3, a6⟩
    · subst z
      exact ⟨σ1, rfl, a3, a6⟩
theorem sent_2 {best : Int32} {τ : Sg} (h : Sent best τ) : ¬ τ 53 22 = -2 := by
  rcases h with ⟨-, b1, -⟩ | ⟨t, p, y, t1, -, -, -, b1, -⟩
  · rw [b1]; decide
  · rw [b1]
    intro e
    have : (nI t) < 0 := by rw [e]; decide
    exact nI_pos (by omega) this
theorem HCL.tr {σ σ1 : Sg} {o : Option (Int64 × Sg)} {a : Int64} {G : Gs} (h : HCL σ1 o a G) (f : ∀ k, 53 ≤ k → σ1 k = σ k) : HCL σ o a G := by
  obtain ⟨σ', e, m, g⟩ := h
  exact ⟨σ', e, m, fun k hk => (g k hk).trans (f k hk)⟩
theorem HML.tr {τ τ1 : Sg} {o : Option (Int64 × Sg)} {a : Int64} {G : Gs} (h : HML τ1 o a G) (f : ∀ k, k < 53 → τ1 k = τ k) : HML τ o a G := by
  obtain ⟨τ', e, m, g⟩ := h
  exact ⟨τ', e, m, fun k hk => (g k hk).trans (f k hk)⟩
/-- from the sends on -/
theorem bo_dTail {n : Nat} {G : Gs} {σ τ : Sg} {h : Int64} (hn : 5000 ≤ n) (hc : RC G σ) (hm : RM G τ) : ∃ a, HCL σ (fn_X6_digest_b189 n n h 0 σ) a G ∧ HML τ (Option.bind (fn_X7_send n 0 0 0 τ) fun q443 =>
  (if q443.1 = (-2) then (fn_X7_digest_b321 n q443.1 (31 * ((31 * h) + q443.1.toInt64)) (-2) q443.2)
  else (fn_X7_digest_b321 n q443.1 (31 * ((31 * h) + q443.1.toInt64)) (q443.2 53 23) q443.2))) a G := by
  have h10 : cnt G ≤ 10 := (cnt_ok hc.1.1.1).1
  obtain ⟨m, e⟩ : ∃ m, n = m + 1 + 1 + 1 + 1 := ⟨n - 4, by omega⟩
  have unr : ∀ (h : Int64) (σ : Sg), fn_X6_digest_b189 n n h 0 σ = Option.bind (fn_X6_send n 0 0 0 σ) fun q0 => Option.bind (fn_X6_send n 0 0 1 q0.2) fun q1 => Option.bind (fn_X6_send n 0 0 2 q1.2) fun q2 => Option.bind (fn_X6_trust n 0 0 q2.2) fun q227 =>
  (Option.bind (fn_X6_teach n 0 1 30 q227.2) fun q228 =>
  (Option.bind (fn_X6_forged n q228.2) fun q229 =>
  (Option.bind (fn_X6_chance n 4 0 0 0 q229.2) fun q230 =>
  (Option.bind (fn_X6_chance n 4 0 0 1 q230.2) fun q231 =>
  (Option.bind (fn_X6_drawn n 7 4 q231.2) fun q232 =>
  (some (((31 * ((31 * ((31 * ((31 * ((31 * ((31 * ((31 * ((31 * ((31 * h) + q0.1.toInt64)) + q1.1.toInt64)) + q2.1.toInt64)) + q227.1.toInt64)) + q228.1.toInt64)) + q229.1.toInt64)) + q230.1)) + q231.1)) + q232.1.toInt64), q232.2))))))) := fun h σ => by
    have step : ∀ (i : Nat) (h : Int64) (σ : Sg) (v : Int32), ¬ (3 : Int32) ≤ v → fn_X6_digest_b189 n (i + 1) h v σ = Option.bind (fn_X6_send n 0 0 v σ) fun q => fn_X6_digest_b189 n i ((31 * h) + q.1.toInt64) (v + 1) q.2 := fun i h σ v hv => by
      rw [fn_X6_digest_b189]
      dsimp only
      rw [if_neg hv]
    rw [show fn_X6_digest_b189 n n h 0 σ = fn_X6_digest_b189 n (m + 1 + 1 + 1 + 1) h 0 σ by rw [← e], step _ _ _ _ (by decide)]
    congr 1
  rw [unr]
  by_cases c0 : 0 < cnt G
  · obtain ⟨best, σa, τ1, a1, a2, a3, a4, a5, a6, a7⟩ := bo_sends (q := 0) (w := 0) (show 600 ≤ n by omega) hc (show RM G τ from hm) c0 (by omega)
    obtain ⟨τ', hm', hf, ek, hck⟩ := ck_pers (show 20 ≤ n by omega) hc hm 0
    have hp1 : fn_X7_isPerson n 0 τ = some (1, τ') := by
      rcases hck with ⟨-, -, q⟩ | ⟨q, -⟩
      · exact q
      · rw [show fn_X1_isThere 4 0 σ = _ from sp_isThere (p := 0) hc.1.VF (by omega), decide_eq_true (show 0 < cn (scn G) from c0)] at q
        exact absurd (Option.some.inj q) n10
    obtain ⟨best2, σb, τ2, b1, b2, b3, b4, b5, b6, b7⟩ := bo_sends (q := 0) (w := 0) (show 600 ≤ n by omega) hc hm' c0 (by omega)
    obtain ⟨σ1, s1, s2, s3⟩ := d_send (w := 0) (p := 0) (f := 0) (show 600 ≤ n by omega) hc hm' c0 (by omega) (by omega) b2
    obtain ⟨σ2, s4, s5, s6⟩ := d_send (w := 0) (p := 0) (f := 1) (show 600 ≤ n by omega) s2 hm' c0 (by omega) (by omega) b2
    obtain ⟨σ3, s7, s8, s9⟩ := d_send (w := 0) (p := 0) (f := 2) (show 600 ≤ n by omega) s5 hm' c0 (by omega) (by omega) b2
    have s1 : fn_X6_send n 0 0 0 σ = some (τ2 53 22, σ1) := s1
    have s4 : fn_X6_send n 0 0 1 σ1 = some (τ2 53 23, σ2) := s4
    have s7 : fn_X6_send n 0 0 2 σ2 = some (τ2 53 24, σ3) := s7
    have es : fn_X7_send n 0 0 0 τ = some (τ2 53 22, τ2) := by
      unfold fn_X7_send fn_X7_sendOf
      rw [sm_word (x := 0) (sm_inN (j := 0) (m := 7) (by omega) (by omega) τ) bl1, Option.bind_some, if_neg n10, hp1, Option.bind_some]
      dsimp only
      rw [if_neg n10, show fn_X7_in 0 0 2 τ' = _ from sm_inN (j := 0) (m := 2) (by omega) (by omega) τ', Option.bind_some, if_neg n10, show fn_X7_sends n 0 0 τ' = _ from b2, Option.bind_some, if_pos rfl]
      rfl
    rw [s1, Option.bind_some]
    dsimp only
    rw [s4, Option.bind_some]
    dsimp only
    rw [s7, Option.bind_some, es, Option.bind_some]
    dsimp only
    unfold fn_X7_digest_b321
    rw [if_neg (sent_2 b5), if_neg (sent_2 b5)]
    obtain ⟨a, x1, x2⟩ := bo_dEnd (n := n) (h := 31 * (31 * (31 * h + (τ2 53 22).toInt64) + (τ2 53 23).toInt64) + (τ2 53 24).toInt64) (s0 := 31 * (31 * (31 * h + (τ2 53 22).toInt64) + (τ2 53 23).toInt64)) (s1 := τ2 53 24) hn s8 b4 rfl
    exact ⟨a, x1.tr (fun k hk => by rw [s9 k hk, s6 k hk, s3 k hk]), x2.tr (fun k hk => by rw [b7 k hk, ek k hk])⟩
  · have z0 : cnt G = 0 := by omega
    have th : fn_X1_isThere 4 0 σ = some 0 := by
      rw [show fn_X1_isThere 4 0 σ = _ from sp_isThere (p := 0) hc.1.VF (by omega), decide_eq_false (show ¬ 0 < cn (scn G) from c0)]
      rfl
    have bad : ∀ f, fn_X6_send n 0 0 f σ = some (-2, σ) := fun f => by
      unfold fn_X6_send
      rw [show fn_X6_isBelow 0 8 σ = _ from sp_in (j := 0) (m := 8) (by omega) (by omega) σ, Option.bind_some, if_neg n10, th, Option.bind_some, if_pos rfl]
    obtain ⟨τ', hm', hf, ek, hck⟩ := ck_pers (show 20 ≤ n by omega) hc hm 0
    have hp1 : fn_X7_isPerson n 0 τ = some (0, τ') := by
      rcases hck with ⟨-, q, -⟩ | ⟨-, q⟩
      · rw [th] at q
        exact absurd (Option.some.inj q).symm n10
      · exact q
    have es : fn_X7_send n 0 0 0 τ = some (-2, τ') := by
      unfold fn_X7_send
      rw [sm_word (x := 0) (sm_inN (j := 0) (m := 7) (by omega) (by omega) τ) bl1, Option.bind_some, if_neg n10, hp1, Option.bind_some]
      dsimp only
      rw [if_pos rfl]
    rw [bad, Option.bind_some]
    dsimp only
    rw [bad, Option.bind_some]
    dsimp only
    rw [bad, Option.bind_some, es, Option.bind_some]
    dsimp only
    unfold fn_X7_digest_b321
    rw [if_pos rfl, if_pos rfl]
    obtain ⟨a, x1, x2⟩ := bo_dEnd (n := n) (h := 31 * (31 * (31 * h + (-2 : Int32).toInt64) + (-2 : Int32).toInt64) + (-2 : Int32).toInt64) (s0 := 31 * (31 * (31 * h + (-2 : Int32).toInt64) + (-2 : Int32).toInt64)) (s1 := -2) hn hc hm' rfl
    exact ⟨a, x1, x2.tr ek⟩
/-- the letters -/
theorem bo_dLet {n : Nat} {G : Gs} (hn : 5000 ≤ n) : ∀ (i v : Nat) (h : Int64) (σ τ : Sg), ls G < i + v → v ≤ ls G → RC G σ → RM G τ → ∃ a, HCL σ (fn_X6_digest_b51 n i h (nI v) σ) a G ∧ HML τ (fn_X7_digest_b151 n i h (nI v) τ) a G
  | 0, v, h, σ, τ, b1, b2, hc, hm => by omega
  | i + 1, v, h, σ, τ, b1, b2, hc, hm => by
    have h12 : ls G ≤ 12 := hc.1.1.2.2.2.1
    have h6 : 600 ≤ n := by omega
    rw [fn_X6_digest_b51, fn_X7_digest_b151]
    dsimp only
    rw [hc.1.2.2.2.2.1.1, hm.1.2.2.2.1.1]
    by_cases z : v = ls G
    · rw [if_pos (nI_le (show ls G ≤ v by omega) (by omega)), if_pos (nI_le (show ls G ≤ v by omega) (by omega))]
      obtain ⟨a1, c1, τ1, d1, m1, g1⟩ := bo_sealed h6 hc hm
      unfold fn_X7_sealed at d1
      rw [bi_et] at d1
      obtain ⟨a2, c2, τ2, d2, m2, g2⟩ := d_loud (f := 0) h6 hc m1 (by omega)
      obtain ⟨a3, c3, τ3, d3, m3, g3⟩ := d_loud (f := 1) h6 hc m2 (by omega)
      obtain ⟨a4, ⟨σ4, c4, r4, f4⟩, τ4, d4, m4, g4⟩ := bo_tooSoon h6 hc m3
      unfold fn_X7_tooSoon at d4
      rw [bi_et] at d4
      obtain ⟨a5, c5, τ5, d5, m5, g5⟩ := d_waits (f := 0) h6 r4 m4 (by omega)
      obtain ⟨a6, c6, τ6, d6, m6, g6⟩ := d_waits (f := 1) h6 r4 m5 (by omega)
      rw [c1, Option.bind_some, show fn_X6_loud n 0 σ = _ from c2, Option.bind_some, show fn_X6_loud n 1 σ = _ from c3, Option.bind_some, c4, Option.bind_some, d1, Option.bind_some]
      dsimp only
      rw [show fn_X7_loudOf n 0 τ1 = _ from d2, Option.bind_some]
      dsimp only
      rw [show fn_X7_loudOf n 1 τ2 = _ from d3, Option.bind_some]
      dsimp only
      rw [d4, Option.bind_some]
      dsimp only
      rw [show fn_X7_waitsOf n 60 0 τ4 = _ from d5, Option.bind_some]
      dsimp only
      rw [show fn_X7_waitsOf n 60 1 τ5 = _ from d6, Option.bind_some, show fn_X6_waits n 60 0 σ4 = _ from c5, Option.bind_some, show fn_X6_waits n 60 1 σ4 = _ from c6, Option.bind_some]
      dsimp only
      obtain ⟨a, x1, x2⟩ := bo_dTail (n := n) (h := 31 * (31 * (31 * (31 * (31 * (31 * h + a1.toInt64) + a2.toInt64) + a3.toInt64) + a4.toInt64) + a5.toInt64) + a6.toInt64) hn r4 m6
      exact ⟨a, x1.tr f4, x2.tr (fun k hk => by rw [g6 k hk, g5 k hk, g4 k hk, g3 k hk, g2 k hk, g1 k hk])⟩
    · have hv : v < ls G := by omega
      obtain ⟨a1, c1, τ1, d1, m1, g1⟩ := d_opened h6 hc hm hv
      obtain ⟨a2, c2, τ2, d2, m2, g2⟩ := d_written h6 hc m1 hv
      obtain ⟨a3, ⟨σ3, c3, r3, f3⟩, τ3, d3, m3, g3⟩ := d_said h6 hc m2 hv
      rw [if_neg (nI_ge (by omega) (by omega)), if_neg (nI_ge (by omega) (by omega)), c1, Option.bind_some, c2, Option.bind_some, c3, Option.bind_some, d1, Option.bind_some]
      dsimp only
      rw [d2, Option.bind_some]
      dsimp only
      rw [d3, Option.bind_some, nI_1 v]
      dsimp only
      obtain ⟨a, x1, x2⟩ := bo_dLet hn i (v + 1) (31 * (31 * (31 * h + a1.toInt64) + a2.toInt64) + a3.toInt64) σ3 τ3 (by omega) (by omega) r3 m3
      exact ⟨a, x1.tr f3, x2.tr (fun k hk => by rw [g3 k hk, g2 k hk, g1 k hk])⟩
/-- the people -/
theorem bo_dPer {n : Nat} {G : Gs} {σ : Sg} {x1 : Int64} (hn : 5000 ≤ n) (hc : RC G σ) : ∀ (i v : Nat) (h : Int64) (τ : Sg), cnt G < i + v → v ≤ cnt G → RM G τ → MFolk G τ → ∃ h' τ', fn_X6_mixPersons_b5 n x1 σ i h (nI v) = some h' ∧ fn_X7_digest_b45 n i h (nI v) τ = fn_X7_digest_b151 n n h' 0 τ' ∧ RM G τ' ∧ ∀ k, k < 53 → τ' k = τ k
  | 0, v, h, τ, b1, b2, hm, hf => by omega
  | i + 1, v, h, τ, b1, b2, hm, hf => by
    have h10 : cnt G ≤ 10 := (cnt_ok hc.1.1.1).1
    have h6 : 600 ≤ n := by omega
    rw [fn_X6_mixPersons_b5, fn_X7_digest_b45]
    dsimp only
    rw [hc.1.2.2.2.1.1, hf.1]
    by_cases z : v = cnt G
    · rw [if_pos (nI_le (show cnt G ≤ v by omega) (by omega)), if_pos (nI_le (show cnt G ≤ v by omega) (by omega))]
      exact ⟨h, τ, rfl, rfl, hm, fun _ _ => rfl⟩
    · have hv : v < cnt G := by omega
      have I : ag_ib (nI v) 10 = true := ma_ib (by omega) (by omega)
      rw [if_neg (nI_ge (by omega) (by omega)), if_neg (nI_ge (by omega) (by omega)), if_pos I, if_pos I, if_pos I, ma_cl (by omega)]
      obtain ⟨τ1, d1, m1, g1⟩ := d_person (n := n) (p := v) (f := 0) (by omega) hc hm hv (by omega)
      obtain ⟨τ2, d2, m2, g2⟩ := d_person (n := n) (p := v) (f := 1) (by omega) hc m1 hv (by omega)
      obtain ⟨τ3, d3, m3, g3⟩ := d_person (n := n) (p := v) (f := 2) (by omega) hc m2 hv (by omega)
      obtain ⟨a4, c4, τ4, d4, m4, g4⟩ := d_known (n := n) (y := 50) h6 hc m3 (by omega) hv
      obtain ⟨a5, c5, τ5, d5, m5, g5⟩ := d_known (n := n) (y := 199) h6 hc m4 (by omega) hv
      obtain ⟨a6, τ6, c6, d6, m6, mf6, g6⟩ := d_learned (n := n) h6 hc m5 hv
      obtain ⟨a7, c7, d7⟩ := d_age hc m6 mf6 hv
      rw [show fn_X6_known n 50 (nI v) σ = _ from c4, Option.bind_some, show fn_X6_known n 199 (nI v) σ = _ from c5, Option.bind_some, c6, Option.bind_some, c7, Option.bind_some, nI_1 v]
      obtain ⟨m, e⟩ : ∃ m, n = m + 1 + 1 + 1 + 1 := ⟨n - 4, by omega⟩
      have step : ∀ (j : Nat) (h : Int64) (τ : Sg) (u : Int32), ¬ (3 : Int32) ≤ u → fn_X7_digest_b56 n (fn_X7_digest_b45 n i) (j + 1) h (nI v) u τ = Option.bind (fn_X7_person n (nI v) u τ) fun q => fn_X7_digest_b56 n (fn_X7_digest_b45 n i) j ((31 * h) + q.1.toInt64) (nI v) (u + 1) q.2 := fun j h τ u hu => by
        rw [fn_X7_digest_b56]
        dsimp only
        rw [if_neg hu]
      have big : fn_X7_digest_b56 n (fn_X7_digest_b45 n i) n h (nI v) 0 τ = fn_X7_digest_b45 n i (31 * (31 * (31 * (31 * (31 * (31 * (31 * h + (σ 5 v).toInt64) + (σ 6 v).toInt64) + (σ 7 v).toInt64) + a4.toInt64) + a5.toInt64) + a6.toInt64) + a7.toInt64) (nI (v + 1)) τ6 := by
        rw [show fn_X7_digest_b56 n (fn_X7_digest_b45 n i) n h (nI v) 0 τ = fn_X7_digest_b56 n (fn_X7_digest_b45 n i) (m + 1 + 1 + 1 + 1) h (nI v) 0 τ by rw [← e], step _ _ _ _ (by decide), show fn_X7_person n (nI v) 0 τ = _ from d1, Option.bind_some]
        dsimp only
        rw [show (0 : Int32) + 1 = 1 from rfl, step _ _ _ _ (by decide), show fn_X7_person n (nI v) 1 τ1 = _ from d2, Option.bind_some]
        dsimp only
        rw [show (1 : Int32) + 1 = 2 from rfl, step _ _ _ _ (by decide), show fn_X7_person n (nI v) 2 τ2 = _ from d3, Option.bind_some]
        dsimp only
        rw [show (2 : Int32) + 1 = 3 from rfl, fn_X7_digest_b56]
        dsimp only
        rw [if_pos (show (3 : Int32) ≤ 3 by decide), show fn_X7_knownOf n 50 (nI v) τ3 = _ from d4, Option.bind_some]
        dsimp only
        rw [show fn_X7_knownOf n 199 (nI v) τ4 = _ from d5, Option.bind_some]
        dsimp only
        rw [d6, Option.bind_some]
        dsimp only
        rw [d7, Option.bind_some, nI_1 v]
      rw [big]
      obtain ⟨h', τ', q1, q2, q3, q4⟩ := bo_dPer (x1 := x1) hn hc i (v + 1) (31 * (31 * (31 * (31 * (31 * (31 * (31 * h + (σ 5 v).toInt64) + (σ 6 v).toInt64) + (σ 7 v).toInt64) + a4.toInt64) + a5.toInt64) + a6.toInt64) + a7.toInt64) τ6 (by omega) (by omega) m6 mf6
      exact ⟨h', τ', q1, q2, q3, fun k hk => by rw [q4 k hk, g6 k hk, g5 k hk, g4 k hk, g3 k hk, g2 k hk, g1 k hk]⟩
/-- the counts -/
theorem bo_dCnt {n : Nat} {G : Gs} {σ : Sg} (hn : 5000 ≤ n) (hc : RC G σ) : ∀ (i v : Nat) (h : Int64) (τ : Sg), 8 < i + v → v ≤ 8 → RM G τ → ∃ a, HCL σ (fn_X6_digest_b6 n i h (nI v) σ) a G ∧ HML τ (fn_X7_digest_b6 n i h (nI v) τ) a G
  | 0, v, h, τ, b1, b2, hm => by omega
  | i + 1, v, h, τ, b1, b2, hm => by
    have h10 : cnt G ≤ 10 := (cnt_ok hc.1.1.1).1
    have h12 : ls G ≤ 12 := hc.1.1.2.2.2.1
    rw [fn_X6_digest_b6, fn_X7_digest_b6]
    dsimp only
    by_cases z : v = 8
    · rw [if_pos (show (8 : Int32) ≤ nI v from nI_le (a := 8) (by omega) (by omega)), if_pos (show (8 : Int32) ≤ nI v from nI_le (a := 8) (by omega) (by omega)), (bo_fault (show 300 ≤ n by omega) hc hm).1, Option.bind_some]
      obtain ⟨τ1, q1, q2, q3, q4⟩ := sm_faultNow (show 20 ≤ n by omega) hm.1.TM
      have m1 : RM G τ1 := ⟨hm.1.f5 q2, hm.2.f5 q2⟩
      rw [q1, Option.bind_some]
      dsimp only
      obtain ⟨h', τ2, r1, r2, r3, r4⟩ := bo_dPer (x1 := 31 * h + (oI (flt (tl G) (tb G))).toInt64) hn hc n 0 (31 * h + (oI (flt (tl G) (tb G))).toInt64) τ1 (by omega) (by omega) m1 ⟨q3, q4⟩
      unfold fn_X6_mixPersons
      rw [show fn_X6_mixPersons_b5 n (31 * h + (oI (flt (tl G) (tb G))).toInt64) σ n (31 * h + (oI (flt (tl G) (tb G))).toInt64) 0 = _ from r1, Option.bind_some, show fn_X7_digest_b45 n n (31 * h + (oI (flt (tl G) (tb G))).toInt64) 0 τ1 = _ from r2]
      obtain ⟨a, x1, x2⟩ := bo_dLet (n := n) hn n 0 h' σ τ2 (by omega) (by omega) hc r3
      exact ⟨a, x1, x2.tr (fun k hk => by rw [r4 k hk, q2.2 k (by omega) (by omega) (by omega) (by omega)])⟩
    · obtain ⟨a1, c1, τ1, d1, m1, g1⟩ := bo_count (n := n) (x := nI v) (by omega) hc hm
      rw [if_neg (show ¬ (8 : Int32) ≤ nI v from nI_ge (b := 8) (by omega) (by omega)), if_neg (show ¬ (8 : Int32) ≤ nI v from nI_ge (b := 8) (by omega) (by omega)), c1, Option.bind_some, d1, Option.bind_some, nI_1 v]
      dsimp only
      obtain ⟨a, x1, x2⟩ := bo_dCnt hn hc i (v + 1) (31 * h + a1.toInt64) τ1 (by omega) (by omega) m1
      exact ⟨a, x1, x2.tr g1⟩
theorem bo_digest {n : Nat} {G : Gs} {σ τ : Sg} (hn : 5000 ≤ n) (hc : RC G σ) (hm : RM G τ) : ∃ a, HCL σ (fn_X6_digest n σ) a G ∧ HML τ (fn_X7_digest n τ) a G := bo_dCnt hn hc n 0 17 τ (by omega) (by omega) hm
