/-! send: the loops -/
theorem nI_mul (a b : Nat) : nI a * nI b = nI (a * b) := (Int32.ofNat_mul a b).symm
theorem sp_take0 {G : Gs} {σ σ' : Sg} (h : RC G σ) (e : fn_X5_takeFrom 21 3 σ = some σ') : σ' 21 2 = 0 := by
  obtain ⟨t1, q1, a0, a1, a2⟩ := sp_take1 σ
  obtain ⟨t2, q2, b0, b1, b2⟩ := sp_take2 t1
  unfold fn_X5_takeFrom at e
  rw [show fn_X1_takeFrom (21 + 1) (3 + 1) σ = _ from q1, Option.bind_some, show fn_X2_takeFrom (21 + 7) (3 + 7) t1 = _ from q2, Option.bind_some] at e
  rw [← Option.some.inj e, ma_up_s, b2 3 (by omega), a2 3 (by omega)]
  exact h.1.2.2.2.2.2.1
def Sent (best : Int32) (τ : Sg) : Prop := (best = -1 ∧ τ 53 22 = -1 ∧ τ 53 23 = -1 ∧ τ 53 24 = -1) ∨ ∃ t p y : Nat, t < 200 ∧ p < 10 ∧ y < 200 ∧ best = nI ((t * 10 + p) * 200 + y) ∧ τ 53 22 = nI t ∧ τ 53 23 = nI p ∧ τ 53 24 = nI y
def JS (G : Gs) (q w : Nat) (σ0 τ0 : Sg) (lim : Nat) (best : Int32) (σ τ : Sg) : Prop := SS G σ ∧ RM G τ ∧ MFolk G τ ∧ (∀ p, p < cnt G → τ 67 p = oI ((sim (scn G) 200).2.2 p w)) ∧ Sent best τ ∧ lim ≤ 200 ∧ (∀ t, (sim (scn G) 200).2.2 q w = some t → lim ≤ t) ∧ (∀ k, 53 ≤ k → σ k = σ0 k) ∧ ∀ k, k < 53 → τ k = τ0 k
/-- the reference tries a letter -/
def sBig (n : Nat) (x1 x2 : Int32) (k89 : Int32 → Int32 → Int32 → Sg → Option Sg) (v3 v4 v5 : Int32) (σ : Sg) : Option Sg :=
  (Option.bind (fn_X7_lays (σ 53 7) v4 x2 v5 x1 (-1) σ) fun q339 =>
  (Option.bind (fn_X7_learnsIn n x2 x1 ((q339 53 7) + 1) q339) fun q340 =>
  (if q340.1 = (-1) then (k89 v3 v4 (v5 + 1) q340.2)
  else (if v3 ≤ q340.1 then (k89 v3 v4 (v5 + 1) q340.2)
  else (k89 q340.1 v4 (v5 + 1) (ag_up (ag_up (ag_up q340.2 53 22 q340.1) 53 23 v4) 53 24 v5))))))
theorem sm_sendStep {n a q w y lim i : Nat} {G : Gs} {τ : Sg} {K : Int32 → Int32 → Sg → Option Sg} (h : RM G τ) (hf : MFolk G τ) (h67 : ∀ p, p < cnt G → τ 67 p = oI ((sim (scn G) 200).2.2 p w)) (ha : a < cnt G) (hq : q < cnt G) (haq : a ≠ q) (hw : w < 8) (hy : y < lim) (hl : lim ≤ 200) : fn_X7_sends_b89 n (nI w) (nI q) K (i + 1) (nI lim) (nI a) (nI y) τ = if cwr G a w y = true then sBig n (nI w) (nI q) (fn_X7_sends_b89 n (nI w) (nI q) K i) (nI lim) (nI a) (nI y) τ else fn_X7_sends_b89 n (nI w) (nI q) K i (nI lim) (nI a) (nI y + 1) τ := by
  have g := h.1.1
  have h10 : cnt G ≤ 10 := (cnt_ok g.1).1
  have I : ag_ib (nI a) 10 = true := ma_ib (by omega) (by omega)
  have eo : bt (τ 58 a) w = ow (scn G) a w := by
    rw [h.1.2.2.1 a (by omega)]
    exact (IsB.ofN (g.2.2.1 a (by omega)) (by omega)).at hw (by omega)
  rw [fn_X7_sends_b89]
  dsimp only
  rw [if_neg (show ¬ (200 : Int32) ≤ nI y from nI_ge (b := 200) (by omega) (by omega)), if_neg (nI_ge hy (by omega)), if_neg (neL (by omega) (by omega) haq), if_pos I, ma_cl (by omega), sm_isIn _ (show w < 32 by omega), Option.bind_some, eo]
  unfold fn_X7_sends_b154 fn_X7_sends_b150 fn_X7_sends_b155 fn_X7_sends_b235 cwr sBig ag_sg
  rw [if_pos (show (0 : Int32) = 0 from rfl), if_neg n10, sm_lives (h.VM hf) (by omega) (by omega), Option.bind_some]
  cases cl : lvs (scn G) a y with
  | false =>
    rw [if_pos (show bI false = 0 from rfl), if_pos I, if_pos I, Bool.false_and, if_neg (show ¬ false = true by decide), ite_self, ite_self, ite_self]
  | true =>
    rw [if_neg (show ¬ bI true = 0 from n10), Bool.true_and]
    cases co : ow (scn G) a w with
    | true =>
      rw [if_neg (show ¬ bI true = 0 from n10), Bool.true_or, if_pos rfl]
    | false =>
      rw [if_pos (show bI false = 0 from rfl), if_pos I, if_pos I, Bool.false_or, h67 a ha]
      cases cc : (sim (scn G) 200).2.2 a w with
      | none =>
        rw [if_pos (show oI none = -1 from rfl)]
        rfl
      | some t =>
        have ht := sim_K_lt _ (by omega) cc
        rw [if_neg (show ¬ oI (some t) = -1 from ma_m1 (by omega))]
        show (if nI y ≤ nI t then _ else _) = (if decide (t < y) = true then _ else _)
        by_cases ct : t < y
        · rw [if_neg (nI_ge ct (by omega)), if_pos (decide_eq_true ct)]
        · rw [if_pos (nI_le (by omega) (by omega)), if_neg (show ¬ decide (t < y) = true by rw [decide_eq_true_eq]; exact ct)]
theorem VM_add {G : Gs} {τ : Sg} {a q y w : Nat} (h : RM G τ) (hf : MFolk G τ) (ha : a < 10) (hq : q < 10) (hy : y < 200) (hw : w < 8) (e : τ 59 (ls G) = nI a ∧ τ 60 (ls G) = nI q ∧ τ 61 (ls G) = nI y ∧ τ 62 (ls G) = nI w ∧ τ 63 (ls G) = -1) : VM (sAd G a q y w) τ := by
  obtain ⟨v1, v2, v3, v4⟩ := h.VM hf
  have hl : ls G ≤ 12 := h.1.1.2.2.2.1
  refine ⟨v1, show ls G + 1 ≤ 13 by omega, fun k hk => ?_, fun k hk => ?_⟩
  · have hk : k < ls G + 1 := hk
    show τ 59 k = nI (if k = ls G then a else lw G k) ∧ (if k = ls G then a else lw G k) < 10 ∧ τ 60 k = nI (if k = ls G then q else lr G k) ∧ (if k = ls G then q else lr G k) < 10 ∧ τ 61 k = nI (if k = ls G then y else ly G k) ∧ (if k = ls G then y else ly G k) < 200 ∧ τ 62 k = nI (if k = ls G then w else lo_ G k) ∧ (if k = ls G then w else lo_ G k) < 8 ∧ τ 63 k = oI (if k = ls G then none else ln_ G k) ∧ ∀ v, (if k = ls G then none else ln_ G k) = some v → v < 8
    by_cases c : k = ls G
    · simp only [if_pos c]
      subst c
      exact ⟨e.1, ha, e.2.1, hq, e.2.2.1, hy, e.2.2.2.1, hw, e.2.2.2.2, fun v hv => by cases hv⟩
    · simp only [if_neg c]
      exact v3 k (show k < ls G by omega)
  · have hk : k < ls G + 1 := hk
    rw [h.2.1]
    exact b_8191 k (by omega)
theorem RM.k53 {G : Gs} {τ τ' : Sg} (h : RM G τ) (e0 : ∀ i, i < 19 ∨ 25 ≤ i → i ≠ 2 → τ' 53 i = τ 53 i) (e : ∀ k, k = 54 ∨ k = 58 ∨ (68 ≤ k ∧ k ≤ 75) → τ' k = τ k) (el : ∀ k i, 59 ≤ k → k ≤ 63 → i < ls G → τ' k i = τ k i) : RM G τ' :=
  ⟨h.1.keep (e0 1 (by omega) (by omega)) (e0 7 (by omega) (by omega)) (e0 26 (by omega) (by omega)) (e0 36 (by omega) (by omega)) e el, h.2.kp (fun i _ _ => e0 i (by omega) (by omega))⟩
/-- years of one writer -/
theorem bo_sendY {n a q w : Nat} {G : Gs} {σ0 τ0 : Sg} {K57 : Int32 → Int32 → Int32 → Sg → Option (Int32 × Sg)} {K77 : Int32 → Int32 → Sg → Option Sg} {Q : Option (Int32 × Sg) → Option Sg → Prop} (hn : 600 ≤ n) (ha : a < cnt G) (hq : q < cnt G) (haq : a ≠ q) (hw : w < 8) (hK : ∀ lim best σ τ, JS G q w σ0 τ0 lim best σ τ → Q (K57 (nI lim) best (nI a + 1) σ) (K77 (nI lim) (nI a + 1) τ)) : ∀ (i y lim : Nat) (best : Int32) (σ τ : Sg), 200 < i + y → y ≤ 200 → JS G q w σ0 τ0 lim best σ τ → Q (fn_X6_bestSend_b72 n (nI w) (nI q) K57 i (nI lim) best (nI a) (nI y) σ) (fn_X7_sends_b89 n (nI w) (nI q) K77 i (nI lim) (nI a) (nI y) τ)
  | 0, y, lim, best, σ, τ, b1, b2, h => by omega
  | i + 1, y, lim, best, σ, τ, b1, b2, h => by
    have h0 := h
    obtain ⟨hs, hm, hf, h67, hb, hl, hS, f1, f2⟩ := h
    have g := hm.1.1
    have h10 : cnt G ≤ 10 := (cnt_ok g.1).1
    have h12 : ls G ≤ 12 := g.2.2.2.1
    by_cases z : lim ≤ y
    · have e1 : fn_X6_bestSend_b72 n (nI w) (nI q) K57 (i + 1) (nI lim) best (nI a) (nI y) σ = K57 (nI lim) best (nI a + 1) σ := by
        rw [fn_X6_bestSend_b72]
        dsimp only
        rw [if_pos (nI_le z (by omega))]
      have e2 : fn_X7_sends_b89 n (nI w) (nI q) K77 (i + 1) (nI lim) (nI a) (nI y) τ = K77 (nI lim) (nI a + 1) τ := by
        rw [fn_X7_sends_b89]
        dsimp only
        rw [if_pos (nI_le z (by omega)), ite_self]
        rfl
      rw [e1, e2]
      exact hK lim best σ τ h0
    · have hy : y < lim := by omega
      rw [sm_sendStep hm hf h67 ha hq haq hw hy hl, fn_X6_bestSend_b72]
      dsimp only
      unfold fn_X6_bestSend_b145
      rw [if_neg (nI_ge hy (by omega)), if_neg (neL (by omega) (by omega) haq), sp_could hs.1 ha hw (by omega), Option.bind_some, nI_1 y]
      cases c : cwr G a w y with
      | false =>
        rw [if_pos (show bI false = 0 from rfl), if_neg (show ¬ false = true by decide)]
        exact bo_sendY hn ha hq haq hw hK i (y + 1) lim best σ τ (by omega) (by omega) h0
      | true =>
        obtain ⟨σ1, r1, r2, r3⟩ := sp_sent (n := n) (a := a) (q := q) (y := y) (w := w) (lim := lim) (by omega) hs (by omega) hq (by omega) hw hl hS
        rw [if_neg (show ¬ bI true = 0 from n10), if_pos rfl, r1, Option.bind_some]
        dsimp only
        unfold sBig
        rw [nI_1 y]
        have e7 : τ 53 7 = nI (ls G) := hm.1.2.2.2.1.1
        obtain ⟨τ1, s1, s2, s3, s4⟩ := sm_layAt (σ := τ) (v1 := nI a) (v2 := nI q) (v3 := nI y) (v4 := nI w) (v5 := -1) (show ls G < 13 by omega)
        have m1 : RM G τ1 := hm.k53 (fun j _ _ => by rw [s4 53 (by omega)]) (fun k q => s4 k (by omega)) (fun k j _ _ hj => s3 k j (by omega))
        have mf1 : MFolk G τ1 := hf.k53 (by rw [s4 53 (by omega)]) (fun k q => s4 k (by omega))
        have vm := VM_add m1 mf1 (show a < 10 by omega) (show q < 10 by omega) (show y < 200 by omega) hw s2
        obtain ⟨τ2, t1, t2⟩ := sm_learnsIn (n := n) (p := q) (w := w) (S := sAd G a q y w) hn hq hw vm
        have m2 : RM G τ2 := ⟨m1.1.f3 t2, m1.2.f3 t2⟩
        have mf2 : MFolk G τ2 := mf1.f3 t2
        have e67 : ∀ p, p < cnt G → τ2 67 p = oI ((sim (scn G) 200).2.2 p w) := fun p hp => by rw [t2 67 (by decide) (by decide) (by decide), s4 67 (by omega)]; exact h67 p hp
        have e53 : τ2 53 = τ 53 := by rw [t2 53 (by decide) (by decide) (by decide), s4 53 (by omega)]
        have f3 : ∀ k, k < 53 → τ2 k = τ0 k := fun k hk => by rw [t2 k (by omega) (by omega) (by omega), s4 k (by omega)]; exact f2 k hk
        have f4 : ∀ k, 53 ≤ k → σ1 k = σ0 k := fun k hk => (r3 k hk).trans (f1 k hk)
        have hb2 : Sent best τ2 := by
          unfold Sent at *
          rw [e53]; exact hb
        have e8 : τ1 53 7 + 1 = nI (sz (sAd G a q y w)) := by
          rw [s4 53 (by omega), e7, nI_1]; rfl
        rw [e7, s1, Option.bind_some, e8, t1, Option.bind_some]
        dsimp only
        have jn : JS G q w σ0 τ0 lim best σ1 τ2 := ⟨r2, m2, mf2, e67, hb2, hl, hS, f4, f3⟩
        cases cc : (sim (sAd G a q y w) 200).2.2 q w with
        | none =>
          have eL : LSe G a q y w lim = lim := by unfold LSe; rw [cc]
          rw [eL, if_pos (nI_le (Nat.le_refl lim) (by omega)), if_pos (show oI none = -1 from rfl)]
          exact bo_sendY hn ha hq haq hw hK i (y + 1) lim best σ1 τ2 (by omega) (by omega) jn
        | some t =>
          have ht := sim_K_lt _ (by omega) cc
          rw [show oI (some t) = nI t from rfl, if_neg (show ¬ nI t = -1 from ma_m1 (by omega))]
          by_cases ct : lim ≤ t
          · have eL : LSe G a q y w lim = lim := by
              unfold LSe; rw [cc]
              show min t lim = lim
              omega
            rw [eL, if_pos (nI_le (Nat.le_refl lim) (by omega)), if_pos (nI_le ct (by omega))]
            exact bo_sendY hn ha hq haq hw hK i (y + 1) lim best σ1 τ2 (by omega) (by omega) jn
          · have eL : LSe G a q y w lim = t := by
              unfold LSe; rw [cc]
              show min t lim = t
              omega
            simp only [eL, if_neg (show ¬ nI lim ≤ nI t from nI_ge (by omega) (by omega))]
            have eb : (nI t * 10 + nI a) * 200 + nI y = nI ((t * 10 + a) * 200 + y) := by
              rw [show nI t * 10 = nI (t * 10) from nI_mul t 10, nI_add, show nI (t * 10 + a) * 200 = nI ((t * 10 + a) * 200) from nI_mul _ 200, nI_add]
            rw [eb]
            refine bo_sendY hn ha hq haq hw hK i (y + 1) t _ σ1 _ (by omega) (by omega) ⟨r2, ?_, ?_, fun p hp => ?_, Or.inr ⟨t, a, y, ht, by omega, by omega, rfl, ?_, ?_, ?_⟩, by omega, fun u hu => ?_, f4, fun k hk => ?_⟩
            · exact m2.k53 (fun j j1 j2 => by rw [ma_up_i (by omega), ma_up_i (by omega), ma_up_i (by omega)]) (fun k q => by rw [ag_up_ne (by omega), ag_up_ne (by omega), ag_up_ne (by omega)]) (fun k j _ _ hj => by rw [ag_up_ne (by omega), ag_up_ne (by omega), ag_up_ne (by omega)])
            · exact ((mf2.up53 (by decide)).up53 (by decide)).up53 (by decide)
            · rw [ag_up_ne (by decide), ag_up_ne (by decide), ag_up_ne (by decide)]; exact e67 p hp
            · rw [ma_up_i (by decide), ma_up_i (by decide), ma_up_s]
            · rw [ma_up_i (by decide), ma_up_s]
            · rw [ma_up_s]
            · have := hS u hu; omega
            · rw [ag_up_ne (by omega), ag_up_ne (by omega), ag_up_ne (by omega)]; exact f3 k hk
theorem sp_selfY {n q w lim : Nat} {best : Int32} {σ : Sg} {K57 : Int32 → Int32 → Int32 → Sg → Option (Int32 × Sg)} (hl : lim ≤ 200) : ∀ (i y : Nat), 200 < i + y → y ≤ 200 → fn_X6_bestSend_b72 n (nI w) (nI q) K57 i (nI lim) best (nI q) (nI y) σ = K57 (nI lim) best (nI q + 1) σ
  | 0, y, a, b => by omega
  | i + 1, y, a, b => by
    rw [fn_X6_bestSend_b72]
    dsimp only
    unfold fn_X6_bestSend_b145
    by_cases z : lim ≤ y
    · rw [if_pos (nI_le z (by omega))]
    · rw [if_neg (nI_ge (by omega) (by omega)), if_pos rfl, nI_1 y]
      exact sp_selfY hl i (y + 1) (by omega) (by omega)
def FinS (G : Gs) (σ0 τ0 : Sg) (o1 : Option (Int32 × Sg)) (o2 : Option Sg) : Prop := ∃ best σ' τ', o1 = some (best, σ') ∧ o2 = some τ' ∧ RC G σ' ∧ RM G τ' ∧ Sent best τ' ∧ (∀ k, 53 ≤ k → σ' k = σ0 k) ∧ ∀ k, k < 53 → τ' k = τ0 k
theorem bo_sendP {n q w : Nat} {G : Gs} {σ0 τ0 : Sg} (hn : 600 ≤ n) (hq : q < cnt G) (hw : w < 8) : ∀ (i a lim : Nat) (best : Int32) (σ τ : Sg), cnt G < i + a → a ≤ cnt G → JS G q w σ0 τ0 lim best σ τ → FinS G σ0 τ0 (fn_X6_bestSend_b57 n (nI w) (nI q) i (nI lim) best (nI a) σ) (fn_X7_sends_b77 n (nI w) (nI q) i (nI lim) (nI a) τ)
  | 0, a, lim, best, σ, τ, b1, b2, h => by omega
  | i + 1, a, lim, best, σ, τ, b1, b2, h => by
    have h0 := h
    obtain ⟨hs, hm, hf, h67, hb, hl, hS, f1, f2⟩ := h
    have h10 : cnt G ≤ 10 := (cnt_ok hm.1.1.1).1
    rw [fn_X6_bestSend_b57, fn_X7_sends_b77]
    dsimp only
    rw [hs.1.1.2.2.2.1.1, hf.1]
    by_cases z : a = cnt G
    · rw [if_pos (nI_le (show cnt G ≤ a by omega) (by omega)), if_pos (nI_le (show cnt G ≤ a by omega) (by omega))]
      exact ⟨best, σ, τ, rfl, rfl, hs.1, hm, hb, f1, f2⟩
    · rw [if_neg (nI_ge (by omega) (by omega)), if_neg (nI_ge (by omega) (by omega))]
      have next : ∀ lim best σ τ, JS G q w σ0 τ0 lim best σ τ → FinS G σ0 τ0 (fn_X6_bestSend_b57 n (nI w) (nI q) i (nI lim) best (nI a + 1) σ) (fn_X7_sends_b77 n (nI w) (nI q) i (nI lim) (nI a + 1) τ) := fun lim best σ τ hj => by
        rw [nI_1 a]
        exact bo_sendP hn hq hw i (a + 1) lim best σ τ (by omega) (by omega) hj
      by_cases zq : a = q
      · subst zq
        rw [show fn_X6_bestSend_b72 n (nI w) (nI a) (fn_X6_bestSend_b57 n (nI w) (nI a) i) n (nI lim) best (nI a) 0 σ = _ from sp_selfY hl n 0 (by omega) (by omega)]
        obtain ⟨m, hm'⟩ : ∃ m, n = m + 1 := ⟨n - 1, by omega⟩
        have e : fn_X7_sends_b89 n (nI w) (nI a) (fn_X7_sends_b77 n (nI w) (nI a) i) n (nI lim) (nI a) 0 τ = fn_X7_sends_b77 n (nI w) (nI a) i (nI lim) (nI a + 1) τ := by
          rw [show fn_X7_sends_b89 n (nI w) (nI a) (fn_X7_sends_b77 n (nI w) (nI a) i) n (nI lim) (nI a) 0 τ = fn_X7_sends_b89 n (nI w) (nI a) (fn_X7_sends_b77 n (nI w) (nI a) i) (m + 1) (nI lim) (nI a) 0 τ by rw [← hm'], fn_X7_sends_b89]
          dsimp only
          rw [if_pos (show nI a = nI a from rfl), ite_self, ite_self]
          rfl
        rw [e]
        exact next lim best σ τ h0
      · exact bo_sendY hn (by omega) hq zq hw next n 0 lim best σ τ (by omega) (by omega) h0
/-- the reference sets when each learns the word -/
theorem sm_firstL {n q w : Nat} {G : Gs} (hn : 600 ≤ n) (hq : q < cnt G) (hw : w < 8) : ∀ (i v : Nat) (τ : Sg), cnt G < i + v → v ≤ cnt G → RM G τ → MFolk G τ → (∀ p, p < v → τ 67 p = oI ((sim (scn G) 200).2.2 p w)) → ∃ τ', fn_X7_sends_b6 n (nI w) (nI q) i (nI v) τ = fn_X7_sends_b77 n (nI w) (nI q) n (if (sim (scn G) 200).2.2 q w = none then 200 else oI ((sim (scn G) 200).2.2 q w)) 0 τ' ∧ RM G τ' ∧ MFolk G τ' ∧ (∀ p, p < cnt G → τ' 67 p = oI ((sim (scn G) 200).2.2 p w)) ∧ Sent (-1) τ' ∧ ∀ k, k < 53 → τ' k = τ k
  | 0, v, τ, a, b, h, hf, h67 => by omega
  | i + 1, v, τ, a, b, h, hf, h67 => by
    have g := h.1.1
    have h10 : cnt G ≤ 10 := (cnt_ok g.1).1
    rw [fn_X7_sends_b6]
    dsimp only
    unfold fn_X7_sends_b73 ag_sg
    rw [hf.1]
    dsimp only
    by_cases z : v = cnt G
    · have I : ag_ib (nI q) 10 = true := ma_ib (by omega) (by omega)
      rw [if_pos (nI_le (show cnt G ≤ v by omega) (by omega)), if_pos I, if_pos I, ma_cl (by omega), ag_up_ne (show 67 ≠ 53 by decide), ag_up_ne (show 67 ≠ 53 by decide), ag_up_ne (show 67 ≠ 53 by decide), h67 q (by omega)]
      refine ⟨ag_up (ag_up (ag_up τ 53 22 (-1)) 53 23 (-1)) 53 24 (-1), ?_, ?_, ?_, fun p hp => ?_, Or.inl ⟨rfl, ?_, ?_, ?_⟩, fun k hk => ?_⟩
      · cases cc : (sim (scn G) 200).2.2 q w with
        | none => rw [if_pos (show oI none = -1 from rfl), if_pos rfl]
        | some t =>
          have ht := sim_K_lt _ (by omega) cc
          rw [if_neg (show ¬ oI (some t) = -1 from ma_m1 (by omega)), if_neg (show ¬ some t = none from fun e => by cases e)]
      · exact h.k53 (fun j j1 j2 => by rw [ma_up_i (by omega), ma_up_i (by omega), ma_up_i (by omega)]) (fun k q => by rw [ag_up_ne (by omega), ag_up_ne (by omega), ag_up_ne (by omega)]) (fun k j _ _ hj => by rw [ag_up_ne (by omega), ag_up_ne (by omega), ag_up_ne (by omega)])
      · exact ((hf.up53 (by decide)).up53 (by decide)).up53 (by decide)
      · rw [ag_up_ne (by decide), ag_up_ne (by decide), ag_up_ne (by decide)]; exact h67 p (by omega)
      · rw [ma_up_i (by decide), ma_up_i (by decide), ma_up_s]
      · rw [ma_up_i (by decide), ma_up_s]
      · rw [ma_up_s]
      · rw [ag_up_ne (by omega), ag_up_ne (by omega), ag_up_ne (by omega)]
    · obtain ⟨τ1, t1, t2⟩ := sm_learnsIn (n := n) (p := v) (w := w) hn (show v < cn (scn G) from (by show v < cnt G; omega)) hw (h.VM hf)
      have e7 : τ 53 7 = nI (sz (scn G)) := h.1.2.2.2.1.1
      rw [if_neg (nI_ge (by omega) (by omega)), e7, t1, Option.bind_some]
      dsimp only
      rw [if_pos (ma_ib (by omega) (by omega)), ma_cl (by omega), nI_1 v]
      have m1 : RM G τ1 := ⟨h.1.f3 t2, h.2.f3 t2⟩
      have mf1 : MFolk G τ1 := hf.f3 t2
      obtain ⟨τ', q1, q2, q3, q4, q5, q6⟩ := sm_firstL hn hq hw i (v + 1) (ag_up τ1 67 v (oI ((sim (scn G) 200).2.2 v w))) (by omega) (by omega) (m1.k53 (fun j _ _ => by rw [ag_up_ne (by decide)]) (fun k q => ag_up_ne (by omega)) (fun k j _ _ hj => by rw [ag_up_ne (by omega)])) (mf1.k53 (by rw [ag_up_ne (by decide)]) (fun k q => ag_up_ne (by omega))) (fun p hp => by
        by_cases zz : p = v
        · rw [zz, ma_up_s]
        · rw [ma_up_i zz, t2 67 (by decide) (by decide) (by decide)]; exact h67 p (by omega))
      exact ⟨τ', q1, q2, q3, q4, q5, fun k hk => by rw [q6 k hk, ag_up_ne (by omega), t2 k (by omega) (by omega) (by omega)]⟩
theorem bo_sends {n q w : Nat} {G : Gs} {σ τ : Sg} (hn : 600 ≤ n) (hc : RC G σ) (hm : RM G τ) (hq : q < cnt G) (hw : w < 8) : FinS G σ τ (fn_X6_bestSend n (nI w) (nI q) σ) (fn_X7_sends n (nI w) (nI q) τ) := by
  have g := hc.1.1
  have h10 : cnt G ≤ 10 := (cnt_ok g.1).1
  obtain ⟨σ1, r1, r2, r3⟩ := sp_take hc
  have e28 : σ1 28 0 = nI (ls G) := r2.2.2.1.1
  have vf := (r2.Vw (fun p hp => Nat.le_of_lt (en_le g hp)) (fun p _ => mo_le G p) (fun k hk => (g.2.2.2.2.1 k hk).2.2.2.2.1)).1
  have ss : SS G (ag_up σ1 28 0 (nI (ls G) + 1)) := by
    refine ⟨r2.1.keep (fun k k1 k2 => ag_up_ne (by omega)), ?_, ⟨by rw [ma_up_s, nI_1], fun k hk => ?_⟩, ?_⟩
    · have vf' : VF 22 (scn G) σ1 := vf
      unfold VF at *
      rw [ag_up_ne (by decide), ag_up_ne (by decide), ag_up_ne (by decide), ag_up_ne (by decide), ag_up_ne (by decide), ag_up_ne (by decide)]
      exact vf'
    · obtain ⟨a1, a2, a3, a5⟩ := r2.2.2.1.2 k hk
      rw [ag_up_ne (by decide), ag_up_ne (by decide), ag_up_ne (by decide), ag_up_ne (by decide), ag_up_ne (by decide)]
      exact ⟨a1, a2, a3, r2.h6 k hk, a5⟩
    · rw [ag_up_ne (by decide)]; exact sp_take0 hc r1
  obtain ⟨τ1, q1, q2, q3, q4⟩ := hm.1.reads (show 20 ≤ n by omega)
  obtain ⟨τ2, u1, u2, u3, u4, u5, u6⟩ := sm_firstL (n := n) (q := q) (w := w) hn hq hw n 0 τ1 (by omega) (by omega) ⟨q3, hm.2.f5 q2⟩ q4 (fun p hp => by omega)
  unfold fn_X6_bestSend fn_X6_bestSend_b22 fn_X7_sends
  rw [sp_learning (b := 3) hc.1.VF hc.2 hq hw, Option.bind_some, r1, Option.bind_some, Option.bind_some, e28, q1, Option.bind_some, show fn_X7_sends_b6 n (nI w) (nI q) n 0 τ1 = _ from u1]
  have fr : ∀ k, 53 ≤ k → ag_up σ1 28 0 (nI (ls G) + 1) k = σ k := fun k hk => by rw [ag_up_ne (by omega), r3 k (by omega)]
  have fr2 : ∀ k, k < 53 → τ2 k = τ k := fun k hk => by rw [u6 k hk, q2.2 k (by omega) (by omega) (by omega) (by omega)]
  cases cc : (sim (scn G) 200).2.2 q w with
  | none =>
    rw [if_pos (show oI none = -1 from rfl), if_pos rfl]
    exact bo_sendP hn hq hw n 0 200 (-1) _ τ2 (by omega) (by omega) ⟨ss, u2, u3, u4, u5, by omega, fun t ht => (by rw [cc] at ht; cases ht), fr, fr2⟩
  | some t =>
    have ht := sim_K_lt _ (by omega) cc
    rw [if_neg (show ¬ oI (some t) = -1 from ma_m1 (by omega)), if_neg (show ¬ some t = none from fun e => by cases e)]
    exact bo_sendP hn hq hw n 0 t (-1) _ τ2 (by omega) (by omega) ⟨ss, u2, u3, u4, u5, by omega, fun t' ht' => (by rw [cc] at ht'; cases ht'; omega), fr, fr2⟩
theorem bo_send {n : Nat} {G : Gs} {σ τ : Sg} {x1 x2 x3 : Int32} (hn : 600 ≤ n) (hc : RC G σ) (hm : RM G τ) : ∃ a, HC σ (fn_X6_send n x1 x2 x3 σ) a G ∧ HM τ (fn_X7_send n x1 x2 x3 τ) a G := by
  unfold fn_X6_send fn_X7_send
  rcases ck_word x1 σ τ with ⟨⟨w, hw, rfl⟩, e1, e2⟩ | ⟨e1, e2⟩
  case inr => rw [e1, e2]; exact ⟨-2, HC.rf hc, HM.rf hm⟩
  rw [e1, e2, Option.bind_some, Option.bind_some, if_neg n10, if_neg n10]
  obtain ⟨τ', hm', hf, ek, h⟩ := ck_pers (show 20 ≤ n by omega) hc hm x2
  rcases h with ⟨⟨p, hp, rfl⟩, e3, e4⟩ | ⟨e3, e4⟩
  case inr => rw [e3, e4]; exact ⟨-2, HC.rf hc, τ', rfl, hm', ek⟩
  rw [e3, e4, Option.bind_some, Option.bind_some, if_neg n10]
  dsimp only
  rw [if_neg n10]
  rcases bo_ck (m := 2) (by omega) x3 σ τ' with ⟨⟨f, hf3, rfl⟩, e5, e6⟩ | ⟨e5, e6⟩
  case inr => rw [show fn_X6_isBelow x3 3 σ = _ from e5, show fn_X7_in x3 0 2 τ' = _ from e6]; exact ⟨-2, HC.rf hc, τ', rfl, hm', ek⟩
  rw [show fn_X6_isBelow (nI f) 3 σ = _ from e5, show fn_X7_in (nI f) 0 2 τ' = _ from e6, Option.bind_some, Option.bind_some, if_neg n10, if_neg n10]
  obtain ⟨best, σ1, τ1, a1, a2, a3, a4, a5, a6, a7⟩ := bo_sends hn hc hm' hp hw
  unfold fn_X7_sendOf
  rw [a1, a2, Option.bind_some, Option.bind_some]
  dsimp only
  have fr : ∀ k, k < 53 → τ1 k = τ k := fun k hk => (a7 k hk).trans (ek k hk)
  rcases a5 with ⟨b0, b1, b2, b3⟩ | ⟨t, q, y, t1, t2, t3, b0, b1, b2, b3⟩
  · rw [if_pos b0, b1, b2, b3]
    refine ⟨-1, ⟨σ1, rfl, a3, a6⟩, τ1, ?_, a4, fr⟩
    by_cases c0 : nI f = 0
    · rw [if_pos c0]; rfl
    · rw [if_neg c0]
      by_cases c1 : nI f = 1
      · rw [if_pos c1]; rfl
      · rw [if_neg c1]; rfl
  · have d1 : nI ((t * 10 + q) * 200 + y) / 2000 = nI t := by
      rw [show nI ((t * 10 + q) * 200 + y) / 2000 = nI (((t * 10 + q) * 200 + y) / 2000) from pk_div (d := 2000) (by omega) (by omega) (by omega)]
      congr 1
      omega
    have d2 : nI ((t * 10 + q) * 200 + y) / 200 = nI (t * 10 + q) := by
      rw [show nI ((t * 10 + q) * 200 + y) / 200 = nI (((t * 10 + q) * 200 + y) / 200) from pk_div (d := 200) (by omega) (by omega) (by omega)]
      congr 1
      omega
    have d3 : nI (t * 10 + q) / 10 = nI t := by
      rw [show nI (t * 10 + q) / 10 = nI ((t * 10 + q) / 10) from pk_div (d := 10) (by omega) (by omega) (by omega)]
      congr 1
      omega
    have d4 : nI (t * 10 + q) - nI t * 10 = nI q := by
      rw [show nI t * 10 = nI (t * 10) from nI_mul t 10, pk_sub (by omega)]
      congr 1
      omega
    have d5 : nI ((t * 10 + q) * 200 + y) - nI (t * 10 + q) * 200 = nI y := by
      rw [show nI (t * 10 + q) * 200 = nI ((t * 10 + q) * 200) from nI_mul _ 200, pk_sub (by omega)]
      congr 1
      omega
    rw [b0, if_neg (ma_m1 (by omega)), d1, d2, d3, d4, d5, b1, b2, b3]
    by_cases c0 : nI f = 0
    · rw [if_pos c0, if_pos c0]
      exact ⟨_, ⟨σ1, rfl, a3, a6⟩, τ1, rfl, a4, fr⟩
    · rw [if_neg c0, if_neg c0]
      by_cases c1 : nI f = 1
      · rw [if_pos c1, if_pos c1]
        exact ⟨_, ⟨σ1, rfl, a3, a6⟩, τ1, rfl, a4, fr⟩
      · rw [if_neg c1, if_neg c1]
        exact ⟨_, ⟨σ1, rfl, a3, a6⟩, τ1, rfl, a4, fr⟩
