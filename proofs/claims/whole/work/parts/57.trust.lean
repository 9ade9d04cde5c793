/-! the least by number of ones, then by value -/
def pc (s : Nat) : Nat := bc (fun i => s.testBit i) 12
def Best (ok : Nat → Bool) (V : Nat) (a : Int32) : Prop := (a = -1 ∧ ∀ s, s < V → ok s = false) ∨ ∃ b, b < V ∧ a = nI b ∧ ok b = true ∧ ∀ s, s < V → ok s = true → pc b < pc s ∨ (pc b = pc s ∧ b ≤ s)
theorem Best.uniq {ok : Nat → Bool} {V : Nat} {a a' : Int32} (h : Best ok V a) (h' : Best ok V a') : a = a' := by
  rcases h with ⟨e, q⟩ | ⟨b, hb, e, q, m⟩ <;> rcases h' with ⟨e', q'⟩ | ⟨b', hb', e', q', m'⟩
  · rw [e, e']
  · rw [q b' hb'] at q'; cases q'
  · rw [q' b hb] at q; cases q
  · have h1 := m b' hb' q'
    have h2 := m' b hb q
    have : b = b' := by omega
    rw [e, e', this]
theorem Best.zero (ok : Nat → Bool) : Best ok 0 (-1) := Or.inl ⟨rfl, fun s hs => by omega⟩
theorem Best.no {ok : Nat → Bool} {v : Nat} {a : Int32} (h : Best ok v a) (hv : ok v = false) : Best ok (v + 1) a := by
  rcases h with ⟨e, q⟩ | ⟨b, hb, e, q, m⟩
  · refine Or.inl ⟨e, fun s hs => ?_⟩
    by_cases z : s = v
    · rw [z]; exact hv
    · exact q s (by omega)
  · refine Or.inr ⟨b, by omega, e, q, fun s hs hk => ?_⟩
    by_cases z : s = v
    · rw [z, hv] at hk; cases hk
    · exact m s (by omega) hk
theorem Best.old {ok : Nat → Bool} {v b : Nat} (hV : v < 2 ^ 31) (hb : b < 2 ^ 31) (h : Best ok v (nI b)) (hc : pc b ≤ pc v) : Best ok (v + 1) (nI b) := by
  rcases h with ⟨e, q⟩ | ⟨b', hb', e, q, m⟩
  · exact absurd e (ma_m1 hb)
  · have : b = b' := (nI_eq hb (by omega)).mp e
    subst this
    refine Or.inr ⟨b, by omega, rfl, q, fun s hs hk => ?_⟩
    by_cases z : s = v
    · rw [z]; omega
    · exact m s (by omega) hk
theorem Best.new {ok : Nat → Bool} {v : Nat} {a : Int32} (hV : v < 2 ^ 31) (h : Best ok v a) (hc : a = -1 ∨ ∃ b, b < 2 ^ 31 ∧ a = nI b ∧ pc v < pc b) (hv : ok v = true) : Best ok (v + 1) (nI v) := by
  refine Or.inr ⟨v, by omega, rfl, hv, fun s hs hk => ?_⟩
  by_cases z : s = v
  · rw [z]; omega
  · rcases h with ⟨e, q⟩ | ⟨b', hb', e, q, m⟩
    · rw [q s (by omega)] at hk; cases hk
    · rcases hc with c | ⟨b, hb, e2, c⟩
      · rw [c] at e; exact absurd e.symm (ma_m1 (by omega))
      · have : b = b' := (nI_eq hb (by omega)).mp (e2.symm.trans e)
        subst this
        have := m s (by omega) hk
        omega
theorem sp_pc {v : Nat} (hv : v < 2 ^ 12) (σ : Sg) : fn_J6_bitCount_0f7a4 (nI v) σ = some (nI (pc v)) := sp_bitCount (n := 12) (by omega) (IsB.ofN hv (by omega)) σ
theorem sm_pc {n v : Nat} (hn : 20 ≤ n) (hv : v < 2 ^ 12) (σ : Sg) : fn_X7_ones n (nI v) σ = some (nI (pc v)) := sm_ones (m := 12) hn (by omega) (IsB.ofN hv (by omega))
theorem pc_le (v : Nat) : pc v ≤ 12 := bc_le _ _
theorem ma_pow : ∀ c, c < 13 → (1 : Int32) <<< (nI c &&& 31) = nI (2 ^ c) := by decide
theorem pow_12 {c : Nat} (h : c ≤ 12) : 2 ^ c ≤ 4096 := Nat.pow_le_pow_right (n := 2) (by omega) h
theorem ma_shl0 : ∀ w, w < 8 → (0 : Int32) <<< (nI w &&& 31) = 0 := by decide
/-! trust -/
def oTr (G : Gs) (x : Int32) (w p v : Nat) : Bool := ow (scn G) p v || (bt x p && decide (v = w))
def sTr (G : Gs) (x : Int32) (w : Nat) : Sc := scS G (en (scn G)) (mo (scn G)) (oTr G x w) (lo_ G) (fun _ => true)
theorem oTr_B {G : Gs} {x y : Int32} {w p : Nat} (hg : GOk G) (hp : p < cnt G) (hw : w < 8) (hy : y = if bt x p = true then 1 <<< (nI w &&& 31) else 0) : IsB (nI (om G p) ||| y) 8 (oTr G x w p) := by
  have h0 : IsB (nI (om G p)) 8 (ow (scn G) p) := IsB.ofN (hg.2.2.1 p (Nat.lt_of_lt_of_le hp (cnt_ok hg.1).1)) (by omega)
  rw [hy]
  cases c : bt x p with
  | true =>
    rw [if_pos rfl]
    exact (h0.set hw (by omega)).congr (fun v hv => by unfold oTr; rw [c, Bool.true_and])
  | false =>
    rw [if_neg (by decide), ma_or0]
    exact h0.congr (fun v hv => by unfold oTr; rw [c, Bool.false_and, Bool.or_false])
theorem sp_trustK {n w p : Nat} {G : Gs} {x : Int32} (hn : 300 ≤ n) (hg : GOk G) (hw : w < 8) (hp : p < cnt G) : ∀ (i v : Nat) (σ : Sg) (o : Nat → Nat → Bool), cnt G < i + v → v ≤ cnt G → SB G (en (scn G)) (mo (scn G)) o (lo_ G) (fun _ => true) σ → (∀ q, q < v → o q = oTr G x w q) → ∃ σ', fn_X6_knowsByTrust_b3 n x (nI w) (nI p) i (nI v) σ = some (bI ((sim (sTr G x w) 200).2.2 p w).isSome, σ') ∧ SB G (en (scn G)) (mo (scn G)) (oTr G x w) (lo_ G) (fun _ => true) σ' ∧ ∀ k, 53 ≤ k → σ' k = σ k
  | 0, v, σ, o, a, b, h, ho => by omega
  | i + 1, v, σ, o, a, b, h, ho => by
    have h10 : cnt G ≤ 10 := (cnt_ok hg.1).1
    unfold fn_X6_knowsByTrust_b3
    rw [h.1.1.2.2.2.1.1]
    by_cases z : v = cnt G
    · rw [if_pos (nI_le (show cnt G ≤ v by omega) (by omega))]
      have h1 : SB G (en (scn G)) (mo (scn G)) (oTr G x w) (lo_ G) (fun _ => true) σ := h.re (fun _ _ _ _ _ _ _ _ => rfl) h.h3 h.h4 (fun q hq => by rw [← ho q (by omega)]; exact h.h5 q hq) h.h6 h.h7
      obtain ⟨σ1, r1, r2, r3, r4⟩ := h1.live hn (fun p hp => Nat.le_of_lt (en_le hg hp)) (fun p _ => mo_le G p) (fun k hk => (hg.2.2.2.2.1 k hk).2.2.2.2.1)
      have eb : bt (σ1 36 p) w = ((sim (sTr G x w) 200).2.2 p w).isSome := (r3.2.2 p hp).1.at hw (by omega)
      rw [r1, Option.bind_some, if_pos (ma_ib (by omega) (by omega)), ma_cl (by omega)]
      cases cc : ((sim (sTr G x w) 200).2.2 p w).isSome with
      | true => rw [if_pos ((ma_b1 _ (show w < 32 by omega)).mpr (eb.trans cc))]; exact ⟨σ1, rfl, r2, fun k hk => r4 k (by omega)⟩
      | false => rw [if_neg (fun q => by have := (ma_b1 _ (show w < 32 by omega)).mp q; rw [eb, cc] at this; cases this)]; exact ⟨σ1, rfl, r2, fun k hk => r4 k (by omega)⟩
    · have hv : v < cnt G := by omega
      have I : ag_ib (nI v) 10 = true := ma_ib (by omega) (by omega)
      have e9 : σ 9 v = nI (om G v) := h.1.1.2.2.1 v (by omega)
      rw [if_neg (nI_ge (by omega) (by omega)), if_pos I, if_pos I, ma_cl (by omega), e9, nI_1 v, ma_bit _ (show v < 32 by omega)]
      have hy : ((if bt x v = true then (1 : Int32) else 0) <<< (nI w &&& 31)) = if bt x v = true then 1 <<< (nI w &&& 31) else 0 := by
        cases bt x v with
        | true => rfl
        | false => exact ma_shl0 w hw
      have hB := oTr_B (x := x) hg hv hw hy
      have h1 : SB G (en (scn G)) (mo (scn G)) (fun q => if q = v then oTr G x w v else o q) (lo_ G) (fun _ => true) (ag_up σ 27 v (nI (om G v) ||| ((if bt x v = true then (1 : Int32) else 0) <<< (nI w &&& 31)))) := by
        refine h.re (fun k k1 k2 k3 k4 k5 k6 k7 => ag_up_ne k5) (fun p hp => by rw [ag_up_ne (by decide)]; exact h.h3 p hp) (fun p hp => by rw [ag_up_ne (by decide)]; exact h.h4 p hp) (fun q hq => ?_) (fun p hp => by rw [ag_up_ne (by decide)]; exact h.h6 p hp) (fun p hp => by rw [ag_up_ne (by decide)]; exact h.h7 p hp)
        by_cases zz : q = v
        · rw [if_pos zz, zz, ma_up_s]; exact hB
        · rw [if_neg zz, ma_up_i zz]; exact h.h5 q hq
      obtain ⟨σ', q1, q2, q3⟩ := sp_trustK (n := n) (x := x) hn hg hw hp i (v + 1) _ (fun q => if q = v then oTr G x w v else o q) (by omega) (by omega) h1 (fun q hq => by
        by_cases zz : q = v
        · rw [if_pos zz, zz]
        · rw [if_neg zz]; exact ho q (by omega))
      exact ⟨σ', q1, q2, fun k hk => by rw [q3 k hk, ag_up_ne (by omega)]⟩
def okT (G : Gs) (w p s : Nat) : Bool := !bt (nI s) p && decide (pc s < 4) && ((sim (sTr G (nI s) w) 200).2.2 p w).isSome
def SBt (G : Gs) (σ : Sg) : Prop := ∃ o, SB G (en (scn G)) (mo (scn G)) o (lo_ G) (fun _ => true) σ
theorem sp_trust44 {n w p z : Nat} {G : Gs} {K : Int32 → Sg → Option (Int32 × Sg)} {σ0 : Sg} (hn : 300 ≤ n) (hg : GOk G) (hw : w < 8) (hp : p < cnt G) (hz : z ≤ 3) (hK : ∀ σ, SBt G σ → (∀ k, 53 ≤ k → σ k = σ0 k) → (∀ s, s < 2 ^ cnt G → okT G w p s = true → z < pc s) → ∃ a σ', K (nI z + 1) σ = some (a, σ') ∧ RC G σ' ∧ (∀ k, 53 ≤ k → σ' k = σ0 k) ∧ Best (okT G w p) (2 ^ cnt G) a) : ∀ (i v : Nat) (σ : Sg), 2 ^ cnt G < i + v → v ≤ 2 ^ cnt G → SBt G σ → (∀ k, 53 ≤ k → σ k = σ0 k) → (∀ s, s < 2 ^ cnt G → okT G w p s = true → z < pc s ∨ (pc s = z ∧ v ≤ s)) → ∃ a σ', fn_X6_trust_b44 n (nI w) (nI p) K i (nI z) (nI v) σ = some (a, σ') ∧ RC G σ' ∧ (∀ k, 53 ≤ k → σ' k = σ0 k) ∧ Best (okT G w p) (2 ^ cnt G) a
  | 0, v, σ, a, b, h, hf, hi => by omega
  | i + 1, v, σ, a, b, h, hf, hi => by
    have h10 : cnt G ≤ 10 := (cnt_ok hg.1).1
    have hpw : 2 ^ cnt G ≤ 1024 := Nat.pow_le_pow_right (n := 2) (by omega) h10
    obtain ⟨o, hs⟩ := h
    unfold fn_X6_trust_b44 fn_X6_trust_b90
    rw [hs.1.1.2.2.2.1.1, ma_pow _ (by omega)]
    by_cases zz : v = 2 ^ cnt G
    · rw [if_pos (nI_le (show 2 ^ cnt G ≤ v by omega) (by omega))]
      exact hK σ ⟨o, hs⟩ hf (fun s hs hk => by have := hi s hs hk; omega)
    · have hv : v < 2 ^ cnt G := by omega
      rw [if_neg (nI_ge (by omega) (by omega)), sp_pc (by omega), Option.bind_some, nI_1 v]
      have next : okT G w p v = false ∨ pc v ≠ z → ∀ s, s < 2 ^ cnt G → okT G w p s = true → z < pc s ∨ (pc s = z ∧ v + 1 ≤ s) := fun c s hs hk => by
        have := hi s hs hk
        by_cases e : s = v
        · rw [e] at hk this ⊢
          rcases c with c | c
          · rw [c] at hk; cases hk
          · omega
        · omega
      have hpc := pc_le v
      by_cases c : pc v = z
      · rw [if_pos (congrArg nI c)]
        cases cb : bt (nI v) p with
        | true =>
          rw [if_neg (fun q => by have := (ma_b0 _ (show p < 32 by omega)).mp q; rw [cb] at this; cases this)]
          exact sp_trust44 hn hg hw hp hz hK i (v + 1) σ (by omega) (by omega) ⟨o, hs⟩ hf (next (Or.inl (by unfold okT; rw [cb]; rfl)))
        | false =>
          rw [if_pos ((ma_b0 _ (show p < 32 by omega)).mpr cb)]
          obtain ⟨σ1, r1, r2, r3⟩ := sp_trustK (n := n) (x := nI v) hn hg hw hp n 0 σ o (by omega) (by omega) hs (fun q hq => by omega)
          unfold fn_X6_knowsByTrust
          rw [show fn_X6_knowsByTrust_b3 n (nI v) (nI w) (nI p) n 0 σ = _ from r1, Option.bind_some]
          dsimp only
          have ef : ∀ k, 53 ≤ k → σ1 k = σ0 k := fun k hk => (r3 k hk).trans (hf k hk)
          cases cw : ((sim (sTr G (nI v) w) 200).2.2 p w).isSome with
          | true =>
            rw [if_neg (show ¬ bI true = 0 from n10)]
            refine ⟨nI v, σ1, rfl, r2.1, ef, Or.inr ⟨v, hv, rfl, ?_, fun s hs hk => ?_⟩⟩
            · unfold okT
              rw [cb, cw, decide_eq_true (by omega)]; rfl
            · have := hi s hs hk
              omega
          | false =>
            rw [if_pos (show bI false = 0 from rfl)]
            exact sp_trust44 hn hg hw hp hz hK i (v + 1) σ1 (by omega) (by omega) ⟨_, r2⟩ ef (next (Or.inl (by unfold okT; rw [cw, Bool.and_false])))
      · rw [if_neg (neL (by omega) (by omega) c)]
        exact sp_trust44 hn hg hw hp hz hK i (v + 1) σ (by omega) (by omega) ⟨o, hs⟩ hf (next (Or.inr c))
theorem sp_trust36 {n w p : Nat} {G : Gs} {σ0 : Sg} (hn : 2000 ≤ n) (hg : GOk G) (hw : w < 8) (hp : p < cnt G) : ∀ (i z : Nat) (σ : Sg), 4 < i + z → z ≤ 4 → SBt G σ → (∀ k, 53 ≤ k → σ k = σ0 k) → (∀ s, s < 2 ^ cnt G → okT G w p s = true → z ≤ pc s) → ∃ a σ', fn_X6_trust_b36 n (nI w) (nI p) i (nI z) σ = some (a, σ') ∧ RC G σ' ∧ (∀ k, 53 ≤ k → σ' k = σ0 k) ∧ Best (okT G w p) (2 ^ cnt G) a
  | 0, z, σ, a, b, h, hf, hi => by omega
  | i + 1, z, σ, a, b, h, hf, hi => by
    have h10 : cnt G ≤ 10 := (cnt_ok hg.1).1
    have hpw : 2 ^ cnt G ≤ 1024 := Nat.pow_le_pow_right (n := 2) (by omega) h10
    unfold fn_X6_trust_b36
    by_cases zz : z = 4
    · rw [if_pos (show (3 : Int32) < nI z from nI_lt (a := 3) (by omega) (by omega))]
      obtain ⟨o, hs⟩ := h
      refine ⟨-1, σ, rfl, hs.1, hf, Or.inl ⟨rfl, fun s hs => ?_⟩⟩
      cases c : okT G w p s with
      | false => rfl
      | true =>
        have := hi s hs c
        unfold okT at c
        simp only [Bool.and_eq_true, decide_eq_true_eq] at c
        omega
    · rw [if_neg (show ¬ (3 : Int32) < nI z from fun q => by
        have := (nI_ltI (a := 3) (by omega) (show z < 2 ^ 31 by omega)).mp q
        omega)]
      refine sp_trust44 (σ0 := σ0) (by omega) hg hw hp (show z ≤ 3 by omega) (fun σ1 h1 hf1 hi1 => ?_) n 0 σ (by omega) (Nat.zero_le _) h hf (fun s hs hk => by have := hi s hs hk; omega)
      rw [nI_1 z]
      exact sp_trust36 hn hg hw hp i (z + 1) σ1 (by omega) (by omega) h1 hf1 (fun s hs hk => by have := hi1 s hs hk; omega)
theorem sm_trustL {n w p : Nat} {G : Gs} (hn : 600 ≤ n) (hg : GOk G) (hw : w < 8) (hp : p < cnt G) : ∀ (i v : Nat) (a t0 : Int32) (τ : Sg), 2 ^ cnt G < i + v → v ≤ 2 ^ cnt G → RM0 G τ → MFolk G τ → MT τ 8191 (-2) 0 (-1) t0 → τ 53 18 = nI w → Best (okT G w p) v a → ∃ a' τ', fn_X7_trustOf_b14 n (nI w) (nI p) i a (nI v) τ = some (a', τ') ∧ RM G τ' ∧ (∀ k, k < 53 → τ' k = τ k) ∧ Best (okT G w p) (2 ^ cnt G) a'
  | 0, v, a, t0, τ, a1, b, h, hf, ht, h18, hb => by omega
  | i + 1, v, a, t0, τ, a1, b, h, hf, ht, h18, hb => by
    have h10 : cnt G ≤ 10 := (cnt_ok hg.1).1
    have h12 : ls G ≤ 12 := hg.2.2.2.1
    have hpw : 2 ^ cnt G ≤ 1024 := Nat.pow_le_pow_right (n := 2) (by omega) h10
    unfold fn_X7_trustOf_b14 fn_X7_trustOf_b97
    rw [hf.1, ma_pow _ (by omega)]
    by_cases zz : v = 2 ^ cnt G
    · rw [if_pos (nI_le (show 2 ^ cnt G ≤ v by omega) (by omega))]
      obtain ⟨τ', r1, r2, -, r3⟩ := sm_asTold h
      rw [r1]
      exact ⟨a, τ', rfl, r2, fun k hk => r3 k (by omega), zz ▸ hb⟩
    · have hv : v < 2 ^ cnt G := by omega
      have hpc := pc_le v
      rw [if_neg (nI_ge (by omega) (by omega)), sm_isIn (nI v) (show p < 32 by omega), Option.bind_some, nI_1 v]
      cases cb : bt (nI v) p with
      | true =>
        rw [if_neg (show ¬ bI true = 0 from n10)]
        exact sm_trustL hn hg hw hp i (v + 1) a t0 τ (by omega) (by omega) h hf ht h18 (hb.no (by unfold okT; rw [cb]; rfl))
      | false =>
        rw [if_pos (show bI false = 0 from rfl), sm_pc (by omega) (by omega), Option.bind_some]
        by_cases c4 : 4 ≤ pc v
        · rw [if_pos (show (4 : Int32) ≤ nI (pc v) from nI_le (a := 4) c4 (by omega))]
          exact sm_trustL hn hg hw hp i (v + 1) a t0 τ (by omega) (by omega) h hf ht h18 (hb.no (by unfold okT; rw [decide_eq_false (by omega), Bool.and_false, Bool.false_and]))
        · rw [if_neg (show ¬ (4 : Int32) ≤ nI (pc v) from nI_ge (b := 4) (by omega) (by omega))]
          have run : (a = -1 ∨ ∃ b, b < 2 ^ 31 ∧ a = nI b ∧ pc v < pc b) → ∃ a' τ', fn_X7_trustOf_b60 n (nI w) (nI p) (fn_X7_trustOf_b14 n (nI w) (nI p) i) a (nI v) τ = some (a', τ') ∧ RM G τ' ∧ (∀ k, k < 53 → τ' k = τ k) ∧ Best (okT G w p) (2 ^ cnt G) a' := fun hc => by
            have h1 : RM0 G (ag_up τ 53 17 (nI v)) := h.up53 (by omega)
            have f1 : MFolk G (ag_up τ 53 17 (nI v)) := hf.up53 (by decide)
            have t1 : MT (ag_up τ 53 17 (nI v)) 8191 (-2) 0 (-1) (nI v) := ⟨by rw [ma_up_i (by decide)]; exact ht.1, by rw [ma_up_i (by decide)]; exact ht.2.1, by rw [ma_up_i (by decide)]; exact ht.2.2.1, by rw [ma_up_i (by decide)]; exact ht.2.2.2.1, ma_up_s _ _ _ _⟩
            have e18 : ag_up τ 53 17 (nI v) 53 18 = nI w := by rw [ma_up_i (by decide)]; exact h18
            have vm : VM (sTr G (nI v) w) (ag_up τ 53 17 (nI v)) := h1.VMS f1 t1 (fun p hp => by rw [b_0, decide_eq_false (ma_m1 (by omega)), eE_0]) (fun p hp => by rw [if_pos rfl]) (fun p hp => by rw [e18]; exact oTr_B hg hp hw rfl) (fun k hk => (b_8191 k (by omega)).symm)
            obtain ⟨τ1, r1, r2, r3⟩ := sm_runs (last := 199) hn (by omega) vm
            have e7 : ag_up τ 53 17 (nI v) 53 7 = nI (sz (sTr G (nI v) w)) := h1.2.2.2.1.1
            have eb : bt (τ1 64 p) w = ((sim (sTr G (nI v) w) 200).2.2 p w).isSome := (r3.2.2 p (by omega)).at hw (by omega)
            unfold fn_X7_trustOf_b60 fn_X7_trustOf_b96 fn_X7_trustOf_b97
            rw [e7, show fn_X7_runs n 199 (nI (sz (sTr G (nI v) w))) (ag_up τ 53 17 (nI v)) = _ from r1, Option.bind_some, if_pos (ma_ib (by omega) (by omega)), ma_cl (by omega), sm_isIn _ (show w < 32 by omega), Option.bind_some, eb, nI_1 v]
            have ef : ∀ k, k < 53 → τ1 k = τ k := fun k hk => by rw [r2 k (by omega) (by omega) (by omega), ag_up_ne (by omega)]
            have e18' : τ1 53 18 = nI w := by rw [r2 53 (by decide) (by decide) (by decide)]; exact e18
            cases cw : ((sim (sTr G (nI v) w) 200).2.2 p w).isSome with
            | true =>
              rw [if_neg (show ¬ bI true = 0 from n10)]
              obtain ⟨a', τ', q1, q2, q3, q4⟩ := sm_trustL hn hg hw hp i (v + 1) (nI v) _ τ1 (by omega) (by omega) (h1.f3 r2) (f1.f3 r2) (t1.f3 r2) e18' (hb.new (by omega) hc (by unfold okT; rw [cb, cw, decide_eq_true (by omega)]; rfl))
              exact ⟨a', τ', q1, q2, fun k hk => (q3 k hk).trans (ef k hk), q4⟩
            | false =>
              rw [if_pos (show bI false = 0 from rfl)]
              obtain ⟨a', τ', q1, q2, q3, q4⟩ := sm_trustL hn hg hw hp i (v + 1) a _ τ1 (by omega) (by omega) (h1.f3 r2) (f1.f3 r2) (t1.f3 r2) e18' (hb.no (by unfold okT; rw [cw, Bool.and_false]))
              exact ⟨a', τ', q1, q2, fun k hk => (q3 k hk).trans (ef k hk), q4⟩
          have hb0 := hb
          rcases hb with ⟨e, q⟩ | ⟨b', hb', e, q, m⟩
          · rw [if_pos e]
            exact run (Or.inl e)
          · have hpb := pc_le b'
            rw [if_neg (show ¬ a = -1 by rw [e]; exact ma_m1 (by omega)), Option.bind_some]
            have eo : fn_X7_ones n a τ = some (nI (pc b')) := by rw [e]; exact sm_pc (by omega) (by omega) τ
            rw [eo, Option.bind_some]
            by_cases c : pc b' ≤ pc v
            · rw [if_pos (nI_le c (by omega))]
              exact sm_trustL hn hg hw hp i (v + 1) a t0 τ (by omega) (by omega) h hf ht h18 (by rw [e] at hb0 ⊢; exact hb0.old (by omega) (by omega) c)
            · rw [if_neg (nI_ge (by omega) (by omega))]
              exact run (Or.inr ⟨b', by omega, e, by omega⟩)
theorem bo_trust {n : Nat} {G : Gs} {σ τ : Sg} {x1 x2 : Int32} (hn : 2000 ≤ n) (hc : RC G σ) (hm : RM G τ) : ∃ a, HC σ (fn_X6_trust n x1 x2 σ) a G ∧ HM τ (fn_X7_trust n x1 x2 τ) a G := by
  have hg := hc.1.1
  have h10 : cnt G ≤ 10 := (cnt_ok hg.1).1
  have hpw : 2 ^ cnt G ≤ 1024 := Nat.pow_le_pow_right (n := 2) (by omega) h10
  unfold fn_X6_trust fn_X7_trust
  rcases ck_word x1 σ τ with ⟨⟨w, hw, rfl⟩, e1, e2⟩ | ⟨e1, e2⟩
  case inr => rw [e1, e2]; exact ⟨-2, HC.rf hc, HM.rf hm⟩
  rw [e1, e2, Option.bind_some, Option.bind_some, if_neg n10, if_neg n10]
  obtain ⟨τ', hm', hf, ek, h⟩ := ck_pers (show 20 ≤ n by omega) hc hm x2
  rcases h with ⟨⟨p, hp, rfl⟩, e3, e4⟩ | ⟨e3, e4⟩
  case inr => rw [e3, e4]; exact ⟨-2, HC.rf hc, τ', rfl, hm', ek⟩
  rw [e3, e4, Option.bind_some, Option.bind_some, if_neg n10]
  dsimp only
  rw [if_neg n10]
  obtain ⟨σ1, r1, r2, r3⟩ := sp_take hc
  obtain ⟨a, σ2, s1, s2, s3, s4⟩ := sp_trust36 (n := n) (σ0 := σ1) hn hg hw hp n 0 σ1 (by omega) (by omega) ⟨_, r2⟩ (fun _ _ => rfl) (fun _ _ _ => by omega)
  obtain ⟨τ1, q1, q2, q3, q4⟩ := hm'.1.reads (show 20 ≤ n by omega)
  have t5 := hm'.2.f5 q2
  obtain ⟨a', τ2, u1, u2, u3, u4⟩ := sm_trustL (n := n) (p := p) (by omega) hg hw hp n 0 (-1) 0 (ag_up τ1 53 18 (nI w)) (by omega) (Nat.zero_le _) (q3.up53 (by omega)) (q4.up53 (by decide)) (MTold.kp t5 (fun i a b => ma_up_i (by omega) _)) (ma_up_s _ _ _ _) (Best.zero _)
  refine ⟨a, ⟨σ2, ?_, s2, fun k hk => (s3 k hk).trans (r3 k (by omega))⟩, ⟨τ2, ?_, u2, fun k hk => by rw [u3 k hk, ag_up_ne (by omega), q2.2 k (by omega) (by omega) (by omega) (by omega), ek k hk]⟩⟩
  · rw [r1, Option.bind_some]
    exact s1
  · unfold fn_X7_trustOf
    rw [q1, Option.bind_some, show fn_X7_trustOf_b14 n (nI w) (nI p) n (-1) 0 (ag_up τ1 53 18 (nI w)) = _ from u1, s4.uniq u4]
    rfl
