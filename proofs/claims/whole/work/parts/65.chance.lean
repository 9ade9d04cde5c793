/-! chance: whose ends matter -/
def kSh (G : Gs) (per w s : Nat) : Bool := ((sim (sEA G (eSh G (nI s)) (fun _ => true)) 200).2.2 per w).isSome
theorem lvs_e {G : Gs} {e1 e2 : Nat → Nat} {a1 a2 : Nat → Bool} {p : Nat} (h : e1 p = e2 p) (y : Nat) : lvs (sEA G e1 a1) p y = lvs (sEA G e2 a2) p y := by
  show (decide (p < cnt G) && decide (bo (scn G) p ≤ y) && decide (y ≤ bo (scn G) p + e1 p)) = (decide (p < cnt G) && decide (bo (scn G) p ≤ y) && decide (y ≤ bo (scn G) p + e2 p))
  rw [h]
theorem lvs_le {G : Gs} {e : Nat → Nat} {a : Nat → Bool} (he : ∀ p, p < cnt G → e p ≤ en (scn G) p) {p y : Nat} (h : lvs (sEA G e a) p y = true) : lvs (scn G) p y = true := by
  obtain ⟨h1, h2, h3⟩ := lvs_iff.mp h
  have h1 : p < cnt G := h1
  have h2 : bo (scn G) p ≤ y := h2
  have h3 : y ≤ bo (scn G) p + e p := h3
  have := he p h1
  exact lvs_iff.mpr ⟨h1, h2, by omega⟩
theorem off_less {G : Gs} {Y : Nat} {e : Nat → Nat} {H a : Nat → Bool} {W : Nat → Nat → Bool} (hY : Y < 200) (he : ∀ p, p < cnt G → e p ≤ en (scn G) p) (hF : Fixd G Y H W (ls G)) : Off G H W Y (sEA G e a) := by
  intro k hk hh z hz hl hy hc p hr
  obtain ⟨hc1, hc2⟩ := can_iff.mp hc
  have hc' : can (scn G) k z = true := can_iff.mpr ⟨lvs_le he hc1, hc2⟩
  have d := ((due_can (S := scn G) (k := k) (lvs_le he hl) hy (by omega)).mp hc').1
  rcases hF k hk hh with c | c
  · omega
  · have hp : p < cnt G := hrs_cn (S := sEA G e a) hc hr
    have := anyB_f c hp
    have he : hear G k p = true := by
      have hr : (if el (scn G) (lr G k) = true then decide (p ≠ lr G k) && lvs (sEA G e a) p z else decide (p = lr G k)) = true := hr
      unfold hear
      by_cases ce : el (scn G) (lr G k) = true
      · rw [if_pos ce] at hr ⊢
        simp only [Bool.and_eq_true] at hr
        exact hr.1
      · rw [if_neg ce] at hr ⊢
        exact hr
    rw [he, Bool.true_and] at this
    exact this
theorem kn_sameE {G : Gs} {per Y : Nat} {e1 e2 : Nat → Nat} {ws H a : Nat → Bool} {W : Nat → Nat → Bool} (hY : Y < 200) (hp : per < cnt G) (h : HW G per ws H W) (hF : Fixd G Y H W (ls G)) (h1 : ∀ p, p < cnt G → e1 p ≤ en (scn G) p) (h2 : ∀ p, p < cnt G → e2 p ≤ en (scn G) p) (hI : ∀ q, (q = per ∨ ∃ k, k < ls G ∧ H k = true ∧ (q = lw G k ∨ q = lr G k)) → e1 q = e2 q) {v : Nat} (hv : v < 8) (c : ws v = true) : (sim (sEA G e1 a) (Y + 1)).2.2 per v = (sim (sEA G e2 a) (Y + 1)).2.2 per v := by
  have pr := care_eq (G := G) (H := H) (Wt := W) (Y := Y) (e1 := e1) (e2 := e2) (a1 := a) (a2 := a) ⟨fun k hk hh => ⟨rfl, lvs_e (hI _ (Or.inr ⟨k, hk, hh, Or.inl rfl⟩)), lvs_e (hI _ (Or.inr ⟨k, hk, hh, Or.inr rfl⟩))⟩, fun q u hw => lvs_e (hI q (h.2.2 q u hw))⟩ (clo_of h) (off_less hY h1 hF) (off_less hY h2 hF) (Y + 1) (Nat.le_refl _)
  rcases h.2.1 v hv c with q | q
  · exact pr.2.1 per v q
  · obtain ⟨q1, q2⟩ := pr.2.2 per v hp q
    exact q1.trans q2.symm
theorem eSh_en {G : Gs} {x : Int32} (hg : GOk G) {p : Nat} (hp : p < cnt G) : eSh G x p ≤ en (scn G) p := by
  cases c : bt x p with
  | false => rw [eSh_f c]; exact Nat.le_refl _
  | true =>
    rw [eSh_t c]
    have : 1 ≤ en (scn G) p := by
      obtain ⟨-, -, -, b4, b5, b6, -⟩ := (cnt_ok hg.1).2 p hp
      have b4 := fig_iff.mp b4
      have b5 := fig_iff.mp b5
      show 1 ≤ (tb G (6 * p + 2) - 48) * 10 + (tb G (6 * p + 2 + 1) - 48)
      have e : 6 * p + 2 + 1 = 6 * p + 3 := by omega
      rw [e]
      omega
    split <;> omega
/-- who writes or reads a helpful letter -/
def inv (G : Gs) (H : Nat → Bool) (p : Nat) : Bool := anyB (fun k => H k && (decide (p = lw G k) || decide (p = lr G k))) (ls G)
theorem kSh_same {G : Gs} {per w s t : Nat} {H : Nat → Bool} {W : Nat → Nat → Bool} (hg : GOk G) (hp : per < cnt G) (hw : w < 8) (h : HW G per (fun v => decide (v = w)) H W) (hF : Fixd G 199 H W (ls G)) (ha : ∀ q, (q = per ∨ ∃ k, k < ls G ∧ H k = true ∧ (q = lw G k ∨ q = lr G k)) → bt (nI s) q = bt (nI t) q) : kSh G per w s = kSh G per w t := by
  unfold kSh
  have e := kn_sameE (G := G) (per := per) (Y := 199) (e1 := eSh G (nI s)) (e2 := eSh G (nI t)) (a := fun _ => true) (by omega) hp h hF (fun p hp => eSh_en hg hp) (fun p hp => eSh_en hg hp) (fun q hq => by
    unfold eSh
    rw [ha q hq]) (v := w) hw (decide_eq_true rfl)
  exact congrArg Option.isSome e
theorem anyB_ex {f : Nat → Bool} : ∀ {m : Nat}, anyB f m = true → ∃ v, v < m ∧ f v = true
  | 0, h => by cases h
  | m + 1, h => by
    have h : (anyB f m || f m) = true := h
    cases c : f m with
    | true => exact ⟨m, by omega, c⟩
    | false =>
      rw [c, Bool.or_false] at h
      obtain ⟨v, h1, h2⟩ := anyB_ex h
      exact ⟨v, by omega, h2⟩
theorem sp_invL {n : Nat} {G : Gs} {σ : Sg} {h : Int32} {H : Nat → Bool} (hc : RC G σ) (hh : IsB h (ls G) H) : ∀ (i v : Nat) (x : Int32), ls G < i + v → v ≤ ls G → IsB x 10 (fun p => anyB (fun k => H k && (decide (p = lw G k) || decide (p = lr G k))) v) → ∃ x', fn_X5_involvedIn_b4 n 3 h σ i x (nI v) = some x' ∧ IsB x' 10 (inv G H)
  | 0, v, x, a, b, hx => by omega
  | i + 1, v, x, a, b, hx => by
    have g := hc.1.1
    have h12 : ls G ≤ 12 := g.2.2.2.1
    unfold fn_X5_involvedIn_b4 fn_X5_involvedIn_b50
    rw [show σ (3 + 7) 0 = _ from hc.1.2.2.2.2.1.1]
    by_cases z : v = ls G
    · rw [if_pos (nI_le (show ls G ≤ v by omega) (by omega))]
      rw [z] at hx
      exact ⟨x, rfl, hx⟩
    · have hv : v < ls G := by omega
      have eb := hh.at hv (by omega)
      obtain ⟨l1, l2, l3, l4, l5⟩ := hc.1.2.2.2.2.1.2 v hv
      obtain ⟨g1, g2, -⟩ := g.2.2.2.2.1 v hv
      have I : ag_ib (nI v) 13 = true := ma_ib (by omega) (by omega)
      rw [if_neg (nI_ge (by omega) (by omega)), nI_1 v]
      cases c : H v with
      | true =>
        rw [if_pos ((ma_b1 _ (show v < 32 by omega)).mpr (eb.trans c)), if_pos I, if_pos I, ma_cl (by omega), show σ (3 + 8) v = _ from l1, show σ (3 + 9) v = _ from l2]
        refine sp_invL hc hh i (v + 1) _ (by omega) (by omega) ((hx.or ((IsB.one g1 (show 10 ≤ 32 by omega)).or (IsB.one g2 (show 10 ≤ 32 by omega)))).congr (fun p _ => ?_))
        show _ = (anyB (fun k => H k && (decide (p = lw G k) || decide (p = lr G k))) v || (H v && (decide (p = lw G v) || decide (p = lr G v))))
        rw [c, Bool.true_and]
      | false =>
        rw [if_neg (fun q => by have := (ma_b1 _ (show v < 32 by omega)).mp q; rw [eb, c] at this; cases this)]
        refine sp_invL hc hh i (v + 1) x (by omega) (by omega) (hx.congr (fun p _ => ?_))
        show _ = (anyB (fun k => H k && (decide (p = lw G k) || decide (p = lr G k))) v || (H v && (decide (p = lw G v) || decide (p = lr G v))))
        rw [c, Bool.false_and, Bool.or_false]
/-! the class's sum -/
theorem sp_powerL {n b e : Nat} {σ : Sg} (hb : b < 2 ^ 31) (he : e < 2 ^ 31) : ∀ (i v : Nat), e < i + v → v ≤ e → fn_X6_power_b5 n (nI b) (nI e) σ i (lN (b ^ v)) (nI v) = some (lN (b ^ e))
  | 0, v, a, c => by omega
  | i + 1, v, a, c => by
    unfold fn_X6_power_b5
    by_cases z : v = e
    · rw [if_pos (nI_le (show e ≤ v by omega) (by omega)), z]
    · rw [if_neg (nI_ge (by omega) (by omega)), nI_l hb, lN_mul, nI_1 v, ← Nat.pow_succ]
      exact sp_powerL hb he i (v + 1) (by omega) (by omega)
theorem sp_power {n b e : Nat} (hn : 20 ≤ n) (hb : b < 2 ^ 31) (he : e ≤ 12) (σ : Sg) : fn_X6_power n (nI b) (nI e) σ = some (lN (b ^ e)) := sp_powerL hb (by omega) n 0 (by omega) (by omega)
theorem Wg_le {c N o : Nat} (hc : c ≤ 16) (h : o ≤ N) : Wg c N o ≤ 16 ^ N := by
  unfold Wg
  have h1 : c ^ o ≤ 16 ^ o := Nat.pow_le_pow_left hc o
  have h2 : (16 - c) ^ (N - o) ≤ 16 ^ (N - o) := Nat.pow_le_pow_left (by omega) _
  have h3 := Nat.mul_le_mul h1 h2
  rw [← Nat.pow_add, show o + (N - o) = N by omega] at h3
  exact h3
theorem pow16 {m : Nat} (h : m ≤ 12) : 16 ^ m ≤ 2 ^ 48 := by
  have : (16 : Nat) ^ m ≤ 16 ^ 12 := Nat.pow_le_pow_right (by omega) h
  have e : (16 : Nat) ^ 12 = 2 ^ 48 := by decide
  omega
def SBe (G : Gs) (σ : Sg) : Prop := ∃ e, SB G e (mo (scn G)) (ow (scn G)) (lo_ G) (fun _ => true) σ
theorem sp_shorter {n per w s : Nat} {G : Gs} {σ : Sg} (hn : 300 ≤ n) (hg : GOk G) (hp : per < cnt G) (hw : w < 8) (h : SBe G σ) : ∃ σ', fn_X6_knowsWithShorter n (nI s) (nI w) (nI per) σ = some (bI (kSh G per w s), σ') ∧ SBe G σ' ∧ ∀ k, 53 ≤ k → σ' k = σ k := by
  obtain ⟨e, h⟩ := h
  have h10 : cnt G ≤ 10 := (cnt_ok hg.1).1
  obtain ⟨σ1, s1, s2, s3⟩ := sp_shorten (n := n) (x := nI s) (by omega) h
  obtain ⟨σ2, u1, u2, u3, u4⟩ := s2.live hn (fun p hp => eSh_le hg hp) (fun p _ => mo_le G p) (fun k hk => (hg.2.2.2.2.1 k hk).2.2.2.2.1)
  have eb : bt (σ2 36 per) w = kSh G per w s := (u3.2.2 per hp).1.at hw (by omega)
  have ef : ∀ k, 53 ≤ k → σ2 k = σ k := fun k hk => by rw [u4 k (by omega), s3 k (by omega)]
  unfold fn_X6_knowsWithShorter
  rw [s1, Option.bind_some, u1, Option.bind_some, if_pos (ma_ib (by omega) (by omega)), ma_cl (by omega)]
  cases c : kSh G per w s with
  | true => rw [if_pos ((ma_b1 _ (show w < 32 by omega)).mpr (eb.trans c))]; exact ⟨σ2, rfl, ⟨_, u2⟩, ef⟩
  | false => rw [if_neg (fun q => by have := (ma_b1 _ (show w < 32 by omega)).mp q; rw [eb, c] at this; cases this)]; exact ⟨σ2, rfl, ⟨_, u2⟩, ef⟩
def fSh (G : Gs) (per w s : Nat) : Nat := if kSh G per w s = true then 1 else 0
theorem sp_sumL {n per w c I : Nat} {G : Gs} (hn : 300 ≤ n) (hg : GOk G) (hp : per < cnt G) (hw : w < 8) (hc : c ≤ 16) (hI : I < 2 ^ 12) : ∀ (i v : Nat) (σ : Sg), 2 ^ pc I < i + v → v ≤ 2 ^ pc I → SBe G σ → ∃ σ', fn_X6_weightOfKnowing_b27 n (nI c) (nI per) (nI w) (nI I) i (lN (sF (fun j => Wg c (pcn 12 I) (pcn 12 (pd 12 I j)) * fSh G per w (pd 12 I j)) v)) (nI (pc I)) (nI (pd 12 I v)) (nI v) σ = some (lN (SCl c 12 I (fSh G per w)), σ') ∧ RC G σ' ∧ ∀ k, 53 ≤ k → σ' k = σ k
  | 0, v, σ, a, b, h => by omega
  | i + 1, v, σ, a, b, h => by
    have hm := pc_le I
    have hpw := pow_12 hm
    have hl := pd_lt 12 I v
    have hle : pc (pd 12 I v) ≤ pc I := pc_pd
    unfold fn_X6_weightOfKnowing_b27 fn_X6_weightOfKnowing_b89
    rw [ma_pow _ (by omega)]
    by_cases zz : v = 2 ^ pc I
    · rw [if_pos (nI_le (show 2 ^ pc I ≤ v by omega) (by omega)), zz]
      obtain ⟨e, hs⟩ := h
      exact ⟨σ, rfl, hs.1, fun _ _ => rfl⟩
    · have hv : v < 2 ^ pc I := by omega
      have hW := Wg_le hc hle
      have h16 := pow16 hm
      rw [if_neg (nI_ge (by omega) (by omega)), sp_pc hl, Option.bind_some, sp_power (by omega) (by omega) (by omega), Option.bind_some, show (16 : Int32) - nI c = nI (16 - c) from pk_sub (a := 16) hc, pk_sub hle, sp_power (by omega) (by omega) (by omega), Option.bind_some, lN_mul, sp_next hI, Option.bind_some, nI_1 v]
      show ∃ σ', (if lg_cmp (lN (Wg c (pc I) (pc (pd 12 I v)))) 0 = 0 then _ else _) = _ ∧ _
      have es : sF (fun j => Wg c (pcn 12 I) (pcn 12 (pd 12 I j)) * fSh G per w (pd 12 I j)) (v + 1) = sF (fun j => Wg c (pcn 12 I) (pcn 12 (pd 12 I j)) * fSh G per w (pd 12 I j)) v + Wg c (pc I) (pc (pd 12 I v)) * fSh G per w (pd 12 I v) := rfl
      by_cases cz : Wg c (pc I) (pc (pd 12 I v)) = 0
      · rw [if_pos (show lg_cmp (lN (Wg c (pc I) (pc (pd 12 I v)))) 0 = 0 from (lg_cmp_eq _ _).mpr (by rw [cz]; rfl))]
        have := sp_sumL (n := n) hn hg hp hw hc hI i (v + 1) σ (by omega) (by omega) h
        rw [es, cz, Nat.zero_mul, Nat.add_zero] at this
        exact this
      · rw [if_neg (show ¬ lg_cmp (lN (Wg c (pc I) (pc (pd 12 I v)))) 0 = 0 from fun q => cz ((lN_inj (b := 0) (by omega) (by omega)).mp ((lg_cmp_eq _ _).mp q)))]
        obtain ⟨σ1, r1, r2, r3⟩ := sp_shorter (n := n) (s := pd 12 I v) hn hg hp hw h
        rw [r1, Option.bind_some]
        dsimp only
        obtain ⟨σ', q1, q2, q3⟩ := sp_sumL (n := n) hn hg hp hw hc hI i (v + 1) σ1 (by omega) (by omega) r2
        cases ck : kSh G per w (pd 12 I v) with
        | false =>
          rw [if_pos (show bI false = 0 from rfl), sp_next hI, Option.bind_some]
          have ef : fSh G per w (pd 12 I v) = 0 := by unfold fSh; rw [ck, if_neg (by decide)]
          rw [es, ef, Nat.mul_zero, Nat.add_zero] at q1
          exact ⟨σ', q1, q2, fun k hk => (q3 k hk).trans (r3 k hk)⟩
        | true =>
          rw [if_neg (show ¬ bI true = 0 from n10), sp_next hI, Option.bind_some]
          have ef : fSh G per w (pd 12 I v) = 1 := by unfold fSh; rw [ck, if_pos rfl]
          rw [es, ef, Nat.mul_one, ← lN_add] at q1
          exact ⟨σ', q1, q2, fun k hk => (q3 k hk).trans (r3 k hk)⟩
/-! the class halves -/
theorem sp_halveL {n k A0 : Nat} {x1 x2 x3 x4 : Int32} {σ : Sg} (hk : k ≤ 40) (hA : A0 < 2 ^ 62) : ∀ (i t A : Nat), k < i + t → t ≤ k → A * 2 ^ t = A0 → ∃ t' A', t' ≤ k ∧ A' * 2 ^ t' = A0 ∧ (t' = k ∨ A' % 2 = 1) ∧ fn_X6_chance_b95 n x1 x2 x3 x4 i (lN A) (lN (2 ^ (k - t))) (nI t) σ = some (if x4 = 0 then lN A' else lN (2 ^ (k - t')), σ)
  | 0, t, A, a, b, e => by omega
  | i + 1, t, A, a, b, e => by
    have hAle : A ≤ A0 := by
      rw [← e]
      exact Nat.le_mul_of_pos_right A (Nat.pow_pos (by omega))
    have hp40 : 2 ^ (k - t) ≤ 2 ^ 40 := Nat.pow_le_pow_right (by omega) (by omega)
    have fin : (t = k ∨ A % 2 = 1) → ∃ t' A', t' ≤ k ∧ A' * 2 ^ t' = A0 ∧ (t' = k ∨ A' % 2 = 1) ∧ fn_X6_chance_b136 n x1 x2 x3 x4 (lN A) (lN (2 ^ (k - t))) σ = some (if x4 = 0 then lN A' else lN (2 ^ (k - t')), σ) := fun c => by
      refine ⟨t, A, b, e, c, ?_⟩
      unfold fn_X6_chance_b136
      by_cases z : x4 = 0
      · rw [if_pos z, if_pos z]
      · rw [if_neg z, if_neg z]
    rw [fn_X6_chance_b95]
    dsimp only
    by_cases c40 : t = 40
    · rw [if_pos (show (40 : Int32) ≤ nI t from nI_le (a := 40) (by omega) (by omega))]
      exact fin (Or.inl (by omega))
    · rw [if_neg (show ¬ (40 : Int32) ≤ nI t from nI_ge (b := 40) (by omega) (by omega))]
      by_cases ck : t = k
      · rw [if_pos ((lg_cmp_le _ _).mpr (by
          rw [ck, Nat.sub_self]
          exact (lN_leB (a := 1) (b := 1) (by omega) (by omega)).mpr (Nat.le_refl _)))]
        exact fin (Or.inl ck)
      · have hs : 2 ^ (k - t) = 2 ^ (k - (t + 1)) * 2 := by
          rw [← Nat.pow_succ]
          congr 1
          omega
        have hpos : 0 < 2 ^ (k - (t + 1)) := Nat.pow_pos (by omega)
        rw [if_neg (fun q => by
          have := (lN_leB (a := 2 ^ (k - t)) (b := 1) (by omega) (by omega)).mp ((lg_cmp_le _ _).mp q)
          omega), lN_and1 (show A < 2 ^ 63 by omega)]
        by_cases c2 : A % 2 = 1
        · rw [if_neg (fun q => by
            have := (lN_inj (a := A % 2) (b := 0) (by omega) (by omega)).mp ((lg_cmp_eq _ _).mp q)
            omega)]
          exact fin (Or.inr c2)
        · rw [if_pos ((lg_cmp_eq _ _).mpr (by rw [show A % 2 = 0 by omega]; rfl)), lN_shr1 (show A < 2 ^ 63 by omega), lN_shr1 (show 2 ^ (k - t) < 2 ^ 63 by omega), nI_1 t, show 2 ^ (k - t) / 2 = 2 ^ (k - (t + 1)) by omega]
          refine sp_halveL hk hA i (t + 1) (A / 2) (by omega) (by omega) ?_
          rw [← e, Nat.pow_succ, Nat.mul_comm (2 ^ t) 2, ← Nat.mul_assoc, show A / 2 * 2 = A by omega]
