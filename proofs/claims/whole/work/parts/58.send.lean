/-! send: one letter more that isn't opened before a year changes nothing before it -/
def DatEq (S T : Sc) (k : Nat) : Prop := wr T k = wr S k ∧ rd T k = rd S k ∧ yr T k = yr S k ∧ wd T k = wd S k ∧ nd T k = nd S k ∧ ac T k = ac S k
def Ag (m : Nat) (st st' : Ys) : Prop := (∀ j, j < m → st.1 j = st'.1 j) ∧ (∀ j, j < m → st.2.1 j = st'.2.1 j) ∧ st.2.2 = st'.2.2
theorem pe_lvs {S T : Sc} (hp : T.1 = S.1) (p y : Nat) : lvs T p y = lvs S p y := by
  unfold lvs cn bo en
  rw [hp]
theorem pe_tls {S T : Sc} (hp : T.1 = S.1) (p y : Nat) : tls T p y = tls S p y := by
  unfold tls bo mo
  rw [hp]
theorem pe_el {S T : Sc} (hp : T.1 = S.1) : el T = el S := by
  unfold el
  rw [hp]
theorem pe_can {S T : Sc} (hp : T.1 = S.1) {k : Nat} (d : DatEq S T k) (y : Nat) : can T k y = can S k y := by
  unfold can
  rw [pe_lvs hp, pe_tls hp, pe_tls hp, d.1, d.2.1, d.2.2.1]
theorem pe_wok {S T : Sc} (hp : T.1 = S.1) {k : Nat} (d : DatEq S T k) : wok T k = wok S k := by
  unfold wok
  rw [pe_lvs hp, d.1, d.2.2.1, d.2.2.2.2.2]
theorem pe_hrs {S T : Sc} (hp : T.1 = S.1) {k : Nat} (d : DatEq S T k) (y p : Nat) : hrs T k y p = hrs S k y p := by
  unfold hrs
  rw [pe_lvs hp, pe_el hp, d.2.1]
theorem ag_opn {S T : Sc} (hp : T.1 = S.1) {k m y : Nat} (d : DatEq S T k) (hk : k < m) {st st' : Ys} (h : Ag m st st') : Ag m (opn S y k st) (opn T y k st') := by
  have e : opc T y k st' = opc S y k st := by
    unfold opc has
    rw [pe_can hp d, d.2.1, d.2.2.2.2.1, ← h.1 k hk, ← h.2.1 k hk, ← h.2.2]
  unfold opn
  rw [e]
  by_cases c : opc S y k st = true
  · rw [if_pos c, if_pos c]
    refine ⟨h.1, fun j hj => ?_, ?_⟩
    · dsimp only
      rw [h.2.1 j hj]
    · funext p w
      dsimp only
      rw [pe_hrs hp d, d.2.2.2.1, h.2.2]
  · rw [if_neg c, if_neg c]
    exact h
theorem ag_opns {S T : Sc} (hp : T.1 = S.1) {m y : Nat} (d : ∀ k, k < m → DatEq S T k) {st st' : Ys} (h : Ag m st st') : ∀ j, j ≤ m → Ag m (opns S y j st) (opns T y j st')
  | 0, _ => h
  | j + 1, q => ag_opn hp (d j (by omega)) (by omega) (ag_opns hp d h j (by omega))
theorem sim_more {S T : Sc} {lim : Nat} (hp : T.1 = S.1) (hz : sz T = sz S + 1) (d : ∀ k, k < sz S → DatEq S T k) (hl : lim ≤ 200) (hd : lim ≤ dueY T (sz S)) : ∀ z, z ≤ lim → Ag (sz S) (sim S z) (sim T z)
  | 0, _ => ⟨fun _ _ => rfl, fun _ _ => rfl, by
      show (fun p w => if (decide (p < cn S) && ow S p w) = true then some 0 else none) = (fun p w => if (decide (p < cn T) && ow T p w) = true then some 0 else none)
      unfold cn ow
      rw [hp]⟩
  | z + 1, q => by
    have ih := sim_more hp hz d hl hd z (by omega)
    have h1 : Ag (sz S) (wrt S z (sim S z)) (wrt T z (sim T z)) := by
      refine ⟨fun j hj => ?_, ih.2.1, ih.2.2⟩
      show ((sim S z).1 j || (decide (j < sz S) && decide (yr S j = z) && wok S j && ((sim S z).2.2 (wr S j) (wd S j)).isSome)) = ((sim T z).1 j || (decide (j < sz T) && decide (yr T j = z) && wok T j && ((sim T z).2.2 (wr T j) (wd T j)).isSome))
      have dj := d j hj
      rw [ih.1 j hj, ih.2.2, pe_wok hp dj, dj.1, dj.2.2.1, dj.2.2.2.1, decide_eq_true hj, decide_eq_true (show j < sz T by omega)]
    have h2 := ag_opns (y := z) hp d h1 (sz S) (Nat.le_refl _)
    show Ag (sz S) (opns S z (sz S) (wrt S z (sim S z))) (opns T z (sz T) (wrt T z (sim T z)))
    rw [hz]
    show Ag (sz S) (opns S z (sz S) (wrt S z (sim S z))) (opn T z (sz S) (opns T z (sz S) (wrt T z (sim T z))))
    have no : opc T z (sz S) (opns T z (sz S) (wrt T z (sim T z))) = false := by
      cases c : opc T z (sz S) (opns T z (sz S) (wrt T z (sim T z))) with
      | false => rfl
      | true =>
        exfalso
        unfold opc at c
        rw [opns_W] at c
        simp only [Bool.and_eq_true] at c
        obtain ⟨⟨⟨c1, -⟩, c3⟩, -⟩ := c
        have cw : (sim T (z + 1)).1 (sz S) = true := by
          show (opns T z (sz T) (wrt T z (sim T z))).1 (sz S) = true
          rw [opns_W]; exact c1
        obtain ⟨-, w1, w2⟩ := sim_W_ok T (z + 1) cw
        unfold wok at w1
        simp only [Bool.and_eq_true] at w1
        have := ((due_can w1.2 (by omega) (by omega)).mp c3).1
        omega
    unfold opn
    rw [no, if_neg (by decide)]
    exact h2
/-- learned not before lim without it, and not due before lim: not learned before lim with it -/
theorem more_late {S T : Sc} {lim q w t : Nat} (hp : T.1 = S.1) (hz : sz T = sz S + 1) (d : ∀ k, k < sz S → DatEq S T k) (hl : lim ≤ 200) (hd : lim ≤ dueY T (sz S)) (hS : ∀ t, (sim S 200).2.2 q w = some t → lim ≤ t) (hT : (sim T 200).2.2 q w = some t) : lim ≤ t := by
  by_cases c : lim ≤ t
  · exact c
  · exfalso
    have h := sim_more hp hz d hl hd (t + 1) (by omega)
    have h1 := (sim_K_iff T (y := t) (z := 200) (p := q) (w := w) (by omega)).mpr ⟨t, hT, Nat.le_refl _⟩
    rw [← h.2.2] at h1
    obtain ⟨u, u1, u2⟩ := (sim_K_iff S (y := t) (z := 200) (p := q) (w := w) (by omega)).mp h1
    have := hS u u1
    omega
def sAd (G : Gs) (a q y w : Nat) : Sc := scn (gAdd G a q y w none)
theorem sAd_eq (G : Gs) (a q y w : Nat) : (sAd G a q y w).1 = (scn G).1 ∧ sz (sAd G a q y w) = sz (scn G) + 1 ∧ ∀ k, k < sz (scn G) → DatEq (scn G) (sAd G a q y w) k := by
  refine ⟨rfl, rfl, fun k hk => ?_⟩
  have hk : ¬ k = ls G := fun e => by
    have : k < ls G := hk
    omega
  exact ⟨if_neg hk, if_neg hk, if_neg hk, if_neg hk, if_neg hk, rfl⟩
/-- set the letter behind the last -/
theorem sp_setAt {l : Nat} {σ : Sg} {v1 v2 v3 v4 v5 : Int32} (hl : l < 13) (h : σ 28 0 = nI (l + 1)) : ∃ σ', fn_X2_setLast 28 v1 v2 v3 v4 v5 σ = some σ' ∧ (σ' 29 l = v1 ∧ σ' 30 l = v2 ∧ σ' 31 l = v3 ∧ σ' 32 l = v4 ∧ σ' 33 l = v5) ∧ (∀ c i, i ≠ l → σ' c i = σ c i) ∧ ∀ c, c < 29 ∨ 33 < c → σ' c = σ c := by
  unfold fn_X2_setLast
  rw [h, nI_pred, if_neg (nI_pos (by omega)), if_pos (show nI l < (13 : Int32) from nI_lt (b := 13) (by omega) (by omega)), if_pos (ma_ib (by omega) (by omega)), if_pos (ma_ib (by omega) (by omega)), ma_cl (by omega)]
  unfold ag_sg
  dsimp only
  rw [if_pos (ma_ib (by omega) (by omega)), if_pos (ma_ib (by omega) (by omega)), if_pos (ma_ib (by omega) (by omega))]
  refine ⟨_, rfl, ⟨?_, ?_, ?_, ?_, ma_up_s _ _ _ _⟩, fun c i hi => ?_, fun c hc => ?_⟩
  · rw [ag_up_ne (by decide), ag_up_ne (by decide), ag_up_ne (by decide), ag_up_ne (by decide)]; exact ma_up_s _ _ _ _
  · rw [ag_up_ne (by decide), ag_up_ne (by decide), ag_up_ne (by decide)]; exact ma_up_s _ _ _ _
  · rw [ag_up_ne (by decide), ag_up_ne (by decide)]; exact ma_up_s _ _ _ _
  · rw [ag_up_ne (by decide)]; exact ma_up_s _ _ _ _
  · rw [ma_up_i hi, ma_up_i hi, ma_up_i hi, ma_up_i hi, ma_up_i hi]
  · rw [ag_up_ne (by omega), ag_up_ne (by omega), ag_up_ne (by omega), ag_up_ne (by omega), ag_up_ne (by omega)]
theorem sm_layAt {l : Nat} {σ : Sg} {v1 v2 v3 v4 v5 : Int32} (hl : l < 13) : ∃ σ', fn_X7_lays (nI l) v1 v2 v3 v4 v5 σ = some σ' ∧ (σ' 59 l = v1 ∧ σ' 60 l = v2 ∧ σ' 61 l = v3 ∧ σ' 62 l = v4 ∧ σ' 63 l = v5) ∧ (∀ c i, i ≠ l → σ' c i = σ c i) ∧ ∀ c, c < 59 ∨ 63 < c → σ' c = σ c := by
  unfold fn_X7_lays
  rw [if_pos (ma_ib (by omega) (by omega)), if_pos (ma_ib (by omega) (by omega)), ma_cl (by omega)]
  unfold ag_sg
  dsimp only
  rw [if_pos (ma_ib (by omega) (by omega)), if_pos (ma_ib (by omega) (by omega)), if_pos (ma_ib (by omega) (by omega))]
  refine ⟨_, rfl, ⟨?_, ?_, ?_, ?_, ma_up_s _ _ _ _⟩, fun c i hi => ?_, fun c hc => ?_⟩
  · rw [ag_up_ne (by decide), ag_up_ne (by decide), ag_up_ne (by decide), ag_up_ne (by decide)]; exact ma_up_s _ _ _ _
  · rw [ag_up_ne (by decide), ag_up_ne (by decide), ag_up_ne (by decide)]; exact ma_up_s _ _ _ _
  · rw [ag_up_ne (by decide), ag_up_ne (by decide)]; exact ma_up_s _ _ _ _
  · rw [ag_up_ne (by decide)]; exact ma_up_s _ _ _ _
  · rw [ma_up_i hi, ma_up_i hi, ma_up_i hi, ma_up_i hi, ma_up_i hi]
  · rw [ag_up_ne (by omega), ag_up_ne (by omega), ag_up_ne (by omega), ag_up_ne (by omega), ag_up_ne (by omega)]
/-- the class supposes one letter more -/
def SS (G : Gs) (σ : Sg) : Prop := RC G σ ∧ VF 22 (scn G) σ ∧ (σ 28 0 = nI (ls G + 1) ∧ ∀ k, k < ls G → σ 29 k = nI (lw G k) ∧ σ 30 k = nI (lr G k) ∧ σ 31 k = nI (ly G k) ∧ σ 32 k = nI (lo_ G k) ∧ σ 33 k = oI (ln_ G k)) ∧ σ 21 2 = 0
theorem SS.keep {G : Gs} {σ σ' : Sg} (h : SS G σ) (e : ∀ k, k < 53 → k < 21 ∨ (21 < k ∧ k < 29) ∨ 38 < k → σ' k = σ k) (e2 : ∀ k i, 29 ≤ k → k ≤ 33 → i < ls G → σ' k i = σ k i) (e3 : σ' 21 2 = σ 21 2) : SS G σ' := by
  obtain ⟨hc, hf, ⟨p1, p2⟩, h0⟩ := h
  refine ⟨hc.keep (fun k k1 k2 => e k k1 (by omega)), ?_, ⟨by rw [e 28 (by omega) (by omega)]; exact p1, fun k hk => ?_⟩, by rw [e3]; exact h0⟩
  · unfold VF at *
    rw [e 22 (by omega) (by omega), e (22 + 1) (by omega) (by omega), e (22 + 2) (by omega) (by omega), e (22 + 3) (by omega) (by omega), e (22 + 4) (by omega) (by omega), e (22 + 5) (by omega) (by omega)]
    exact hf
  · rw [e2 29 k (by omega) (by omega) hk, e2 30 k (by omega) (by omega) hk, e2 31 k (by omega) (by omega) hk, e2 32 k (by omega) (by omega) hk, e2 33 k (by omega) (by omega) hk]
    exact p2 k hk
theorem SS.Vw {G : Gs} {σ : Sg} {a q y w : Nat} (h : SS G σ) (ha : a < 10) (hq : q < 10) (hy : y < 200) (hw : w < 8) (e : σ 29 (ls G) = nI a ∧ σ 30 (ls G) = nI q ∧ σ 31 (ls G) = nI y ∧ σ 32 (ls G) = nI w ∧ σ 33 (ls G) = -1) : Vw 21 (sAd G a q y w) σ := by
  obtain ⟨hc, hf, ⟨p1, p2⟩, h0⟩ := h
  have g := hc.1.1
  have hl : ls G ≤ 12 := g.2.2.2.1
  refine ⟨hf, ⟨p1, show ls G + 1 ≤ 13 by omega, fun k hk => ?_⟩, fun k hk => by rw [h0, b_0]; rfl⟩
  have hk : k < ls G + 1 := hk
  show σ 29 k = nI (if k = ls G then a else lw G k) ∧ (if k = ls G then a else lw G k) < 10 ∧ σ 30 k = nI (if k = ls G then q else lr G k) ∧ (if k = ls G then q else lr G k) < 10 ∧ σ 31 k = nI (if k = ls G then y else ly G k) ∧ (if k = ls G then y else ly G k) < 200 ∧ σ 32 k = nI (if k = ls G then w else lo_ G k) ∧ (if k = ls G then w else lo_ G k) < 8 ∧ σ 33 k = oI (if k = ls G then none else ln_ G k) ∧ ∀ v, (if k = ls G then none else ln_ G k) = some v → v < 8
  by_cases c : k = ls G
  · simp only [if_pos c]
    subst c
    exact ⟨e.1, ha, e.2.1, hq, e.2.2.1, hy, e.2.2.2.1, hw, e.2.2.2.2, fun v hv => by cases hv⟩
  · simp only [if_neg c]
    obtain ⟨a1, a2, a3, a4, a5⟩ := p2 k (by omega)
    obtain ⟨b1, b2, b3, b4, b5, b6⟩ := g.2.2.2.2.1 k (by omega)
    exact ⟨a1, b1, a2, b2, a3, b4, a4, b5, a5, b6⟩
/-- the year of learning, at most lim -/
def LSe (G : Gs) (a q y w lim : Nat) : Nat := match (sim (sAd G a q y w) 200).2.2 q w with
  | none => lim
  | some t => min t lim
theorem sp_sent {n a q y w lim : Nat} {G : Gs} {σ : Sg} (hn : 300 ≤ n) (h : SS G σ) (ha : a < 10) (hq : q < cnt G) (hy : y < 200) (hw : w < 8) (hl : lim ≤ 200) (hS : ∀ t, (sim (scn G) 200).2.2 q w = some t → lim ≤ t) : ∃ σ', fn_X6_learnedBySend n (nI a) (nI q) (nI y) (nI w) (nI lim) σ = some (nI (LSe G a q y w lim), σ') ∧ SS G σ' ∧ ∀ k, 53 ≤ k → σ' k = σ k := by
  have g := h.1.1.1
  have h12 : ls G ≤ 12 := g.2.2.2.1
  have h10 : cnt G ≤ 10 := (cnt_ok g.1).1
  obtain ⟨σ1, r1, r2, r3, r4⟩ := sp_setAt (v1 := nI a) (v2 := nI q) (v3 := nI y) (v4 := nI w) (v5 := -1) (show ls G < 13 by omega) h.2.2.1.1
  have h1 : SS G σ1 := h.keep (fun k k1 k2 => r4 k (by omega)) (fun k i _ _ hi => r3 k i (by omega)) (by rw [r4 21 (by omega)])
  have vw := h1.Vw ha (by omega) hy hw r2
  have e28 : σ1 28 0 = nI (ls G + 1) := h1.2.2.1.1
  unfold fn_X6_learnedBySend
  rw [r1, Option.bind_some, e28, nI_pred, sp_due (k := ls G) vw (by show ls G < ls G + 1; omega), Option.bind_some]
  have dh := due_hi vw.1 (ls G)
  have ef : ∀ k, 53 ≤ k → σ1 k = σ k := fun k hk => r4 k (by omega)
  obtain ⟨e1, e2, e3⟩ := sAd_eq G a q y w
  by_cases c : dueY (sAd G a q y w) (ls G) < lim
  · rw [if_pos (nI_lt c (by omega))]
    obtain ⟨σ2, s1, s2, s3⟩ := sp_live (b := 21) hn vw
    have h2 : SS G σ2 := h1.keep (fun k k1 k2 => s2.2 k (by omega) (by omega) (by omega) (by omega) (by omega)) (fun k i k1 k2 hi => by rw [s2.2 k (by omega) (by omega) (by omega) (by omega) (by omega)]) (s2.1 2 (by decide) (by decide))
    have ef2 : ∀ k, 53 ≤ k → σ2 k = σ k := fun k hk => by rw [s2.2 k (by omega) (by omega) (by omega) (by omega) (by omega), ef k hk]
    rw [s1, Option.bind_some, sp_learning (b := 21) (S := sAd G a q y w) (kp_Vw s2 vw).1 s3 hq hw, Option.bind_some]
    unfold LSe
    cases cc : (sim (sAd G a q y w) 200).2.2 q w with
    | none =>
      rw [if_pos (show oI none = -1 from rfl)]
      exact ⟨σ2, rfl, h2, ef2⟩
    | some t =>
      have ht := sim_K_lt _ (by omega) cc
      rw [if_neg (show ¬ oI (some t) = -1 from ma_m1 (by omega)), show ag_min (oI (some t)) (nI lim) = nI (min t lim) from ma_min (by omega) (by omega)]
      exact ⟨σ2, rfl, h2, ef2⟩
  · rw [if_neg (fun q => c ((nI_ltI dh (by omega)).mp q))]
    have : LSe G a q y w lim = lim := by
      unfold LSe
      cases cc : (sim (sAd G a q y w) 200).2.2 q w with
      | none => rfl
      | some t =>
        have := more_late e1 e2 e3 hl (show lim ≤ dueY (sAd G a q y w) (ls G) by omega) hS cc
        show min t lim = lim
        omega
    rw [this]
    exact ⟨σ1, rfl, h1, ef⟩
/-- whether a writes the word in a year -/
def cwr (G : Gs) (a w y : Nat) : Bool := lvs (scn G) a y && (ow (scn G) a w || match (sim (scn G) 200).2.2 a w with
  | none => false
  | some t => decide (t < y))
theorem sp_could {a w y : Nat} {G : Gs} {σ : Sg} (h : RC G σ) (ha : a < cnt G) (hw : w < 8) (hy : y < 200) : fn_X5_couldWrite 3 (nI a) (nI w) (nI y) σ = some (bI (cwr G a w y)) := by
  have g := h.1.1
  have h10 : cnt G ≤ 10 := (cnt_ok g.1).1
  unfold fn_X5_couldWrite fn_X5_couldWrite_b59 cwr
  rw [sp_lives (f := 3 + 1) h.1.VF (by omega) (by omega), Option.bind_some]
  cases c : lvs (scn G) a y with
  | false => rw [if_pos (show bI false = 0 from rfl)]; rfl
  | true =>
    have I : ag_ib (nI a) 10 = true := ma_ib (by omega) (by omega)
    obtain ⟨k1, k2⟩ := h.2.2.2 a ha
    have eb : bt (σ (3 + 15) a) w = ((sim (scn G) 200).2.2 a w).isSome := k1.at hw (by omega)
    have eo : bt (σ (3 + 6) a) w = ow (scn G) a w := by
      rw [show σ (3 + 6) a = _ from h.1.2.2.1 a (by omega)]
      exact (IsB.ofN (g.2.2.1 a (by omega)) (by omega)).at hw (by omega)
    rw [if_neg (show ¬ bI true = 0 from n10), if_pos I, if_pos I, ma_cl (by omega), Bool.true_and]
    cases cc : (sim (scn G) 200).2.2 a w with
    | none =>
      rw [cc] at eb
      have ow0 : ow (scn G) a w = false := by
        cases co : ow (scn G) a w with
        | false => rfl
        | true =>
          have : (sim (scn G) 0).2.2 a w = some 0 := by rw [sim_K_0, decide_eq_true (show a < cn (scn G) from ha), co]; rfl
          have := sim_K_up (scn G) 200 this
          rw [Nat.zero_add, cc] at this
          cases this
      rw [if_pos ((ma_b0 _ (show w < 32 by omega)).mpr eb), ow0]
      rfl
    | some t =>
      rw [cc] at eb
      rw [if_neg (fun q => by have := (ma_b0 _ (show w < 32 by omega)).mp q; rw [eb] at this; cases this)]
      cases co : ow (scn G) a w with
      | true =>
        rw [if_pos ((ma_b1 _ (show w < 32 by omega)).mpr (eo.trans co))]
        rfl
      | false =>
        have ht := sim_K_lt _ (by omega) cc
        have T0 : nI a * 8 + nI w = nI (a * 8 + w) := by
          rw [← nI_add]
          congr 1
          exact (Int32.ofNat_mul a 8).symm
        rw [if_neg (fun q => by have := (ma_b1 _ (show w < 32 by omega)).mp q; rw [eo, co] at this; cases this), T0, if_pos (ma_ib (by omega) (by omega)), ma_cl (by omega), show σ (3 + 16) (a * 8 + w) = _ from k2 w hw t cc co]
        by_cases ct : t < y
        · rw [if_neg (nI_ge ct (by omega))]
          show _ = some (bI (false || decide (t < y)))
          rw [decide_eq_true ct]; rfl
        · rw [if_pos (nI_le (by omega) (by omega))]
          show _ = some (bI (false || decide (t < y)))
          rw [decide_eq_false ct]; rfl
