/-! ===== the supposed years ===== -/
theorem sg_cp {α : Type} {Q : Option α → Prop} {σ : Sg} {d s N : Nat} {F : Sg → Option α} (h : ∀ t : Sg, (∀ p, p < N → t d p = σ s p) → (∀ k, k ≠ d → t k = σ k) → Q (F t)) : Q (ag_sg (ag_ar σ d (va_cpy (σ s) (σ d) 0 0 N)) F) :=
  h _ (fun p hp => by rw [ma_ar_s, ma_cpy hp]) (fun k hk => ma_ar_n hk)
def T1 (σ : Sg) (o : Option Sg) : Prop := ∃ σ', o = some σ' ∧ σ' 22 0 = σ 4 0 ∧ (∀ p, p < 10 → σ' 23 p = σ 5 p ∧ σ' 24 p = σ 6 p ∧ σ' 25 p = σ 7 p ∧ σ' 26 p = σ 8 p ∧ σ' 27 p = σ 9 p) ∧ ∀ k, k < 22 ∨ 27 < k → σ' k = σ k
theorem sp_take1 (σ : Sg) : T1 σ (fn_X1_takeFrom 22 4 σ) := by
  have d : ag_cpok 0 0 10 10 10 = true := by decide
  unfold fn_X1_takeFrom
  simp only [if_pos d, ma_c0, ma_c10]
  refine sg_cp (Q := T1 σ) (fun t4 a4 b4 => ?_)
  refine sg_cp (Q := T1 σ) (fun t5 a5 b5 => ?_)
  refine sg_cp (Q := T1 σ) (fun t6 a6 b6 => ?_)
  refine sg_cp (Q := T1 σ) (fun t7 a7 b7 => ?_)
  refine sg_cp (Q := T1 σ) (fun t8 a8 b8 => ?_)
  refine ⟨t8, rfl, ?_, fun p hp => ⟨?_, ?_, ?_, ?_, ?_⟩, fun k hk => ?_⟩
  · rw [b8 22 (by decide), b7 22 (by decide), b6 22 (by decide), b5 22 (by decide), b4 22 (by decide), ma_up_s]
  · rw [b8 23 (by decide), b7 23 (by decide), b6 23 (by decide), b5 23 (by decide)]
    rw [show t4 23 p = _ from a4 p hp, ma_up_k (by decide)]
  · rw [b8 24 (by decide), b7 24 (by decide), b6 24 (by decide)]
    rw [show t5 24 p = _ from a5 p hp, b4 _ (by decide), ma_up_k (by decide)]
  · rw [b8 25 (by decide), b7 25 (by decide)]
    rw [show t6 25 p = _ from a6 p hp, b5 _ (by decide), b4 _ (by decide), ma_up_k (by decide)]
  · rw [b8 26 (by decide)]
    rw [show t7 26 p = _ from a7 p hp, b6 _ (by decide), b5 _ (by decide), b4 _ (by decide), ma_up_k (by decide)]
  · rw [show t8 27 p = _ from a8 p hp, b7 _ (by decide), b6 _ (by decide), b5 _ (by decide), b4 _ (by decide), ma_up_k (by decide)]
  · rw [b8 k (by omega), b7 k (by omega), b6 k (by omega), b5 k (by omega), b4 k (by omega), ag_up_ne (by omega)]
def T2 (σ : Sg) (o : Option Sg) : Prop := ∃ σ', o = some σ' ∧ σ' 28 0 = σ 10 0 ∧ (∀ p, p < 13 → σ' 29 p = σ 11 p ∧ σ' 30 p = σ 12 p ∧ σ' 31 p = σ 13 p ∧ σ' 32 p = σ 14 p ∧ σ' 33 p = σ 15 p) ∧ ∀ k, k < 28 ∨ 33 < k → σ' k = σ k
theorem sp_take2 (σ : Sg) : T2 σ (fn_X2_takeFrom 28 10 σ) := by
  have d : ag_cpok 0 0 13 13 13 = true := by decide
  unfold fn_X2_takeFrom
  simp only [if_pos d, ma_c0, ma_c13]
  refine sg_cp (Q := T2 σ) (fun t4 a4 b4 => ?_)
  refine sg_cp (Q := T2 σ) (fun t5 a5 b5 => ?_)
  refine sg_cp (Q := T2 σ) (fun t6 a6 b6 => ?_)
  refine sg_cp (Q := T2 σ) (fun t7 a7 b7 => ?_)
  refine sg_cp (Q := T2 σ) (fun t8 a8 b8 => ?_)
  refine ⟨t8, rfl, ?_, fun p hp => ⟨?_, ?_, ?_, ?_, ?_⟩, fun k hk => ?_⟩
  · rw [b8 28 (by decide), b7 28 (by decide), b6 28 (by decide), b5 28 (by decide), b4 28 (by decide), ma_up_s]
  · rw [b8 29 (by decide), b7 29 (by decide), b6 29 (by decide), b5 29 (by decide)]
    rw [show t4 29 p = _ from a4 p hp, ma_up_k (by decide)]
  · rw [b8 30 (by decide), b7 30 (by decide), b6 30 (by decide)]
    rw [show t5 30 p = _ from a5 p hp, b4 _ (by decide), ma_up_k (by decide)]
  · rw [b8 31 (by decide), b7 31 (by decide)]
    rw [show t6 31 p = _ from a6 p hp, b5 _ (by decide), b4 _ (by decide), ma_up_k (by decide)]
  · rw [b8 32 (by decide)]
    rw [show t7 32 p = _ from a7 p hp, b6 _ (by decide), b5 _ (by decide), b4 _ (by decide), ma_up_k (by decide)]
  · rw [show t8 33 p = _ from a8 p hp, b7 _ (by decide), b6 _ (by decide), b5 _ (by decide), b4 _ (by decide), ma_up_k (by decide)]
  · rw [b8 k (by omega), b7 k (by omega), b6 k (by omega), b5 k (by omega), b4 k (by omega), ag_up_ne (by omega)]
/-- other ends, more, own words, words of letters, letters that are there -/
def scS (G : Gs) (e m : Nat → Nat) (o : Nat → Nat → Bool) (w : Nat → Nat) (a : Nat → Bool) : Sc := ((cnt G, bo (scn G), e, el (scn G), m, o), (ls G, lw G, lr G, ly G, w, ln_ G, a))
/-- the class supposes them -/
def SB (G : Gs) (e m : Nat → Nat) (o : Nat → Nat → Bool) (w : Nat → Nat) (a : Nat → Bool) (σ : Sg) : Prop := RC G σ ∧ (σ 22 0 = nI (cnt G) ∧ ∀ p, p < cnt G → σ 23 p = nI (bo (scn G) p) ∧ σ 25 p = nI (kdp (tb G) p)) ∧ (σ 28 0 = nI (ls G) ∧ ∀ k, k < ls G → σ 29 k = nI (lw G k) ∧ σ 30 k = nI (lr G k) ∧ σ 31 k = nI (ly G k) ∧ σ 33 k = oI (ln_ G k)) ∧ (∀ p, p < cnt G → σ 24 p = nI (e p)) ∧ (∀ p, p < cnt G → σ 26 p = nI (m p)) ∧ (∀ p, p < cnt G → IsB (σ 27 p) 8 (o p)) ∧ (∀ k, k < ls G → σ 32 k = nI (w k)) ∧ ∀ k, k < ls G → bt (σ 21 2) k = !a k
theorem sp_take {G : Gs} {σ : Sg} (h : RC G σ) : ∃ σ', fn_X5_takeFrom 21 3 σ = some σ' ∧ SB G (en (scn G)) (mo (scn G)) (ow (scn G)) (lo_ G) (fun _ => true) σ' ∧ ∀ k, k < 21 ∨ 38 < k → σ' k = σ k := by
  obtain ⟨t1, q1, a0, a1, a2⟩ := sp_take1 σ
  obtain ⟨t2, q2, b0, b1, b2⟩ := sp_take2 t1
  have hl : ls G ≤ 12 := h.1.1.2.2.2.1
  have hk : cnt G ≤ 10 := (cnt_ok h.1.1.1).1
  have E : ∀ k, k < 21 ∨ 38 < k → ag_up t2 21 2 (t2 3 2) k = σ k := fun k q => by rw [ag_up_ne (by omega), b2 k (by omega), a2 k (by omega)]
  refine ⟨ag_up t2 21 2 (t2 3 2), ?_, ⟨?_, ⟨?_, fun p hp => ?_⟩, ⟨?_, fun k hk => ?_⟩, fun p hp => ?_, fun p hp => ?_, fun p hp => ?_, fun k hk => ?_, fun k hk => ?_⟩, E⟩
  · unfold fn_X5_takeFrom
    rw [show fn_X1_takeFrom (21 + 1) (3 + 1) σ = _ from q1, Option.bind_some, show fn_X2_takeFrom (21 + 7) (3 + 7) t1 = _ from q2]
    rfl
  · exact h.keep (fun k k1 k2 => by
      by_cases c : k = 20
      · rw [c]; exact E 20 (by omega)
      · exact E k (by omega))
  · rw [ag_up_ne (by decide), b2 22 (by omega), a0, h.1.2.2.2.1.1]
  · obtain ⟨c1, -, c3, -⟩ := h.1.2.2.2.1.2 p hp
    obtain ⟨d1, -, d3, -⟩ := a1 p (by omega)
    rw [ag_up_ne (by decide), ag_up_ne (by decide), b2 23 (by omega), b2 25 (by omega), d1, d3, c1, c3]
    exact ⟨rfl, rfl⟩
  · rw [ag_up_ne (by decide), b0, a2 10 (by omega), h.1.2.2.2.2.1.1]
  · obtain ⟨c1, c2, c3, c4, c5⟩ := h.1.2.2.2.2.1.2 k hk
    obtain ⟨d1, d2, d3, d4, d5⟩ := b1 k (by omega)
    rw [ag_up_ne (by decide), ag_up_ne (by decide), ag_up_ne (by decide), ag_up_ne (by decide), d1, d2, d3, d5, a2 11 (by omega), a2 12 (by omega), a2 13 (by omega), a2 15 (by omega), c1, c2, c3, c5]
    exact ⟨rfl, rfl, rfl, rfl⟩
  · obtain ⟨-, c2, -, -⟩ := h.1.2.2.2.1.2 p hp
    rw [ag_up_ne (by decide), b2 24 (by omega), (a1 p (by omega)).2.1, c2]
    rfl
  · obtain ⟨-, -, -, c4⟩ := h.1.2.2.2.1.2 p hp
    rw [ag_up_ne (by decide), b2 26 (by omega), (a1 p (by omega)).2.2.2.1, c4]
    rfl
  · rw [ag_up_ne (by decide), b2 27 (by omega), (a1 p (by omega)).2.2.2.2, h.1.2.2.1 p (by omega)]
    exact IsB.ofN (h.1.1.2.2.1 p (by omega)) (by omega)
  · rw [ag_up_ne (by decide), (b1 k (by omega)).2.2.2.1, a2 14 (by omega), (h.1.2.2.2.2.1.2 k hk).2.2.2.1]
  · rw [ma_up_s, b2 3 (by omega), a2 3 (by omega), h.1.2.2.2.2.2.1, b_0]
    rfl
theorem kdp_le (t : Nat → Nat) (p : Nat) : kdp t p ≤ 2 := by unfold kdp; (repeat' split) <;> omega
theorem bo_lt {G : Gs} (g : GOk G) {p : Nat} (hp : p < cnt G) : bo (scn G) p < 100 := by
  obtain ⟨-, b2, b3, -⟩ := (cnt_ok g.1).2 p hp
  exact two_lt b2 b3
theorem SB.Vw {G : Gs} {e m : Nat → Nat} {o : Nat → Nat → Bool} {w : Nat → Nat} {a : Nat → Bool} {σ : Sg} (h : SB G e m o w a σ) (he : ∀ p, p < cnt G → e p ≤ 100) (hm : ∀ p, p < cnt G → m p ≤ 5) (hw : ∀ k, k < ls G → w k < 8) : Vw 21 (scS G e m o w a) σ := by
  obtain ⟨hc, ⟨f1, f2⟩, ⟨p1, p2⟩, h3, h4, h5, h6, h7⟩ := h
  have g := hc.1.1
  have hl : ls G ≤ 12 := g.2.2.2.1
  refine ⟨⟨f1, (cnt_ok g.1).1, fun p hp => ?_⟩, ⟨p1, show ls G ≤ 13 by omega, fun k hk => ?_⟩, h7⟩
  · have hp : p < cnt G := hp
    refine ⟨(f2 p hp).1, bo_lt g hp, h3 p hp, he p hp, ?_, h4 p hp, hm p hp, h5 p hp⟩
    show σ 25 p = 1 ↔ decide (kdp (tb G) p = 1) = true
    have := kdp_le (tb G) p
    rw [(f2 p hp).2, decide_eq_true_eq]
    exact nI_eq (b := 1) (by omega) (by omega)
  · have hk : k < ls G := hk
    obtain ⟨a1, a2, a3, a5⟩ := p2 k hk
    obtain ⟨b1, b2, b3, b4, b5, b6⟩ := g.2.2.2.2.1 k hk
    exact ⟨a1, b1, a2, b2, a3, b4, h6 k hk, hw k hk, a5, b6⟩
/-- cells that living the supposed years, or the reference, leaves -/
theorem SB.keep {G : Gs} {e m : Nat → Nat} {o : Nat → Nat → Bool} {w : Nat → Nat} {a : Nat → Bool} {σ σ' : Sg} (h : SB G e m o w a σ) (e1 : ∀ k, k < 34 → k ≠ 21 → σ' k = σ k) (e2 : σ' 21 2 = σ 21 2) (e3 : ∀ k, 38 < k → k < 53 → σ' k = σ k) : SB G e m o w a σ' := by
  obtain ⟨hc, ⟨f1, f2⟩, ⟨p1, p2⟩, h3, h4, h5, h6, h7⟩ := h
  refine ⟨hc.keep (fun k k1 k2 => ?_), ⟨by rw [e1 22 (by omega) (by omega)]; exact f1, fun p hp => ?_⟩, ⟨by rw [e1 28 (by omega) (by omega)]; exact p1, fun k hk => ?_⟩, fun p hp => ?_, fun p hp => ?_, fun p hp => ?_, fun k hk => ?_, fun k hk => ?_⟩
  · by_cases c : k < 34
    · exact e1 k c (by omega)
    · exact e3 k (by omega) k1
  · rw [e1 23 (by omega) (by omega), e1 25 (by omega) (by omega)]; exact f2 p hp
  · rw [e1 29 (by omega) (by omega), e1 30 (by omega) (by omega), e1 31 (by omega) (by omega), e1 33 (by omega) (by omega)]; exact p2 k hk
  · rw [e1 24 (by omega) (by omega)]; exact h3 p hp
  · rw [e1 26 (by omega) (by omega)]; exact h4 p hp
  · rw [e1 27 (by omega) (by omega)]; exact h5 p hp
  · rw [e1 32 (by omega) (by omega)]; exact h6 k hk
  · rw [e2]; exact h7 k hk
theorem SB.live {n : Nat} {G : Gs} {e m : Nat → Nat} {o : Nat → Nat → Bool} {w : Nat → Nat} {a : Nat → Bool} {σ : Sg} (hn : 300 ≤ n) (h : SB G e m o w a σ) (he : ∀ p, p < cnt G → e p ≤ 100) (hm : ∀ p, p < cnt G → m p ≤ 5) (hw : ∀ k, k < ls G → w k < 8) : ∃ σ', fn_X5_live n 21 σ = some σ' ∧ SB G e m o w a σ' ∧ Rs 21 (scS G e m o w a) (sim (scS G e m o w a) 200) σ' ∧ ∀ k, k < 21 ∨ 38 < k → σ' k = σ k := by
  obtain ⟨σ', r1, r2, r3⟩ := sp_live (b := 21) hn (h.Vw he hm hw)
  refine ⟨σ', r1, h.keep (fun k k1 k2 => r2.2 k k2 (by omega) (by omega) (by omega) (by omega)) (r2.1 2 (by decide) (by decide)) (fun k k1 k2 => r2.2 k (by omega) (by omega) (by omega) (by omega) (by omega)), r3, fun k q => r2.2 k (by omega) (by omega) (by omega) (by omega) (by omega)⟩
/-- the reference supposes them -/
def MT (τ : Sg) (a b c d e : Int32) : Prop := τ 53 13 = a ∧ τ 53 14 = b ∧ τ 53 15 = c ∧ τ 53 16 = d ∧ τ 53 17 = e
theorem MT.f3 {τ τ' : Sg} {a b c d e : Int32} (h : MT τ a b c d e) (f : F3 τ τ') : MT τ' a b c d e := by
  unfold MT at *
  rw [f 53 (by decide) (by decide) (by decide)]
  exact h
theorem MFolk.f3 {G : Gs} {τ τ' : Sg} (h : MFolk G τ) (f : F3 τ τ') : MFolk G τ' := by
  unfold MFolk FM at *
  rw [f 53 (by decide) (by decide) (by decide), f 55 (by decide) (by decide) (by decide), f 56 (by decide) (by decide) (by decide), f 57 (by decide) (by decide) (by decide)]
  exact h
theorem RM0.VMS {G : Gs} {e m : Nat → Nat} {o : Nat → Nat → Bool} {a : Nat → Bool} {τ : Sg} {t1 t2 t3 t4 t5 : Int32} (h : RM0 G τ) (hf : MFolk G τ) (ht : MT τ t1 t2 t3 t4 t5) (he : ∀ p, p < cnt G → e p = eE (en (scn G) p) (decide (nI p = t4)) (bt t3 p)) (hm : ∀ p, p < cnt G → m p = if t2 = -2 then mo (scn G) p else if t2 = nI p then 5 else 0) (ho : ∀ p, p < cnt G → IsB (nI (om G p) ||| (if bt t5 p = true then 1 <<< (τ 53 18 &&& 31) else 0)) 8 (o p)) (ha : ∀ k, k < ls G → a k = bt t1 k) : VM (scS G e m o (lo_ G) a) τ := by
  obtain ⟨g, -, hw, ⟨l1, l2⟩, -⟩ := h
  obtain ⟨m13, m14, m15, m16, m17⟩ := ht
  obtain ⟨c1, c2⟩ := cnt_ok g.1
  have hl : ls G ≤ 12 := g.2.2.2.1
  refine ⟨⟨hf.1, c1, fun p hp => ?_⟩, show ls G ≤ 13 by omega, fun k hk => ?_, fun k hk => ?_⟩
  · obtain ⟨b1, b2, b3, b4, b5, b6, b7⟩ := c2 p hp
    obtain ⟨a1, a2, a3⟩ := hf.2 p hp
    have hp : p < cnt G := hp
    have hp10 : p < 10 := Nat.lt_of_lt_of_le hp c1
    have h1 : two (tb G) (6 * p) < 100 := two_lt b2 b3
    have h2 : two (tb G) (6 * p + 2) < 100 := two_lt b4 b5
    have hk := kdp_le (tb G) p
    refine ⟨a1, h1, ⟨two (tb G) (6 * p + 2), by omega, a2, ?_⟩, ?_, ?_, ?_⟩
    · rw [m15, m16]
      exact he p hp
    · show τ 57 p = 1 ↔ decide (kdp (tb G) p = 1) = true
      rw [a3, decide_eq_true_eq]
      exact nI_eq (b := 1) (by omega) (by omega)
    · show m p = _
      rw [m14, hm p hp, a3]
      by_cases z2 : t2 = -2
      · rw [if_pos z2, if_pos z2]
        show (if kdp (tb G) p = 2 then 5 else 0) = _
        by_cases z : kdp (tb G) p = 2
        · rw [if_pos z, if_pos (show nI (kdp (tb G) p) = (2 : Int32) from eqL z)]
        · rw [if_neg z, if_neg (show ¬ nI (kdp (tb G) p) = (2 : Int32) from neL (k := 2) (by omega) (by omega) z)]
      · rw [if_neg z2, if_neg z2]
    · rw [m17, hw p hp10]
      exact ho p hp
  · have hk : k < ls G := hk
    obtain ⟨a1, a2, a3, a4, a5⟩ := l2 k hk
    obtain ⟨b1, b2, b3, b4, b5, b6⟩ := g.2.2.2.2.1 k hk
    exact ⟨a1, b1, a2, b2, a3, b4, a4, b5, a5, b6⟩
  · rw [m13]
    exact (ha k hk).symm
/-- as told again -/
theorem sm_asTold {G : Gs} {τ : Sg} (h : RM0 G τ) : ∃ τ', fn_X7_asTold τ = some τ' ∧ RM G τ' ∧ τ' 53 2 = τ 53 2 ∧ ∀ k, k ≠ 53 → τ' k = τ k := by
  have E : ∀ i, i < 13 ∨ 18 < i → ag_up (ag_up (ag_up (ag_up (ag_up (ag_up τ 53 13 8191) 53 14 (-2)) 53 15 0) 53 16 (-1)) 53 17 0) 53 18 0 53 i = τ 53 i := fun i q => by
    rw [ma_up_i (by omega), ma_up_i (by omega), ma_up_i (by omega), ma_up_i (by omega), ma_up_i (by omega), ma_up_i (by omega)]
  have F : ∀ k, k ≠ 53 → ag_up (ag_up (ag_up (ag_up (ag_up (ag_up τ 53 13 8191) 53 14 (-2)) 53 15 0) 53 16 (-1)) 53 17 0) 53 18 0 k = τ k := fun k q => by
    rw [ag_up_ne q, ag_up_ne q, ag_up_ne q, ag_up_ne q, ag_up_ne q, ag_up_ne q]
  refine ⟨ag_up (ag_up (ag_up (ag_up (ag_up (ag_up τ 53 13 8191) 53 14 (-2)) 53 15 0) 53 16 (-1)) 53 17 0) 53 18 0, rfl, ⟨?_, ?_⟩, E 2 (by omega), F⟩
  · exact h.keep (E 1 (by omega)) (E 7 (by omega)) (E 26 (by omega)) (E 36 (by omega)) (fun k q => F k (by omega)) (fun k i a b _ => by rw [F k (by omega)])
  · refine ⟨?_, ?_, ?_, ?_, ?_⟩
    · rw [ma_up_i (by decide), ma_up_i (by decide), ma_up_i (by decide), ma_up_i (by decide), ma_up_i (by decide), ma_up_s]
    · rw [ma_up_i (by decide), ma_up_i (by decide), ma_up_i (by decide), ma_up_i (by decide), ma_up_s]
    · rw [ma_up_i (by decide), ma_up_i (by decide), ma_up_i (by decide), ma_up_s]
    · rw [ma_up_i (by decide), ma_up_i (by decide), ma_up_s]
    · rw [ma_up_i (by decide), ma_up_s]
