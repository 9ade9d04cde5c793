/-! ===== the class, and the reference, hold the state G ===== -/
def GOk (G : Gs) : Prop := tl G ≤ 59 ∧ (∀ i, i < tl G → tb G i < 256) ∧ (∀ p, p < 10 → om G p < 256) ∧ ls G ≤ 12 ∧ (∀ k, k < ls G → lw G k < 10 ∧ lr G k < 10 ∧ lw G k ≠ lr G k ∧ ly G k < 200 ∧ lo_ G k < 8 ∧ ∀ w, ln_ G k = some w → w < 8) ∧ ds G ≤ 8 ∧ (∀ i, i < ds G → dy G i < 200 ∧ dp G i < 10 ∧ dw G i < 8 ∧ di G i < 2) ∧ (∀ s, s < 4 → sf G s < 3 ∧ ss G s ≤ 48) ∧ fi G ≤ 5
def CText (G : Gs) (σ : Sg) : Prop := σ 1 1 = nI (tl G) ∧ ∀ i, i < tl G → σ 2 i = nI (tb G i)
def COwn (G : Gs) (σ : Sg) : Prop := ∀ p, p < 10 → σ 9 p = nI (om G p)
def CFolk (G : Gs) (σ : Sg) : Prop := σ 4 0 = nI (cnt G) ∧ FC G σ (cnt G)
def CLet (G : Gs) (σ : Sg) : Prop := σ 10 0 = nI (ls G) ∧ ∀ k, k < ls G → σ 11 k = nI (lw G k) ∧ σ 12 k = nI (lr G k) ∧ σ 13 k = nI (ly G k) ∧ σ 14 k = nI (lo_ G k) ∧ σ 15 k = oI (ln_ G k)
def CDeed (G : Gs) (σ : Sg) : Prop := σ 39 0 = nI (ds G) ∧ ∀ i, i < ds G → σ 40 i = nI (dy G i) ∧ σ 41 i = nI (dp G i) ∧ σ 42 i = nI (dw G i) ∧ σ 43 i = nI (di G i)
def CSheet (G : Gs) (σ : Sg) : Prop := ∀ s, s < 4 → σ (45 + 2 * s) 0 = bI (!sh G s) ∧ σ (45 + 2 * s) 1 = nI (sf G s) ∧ σ (45 + 2 * s) 2 = nI (ss G s) ∧ ∀ i, i < 48 → σ (45 + 2 * s + 1) i = si G s i
def CFind (G : Gs) (σ : Sg) : Prop := σ 0 7 = nI (fi G)
/-- all but what was lived -/
def RC0 (G : Gs) (σ : Sg) : Prop := GOk G ∧ CText G σ ∧ COwn G σ ∧ CFolk G σ ∧ CLet G σ ∧ σ 3 2 = 0 ∧ CDeed G σ ∧ CSheet G σ ∧ CFind G σ
def RC (G : Gs) (σ : Sg) : Prop := RC0 G σ ∧ Rs 3 (scn G) (sim (scn G) 200) σ
theorem scn_cn (G : Gs) : cn (scn G) = cnt G := rfl
theorem scn_sz (G : Gs) : sz (scn G) = ls G := rfl
theorem RC0.VF {G : Gs} {σ : Sg} (h : RC0 G σ) : VF 4 (scn G) σ := by
  obtain ⟨g, -, ho, ⟨f1, f2⟩, -⟩ := h
  obtain ⟨c1, c2⟩ := cnt_ok g.1
  refine ⟨f1, c1, fun p hp => ?_⟩
  obtain ⟨b1, b2, b3, b4, b5, b6, b7⟩ := c2 p hp
  obtain ⟨a1, a2, a3, a4⟩ := f2 p hp
  have hp10 : p < 10 := Nat.lt_of_lt_of_le hp c1
  have h1 : two (tb G) (6 * p) < 100 := two_lt b2 b3
  have h2 : two (tb G) (6 * p + 2) < 100 := two_lt b4 b5
  refine ⟨a1, h1, a2, Nat.le_of_lt h2, ?_, a4, ?_, ?_⟩
  · show σ 7 p = 1 ↔ decide (kdp (tb G) p = 1) = true
    rw [a3, decide_eq_true_eq]
    have hk : kdp (tb G) p ≤ 2 := by unfold kdp; (repeat' split) <;> omega
    exact nI_eq (b := 1) (by omega) (by omega)
  · show (if kdp (tb G) p = 2 then 5 else 0) ≤ 5
    split <;> omega
  · show IsB (σ 9 p) 8 (fun w => (om G p).testBit w)
    rw [ho p hp10]
    exact IsB.ofN (g.2.2.1 p hp10) (by omega)
theorem RC0.VP {G : Gs} {σ : Sg} (h : RC0 G σ) : VP 10 (scn G) σ := by
  obtain ⟨g, -, -, -, ⟨l1, l2⟩, -⟩ := h
  refine ⟨l1, Nat.le_trans g.2.2.2.1 (by omega), fun k hk => ?_⟩
  obtain ⟨a1, a2, a3, a4, a5⟩ := l2 k hk
  obtain ⟨b1, b2, b3, b4, b5, b6⟩ := g.2.2.2.2.1 k hk
  exact ⟨a1, b1, a2, b2, a3, b4, a4, b5, a5, b6⟩
theorem RC0.Vw {G : Gs} {σ : Sg} (h : RC0 G σ) : Vw 3 (scn G) σ := by
  refine ⟨h.VF, h.VP, fun k hk => ?_⟩
  obtain ⟨-, -, -, -, -, h3, -⟩ := h
  rw [h3, b_0]
  rfl
theorem RC0.TC {G : Gs} {σ : Sg} (h : RC0 G σ) : TC G σ := ⟨h.2.1.1, h.1.1, fun i hi => ⟨h.2.1.2 i hi, h.1.2.1 i hi⟩⟩
/-- what the state of the class rests on -/
theorem RC0.keep {G : Gs} {σ σ' : Sg} (h : RC0 G σ) (e : ∀ k, k < 53 → ¬ (16 ≤ k ∧ k ≤ 38) → k ≠ 3 → σ' k = σ k) (e3 : σ' 3 2 = σ 3 2) : RC0 G σ' := by
  have E : ∀ k, k < 53 → (k < 16 ∨ 38 < k) → k ≠ 3 → σ' k = σ k := fun k a b c => e k a (by omega) c
  obtain ⟨g, a1, a2, a3, a4, a5, a6, a7, a8⟩ := h
  refine ⟨g, ?_, ?_, ?_, ?_, ?_, ?_, ?_, ?_⟩
  · unfold CText at *
    rw [E 1 (by omega) (by omega) (by omega), E 2 (by omega) (by omega) (by omega)]; exact a1
  · unfold COwn at *
    rw [E 9 (by omega) (by omega) (by omega)]; exact a2
  · unfold CFolk FC at *
    rw [E 4 (by omega) (by omega) (by omega), E 5 (by omega) (by omega) (by omega), E 6 (by omega) (by omega) (by omega), E 7 (by omega) (by omega) (by omega), E 8 (by omega) (by omega) (by omega)]; exact a3
  · unfold CLet at *
    rw [E 10 (by omega) (by omega) (by omega), E 11 (by omega) (by omega) (by omega), E 12 (by omega) (by omega) (by omega), E 13 (by omega) (by omega) (by omega), E 14 (by omega) (by omega) (by omega), E 15 (by omega) (by omega) (by omega)]; exact a4
  · rw [e3]; exact a5
  · unfold CDeed at *
    rw [E 39 (by omega) (by omega) (by omega), E 40 (by omega) (by omega) (by omega), E 41 (by omega) (by omega) (by omega), E 42 (by omega) (by omega) (by omega), E 43 (by omega) (by omega) (by omega)]; exact a6
  · intro s hs
    rw [E (45 + 2 * s) (by omega) (by omega) (by omega), E (45 + 2 * s + 1) (by omega) (by omega) (by omega)]
    exact a7 s hs
  · unfold CFind at *
    rw [E 0 (by omega) (by omega) (by omega)]; exact a8
theorem Rs.keep {b : Nat} {S : Sc} {st : Ys} {σ σ' : Sg} (h : Rs b S st σ) (e3 : σ' b 3 = σ b 3) (e4 : σ' b 4 = σ b 4) (e13 : σ' (b + 13) = σ (b + 13)) (e14 : σ' (b + 14) = σ (b + 14)) (e15 : σ' (b + 15) = σ (b + 15)) (e16 : σ' (b + 16) = σ (b + 16)) : Rs b S st σ' := by
  unfold Rs RW RO RK at *
  rw [e3, e4, e13, e14, e15, e16]
  exact h
/-- the class's state is untouched where only the supposed years, or the reference, change -/
theorem RC.keep {G : Gs} {σ σ' : Sg} (h : RC G σ) (e : ∀ k, k < 53 → ¬ (20 ≤ k ∧ k ≤ 38) → σ' k = σ k) : RC G σ' :=
  ⟨h.1.keep (fun k a b c => e k a (by omega)) (by rw [e 3 (by omega) (by omega)]), h.2.keep (by rw [e 3 (by omega) (by omega)]) (by rw [e 3 (by omega) (by omega)]) (e 16 (by omega) (by omega)) (e 17 (by omega) (by omega)) (e 18 (by omega) (by omega)) (e 19 (by omega) (by omega))⟩
/-- living anew -/
theorem RC0.live {n : Nat} {G : Gs} {σ : Sg} (hn : 300 ≤ n) (h : RC0 G σ) : ∃ σ', fn_X5_live n 3 σ = some σ' ∧ RC G σ' ∧ ∀ k, k ≠ 3 → k ≠ 16 → k ≠ 17 → k ≠ 18 → k ≠ 19 → σ' k = σ k := by
  obtain ⟨σ', r1, r2, r3⟩ := sp_live hn h.Vw
  exact ⟨σ', r1, ⟨h.keep (fun k a b c => r2.2 k c (by omega) (by omega) (by omega) (by omega)) (r2.1 2 (by decide) (by decide)), r3⟩, fun k a b c d e => r2.2 k a b c d e⟩
/-! the reference -/
def MText (G : Gs) (σ : Sg) : Prop := σ 53 1 = nI (tl G) ∧ ∀ i, i < tl G → σ 54 i = nI (tb G i)
def MOwn (G : Gs) (σ : Sg) : Prop := ∀ p, p < 10 → σ 58 p = nI (om G p)
def MLet (G : Gs) (σ : Sg) : Prop := σ 53 7 = nI (ls G) ∧ ∀ k, k < ls G → σ 59 k = nI (lw G k) ∧ σ 60 k = nI (lr G k) ∧ σ 61 k = nI (ly G k) ∧ σ 62 k = nI (lo_ G k) ∧ σ 63 k = oI (ln_ G k)
def MTold (σ : Sg) : Prop := σ 53 13 = 8191 ∧ σ 53 14 = -2 ∧ σ 53 15 = 0 ∧ σ 53 16 = -1 ∧ σ 53 17 = 0
def MDeed (G : Gs) (σ : Sg) : Prop := σ 53 26 = nI (ds G) ∧ ∀ i, i < ds G → σ 68 i = nI (dy G i) ∧ σ 69 i = nI (dp G i) ∧ σ 70 i = nI (dw G i) ∧ σ 71 i = nI (di G i)
def MSheet (G : Gs) (σ : Sg) : Prop := ∀ s, s < 4 → σ 72 s = bI (sh G s) ∧ σ 73 s = nI (sf G s) ∧ σ 74 s = nI (ss G s) ∧ ∀ i, i < 48 → σ 75 (48 * s + i) = si G s i
def MFind (G : Gs) (σ : Sg) : Prop := σ 53 36 = nI (fi G)
/-- all but what is told otherwise for a while -/
def RM0 (G : Gs) (σ : Sg) : Prop := GOk G ∧ MText G σ ∧ MOwn G σ ∧ MLet G σ ∧ MDeed G σ ∧ MSheet G σ ∧ MFind G σ
def RM (G : Gs) (σ : Sg) : Prop := RM0 G σ ∧ MTold σ
theorem RM0.TM {G : Gs} {σ : Sg} (h : RM0 G σ) : TM G σ := ⟨h.2.1.1, h.1.1, fun i hi => ⟨h.2.1.2 i hi, h.1.2.1 i hi⟩⟩
theorem RM0.keep {G : Gs} {σ σ' : Sg} (h : RM0 G σ) (e1 : σ' 53 1 = σ 53 1) (e7 : σ' 53 7 = σ 53 7) (e26 : σ' 53 26 = σ 53 26) (e36 : σ' 53 36 = σ 53 36) (e : ∀ k, k = 54 ∨ k = 58 ∨ (68 ≤ k ∧ k ≤ 75) → σ' k = σ k) (el : ∀ k i, 59 ≤ k → k ≤ 63 → i < ls G → σ' k i = σ k i) : RM0 G σ' := by
  obtain ⟨g, a1, a2, a3, a6, a7, a8⟩ := h
  refine ⟨g, ?_, ?_, ?_, ?_, ?_, ?_⟩
  · unfold MText at *
    rw [e1, e 54 (by omega)]; exact a1
  · unfold MOwn at *
    rw [e 58 (by omega)]; exact a2
  · refine ⟨by rw [e7]; exact a3.1, fun k hk => ?_⟩
    rw [el 59 k (by omega) (by omega) hk, el 60 k (by omega) (by omega) hk, el 61 k (by omega) (by omega) hk, el 62 k (by omega) (by omega) hk, el 63 k (by omega) (by omega) hk]
    exact a3.2 k hk
  · unfold MDeed at *
    rw [e26, e 68 (by omega), e 69 (by omega), e 70 (by omega), e 71 (by omega)]; exact a6
  · unfold MSheet at *
    rw [e 72 (by omega), e 73 (by omega), e 74 (by omega), e 75 (by omega)]; exact a7
  · unfold MFind at *
    rw [e36]; exact a8
theorem RM0.f3 {G : Gs} {σ σ' : Sg} (h : RM0 G σ) (f : F3 σ σ') : RM0 G σ' := h.keep (by rw [f 53 (by decide) (by decide) (by decide)]) (by rw [f 53 (by decide) (by decide) (by decide)]) (by rw [f 53 (by decide) (by decide) (by decide)]) (by rw [f 53 (by decide) (by decide) (by decide)]) (fun k q => f k (by omega) (by omega) (by omega)) (fun k i a b _ => by rw [f k (by omega) (by omega) (by omega)])
theorem RM0.f5 {G : Gs} {σ σ' : Sg} (h : RM0 G σ) (f : F5 σ σ') : RM0 G σ' := h.keep (f.1 1 (by decide)) (f.1 7 (by decide)) (f.1 26 (by decide)) (f.1 36 (by decide)) (fun k q => f.2 k (by omega) (by omega) (by omega) (by omega)) (fun k i a b _ => by rw [f.2 k (by omega) (by omega) (by omega) (by omega)])
theorem MTold.f3 {σ σ' : Sg} (h : MTold σ) (f : F3 σ σ') : MTold σ' := by
  unfold MTold at *
  rw [f 53 (by decide) (by decide) (by decide)]
  exact h
theorem MTold.f5 {σ σ' : Sg} (h : MTold σ) (f : F5 σ σ') : MTold σ' := by
  unfold MTold at *
  rw [f.1 13 (by decide), f.1 14 (by decide), f.1 15 (by decide), f.1 16 (by decide), f.1 17 (by decide)]
  exact h
/-- the people are read -/
def MFolk (G : Gs) (σ : Sg) : Prop := σ 53 2 = nI (cnt G) ∧ FM G σ (cnt G)
theorem RM0.reads {n : Nat} {G : Gs} {σ : Sg} (hn : 20 ≤ n) (h : RM0 G σ) : ∃ σ', fn_X7_reads n σ = some σ' ∧ F5 σ σ' ∧ RM0 G σ' ∧ MFolk G σ' := by
  obtain ⟨σ', r1, r2, r3, r4⟩ := sm_faultNow hn h.TM
  refine ⟨σ', ?_, r2, h.f5 r2, r3, r4⟩
  unfold fn_X7_reads
  rw [r1]
  rfl
theorem b_8191 : ∀ i, i < 13 → bt 8191 i = true := by decide +kernel
theorem RM.VM {G : Gs} {σ : Sg} (h : RM G σ) (hf : MFolk G σ) : VM (scn G) σ := by
  obtain ⟨⟨g, -, ho, ⟨l1, l2⟩, -⟩, m13, m14, m15, m16, m17⟩ := h
  obtain ⟨c1, c2⟩ := cnt_ok g.1
  refine ⟨⟨hf.1, c1, fun p hp => ?_⟩, Nat.le_trans g.2.2.2.1 (by omega), fun k hk => ?_, fun k hk => ?_⟩
  · obtain ⟨b1, b2, b3, b4, b5, b6, b7⟩ := c2 p hp
    obtain ⟨a1, a2, a3⟩ := hf.2 p hp
    have hp10 : p < 10 := Nat.lt_of_lt_of_le hp c1
    have h1 : two (tb G) (6 * p) < 100 := two_lt b2 b3
    have h2 : two (tb G) (6 * p + 2) < 100 := two_lt b4 b5
    have hk : kdp (tb G) p ≤ 2 := by unfold kdp; (repeat' split) <;> omega
    refine ⟨a1, h1, ⟨two (tb G) (6 * p + 2), by omega, a2, ?_⟩, ?_, ?_, ?_⟩
    · rw [m15, m16, b_0, decide_eq_false (ma_m1 (by omega))]
      rfl
    · show σ 57 p = 1 ↔ decide (kdp (tb G) p = 1) = true
      rw [a3, decide_eq_true_eq]
      exact nI_eq (b := 1) (by omega) (by omega)
    · show (if kdp (tb G) p = 2 then 5 else 0) = _
      rw [m14, if_pos rfl, a3]
      by_cases z : kdp (tb G) p = 2
      · rw [if_pos z, if_pos (show nI (kdp (tb G) p) = (2 : Int32) from eqL z)]
      · rw [if_neg z, if_neg (show ¬ nI (kdp (tb G) p) = (2 : Int32) from neL (k := 2) (by omega) (by omega) z)]
    · rw [m17, b_0, if_neg (by decide), ma_or0, ho p hp10]
      exact IsB.ofN (g.2.2.1 p hp10) (by omega)
  · obtain ⟨a1, a2, a3, a4, a5⟩ := l2 k hk
    obtain ⟨b1, b2, b3, b4, b5, b6⟩ := g.2.2.2.2.1 k hk
    exact ⟨a1, b1, a2, b2, a3, b4, a4, b5, a5, b6⟩
  · rw [m13]
    exact b_8191 k (by have := g.2.2.2.1; have : k < ls G := hk; omega)
/-- runsTo(year) -/
theorem RM.runsTo {n y : Nat} {G : Gs} {σ : Sg} (hn : 600 ≤ n) (hy : y < 500) (h : RM G σ) : ∃ σ', fn_X7_runsTo n (nI y) σ = some σ' ∧ RM G σ' ∧ MFolk G σ' ∧ Rm (scn G) (sim (scn G) (y + 1)) σ' ∧ ∀ k, k < 53 → σ' k = σ k := by
  obtain ⟨σ1, r1, r2, r3, r4⟩ := h.1.reads (show 20 ≤ n by omega)
  have h1 : RM G σ1 := ⟨r3, h.2.f5 r2⟩
  obtain ⟨σ2, s1, s2, s3⟩ := sm_runs (last := y) hn hy (h1.VM r4)
  have e7 : σ1 53 7 = nI (sz (scn G)) := r3.2.2.2.1.1
  refine ⟨σ2, ?_, ⟨r3.f3 s2, h1.2.f3 s2⟩, ?_, s3, fun k hk => ?_⟩
  · unfold fn_X7_runsTo
    rw [r1, Option.bind_some, e7, s1]
    rfl
  · unfold MFolk FM at *
    rw [s2 53 (by decide) (by decide) (by decide), s2 55 (by decide) (by decide) (by decide), s2 56 (by decide) (by decide) (by decide), s2 57 (by decide) (by decide) (by decide)]
    exact r4
  · rw [s2 k (by omega) (by omega) (by omega), r2.2 k (by omega) (by omega) (by omega) (by omega)]
