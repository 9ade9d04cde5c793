/-! ===== the class's text ===== -/
theorem eqL {a k : Nat} (h : a = k) : nI a = nI k := congrArg nI h
theorem neL {a k : Nat} (ha : a < 2 ^ 31) (hk : k < 2 ^ 31) (h : ¬ a = k) : ¬ nI a = nI k := fun q => h ((nI_eq ha hk).mp q)
def TC (G : Gs) (σ : Sg) : Prop := σ 1 1 = nI (tl G) ∧ tl G ≤ 59 ∧ ∀ i, i < tl G → σ 2 i = nI (tb G i) ∧ tb G i < 256
theorem sp_isFig {x : Nat} (hx : x < 256) (σ : Sg) : fn_X4_isFigure (nI x) σ = some (bI (fig x)) := by
  unfold fn_X4_isFigure fig
  by_cases c : 48 ≤ x
  · rw [if_neg (show ¬ nI x < (48 : Int32) from nI_nlt (b := 48) c (by omega)), decide_eq_true c]
    by_cases c2 : x ≤ 57
    · rw [if_neg (show ¬ (57 : Int32) < nI x from nI_nlt (a := 57) (b := x) c2 (by omega)), decide_eq_true c2]; rfl
    · rw [if_pos (show (57 : Int32) < nI x from nI_lt (a := 57) (by omega) (by omega)), decide_eq_false c2]; rfl
  · rw [if_pos (show nI x < (48 : Int32) from nI_lt (b := 48) (by omega) (by omega)), decide_eq_false c]; rfl
theorem bl_bI (c : Bool) : ag_bl (bI c) = true := by cases c <;> decide
theorem sp_goesOn {G : Gs} {σ : Sg} {i : Nat} (h : TC G σ) (hi : i < tl G) : fn_X4_goesOn (nI i) σ = some (bI (gOn (tb G) i)) := by
  obtain ⟨h1, h2, h3⟩ := h
  obtain ⟨e1, e2⟩ := h3 i hi
  unfold fn_X4_goesOn fn_X4_goesOn_b62 fn_X4_goesOn_b86 gOn
  rw [if_pos (ma_ib (by omega) (by omega)), ma_cl (by omega), e1, show (6 : Int32) = nI 6 from rfl, pk_rem (by omega) (by omega) (by omega)]
  by_cases c3 : i % 6 = 3
  · rw [if_pos (show nI (i % 6) = (3 : Int32) from eqL c3), if_pos c3, sp_isFig e2, Option.bind_some]
    by_cases f : fig (tb G i) = true
    · rw [f, bI_t, if_neg (by decide), Bool.true_and]
      by_cases z : tb G i = 48
      · obtain ⟨e3, e4⟩ := h3 (i - 1) (by omega)
        have em : nI i - 1 = nI (i - 1) := pk_sub (b := 1) (by omega)
        rw [if_pos (show nI (tb G i) = (48 : Int32) from eqL z), em, if_pos (ma_ib (by omega) (by omega)), ma_cl (by omega), e3, decide_eq_false (by omega), Bool.false_or]
        by_cases z2 : tb G (i - 1) = 48
        · rw [if_pos (show nI (tb G (i - 1)) = (48 : Int32) from eqL z2), decide_eq_false (by omega)]; rfl
        · rw [if_neg (show ¬ nI (tb G (i - 1)) = (48 : Int32) from neL (k := 48) (by omega) (by omega) z2), decide_eq_true z2]; rfl
      · rw [if_neg (show ¬ nI (tb G i) = (48 : Int32) from neL (k := 48) (by omega) (by omega) z), decide_eq_true z]; rfl
    · simp only [Bool.not_eq_true] at f
      rw [f, bI_f, if_pos rfl]; rfl
  · rw [if_neg (show ¬ nI (i % 6) = (3 : Int32) from neL (k := 3) (by omega) (by omega) c3), if_neg c3]
    by_cases c4 : i % 6 = 4
    · rw [if_pos (show nI (i % 6) = (4 : Int32) from eqL c4), if_pos c4]
      by_cases z1 : tb G i = 111
      · rw [if_pos (show nI (tb G i) = (111 : Int32) from eqL z1), decide_eq_true z1]; rfl
      · rw [if_neg (show ¬ nI (tb G i) = (111 : Int32) from neL (k := 111) (by omega) (by omega) z1), decide_eq_false z1]
        by_cases z2 : tb G i = 101
        · rw [if_pos (show nI (tb G i) = (101 : Int32) from eqL z2), decide_eq_true z2]; rfl
        · rw [if_neg (show ¬ nI (tb G i) = (101 : Int32) from neL (k := 101) (by omega) (by omega) z2), decide_eq_false z2]
          by_cases z3 : tb G i = 102
          · rw [if_pos (show nI (tb G i) = (102 : Int32) from eqL z3), decide_eq_true z3]; rfl
          · rw [if_neg (show ¬ nI (tb G i) = (102 : Int32) from neL (k := 102) (by omega) (by omega) z3), decide_eq_false z3]; rfl
    · rw [if_neg (show ¬ nI (i % 6) = (4 : Int32) from neL (k := 4) (by omega) (by omega) c4), if_neg c4]
      by_cases c5 : i % 6 = 5
      · rw [if_pos (show nI (i % 6) = (5 : Int32) from eqL c5), if_pos c5]
        by_cases z1 : tb G i = 59
        · rw [if_pos (show nI (tb G i) = (59 : Int32) from eqL z1), decide_eq_true z1]; rfl
        · rw [if_neg (show ¬ nI (tb G i) = (59 : Int32) from neL (k := 59) (by omega) (by omega) z1), decide_eq_false z1]; rfl
      · rw [if_neg (show ¬ nI (i % 6) = (5 : Int32) from neL (k := 5) (by omega) (by omega) c5), if_neg c5, sp_isFig e2, Option.bind_some, if_pos (bl_bI _)]
theorem sp_fault {n : Nat} {G : Gs} {σ : Sg} (h : TC G σ) : ∀ (i j : Nat), tl G < i + j → j ≤ tl G → (∀ k, k < j → gOn (tb G) k = true) → fn_X4_firstFault_b2 n σ i (nI j) = some (oI (flt (tl G) (tb G))) := by
  intro i
  induction i with
  | zero => intro j h1 h2; exact absurd h1 (by omega)
  | succ i ih =>
    intro j h1 h2 hg
    obtain ⟨t1, t2, t3⟩ := id h
    rw [fn_X4_firstFault_b2_s, t1]
    unfold fn_X4_firstFault_b44
    by_cases c : j < tl G
    · rw [if_neg (nI_ge c (by omega)), sp_goesOn h c, Option.bind_some, nI_1]
      by_cases g : gOn (tb G) j = true
      · rw [g, bI_t, if_neg (by decide)]
        exact ih (j + 1) (by omega) (by omega) (fun k hk => by
          by_cases e : k = j
          · rw [e]; exact g
          · exact hg k (by omega))
      · simp only [Bool.not_eq_true] at g
        rw [g, bI_f, if_pos rfl, flt_at c hg g]
        rfl
    · have e : j = tl G := by omega
      subst e
      rw [if_pos (nI_le (by omega) (by omega)), flt_all hg, show (6 : Int32) = nI 6 from rfl, pk_rem (by omega) (by omega) (by omega)]
      by_cases z : tl G = 0
      · rw [if_pos (show nI (tl G) = (0 : Int32) from eqL z), if_pos (Or.inl z)]; rfl
      · rw [if_neg (show ¬ nI (tl G) = (0 : Int32) from neL (k := 0) (by omega) (by omega) z)]
        by_cases z2 : tl G % 6 = 5
        · rw [if_pos (show nI (tl G % 6) = (5 : Int32) from eqL z2), if_pos (Or.inr z2)]; rfl
        · rw [if_neg (show ¬ nI (tl G % 6) = (5 : Int32) from neL (k := 5) (by omega) (by omega) z2), if_neg (by omega)]; rfl
theorem sp_firstFault {n : Nat} {G : Gs} {σ : Sg} (hn : 100 ≤ n) (h : TC G σ) : fn_X4_firstFault n σ = some (oI (flt (tl G) (tb G))) := by
  have h2 := h.2.1
  exact sp_fault (n := n) h n 0 (by omega) (by omega) (fun k hk => absurd hk (Nat.not_lt_zero k))
theorem sp_two {G : Gs} {σ : Sg} {i : Nat} (h : TC G σ) (hi : i + 1 < tl G) (f1 : fig (tb G i) = true) (f2 : fig (tb G (i + 1)) = true) : fn_X4_twoFigures (nI i) σ = some (nI (two (tb G) i)) := by
  obtain ⟨h1, h2, h3⟩ := h
  obtain ⟨e1, e2⟩ := h3 i (by omega)
  obtain ⟨e3, e4⟩ := h3 (i + 1) hi
  have a1 := fig_iff.mp f1
  have a2 := fig_iff.mp f2
  unfold fn_X4_twoFigures two
  rw [if_pos (ma_ib (by omega) (by omega)), nI_1, if_pos (ma_ib (by omega) (by omega)), ma_cl (by omega), ma_cl (by omega), e1, e3, show (48 : Int32) = nI 48 from rfl, show (10 : Int32) = nI 10 from rfl, pk_sub (by omega), pk_mul, nI_add, pk_sub (by omega), show (tb G i - 48) * 10 + tb G (i + 1) - 48 = (tb G i - 48) * 10 + (tb G (i + 1) - 48) by omega]
/-- the folk as the text tells it -/
def FC (G : Gs) (σ : Sg) (j : Nat) : Prop := ∀ p, p < j → σ 5 p = nI (two (tb G) (6 * p)) ∧ σ 6 p = nI (two (tb G) (6 * p + 2)) ∧ σ 7 p = nI (kdp (tb G) p) ∧ σ 8 p = nI (if kdp (tb G) p = 2 then 5 else 0)
def F4 (σ σ' : Sg) : Prop := ∀ k, k ≠ 5 → k ≠ 6 → k ≠ 7 → k ≠ 8 → σ' k = σ k
theorem sp_tell {n : Nat} {G : Gs} : ∀ (i j : Nat) (σ : Sg), cnt G < i + j → j ≤ cnt G → TC G σ → σ 4 0 = nI (cnt G) → FC G σ j → ∃ σ', fn_X4_tellPeople_b27 n 4 i (nI j) σ = some σ' ∧ F4 σ σ' ∧ FC G σ' (cnt G) := by
  intro i
  induction i with
  | zero => intro j σ h1 h2; exact absurd h1 (by omega)
  | succ i ih =>
    intro j σ h1 h2 ht h0 hf
    obtain ⟨t1, t2, t3⟩ := id ht
    obtain ⟨c10, cok⟩ := cnt_ok t2
    rw [fn_X4_tellPeople_b27_s, h0]
    by_cases c : j < cnt G
    · obtain ⟨k1, k2, k3, k4, k5, k6, k7⟩ := cok j c
      obtain ⟨e1, e2⟩ := t3 (6 * j + 4) k1
      have m6 : nI j * 6 = nI (6 * j) := by rw [show (6 : Int32) = nI 6 from rfl, pk_mul, Nat.mul_comm]
      have m4 : nI (6 * j) + 4 = nI (6 * j + 4) := nI_add (6 * j) 4
      have m2 : nI (6 * j) + 2 = nI (6 * j + 2) := nI_add (6 * j) 2
      rw [if_neg (nI_ge c (by omega)), m6, m4, m2, if_pos (ma_ib (by omega) (by omega)), sp_two ht (by omega) k2 k3, Option.bind_some, if_pos (ma_ib (by omega) (by omega)), ma_cl (show j < 2 ^ 31 by omega), ma_cl (show 6 * j + 4 < 2 ^ 31 by omega), e1]
      have tA : TC G (ag_up σ 5 j (nI (two (tb G) (6 * j)))) := ⟨by rw [ma_up_k (by decide)]; exact t1, t2, fun q hq => by rw [ma_up_k (by decide)]; exact t3 q hq⟩
      rw [sp_two tA (by omega) k4 k5, Option.bind_some, if_pos (ma_ib (by omega) (by omega))]
      unfold ag_sg
      have fin : ∀ (kd mo : Nat), kd = kdp (tb G) j → mo = (if kdp (tb G) j = 2 then 5 else 0) → ∃ σ', fn_X4_tellPeople_b27 n 4 i (nI (j + 1)) (ag_up (ag_up (ag_up (ag_up σ 5 j (nI (two (tb G) (6 * j)))) 6 j (nI (two (tb G) (6 * j + 2)))) 7 j (nI kd)) 8 j (nI mo)) = some σ' ∧ F4 σ σ' ∧ FC G σ' (cnt G) := by
        intro kd mo hk hm
        have ff : F4 σ (ag_up (ag_up (ag_up (ag_up σ 5 j (nI (two (tb G) (6 * j)))) 6 j (nI (two (tb G) (6 * j + 2)))) 7 j (nI kd)) 8 j (nI mo)) := fun k a b c d => by rw [ag_up_ne d, ag_up_ne c, ag_up_ne b, ag_up_ne a]
        obtain ⟨σ', r1, r2, r3⟩ := ih (j + 1) (ag_up (ag_up (ag_up (ag_up σ 5 j (nI (two (tb G) (6 * j)))) 6 j (nI (two (tb G) (6 * j + 2)))) 7 j (nI kd)) 8 j (nI mo)) (by omega) (by omega) ⟨by rw [ff 1 (by decide) (by decide) (by decide) (by decide)]; exact t1, t2, fun q hq => by rw [ff 2 (by decide) (by decide) (by decide) (by decide)]; exact t3 q hq⟩ (by rw [ff 4 (by decide) (by decide) (by decide) (by decide)]; exact h0) (fun p hp => by
          by_cases e : p = j
          · subst e
            refine ⟨?_, ?_, ?_, ?_⟩
            · rw [ma_up_k (by decide), ma_up_k (by decide), ma_up_k (by decide), ma_up_s]
            · rw [ma_up_k (by decide), ma_up_k (by decide), ma_up_s]
            · rw [ma_up_k (by decide), ma_up_s, hk]
            · rw [ma_up_s, hm]
          · simp only [ma_up_i e]
            exact hf p (by omega))
        exact ⟨σ', r1, fun k a b c d => (r2 k a b c d).trans (ff k a b c d), r3⟩
      unfold fn_X4_tellPeople_b102 fn_X4_tellPeople_b120
      simp only [if_pos (ma_ib (show j < 10 by omega) (by omega)), ma_cl (show j < 2 ^ 31 by omega), nI_1]
      by_cases z1 : tb G (6 * j + 4) = 101
      · rw [if_pos (show nI (tb G (6 * j + 4)) = (101 : Int32) from eqL z1), if_neg (show ¬ nI (tb G (6 * j + 4)) = (102 : Int32) from neL (k := 102) (by omega) (by omega) (by omega))]
        have hk : kdp (tb G) j = 1 := by unfold kdp; rw [if_pos z1]
        exact fin 1 0 hk.symm (by rw [hk]; rfl)
      · rw [if_neg (show ¬ nI (tb G (6 * j + 4)) = (101 : Int32) from neL (k := 101) (by omega) (by omega) z1)]
        by_cases z2 : tb G (6 * j + 4) = 102
        · rw [if_pos (show nI (tb G (6 * j + 4)) = (102 : Int32) from eqL z2), if_pos (show nI (tb G (6 * j + 4)) = (102 : Int32) from eqL z2)]
          have hk : kdp (tb G) j = 2 := by unfold kdp; rw [if_neg z1, if_pos z2]
          exact fin 2 5 hk.symm (by rw [hk]; rfl)
        · rw [if_neg (show ¬ nI (tb G (6 * j + 4)) = (102 : Int32) from neL (k := 102) (by omega) (by omega) z2), if_neg (show ¬ nI (tb G (6 * j + 4)) = (102 : Int32) from neL (k := 102) (by omega) (by omega) z2)]
          have hk : kdp (tb G) j = 0 := by unfold kdp; rw [if_neg z1, if_neg z2]
          exact fin 0 0 hk.symm (by rw [hk]; rfl)
    · rw [if_pos (nI_le (by omega) (by omega))]
      have e : j = cnt G := by omega
      subst e
      exact ⟨σ, rfl, fun _ _ _ _ _ => rfl, hf⟩
theorem sp_tellPeople {n : Nat} {G : Gs} {σ : Sg} (hn : 100 ≤ n) (h : TC G σ) : ∃ σ', fn_X4_tellPeople n 4 σ = some σ' ∧ (∀ k, k ≠ 4 → k ≠ 5 → k ≠ 6 → k ≠ 7 → k ≠ 8 → σ' k = σ k) ∧ σ' 4 0 = nI (cnt G) ∧ FC G σ' (cnt G) := by
  have h2 := h.2.1
  have hc := (cnt_ok h2).1
  have key : ∃ σ', fn_X4_tellPeople_b22 n 4 (nI (cnt G)) σ = some σ' ∧ (∀ k, k ≠ 4 → k ≠ 5 → k ≠ 6 → k ≠ 7 → k ≠ 8 → σ' k = σ k) ∧ σ' 4 0 = nI (cnt G) ∧ FC G σ' (cnt G) := by
    obtain ⟨σ', r1, r2, r3⟩ := sp_tell (n := n) (G := G) n 0 (ag_up σ 4 0 (nI (cnt G))) (by omega) (by omega) ⟨by rw [ma_up_k (by decide)]; exact h.1, h2, fun q hq => by rw [ma_up_k (by decide)]; exact h.2.2 q hq⟩ (ma_up_s _ _ _ _) (fun p hp => absurd hp (Nat.not_lt_zero p))
    exact ⟨σ', r1, fun k a b c d e => (r2 k b c d e).trans (ag_up_ne a), by rw [r2 4 (by decide) (by decide) (by decide) (by decide)]; exact ma_up_s _ _ _ _, r3⟩
  unfold fn_X4_tellPeople
  rw [sp_firstFault hn h, Option.bind_some, h.1]
  cases e : flt (tl G) (tb G) with
  | none =>
    have hcnt : cnt G = (tl G + 1) / 6 := by unfold cnt; rw [if_pos e]
    rw [if_pos (show oI none = -1 from rfl), nI_1, show (6 : Int32) = nI 6 from rfl, pk_div (by omega) (by omega) (by omega), ← hcnt]
    exact key
  | some i =>
    have hcnt : cnt G = 0 := by unfold cnt; rw [if_neg (by rw [e]; simp)]
    have hi : i < 2 ^ 31 := by
      unfold flt at e
      cases e2 : fstF (gOn (tb G)) (tl G) with
      | none =>
        rw [e2] at e
        have e' : (if tl G = 0 ∨ tl G % 6 = 5 then none else some (tl G)) = some i := e
        split at e'
        · cases e'
        · cases e'; omega
      | some j =>
        rw [e2] at e
        have e' : some j = some i := e
        cases e'
        have : ∀ m, fstF (gOn (tb G)) m = some i → i < m := by
          intro m
          induction m with
          | zero => intro q; cases q
          | succ m ih =>
            intro q
            unfold fstF at q
            cases e3 : fstF (gOn (tb G)) m with
            | some j =>
              rw [e3] at q
              have q' : some j = some i := q
              cases q'
              have := ih e3
              omega
            | none =>
              rw [e3] at q
              have q' : (if gOn (tb G) m = true then none else some m) = some i := q
              split at q'
              · cases q'
              · cases q'; omega
        have := this (tl G) e2
        omega
    rw [show oI (some i) = nI i from rfl, if_neg (ma_m1 hi)]
    rw [hcnt] at key
    rw [hcnt]
    exact key
