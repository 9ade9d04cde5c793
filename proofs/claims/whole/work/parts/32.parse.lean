/-! ===== the reference's text ===== -/
def TM (G : Gs) (σ : Sg) : Prop := σ 53 1 = nI (tl G) ∧ tl G ≤ 59 ∧ ∀ i, i < tl G → σ 54 i = nI (tb G i) ∧ tb G i < 256
def FM (G : Gs) (σ : Sg) (j : Nat) : Prop := ∀ p, p < j → σ 55 p = nI (two (tb G) (6 * p)) ∧ σ 56 p = nI (two (tb G) (6 * p + 2)) ∧ σ 57 p = nI (kdp (tb G) p)
/-- reading people changes only these -/
def F5 (σ σ' : Sg) : Prop := (∀ i, i ≠ 2 → σ' 53 i = σ 53 i) ∧ ∀ k, k ≠ 53 → k ≠ 55 → k ≠ 56 → k ≠ 57 → σ' k = σ k
theorem F5.rf (σ : Sg) : F5 σ σ := ⟨fun _ _ => rfl, fun _ _ _ _ _ => rfl⟩
theorem F5.tr {σ σ' σ'' : Sg} (h : F5 σ σ') (h2 : F5 σ' σ'') : F5 σ σ'' := ⟨fun i a => (h2.1 i a).trans (h.1 i a), fun k a b c d => (h2.2 k a b c d).trans (h.2 k a b c d)⟩
theorem f5_TM {G : Gs} {σ σ' : Sg} (h : F5 σ σ') (t : TM G σ) : TM G σ' := ⟨by rw [h.1 1 (by decide)]; exact t.1, t.2.1, fun i hi => by rw [h.2 54 (by decide) (by decide) (by decide) (by decide)]; exact t.2.2 i hi⟩
theorem f5_up {c i : Nat} {σ : Sg} {v : Int32} (hc : c = 55 ∨ c = 56 ∨ c = 57) : F5 σ (ag_up σ c i v) := ⟨fun j _ => ma_up_n (fun q => by omega), fun k a b d e => ag_up_ne (by omega)⟩
theorem f5_p {σ : Sg} {v : Int32} : F5 σ (ag_up σ 53 2 v) := ⟨fun j h => ma_up_n (fun q => h q.2), fun k a _ _ _ => ag_up_ne a⟩
theorem sm_fig {G : Gs} {σ : Sg} {k : Nat} (h : TM G σ) (hk : k < 1000) : fn_X7_figureAt (nI k) σ = some (if k < tl G ∧ fig (tb G k) = true then nI (tb G k - 48) else -1) := by
  obtain ⟨h1, h2, h3⟩ := h
  unfold fn_X7_figureAt fn_X7_figureAt_b21
  rw [h1]
  by_cases c : k < tl G
  · obtain ⟨e1, e2⟩ := h3 k c
    rw [if_neg (nI_ge c (by omega)), if_pos (ma_ib (by omega) (by omega)), ma_cl (by omega), e1, sm_in, Option.bind_some]
    have hs : (nI (tb G k) - 48).toInt = (tb G k : Int) - 48 := pk_sub_toInt (a := tb G k) (b := 48) (by omega) (by omega)
    by_cases f : fig (tb G k) = true
    · have a := fig_iff.mp f
      have hz : (decide ((0 : Int32) ≤ nI (tb G k) - 48) && decide (nI (tb G k) - 48 ≤ 9)) = true := by
        rw [decide_eq_true (p := (0 : Int32) ≤ nI (tb G k) - 48) (by rw [Int32.le_iff_toInt_le, hs]; show (0 : Int) ≤ _; omega), decide_eq_true (p := nI (tb G k) - 48 ≤ 9) (by rw [Int32.le_iff_toInt_le, hs]; show _ ≤ (9 : Int); omega)]
        rfl
      rw [hz, bI_t, if_neg (by decide), if_pos (show k < tl G ∧ fig (tb G k) = true from ⟨c, f⟩)]
      exact congrArg some (pk_sub (a := tb G k) (b := 48) (by omega))
    · have hz : (decide ((0 : Int32) ≤ nI (tb G k) - 48) && decide (nI (tb G k) - 48 ≤ 9)) = false := by
        by_cases a : 48 ≤ tb G k
        · have b : ¬ tb G k ≤ 57 := fun q => f (fig_iff.mpr ⟨a, q⟩)
          rw [decide_eq_false (p := nI (tb G k) - 48 ≤ 9) (by rw [Int32.le_iff_toInt_le, hs]; show ¬ _ ≤ (9 : Int); omega), Bool.and_false]
        · rw [decide_eq_false (p := (0 : Int32) ≤ nI (tb G k) - 48) (by rw [Int32.le_iff_toInt_le, hs]; show ¬ (0 : Int) ≤ _; omega), Bool.false_and]
      rw [hz, bI_f, if_pos rfl, if_neg (show ¬ (k < tl G ∧ fig (tb G k) = true) from fun q => f q.2)]
  · rw [if_pos (nI_le (by omega) (by omega)), if_neg (fun q => c q.1), sm_in, Option.bind_some]
    rfl
theorem sm_fig1 {G : Gs} {σ : Sg} {k : Nat} (h : TM G σ) (c : k < tl G) (f : fig (tb G k) = true) : fn_X7_figureAt (nI k) σ = some (nI (tb G k - 48)) := by
  rw [sm_fig h (by have := h.2.1; omega), if_pos (show k < tl G ∧ fig (tb G k) = true from ⟨c, f⟩)]
theorem sm_good {n p : Nat} {G : Gs} {σ : Sg} {k9 : Int32 → Int32 → Sg → Option (Int32 × Sg)} (h : TM G σ) (hp : p < 10) : ∀ (i g : Nat), 4 < i + g → g ≤ 4 → (∀ m, m < g → 6 * p + m < tl G ∧ fig (tb G (6 * p + m)) = true) → ∃ gd, gd ≤ 4 ∧ (∀ m, m < gd → 6 * p + m < tl G ∧ fig (tb G (6 * p + m)) = true) ∧ (gd < 4 → ¬ (6 * p + gd < tl G ∧ fig (tb G (6 * p + gd)) = true)) ∧ fn_X7_faultNow_b23 n k9 i (nI p) (nI (6 * p)) (nI g) σ = fn_X7_faultNow_b51 n k9 (nI p) (nI (6 * p)) (nI gd) σ := by
  intro i
  induction i with
  | zero => intro g h1 h2; exact absurd h1 (by omega)
  | succ i ih =>
    intro g h1 h2 hg
    rw [fn_X7_faultNow_b23_s, if_neg (show ¬ (10 : Int32) ≤ nI p from nI_ge (b := 10) hp (by omega))]
    by_cases c : 4 ≤ g
    · rw [if_pos (show (4 : Int32) ≤ nI g from nI_le (a := 4) c (by omega))]
      exact ⟨g, h2, hg, fun q => absurd q (by omega), rfl⟩
    · rw [if_neg (show ¬ (4 : Int32) ≤ nI g from nI_ge (b := 4) (by omega) (by omega)), nI_add, sm_fig h (by omega), Option.bind_some]
      by_cases f : 6 * p + g < tl G ∧ fig (tb G (6 * p + g)) = true
      · have a := fig_iff.mp f.2
        rw [if_pos f, if_neg (ma_m1 (by omega)), nI_1]
        exact ih (g + 1) (by omega) (by omega) (fun m hm => by
          by_cases e : m = g
          · rw [e]; exact f
          · exact hg m (by omega))
      · rw [if_neg f, if_pos rfl]
        exact ⟨g, h2, hg, fun _ => f, rfl⟩
theorem gOn_fig {t : Nat → Nat} {p m : Nat} (hm : m < 3) : gOn t (6 * p + m) = fig (t (6 * p + m)) := by
  unfold gOn
  rw [if_neg (by omega), if_neg (by omega), if_neg (by omega)]
theorem gOn_3 {t : Nat → Nat} {p : Nat} : gOn t (6 * p + 3) = (fig (t (6 * p + 3)) && (decide (t (6 * p + 3) ≠ 48) || decide (t (6 * p + 2) ≠ 48))) := by
  unfold gOn
  rw [if_pos (by omega), show 6 * p + 3 - 1 = 6 * p + 2 by omega]
theorem gOn_4 {t : Nat → Nat} {p : Nat} : gOn t (6 * p + 4) = (decide (t (6 * p + 4) = 111) || decide (t (6 * p + 4) = 101) || decide (t (6 * p + 4) = 102)) := by
  unfold gOn
  rw [if_neg (by omega), if_pos (by omega)]
theorem gOn_5 {t : Nat → Nat} {p : Nat} : gOn t (6 * p + 5) = decide (t (6 * p + 5) = 59) := by
  unfold gOn
  rw [if_neg (by omega), if_neg (by omega), if_pos (by omega)]
/-- the kind's number by its byte; -1 -/
def kco (G : Gs) (p : Nat) : Int32 := if 6 * p + 4 < tl G then (if tb G (6 * p + 4) = 111 then 0 else if tb G (6 * p + 4) = 101 then 1 else if tb G (6 * p + 4) = 102 then 2 else -1) else -1
theorem sm_kind {n p gd : Nat} {G : Gs} {σ : Sg} {k9 : Int32 → Int32 → Sg → Option (Int32 × Sg)} (h : TM G σ) (hp : p < 10) : fn_X7_faultNow_b51 n k9 (nI p) (nI (6 * p)) (nI gd) σ = fn_X7_faultNow_b109 n k9 (nI p) (nI (6 * p)) (nI gd) (kco G p) σ := by
  obtain ⟨h1, h2, h3⟩ := h
  unfold fn_X7_faultNow_b51 fn_X7_faultNow_b73 kco
  have m4 : nI (6 * p) + 4 = nI (6 * p + 4) := nI_add (6 * p) 4
  rw [h1, m4]
  by_cases c : 6 * p + 4 < tl G
  · obtain ⟨e1, e2⟩ := h3 _ c
    rw [if_neg (nI_ge c (by omega)), if_pos (ma_ib (by omega) (by omega)), ma_cl (by omega), e1, if_pos c]
    by_cases z1 : tb G (6 * p + 4) = 111
    · rw [if_pos (show nI (tb G (6 * p + 4)) = (111 : Int32) from eqL z1), if_pos z1]
    · rw [if_neg (show ¬ nI (tb G (6 * p + 4)) = (111 : Int32) from neL (k := 111) (by omega) (by omega) z1), if_neg z1]
      by_cases z2 : tb G (6 * p + 4) = 101
      · rw [if_pos (show nI (tb G (6 * p + 4)) = (101 : Int32) from eqL z2), if_pos z2]
      · rw [if_neg (show ¬ nI (tb G (6 * p + 4)) = (101 : Int32) from neL (k := 101) (by omega) (by omega) z2), if_neg z2]
        by_cases z3 : tb G (6 * p + 4) = 102
        · rw [if_pos (show nI (tb G (6 * p + 4)) = (102 : Int32) from eqL z3), if_pos z3]
        · rw [if_neg (show ¬ nI (tb G (6 * p + 4)) = (102 : Int32) from neL (k := 102) (by omega) (by omega) z3), if_neg z3]
  · rw [if_pos (nI_le (by omega) (by omega)), if_neg c, if_neg (by decide), if_neg (by decide), if_neg (by decide)]
theorem cnt_0 {G : Gs} {i : Nat} (h : flt (tl G) (tb G) = some i) : cnt G = 0 := by
  unfold cnt
  rw [if_neg (by rw [h]; simp)]
def FEnd (G : Gs) (σ : Sg) (o : Option (Int32 × Sg)) : Prop := ∃ σ', o = some (oI (flt (tl G) (tb G)), σ') ∧ F5 σ σ' ∧ σ' 53 2 = nI (cnt G) ∧ FM G σ' (cnt G)
theorem fe_some {G : Gs} {σ : Sg} {i : Nat} (hf : flt (tl G) (tb G) = some i) (h0 : σ 53 2 = 0) : FEnd G σ (some (nI i, σ)) := by
  refine ⟨σ, by rw [hf]; rfl, F5.rf σ, ?_, ?_⟩
  · rw [cnt_0 hf]; exact h0
  · rw [cnt_0 hf]; exact fun p hp => absurd hp (Nat.not_lt_zero p)
theorem sm_fault {n : Nat} {G : Gs} (hn : 20 ≤ n) : ∀ (i p : Nat) (σ : Sg), 10 < i + p → 6 * p ≤ tl G → TM G σ → σ 53 2 = 0 → (∀ k, k < 6 * p → gOn (tb G) k = true) → FM G σ p → FEnd G σ (fn_X7_faultNow_b9 n i (nI p) (nI (6 * p)) σ) := by
  intro i
  induction i with
  | zero => intro p σ h1 h2 ht; exact absurd h1 (by have := ht.2.1; omega)
  | succ i ih =>
    intro p σ h1 h2 ht h0 hg hF
    obtain ⟨t1, t2, t3⟩ := id ht
    have hp : p < 10 := by omega
    rw [fn_X7_faultNow_b9_s, t1]
    by_cases cz : tl G = 0
    · have hp0 : p = 0 := by omega
      subst hp0
      rw [cz, if_neg (nI_nlt (by omega) (by omega)), if_pos (show nI (6 * 0) ≤ (0 : Int32) from nI_le (a := 0) (b := 0) (by omega) (by omega))]
      have hf : flt (tl G) (tb G) = none := by rw [flt_all (by rw [cz]; exact fun j hj => absurd hj (Nat.not_lt_zero j)), if_pos (Or.inl cz)]
      have hc : cnt G = 0 := by unfold cnt; rw [if_pos hf, cz]
      refine ⟨σ, by rw [hf]; rfl, F5.rf σ, by rw [hc]; exact h0, by rw [hc]; exact fun p hp => absurd hp (Nat.not_lt_zero p)⟩
    · have go : FEnd G σ (fn_X7_faultNow_b21 n (fn_X7_faultNow_b9 n i) (nI p) (nI (6 * p)) σ) := by
        obtain ⟨gd, g1, g2, g3, g4⟩ := sm_good (n := n) (k9 := fn_X7_faultNow_b9 n i) ht hp n 0 (by omega) (by omega) (fun m hm => absurd hm (Nat.not_lt_zero m))
        have g4 : fn_X7_faultNow_b21 n (fn_X7_faultNow_b9 n i) (nI p) (nI (6 * p)) σ = _ := g4
        rw [g4, sm_kind ht hp]
        by_cases c4 : gd < 4
        · unfold fn_X7_faultNow_b109 fn_X7_faultNow_b138 fn_X7_faultNow_b156 fn_X7_faultNow_b176
          rw [if_neg (show ¬ nI gd = (4 : Int32) from neL (k := 4) (by omega) (by omega) (by omega)), if_pos (show nI gd < (4 : Int32) from nI_lt (b := 4) c4 (by omega)), if_neg (show ¬ (4 : Int32) ≤ nI gd from nI_ge (b := 4) c4 (by omega)), nI_add]
          refine fe_some ?_ h0
          have hall : ∀ k, k < 6 * p + gd → gOn (tb G) k = true := by
            intro k hk
            by_cases e : k < 6 * p
            · exact hg k e
            · obtain ⟨m, rfl⟩ : ∃ m, k = 6 * p + m := ⟨k - 6 * p, by omega⟩
              rw [gOn_fig (by omega)]
              exact (g2 m (by omega)).2
          by_cases c5 : 6 * p + gd < tl G
          · refine flt_at c5 hall ?_
            have hnf : fig (tb G (6 * p + gd)) = false := by
              cases e : fig (tb G (6 * p + gd)) with
              | false => rfl
              | true => exact absurd ⟨c5, e⟩ (g3 c4)
            by_cases e3 : gd < 3
            · rw [gOn_fig e3]; exact hnf
            · have : gd = 3 := by omega
              subst this
              rw [gOn_3, hnf, Bool.false_and]
          · have e : tl G = 6 * p + gd := by
              by_cases z : gd = 0
              · omega
              · have := (g2 (gd - 1) (by omega)).1
                omega
            rw [flt_all (by rw [e]; exact hall), if_neg (by omega), e]
        · have e4 : gd = 4 := by omega
          subst e4
          obtain ⟨q0, f0⟩ := g2 0 (by omega)
          obtain ⟨q1, f1⟩ := g2 1 (by omega)
          obtain ⟨q2, f2⟩ := g2 2 (by omega)
          obtain ⟨q3, f3⟩ := g2 3 (by omega)
          rw [Nat.add_zero] at q0 f0
          have a0 := fig_iff.mp f0
          have a1 := fig_iff.mp f1
          have a2 := fig_iff.mp f2
          have a3 := fig_iff.mp f3
          have m2 : nI (6 * p) + 2 = nI (6 * p + 2) := nI_add (6 * p) 2
          have m3 : nI (6 * p) + 3 = nI (6 * p + 3) := nI_add (6 * p) 3
          have m1 : nI (6 * p) + 1 = nI (6 * p + 1) := nI_add (6 * p) 1
          have m5 : nI (6 * p) + 5 = nI (6 * p + 5) := nI_add (6 * p) 5
          have hall4 : (tb G (6 * p + 3) ≠ 48 ∨ tb G (6 * p + 2) ≠ 48) → ∀ k, k < 6 * p + 4 → gOn (tb G) k = true := by
            intro hne k hk
            by_cases e : k < 6 * p
            · exact hg k e
            · obtain ⟨m, rfl⟩ : ∃ m, k = 6 * p + m := ⟨k - 6 * p, by omega⟩
              by_cases e3 : m < 3
              · rw [gOn_fig e3]
                exact (g2 m (by omega)).2
              · have : m = 3 := by omega
                subst this
                rw [gOn_3, f3, Bool.true_and, Bool.or_eq_true, decide_eq_true_eq, decide_eq_true_eq]
                exact hne
          have hend : (10 : Int32) * nI (tb G (6 * p + 2) - 48) + nI (tb G (6 * p + 3) - 48) = nI (two (tb G) (6 * p + 2)) := by
            rw [show (10 : Int32) = nI 10 from rfl, pk_mul, nI_add]
            unfold two
            rw [Nat.mul_comm]
          have htw : two (tb G) (6 * p + 2) < 100 := two_lt f2 f3
          unfold fn_X7_faultNow_b109
          rw [if_pos (show nI 4 = (4 : Int32) from rfl), m2, m3, sm_fig ht (by omega), Option.bind_some, sm_fig ht (by omega), Option.bind_some, if_pos ⟨q2, f2⟩, if_pos ⟨q3, f3⟩, hend]
          unfold fn_X7_faultNow_b138
          rw [if_neg (show ¬ nI 4 < (4 : Int32) by decide)]
          by_cases ce : two (tb G) (6 * p + 2) = 0
          · rw [if_pos (show nI (two (tb G) (6 * p + 2)) = (0 : Int32) from eqL ce)]
            unfold fn_X7_faultNow_b156 fn_X7_faultNow_b176
            rw [if_pos (show (4 : Int32) ≤ nI 4 by decide), if_pos (show nI (two (tb G) (6 * p + 2)) = (0 : Int32) from eqL ce), m3]
            refine fe_some (flt_at q3 (fun k hk => ?_) ?_) h0
            · by_cases e : k < 6 * p
              · exact hg k e
              · obtain ⟨m, rfl⟩ : ∃ m, k = 6 * p + m := ⟨k - 6 * p, by omega⟩
                rw [gOn_fig (by omega)]
                exact (g2 m (by omega)).2
            · unfold two at ce
              rw [show 6 * p + 2 + 1 = 6 * p + 3 by omega] at ce
              rw [gOn_3, decide_eq_false (by omega), decide_eq_false (by omega), Bool.or_self, Bool.and_false]
          · have hne : tb G (6 * p + 3) ≠ 48 ∨ tb G (6 * p + 2) ≠ 48 := by
              unfold two at ce
              rw [show 6 * p + 2 + 1 = 6 * p + 3 by omega] at ce
              omega
            have ha4 := hall4 hne
            rw [if_neg (show ¬ nI (two (tb G) (6 * p + 2)) = (0 : Int32) from neL (k := 0) (by omega) (by omega) ce)]
            have bad : kco G p = -1 → gOn (tb G) (6 * p + 4) = false ∨ tl G = 6 * p + 4 := by
              intro q
              unfold kco at q
              by_cases c : 6 * p + 4 < tl G
              · rw [if_pos c] at q
                left
                rw [gOn_4]
                by_cases z1 : tb G (6 * p + 4) = 111
                · rw [if_pos z1] at q; exact absurd q (by decide)
                · rw [if_neg z1] at q
                  by_cases z2 : tb G (6 * p + 4) = 101
                  · rw [if_pos z2] at q; exact absurd q (by decide)
                  · rw [if_neg z2] at q
                    by_cases z3 : tb G (6 * p + 4) = 102
                    · rw [if_pos z3] at q; exact absurd q (by decide)
                    · rw [decide_eq_false z1, decide_eq_false z2, decide_eq_false z3]; rfl
              · right; omega
            by_cases ck : kco G p = -1
            · rw [if_pos ck]
              unfold fn_X7_faultNow_b156 fn_X7_faultNow_b176
              have m4 : nI (6 * p) + 4 = nI (6 * p + 4) := nI_add (6 * p) 4
              rw [if_pos (show (4 : Int32) ≤ nI 4 by decide), if_neg (show ¬ nI (two (tb G) (6 * p + 2)) = (0 : Int32) from neL (k := 0) (by omega) (by omega) ce), m4]
              refine fe_some ?_ h0
              by_cases c : 6 * p + 4 < tl G
              · rcases bad ck with z | z
                · exact flt_at c ha4 z
                · omega
              · have e : tl G = 6 * p + 4 := by omega
                rw [flt_all (by rw [e]; exact ha4), if_neg (by omega), e]
            · rw [if_neg ck]
              have c : 6 * p + 4 < tl G := by
                by_cases c : 6 * p + 4 < tl G
                · exact c
                · exfalso; apply ck; unfold kco; rw [if_neg c]
              have hk3 : tb G (6 * p + 4) = 111 ∨ tb G (6 * p + 4) = 101 ∨ tb G (6 * p + 4) = 102 := by
                unfold kco at ck
                rw [if_pos c] at ck
                by_cases z1 : tb G (6 * p + 4) = 111
                · exact Or.inl z1
                · by_cases z2 : tb G (6 * p + 4) = 101
                  · exact Or.inr (Or.inl z2)
                  · by_cases z3 : tb G (6 * p + 4) = 102
                    · exact Or.inr (Or.inr z3)
                    · rw [if_neg z1, if_neg z2, if_neg z3] at ck
                      exact absurd rfl ck
              have hkc : kco G p = nI (kdp (tb G) p) := by
                unfold kco kdp
                rw [if_pos c]
                rcases hk3 with z | z | z <;> rw [z] <;> rfl
              have ha5 : ∀ k, k < 6 * p + 5 → gOn (tb G) k = true := by
                intro k hk
                by_cases e : k < 6 * p + 4
                · exact ha4 k e
                · have : k = 6 * p + 4 := by omega
                  subst this
                  rw [gOn_4]
                  rcases hk3 with z | z | z <;> rw [z] <;> rfl
              have hborn : (10 : Int32) * nI (tb G (6 * p) - 48) + nI (tb G (6 * p + 1) - 48) = nI (two (tb G) (6 * p)) := by
                rw [show (10 : Int32) = nI 10 from rfl, pk_mul, nI_add]
                unfold two
                rw [Nat.mul_comm]
              have ib : ag_ib (nI p) 11 = true := ma_ib (by omega) (by omega)
              rw [sm_fig1 ht q0 f0, Option.bind_some, m1, sm_fig1 ht q1 f1, Option.bind_some, hborn, if_pos ib, if_pos ib]
              unfold ag_sg
              dsimp only
              rw [if_pos ib, ma_cl (show p < 2 ^ 31 by omega), hkc, m5]
              generalize hs : ag_up (ag_up (ag_up σ 55 p (nI (two (tb G) (6 * p)))) 56 p (nI (two (tb G) (6 * p + 2)))) 57 p (nI (kdp (tb G) p)) = σ1
              have ff : F5 σ σ1 := by
                rw [← hs]
                exact ((f5_up (Or.inl rfl)).tr (f5_up (Or.inr (Or.inl rfl)))).tr (f5_up (Or.inr (Or.inr rfl)))
              have s1 : σ1 53 1 = nI (tl G) := by rw [ff.1 1 (by decide)]; exact t1
              have s2 : σ1 53 2 = 0 := by rw [← hs, ma_up_k (by decide), ma_up_k (by decide), ma_up_k (by decide)]; exact h0
              have s54 : σ1 54 = σ 54 := ff.2 54 (by decide) (by decide) (by decide) (by decide)
              have hF1 : FM G σ1 (p + 1) := by
                intro q hq
                rw [← hs]
                by_cases e : q = p
                · subst e
                  exact ⟨by rw [ma_up_k (by decide), ma_up_k (by decide), ma_up_s], by rw [ma_up_k (by decide), ma_up_s], by rw [ma_up_s]⟩
                · simp only [ma_up_i e]
                  exact hF q (by omega)
              rw [s1, nI_1]
              by_cases c5 : 6 * p + 5 = tl G
              · rw [if_pos (by rw [c5])]
                have hf : flt (tl G) (tb G) = none := by rw [flt_all (by rw [← c5]; exact ha5), if_pos (Or.inr (by omega))]
                have hc : cnt G = p + 1 := by unfold cnt; rw [if_pos hf]; omega
                refine ⟨_, by rw [hf]; rfl, ff.tr f5_p, by rw [hc]; exact ma_up_s _ _ _ _, ?_⟩
                rw [hc]
                intro q hq
                rw [ma_up_k (by decide), ma_up_k (by decide), ma_up_k (by decide)]
                exact hF1 q hq
              · have c6 : 6 * p + 5 < tl G := by omega
                obtain ⟨e1, e2⟩ := t3 _ c6
                rw [if_neg (neL (by omega) (by omega) c5), if_pos (ma_ib (by omega) (by omega)), ma_cl (by omega), s54, e1]
                by_cases z : tb G (6 * p + 5) = 59
                · rw [if_pos (show nI (tb G (6 * p + 5)) = (59 : Int32) from eqL z), nI_1]
                  obtain ⟨σ', r1, r2, r3, r4⟩ := ih (p + 1) σ1 (by omega) (by omega) (f5_TM ff ht) s2 (fun k hk => by
                    by_cases e : k < 6 * p + 5
                    · exact ha5 k e
                    · have : k = 6 * p + 5 := by omega
                      subst this
                      rw [gOn_5, decide_eq_true z]) hF1
                  rw [show 6 * (p + 1) = 6 * p + 5 + 1 by omega] at r1
                  exact ⟨σ', r1, ff.tr r2, r3, r4⟩
                · rw [if_neg (show ¬ nI (tb G (6 * p + 5)) = (59 : Int32) from neL (k := 59) (by omega) (by omega) z)]
                  have hf : flt (tl G) (tb G) = some (6 * p + 5) := flt_at c6 ha5 (by rw [gOn_5, decide_eq_false z])
                  obtain ⟨σ', r1, r2, r3, r4⟩ := fe_some (σ := σ1) hf s2
                  exact ⟨σ', r1, ff.tr r2, r3, r4⟩
      by_cases c : 6 * p < tl G
      · rw [if_pos (nI_lt c (by omega))]
        exact go
      · rw [if_neg (nI_nlt (by omega) (by omega)), if_neg (show ¬ nI (6 * p) ≤ (0 : Int32) from nI_ge (a := 0) (b := 6 * p) (by omega) (by omega))]
        exact go
theorem sm_faultNow {n : Nat} {G : Gs} {σ : Sg} (hn : 20 ≤ n) (h : TM G σ) : ∃ σ', fn_X7_faultNow n σ = some (oI (flt (tl G) (tb G)), σ') ∧ F5 σ σ' ∧ σ' 53 2 = nI (cnt G) ∧ FM G σ' (cnt G) := by
  obtain ⟨σ', r1, r2, r3, r4⟩ := sm_fault (n := n) (G := G) hn n 0 (ag_up σ 53 2 0) (by omega) (by omega) (f5_TM f5_p h) (ma_up_s _ _ _ _) (fun k hk => absurd hk (by omega)) (fun p hp => absurd hp (Nat.not_lt_zero p))
  exact ⟨σ', r1, f5_p.tr r2, r3, r4⟩
