/-! ===== both sides answer alike, call by call ===== -/
def HC (σ : Sg) (o : Option (Int32 × Sg)) (a : Int32) (G : Gs) : Prop := ∃ σ', o = some (a, σ') ∧ RC G σ' ∧ ∀ k, 53 ≤ k → σ' k = σ k
def HM (σ : Sg) (o : Option (Int32 × Sg)) (a : Int32) (G : Gs) : Prop := ∃ σ', o = some (a, σ') ∧ RM G σ' ∧ ∀ k, k < 53 → σ' k = σ k
theorem HC.rf {G : Gs} {σ : Sg} {a : Int32} (h : RC G σ) : HC σ (some (a, σ)) a G := ⟨σ, rfl, h, fun _ _ => rfl⟩
theorem HM.rf {G : Gs} {σ : Sg} {a : Int32} (h : RM G σ) : HM σ (some (a, σ)) a G := ⟨σ, rfl, h, fun _ _ => rfl⟩
/-- all but people and lives -/
def RC1 (G : Gs) (σ : Sg) : Prop := GOk G ∧ CText G σ ∧ COwn G σ ∧ CLet G σ ∧ σ 3 2 = 0 ∧ CDeed G σ ∧ CSheet G σ ∧ CFind G σ
theorem RC1.take {n : Nat} {G : Gs} {σ : Sg} (hn : 300 ≤ n) (h : RC1 G σ) : ∃ σ', fn_X6_takePeople n σ = some σ' ∧ RC G σ' ∧ ∀ k, k = 1 ∨ k = 2 ∨ 20 ≤ k → σ' k = σ k := by
  obtain ⟨g, a1, a2, a4, a5, a6, a7, a8⟩ := h
  obtain ⟨σ1, r1, r2, r3, r4⟩ := sp_tellPeople (n := n) (G := G) (σ := σ) (by omega) ⟨a1.1, g.1, fun i hi => ⟨a1.2 i hi, g.2.1 i hi⟩⟩
  have E : ∀ k, k < 4 ∨ 8 < k → σ1 k = σ k := fun k q => r2 k (by omega) (by omega) (by omega) (by omega) (by omega)
  have h1 : RC0 G σ1 := by
    refine ⟨g, ?_, ?_, ⟨r3, r4⟩, ?_, ?_, ?_, ?_, ?_⟩
    · unfold CText at *
      rw [E 1 (by omega), E 2 (by omega)]; exact a1
    · unfold COwn at *
      rw [E 9 (by omega)]; exact a2
    · unfold CLet at *
      rw [E 10 (by omega), E 11 (by omega), E 12 (by omega), E 13 (by omega), E 14 (by omega), E 15 (by omega)]; exact a4
    · rw [E 3 (by omega)]; exact a5
    · unfold CDeed at *
      rw [E 39 (by omega), E 40 (by omega), E 41 (by omega), E 42 (by omega), E 43 (by omega)]; exact a6
    · intro s hs
      rw [E (45 + 2 * s) (by omega), E (45 + 2 * s + 1) (by omega)]
      exact a7 s hs
    · unfold CFind at *
      rw [E 0 (by omega)]; exact a8
  obtain ⟨σ2, s1, s2, s3⟩ := h1.live hn
  refine ⟨σ2, ?_, s2, fun k q => ?_⟩
  · unfold fn_X6_takePeople
    rw [r1, Option.bind_some, s1]
    rfl
  · rw [s3 k (by omega) (by omega) (by omega) (by omega) (by omega), E k (by omega)]
theorem RC.one {G : Gs} {σ : Sg} (h : RC G σ) : RC1 G σ := ⟨h.1.1, h.1.2.1, h.1.2.2.1, h.1.2.2.2.2.1, h.1.2.2.2.2.2.1, h.1.2.2.2.2.2.2.1, h.1.2.2.2.2.2.2.2.1, h.1.2.2.2.2.2.2.2.2⟩
/-- another text -/
def gText (G : Gs) (n : Nat) (t : Nat → Nat) : Gs := ((n, t, om G), G.2)
theorem gText_ok {G : Gs} {n : Nat} {t : Nat → Nat} (h : GOk G) (hn : n ≤ 59) (ht : ∀ i, i < n → t i < 256) : GOk (gText G n t) := ⟨hn, ht, h.2.2⟩
theorem RC1.text {G : Gs} {σ σ' : Sg} {n : Nat} {t : Nat → Nat} (h : RC1 G σ) (hn : n ≤ 59) (ht : ∀ i, i < n → t i < 256) (e1 : σ' 1 1 = nI n) (e2 : ∀ i, i < n → σ' 2 i = nI (t i)) (e : ∀ k, k ≠ 1 → k ≠ 2 → σ' k = σ k) : RC1 (gText G n t) σ' := by
  obtain ⟨g, a1, a2, a4, a5, a6, a7, a8⟩ := h
  refine ⟨gText_ok g hn ht, ⟨e1, e2⟩, ?_, ?_, ?_, ?_, ?_, ?_⟩
  · unfold COwn at *
    rw [e 9 (by omega) (by omega)]; exact a2
  · unfold CLet at *
    rw [e 10 (by omega) (by omega), e 11 (by omega) (by omega), e 12 (by omega) (by omega), e 13 (by omega) (by omega), e 14 (by omega) (by omega), e 15 (by omega) (by omega)]; exact a4
  · rw [e 3 (by omega) (by omega)]; exact a5
  · unfold CDeed at *
    rw [e 39 (by omega) (by omega), e 40 (by omega) (by omega), e 41 (by omega) (by omega), e 42 (by omega) (by omega), e 43 (by omega) (by omega)]; exact a6
  · intro s hs
    rw [e (45 + 2 * s) (by omega) (by omega), e (45 + 2 * s + 1) (by omega) (by omega)]
    exact a7 s hs
  · unfold CFind at *
    rw [e 0 (by omega) (by omega)]; exact a8
theorem RM.text {G : Gs} {σ σ' : Sg} {n : Nat} {t : Nat → Nat} (h : RM G σ) (hn : n ≤ 59) (ht : ∀ i, i < n → t i < 256) (e1 : σ' 53 1 = nI n) (e2 : ∀ i, i < n → σ' 54 i = nI (t i)) (e : ∀ k, k ≠ 53 → k ≠ 54 → σ' k = σ k) (e0 : ∀ i, i ≠ 1 → σ' 53 i = σ 53 i) : RM (gText G n t) σ' := by
  obtain ⟨⟨g, a1, a2, a3, a6, a7, a8⟩, m⟩ := h
  refine ⟨⟨gText_ok g hn ht, ⟨e1, e2⟩, ?_, ?_, ?_, ?_, ?_⟩, ?_⟩
  · unfold MOwn at *
    rw [e 58 (by omega) (by omega)]; exact a2
  · unfold MLet at *
    rw [e0 7 (by omega), e 59 (by omega) (by omega), e 60 (by omega) (by omega), e 61 (by omega) (by omega), e 62 (by omega) (by omega), e 63 (by omega) (by omega)]; exact a3
  · unfold MDeed at *
    rw [e0 26 (by omega), e 68 (by omega) (by omega), e 69 (by omega) (by omega), e 70 (by omega) (by omega), e 71 (by omega) (by omega)]; exact a6
  · unfold MSheet at *
    rw [e 72 (by omega) (by omega), e 73 (by omega) (by omega), e 74 (by omega) (by omega), e 75 (by omega) (by omega)]; exact a7
  · unfold MFind at *
    rw [e0 36 (by omega)]; exact a8
  · unfold MTold at *
    rw [e0 13 (by omega), e0 14 (by omega), e0 15 (by omega), e0 16 (by omega), e0 17 (by omega)]; exact m
/-- in(x, 0, m) -/
theorem sm_in0 {m : Nat} (hm : m < 2 ^ 31) (x : Int32) (σ : Sg) : (x < 0 ∨ ∃ j, j < 2 ^ 31 ∧ m < j ∧ x = nI j) ∧ fn_X7_in x 0 (nI m) σ = some 0 ∨ (∃ j, j ≤ m ∧ x = nI j) ∧ fn_X7_in x 0 (nI m) σ = some 1 := by
  unfold fn_X7_in
  rcases ma_cases x with q | ⟨j, hj, rfl⟩
  · left
    rw [if_pos q]
    exact ⟨Or.inl q, rfl⟩
  · rw [if_neg (nI_pos hj)]
    by_cases c : m < j
    · left
      rw [if_pos (nI_lt c hj)]
      exact ⟨Or.inr ⟨j, hj, c, rfl⟩, rfl⟩
    · right
      rw [if_neg (nI_nlt (by omega) hm)]
      exact ⟨⟨j, by omega, rfl⟩, rfl⟩
theorem bo_type {n : Nat} {G : Gs} {σ τ : Sg} {x : Int32} (hn : 300 ≤ n) (hc : RC G σ) (hm : RM G τ) : ∃ a G', HC σ (fn_X6_type n x σ) a G' ∧ HM τ (fn_X7_type x τ) a G' := by
  have l1 : σ 1 1 = nI (tl G) := hc.1.2.1.1
  have l2 : τ 53 1 = nI (tl G) := hm.1.2.1.1
  have hl : tl G ≤ 59 := hc.1.1.1
  unfold fn_X6_type fn_X7_type
  rcases sm_in0 (m := 255) (by omega) x τ with ⟨hx, e⟩ | ⟨⟨j, hj, rfl⟩, e⟩
  · refine ⟨-2, G, ?_, ?_⟩
    · rcases hx with q | ⟨j, h1, h2, rfl⟩
      · rw [if_pos q]; exact HC.rf hc
      · rw [if_neg (nI_pos h1), if_neg (show ¬ nI j ≤ (255 : Int32) from nI_ge h2 h1)]; exact HC.rf hc
    · rw [show fn_X7_in x 0 255 τ = _ from e, Option.bind_some, if_pos rfl]; exact HM.rf hm
  · rw [show fn_X7_in (nI j) 0 255 τ = _ from e, Option.bind_some, if_neg (show ¬ (1 : Int32) = 0 by decide), if_neg (nI_pos (by omega)), if_pos (show nI j ≤ (255 : Int32) from nI_le (b := 255) hj (by omega)), l1, l2]
    by_cases c : tl G = 59
    · refine ⟨-4, G, ?_, ?_⟩
      · rw [if_neg (show ¬ nI (tl G) < (59 : Int32) from nI_nlt (b := 59) (by omega) (by omega))]; exact HC.rf hc
      · rw [if_pos (show nI (tl G) = (59 : Int32) from eqL c)]; exact HM.rf hm
    · have hlt : tl G < 59 := by omega
      rw [if_pos (show nI (tl G) < (59 : Int32) from nI_lt (b := 59) hlt (by omega)), if_neg (show ¬ nI (tl G) = (59 : Int32) from neL (k := 59) (by omega) (by omega) c), if_pos (ma_ib hlt (by omega)), if_pos (ma_ib hlt (by omega)), ma_cl (by omega)]
      unfold ag_sg
      dsimp only
      rw [ma_up_k (show 1 ≠ 2 by decide) 1, ma_up_k (show 53 ≠ 54 by decide) 1, l1, l2, nI_1]
      have ht : ∀ i, i < tl G + 1 → (fun i => if i = tl G then j else tb G i) i < 256 := by
        intro i hi
        dsimp only
        by_cases z : i = tl G
        · rw [if_pos z]; omega
        · rw [if_neg z]; exact hc.1.1.2.1 i (by omega)
      have hc1 : RC1 (gText G (tl G + 1) (fun i => if i = tl G then j else tb G i)) (ag_up (ag_up σ 2 (tl G) (nI j)) 1 1 (nI (tl G + 1))) := by
        refine hc.one.text (by omega) ht (ma_up_s _ _ _ _) (fun i hi => ?_) (fun k a b => ?_)
        · rw [ma_up_k (show 2 ≠ 1 by decide)]
          by_cases z : i = tl G
          · rw [if_pos z, z, ma_up_s]
          · rw [if_neg z, ma_up_i z]; exact hc.1.2.1.2 i (by omega)
        · rw [ag_up_ne a, ag_up_ne b]
      obtain ⟨σ', r1, r2, r3⟩ := hc1.take hn
      refine ⟨nI (tl G + 1), _, ⟨σ', ?_, r2, fun k hk => ?_⟩, ⟨_, by rw [ma_up_s], ?_, fun k hk => ?_⟩⟩
      · rw [r1, Option.bind_some, r3 1 (by omega), ma_up_s]
      · rw [r3 k (by omega), ag_up_ne (by omega), ag_up_ne (by omega)]
      · refine hm.text (by omega) ht (ma_up_s _ _ _ _) (fun i hi => ?_) (fun k a b => ?_) (fun i hi => ?_)
        · rw [ma_up_k (show 54 ≠ 53 by decide)]
          by_cases z : i = tl G
          · rw [if_pos z, z, ma_up_s]
          · rw [if_neg z, ma_up_i z]; exact hm.1.2.1.2 i (by omega)
        · rw [ag_up_ne a, ag_up_ne b]
        · rw [ma_up_i hi, ag_up_ne (show 53 ≠ 54 by decide)]
      · rw [ag_up_ne (by omega), ag_up_ne (by omega)]
/-- a shorter text -/
theorem bo_cut {n m : Nat} {G : Gs} {σ τ : Sg} (hn : 300 ≤ n) (hc : RC G σ) (hm : RM G τ) (h : m ≤ tl G) : (∃ σ', fn_X6_takePeople n (ag_up σ 1 1 (nI m)) = some σ' ∧ RC (gText G m (tb G)) σ' ∧ σ' 1 1 = nI m ∧ ∀ k, 53 ≤ k → σ' k = σ k) ∧ RM (gText G m (tb G)) (ag_up τ 53 1 (nI m)) := by
  have hl : tl G ≤ 59 := hc.1.1.1
  have ht : ∀ i, i < m → tb G i < 256 := fun i hi => hc.1.1.2.1 i (by omega)
  have hc1 : RC1 (gText G m (tb G)) (ag_up σ 1 1 (nI m)) := hc.one.text (by omega) ht (ma_up_s _ _ _ _) (fun i hi => by rw [ma_up_k (show 2 ≠ 1 by decide)]; exact hc.1.2.1.2 i (by omega)) (fun k a b => ag_up_ne a)
  obtain ⟨σ', r1, r2, r3⟩ := hc1.take hn
  refine ⟨⟨σ', r1, r2, by rw [r3 1 (by omega), ma_up_s], fun k hk => by rw [r3 k (by omega), ag_up_ne (by omega)]⟩, ?_⟩
  exact hm.text (by omega) ht (ma_up_s _ _ _ _) (fun i hi => by rw [ma_up_k (show 54 ≠ 53 by decide)]; exact hm.1.2.1.2 i (by omega)) (fun k a b => ag_up_ne a) (fun i hi => ma_up_i hi 53)
theorem bo_wipe {n : Nat} {G : Gs} {σ τ : Sg} (hn : 300 ≤ n) (hc : RC G σ) (hm : RM G τ) : ∃ a G', HC σ (fn_X6_wipe n σ) a G' ∧ HM τ (fn_X7_wipe τ) a G' := by
  obtain ⟨⟨σ', r1, r2, -, r4⟩, r5⟩ := bo_cut hn hc hm (Nat.zero_le _)
  refine ⟨nI (tl G), _, ⟨σ', ?_, r2, r4⟩, ⟨_, ?_, r5, fun k hk => ag_up_ne (by omega)⟩⟩
  · unfold fn_X6_wipe
    rw [show ag_up σ 1 1 0 = ag_up σ 1 1 (nI 0) from rfl, r1, Option.bind_some, hc.1.2.1.1]
  · unfold fn_X7_wipe
    rw [hm.1.2.1.1]; rfl
theorem bo_undo {n : Nat} {G : Gs} {σ τ : Sg} (hn : 300 ≤ n) (hc : RC G σ) (hm : RM G τ) : ∃ a G', HC σ (fn_X6_undo n σ) a G' ∧ HM τ (fn_X7_undo τ) a G' := by
  have l1 : σ 1 1 = nI (tl G) := hc.1.2.1.1
  have l2 : τ 53 1 = nI (tl G) := hm.1.2.1.1
  have hl : tl G ≤ 59 := hc.1.1.1
  unfold fn_X6_undo fn_X7_undo
  rw [l1, l2]
  by_cases c : tl G = 0
  · exact ⟨-3, G, by rw [if_pos (show nI (tl G) = 0 from eqL c)]; exact HC.rf hc, by rw [if_pos (show nI (tl G) = 0 from eqL c)]; exact HM.rf hm⟩
  · rw [if_neg (nI_ne0 (by omega) (by omega)), if_neg (nI_ne0 (by omega) (by omega))]
    obtain ⟨m, e⟩ : ∃ m, tl G = m + 1 := ⟨tl G - 1, by omega⟩
    obtain ⟨⟨σ', r1, r2, r3, r4⟩, r5⟩ := bo_cut (m := m) hn hc hm (by omega)
    rw [e, nI_pred]
    refine ⟨nI m, _, ⟨σ', ?_, r2, r4⟩, ⟨_, ?_, r5, fun k hk => ag_up_ne (by omega)⟩⟩
    · rw [r1, Option.bind_some, r3]
    · rw [ma_up_s]
theorem bo_fault {n : Nat} {G : Gs} {σ τ : Sg} (hn : 300 ≤ n) (hc : RC G σ) (hm : RM G τ) : fn_X6_fault n σ = some (oI (flt (tl G) (tb G))) ∧ HM τ (fn_X7_fault n τ) (oI (flt (tl G) (tb G))) G := by
  constructor
  · unfold fn_X6_fault
    rw [sp_firstFault (by omega) hc.1.TC]; rfl
  · obtain ⟨σ', r1, r2, r3, r4⟩ := sm_faultNow (n := n) (by omega) hm.1.TM
    refine ⟨σ', ?_, ⟨hm.1.f5 r2, hm.2.f5 r2⟩, fun k hk => r2.2 k (by omega) (by omega) (by omega) (by omega)⟩
    unfold fn_X7_fault
    rw [r1]; rfl
