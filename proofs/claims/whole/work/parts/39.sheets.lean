/-! the sheets -/
def gSh (G : Gs) (s : Nat) (b : Bool) (f z : Nat) (it : Nat → Int32) : Gs := (G.1, G.2.1, G.2.2.1, ((fun t => if t = s then b else sh G t), (fun t => if t = s then f else sf G t), (fun t => if t = s then z else ss G t), (fun t => if t = s then it else si G t)), G.2.2.2.2)
theorem gSh_ok {G : Gs} {s : Nat} {b : Bool} {f z : Nat} {it : Nat → Int32} (g : GOk G) (hf : f < 3) (hz : z ≤ 48) : GOk (gSh G s b f z it) := by
  refine ⟨g.1, g.2.1, g.2.2.1, g.2.2.2.1, g.2.2.2.2.1, g.2.2.2.2.2.1, g.2.2.2.2.2.2.1, fun t ht => ?_, g.2.2.2.2.2.2.2.2⟩
  show (if t = s then f else sf G t) < 3 ∧ (if t = s then z else ss G t) ≤ 48
  by_cases c : t = s
  · simp only [if_pos c]; exact ⟨hf, hz⟩
  · simp only [if_neg c]; exact g.2.2.2.2.2.2.2.1 t ht
theorem RC.sheet {G : Gs} {σ σ' : Sg} {s : Nat} {b : Bool} {f z : Nat} {it : Nat → Int32} (h : RC G σ) (hs : s < 4) (hf : f < 3) (hz : z ≤ 48) (e0 : σ' (45 + 2 * s) 0 = bI (!b)) (e1 : σ' (45 + 2 * s) 1 = nI f) (e2 : σ' (45 + 2 * s) 2 = nI z) (e3 : ∀ i, i < 48 → σ' (45 + 2 * s + 1) i = it i) (e : ∀ k, k ≠ 45 + 2 * s → k ≠ 45 + 2 * s + 1 → σ' k = σ k) : RC (gSh G s b f z it) σ' := by
  obtain ⟨⟨g, a1, a2, a3, a4, a5, a6, a7, a8⟩, l⟩ := h
  refine ⟨⟨gSh_ok g hf hz, a1.kp (e 1 (by omega) (by omega)) (e 2 (by omega) (by omega)), a2.kp (e 9 (by omega) (by omega)), a3.kp (fun k p q => e k (by omega) (by omega)), a4.kp (fun k p q => e k (by omega) (by omega)), ?_, a6.kp (fun k p q => e k (by omega) (by omega)), fun t ht => ?_, a8.kp (e 0 (by omega) (by omega))⟩, l.keep ?_ ?_ (e 16 (by omega) (by omega)) (e 17 (by omega) (by omega)) (e 18 (by omega) (by omega)) (e 19 (by omega) (by omega))⟩
  · rw [e 3 (by omega) (by omega)]; exact a5
  · show _ = bI (!(if t = s then b else sh G t)) ∧ _ = nI (if t = s then f else sf G t) ∧ _ = nI (if t = s then z else ss G t) ∧ ∀ i, i < 48 → _ = (if t = s then it else si G t) i
    by_cases c : t = s
    · simp only [if_pos c]
      subst c
      exact ⟨e0, e1, e2, e3⟩
    · simp only [if_neg c]
      rw [e (45 + 2 * t) (by omega) (by omega), e (45 + 2 * t + 1) (by omega) (by omega)]
      exact a7 t ht
  · rw [e 3 (by omega) (by omega)]
  · rw [e 3 (by omega) (by omega)]
theorem RM.sheet {G : Gs} {σ σ' : Sg} {s : Nat} {b : Bool} {f z : Nat} {it : Nat → Int32} (h : RM G σ) (hf : f < 3) (hz : z ≤ 48) (e0 : σ' 72 s = bI b) (e1 : σ' 73 s = nI f) (e2 : σ' 74 s = nI z) (e3 : ∀ i, i < 48 → σ' 75 (48 * s + i) = it i) (e4 : ∀ k t, t ≠ s → k = 72 ∨ k = 73 ∨ k = 74 → σ' k t = σ k t) (e5 : ∀ t i, t ≠ s → i < 48 → σ' 75 (48 * t + i) = σ 75 (48 * t + i)) (e : ∀ k, k < 72 → σ' k = σ k) : RM (gSh G s b f z it) σ' := by
  obtain ⟨⟨g, b1, b2, b3, b6, b7, b8⟩, bm⟩ := h
  refine ⟨⟨gSh_ok g hf hz, b1.kp (by rw [e 53 (by omega)]) (e 54 (by omega)), b2.kp (e 58 (by omega)), b3.kp (by rw [e 53 (by omega)]) (fun k p q => e k (by omega)), b6.kp (by rw [e 53 (by omega)]) (fun k p q => e k (by omega)), fun t ht => ?_, b8.kp (by rw [e 53 (by omega)])⟩, bm.kp (fun i p q => by rw [e 53 (by omega)])⟩
  show _ = bI (if t = s then b else sh G t) ∧ _ = nI (if t = s then f else sf G t) ∧ _ = nI (if t = s then z else ss G t) ∧ ∀ i, i < 48 → _ = (if t = s then it else si G t) i
  by_cases c : t = s
  · simp only [if_pos c]
    subst c
    exact ⟨e0, e1, e2, e3⟩
  · simp only [if_neg c]
    rw [e4 72 t c (by omega), e4 73 t c (by omega), e4 74 t c (by omega)]
    obtain ⟨q1, q2, q3, q4⟩ := b7 t ht
    exact ⟨q1, q2, q3, fun i hi => by rw [e5 t i c hi]; exact q4 i hi⟩
theorem bo_lose {G : Gs} {σ τ : Sg} {x : Int32} (hc : RC G σ) (hm : RM G τ) : ∃ a G', HC σ (fn_X6_lose x σ) a G' ∧ HM τ (fn_X7_lose x τ) a G' := by
  unfold fn_X6_lose fn_X7_lose
  rcases ck_sheet x σ τ with ⟨⟨s, hs, rfl⟩, e1, e2⟩ | ⟨e1, e2⟩
  case inr => rw [e1, e2]; exact ⟨-2, G, HC.rf hc, HM.rf hm⟩
  have I : ag_ib (nI s) 4 = true := ma_ib hs (by omega)
  rw [e1, e2, Option.bind_some, Option.bind_some, if_neg n10, if_neg n10, if_pos I, if_pos I, ma_cl (by omega)]
  obtain ⟨c0, c1, c2, c3⟩ := hc.1.2.2.2.2.2.2.2.1 s hs
  obtain ⟨d0, d1, d2, d3⟩ := hm.1.2.2.2.2.2.1 s hs
  obtain ⟨g1, g2⟩ := hc.1.1.2.2.2.2.2.2.2.1 s hs
  rw [c0, d0]
  cases sh G s with
  | true =>
    rw [if_pos (show bI (!true) = 0 from rfl), if_neg (show ¬ bI true = 0 from n10), if_pos I, if_pos I, if_pos I, if_pos I, ma_up_i (show 2 ≠ 0 by decide), ag_up_ne (show 74 ≠ 72 by decide), c2, d2]
    refine ⟨nI (ss G s), gSh G s false (sf G s) (ss G s) (si G s), ⟨_, rfl, hc.sheet hs g1 g2 (ma_up_s _ _ _ _) ?_ ?_ (fun i hi => ?_) (fun k p q => ag_up_ne p), fun k hk => ag_up_ne (by omega)⟩, ⟨_, rfl, hm.sheet g1 g2 ?_ ?_ ?_ (fun i hi => ?_) (fun k t p q => ?_) (fun t i p q => ?_) (fun k hk => ag_up_ne (by omega)), fun k hk => ag_up_ne (by omega)⟩⟩
    · rw [ma_up_i (show 1 ≠ 0 by decide), c1]
    · rw [ma_up_i (show 2 ≠ 0 by decide), c2]
    · rw [ag_up_ne (show 45 + 2 * s + 1 ≠ 45 + 2 * s by omega), c3 i hi]
    · rw [ma_up_s]; rfl
    · rw [ag_up_ne (show 73 ≠ 72 by decide), d1]
    · rw [ag_up_ne (show 74 ≠ 72 by decide), d2]
    · rw [ag_up_ne (show 75 ≠ 72 by decide), d3 i hi]
    · rw [ma_up_i p]
    · rw [ag_up_ne (show 75 ≠ 72 by decide)]
  | false =>
    rw [if_neg (show ¬ bI (!false) = 0 from n10), if_pos (show bI false = 0 from rfl), if_pos I]
    exact ⟨_, _, HC.find (v := 1) hc (by omega), HM.meet (v := 1) hm (by omega)⟩
theorem ck_lt {z : Nat} (hz : z < 2 ^ 30) (x : Int32) (σ τ : Sg) : (∃ j, j < z ∧ x = nI j) ∧ fn_X6_isBelow x (nI z) σ = some 1 ∧ fn_X7_in x 0 (nI z - 1) τ = some 1 ∨ fn_X6_isBelow x (nI z) σ = some 0 ∧ fn_X7_in x 0 (nI z - 1) τ = some 0 := by
  unfold fn_X6_isBelow fn_X7_in
  rcases ma_cases x with q | ⟨j, hj, rfl⟩
  · right
    rw [if_pos q, if_pos q]
    exact ⟨rfl, rfl⟩
  · rw [if_neg (nI_pos hj), if_neg (nI_pos hj)]
    by_cases c : j < z
    · left
      obtain ⟨m, e⟩ : ∃ m, z = m + 1 := ⟨z - 1, by omega⟩
      rw [if_neg (nI_ge c (by omega)), e, nI_pred, if_neg (nI_nlt (by omega) (by omega))]
      exact ⟨⟨j, by omega, rfl⟩, rfl, rfl⟩
    · right
      have q : nI z - 1 < nI j := by
        by_cases y : z = 0
        · rw [y]
          exact Int32.lt_of_lt_of_le (show nI 0 - 1 < (0 : Int32) by decide) (nI_pos' hj)
        · obtain ⟨m, e⟩ : ∃ m, z = m + 1 := ⟨z - 1, by omega⟩
          rw [e, nI_pred]
          exact nI_lt (by omega) hj
      rw [if_pos (nI_le (by omega) hj), if_pos q]
      exact ⟨rfl, rfl⟩
theorem ck_find {G : Gs} {σ τ : Sg} {s f : Nat} (hc : RC G σ) (hm : RM G τ) (hs : s < 4) (hf : f < 3) (x : Int32) : (∃ i, i < ss G s ∧ x = nI i ∧ fn_X3_findingAt (45 + 2 * s) (nI f) x σ = some 0 ∧ fn_X7_lacks (nI s) (nI f) x τ = some 0) ∨ ∃ v, 1 ≤ v ∧ v ≤ 3 ∧ fn_X3_findingAt (45 + 2 * s) (nI f) x σ = some (nI v) ∧ fn_X7_lacks (nI s) (nI f) x τ = some (nI v) := by
  have I : ag_ib (nI s) 4 = true := ma_ib hs (by omega)
  obtain ⟨c0, c1, c2, c3⟩ := hc.1.2.2.2.2.2.2.2.1 s hs
  obtain ⟨d0, d1, d2, d3⟩ := hm.1.2.2.2.2.2.1 s hs
  obtain ⟨g1, g2⟩ := hc.1.1.2.2.2.2.2.2.2.1 s hs
  unfold fn_X3_findingAt fn_X7_lacks
  rw [if_pos I, if_pos I, if_pos I, ma_cl (by omega), c0, c1, c2, d0, d1, d2]
  cases sh G s with
  | false =>
    rw [if_neg (show ¬ bI (!false) = 0 from n10), if_pos (show bI false = 0 from rfl)]
    exact Or.inr ⟨1, by omega, by omega, rfl, rfl⟩
  | true =>
    rw [if_pos (show bI (!true) = 0 from rfl), if_neg (show ¬ bI true = 0 from n10)]
    by_cases c : f = sf G s
    · rw [if_pos (eqL c), if_pos (eqL c.symm)]
      rcases ck_lt (z := ss G s) (by omega) x σ τ with ⟨⟨j, hj, rfl⟩, e1, e2⟩ | ⟨e1, e2⟩
      · rw [e1, e2]
        exact Or.inl ⟨j, hj, rfl, rfl, rfl⟩
      · rw [e1, e2]
        exact Or.inr ⟨2, by omega, by omega, rfl, rfl⟩
    · rw [if_neg (neL (by omega) (by omega) c), if_neg (neL (by omega) (by omega) (fun q => c q.symm))]
      exact Or.inr ⟨3, by omega, by omega, rfl, rfl⟩
def nar (f : Nat) (v : Int32) : Int32 := if f = 0 then v.toInt8.toInt32 else if f = 1 then v.toInt16.toInt32 else v
theorem sp_setItem {G : Gs} {σ : Sg} {s i : Nat} {v : Int32} (hc : RC G σ) (hs : s < 4) (hi : i < ss G s) : fn_X3_setItem (45 + 2 * s) (nI i) v σ = some (ag_up σ (45 + 2 * s + 1) i (nar (sf G s) v)) := by
  obtain ⟨c0, c1, c2, c3⟩ := hc.1.2.2.2.2.2.2.2.1 s hs
  obtain ⟨g1, g2⟩ := hc.1.1.2.2.2.2.2.2.2.1 s hs
  have B : fn_X6_isBelow (nI i) (nI (ss G s)) σ = some 1 := by
    unfold fn_X6_isBelow
    rw [if_neg (nI_pos (by omega)), if_neg (nI_ge hi (by omega))]
  unfold fn_X3_setItem fn_X3_setItem_b43 nar
  rw [c2, B, Option.bind_some, if_neg n10, c1, ma_cl (by omega)]
  by_cases z0 : sf G s = 0
  · rw [if_pos (show nI (sf G s) = 0 from eqL z0), if_pos (ma_ib (by omega) (by omega)), if_pos z0]
  · rw [if_neg (show ¬ nI (sf G s) = 0 from nI_ne0 (by omega) (by omega)), if_neg z0]
    by_cases z1 : sf G s = 1
    · rw [if_pos (show nI (sf G s) = 1 from eqL z1), if_pos (ma_ib (by omega) (by omega)), if_pos z1]
    · rw [if_neg (show ¬ nI (sf G s) = 1 from neL (k := 1) (by omega) (by omega) z1), if_pos (ma_ib (by omega) (by omega)), if_neg z1]
theorem sm_keep {G : Gs} {τ : Sg} {s i : Nat} {v : Int32} (hm : RM G τ) (hs : s < 4) (hi : i < ss G s) : fn_X7_keep (nI s) (nI i) v τ = some (ag_up τ 75 (48 * s + i) (nar (sf G s) v)) := by
  have I : ag_ib (nI s) 4 = true := ma_ib hs (by omega)
  obtain ⟨d0, d1, d2, d3⟩ := hm.1.2.2.2.2.2.1 s hs
  obtain ⟨g1, g2⟩ := hm.1.1.2.2.2.2.2.2.2.1 s hs
  have T0 : 48 * nI s + nI i = nI (48 * s + i) := by
    rw [← nI_add]
    congr 1
    exact (Int32.ofNat_mul 48 s).symm
  unfold fn_X7_keep fn_X7_keep_b40 nar
  rw [if_pos I, if_pos I, T0, ma_cl (show s < 2 ^ 31 by omega), ma_cl (show 48 * s + i < 2 ^ 31 by omega), d1]
  by_cases z0 : sf G s = 0
  · rw [if_pos (show nI (sf G s) = 0 from eqL z0), if_pos (ma_ib (by omega) (by omega)), if_pos z0]
  · rw [if_neg (show ¬ nI (sf G s) = 0 from nI_ne0 (by omega) (by omega)), if_neg z0]
    by_cases z1 : sf G s = 1
    · rw [if_pos (show nI (sf G s) = 1 from eqL z1), if_pos (ma_ib (by omega) (by omega)), if_pos z1]
    · rw [if_neg (show ¬ nI (sf G s) = 1 from neL (k := 1) (by omega) (by omega) z1), if_pos (ma_ib (by omega) (by omega)), if_neg z1]
def gSet (G : Gs) (s i : Nat) (v : Int32) : Gs := gSh G s (sh G s) (sf G s) (ss G s) (fun k => if k = i then v else si G s k)
theorem RC.set {G : Gs} {σ : Sg} {s i : Nat} {v : Int32} (hc : RC G σ) (hs : s < 4) : RC (gSet G s i v) (ag_up σ (45 + 2 * s + 1) i v) := by
  obtain ⟨c0, c1, c2, c3⟩ := hc.1.2.2.2.2.2.2.2.1 s hs
  obtain ⟨g1, g2⟩ := hc.1.1.2.2.2.2.2.2.2.1 s hs
  refine hc.sheet hs g1 g2 ?_ ?_ ?_ (fun k hk => ?_) (fun k p q => ag_up_ne q)
  · rw [ag_up_ne (show 45 + 2 * s ≠ 45 + 2 * s + 1 by omega), c0]
  · rw [ag_up_ne (show 45 + 2 * s ≠ 45 + 2 * s + 1 by omega), c1]
  · rw [ag_up_ne (show 45 + 2 * s ≠ 45 + 2 * s + 1 by omega), c2]
  · by_cases z : k = i
    · rw [if_pos z, z, ma_up_s]
    · rw [if_neg z, ma_up_i z, c3 k hk]
theorem RM.set {G : Gs} {τ : Sg} {s i : Nat} {v : Int32} (hm : RM G τ) (hs : s < 4) (hi : i < 48) : RM (gSet G s i v) (ag_up τ 75 (48 * s + i) v) := by
  obtain ⟨d0, d1, d2, d3⟩ := hm.1.2.2.2.2.2.1 s hs
  obtain ⟨g1, g2⟩ := hm.1.1.2.2.2.2.2.2.2.1 s hs
  refine hm.sheet g1 g2 ?_ ?_ ?_ (fun k hk => ?_) (fun k t p q => ?_) (fun t k p q => ?_) (fun k hk => ag_up_ne (by omega))
  · rw [ag_up_ne (show 72 ≠ 75 by decide), d0]
  · rw [ag_up_ne (show 73 ≠ 75 by decide), d1]
  · rw [ag_up_ne (show 74 ≠ 75 by decide), d2]
  · by_cases z : k = i
    · rw [if_pos z, z, ma_up_s]
    · rw [if_neg z, ma_up_i (show 48 * s + k ≠ 48 * s + i by omega), d3 k hk]
  · rw [ag_up_ne (show k ≠ 75 by omega)]
  · rw [ma_up_i (show 48 * t + k ≠ 48 * s + i by omega)]
