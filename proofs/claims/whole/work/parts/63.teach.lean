/-! teach -/
theorem IsB.toN {x : Int32} {n : Nat} {f : Nat → Bool} (h : IsB x n f) (hn : n ≤ 32) : ∃ m, m < 2 ^ n ∧ x = nI m ∧ ∀ i, m.testBit i = (decide (i < n) && f i) := by
  obtain ⟨m, h1, h2⟩ := nat_of f n
  refine ⟨m, h1, h.eq (IsB.ofN h1 hn) (fun i hi => (h2 i hi).symm), fun i => ?_⟩
  by_cases c : i < n
  · rw [decide_eq_true c, h2 i c]; rfl
  · rw [decide_eq_false c, Bool.false_and]
    exact Nat.testBit_lt_two_pow (Nat.lt_of_lt_of_le h1 (Nat.pow_le_pow_right (by omega) (by omega)))
theorem bc_mono {f g : Nat → Bool} : ∀ {n : Nat}, (∀ i, i < n → f i = true → g i = true) → bc f n ≤ bc g n
  | 0, _ => Nat.le_refl _
  | n + 1, h => by
    show bc f n + (if f n = true then 1 else 0) ≤ bc g n + (if g n = true then 1 else 0)
    have := bc_mono (f := f) (g := g) (n := n) (fun i hi => h i (by omega))
    by_cases c : f n = true
    · rw [if_pos c, if_pos (h n (by omega) c)]; omega
    · rw [if_neg c]; omega
def sTe (G : Gs) (s : Nat) : Sc := sEA G (en (scn G)) (fun k => bt (nI s) k)
def knT (G : Gs) (per Y s v : Nat) : Bool := ((sim (sTe G s) (Y + 1)).2.2 per v).isSome
def wkT (G : Gs) (per Y : Nat) (ws : Nat → Bool) (s : Nat) : Bool := !anyB (fun v => ws v && !knT G per Y s v) 8
theorem anyB_all {f : Nat → Bool} : ∀ {m : Nat}, (∀ v, v < m → f v = false) → anyB f m = false
  | 0, _ => rfl
  | m + 1, h => by
    show (anyB f m || f m) = false
    rw [anyB_all (fun v hv => h v (by omega)), h m (by omega)]; rfl
theorem wk_class {x k : Int32} {ws kn : Nat → Bool} (hx : IsB x 8 ws) (hk : IsB k 8 kn) : (k &&& x) = x ↔ anyB (fun v => ws v && !kn v) 8 = false := by
  constructor
  · intro e
    refine anyB_all (fun v hv => ?_)
    have h1 := (hk.and hx).at hv (by omega)
    have h2 := hx.at hv (by omega)
    rw [e, h2] at h1
    rw [h1]
    cases kn v <;> cases ws v <;> rfl
  · intro e
    refine (hk.and hx).eq hx (fun v hv => ?_)
    have := anyB_f e hv
    revert this
    cases kn v <;> cases ws v <;> decide
theorem wk_ref {x k : Int32} {ws kn : Nat → Bool} (hx : IsB x 8 ws) (hk : IsB k 8 kn) : (x &&& (k ^^^ (-1))) = 0 ↔ anyB (fun v => ws v && !kn v) 8 = false := by
  constructor
  · intro e
    refine anyB_all (fun v hv => ?_)
    have h1 := (hx.andn hk).at hv (by omega)
    rw [e, b_0] at h1
    exact h1.symm
  · intro e
    refine (hx.andn hk).eq (IsB.zero 8) (fun v hv => ?_)
    exact anyB_f e hv
/-- with those helpful ones alone it is the same -/
theorem off_same {G : Gs} {Y : Nat} {H a : Nat → Bool} {W : Nat → Nat → Bool} (hY : Y < 200) (hF : Fixd G Y H W (ls G)) : Off G H W Y (sEA G (en (scn G)) a) := by
  intro k hk hh z hz hl hy hc p hr
  have d := ((due_can (S := scn G) (k := k) hl hy (by omega)).mp hc).1
  rcases hF k hk hh with c | c
  · omega
  · have hp : p < cnt G := hrs_cn (S := sEA G (en (scn G)) a) hc hr
    have := anyB_f c hp
    have he : hear G k p = true := by
      have hr : (if el (scn G) (lr G k) = true then decide (p ≠ lr G k) && lvs (sEA G (en (scn G)) a) p z else decide (p = lr G k)) = true := hr
      unfold hear
      by_cases ce : el (scn G) (lr G k) = true
      · rw [if_pos ce] at hr ⊢
        simp only [Bool.and_eq_true] at hr
        exact hr.1
      · rw [if_neg ce] at hr ⊢
        exact hr
    rw [he, Bool.true_and] at this
    exact this
theorem clo_of {G : Gs} {per : Nat} {ws H : Nat → Bool} {W : Nat → Nat → Bool} (h : HW G per ws H W) : Clo G H W := fun k hk hh => ⟨fun _ => (h.1 k hk hh).1, fun _ => (h.1 k hk hh).2⟩
theorem lvs_a {G : Gs} {e : Nat → Nat} {a1 a2 : Nat → Bool} (p y : Nat) : lvs (sEA G e a1) p y = lvs (sEA G e a2) p y := rfl
theorem kn_same {G : Gs} {per Y : Nat} {ws H a1 a2 : Nat → Bool} {W : Nat → Nat → Bool} (hY : Y < 200) (hp : per < cnt G) (h : HW G per ws H W) (hF : Fixd G Y H W (ls G)) (ha : ∀ k, k < ls G → H k = true → a1 k = a2 k) {v : Nat} (hv : v < 8) (c : ws v = true) : (sim (sEA G (en (scn G)) a1) (Y + 1)).2.2 per v = (sim (sEA G (en (scn G)) a2) (Y + 1)).2.2 per v := by
  have pr := care_eq (G := G) (H := H) (Wt := W) (Y := Y) (e1 := en (scn G)) (e2 := en (scn G)) (a1 := a1) (a2 := a2) ⟨fun k hk hh => ⟨ha k hk hh, fun y => lvs_a _ y, fun y => lvs_a _ y⟩, fun q _ _ y => lvs_a q y⟩ (clo_of h) (off_same hY hF) (off_same hY hF) (Y + 1) (Nat.le_refl _)
  rcases h.2.1 v hv c with q | q
  · exact pr.2.1 per v q
  · obtain ⟨q1, q2⟩ := pr.2.2 per v hp q
    exact q1.trans q2.symm
theorem anyB_congr {f g : Nat → Bool} : ∀ {m : Nat}, (∀ v, v < m → f v = g v) → anyB f m = anyB g m
  | 0, _ => rfl
  | m + 1, h => by
    show (anyB f m || f m) = (anyB g m || g m)
    rw [anyB_congr (fun v hv => h v (by omega)), h m (by omega)]
theorem knT_same {G : Gs} {per Y s t : Nat} {ws H : Nat → Bool} {W : Nat → Nat → Bool} (hY : Y < 200) (hp : per < cnt G) (h : HW G per ws H W) (hF : Fixd G Y H W (ls G)) (ha : ∀ k, k < ls G → H k = true → bt (nI s) k = bt (nI t) k) {v : Nat} (hv : v < 8) (c : ws v = true) : knT G per Y s v = knT G per Y t v := by
  unfold knT sTe
  rw [kn_same hY hp h hF ha hv c]
theorem wkT_same2 {G : Gs} {per Y s t : Nat} {ws H : Nat → Bool} {W : Nat → Nat → Bool} (hY : Y < 200) (hp : per < cnt G) (h : HW G per ws H W) (hF : Fixd G Y H W (ls G)) (ha : ∀ k, k < ls G → H k = true → bt (nI s) k = bt (nI t) k) : wkT G per Y ws s = wkT G per Y ws t := by
  unfold wkT
  rw [anyB_congr (g := fun v => ws v && !knT G per Y t v) (fun v hv => ?_)]
  cases c : ws v with
  | false => rw [Bool.false_and, Bool.false_and]
  | true => rw [knT_same hY hp h hF ha hv c]
theorem wkT_same {G : Gs} {per Y s hN : Nat} {ws H : Nat → Bool} {W : Nat → Nat → Bool} (hg : GOk G) (hY : Y < 200) (hp : per < cnt G) (h : HW G per ws H W) (hF : Fixd G Y H W (ls G)) (hH : ∀ i, hN.testBit i = (decide (i < ls G) && H i)) : wkT G per Y ws s = wkT G per Y ws (s &&& hN) := by
  refine wkT_same2 hY hp h hF (fun k hk hh => ?_)
  rw [ma_btn, ma_btn, Nat.testBit_and, hH k, decide_eq_true hk, hh, Bool.true_and, Bool.and_true]
def SBa (G : Gs) (σ : Sg) : Prop := ∃ a, SB G (en (scn G)) (mo (scn G)) (ow (scn G)) (lo_ G) a σ
theorem sp_teaches {n per Y s : Nat} {G : Gs} {ws : Nat → Bool} {σ : Sg} {x3 : Int32} (hn : 300 ≤ n) (hg : GOk G) (hp : per < cnt G) (hY : Y < 200) (hx : IsB x3 8 ws) (h : SBa G σ) : ∃ σ', fn_X6_teaches n (nI s) (nI per) x3 (nI Y) σ = some (bI (wkT G per Y ws s), σ') ∧ SBa G σ' ∧ ∀ k, 53 ≤ k → σ' k = σ k := by
  obtain ⟨a, h⟩ := h
  have h12 : ls G ≤ 12 := hg.2.2.2.1
  have h1 : SB G (en (scn G)) (mo (scn G)) (ow (scn G)) (lo_ G) (fun k => bt (nI s) k) (ag_up σ 21 2 (nI s ^^^ (-1))) := by
    refine h.re (fun k k1 k2 k3 k4 k5 k6 k7 => ag_up_ne k2) (fun p hp => by rw [ag_up_ne (by decide)]; exact h.h3 p hp) (fun p hp => by rw [ag_up_ne (by decide)]; exact h.h4 p hp) (fun p hp => by rw [ag_up_ne (by decide)]; exact h.h5 p hp) (fun p hp => by rw [ag_up_ne (by decide)]; exact h.h6 p hp) (fun k hk => ?_)
    rw [ma_up_s, b_xor, b_m1 k (by omega)]
    cases bt (nI s) k <;> rfl
  have he : ∀ p, p < cnt G → en (scn G) p ≤ 100 := fun p hp => Nat.le_of_lt (en_le hg hp)
  have hw : ∀ k, k < ls G → lo_ G k < 8 := fun k hk => (hg.2.2.2.2.1 k hk).2.2.2.2.1
  obtain ⟨σ1, r1, r2, r3, r4⟩ := h1.live hn he (fun p _ => mo_le G p) hw
  obtain ⟨x, s1, s2⟩ := sp_words (n := n) (b := 21) (p := per) (y := Y) (r2.Vw he (fun p _ => mo_le G p) hw).1 r3 hp hY n 0 0 (by omega) (by omega) ((IsB.zero _).congr (fun k _ => by rw [decide_eq_false (by omega)]; rfl))
  unfold fn_X6_teaches fn_X5_wordsBehind
  rw [r1, Option.bind_some, show fn_X5_wordsBehind_b5 n 21 (nI Y) (nI per) σ1 n 0 0 = _ from s1, Option.bind_some]
  have key := wk_class hx s2
  have ef : ∀ k, 53 ≤ k → σ1 k = σ k := fun k hk => by rw [r4 k (by omega), ag_up_ne (by omega)]
  cases c : wkT G per Y ws s with
  | true =>
    have c' : anyB (fun v => ws v && !knT G per Y s v) 8 = false := by
      unfold wkT at c
      revert c
      cases anyB (fun v => ws v && !knT G per Y s v) 8 <;> decide
    rw [if_pos (key.mpr c')]
    exact ⟨σ1, rfl, ⟨_, r2⟩, ef⟩
  | false =>
    have c' : ¬ anyB (fun v => ws v && !knT G per Y s v) 8 = false := by
      unfold wkT at c
      revert c
      cases anyB (fun v => ws v && !knT G per Y s v) 8 <;> decide
    rw [if_neg (fun q => c' (key.mp q))]
    exact ⟨σ1, rfl, ⟨_, r2⟩, ef⟩
/-- the best of the groups within -/
def BestW (wk : Nat → Bool) (hN : Nat) (a : Int32) : Prop := (a = -1 ∧ ∀ j, j < 2 ^ pc hN → wk (pd 12 hN j) = false) ∨ ∃ j, j < 2 ^ pc hN ∧ a = nI (pd 12 hN j) ∧ wk (pd 12 hN j) = true ∧ ∀ j', j' < 2 ^ pc hN → wk (pd 12 hN j') = true → pc (pd 12 hN j) < pc (pd 12 hN j') ∨ (pc (pd 12 hN j) = pc (pd 12 hN j') ∧ j ≤ j')
theorem sp_teach93 {n per Y z hN : Nat} {G : Gs} {ws : Nat → Bool} {x2 x3 : Int32} {K : Int32 → Int32 → Int32 → Int32 → Sg → Option (Int32 × Sg)} {σ0 : Sg} (hn : 300 ≤ n) (hg : GOk G) (hp : per < cnt G) (hY : Y < 200) (hx : IsB x2 8 ws) (hN12 : hN < 2 ^ 12) (hz : z ≤ 12) (hK : ∀ σ, SBa G σ → (∀ k, 53 ≤ k → σ k = σ0 k) → (∀ j, j < 2 ^ pc hN → wkT G per Y ws (pd 12 hN j) = true → z < pc (pd 12 hN j)) → ∃ a σ', K (nI Y) (nI hN) (nI (pc hN)) (nI z + 1) σ = some (a, σ') ∧ RC G σ' ∧ (∀ k, 53 ≤ k → σ' k = σ0 k) ∧ BestW (wkT G per Y ws) hN a) : ∀ (i v : Nat) (σ : Sg), 2 ^ pc hN < i + v → v ≤ 2 ^ pc hN → SBa G σ → (∀ k, 53 ≤ k → σ k = σ0 k) → (∀ j, j < 2 ^ pc hN → wkT G per Y ws (pd 12 hN j) = true → z < pc (pd 12 hN j) ∨ (pc (pd 12 hN j) = z ∧ v ≤ j)) → ∃ a σ', fn_X6_teach_b93 n (nI per) x2 x3 K i (nI Y) (nI hN) (nI (pc hN)) (nI z) (nI (pd 12 hN v)) (nI v) σ = some (a, σ') ∧ RC G σ' ∧ (∀ k, 53 ≤ k → σ' k = σ0 k) ∧ BestW (wkT G per Y ws) hN a
  | 0, v, σ, a, b, h, hf, hi => by omega
  | i + 1, v, σ, a, b, h, hf, hi => by
    have hc := pc_le hN
    have hpw := pow_12 hc
    have hl := pd_lt 12 hN v
    unfold fn_X6_teach_b93 fn_X6_teach_b128
    rw [ma_pow _ (by omega)]
    by_cases zz : v = 2 ^ pc hN
    · rw [if_pos (nI_le (show 2 ^ pc hN ≤ v by omega) (by omega))]
      exact hK σ h hf (fun j hj hk => by have := hi j hj hk; omega)
    · have hv : v < 2 ^ pc hN := by omega
      rw [if_neg (nI_ge (by omega) (by omega)), sp_pc hl, Option.bind_some, sp_next hN12, Option.bind_some, nI_1 v]
      have hpc := pc_le (pd 12 hN v)
      have next : (wkT G per Y ws (pd 12 hN v) = false ∨ pc (pd 12 hN v) ≠ z) → ∀ j, j < 2 ^ pc hN → wkT G per Y ws (pd 12 hN j) = true → z < pc (pd 12 hN j) ∨ (pc (pd 12 hN j) = z ∧ v + 1 ≤ j) := fun c j hj hk => by
        have := hi j hj hk
        by_cases e : j = v
        · rw [e] at hk this ⊢
          rcases c with c | c
          · rw [c] at hk; cases hk
          · omega
        · omega
      by_cases c : pc (pd 12 hN v) = z
      · obtain ⟨σ1, r1, r2, r3⟩ := sp_teaches (n := n) (s := pd 12 hN v) hn hg hp hY hx h
        have ef : ∀ k, 53 ≤ k → σ1 k = σ0 k := fun k hk => (r3 k hk).trans (hf k hk)
        rw [if_pos (congrArg nI c), r1, Option.bind_some]
        dsimp only
        cases cw : wkT G per Y ws (pd 12 hN v) with
        | true =>
          rw [if_neg (show ¬ bI true = 0 from n10)]
          obtain ⟨o, q⟩ := r2
          refine ⟨_, σ1, rfl, q.1, ef, Or.inr ⟨v, hv, rfl, cw, fun j hj hk => ?_⟩⟩
          have := hi j hj hk
          omega
        | false =>
          rw [if_pos (show bI false = 0 from rfl), sp_next hN12, Option.bind_some]
          exact sp_teach93 hn hg hp hY hx hN12 hz hK i (v + 1) σ1 (by omega) (by omega) r2 ef (next (Or.inl cw))
      · rw [if_neg (neL (by omega) (by omega) c)]
        exact sp_teach93 hn hg hp hY hx hN12 hz hK i (v + 1) σ (by omega) (by omega) h hf (next (Or.inr c))
theorem pc_pd {hN j : Nat} : pc (pd 12 hN j) ≤ pc hN := bc_mono (fun i _ h => pd_sub 12 hN j i h)
theorem sp_teach80 {n per Y hN : Nat} {G : Gs} {ws : Nat → Bool} {x2 x3 : Int32} {σ0 : Sg} (hn : 5000 ≤ n) (hg : GOk G) (hp : per < cnt G) (hY : Y < 200) (hx : IsB x2 8 ws) (hN12 : hN < 2 ^ 12) : ∀ (i z : Nat) (σ : Sg), pc hN + 1 < i + z → z ≤ pc hN + 1 → SBa G σ → (∀ k, 53 ≤ k → σ k = σ0 k) → (∀ j, j < 2 ^ pc hN → wkT G per Y ws (pd 12 hN j) = true → z ≤ pc (pd 12 hN j)) → ∃ a σ', fn_X6_teach_b80 n (nI per) x2 x3 i (nI Y) (nI hN) (nI (pc hN)) (nI z) σ = some (a, σ') ∧ RC G σ' ∧ (∀ k, 53 ≤ k → σ' k = σ0 k) ∧ BestW (wkT G per Y ws) hN a
  | 0, z, σ, a, b, h, hf, hi => by omega
  | i + 1, z, σ, a, b, h, hf, hi => by
    have hc := pc_le hN
    have hpw := pow_12 hc
    unfold fn_X6_teach_b80
    by_cases zz : z = pc hN + 1
    · rw [if_pos (nI_lt (show pc hN < z by omega) (by omega))]
      obtain ⟨o, q⟩ := h
      refine ⟨-1, σ, rfl, q.1, hf, Or.inl ⟨rfl, fun j hj => ?_⟩⟩
      cases c : wkT G per Y ws (pd 12 hN j) with
      | false => rfl
      | true =>
        have := hi j hj c
        have := pc_pd (hN := hN) (j := j)
        omega
    · rw [if_neg (fun q => by have := (nI_ltI (show pc hN < 2 ^ 31 by omega) (show z < 2 ^ 31 by omega)).mp q; omega)]
      have hp0 : pd 12 hN 0 = 0 := pd_0 12 hN
      have := sp_teach93 (n := n) (z := z) (hN := hN) (x3 := x3) (σ0 := σ0) (K := fn_X6_teach_b80 n (nI per) x2 x3 i) (by omega) hg hp hY hx hN12 (by omega) (fun σ1 h1 hf1 hi1 => by
        rw [nI_1 z]
        exact sp_teach80 hn hg hp hY hx hN12 i (z + 1) σ1 (by omega) (by omega) h1 hf1 (fun j hj hk => by have := hi1 j hj hk; omega)) n 0 σ (by omega) (Nat.zero_le _) h hf (fun j hj hk => by have := hi j hj hk; omega)
      rw [hp0] at this
      exact this
theorem BestW.all {G : Gs} {per Y hN : Nat} {ws H : Nat → Bool} {W : Nat → Nat → Bool} {a : Int32} (hg : GOk G) (hY : Y < 200) (hp : per < cnt G) (h : HW G per ws H W) (hF : Fixd G Y H W (ls G)) (hH : ∀ i, hN.testBit i = (decide (i < ls G) && H i)) (hN12 : hN < 2 ^ ls G) (hb : BestW (wkT G per Y ws) hN a) : Best (wkT G per Y ws) (2 ^ ls G) a := by
  have h12 : ls G ≤ 12 := hg.2.2.2.1
  have hpw : 2 ^ ls G ≤ 2 ^ 12 := Nat.pow_le_pow_right (by omega) h12
  have cov : ∀ s, s < 2 ^ ls G → ∃ j, j < 2 ^ pc hN ∧ pd 12 hN j = s &&& hN := fun s hs => pd_sur 12 hN (s &&& hN) (Nat.lt_of_le_of_lt Nat.and_le_right (by omega)) (fun k hk => by
    rw [Nat.testBit_and, Bool.and_eq_true] at hk
    exact hk.2)
  have same : ∀ s, wkT G per Y ws s = wkT G per Y ws (s &&& hN) := fun s => wkT_same hg hY hp h hF hH
  rcases hb with ⟨e, q⟩ | ⟨j, hj, e, q, m⟩
  · refine Or.inl ⟨e, fun s hs => ?_⟩
    obtain ⟨j, hj, ej⟩ := cov s hs
    rw [same s, ← ej]
    exact q j hj
  · have hjl : pd 12 hN j < 2 ^ ls G := by
      refine Nat.lt_of_le_of_lt (m := hN) ?_ hN12
      have : pd 12 hN j &&& hN = pd 12 hN j := by
        refine Nat.eq_of_testBit_eq (fun k => ?_)
        rw [Nat.testBit_and]
        cases c : (pd 12 hN j).testBit k with
        | false => rfl
        | true => rw [pd_sub 12 hN j k c]; rfl
      rw [← this]
      exact Nat.and_le_right
    refine Or.inr ⟨pd 12 hN j, hjl, e, q, fun s hs hk => ?_⟩
    obtain ⟨j', hj', ej⟩ := cov s hs
    rw [same s, ← ej] at hk
    have hm := m j' hj' hk
    have le1 : pc (pd 12 hN j') ≤ pc s := by
      rw [ej]
      exact bc_mono (fun i _ hi => by rw [Nat.testBit_and, Bool.and_eq_true] at hi; exact hi.1)
    have le2 : pd 12 hN j' ≤ s := by rw [ej]; exact Nat.and_le_left
    have le3 : j ≤ j' → pd 12 hN j ≤ pd 12 hN j' := fun c => by
      by_cases z : j = j'
      · rw [z]; exact Nat.le_refl _
      · exact Nat.le_of_lt (pd_mono 12 hN j j' (by omega) hj')
    by_cases c : pc (pd 12 hN j) < pc s
    · exact Or.inl c
    · have := le3 (by omega)
      exact Or.inr ⟨by omega, by omega⟩
/-- the reference -/
theorem sm_teachL {n per ag : Nat} {G : Gs} {ws : Nat → Bool} {x2 : Int32} (hn : 600 ≤ n) (hg : GOk G) (hp : per < cnt G) (ha : ag < 100) (hx : IsB x2 8 ws) : ∀ (i v : Nat) (a t0 : Int32) (τ : Sg), 2 ^ ls G < i + v → v ≤ 2 ^ ls G → RM0 G τ → MFolk G τ → MT τ t0 (-2) 0 (-1) 0 → Best (wkT G per (bo (scn G) per + ag) ws) v a → ∃ a' τ', fn_X7_teachOf_b10 n (nI per) x2 (nI ag) i a (nI v) τ = some (a', τ') ∧ RM G τ' ∧ (∀ k, k < 53 → τ' k = τ k) ∧ Best (wkT G per (bo (scn G) per + ag) ws) (2 ^ ls G) a'
  | 0, v, a, t0, τ, a1, b, h, hf, ht, hb => by omega
  | i + 1, v, a, t0, τ, a1, b, h, hf, ht, hb => by
    have h10 : cnt G ≤ 10 := (cnt_ok hg.1).1
    have h12 : ls G ≤ 12 := hg.2.2.2.1
    have hpw := pow_12 h12
    have hbo := bo_lt hg hp
    unfold fn_X7_teachOf_b10 fn_X7_teachOf_b84
    rw [h.2.2.2.1.1, ma_pow _ (by omega)]
    by_cases zz : v = 2 ^ ls G
    · rw [if_pos (nI_le (show 2 ^ ls G ≤ v by omega) (by omega))]
      obtain ⟨τ', r1, r2, -, r3⟩ := sm_asTold h
      rw [r1]
      exact ⟨a, τ', rfl, r2, fun k hk => r3 k (by omega), zz ▸ hb⟩
    · have hv : v < 2 ^ ls G := by omega
      have hpc := pc_le v
      rw [if_neg (nI_ge (by omega) (by omega)), nI_1 v]
      have run : (a = -1 ∨ ∃ b, b < 2 ^ 31 ∧ a = nI b ∧ pc v < pc b) → ∃ a' τ', fn_X7_teachOf_b40 n (nI per) x2 (nI ag) (fn_X7_teachOf_b10 n (nI per) x2 (nI ag) i) a (nI v) τ = some (a', τ') ∧ RM G τ' ∧ (∀ k, k < 53 → τ' k = τ k) ∧ Best (wkT G per (bo (scn G) per + ag) ws) (2 ^ ls G) a' := fun hc => by
        have h1 : RM0 G (ag_up τ 53 13 (nI v)) := h.up53 (by omega)
        have f1 : MFolk G (ag_up τ 53 13 (nI v)) := hf.up53 (by decide)
        have t1 : MT (ag_up τ 53 13 (nI v)) (nI v) (-2) 0 (-1) 0 := ⟨ma_up_s _ _ _ _, by rw [ma_up_i (by decide)]; exact ht.2.1, by rw [ma_up_i (by decide)]; exact ht.2.2.1, by rw [ma_up_i (by decide)]; exact ht.2.2.2.1, by rw [ma_up_i (by decide)]; exact ht.2.2.2.2⟩
        have vm : VM (sTe G v) (ag_up τ 53 13 (nI v)) := h1.VMS f1 t1 (fun p hp => by rw [b_0, decide_eq_false (ma_m1 (by omega)), eE_0]) (fun p hp => by rw [if_pos rfl]) (fun p hp => ow_ok hg hp) (fun k hk => rfl)
        obtain ⟨τ1, r1, r2, r3⟩ := sm_runs (last := bo (scn G) per + ag) hn (by omega) vm
        have e7 : ag_up τ 53 13 (nI v) 53 7 = nI (sz (sTe G v)) := h1.2.2.2.1.1
        have e55 : ag_up τ 53 13 (nI v) 55 per = nI (bo (scn G) per) := (f1.2 per hp).1
        unfold fn_X7_teachOf_b40 fn_X7_teachOf_b82 fn_X7_teachOf_b84
        rw [if_pos (ma_ib (by omega) (by omega)), ma_cl (by omega), e55, nI_add, e7, r1, Option.bind_some, if_pos (ma_ib (by omega) (by omega)), nI_1 v]
        have ef : ∀ k, k < 53 → τ1 k = τ k := fun k hk => by rw [r2 k (by omega) (by omega) (by omega), ag_up_ne (by omega)]
        have key := wk_ref hx (r3.2.2 per (by omega))
        cases cw : wkT G per (bo (scn G) per + ag) ws v with
        | true =>
          have c' : anyB (fun u => ws u && !knT G per (bo (scn G) per + ag) v u) 8 = false := by
            unfold wkT at cw
            revert cw
            cases anyB (fun u => ws u && !knT G per (bo (scn G) per + ag) v u) 8 <;> decide
          rw [if_pos (key.mpr c')]
          obtain ⟨a', τ', q1, q2, q3, q4⟩ := sm_teachL hn hg hp ha hx i (v + 1) (nI v) _ τ1 (by omega) (by omega) (h1.f3 r2) (f1.f3 r2) (t1.f3 r2) (hb.new (by omega) hc cw)
          exact ⟨a', τ', q1, q2, fun k hk => (q3 k hk).trans (ef k hk), q4⟩
        | false =>
          have c' : ¬ anyB (fun u => ws u && !knT G per (bo (scn G) per + ag) v u) 8 = false := by
            unfold wkT at cw
            revert cw
            cases anyB (fun u => ws u && !knT G per (bo (scn G) per + ag) v u) 8 <;> decide
          rw [if_neg (fun q => c' (key.mp q))]
          obtain ⟨a', τ', q1, q2, q3, q4⟩ := sm_teachL hn hg hp ha hx i (v + 1) a _ τ1 (by omega) (by omega) (h1.f3 r2) (f1.f3 r2) (t1.f3 r2) (hb.no cw)
          exact ⟨a', τ', q1, q2, fun k hk => (q3 k hk).trans (ef k hk), q4⟩
      have hb0 := hb
      rcases hb with ⟨e, q⟩ | ⟨b', hb', e, q, m⟩
      · rw [if_pos e]
        exact run (Or.inl e)
      · have hpb := pc_le b'
        have eo : fn_X7_ones n a τ = some (nI (pc b')) := by rw [e]; exact sm_pc (by omega) (by omega) τ
        rw [if_neg (show ¬ a = -1 by rw [e]; exact ma_m1 (by omega)), sm_pc (by omega) (by omega), Option.bind_some, eo, Option.bind_some]
        by_cases c : pc b' ≤ pc v
        · rw [if_pos (nI_le c (by omega))]
          exact sm_teachL hn hg hp ha hx i (v + 1) a t0 τ (by omega) (by omega) h hf ht (by rw [e] at hb0 ⊢; exact hb0.old (by omega) (by omega) c)
        · rw [if_neg (nI_ge (by omega) (by omega))]
          exact run (Or.inr ⟨b', by omega, e, by omega⟩)
theorem bo_teach {n : Nat} {G : Gs} {σ τ : Sg} {x1 x2 x3 : Int32} (hn : 5000 ≤ n) (hc : RC G σ) (hm : RM G τ) : ∃ a, HC σ (fn_X6_teach n x1 x2 x3 σ) a G ∧ HM τ (fn_X7_teach n x1 x2 x3 τ) a G := by
  have hg := hc.1.1
  have h10 : cnt G ≤ 10 := (cnt_ok hg.1).1
  have h12 : ls G ≤ 12 := hg.2.2.2.1
  have hpw := pow_12 h12
  unfold fn_X6_teach fn_X7_teach
  obtain ⟨τ', hm', hf, ek, h⟩ := ck_pers (show 20 ≤ n by omega) hc hm x1
  rcases h with ⟨⟨p, hp, rfl⟩, e3, e4⟩ | ⟨e3, e4⟩
  case inr => rw [e3, e4]; exact ⟨-2, HC.rf hc, τ', rfl, hm', ek⟩
  rw [e3, e4, Option.bind_some, Option.bind_some, if_neg n10]
  dsimp only
  rw [if_neg n10]
  rcases bo_ck (m := 255) (by omega) x2 σ τ' with ⟨⟨w, hw, rfl⟩, e5, e6⟩ | ⟨e5, e6⟩
  case inr => rw [show fn_X6_isBelow x2 256 σ = _ from e5, show fn_X7_in x2 0 255 τ' = _ from e6]; exact ⟨-2, HC.rf hc, τ', rfl, hm', ek⟩
  rw [show fn_X6_isBelow (nI w) 256 σ = _ from e5, show fn_X7_in (nI w) 0 255 τ' = _ from e6, Option.bind_some, Option.bind_some, if_neg n10, if_neg n10]
  rcases bo_ck (m := 99) (by omega) x3 σ τ' with ⟨⟨ag, hag, rfl⟩, e7, e8⟩ | ⟨e7, e8⟩
  case inr => rw [show fn_X6_isBelow x3 100 σ = _ from e7, show fn_X7_in x3 0 99 τ' = _ from e8]; exact ⟨-2, HC.rf hc, τ', rfl, hm', ek⟩
  rw [show fn_X6_isBelow (nI ag) 100 σ = _ from e7, show fn_X7_in (nI ag) 0 99 τ' = _ from e8, Option.bind_some, Option.bind_some, if_neg n10, if_neg n10]
  have hbo := bo_lt hg hp
  have hx : IsB (nI w) 8 (fun i => w.testBit i) := IsB.ofN (by omega) (by omega)
  have e5' : σ 5 p = nI (bo (scn G) p) := (hc.1.2.2.2.1.2 p hp).1
  obtain ⟨hh, H, W, σ1, r1, ⟨c1, c2, c3, c4, c5, -⟩, r2⟩ := sp_helpful (n := n) (Y := bo (scn G) p + ag) (per := p) (by omega) (by omega) hc (by omega) hx
  obtain ⟨hN, n1, rfl, n3⟩ := c2.toN (by omega)
  obtain ⟨σ2, s1, s2, s3⟩ := sp_take c1
  have hN12 : hN < 2 ^ 12 := Nat.lt_of_lt_of_le n1 (Nat.pow_le_pow_right (by omega) h12)
  have hpcN := pc_le hN
  obtain ⟨a, σ3, t1, t2, t3, t4⟩ := sp_teach80 (n := n) (hN := hN) (x3 := nI ag) (σ0 := σ2) hn hg hp (show bo (scn G) p + ag < 200 by omega) hx hN12 n 0 σ2 (by omega) (by omega) ⟨_, s2⟩ (fun _ _ => rfl) (fun _ _ _ => by omega)
  have tb := t4.all hg (by omega) hp c4 r2 n3 n1
  obtain ⟨τ1, q1, q2, q3, q4⟩ := hm'.1.reads (show 20 ≤ n by omega)
  obtain ⟨a', τ2, u1, u2, u3, u4⟩ := sm_teachL (n := n) (per := p) (ag := ag) (by omega) hg hp (by omega) hx n 0 (-1) 8191 τ1 (by omega) (Nat.zero_le _) q3 q4 (hm'.2.f5 q2) (Best.zero _)
  refine ⟨a, ⟨σ3, ?_, t2, fun k hk => by rw [t3 k hk, s3 k (by omega), c5 k (by omega)]⟩, ⟨τ2, ?_, u2, fun k hk => by rw [u3 k hk, q2.2 k (by omega) (by omega) (by omega) (by omega), ek k hk]⟩⟩
  · rw [if_pos (ma_ib (by omega) (by omega)), ma_cl (by omega), e5', nI_add, r1, Option.bind_some]
    dsimp only
    rw [sp_pc hN12, Option.bind_some, s1, Option.bind_some]
    exact t1
  · unfold fn_X7_teachOf
    rw [q1, Option.bind_some, show fn_X7_teachOf_b10 n (nI p) (nI w) (nI ag) n (-1) 0 τ1 = _ from u1, tb.uniq u4]
    rfl
