/-! count: own words, and both sides -/
def sF (f : Nat → Nat) : Nat → Nat
  | 0 => 0
  | k + 1 => sF f k + f k
theorem sF_congr {f g : Nat → Nat} : ∀ {k : Nat}, (∀ i, i < k → f i = g i) → sF f k = sF g k
  | 0, _ => rfl
  | k + 1, h => by
    show sF f k + f k = sF g k + g k
    rw [sF_congr (fun i hi => h i (by omega)), h k (by omega)]
theorem sp_ownL {n : Nat} {S : Sc} {σ : Sg} (h : VF 4 S σ) : ∀ (i v : Nat), cn S < i + v → v ≤ cn S → fn_X1_ownWords_b4 n 4 σ i (nI (sF (fun p => bc (ow S p) 8) v)) (nI v) = some (nI (sF (fun p => bc (ow S p) 8) (cn S)))
  | 0, v, a, b => by omega
  | i + 1, v, a, b => by
    have h10 := h.2.1
    unfold fn_X1_ownWords_b4
    rw [h.1]
    by_cases z : v = cn S
    · rw [if_pos (nI_le (show cn S ≤ v by omega) (by omega)), z]
    · have ih := sp_ownL (n := n) h i (v + 1) (by omega) (by omega)
      have hk := (h.2.2 v (by omega)).2.2.2.2.2.2.2
      rw [if_neg (nI_ge (by omega) (by omega)), if_pos (ma_ib (by omega) (by omega)), ma_cl (by omega), sp_bitCount (by omega) hk, Option.bind_some, nI_1 v, ← ih, nI_add]
      rfl
/-- the reference's sum over letters -/
theorem sm_sum11 {n x : Nat} {G : Gs} {τ : Sg} (hx : x < 5) (hm : RM G τ) (hr : Rm (scn G) (sim (scn G) 200) τ) : ∀ (i v : Nat), ls G < i + v → v ≤ ls G → fn_X7_sumOf_b11 n (nI x) i (nI (bc (fun k => if x = 3 then (sim (scn G) 200).1 k else ((sim (scn G) 200).2.1 k).isSome) v)) (nI v) τ = fn_X7_sumOf_b62 n (nI x) (nI (bc (fun k => if x = 3 then (sim (scn G) 200).1 k else ((sim (scn G) 200).2.1 k).isSome) (ls G))) τ
  | 0, v, a, b => by omega
  | i + 1, v, a, b => by
    have hl : ls G ≤ 12 := hm.1.1.2.2.2.1
    unfold fn_X7_sumOf_b11
    rw [hm.1.2.2.2.1.1]
    by_cases z : v = ls G
    · rw [if_pos (nI_le (show ls G ≤ v by omega) (by omega)), z]
    · have ih := sm_sum11 (n := n) hx hm hr i (v + 1) (by omega) (by omega)
      rw [if_neg (nI_ge (by omega) (by omega)), if_neg (show ¬ (5 : Int32) ≤ nI x from nI_ge (b := 5) (by omega) (by omega)), if_pos (ma_ib (by omega) (by omega)), if_pos (ma_ib (by omega) (by omega)), ma_cl (by omega)]
      have e : bc (fun k => if x = 3 then (sim (scn G) 200).1 k else ((sim (scn G) 200).2.1 k).isSome) (v + 1) = bc (fun k => if x = 3 then (sim (scn G) 200).1 k else ((sim (scn G) 200).2.1 k).isSome) v + if (if x = 3 then (sim (scn G) 200).1 v else ((sim (scn G) 200).2.1 v).isSome) = true then 1 else 0 := rfl
      rw [e] at ih
      rw [← ih]
      unfold fn_X7_sumOf_b45 fn_X7_sumOf_b54
      by_cases c3 : x = 3
      · rw [if_pos (show nI x = (3 : Int32) from eqL c3), if_pos c3, hr.1 v (by omega), nI_1 v]
        cases c : (sim (scn G) 200).1 v with
        | false => rw [if_neg (show ¬ false = true by decide), if_pos rfl, if_neg (show ¬ false = true by decide), show ∀ q : Nat, nI q + 0 = nI (q + 0) from fun q => nI_add q 0]
        | true => rw [if_pos rfl, if_neg (ma_m1 (tls_lt hm.1.1 (by omega))), if_pos rfl, nI_1]
      · rw [if_neg (show ¬ nI x = (3 : Int32) from neL (k := 3) (by omega) (by omega) c3), if_neg c3, hr.2.1 v (by omega), nI_1 v]
        cases c : (sim (scn G) 200).2.1 v with
        | none => rw [if_pos (show oI none = -1 from rfl), if_neg (show ¬ (none : Option Nat).isSome = true by decide), show ∀ q : Nat, nI q + 0 = nI (q + 0) from fun q => nI_add q 0]
        | some t =>
          have := sim_O_lt _ c
          rw [if_neg (show ¬ oI (some t) = -1 from ma_m1 (by omega)), if_pos (show (some t).isSome = true from rfl), nI_1]
/-- the reference's sum over people -/
theorem sm_sum64 {n x : Nat} {G : Gs} {τ : Sg} (hn : 20 ≤ n) (hx : 6 ≤ x) (hx2 : x < 8) (hm : RM G τ) (hf : MFolk G τ) : ∀ (i v : Nat), cnt G < i + v → v ≤ cnt G → fn_X7_sumOf_b64 n (nI x) i (nI (sF (fun p => if x = 6 then (if el (scn G) p = true then 1 else 0) else bc (ow (scn G) p) 8) v)) (nI v) τ = some (nI (sF (fun p => if x = 6 then (if el (scn G) p = true then 1 else 0) else bc (ow (scn G) p) 8) (cnt G)), τ)
  | 0, v, a, b => by omega
  | i + 1, v, a, b => by
    have hl : cnt G ≤ 10 := (cnt_ok hm.1.1.1).1
    unfold fn_X7_sumOf_b64 fn_X7_sumOf_b119
    rw [hf.1]
    by_cases z : v = cnt G
    · rw [if_pos (nI_le (show cnt G ≤ v by omega) (by omega)), z, if_neg (show ¬ nI x = (0 : Int32) from neL (k := 0) (by omega) (by omega) (by omega))]
    · have ih := sm_sum64 (n := n) hn hx hx2 hm hf i (v + 1) (by omega) (by omega)
      have vm := (hm.VM hf).1.2.2 v (show v < cnt G by omega)
      rw [if_neg (nI_ge (by omega) (by omega)), if_neg (show ¬ nI x ≤ (5 : Int32) from nI_ge (a := 5) (by omega) (by omega)), if_pos (ma_ib (by omega) (by omega)), if_pos (ma_ib (by omega) (by omega)), ma_cl (by omega)]
      have e : sF (fun p => if x = 6 then (if el (scn G) p = true then 1 else 0) else bc (ow (scn G) p) 8) (v + 1) = sF (fun p => if x = 6 then (if el (scn G) p = true then 1 else 0) else bc (ow (scn G) p) 8) v + (if x = 6 then (if el (scn G) v = true then 1 else 0) else bc (ow (scn G) v) 8) := rfl
      rw [e] at ih
      rw [← ih]
      unfold fn_X7_sumOf_b111
      by_cases c6 : x = 6
      · rw [if_pos (show nI x = (6 : Int32) from eqL c6), if_pos c6, nI_1 v]
        by_cases c : el (scn G) v = true
        · rw [if_pos (vm.2.2.2.1.mpr c), if_pos c, nI_1]
        · rw [if_neg (fun q => c (vm.2.2.2.1.mp q)), if_neg c, show ∀ q : Nat, nI q + 0 = nI (q + 0) from fun q => nI_add q 0]
      · have ho : IsB (τ 58 v) 8 (ow (scn G) v) := by
          rw [hm.1.2.2.1 v (by omega)]
          exact IsB.ofN (hm.1.1.2.2.1 v (by omega)) (by omega)
        rw [if_neg (show ¬ nI x = (6 : Int32) from neL (k := 6) (by omega) (by omega) c6), if_neg c6, nI_1 v, sm_ones hn (by omega) ho, Option.bind_some, nI_add]
theorem bc_sF (f : Nat → Bool) : ∀ k, bc f k = sF (fun i => if f i = true then 1 else 0) k
  | 0 => rfl
  | k + 1 => by
    show bc f k + _ = sF _ k + _
    rw [bc_sF f k]
theorem bo_count {n : Nat} {G : Gs} {σ τ : Sg} {x : Int32} (hn : 600 ≤ n) (hc : RC G σ) (hm : RM G τ) : ∃ a, fn_X6_count n x σ = some a ∧ HM τ (fn_X7_count n x τ) a G := by
  have hl : ls G ≤ 12 := hc.1.1.2.2.2.1
  have hk : cnt G ≤ 10 := (cnt_ok hc.1.1.1).1
  obtain ⟨τ', r1, r2, rf, r3, r4⟩ := hm.all hn
  unfold fn_X6_count fn_X7_count fn_X7_count_b52 fn_X7_sumOf
  rw [r1, Option.bind_some]
  have q0 : ∀ (y : Nat) (a : Int32), fn_X7_sumOf_b11 n (nI y) n 0 0 τ' = some (a, τ') → HM τ (Option.bind (fn_X7_sumOf_b11 n (nI y) n 0 0 τ') fun q430 => some (q430.1, q430.2)) a G := fun y a h => by
    rw [h]
    exact ⟨τ', rfl, r2, r4⟩
  have g1 : ∀ x, x < 5 → fn_X7_sumOf_b11 n (nI x) n 0 0 τ' = fn_X7_sumOf_b62 n (nI x) (nI (bc (fun k => if x = 3 then (sim (scn G) 200).1 k else ((sim (scn G) 200).2.1 k).isSome) (ls G))) τ' := fun x hx => sm_sum11 hx r2 r3 n 0 (by omega) (by omega)
  have g2 : ∀ x, 1 ≤ x → x < 5 → ∀ v, fn_X7_sumOf_b62 n (nI x) v τ' = some (v, τ') := fun x h1 h2 v => by
    obtain ⟨m, rfl⟩ : ∃ m, n = m + 1 := ⟨n - 1, by omega⟩
    unfold fn_X7_sumOf_b62 fn_X7_sumOf_b64 fn_X7_sumOf_b119
    rw [if_pos (show nI x ≤ (5 : Int32) from nI_le (b := 5) (by omega) (by omega)), if_neg (show ¬ nI x = (0 : Int32) from neL (k := 0) (by omega) (by omega) (by omega)), ite_self]
  have g3 : ∀ x, 6 ≤ x → x < 8 → fn_X7_sumOf_b11 n (nI x) n 0 0 τ' = some (nI (sF (fun p => if x = 6 then (if el (scn G) p = true then 1 else 0) else bc (ow (scn G) p) 8) (cnt G)), τ') := fun x h1 h2 => by
    rw [← sm_sum64 (n := n) (by omega) h1 h2 r2 rf n 0 (by omega) (by omega)]
    obtain ⟨m, e⟩ : ∃ m, n = m + 1 := ⟨n - 1, by omega⟩
    rw [show fn_X7_sumOf_b11 n (nI x) n 0 0 τ' = fn_X7_sumOf_b11 n (nI x) (m + 1) 0 0 τ' by rw [← e]]
    unfold fn_X7_sumOf_b11 fn_X7_sumOf_b62
    rw [if_pos (show (5 : Int32) ≤ nI x from nI_le (a := 5) (by omega) (by omega)), ite_self]
    rfl
  by_cases c0 : x = 0
  · rw [if_pos c0, if_pos c0, c0, hc.1.2.2.2.1.1]
    refine ⟨_, rfl, q0 0 _ ?_⟩
    rw [g1 0 (by omega)]
    obtain ⟨m, rfl⟩ : ∃ m, n = m + 1 := ⟨n - 1, by omega⟩
    unfold fn_X7_sumOf_b62 fn_X7_sumOf_b64 fn_X7_sumOf_b119
    rw [if_pos (show nI 0 ≤ (5 : Int32) by decide), if_pos (show nI 0 = (0 : Int32) from rfl), ite_self, rf.1]
  rw [if_neg c0, if_neg c0]
  by_cases c1 : x = 1
  · rw [if_pos c1, if_pos c1, hc.1.2.1.1, hm.1.2.1.1]
    exact ⟨_, rfl, HM.rf hm⟩
  rw [if_neg c1, if_neg c1]
  by_cases c2 : x = 2
  · rw [if_pos c2, if_pos c2, hc.1.2.2.2.2.1.1, hm.1.2.2.2.1.1]
    exact ⟨_, rfl, HM.rf hm⟩
  rw [if_neg c2, if_neg c2]
  by_cases c3 : x = 3
  · rw [if_pos c3, if_pos c3, c3, sp_bitCount (n := ls G) (by omega) hc.2.1.1]
    refine ⟨_, rfl, q0 3 _ ?_⟩
    rw [g1 3 (by omega), g2 3 (by omega) (by omega)]
    rfl
  rw [if_neg c3, if_neg c3]
  by_cases c4 : x = 4
  · rw [if_pos c4, if_pos c4, c4, sp_bitCount (n := ls G) (by omega) hc.2.2.1.1]
    refine ⟨_, rfl, q0 4 _ ?_⟩
    rw [g1 4 (by omega), g2 4 (by omega) (by omega)]
    rfl
  rw [if_neg c4, if_neg c4]
  by_cases c5 : x = 5
  · rw [if_pos c5, if_pos c5, hc.1.2.2.2.2.2.2.1.1, hm.1.2.2.2.2.1.1]
    exact ⟨_, rfl, HM.rf hm⟩
  rw [if_neg c5, if_neg c5]
  by_cases c6 : x = 6
  · rw [if_pos c6, if_pos c6, c6]
    unfold fn_X1_elders
    rw [show fn_X1_elders_b4 n 4 σ n 0 0 = _ from sp_eldersL (n := n) hc.1.VF n 0 (by rw [scn_cn]; omega) (by omega)]
    refine ⟨_, rfl, q0 6 _ ?_⟩
    rw [g3 6 (by omega) (by omega), bc_sF]
    rfl
  rw [if_neg c6, if_neg c6]
  by_cases c7 : x = 7
  · rw [if_pos c7, if_pos c7, c7]
    unfold fn_X1_ownWords
    rw [show fn_X1_ownWords_b4 n 4 σ n 0 0 = _ from sp_ownL (n := n) hc.1.VF n 0 (by rw [scn_cn]; omega) (by omega)]
    refine ⟨_, rfl, q0 7 _ ?_⟩
    rw [g3 7 (by omega) (by omega)]
    rfl
  rw [if_neg c7, if_neg c7]
  by_cases c8 : x = 8
  · rw [if_pos c8, if_pos c8, hc.1.2.2.2.2.2.2.2.2, hm.1.2.2.2.2.2.2]
    exact ⟨_, rfl, HM.rf hm⟩
  rw [if_neg c8, if_neg c8]
  exact ⟨_, rfl, HM.rf hm⟩
