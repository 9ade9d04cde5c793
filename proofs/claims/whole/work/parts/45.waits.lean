/-! waits, sealed -/
theorem ib_step {x : Int32} {m v : Nat} {f : Nat → Bool} (hm : m ≤ 13) (hv : v < m) (h : IsB x m (fun k => decide (k < v) && f k)) : (f v = false → IsB x m (fun k => decide (k < v + 1) && f k)) ∧ (f v = true → IsB (x ||| (1 <<< (nI v &&& 31))) m (fun k => decide (k < v + 1) && f k)) := by
  constructor
  · intro c
    refine h.congr (fun w hw => ?_)
    by_cases e : w = v
    · subst e
      rw [c, Bool.and_false, Bool.and_false]
    · rw [decide_eq_decide.mpr (show w < v ↔ w < v + 1 by omega)]
  · intro c
    refine (h.set (k := v) hv (by omega)).congr (fun w hw => ?_)
    by_cases e : w = v
    · subst e
      rw [c, decide_eq_true rfl, decide_eq_true (show w < w + 1 by omega), Bool.or_true]; rfl
    · rw [decide_eq_false e, Bool.or_false, decide_eq_decide.mpr (show w < v ↔ w < v + 1 by omega)]
theorem sim_O_sm (S : Sc) {y k : Nat} (hy : y < 200) : ((sim S (y + 1)).2.1 k).isSome = true ↔ ∃ t, (sim S 200).2.1 k = some t ∧ t ≤ y := by
  constructor
  · intro h
    obtain ⟨t, ht⟩ := Option.isSome_iff_exists.mp h
    exact ⟨t, (sim_O_iff S hy).mp ht⟩
  · rintro ⟨t, h1, h2⟩
    rw [(sim_O_iff S hy).mpr ⟨h1, h2⟩]; rfl
theorem sp_openedB {n b y : Nat} {S : Sc} {σ : Sg} (hv : VP (b + 7) S σ) (hr : Rs b S (sim S 200) σ) (hy : y < 200) : ∀ (i v : Nat) (x : Int32), sz S < i + v → v ≤ sz S → IsB x (sz S) (fun k => decide (k < v) && ((sim S (y + 1)).2.1 k).isSome) → ∃ x', fn_X5_openedBehind_b4 n b (nI y) σ i x (nI v) = some x' ∧ IsB x' (sz S) (fun k => ((sim S (y + 1)).2.1 k).isSome)
  | 0, v, x, h, hv8, _ => by omega
  | i + 1, v, x, h, hv8, hx => by
    have h13 : sz S ≤ 13 := hv.2.1
    obtain ⟨o1, o2⟩ := hr.2.1
    unfold fn_X5_openedBehind_b4
    rw [hv.1]
    by_cases z : v = sz S
    · rw [if_pos (nI_le (show sz S ≤ v by omega) (by omega))]
      exact ⟨x, rfl, hx.congr (fun w hw => by rw [decide_eq_true (show w < v by omega)]; rfl)⟩
    · have hv' : v < sz S := by omega
      have e : bt (σ b 4) v = ((sim S 200).2.1 v).isSome := o1.at hv' (by omega)
      obtain ⟨st1, st2⟩ := ib_step (f := fun k => ((sim S (y + 1)).2.1 k).isSome) h13 hv' hx
      rw [if_neg (nI_ge hv' (by omega))]
      unfold fn_X5_openedBehind_b43
      rw [nI_1]
      cases c : (sim S 200).2.1 v with
      | none =>
        rw [c] at e
        rw [if_neg (fun q => by have := (ma_b1 _ (show v < 32 by omega)).mp q; rw [e] at this; cases this)]
        refine sp_openedB hv hr hy i (v + 1) x (by omega) (by omega) (st1 ?_)
        rw [Bool.eq_false_iff]
        intro q
        obtain ⟨t, ht, -⟩ := (sim_O_sm S hy).mp q
        rw [c] at ht; cases ht
      | some t =>
        have tl : t < 200 := sim_O_lt S c
        rw [c] at e
        rw [if_pos ((ma_b1 _ (show v < 32 by omega)).mpr e), if_pos (ma_ib (by omega) (by omega)), ma_cl (by omega), o2 v hv' t c]
        by_cases d : y < t
        · rw [if_pos (nI_lt d (by omega))]
          refine sp_openedB hv hr hy i (v + 1) x (by omega) (by omega) (st1 ?_)
          rw [Bool.eq_false_iff]
          intro q
          obtain ⟨t', ht, h2⟩ := (sim_O_sm S hy).mp q
          rw [c] at ht
          injection ht with e
          omega
        · rw [if_neg (nI_nlt (by omega) (by omega))]
          exact sp_openedB hv hr hy i (v + 1) _ (by omega) (by omega) (st2 ((sim_O_sm S hy).mpr ⟨t, c, by omega⟩))
