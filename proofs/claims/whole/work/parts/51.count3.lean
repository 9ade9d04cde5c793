/-! count: elders -/
theorem sp_eldersL {n : Nat} {S : Sc} {σ : Sg} (h : VF 4 S σ) : ∀ (i v : Nat), cn S < i + v → v ≤ cn S → fn_X1_elders_b4 n 4 σ i (nI (bc (el S) v)) (nI v) = some (nI (bc (el S) (cn S)))
  | 0, v, a, b => by omega
  | i + 1, v, a, b => by
    have h10 := h.2.1
    unfold fn_X1_elders_b4 fn_X1_elders_b28
    rw [h.1]
    by_cases z : v = cn S
    · rw [if_pos (nI_le (show cn S ≤ v by omega) (by omega)), z]
    · have ih := sp_eldersL (n := n) h i (v + 1) (by omega) (by omega)
      have hk := (h.2.2 v (by omega)).2.2.2.2.1
      have e : bc (el S) (v + 1) = bc (el S) v + if el S v = true then 1 else 0 := rfl
      rw [if_neg (nI_ge (by omega) (by omega)), if_pos (ma_ib (by omega) (by omega)), ma_cl (by omega), nI_1 v, ← ih, e]
      by_cases c : el S v = true
      · rw [if_pos (hk.mpr c), if_pos c, nI_1]
      · rw [if_neg (fun q => c (hk.mp q)), if_neg c, show nI (bc (el S) v) + 0 = nI (bc (el S) v + 0) from nI_add _ 0]
