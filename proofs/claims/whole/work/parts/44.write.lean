/-! write -/
theorem gSet_ss (G : Gs) (s i : Nat) (v : Int32) : ss (gSet G s i v) s = ss G s := by
  show (if s = s then ss G s else ss G s) = ss G s
  rw [if_pos rfl]
theorem bo_writeL {n s m : Nat} {x : Int32} (hs : s < 4) : ∀ (i i' v : Nat) (G : Gs) (σ τ : Sg), 13 < i + v → 13 < i' + v → v ≤ m → m = min (ss G s) (ls G) → RC G σ → RM G τ → MO (sim (scn G) 200).2.1 τ → ∃ G', HC σ (fn_X6_write_b49 n x i (45 + 2 * s) (nI m) (nI v) σ) (nI m) G' ∧ HM τ (fn_X7_write_b34 n (nI s) i' (nI v) τ) (nI m) G'
  | 0, _, v => fun G σ τ h _ h9 hm0 hc _ _ => by have := hc.1.1.2.2.2.1; omega
  | _ + 1, 0, v => fun G σ τ _ h h9 hm0 hc _ _ => by have := hc.1.1.2.2.2.1; omega
  | i + 1, i' + 1, v => fun G σ τ h1 h2 h9 hm0 hc hm ho => by
    have hl : ls G ≤ 12 := hc.1.1.2.2.2.1
    obtain ⟨d0, d1, d2, d3⟩ := hm.1.2.2.2.2.2.1 s hs
    have l2 : τ 53 7 = nI (ls G) := hm.1.2.2.2.1.1
    have g2 := (hc.1.1.2.2.2.2.2.2.2.1 s hs).2
    unfold fn_X6_write_b49 fn_X7_write_b34
    rw [if_pos (ma_ib hs (by omega)), ma_cl (show s < 2 ^ 31 by omega), d2, l2]
    by_cases z : v = m
    · subst z
      rw [if_pos (nI_le (Nat.le_refl v) (by omega))]
      refine ⟨G, HC.rf hc, ?_⟩
      by_cases c : ss G s ≤ v
      · rw [if_pos (nI_le c (by omega))]; exact HM.rf hm
      · rw [if_neg (nI_ge (by omega) (by omega)), if_pos (nI_le (show ls G ≤ v by omega) (by omega))]; exact HM.rf hm
    · rw [if_neg (nI_ge (show v < m by omega) (by omega)), if_neg (nI_ge (show v < ss G s by omega) (by omega)), if_neg (nI_ge (show v < ls G by omega) (by omega)), if_pos (ma_ib (show v < 13 by omega) (by omega)), ma_cl (show v < 2 ^ 31 by omega), sp_opening hc (by omega), Option.bind_some, ho v (by omega), sp_setItem hc hs (by omega), sm_keep hm hs (by omega), Option.bind_some, Option.bind_some, nI_1]
      obtain ⟨G', ⟨σ', r1, r2, r3⟩, ⟨τ', s1, s2, s3⟩⟩ := bo_writeL (n := n) (m := m) (x := x) hs i i' (v + 1) (gSet G s v (nar (sf G s) (oI ((sim (scn G) 200).2.1 v)))) (ag_up σ (45 + 2 * s + 1) v (nar (sf G s) (oI ((sim (scn G) 200).2.1 v)))) (ag_up τ 75 (48 * s + v) (nar (sf G s) (oI ((sim (scn G) 200).2.1 v)))) (by omega) (by omega) (by omega) (by rw [gSet_ss]; exact hm0) (hc.set hs) (hm.set hs (by omega)) (fun k hk => by rw [ag_up_ne (show 65 ≠ 75 by decide)]; exact ho k hk)
      exact ⟨G', ⟨σ', r1, r2, fun k hk => by rw [r3 k hk, ag_up_ne (by omega)]⟩, ⟨τ', s1, s2, fun k hk => by rw [s3 k hk, ag_up_ne (by omega)]⟩⟩
theorem bo_write {n : Nat} {G : Gs} {σ τ : Sg} {x : Int32} (hn : 600 ≤ n) (hc : RC G σ) (hm : RM G τ) : ∃ a G', HC σ (fn_X6_write n x σ) a G' ∧ HM τ (fn_X7_write n x τ) a G' := by
  unfold fn_X6_write fn_X7_write
  rcases ck_sheet x σ τ with ⟨⟨s, hs, rfl⟩, e1, e2⟩ | ⟨e1, e2⟩
  case inr => rw [e1, e2]; exact ⟨-2, G, HC.rf hc, HM.rf hm⟩
  have I : ag_ib (nI s) 4 = true := ma_ib hs (by omega)
  obtain ⟨c0, c1, c2, c3⟩ := hc.1.2.2.2.2.2.2.2.1 s hs
  obtain ⟨d0, d1, d2, d3⟩ := hm.1.2.2.2.2.2.1 s hs
  have g2 := (hc.1.1.2.2.2.2.2.2.2.1 s hs).2
  have hl : ls G ≤ 12 := hc.1.1.2.2.2.1
  have l1 : σ 10 0 = nI (ls G) := hc.1.2.2.2.2.1.1
  rw [e1, e2, Option.bind_some, Option.bind_some, if_neg n10, if_neg n10, ma_cl (by omega), if_pos I, if_pos I, c0, c2, d0, l1, ma_min (by omega) (by omega)]
  cases sh G s with
  | false =>
    rw [if_neg (show ¬ bI (!false) = 0 from n10), if_pos (show bI false = 0 from rfl)]
    exact ⟨_, _, HC.find (v := 1) hc (by omega), HM.meet (v := 1) hm (by omega)⟩
  | true =>
    rw [if_pos (show bI (!true) = 0 from rfl), if_neg (show ¬ bI true = 0 from n10)]
    obtain ⟨τ2, s1, s2, -, s3, s4⟩ := hm.all hn
    obtain ⟨G', hC, ⟨τ', t1, t2, t3⟩⟩ := bo_writeL (n := n) (m := min (ss G s) (ls G)) (x := nI s) hs n n 0 G σ τ2 (by omega) (by omega) (by omega) rfl hc s2 s3.2.1
    rw [s1, Option.bind_some]
    exact ⟨_, G', hC, ⟨τ', t1, t2, fun k hk => by rw [t3 k hk, s4 k hk]⟩⟩
