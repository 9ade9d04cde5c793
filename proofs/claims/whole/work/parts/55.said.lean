/-! what was done comes out; said -/
def dnB (G : Gs) (S : Sc) (i : Nat) : Bool := ((sim S (dy G i + 1)).2.2 (dp G i) (dw G i)).isSome == decide (di G i = 1)
def dnA (G : Gs) (S : Sc) : Nat → Bool
  | 0 => true
  | m + 1 => dnA G S m && dnB G S m
theorem dnA_false {G : Gs} {S : Sc} {v : Nat} (h : dnB G S v = false) : ∀ m, v < m → dnA G S m = false
  | 0, q => by omega
  | m + 1, q => by
    show (dnA G S m && dnB G S m) = false
    by_cases z : v = m
    · rw [← z, h, Bool.and_false]
    · rw [dnA_false h m (by omega), Bool.false_and]
theorem sp_knewA {b p w y : Nat} {S : Sc} {σ : Sg} (hv : VF (b + 1) S σ) (hr : Rs b S (sim S 200) σ) (hp : p < 10) (hw : w < 8) (hy : y < 200) : fn_X5_knew b (nI p) (nI w) (nI y) σ = some (bI ((sim S (y + 1)).2.2 p w).isSome) := by
  by_cases c : p < cn S
  · exact sp_knew hv hr c hw hy
  · unfold fn_X5_knew
    rw [sp_isThere hv (by omega), decide_eq_false c, Option.bind_some, if_pos (show bI false = 0 from rfl), sim_cn S _ p w (by omega)]
    rfl
theorem bI_inj {a b : Bool} : bI a = bI b ↔ a = b := by
  cases a <;> cases b <;> decide
theorem sp_came {n : Nat} {G : Gs} {S : Sc} {σ : Sg} (hc : RC G σ) (hv : VF 22 S σ) (hr : Rs 21 S (sim S 200) σ) : ∀ (i v : Nat), ds G < i + v → v ≤ ds G → dnA G S v = true → fn_X0_cameOutIn_b2 n 21 σ i (nI v) = some (bI (dnA G S (ds G)))
  | 0, v, a, b, h => by omega
  | i + 1, v, a, b, h => by
    have g := hc.1.1
    have h8 : ds G ≤ 8 := g.2.2.2.2.2.1
    have hd := hc.1.2.2.2.2.2.2.1
    unfold fn_X0_cameOutIn_b2 fn_X0_cameOutIn_b47
    rw [hd.1]
    by_cases z : v = ds G
    · rw [if_pos (nI_le (show ds G ≤ v by omega) (by omega)), ← z, h]
      rfl
    · obtain ⟨d1, d2, d3, d4⟩ := hd.2 v (by omega)
      obtain ⟨g1, g2, g3, g4⟩ := g.2.2.2.2.2.2.1 v (by omega)
      have I : ag_ib (nI v) 8 = true := ma_ib (by omega) (by omega)
      rw [if_neg (nI_ge (by omega) (by omega)), if_pos I, if_pos I, if_pos I, ma_cl (by omega), d1, d2, d3, d4, sp_knewA (b := 21) hv hr g2 g3 g1, Option.bind_some, if_pos I, nI_1 v]
      have key : dnB G S v = true → (if bI ((sim S (dy G v + 1)).2.2 (dp G v) (dw G v)).isSome = bI (decide (di G v = 1)) then fn_X0_cameOutIn_b2 n 21 σ i (nI (v + 1)) else some 0) = some (bI (dnA G S (ds G))) := fun q => by
        rw [if_pos (bI_inj.mpr (eq_of_beq q))]
        exact sp_came hc hv hr i (v + 1) (by omega) (by omega) (by show (dnA G S v && dnB G S v) = true; rw [h, q]; rfl)
      have key2 : dnB G S v = false → (if bI ((sim S (dy G v + 1)).2.2 (dp G v) (dw G v)).isSome = bI (decide (di G v = 1)) then fn_X0_cameOutIn_b2 n 21 σ i (nI (v + 1)) else some 0) = some (bI (dnA G S (ds G))) := fun q => by
        rw [if_neg (fun e => by
          unfold dnB at q
          rw [bI_inj.mp e, beq_self_eq_true] at q
          cases q), dnA_false q (ds G) (by omega)]
        rfl
      have all : (if bI ((sim S (dy G v + 1)).2.2 (dp G v) (dw G v)).isSome = bI (decide (di G v = 1)) then fn_X0_cameOutIn_b2 n 21 σ i (nI (v + 1)) else some 0) = some (bI (dnA G S (ds G))) := by
        cases q : dnB G S v with
        | true => exact key q
        | false => exact key2 q
      by_cases z1 : di G v = 1
      · rw [if_pos (show nI (di G v) = (1 : Int32) from eqL z1)]
        rw [decide_eq_true z1] at all
        exact all
      · rw [if_neg (show ¬ nI (di G v) = (1 : Int32) from neL (k := 1) (by omega) (by omega) z1)]
        rw [decide_eq_false z1] at all
        exact all
theorem sp_cameOut {n : Nat} {G : Gs} {S : Sc} {σ : Sg} (hn : 20 ≤ n) (hc : RC G σ) (hv : VF 22 S σ) (hr : Rs 21 S (sim S 200) σ) : fn_X0_cameOutIn n 21 σ = some (bI (dnA G S (ds G))) := by
  have h8 : ds G ≤ 8 := hc.1.1.2.2.2.2.2.1
  exact sp_came hc hv hr n 0 (by omega) (by omega) rfl
/-- the reference -/
theorem sm_doneL {n : Nat} {G : Gs} {S : Sc} (hn : 600 ≤ n) (hz : sz S = ls G) : ∀ (i v : Nat) (τ : Sg), ds G + 1 < i + v → v ≤ ds G → RM0 G τ → VM S τ → dnA G S v = true → ∃ τ', fn_X7_isDone_b4 n i 1 (nI v) τ = some (bI (dnA G S (ds G)), τ') ∧ F3 τ τ'
  | 0, v, τ, a, b, h0, hv, h => by omega
  | i + 1, v, τ, a, b, h0, hv, h => by
    have g := h0.1
    have h8 : ds G ≤ 8 := g.2.2.2.2.2.1
    have hd := h0.2.2.2.2.1
    unfold fn_X7_isDone_b4 fn_X7_isDone_b64
    rw [hd.1]
    by_cases z : v = ds G
    · rw [if_pos (nI_le (show ds G ≤ v by omega) (by omega)), if_pos bl1, ← z, h]
      exact ⟨τ, rfl, F3.rf τ⟩
    · obtain ⟨d1, d2, d3, d4⟩ := hd.2 v (by omega)
      obtain ⟨g1, g2, g3, g4⟩ := g.2.2.2.2.2.2.1 v (by omega)
      have I : ag_ib (nI v) 8 = true := ma_ib (by omega) (by omega)
      obtain ⟨τ1, r1, r2, r3⟩ := sm_runs (last := dy G v) hn (by omega) hv
      rw [if_neg (nI_ge (by omega) (by omega)), if_neg n10, if_pos I, ma_cl (by omega), d1, h0.2.2.2.1.1, ← hz, r1, Option.bind_some, r2 69 (by decide) (by decide) (by decide), r2 70 (by decide) (by decide) (by decide), r2 71 (by decide) (by decide) (by decide), d2, d3, d4, if_pos I, if_pos (ma_ib g2 (by omega)), if_pos I, if_pos I, ma_cl (by omega), ma_bit _ (show dw G v < 32 by omega), (r3.2.2 (dp G v) g2).at g3 (by omega), nI_1 v]
      have e : ((if ((sim S (dy G v + 1)).2.2 (dp G v) (dw G v)).isSome = true then (1 : Int32) else 0) = nI (di G v)) ↔ dnB G S v = true := by
        unfold dnB
        have : di G v = 0 ∨ di G v = 1 := by omega
        rcases this with q | q <;> rw [q] <;> cases ((sim S (dy G v + 1)).2.2 (dp G v) (dw G v)).isSome <;> decide
      cases q : dnB G S v with
      | true =>
        rw [if_pos (e.mpr q)]
        obtain ⟨τ2, s1, s2⟩ := sm_doneL hn hz i (v + 1) τ1 (by omega) (by omega) (h0.f3 r2) (f3_VM r2 hv) (by show (dnA G S v && dnB G S v) = true; rw [h, q]; rfl)
        exact ⟨τ2, s1, r2.tr s2⟩
      | false =>
        rw [if_neg (fun c => by rw [e.mp c] at q; cases q), dnA_false q (ds G) (by omega)]
        obtain ⟨j, rfl⟩ : ∃ j, i = j + 1 := ⟨i - 1, by omega⟩
        unfold fn_X7_isDone_b4
        rw [if_pos (show (0 : Int32) = 0 from rfl), if_pos bl0, ite_self]
        exact ⟨τ1, rfl, r2⟩
theorem sm_isDone {n : Nat} {G : Gs} {S : Sc} {τ : Sg} (hn : 600 ≤ n) (hz : sz S = ls G) (h0 : RM0 G τ) (hv : VM S τ) : ∃ τ', fn_X7_isDone n τ = some (bI (dnA G S (ds G)), τ') ∧ F3 τ τ' := by
  have h8 : ds G ≤ 8 := h0.1.2.2.2.2.2.1
  exact sm_doneL hn hz n 0 τ (by omega) (by omega) h0 hv rfl
/-! said -/
def gWd (G : Gs) (l w : Nat) : Gs := (G.1, (ls G, lw G, lr G, ly G, (fun k => if k = l then w else lo_ G k), ln_ G), G.2.2)
theorem gWd_self (G : Gs) (l : Nat) : gWd G l (lo_ G l) = G := by
  have : (fun k => if k = l then lo_ G l else lo_ G k) = lo_ G := by
    funext k
    by_cases z : k = l
    · rw [if_pos z, z]
    · rw [if_neg z]
  unfold gWd
  rw [this]
  rfl
theorem RM0.word {G : Gs} {τ : Sg} {l u w : Nat} (h : RM0 (gWd G l u) τ) (hw : w < 8) : RM0 (gWd G l w) (ag_up τ 62 l (nI w)) := by
  obtain ⟨g, a1, a2, a3, a6, a7, a8⟩ := h
  have F : ∀ k, k ≠ 62 → ag_up τ 62 l (nI w) k = τ k := fun k q => ag_up_ne q
  refine ⟨⟨g.1, g.2.1, g.2.2.1, g.2.2.2.1, fun k hk => ?_, g.2.2.2.2.2⟩, a1.kp (by rw [F 53 (by decide)]) (F 54 (by decide)), a2.kp (F 58 (by decide)), ⟨by rw [F 53 (by decide)]; exact a3.1, fun k hk => ?_⟩, a6.kp (by rw [F 53 (by decide)]) (fun k _ _ => F k (by omega)), a7.kp (fun k _ _ => F k (by omega)), a8.kp (by rw [F 53 (by decide)])⟩
  · obtain ⟨b1, b2, b3, b4, b5, b6⟩ := g.2.2.2.2.1 k hk
    refine ⟨b1, b2, b3, b4, ?_, b6⟩
    show (if k = l then w else lo_ G k) < 8
    have b5 : (if k = l then u else lo_ G k) < 8 := b5
    by_cases z : k = l
    · rw [if_pos z]; exact hw
    · rw [if_neg z] at b5 ⊢; exact b5
  · obtain ⟨b1, b2, b3, b4, b5⟩ := a3.2 k hk
    rw [F 59 (by decide), F 60 (by decide), F 61 (by decide), F 63 (by decide)]
    refine ⟨b1, b2, b3, ?_, b5⟩
    have b4 : τ 62 k = nI (if k = l then u else lo_ G k) := b4
    show _ = nI (if k = l then w else lo_ G k)
    by_cases z : k = l
    · rw [if_pos z, z, ma_up_s]
    · rw [if_neg z] at b4 ⊢
      rw [ma_up_i z]; exact b4
theorem MFolk.k53 {G : Gs} {τ τ' : Sg} (h : MFolk G τ) (e2 : τ' 53 2 = τ 53 2) (e : ∀ k, k = 55 ∨ k = 56 ∨ k = 57 → τ' k = τ k) : MFolk G τ' := by
  unfold MFolk FM at *
  rw [e2, e 55 (by omega), e 56 (by omega), e 57 (by omega)]
  exact h
def sWd (G : Gs) (l w : Nat) : Sc := scS G (en (scn G)) (mo (scn G)) (ow (scn G)) (fun k => if k = l then w else lo_ G k) (fun _ => true)
def MTs (τ : Sg) : Prop := MT τ 8191 (-2) 0 (-1) 0
theorem eE_0 (E : Nat) : eE E false false = E := rfl
theorem RM0.VM0 {G : Gs} {τ : Sg} (h : RM0 G τ) (hf : MFolk G τ) (ht : MTs τ) : VM (scS G (en (scn G)) (mo (scn G)) (ow (scn G)) (lo_ G) (fun _ => true)) τ := h.VMS hf ht (fun p hp => by
    have : cnt G ≤ 10 := (cnt_ok h.1.1).1
    rw [b_0, decide_eq_false (ma_m1 (by omega)), eE_0]) (fun p hp => by rw [if_pos rfl]) (fun p hp => ow_ok h.1 hp) (fun k hk => by
    have := h.1.2.2.2.1
    exact (b_8191 k (by omega)).symm)
theorem sm_saidL {n l : Nat} {G : Gs} (hn : 600 ≤ n) (hl : l < ls G) (hg : GOk G) : ∀ (i v u : Nat) (x : Int32) (τ : Sg), 8 < i + v → v ≤ 8 → RM0 (gWd G l u) τ → MFolk G τ → MTs τ → IsB x 8 (fun w => decide (w < v) && dnA G (sWd G l w) (ds G)) → ∃ x' τ', fn_X7_saidOf_b16 n (nI l) i (nI (lo_ G l)) x (nI v) τ = some (x', τ') ∧ RM G τ' ∧ (∀ k, k < 53 → τ' k = τ k) ∧ IsB x' 8 (fun w => dnA G (sWd G l w) (ds G))
  | 0, v, u, x, τ, a, b, h, hf, ht, hb => by omega
  | i + 1, v, u, x, τ, a, b, h, hf, ht, hb => by
    have h12 : ls G ≤ 12 := hg.2.2.2.1
    unfold fn_X7_saidOf_b16 fn_X7_saidOf_b47
    have I : ag_ib (nI l) 13 = true := ma_ib (by omega) (by omega)
    by_cases z : v = 8
    · rw [if_pos (show (8 : Int32) ≤ nI v from nI_le (a := 8) (by omega) (by omega)), if_pos I, ma_cl (by omega)]
      have h1 := h.word (w := lo_ G l) (hg.2.2.2.2.1 l hl).2.2.2.2.1
      rw [gWd_self] at h1
      refine ⟨x, _, rfl, ⟨h1, ?_⟩, fun k hk => ag_up_ne (by omega), hb.congr (fun w hw => by rw [z, decide_eq_true hw]; rfl)⟩
      exact MTold.kp ht (fun i _ _ => by rw [ag_up_ne (by decide)])
    · have hv : v < 8 := by omega
      obtain ⟨s0, s1⟩ := ib_step (m := 8) (by omega) hv hb
      rw [if_neg (show ¬ (8 : Int32) ≤ nI v from nI_ge (b := 8) (by omega) (by omega)), if_pos I, ma_cl (by omega)]
      have h1 := h.word (w := v) hv
      have f1 : MFolk (gWd G l v) (ag_up τ 62 l (nI v)) := hf.k53 (by rw [ag_up_ne (by decide)]) (fun k q => ag_up_ne (by omega))
      have t1 : MTs (ag_up τ 62 l (nI v)) := MTold.kp ht (fun i _ _ => by rw [ag_up_ne (by decide)])
      obtain ⟨τ1, r1, r2⟩ := sm_isDone (n := n) (G := gWd G l v) (S := sWd G l v) hn rfl h1 (h1.VM0 f1 t1)
      rw [r1, Option.bind_some, nI_1 v]
      dsimp only
      have e : dnA (gWd G l v) (sWd G l v) (ds (gWd G l v)) = dnA G (sWd G l v) (ds G) := by
        have : ∀ m, dnA (gWd G l v) (sWd G l v) m = dnA G (sWd G l v) m := fun m => by
          induction m with
          | zero => rfl
          | succ m ih =>
            show (dnA (gWd G l v) (sWd G l v) m && dnB (gWd G l v) (sWd G l v) m) = _
            rw [ih]; rfl
        exact this _
      rw [e]
      have ef : ∀ k, k < 53 → τ1 k = τ k := fun k hk => by rw [r2 k (by omega) (by omega) (by omega), ag_up_ne (by omega)]
      have f2 : MFolk G τ1 := MFolk.f3 (G := G) f1 r2
      have t2 : MTs τ1 := MT.f3 t1 r2
      cases c : dnA G (sWd G l v) (ds G) with
      | false =>
        rw [if_pos (show bI false = 0 from rfl), ma_or0]
        obtain ⟨x', τ', q1, q2, q3, q4⟩ := sm_saidL hn hl hg i (v + 1) v x τ1 (by omega) (by omega) (h1.f3 r2) f2 t2 (s0 c)
        exact ⟨x', τ', q1, q2, fun k hk => (q3 k hk).trans (ef k hk), q4⟩
      | true =>
        rw [if_neg (show ¬ bI true = 0 from n10)]
        obtain ⟨x', τ', q1, q2, q3, q4⟩ := sm_saidL hn hl hg i (v + 1) v _ τ1 (by omega) (by omega) (h1.f3 r2) f2 t2 (s1 c)
        exact ⟨x', τ', q1, q2, fun k hk => (q3 k hk).trans (ef k hk), q4⟩
theorem SB.up32 {G : Gs} {e m : Nat → Nat} {o : Nat → Nat → Bool} {w w' : Nat → Nat} {a : Nat → Bool} {σ : Sg} {q : Nat} {v : Int32} (h : SB G e m o w a σ) (h1 : q < ls G → v = nI (w' q)) (h2 : ∀ p, p < ls G → p ≠ q → w' p = w p) : SB G e m o w' a (ag_up σ 32 q v) := by
  refine h.re (fun k k1 k2 k3 k4 k5 k6 k7 => ag_up_ne k6) (fun p hp => by rw [ag_up_ne (by decide)]; exact h.h3 p hp) (fun p hp => by rw [ag_up_ne (by decide)]; exact h.h4 p hp) (fun p hp => by rw [ag_up_ne (by decide)]; exact h.h5 p hp) (fun p hp => ?_) (fun p hp => by rw [ag_up_ne (by decide)]; exact h.h7 p hp)
  by_cases z : p = q
  · rw [z, ma_up_s]; exact h1 (z ▸ hp)
  · rw [ma_up_i z, h2 p hp z]; exact h.h6 p hp
theorem sp_saidL {n l : Nat} {G : Gs} (hn : 300 ≤ n) (hl : l < ls G) (hg : GOk G) : ∀ (i v : Nat) (x : Int32) (σ : Sg), 8 < i + v → v ≤ 8 → (∃ wf : Nat → Nat, (∀ k, k ≠ l → wf k = lo_ G k) ∧ SB G (en (scn G)) (mo (scn G)) (ow (scn G)) wf (fun _ => true) σ) → IsB x 8 (fun w => decide (w < v) && dnA G (sWd G l w) (ds G)) → ∃ x' σ', fn_X6_said_b32 n (nI l) i x (nI v) σ = some (x', σ') ∧ RC G σ' ∧ (∀ k, 53 ≤ k → σ' k = σ k) ∧ IsB x' 8 (fun w => dnA G (sWd G l w) (ds G))
  | 0, v, x, σ, a, b, h, hb => by omega
  | i + 1, v, x, σ, a, b, h, hb => by
    obtain ⟨wf, w1, h⟩ := h
    have h12 : ls G ≤ 12 := hg.2.2.2.1
    unfold fn_X6_said_b32 fn_X6_said_b78
    have I : ag_ib (nI l) 13 = true := ma_ib (by omega) (by omega)
    by_cases z : v = 8
    · rw [if_pos (show (8 : Int32) ≤ nI v from nI_le (a := 8) (by omega) (by omega))]
      exact ⟨x, _, rfl, h.1, fun k hk => rfl, hb.congr (fun w hw => by rw [z, decide_eq_true hw]; rfl)⟩
    · have hv : v < 8 := by omega
      obtain ⟨s0, s1⟩ := ib_step (m := 8) (by omega) hv hb
      rw [if_neg (show ¬ (8 : Int32) ≤ nI v from nI_ge (b := 8) (by omega) (by omega)), if_pos I, ma_cl (by omega)]
      have h1 : SB G (en (scn G)) (mo (scn G)) (ow (scn G)) (fun k => if k = l then v else lo_ G k) (fun _ => true) (ag_up σ 32 l (nI v)) := h.up32 (fun _ => by rw [if_pos rfl]) (fun p _ z => by rw [if_neg z, w1 p z])
      have he : ∀ p, p < cnt G → en (scn G) p ≤ 100 := fun p hp => Nat.le_of_lt (en_le hg hp)
      have hw : ∀ k, k < ls G → (fun k => if k = l then v else lo_ G k) k < 8 := fun k hk => by
        dsimp only
        split
        · exact hv
        · exact (hg.2.2.2.2.1 k hk).2.2.2.2.1
      obtain ⟨σ1, r1, r2, r3, r4⟩ := h1.live hn he (fun p _ => mo_le G p) hw
      rw [r1, Option.bind_some, sp_cameOut (n := n) (by omega) r2.1 (r2.Vw he (fun p _ => mo_le G p) hw).1 r3, Option.bind_some, nI_1 v]
      have ef : ∀ k, 53 ≤ k → σ1 k = σ k := fun k hk => by rw [r4 k (by omega), ag_up_ne (by omega)]
      have hx : ∃ wf : Nat → Nat, (∀ k, k ≠ l → wf k = lo_ G k) ∧ SB G (en (scn G)) (mo (scn G)) (ow (scn G)) wf (fun _ => true) σ1 := ⟨_, fun k z => if_neg z, r2⟩
      show ∃ x' σ', (if bI (dnA G (sWd G l v) (ds G)) = 0 then _ else _) = some (x', σ') ∧ _
      cases c : dnA G (sWd G l v) (ds G) with
      | false =>
        rw [if_pos (show bI false = 0 from rfl)]
        obtain ⟨x', τ', q1, q2, q3, q4⟩ := sp_saidL hn hl hg i (v + 1) x σ1 (by omega) (by omega) hx (s0 c)
        exact ⟨x', τ', q1, q2, fun k hk => (q3 k hk).trans (ef k hk), q4⟩
      | true =>
        rw [if_neg (show ¬ bI true = 0 from n10)]
        obtain ⟨x', τ', q1, q2, q3, q4⟩ := sp_saidL hn hl hg i (v + 1) _ σ1 (by omega) (by omega) hx (s1 c)
        exact ⟨x', τ', q1, q2, fun k hk => (q3 k hk).trans (ef k hk), q4⟩
theorem bo_said {n : Nat} {G : Gs} {σ τ : Sg} {x : Int32} (hn : 600 ≤ n) (hc : RC G σ) (hm : RM G τ) : ∃ a, HC σ (fn_X6_said n x σ) a G ∧ HM τ (fn_X7_said n x τ) a G := by
  have l1 : σ 10 0 = nI (ls G) := hc.1.2.2.2.2.1.1
  have l2 : τ 53 7 = nI (ls G) := hm.1.2.2.2.1.1
  have hg := hc.1.1
  have h12 : ls G ≤ 12 := hg.2.2.2.1
  unfold fn_X6_said fn_X7_said
  rw [l1, l2]
  rcases ck_lt (z := ls G) (by omega) x σ τ with ⟨⟨l, hl, rfl⟩, e1, e2⟩ | ⟨e1, e2⟩
  case inr => rw [e1, e2]; exact ⟨-2, HC.rf hc, HM.rf hm⟩
  have z0 : IsB 0 8 (fun w => decide (w < 0) && dnA G (sWd G l w) (ds G)) := (IsB.zero _).congr (fun k _ => by rw [decide_eq_false (by omega)]; rfl)
  obtain ⟨σ1, r1, r2, r3⟩ := sp_take hc
  obtain ⟨x, σ2, s1, s2, s3, s4⟩ := sp_saidL (n := n) (by omega) hl hg n 0 0 σ1 (by omega) (by omega) ⟨lo_ G, fun _ _ => rfl, r2⟩ z0
  obtain ⟨τ1, q1, q2, q3, q4⟩ := hm.1.reads (show 20 ≤ n by omega)
  have h0 : RM0 (gWd G l (lo_ G l)) τ1 := by rw [gWd_self]; exact q3
  obtain ⟨x', τ2, u1, u2, u3, u4⟩ := sm_saidL (n := n) hn hl hg n 0 (lo_ G l) 0 τ1 (by omega) (by omega) h0 q4 (hm.2.f5 q2) z0
  rw [e1, e2, Option.bind_some, Option.bind_some, if_neg n10, if_neg n10]
  refine ⟨x, ⟨σ2, ?_, s2, fun k hk => (s3 k hk).trans (r3 k (by omega))⟩, ⟨τ2, ?_, u2, fun k hk => (u3 k hk).trans (q2.2 k (by omega) (by omega) (by omega) (by omega))⟩⟩
  · rw [r1, Option.bind_some]
    exact s1
  · unfold fn_X7_saidOf
    rw [q1, Option.bind_some, if_pos (ma_ib (by omega) (by omega)), ma_cl (by omega), (q3.2.2.2.1.2 l hl).2.2.2.1, show fn_X7_saidOf_b16 n (nI l) n (nI (lo_ G l)) 0 0 τ1 = _ from u1, s4.eq u4 (fun _ _ => rfl)]
    rfl
