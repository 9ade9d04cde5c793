/-! waits, sealed -/
theorem ib_step {x : Int32} {m v : Nat} {f : Nat → Bool} (hm : m ≤ 13) (hv : v < m) (h : IsB x m (fun k => decide (k < v) && f k)) : (f v = false → IsB x m (fun k => decide (k < v + 1) && f k)) ∧ (f v = true → IsB (x ||| (1 <<< (nI v &&& 31))) m (fun k => decide (k < v + 1) && f k)) := by
  constructor
  · intro c
    refine h.congr (fun w hw => ?_)
    by_cases e : w = v
    · subst e
      rw [c, Bool.and_false, Bool.and_false]
    · rw [decide_eq_decide.mpr (show w < v ↔ w < v + 1 by omega)]
  · intro c
    refine (h.set (k := v) hv (by omega)).congr (fun w hw => ?_)
    by_cases e : w = v
    · subst e
      rw [c, decide_eq_true rfl, decide_eq_true (show w < w + 1 by omega), Bool.or_true]; rfl
    · rw [decide_eq_false e, Bool.or_false, decide_eq_decide.mpr (show w < v ↔ w < v + 1 by omega)]
theorem sim_O_sm (S : Sc) {y k : Nat} (hy : y < 200) : ((sim S (y + 1)).2.1 k).isSome = true ↔ ∃ t, (sim S 200).2.1 k = some t ∧ t ≤ y := by
  constructor
  · intro h
    obtain ⟨t, ht⟩ := Option.isSome_iff_exists.mp h
    exact ⟨t, (sim_O_iff S hy).mp ht⟩
  · rintro ⟨t, h1, h2⟩
    rw [(sim_O_iff S hy).mpr ⟨h1, h2⟩]; rfl
theorem sp_openedB {n b y : Nat} {S : Sc} {σ : Sg} (hv : VP (b + 7) S σ) (hr : Rs b S (sim S 200) σ) (hy : y < 200) : ∀ (i v : Nat) (x : Int32), sz S < i + v → v ≤ sz S → IsB x (sz S) (fun k => decide (k < v) && ((sim S (y + 1)).2.1 k).isSome) → ∃ x', fn_X5_openedBehind_b4 n b (nI y) σ i x (nI v) = some x' ∧ IsB x' (sz S) (fun k => ((sim S (y + 1)).2.1 k).isSome)
  | 0, v, x, h, hv8, _ => by omega
  | i + 1, v, x, h, hv8, hx => by
    have h13 : sz S ≤ 13 := hv.2.1
    obtain ⟨o1, o2⟩ := hr.2.1
    unfold fn_X5_openedBehind_b4
    rw [hv.1]
    by_cases z : v = sz S
    · rw [if_pos (nI_le (show sz S ≤ v by omega) (by omega))]
      exact ⟨x, rfl, hx.congr (fun w hw => by rw [decide_eq_true (show w < v by omega)]; rfl)⟩
    · have hv' : v < sz S := by omega
      have e : bt (σ b 4) v = ((sim S 200).2.1 v).isSome := o1.at hv' (by omega)
      obtain ⟨st1, st2⟩ := ib_step (f := fun k => ((sim S (y + 1)).2.1 k).isSome) h13 hv' hx
      rw [if_neg (nI_ge hv' (by omega))]
      unfold fn_X5_openedBehind_b43
      rw [nI_1]
      cases c : (sim S 200).2.1 v with
      | none =>
        rw [c] at e
        rw [if_neg (fun q => by have := (ma_b1 _ (show v < 32 by omega)).mp q; rw [e] at this; cases this)]
        refine sp_openedB hv hr hy i (v + 1) x (by omega) (by omega) (st1 ?_)
        rw [Bool.eq_false_iff]
        intro q
        obtain ⟨t, ht, -⟩ := (sim_O_sm S hy).mp q
        rw [c] at ht; cases ht
      | some t =>
        have tl : t < 200 := sim_O_lt S c
        rw [c] at e
        rw [if_pos ((ma_b1 _ (show v < 32 by omega)).mpr e), if_pos (ma_ib (by omega) (by omega)), ma_cl (by omega), o2 v hv' t c]
        by_cases d : y < t
        · rw [if_pos (nI_lt d (by omega))]
          refine sp_openedB hv hr hy i (v + 1) x (by omega) (by omega) (st1 ?_)
          rw [Bool.eq_false_iff]
          intro q
          obtain ⟨t', ht, h2⟩ := (sim_O_sm S hy).mp q
          rw [c] at ht
          injection ht with e
          omega
        · rw [if_neg (nI_nlt (by omega) (by omega))]
          exact sp_openedB hv hr hy i (v + 1) _ (by omega) (by omega) (st2 ((sim_O_sm S hy).mpr ⟨t, c, by omega⟩))
theorem sp_waitB {n b y : Nat} {S : Sc} {σ : Sg} (hn : 20 ≤ n) (hv : VP (b + 7) S σ) (hr : Rs b S (sim S 200) σ) (hy : y < 200) : ∀ (i v : Nat) (x : Int32), sz S < i + v → v ≤ sz S → IsB x (sz S) (fun k => decide (k < v) && (sim S (y + 1)).1 k) → ∃ x', fn_X5_waitingBehind_b4 n b (nI y) σ i x (nI v) = some x' ∧ IsB x' (sz S) (fun k => (sim S (y + 1)).1 k && !((sim S (y + 1)).2.1 k).isSome)
  | 0, v, x, h, hv8, _ => by omega
  | i + 1, v, x, h, hv8, hx => by
    have h13 : sz S ≤ 13 := hv.2.1
    obtain ⟨w1, w2⟩ := hr.1
    unfold fn_X5_waitingBehind_b4
    rw [hv.1]
    by_cases z : v = sz S
    · rw [if_pos (nI_le (show sz S ≤ v by omega) (by omega))]
      obtain ⟨x2, r1, r2⟩ := sp_openedB (n := n) hv hr hy n 0 0 (by omega) (by omega) ((IsB.zero (sz S)).congr (fun w hw => rfl))
      unfold fn_X5_openedBehind
      rw [show fn_X5_openedBehind_b4 n b (nI y) σ n 0 0 = _ from r1]
      exact ⟨_, rfl, (hx.congr (fun w hw => by rw [decide_eq_true (show w < v by omega)]; rfl)).andn r2⟩
    · have hv' : v < sz S := by omega
      have e : bt (σ b 3) v = (sim S 200).1 v := w1.at hv' (by omega)
      obtain ⟨-, -, -, -, ey, hyr, -⟩ := hv.2.2 v hv'
      have hw := sim_W_iff S (k := v) hy
      obtain ⟨st1, st2⟩ := ib_step (f := fun k => (sim S (y + 1)).1 k) h13 hv' hx
      rw [if_neg (nI_ge hv' (by omega))]
      unfold fn_X5_waitingBehind_b46
      rw [nI_1]
      cases c : (sim S 200).1 v with
      | false =>
        rw [c] at e hw
        rw [if_neg (fun q => by have := (ma_b1 _ (show v < 32 by omega)).mp q; rw [e] at this; cases this)]
        exact sp_waitB hn hv hr hy i (v + 1) x (by omega) (by omega) (st1 (by rw [hw]; rfl))
      | true =>
        rw [c] at e hw
        rw [if_pos ((ma_b1 _ (show v < 32 by omega)).mpr e), if_pos (ma_ib (by omega) (by omega)), ma_cl (by omega), show σ (b + 10) v = _ from ey]
        by_cases d : y < yr S v
        · rw [if_pos (nI_lt d (by omega))]
          exact sp_waitB hn hv hr hy i (v + 1) x (by omega) (by omega) (st1 (by rw [hw, decide_eq_false (by omega)]; rfl))
        · rw [if_neg (nI_nlt (by omega) (by omega))]
          exact sp_waitB hn hv hr hy i (v + 1) _ (by omega) (by omega) (st2 (by rw [hw, decide_eq_true (by omega)]; rfl))
theorem tls_lt {G : Gs} (g : GOk G) {k : Nat} (hk : k < ls G) : tls (scn G) (wr (scn G) k) (yr (scn G) k) < 2 ^ 31 := by
  have : yr (scn G) k < 200 := (g.2.2.2.2.1 k hk).2.2.2.1
  unfold tls
  have m5 : mo (scn G) (wr (scn G) k) ≤ 5 := by
    show (if kdp (tb G) _ = 2 then 5 else 0) ≤ 5
    split <;> omega
  omega
theorem sm_bits {n : Nat} {G : Gs} {τ : Sg} {st : Ys} {m : Bool} (hm : RM G τ) (hr : Rm (scn G) st τ) (ht : ∀ k t, st.2.1 k = some t → t < 2 ^ 31) : ∀ (i v : Nat) (x : Int32), ls G < i + v → v ≤ ls G → IsB x (ls G) (fun k => decide (k < v) && (if m = true then (st.2.1 k).isSome else st.1 k && !(st.2.1 k).isSome)) → ∃ x', fn_X7_bitsNow_b4 n (bI m) τ i x (nI v) = some x' ∧ IsB x' (ls G) (fun k => if m = true then (st.2.1 k).isSome else st.1 k && !(st.2.1 k).isSome)
  | 0, v, x, h, hv8, _ => by omega
  | i + 1, v, x, h, hv8, hx => by
    have hl : ls G ≤ 12 := hm.1.1.2.2.2.1
    have l2 : τ 53 7 = nI (ls G) := hm.1.2.2.2.1.1
    unfold fn_X7_bitsNow_b4
    rw [l2]
    by_cases z : v = ls G
    · rw [if_pos (nI_le (show ls G ≤ v by omega) (by omega))]
      exact ⟨x, rfl, hx.congr (fun w hw => by rw [decide_eq_true (show w < v by omega)]; rfl)⟩
    · have hv' : v < ls G := by omega
      obtain ⟨st1, st2⟩ := ib_step (f := fun k => if m = true then (st.2.1 k).isSome else st.1 k && !(st.2.1 k).isSome) (show ls G ≤ 13 by omega) hv' hx
      have z0 : x ||| 0 = x := ma_or0 x
      rw [if_neg (nI_ge hv' (by omega)), ma_cl (by omega), if_pos (ma_ib (show v < 13 by omega) (by omega)), hr.2.1 v (by omega), hr.1 v (by omega)]
      unfold fn_X7_bitsNow_b40 fn_X7_bitsNow_b59 fn_X7_bitsNow_b74
      rw [nI_1, z0]
      cases m with
      | true =>
        rw [if_neg (show ¬ bI true = 0 from n10), if_pos (ma_ib (show v < 13 by omega) (by omega))]
        cases c : st.2.1 v with
        | none =>
          rw [if_pos (show oI none = -1 from rfl), if_pos rfl]
          exact sm_bits hm hr ht i (v + 1) x (by omega) (by omega) (st1 (by rw [if_pos rfl, c]; rfl))
        | some t =>
          rw [if_neg (show ¬ oI (some t) = -1 from ma_m1 (ht v t c)), if_neg n10]
          exact sm_bits hm hr ht i (v + 1) _ (by omega) (by omega) (st2 (by rw [if_pos rfl, c]; rfl))
      | false =>
        rw [if_pos (show bI false = 0 from rfl), if_pos (ma_ib (show v < 13 by omega) (by omega))]
        cases d : st.1 v with
        | false =>
          rw [if_pos (by rw [if_neg (by decide)]), if_pos rfl]
          exact sm_bits hm hr ht i (v + 1) x (by omega) (by omega) (st1 (by rw [if_neg (by decide), d]; rfl))
        | true =>
          rw [if_neg (by rw [if_pos rfl]; exact ma_m1 (tls_lt hm.1.1 hv'))]
          cases c : st.2.1 v with
          | none =>
            rw [if_pos (show oI none = -1 from rfl), if_neg n10]
            exact sm_bits hm hr ht i (v + 1) _ (by omega) (by omega) (st2 (by rw [if_neg (by decide), c, d]; rfl))
          | some t =>
            rw [if_neg (show ¬ oI (some t) = -1 from ma_m1 (ht v t c)), if_pos rfl]
            exact sm_bits hm hr ht i (v + 1) x (by omega) (by omega) (st1 (by rw [if_neg (by decide), c, d]; rfl))
theorem sm_waitsOf {n y : Nat} {G : Gs} {τ : Sg} {m : Bool} (hn : 600 ≤ n) (hy : y < 200) (hm : RM G τ) : ∃ x τ', fn_X7_waitsOf n (nI y) (bI m) τ = some (x, τ') ∧ RM G τ' ∧ (∀ k, k < 53 → τ' k = τ k) ∧ IsB x (ls G) (fun k => if m = true then ((sim (scn G) (y + 1)).2.1 k).isSome else (sim (scn G) (y + 1)).1 k && !((sim (scn G) (y + 1)).2.1 k).isSome) := by
  obtain ⟨τ2, s1, s2, -, s3, s4⟩ := hm.runsTo hn (show y < 500 by omega)
  have hl : ls G ≤ 12 := hm.1.1.2.2.2.1
  obtain ⟨x, r1, r2⟩ := sm_bits (n := n) (m := m) s2 s3 (fun k t h => by have := sim_O_lt _ h; omega) n 0 0 (by omega) (by omega) ((IsB.zero (ls G)).congr (fun w hw => rfl))
  refine ⟨x, τ2, ?_, s2, s4, r2⟩
  unfold fn_X7_waitsOf fn_X7_bitsNow
  rw [s1, Option.bind_some, show fn_X7_bitsNow_b4 n (bI m) τ2 n 0 0 = _ from r1]
  rfl
theorem bo_waits {n : Nat} {G : Gs} {σ τ : Sg} {x1 x2 : Int32} (hn : 600 ≤ n) (hc : RC G σ) (hm : RM G τ) : ∃ a, fn_X6_waits n x1 x2 σ = some a ∧ HM τ (fn_X7_waits n x1 x2 τ) a G := by
  have hl : ls G ≤ 12 := hm.1.1.2.2.2.1
  unfold fn_X6_waits fn_X7_waits
  rcases ck_year x1 σ τ with ⟨⟨y, hy, rfl⟩, e3, e4⟩ | ⟨e3, e4⟩
  case inr => rw [e3, e4]; exact ⟨-2, rfl, HM.rf hm⟩
  rw [e3, e4, Option.bind_some, Option.bind_some, if_neg n10, if_neg n10]
  rcases bo_ck (m := 1) (by omega) x2 σ τ with ⟨⟨j, hj, rfl⟩, e7, e8⟩ | ⟨e7, e8⟩
  case inr => rw [show fn_X6_isBelow x2 2 σ = _ from e7, show fn_X7_in x2 0 1 τ = _ from e8]; exact ⟨-2, rfl, HM.rf hm⟩
  rw [show fn_X6_isBelow (nI j) 2 σ = _ from e7, show fn_X7_in (nI j) 0 1 τ = _ from e8, Option.bind_some, Option.bind_some, if_neg n10, if_neg n10]
  by_cases c : j = 0
  · subst c
    obtain ⟨x, r1, r2⟩ := sp_waitB (n := n) (b := 3) (show 20 ≤ n by omega) hc.1.VP hc.2 hy n 0 0 (by rw [scn_sz]; omega) (by omega) ((IsB.zero _).congr (fun w hw => rfl))
    obtain ⟨x', τ', s1, s2, s3, s4⟩ := sm_waitsOf (m := false) hn hy hm
    unfold fn_X5_waitingBehind
    rw [if_pos (show nI 0 = 0 from rfl), show fn_X5_waitingBehind_b4 n 3 (nI y) σ n 0 0 = _ from r1, show fn_X7_waitsOf n (nI y) (nI 0) τ = _ from s1, show x = x' from r2.eq (show IsB x' (sz (scn G)) _ from s4) (fun w hw => rfl)]
    exact ⟨_, rfl, τ', rfl, s2, s3⟩
  · have : j = 1 := by omega
    subst this
    obtain ⟨x, r1, r2⟩ := sp_openedB (n := n) (b := 3) hc.1.VP hc.2 hy n 0 0 (by rw [scn_sz]; omega) (by omega) ((IsB.zero _).congr (fun w hw => rfl))
    obtain ⟨x', τ', s1, s2, s3, s4⟩ := sm_waitsOf (m := true) hn hy hm
    unfold fn_X5_openedBehind
    rw [if_neg (show ¬ nI 1 = 0 from n10), show fn_X5_openedBehind_b4 n 3 (nI y) σ n 0 0 = _ from r1, show fn_X7_waitsOf n (nI y) (nI 1) τ = _ from s1, show x = x' from r2.eq (show IsB x' (sz (scn G)) _ from s4) (fun w hw => rfl)]
    exact ⟨_, rfl, τ', rfl, s2, s3⟩
theorem bo_sealed {n : Nat} {G : Gs} {σ τ : Sg} (hn : 600 ≤ n) (hc : RC G σ) (hm : RM G τ) : ∃ a, fn_X6_sealed σ = some a ∧ HM τ (fn_X7_sealed n τ) a G := by
  obtain ⟨x', τ', s1, s2, s3, s4⟩ := sm_waitsOf (m := false) (y := 199) hn (by omega) hm
  have h1 := hc.2.1.1.andn hc.2.2.1.1
  have e : σ 3 3 &&& (σ 3 4 ^^^ -1) = x' := h1.eq (show IsB x' (sz (scn G)) _ from s4) (fun w hw => rfl)
  unfold fn_X6_sealed fn_X5_sealedBits fn_X7_sealed fn_X7_sealedNow
  rw [show fn_X7_waitsOf n 199 0 τ = _ from s1, e]
  exact ⟨_, rfl, τ', rfl, s2, s3⟩
