/-! ===== how the reference holds people and letters, and how it runs years ===== -/
def eE (E : Nat) (lg sh : Bool) : Nat := if sh = true then (if 10 < E + (if lg = true then 1 else 0) then E + (if lg = true then 1 else 0) - 10 else 1) else E + (if lg = true then 1 else 0)
def VM (S : Sc) (σ : Sg) : Prop := (σ 53 2 = nI (cn S) ∧ cn S ≤ 10 ∧ ∀ p, p < cn S → σ 55 p = nI (bo S p) ∧ bo S p < 100 ∧ (∃ E, E ≤ 99 ∧ σ 56 p = nI E ∧ en S p = eE E (decide (nI p = σ 53 16)) (bt (σ 53 15) p)) ∧ (σ 57 p = 1 ↔ el S p = true) ∧ mo S p = (if σ 53 14 = -2 then (if σ 57 p = 2 then 5 else 0) else if σ 53 14 = nI p then 5 else 0) ∧ IsB (σ 58 p ||| (if bt (σ 53 17) p = true then 1 <<< (σ 53 18 &&& 31) else 0)) 8 (ow S p))
  ∧ sz S ≤ 13 ∧ (∀ k, k < sz S → σ 59 k = nI (wr S k) ∧ wr S k < 10 ∧ σ 60 k = nI (rd S k) ∧ rd S k < 10 ∧ σ 61 k = nI (yr S k) ∧ yr S k < 200 ∧ σ 62 k = nI (wd S k) ∧ wd S k < 8 ∧ σ 63 k = oI (nd S k) ∧ ∀ w, nd S k = some w → w < 8) ∧ ∀ k, k < sz S → bt (σ 53 13) k = ac S k
/-- running changes only these -/
def F3 (σ σ' : Sg) : Prop := ∀ k, k ≠ 64 → k ≠ 65 → k ≠ 66 → σ' k = σ k
theorem F3.rf (σ : Sg) : F3 σ σ := fun _ _ _ _ => rfl
theorem F3.tr {σ σ' σ'' : Sg} (h : F3 σ σ') (h2 : F3 σ' σ'') : F3 σ σ'' := fun k a c d => (h2 k a c d).trans (h k a c d)
theorem f3_up {c i : Nat} {σ : Sg} {v : Int32} (hc : c = 64 ∨ c = 65 ∨ c = 66) : F3 σ (ag_up σ c i v) := fun k h1 h2 h3 => ag_up_ne (by omega)
theorem f3_VM {S : Sc} {σ σ' : Sg} (h : F3 σ σ') (hv : VM S σ) : VM S σ' := by
  unfold VM at *
  rw [h 53 (by decide) (by decide) (by decide), h 55 (by decide) (by decide) (by decide), h 56 (by decide) (by decide) (by decide), h 57 (by decide) (by decide) (by decide), h 58 (by decide) (by decide) (by decide), h 59 (by decide) (by decide) (by decide), h 60 (by decide) (by decide) (by decide), h 61 (by decide) (by decide) (by decide), h 62 (by decide) (by decide) (by decide), h 63 (by decide) (by decide) (by decide)]
  exact hv
def MK (K : Nat → Nat → Option Nat) (σ : Sg) : Prop := ∀ p, p < 10 → IsB (σ 64 p) 8 (fun w => (K p w).isSome)
def MO (O : Nat → Option Nat) (σ : Sg) : Prop := ∀ k, k < 13 → σ 65 k = oI (O k)
def MW (S : Sc) (W : Nat → Bool) (σ : Sg) : Prop := ∀ k, k < 13 → σ 66 k = if W k = true then nI (tls S (wr S k) (yr S k)) else -1
def Rm (S : Sc) (st : Ys) (σ : Sg) : Prop := MW S st.1 σ ∧ MO st.2.1 σ ∧ MK st.2.2 σ
theorem sm_in (x lo hi : Int32) (σ : Sg) : fn_X7_in x lo hi σ = some (bI (decide (lo ≤ x) && decide (x ≤ hi))) := by
  unfold fn_X7_in
  by_cases c : lo ≤ x
  · rw [if_neg (by rw [Int32.lt_iff_toInt_lt]; rw [Int32.le_iff_toInt_le] at c; omega), decide_eq_true c]
    by_cases c2 : x ≤ hi
    · rw [if_neg (by rw [Int32.lt_iff_toInt_lt]; rw [Int32.le_iff_toInt_le] at c2; omega), decide_eq_true c2]; rfl
    · rw [if_pos (by rw [Int32.lt_iff_toInt_lt]; rw [Int32.le_iff_toInt_le] at c2; omega), decide_eq_false c2]; rfl
  · rw [if_pos (by rw [Int32.lt_iff_toInt_lt]; rw [Int32.le_iff_toInt_le] at c; omega), decide_eq_false c]; rfl
theorem sm_isIn (x : Int32) {k : Nat} (hk : k < 32) (σ : Sg) : fn_X7_isIn x (nI k) σ = some (bI (bt x k)) := by
  unfold fn_X7_isIn
  by_cases c : bt x k = true
  · rw [if_pos ((ma_b1 x hk).mpr c), c]; rfl
  · rw [if_neg (fun q => c ((ma_b1 x hk).mp q))]
    simp only [Bool.not_eq_true] at c
    rw [c]; rfl
theorem ma_le_pred {p c : Nat} (hp : p < 2 ^ 31) (hc : c < 2 ^ 31) : (nI p ≤ nI c - 1) ↔ p < c := by
  cases c with
  | zero =>
    rw [nI_0]
    constructor
    · intro q
      exfalso
      rw [Int32.le_iff_toInt_le, nI_toInt hp] at q
      have : ((0 : Int32) - 1).toInt = -1 := by decide
      omega
    · intro q; omega
  | succ c =>
    rw [nI_pred, nI_leI hp (by omega)]
    omega
theorem bI_eq0 (c : Bool) : (bI c = 0) ↔ c = false := by cases c <;> decide
theorem sm_endOf {p : Nat} {S : Sc} {σ : Sg} (h : VM S σ) (hp : p < cn S) : fn_X7_endOf (nI p) σ = some (nI (en S p)) := by
  obtain ⟨⟨h1, h2, h3⟩, -⟩ := h
  obtain ⟨-, -, ⟨E, e1, e2, e3⟩, -⟩ := h3 p hp
  have key : ∀ s : Nat, s ≤ 1 → fn_X7_endOf_b19 (nI p) σ (nI E) (nI s) = some (nI (if bt (σ 53 15) p = true then (if 10 < E + s then E + s - 10 else 1) else E + s)) := by
    intro s hs
    unfold fn_X7_endOf_b19
    rw [sm_isIn _ (by omega), Option.bind_some, nI_add, show (10 : Int32) = nI 10 from rfl]
    by_cases c : bt (σ 53 15) p = true
    · rw [c, bI_t, if_neg (by decide), if_pos rfl]
      by_cases c2 : 10 < E + s
      · rw [if_neg (show ¬ nI (E + s) ≤ nI 10 from nI_ge c2 (by omega)), if_pos c2]
        rw [pk_sub (by omega)]
      · rw [if_pos (show nI (E + s) ≤ nI 10 from nI_le (by omega) (by omega)), if_neg c2]; rfl
    · simp only [Bool.not_eq_true] at c
      rw [c, bI_f, if_pos rfl, if_neg (by decide)]
  unfold fn_X7_endOf
  rw [if_pos (ma_ib (by omega) (by omega)), ma_cl (by omega), e2, e3]
  unfold eE
  by_cases c : nI p = σ 53 16
  · rw [if_pos c, decide_eq_true c]
    exact key 1 (by omega)
  · rw [if_neg c, decide_eq_false c]
    exact key 0 (by omega)
theorem en_hi {p : Nat} {S : Sc} {σ : Sg} (h : VM S σ) (hp : p < cn S) : en S p ≤ 100 := by
  obtain ⟨-, -, ⟨E, e1, e2, e3⟩, -⟩ := h.1.2.2 p hp
  rw [e3]
  unfold eE
  (repeat' split) <;> omega
theorem sm_lives {p y : Nat} {S : Sc} {σ : Sg} (h : VM S σ) (hp : p < 2 ^ 31) (hy : y < 2 ^ 31) : fn_X7_lives (nI p) (nI y) σ = some (bI (lvs S p y)) := by
  have h' := h
  obtain ⟨⟨h1, h2, h3⟩, -⟩ := h'
  unfold fn_X7_lives lvs
  rw [sm_in, Option.bind_some, h1, decide_eq_true (nI_pos' hp), Bool.true_and]
  by_cases c : p < cn S
  · obtain ⟨e1, e2, -⟩ := h3 p c
    have e4 := en_hi h c
    rw [decide_eq_true ((ma_le_pred hp (by omega)).mpr c), bI_t, if_neg (by decide), if_pos (ma_ib (by omega) (by omega)), if_pos (ma_ib (by omega) (by omega)), sm_endOf h c, Option.bind_some, ma_cl hp, e1, sm_in, Option.bind_some, nI_add, decide_eq_true c, Bool.true_and]
    have d1 : decide (nI (bo S p) ≤ nI y) = decide (bo S p ≤ y) := by
      apply decide_eq_decide.mpr
      exact nI_leI (by omega) hy
    have d2 : decide (nI y ≤ nI (bo S p + en S p)) = decide (y ≤ bo S p + en S p) := by
      apply decide_eq_decide.mpr
      exact nI_leI hy (by omega)
    rw [d1, d2]
    cases (decide (bo S p ≤ y) && decide (y ≤ bo S p + en S p)) <;> rfl
  · rw [decide_eq_false (fun q => c ((ma_le_pred hp (by omega)).mp q)), bI_f, if_pos rfl, decide_eq_false c]
    rfl
theorem sm_tells {p y : Nat} {S : Sc} {σ : Sg} (h : VM S σ) (hp : p < cn S) (hb : bo S p ≤ y) (hy : y < 2 ^ 31) : fn_X7_tells (nI p) (nI y) σ = some (nI (tls S p y)) := by
  obtain ⟨⟨h1, h2, h3⟩, -⟩ := h
  obtain ⟨e1, e2, -, -, e5, -⟩ := h3 p hp
  have ib : ag_ib (nI p) 11 = true := ma_ib (by omega) (by omega)
  have key0 : fn_X7_tells_b40 (nI p) (nI y) σ 0 = some (nI (y - bo S p + 0)) := by
    unfold fn_X7_tells_b40 fn_X7_tells_b58
    rw [if_pos ib, if_pos rfl, ma_cl (by omega), e1, pk_sub hb, ← nI_0, nI_add]
  have key1 : fn_X7_tells_b40 (nI p) (nI y) σ 1 = some (nI (y - bo S p + 5)) := by
    unfold fn_X7_tells_b40 fn_X7_tells_b58
    rw [if_pos ib, if_neg (by decide), ma_cl (by omega), e1, pk_sub hb]
    show some (nI (y - bo S p) + nI 5) = _
    rw [nI_add]
  unfold fn_X7_tells tls
  rw [e5]
  by_cases c : σ 53 14 = -2
  · rw [if_pos c, if_pos c, if_pos ib, ma_cl (by omega)]
    by_cases c2 : σ 57 p = 2
    · rw [if_pos c2, if_pos c2]; exact key1
    · rw [if_neg c2, if_neg c2]; exact key0
  · rw [if_neg c, if_neg c]
    by_cases c2 : σ 53 14 = nI p
    · rw [if_pos c2, if_pos c2]; exact key1
    · rw [if_neg c2, if_neg c2]; exact key0
theorem MK.congr {K K' : Nat → Nat → Option Nat} {σ : Sg} (h : MK K σ) (e : ∀ p, p < 10 → ∀ w, w < 8 → (K p w).isSome = (K' p w).isSome) : MK K' σ := fun p hp => (h p hp).congr (fun w hw => e p hp w hw)
theorem ma_or0 (x : Int32) : x ||| 0 = x := by
  apply b_ext
  intro i _
  rw [b_or, b_0, Bool.or_false]
theorem elK_some (S : Sc) (k y : Nat) (K : Nat → Nat → Option Nat) (j p w : Nat) : (elK S k y K j p w).isSome = ((K p w).isSome || (decide (w = wd S k) && decide (p < j) && decide (p ≠ rd S k) && lvs S p y)) := by
  unfold elK
  cases e : K p w with
  | some t => rw [if_neg (by simp)]; rfl
  | none =>
    cases c : (decide (w = wd S k) && decide (p < j) && decide (p ≠ rd S k) && lvs S p y) with
    | true => rw [if_pos (by rfl)]; rfl
    | false => rw [if_neg (by simp)]; rfl
theorem sm_elder {n k y : Nat} {S : Sc} {K : Nat → Nat → Option Nat} (hk : k < sz S) (hy : y < 1000) (hr : rd S k < cn S) (he : el S (rd S k) = true) : ∀ (i j : Nat) (σ : Sg), cn S < i + j → j ≤ cn S → VM S σ → MK (elK S k y K j) σ → ∃ σ', fn_X7_opens_b111 n (nI k) (nI y) i (nI (rd S k)) (1 <<< (nI (wd S k) &&& 31)) (nI j) σ = some σ' ∧ MK (elK S k y K (cn S)) σ' ∧ (∀ c, c ≠ 64 → σ' c = σ c) := by
  intro i
  induction i with
  | zero => intro j σ h1 h2; exact absurd h1 (by omega)
  | succ i ih =>
    intro j σ h1 h2 hv hK
    have hv' := hv
    obtain ⟨⟨v1, v2, v3⟩, w1, w2, w3⟩ := hv'
    obtain ⟨a1, a2, a3, a4, a5, a6, a7, a8, -⟩ := w2 k hk
    obtain ⟨-, -, -, e4, -⟩ := v3 (rd S k) hr
    rw [fn_X7_opens_b111_s, v1]
    have ib11 : ag_ib (nI (rd S k)) 11 = true := ma_ib (by omega) (by omega)
    by_cases c : j < cn S
    · rw [if_neg (nI_ge c (by omega)), if_pos ib11, ma_cl (show rd S k < 2 ^ 31 by omega), if_pos (e4.mpr he), if_pos (ma_ib (by omega) (by omega)), ma_cl (show j < 2 ^ 31 by omega)]
      unfold fn_X7_opens_b159 fn_X7_opens_b160
      rw [if_pos (ma_ib (by omega) (by omega)), ma_cl (show j < 2 ^ 31 by omega), nI_1]
      have none_ : (∀ w, w < 8 → (elK S k y K (j + 1) j w).isSome = (elK S k y K j j w).isSome) → ∃ σ', (fn_X7_opens_b111 n (nI k) (nI y) i) (nI (rd S k)) (1 <<< (nI (wd S k) &&& 31)) (nI (j + 1)) (ag_up σ 64 j (σ 64 j ||| 0)) = some σ' ∧ MK (elK S k y K (cn S)) σ' ∧ (∀ c, c ≠ 64 → σ' c = σ c) := by
        intro q
        have hf : F3 σ (ag_up σ 64 j (σ 64 j ||| 0)) := f3_up (Or.inl rfl)
        obtain ⟨σ', t1, t2, t3⟩ := ih (j + 1) (ag_up σ 64 j (σ 64 j ||| 0)) (by omega) (by omega) (f3_VM hf hv) (fun p hp => by
          by_cases e : p = j
          · subst e
            rw [ma_up_s, ma_or0]
            exact (hK p hp).congr (fun w hw => (q w hw).symm)
          · rw [ma_up_i e]
            refine (hK p hp).congr (fun w hw => ?_)
            rw [elK_some, elK_some]
            have : decide (p < j + 1) = decide (p < j) := by
              by_cases z : p < j
              · rw [decide_eq_true z, decide_eq_true (by omega)]
              · rw [decide_eq_false z, decide_eq_false (by omega)]
            rw [this])
        exact ⟨σ', t1, t2, fun c hc => (t3 c hc).trans (ag_up_ne hc)⟩
      by_cases e : j = rd S k
      · rw [if_pos (by rw [e])]
        exact none_ (fun w hw => by rw [elK_some, elK_some, decide_eq_false (show ¬ j ≠ rd S k by omega)]; simp)
      · rw [if_neg (fun q => e ((nI_eq (by omega) (by omega)).mp q)), sm_lives hv (by omega) (by omega), Option.bind_some]
        by_cases l : lvs S j y = true
        · rw [l, bI_t, if_neg (by decide), if_pos (ma_ib (by omega) (by omega))]
          have hf : F3 σ (ag_up σ 64 j (σ 64 j ||| 1 <<< (nI (wd S k) &&& 31))) := f3_up (Or.inl rfl)
          obtain ⟨σ', t1, t2, t3⟩ := ih (j + 1) (ag_up σ 64 j (σ 64 j ||| 1 <<< (nI (wd S k) &&& 31))) (by omega) (by omega) (f3_VM hf hv) (fun p hp => by
            by_cases e1 : p = j
            · subst e1
              rw [ma_up_s]
              refine ((hK p hp).set a8 (by omega)).congr (fun w hw => ?_)
              rw [elK_some, elK_some, decide_eq_true (show p < p + 1 by omega), decide_eq_false (Nat.lt_irrefl p), decide_eq_true e, l]
              simp
            · rw [ma_up_i e1]
              refine (hK p hp).congr (fun w hw => ?_)
              rw [elK_some, elK_some]
              have : decide (p < j + 1) = decide (p < j) := by
                by_cases z : p < j
                · rw [decide_eq_true z, decide_eq_true (by omega)]
                · rw [decide_eq_false z, decide_eq_false (by omega)]
              rw [this])
          exact ⟨σ', t1, t2, fun c hc => (t3 c hc).trans (ag_up_ne hc)⟩
        · simp only [Bool.not_eq_true] at l
          rw [l, bI_f, if_pos rfl]
          exact none_ (fun w hw => by rw [elK_some, elK_some, l]; simp)
    · rw [if_pos (nI_le (by omega) (by omega))]
      have e : j = cn S := by omega
      subst e
      unfold fn_X7_opens_b168 fn_X7_opens_b191
      rw [if_pos (ma_ib (by omega) (by omega)), if_pos ib11, ma_cl (show rd S k < 2 ^ 31 by omega), if_pos (e4.mpr he), if_pos (ma_ib (by omega) (by omega)), ma_or0]
      refine ⟨_, rfl, fun p hp => ?_, fun c hc => ag_up_ne hc⟩
      by_cases e1 : p = rd S k
      · subst e1
        rw [ma_up_s]
        exact hK _ hp
      · rw [ma_up_i e1]
        exact hK p hp
theorem opn_K_some {S : Sc} {y k : Nat} {st : Ys} (ho : opc S y k st = true) (p w : Nat) : ((opn S y k st).2.2 p w).isSome = ((st.2.2 p w).isSome || (decide (w = wd S k) && hrs S k y p)) := by
  unfold opn
  rw [if_pos ho]
  show (if (decide (w = wd S k) && hrs S k y p && (st.2.2 p w).isNone) = true then some y else st.2.2 p w).isSome = _
  cases e : st.2.2 p w with
  | some t => rw [if_neg (by simp)]; rfl
  | none =>
    cases c : (decide (w = wd S k) && hrs S k y p) with
    | true => rw [if_pos (by rfl)]; rfl
    | false => rw [if_neg (by simp)]; rfl
theorem sm_opens {n k y : Nat} {S : Sc} {st : Ys} {σ : Sg} (hn : 20 ≤ n) (hv : VM S σ) (h : Rm S st σ) (hk : k < sz S) (hy : y < 1000) (hW : st.1 k = true → lvs S (wr S k) (yr S k) = true) (hB : ∀ t, st.2.1 k = some t → t < 1000) : ∃ σ', fn_X7_opens n (nI k) (nI y) σ = some σ' ∧ F3 σ σ' ∧ Rm S (opn S y k st) σ' := by
  have hv' := hv
  obtain ⟨⟨v1, v2, v3⟩, w1, w2, w3⟩ := hv'
  obtain ⟨a1, a2, a3, a4, a5, a6, a7, a8, a9, a10⟩ := w2 k hk
  have ib : ag_ib (nI k) 13 = true := ma_ib (by omega) (by omega)
  have hO : σ 65 k = oI (st.2.1 k) := h.2.1 k (by omega)
  have hT := h.1 k (by omega)
  have no : opc S y k st = false → Rm S (opn S y k st) σ := by
    intro q
    unfold opn
    rw [if_neg (by rw [q]; decide)]
    exact h
  unfold fn_X7_opens fn_X7_opens_b93 fn_X7_opens_b89 fn_X7_opens_b94
  rw [if_pos ib, if_pos ib, if_pos ib, ma_cl (show k < 2 ^ 31 by omega), hT, a3, a7, hO, a9]
  simp only [if_pos (show (0 : Int32) = 0 from rfl), if_neg (show ¬ (1 : Int32) = 0 by decide), if_pos ib]
  by_cases cw : st.1 k = true
  · have hwl := hW cw
    have l1 := lvs_iff.mp hwl
    have ht : tls S (wr S k) (yr S k) < 1000 := by
      have := (v3 (wr S k) l1.1).2.1
      have hm := (v3 (wr S k) l1.1).2.2.2.2.1
      have : mo S (wr S k) ≤ 5 := by
        rw [hm]
        (repeat' split) <;> omega
      unfold tls
      omega
    rw [if_pos cw, if_neg (ma_m1 (by omega))]
    cases eo : st.2.1 k with
    | some t =>
      have := hB t eo
      rw [show oI (some t) = nI t from rfl, if_neg (ma_m1 (by omega))]
      exact ⟨σ, rfl, F3.rf σ, no (by unfold opc; rw [eo]; simp)⟩
    | none =>
      rw [if_pos (show oI none = -1 from rfl), sm_lives hv (by omega) (by omega), Option.bind_some]
      by_cases cl : lvs S (rd S k) y = true
      · have l2 := lvs_iff.mp cl
        have hr := l2.1
        have ht2 : tls S (rd S k) y < 2000 := by
          have := (v3 (rd S k) hr).2.1
          have hm := (v3 (rd S k) hr).2.2.2.2.1
          have : mo S (rd S k) ≤ 5 := by
            rw [hm]
            (repeat' split) <;> omega
          unfold tls
          omega
        rw [cl, bI_t, if_neg (by decide), sm_tells hv hr l2.2.1 (by omega), Option.bind_some]
        by_cases ct : tls S (wr S k) (yr S k) ≤ tls S (rd S k) y
        · have hcan : can S k y = true := can_iff.mpr ⟨cl, ct⟩
          rw [if_neg (nI_nlt ct (by omega))]
          have yes : has st S k = true → ∃ σ', fn_X7_opens_b111 n (nI k) (nI y) n (nI (rd S k)) (1 <<< (nI (wd S k) &&& 31)) 0 (ag_up σ 65 k (nI y)) = some σ' ∧ F3 σ σ' ∧ Rm S (opn S y k st) σ' := by
            intro hh
            have ho : opc S y k st = true := by
              unfold opc
              rw [cw, eo, hcan, hh]; rfl
            have f1 : F3 σ (ag_up σ 65 k (nI y)) := f3_up (Or.inr (Or.inl rfl))
            have vv := f3_VM f1 hv
            have K1 : MK st.2.2 (ag_up σ 65 k (nI y)) := fun p hp => by
              rw [ma_up_k (by decide)]
              exact h.2.2 p hp
            have O1 : MO (opn S y k st).2.1 (ag_up σ 65 k (nI y)) := by
              intro i hi
              unfold opn
              rw [if_pos ho]
              show _ = oI (if i = k then some y else st.2.1 i)
              by_cases e : i = k
              · rw [if_pos e, e, ma_up_s]; rfl
              · rw [if_neg e, ma_up_i e]
                exact h.2.1 i hi
            have W1 : MW S (opn S y k st).1 (ag_up σ 65 k (nI y)) := by
              intro i hi
              rw [opn_W, ma_up_k (by decide)]
              exact h.1 i hi
            by_cases ce : el S (rd S k) = true
            · obtain ⟨σ', t1, t2, t3⟩ := sm_elder (n := n) (K := st.2.2) hk hy hr ce n 0 (ag_up σ 65 k (nI y)) (by omega) (by omega) vv (by rw [elK_0]; exact K1)
              rw [nI_0] at t1
              refine ⟨σ', t1, fun c h4 h5 h6 => (t3 c h4).trans (ag_up_ne h5), ?_, ?_, ?_⟩
              · intro i hi
                rw [t3 66 (by decide)]
                exact W1 i hi
              · intro i hi
                rw [t3 65 (by decide)]
                exact O1 i hi
              · refine t2.congr (fun p hp w hw => ?_)
                rw [opn_K_some ho, elK_some]
                unfold hrs
                rw [if_pos ce]
                by_cases cp : p < cn S
                · rw [decide_eq_true cp, Bool.and_true, ← Bool.and_assoc]
                · have : lvs S p y = false := by
                    cases e : lvs S p y with
                    | false => rfl
                    | true => exact absurd (lvs_iff.mp e).1 cp
                  rw [this]
                  simp
            · obtain ⟨u1, u2, -, u4, -⟩ := v3 (rd S k) hr
              have g1 : (ag_up σ 65 k (nI y)) 53 2 = nI (cn S) := by rw [ma_up_k (by decide)]; exact v1
              obtain ⟨m, rfl⟩ : ∃ m, n = m + 1 := ⟨n - 1, by omega⟩
              rw [fn_X7_opens_b111_s, g1, ← nI_0, if_neg (nI_ge (by omega) (by omega)), if_pos (ma_ib (by omega) (by omega)), ma_cl (show rd S k < 2 ^ 31 by omega), ma_up_k (by decide), if_neg (fun q => ce (u4.mp q))]
              unfold fn_X7_opens_b168 fn_X7_opens_b191
              rw [if_pos (ma_ib (by omega) (by omega)), if_pos (ma_ib (by omega) (by omega)), ma_cl (show rd S k < 2 ^ 31 by omega), ma_up_k (by decide), if_neg (fun q => ce (u4.mp q)), if_pos (ma_ib (by omega) (by omega))]
              refine ⟨_, rfl, fun c h4 h5 h6 => by rw [ag_up_ne h4, ag_up_ne h5], ?_, ?_, ?_⟩
              · intro i hi
                rw [ma_up_k (by decide)]
                exact W1 i hi
              · intro i hi
                rw [ma_up_k (by decide)]
                exact O1 i hi
              · intro p hp
                by_cases e : p = rd S k
                · subst e
                  rw [ma_up_s, ma_up_k (by decide)]
                  refine ((h.2.2 _ hp).set a8 (by omega)).congr (fun w hw => ?_)
                  rw [opn_K_some ho]
                  unfold hrs
                  rw [if_neg ce, decide_eq_true rfl, Bool.and_true]
                · rw [ma_up_i e, ma_up_k (by decide)]
                  refine (h.2.2 p hp).congr (fun w hw => ?_)
                  rw [opn_K_some ho]
                  unfold hrs
                  rw [if_neg ce, decide_eq_false e, Bool.and_false, Bool.or_false]
          cases en : nd S k with
          | none =>
            rw [if_pos (show oI none = -1 from rfl)]
            exact yes (by unfold has; rw [en]; rfl)
          | some w =>
            have hw := a10 w en
            rw [show oI (some w) = nI w from rfl, if_neg (ma_m1 (by omega)), if_pos (ma_ib (by omega) (by omega)), ma_cl (show rd S k < 2 ^ 31 by omega), sm_isIn _ (by omega), Option.bind_some, (h.2.2 (rd S k) (by omega)).at hw (by omega)]
            by_cases ch : (st.2.2 (rd S k) w).isSome = true
            · rw [ch, bI_t, if_neg (by decide)]
              exact yes (by unfold has; rw [en]; exact ch)
            · simp only [Bool.not_eq_true] at ch
              rw [ch, bI_f, if_pos rfl]
              exact ⟨σ, rfl, F3.rf σ, no (by unfold opc has; rw [en]; show (_ && (st.2.2 (rd S k) w).isSome) = false; rw [ch, Bool.and_false])⟩
        · have hcan : can S k y = false := by
            cases e : can S k y with
            | false => rfl
            | true => exact absurd (can_iff.mp e).2 ct
          rw [if_pos (nI_lt (by omega) (by omega))]
          exact ⟨σ, rfl, F3.rf σ, no (by unfold opc; rw [hcan, Bool.and_false, Bool.false_and])⟩
      · have hcan : can S k y = false := by
          cases e : can S k y with
          | false => rfl
          | true => exact absurd (can_iff.mp e).1 cl
        simp only [Bool.not_eq_true] at cl
        rw [cl, bI_f, if_pos rfl]
        exact ⟨σ, rfl, F3.rf σ, no (by unfold opc; rw [hcan, Bool.and_false, Bool.false_and])⟩
  · rw [if_neg cw, if_pos rfl]
    simp only [Bool.not_eq_true] at cw
    exact ⟨σ, rfl, F3.rf σ, no (by unfold opc; rw [cw]; rfl)⟩
