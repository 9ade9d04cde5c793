/-! which letters may help -/
theorem bc_set {f : Nat → Bool} {v : Nat} (hf : f v = false) : ∀ {n : Nat}, bc (fun i => f i || decide (i = v)) n = bc f n + if v < n then 1 else 0
  | 0 => rfl
  | n + 1 => by
    show bc (fun i => f i || decide (i = v)) n + (if (f n || decide (n = v)) = true then 1 else 0) = bc f n + (if f n = true then 1 else 0) + if v < n + 1 then 1 else 0
    rw [bc_set hf]
    by_cases z : n = v
    · rw [z, hf, decide_eq_true rfl, if_neg (show ¬ v < v by omega), if_pos (show v < v + 1 by omega), if_pos (show (false || true) = true from rfl), if_neg (show ¬ false = true by decide)]
    · rw [decide_eq_false z, Bool.or_false]
      have : (if v < n + 1 then 1 else 0) = if v < n then 1 else 0 := by
        by_cases c : v < n
        · rw [if_pos c, if_pos (by omega)]
        · rw [if_neg c, if_neg (by omega)]
      rw [this]
      omega
theorem bc_full {f : Nat → Bool} : ∀ {n : Nat}, n ≤ bc f n → ∀ i, i < n → f i = true
  | 0, _, i, hi => by omega
  | n + 1, h, i, hi => by
    have h : n + 1 ≤ bc f n + (if f n = true then 1 else 0) := h
    have := bc_le f n
    by_cases c : f n = true
    · rw [if_pos c] at h
      by_cases z : i = n
      · rw [z]; exact c
      · exact bc_full (n := n) (by omega) i (by omega)
    · rw [if_neg c] at h
      omega
def anyB (f : Nat → Bool) : Nat → Bool
  | 0 => false
  | m + 1 => anyB f m || f m
theorem anyB_t {f : Nat → Bool} {v : Nat} (h : f v = true) : ∀ {m : Nat}, v < m → anyB f m = true
  | 0, q => by omega
  | m + 1, q => by
    show (anyB f m || f m) = true
    by_cases z : v = m
    · rw [← z, h, Bool.or_true]
    · rw [anyB_t h (show v < m by omega), Bool.true_or]
theorem anyB_f {f : Nat → Bool} {m : Nat} (h : anyB f m = false) {v : Nat} (hv : v < m) : f v = false := by
  cases c : f v with
  | false => rfl
  | true => rw [anyB_t c hv] at h; cases h
def hear (G : Gs) (k p : Nat) : Bool := if el (scn G) (lr G k) = true then decide (p ≠ lr G k) else decide (p = lr G k)
def brg (G : Gs) (W : Nat → Nat → Bool) (k : Nat) : Bool := anyB (fun p => hear G k p && W p (lo_ G k)) (cnt G)
theorem sp_bringsL {n k : Nat} {G : Gs} {σ : Sg} {W : Nat → Nat → Bool} (h : RC G σ) (hW : ∀ p, p < 10 → IsB (σ 20 p) 8 (W p)) (hk : k < ls G) : ∀ (i v : Nat), cnt G < i + v → v ≤ cnt G → anyB (fun p => hear G k p && W p (lo_ G k)) v = false → fn_X5_bringsWanted_b32 n 3 (nI k) σ i (nI (lr G k)) (bI (el (scn G) (lr G k))) (nI v) = some (bI (brg G W k))
  | 0, v, a, b, hb => by omega
  | i + 1, v, a, b, hb => by
    have g := h.1.1
    have h10 : cnt G ≤ 10 := (cnt_ok g.1).1
    have h12 : ls G ≤ 12 := g.2.2.2.1
    have hr : lr G k < 10 := (g.2.2.2.2.1 k hk).2.1
    have hlo : lo_ G k < 8 := (g.2.2.2.2.1 k hk).2.2.2.2.1
    unfold fn_X5_bringsWanted_b32 fn_X5_bringsWanted_b73 fn_X5_bringsWanted_b105
    rw [show σ (3 + 1) 0 = _ from h.1.2.2.2.1.1]
    by_cases z : v = cnt G
    · rw [if_pos (nI_le (show cnt G ≤ v by omega) (by omega))]
      unfold brg
      rw [← z, hb]
      rfl
    · have hv : v < cnt G := by omega
      have e14 : σ (3 + 11) k = nI (lo_ G k) := (h.1.2.2.2.2.1.2 k hk).2.2.2.1
      have eb : bt (σ (3 + 17) v) (lo_ G k) = W v (lo_ G k) := (hW v (by omega)).at hlo (by omega)
      rw [if_neg (nI_ge (by omega) (by omega)), if_neg n10, if_pos (show (0 : Int32) = 0 from rfl), if_pos (ma_ib (by omega) (by omega)), if_pos (ma_ib (by omega) (by omega)), ma_cl (by omega), ma_cl (by omega), e14, nI_1 v]
      have ih : (hear G k v && W v (lo_ G k)) = false → fn_X5_bringsWanted_b32 n 3 (nI k) σ i (nI (lr G k)) (bI (el (scn G) (lr G k))) (nI (v + 1)) = some (bI (brg G W k)) := fun c => sp_bringsL h hW hk i (v + 1) (by omega) (by omega) (by
        show (anyB (fun p => hear G k p && W p (lo_ G k)) v || (hear G k v && W v (lo_ G k))) = false
        rw [hb, c]; rfl)
      have yes : hear G k v = true → (if (σ (3 + 17) v >>> (nI (lo_ G k) &&& 31)) &&& 1 = 1 then some 1 else fn_X5_bringsWanted_b32 n 3 (nI k) σ i (nI (lr G k)) (bI (el (scn G) (lr G k))) (nI (v + 1))) = some (bI (brg G W k)) := fun c => by
        cases cw : W v (lo_ G k) with
        | true =>
          rw [if_pos ((ma_b1 _ (show lo_ G k < 32 by omega)).mpr (eb.trans cw))]
          unfold brg
          rw [anyB_t (v := v) (by rw [c, cw]; rfl) hv]
          rfl
        | false =>
          rw [if_neg (fun q => by have := (ma_b1 _ (show lo_ G k < 32 by omega)).mp q; rw [eb, cw] at this; cases this)]
          exact ih (by rw [cw, Bool.and_false])
      have no : hear G k v = false → fn_X5_bringsWanted_b32 n 3 (nI k) σ i (nI (lr G k)) (bI (el (scn G) (lr G k))) (nI (v + 1)) = some (bI (brg G W k)) := fun c => ih (by rw [c]; rfl)
      cases ce : el (scn G) (lr G k) with
      | true =>
        rw [ce] at yes no
        rw [if_neg (show ¬ bI true = 0 from n10)]
        by_cases zr : v = lr G k
        · rw [if_pos (congrArg nI zr)]
          exact no (by unfold hear; rw [ce, if_pos rfl]; exact decide_eq_false (fun q => q zr))
        · rw [if_neg (neL (by omega) (by omega) zr)]
          exact yes (by unfold hear; rw [ce, if_pos rfl]; exact decide_eq_true zr)
      | false =>
        rw [ce] at yes no
        rw [if_pos (show bI false = 0 from rfl)]
        by_cases zr : v = lr G k
        · rw [if_pos (congrArg nI zr)]
          exact yes (by unfold hear; rw [ce, if_neg (by decide)]; exact decide_eq_true zr)
        · rw [if_neg (neL (by omega) (by omega) zr)]
          exact no (by unfold hear; rw [ce, if_neg (by decide)]; exact decide_eq_false zr)
theorem sp_brings {n k : Nat} {G : Gs} {σ : Sg} {W : Nat → Nat → Bool} (hn : 20 ≤ n) (h : RC G σ) (hW : ∀ p, p < 10 → IsB (σ 20 p) 8 (W p)) (hk : k < ls G) (hr : lr G k < cnt G) : fn_X5_bringsWanted n 3 (nI k) σ = some (bI (brg G W k)) := by
  have g := h.1.1
  have h10 : cnt G ≤ 10 := (cnt_ok g.1).1
  have h12 : ls G ≤ 12 := g.2.2.2.1
  have e12 : σ (3 + 9) k = nI (lr G k) := (h.1.2.2.2.2.1.2 k hk).2.1
  have e7 : σ (3 + 4) (lr G k) = 1 ↔ el (scn G) (lr G k) = true := (h.1.VF.2.2 (lr G k) hr).2.2.2.2.1
  unfold fn_X5_bringsWanted fn_X5_bringsWanted_b28
  rw [if_pos (ma_ib (by omega) (by omega)), ma_cl (by omega), e12, if_pos (ma_ib (by omega) (by omega)), ma_cl (by omega)]
  have q := sp_bringsL (n := n) h hW hk n 0 (by omega) (by omega) rfl
  cases ce : el (scn G) (lr G k) with
  | true => rw [if_pos (e7.mpr ce)]; rw [ce] at q; exact q
  | false => rw [if_neg (fun c => by rw [e7.mp c] at ce; cases ce)]; rw [ce] at q; exact q
def wnt (G : Gs) (W : Nat → Nat → Bool) (p : Nat) (o : Option Nat) (q v : Nat) : Bool := W q v || (decide (q = p) && decide (o = some v) && !(om G p).testBit v)
theorem IsB.one {w n : Nat} (hw : w < n) (hn : n ≤ 32) : IsB (1 <<< (nI w &&& 31)) n (fun i => decide (i = w)) := fun i hi => by
  rw [ma_shl1 (by omega) hi]
  by_cases c : i < n
  · rw [decide_eq_true c]; rfl
  · rw [decide_eq_false c, decide_eq_false (by omega)]; rfl
theorem IsB.and {x y : Int32} {n : Nat} {f g : Nat → Bool} (h : IsB x n f) (h2 : IsB y n g) : IsB (x &&& y) n (fun i => f i && g i) := fun i hi => by
  rw [b_and, h i hi, h2 i hi]
  cases decide (i < n) <;> rfl
theorem sp_want {p : Nat} {o : Option Nat} {G : Gs} {σ : Sg} {W : Nat → Nat → Bool} (h : RC G σ) (hp : p < 10) (ho : ∀ w, o = some w → w < 8) (hW : ∀ p, p < 10 → IsB (σ 20 p) 8 (W p)) : ∃ σ', fn_X5_want 3 (nI p) (oI o) σ = some σ' ∧ RC G σ' ∧ (∀ q, q < 10 → IsB (σ' 20 q) 8 (wnt G W p o q)) ∧ ∀ k, k ≠ 20 → σ' k = σ k := by
  have g := h.1.1
  unfold fn_X5_want
  cases o with
  | none =>
    rw [if_pos (show oI none = -1 from rfl)]
    refine ⟨σ, rfl, h, fun q hq => (hW q hq).congr (fun v _ => ?_), fun _ _ => rfl⟩
    unfold wnt
    rw [decide_eq_false (show ¬ none = some v from fun e => by cases e), Bool.and_false, Bool.false_and, Bool.or_false]
  | some w =>
    have hw := ho w rfl
    have I : ag_ib (nI p) 10 = true := ma_ib hp (by omega)
    have e9 : σ (3 + 6) p = nI (om G p) := h.1.2.2.1 p hp
    rw [if_neg (show ¬ oI (some w) = -1 from ma_m1 (by omega)), if_pos I, if_pos I, if_pos I, ma_cl (by omega), e9]
    refine ⟨_, rfl, h.keep (fun k k1 k2 => ag_up_ne (by omega)), fun q hq => ?_, fun k hk => ag_up_ne hk⟩
    by_cases z : q = p
    · rw [z, show ag_up σ (3 + 17) p _ 20 p = _ from ma_up_s σ 20 p _]
      refine ((hW p hp).or ((IsB.one hw (show 8 ≤ 32 by omega)).andn (IsB.ofN (g.2.2.1 p hp) (show 8 ≤ 32 by omega)))).congr (fun v hv => ?_)
      unfold wnt
      have : decide (some w = some v) = decide (v = w) := decide_eq_decide.mpr ⟨fun e => (Option.some.inj e).symm, fun e => by rw [e]⟩
      rw [decide_eq_true rfl, this, Bool.true_and]
    · rw [show ag_up σ (3 + 17) p _ 20 q = _ from ma_up_i (k := 20) z 20]
      refine (hW q hq).congr (fun v _ => ?_)
      unfold wnt
      rw [decide_eq_false z, Bool.false_and, Bool.false_and, Bool.or_false]
/-- what holds of helpful letters and wanted words all the while -/
def HW (G : Gs) (per : Nat) (ws : Nat → Bool) (H : Nat → Bool) (W : Nat → Nat → Bool) : Prop := (∀ k, k < ls G → H k = true → (W (lw G k) (lo_ G k) = true ∨ (om G (lw G k)).testBit (lo_ G k) = true) ∧ ∀ w, ln_ G k = some w → W (lr G k) w = true ∨ (om G (lr G k)).testBit w = true) ∧ (∀ v, v < 8 → ws v = true → W per v = true ∨ (om G per).testBit v = true) ∧ ∀ q v, W q v = true → q = per ∨ ∃ k, k < ls G ∧ H k = true ∧ (q = lw G k ∨ q = lr G k)
theorem wnt_up {G : Gs} {W : Nat → Nat → Bool} {p : Nat} {o : Option Nat} {q v : Nat} (h : W q v = true) : wnt G W p o q v = true := by
  unfold wnt
  rw [h, Bool.true_or]
theorem wnt_at {G : Gs} {W : Nat → Nat → Bool} {p v : Nat} : wnt G W p (some v) p v = true ∨ (om G p).testBit v = true := by
  unfold wnt
  rw [decide_eq_true rfl, decide_eq_true rfl]
  cases (om G p).testBit v with
  | true => exact Or.inr rfl
  | false => exact Or.inl (by rw [Bool.or_comm]; rfl)
theorem wnt_of {G : Gs} {W : Nat → Nat → Bool} {p : Nat} {o : Option Nat} {q v : Nat} (h : wnt G W p o q v = true) : W q v = true ∨ q = p := by
  unfold wnt at h
  cases c : W q v with
  | true => exact Or.inl rfl
  | false =>
    rw [c, Bool.false_or] at h
    simp only [Bool.and_eq_true, decide_eq_true_eq] at h
    exact Or.inr h.1.1
theorem HW.add {G : Gs} {per v : Nat} {ws H : Nat → Bool} {W : Nat → Nat → Bool} (h : HW G per ws H W) (hv : v < ls G) : HW G per ws (fun i => H i || decide (i = v)) (wnt G (wnt G W (lw G v) (some (lo_ G v))) (lr G v) (ln_ G v)) := by
  refine ⟨fun k hk hh => ?_, fun u hu hs => ?_, fun q u hw => ?_⟩
  · by_cases z : k = v
    · rw [z]
      constructor
      · rcases wnt_at (G := G) (W := W) (p := lw G v) (v := lo_ G v) with c | c
        · exact Or.inl (wnt_up c)
        · exact Or.inr c
      · intro w e
        rw [e]
        exact wnt_at
    · have hh : H k = true := by
        have hh : (H k || decide (k = v)) = true := hh
        rw [decide_eq_false z, Bool.or_false] at hh
        exact hh
      obtain ⟨a, b⟩ := h.1 k hk hh
      constructor
      · rcases a with c | c
        · exact Or.inl (wnt_up (wnt_up c))
        · exact Or.inr c
      · intro w e
        rcases b w e with c | c
        · exact Or.inl (wnt_up (wnt_up c))
        · exact Or.inr c
  · rcases h.2.1 u hu hs with c | c
    · exact Or.inl (wnt_up (wnt_up c))
    · exact Or.inr c
  · have hvv : (H v || decide (v = v)) = true := by rw [decide_eq_true rfl, Bool.or_true]
    rcases wnt_of hw with c | c
    · rcases wnt_of c with c | c
      · rcases h.2.2 q u c with d | ⟨k, k1, k2, k3⟩
        · exact Or.inl d
        · exact Or.inr ⟨k, k1, (by show (H k || decide (k = v)) = true; rw [k2]; rfl), k3⟩
      · exact Or.inr ⟨v, hv, hvv, Or.inl c⟩
    · exact Or.inr ⟨v, hv, hvv, Or.inr c⟩
def Fixd (G : Gs) (Y : Nat) (H : Nat → Bool) (W : Nat → Nat → Bool) (m : Nat) : Prop := ∀ k, k < m → H k = false → Y < dueY (scn G) k ∨ brg G W k = false
def StH (G : Gs) (Y per : Nat) (ws : Nat → Bool) (σ0 : Sg) (h : Int32) (H : Nat → Bool) (W : Nat → Nat → Bool) (σ : Sg) : Prop := RC G σ ∧ IsB h (ls G) H ∧ (∀ p, p < 10 → IsB (σ 20 p) 8 (W p)) ∧ HW G per ws H W ∧ (∀ k, k ≠ 20 → σ k = σ0 k) ∧ ∀ k, k < ls G → H k = true → dueY (scn G) k ≤ Y
theorem sp_helpL {n Y r per : Nat} {G : Gs} {ws : Nat → Bool} {σ0 : Sg} {x1 x2 : Int32} {K : Int32 → Int32 → Sg → Option (Int32 × Sg)} {Q : Option (Int32 × Sg) → Prop} (hn : 20 ≤ n) (hY : Y < 200) (hK : ∀ h H W σ, StH G Y per ws σ0 h H W σ → Fixd G Y H W (ls G) ∨ r + 1 ≤ bc H (ls G) → Q (K h (nI r + 1) σ)) : ∀ (i v : Nat) (h : Int32) (H : Nat → Bool) (W : Nat → Nat → Bool) (σ : Sg), ls G < i + v → v ≤ ls G → StH G Y per ws σ0 h H W σ → (Fixd G Y H W (ls G) ∨ r + 1 ≤ bc H (ls G) ∨ (r ≤ bc H (ls G) ∧ Fixd G Y H W v)) → Q (fn_X5_helpfulFor_b48 n 3 x1 x2 (nI Y) K i h (nI r) (nI v) σ)
  | 0, v, h, H, W, σ, a, b, hs, hi => by omega
  | i + 1, v, h, H, W, σ, a, b, hs, hi => by
    have hs0 := hs
    obtain ⟨hc, hH, hW, hw, hf, hdu⟩ := hs
    have g := hc.1.1
    have h10 : cnt G ≤ 10 := (cnt_ok g.1).1
    have h12 : ls G ≤ 12 := g.2.2.2.1
    unfold fn_X5_helpfulFor_b48 fn_X5_helpfulFor_b146
    rw [show σ (3 + 7) 0 = _ from hc.1.2.2.2.2.1.1]
    by_cases z : v = ls G
    · rw [if_pos (nI_le (show ls G ≤ v by omega) (by omega))]
      refine hK h H W σ hs0 ?_
      rcases hi with c | c | ⟨-, c⟩
      · exact Or.inl c
      · exact Or.inr c
      · exact Or.inl (z ▸ c)
    · have hv : v < ls G := by omega
      have eb := hH.at hv (by omega)
      rw [if_neg (nI_ge (by omega) (by omega)), nI_1 v]
      have skip : H v = true ∨ Y < dueY (scn G) v ∨ brg G W v = false → Q (fn_X5_helpfulFor_b48 n 3 x1 x2 (nI Y) K i h (nI r) (nI (v + 1)) σ) := fun c => by
        refine sp_helpL hn hY hK i (v + 1) h H W σ (by omega) (by omega) hs0 ?_
        rcases hi with d | d | ⟨d1, d2⟩
        · exact Or.inl d
        · exact Or.inr (Or.inl d)
        · refine Or.inr (Or.inr ⟨d1, fun k hk hh => ?_⟩)
          by_cases zz : k = v
          · rw [zz] at hh ⊢
            rcases c with c | c
            · rw [c] at hh; cases hh
            · exact c
          · exact d2 k (by omega) hh
      cases cH : H v with
      | true =>
        rw [if_neg (fun q => by have := (ma_b0 _ (show v < 32 by omega)).mp q; rw [eb, cH] at this; cases this)]
        exact skip (Or.inl cH)
      | false =>
        have dh := due_hi (b := 3) hc.1.VF v
        rw [if_pos ((ma_b0 _ (show v < 32 by omega)).mpr (eb.trans cH)), sp_due hc.1.Vw hv, Option.bind_some]
        by_cases cd : Y < dueY (scn G) v
        · rw [if_pos (nI_lt cd dh)]
          exact skip (Or.inr (Or.inl cd))
        · have hr : lr G v < cnt G := (lvs_iff.mp (due_le hY (show dueY (scn G) v ≤ Y by omega)).2.2).1
          rw [if_neg (fun q => cd ((nI_ltI (by omega) dh).mp q)), sp_brings hn hc hW hv hr, Option.bind_some]
          cases cb : brg G W v with
          | false =>
            rw [if_pos (show bI false = 0 from rfl)]
            exact skip (Or.inr (Or.inr cb))
          | true =>
            obtain ⟨l1, l2, l3, l4, l5⟩ := hc.1.2.2.2.2.1.2 v hv
            obtain ⟨g1, g2, g3, g4, g5, g6⟩ := g.2.2.2.2.1 v hv
            have I : ag_ib (nI v) 13 = true := ma_ib (by omega) (by omega)
            obtain ⟨σ1, r1, r2, r3, r4⟩ := sp_want (o := some (lo_ G v)) hc g1 (fun w e => by cases e; exact g5) hW
            obtain ⟨σ2, s1, s2, s3, s4⟩ := sp_want (o := ln_ G v) r2 g2 g6 r3
            have e11 : σ (3 + 8) v = nI (lw G v) := l1
            have e14 : σ (3 + 11) v = nI (lo_ G v) := l4
            have e12 : σ1 (3 + 9) v = nI (lr G v) := by rw [r4 _ (by decide)]; exact l2
            have e15 : σ1 (3 + 12) v = oI (ln_ G v) := by rw [r4 _ (by decide)]; exact l5
            rw [if_neg (show ¬ bI true = 0 from n10), if_pos I, if_pos I, ma_cl (by omega), e11, e14, show fn_X5_want 3 (nI (lw G v)) (nI (lo_ G v)) σ = _ from r1, Option.bind_some, if_pos I, if_pos I, e12, e15, s1, Option.bind_some]
            refine sp_helpL hn hY hK i (v + 1) _ (fun i => H i || decide (i = v)) (wnt G (wnt G W (lw G v) (some (lo_ G v))) (lr G v) (ln_ G v)) σ2 (by omega) (by omega) ⟨s2, hH.set hv (by omega), s3, hw.add hv, fun k hk => (by rw [s4 k hk, r4 k hk, hf k hk]), fun k hk hh => (by
              by_cases zz : k = v
              · rw [zz]; omega
              · have hh : (H k || decide (k = v)) = true := hh
                rw [decide_eq_false zz, Bool.or_false] at hh
                exact hdu k hk hh)⟩ (Or.inr (Or.inl ?_))
            rw [bc_set cH, if_pos hv]
            rcases hi with d | d | ⟨d1, d2⟩
            · rcases d v hv cH with q | q
              · omega
              · rw [q] at cb; cases cb
            · omega
            · omega
theorem sp_helpR {n Y per : Nat} {G : Gs} {ws : Nat → Bool} {σ0 : Sg} {x1 x2 : Int32} (hn : 20 ≤ n) (hY : Y < 200) : ∀ (i r : Nat) (h : Int32) (H : Nat → Bool) (W : Nat → Nat → Bool) (σ : Sg), ls G < i + r → r ≤ ls G → StH G Y per ws σ0 h H W σ → (Fixd G Y H W (ls G) ∨ r ≤ bc H (ls G)) → ∃ h' H' W' σ', fn_X5_helpfulFor_b33 n 3 x1 x2 (nI Y) i h (nI r) σ = some (h', σ') ∧ StH G Y per ws σ0 h' H' W' σ' ∧ Fixd G Y H' W' (ls G)
  | 0, r, h, H, W, σ, a, b, hs, hi => by omega
  | i + 1, r, h, H, W, σ, a, b, hs, hi => by
    have h12 : ls G ≤ 12 := hs.1.1.1.2.2.2.1
    unfold fn_X5_helpfulFor_b33
    rw [show σ (3 + 7) 0 = _ from hs.1.1.2.2.2.2.1.1]
    by_cases z : r = ls G
    · rw [if_pos (nI_le (show ls G ≤ r by omega) (by omega))]
      refine ⟨h, H, W, σ, rfl, hs, ?_⟩
      rcases hi with c | c
      · exact c
      · intro k hk hh
        rw [bc_full (f := H) (n := ls G) (by omega) k hk] at hh
        cases hh
    · rw [if_neg (nI_ge (by omega) (by omega))]
      refine sp_helpL (Q := fun o => ∃ h' H' W' σ', o = some (h', σ') ∧ StH G Y per ws σ0 h' H' W' σ' ∧ Fixd G Y H' W' (ls G)) hn hY (fun h1 H1 W1 σ1 hs1 hi1 => ?_) n 0 h H W σ (by omega) (by omega) hs ?_
      · rw [nI_1 r]
        exact sp_helpR hn hY i (r + 1) h1 H1 W1 σ1 (by omega) (by omega) hs1 hi1
      · rcases hi with c | c
        · exact Or.inl c
        · exact Or.inr (Or.inr ⟨c, fun k hk => by omega⟩)
theorem sp_helpful {n Y per : Nat} {G : Gs} {ws : Nat → Bool} {σ : Sg} {x2 : Int32} (hn : 20 ≤ n) (hY : Y < 200) (hc : RC G σ) (hp : per < 10) (hx : IsB x2 8 ws) : ∃ h' H' W' σ', fn_X5_helpfulFor n 3 (nI per) x2 (nI Y) σ = some (h', σ') ∧ StH G Y per ws σ h' H' W' σ' ∧ Fixd G Y H' W' (ls G) := by
  have g := hc.1.1
  have h12 : ls G ≤ 12 := g.2.2.2.1
  obtain ⟨σ1, f1, f2, f3, -⟩ := sp_fillN (n := n) (c := 20) (N := 10) (x := 0) (by omega) n 0 σ (by omega) (by omega)
  have hc1 : RC G σ1 := hc.keep (fun k k1 k2 => f2 k (by omega))
  have I : ag_ib (nI per) 10 = true := ma_ib hp (by omega)
  have e9 : σ1 (3 + 6) per = nI (om G per) := hc1.1.2.2.1 per hp
  unfold fn_X5_helpfulFor fn_J7_fill_53178
  rw [show fn_J7_fill_53178_b5 n (3 + 17) 10 0 n 0 (Int32.ofNat 10) σ = _ from f1, Option.bind_some, if_pos I, if_pos I, ma_cl (by omega), e9]
  refine sp_helpR hn hY n 0 0 (fun _ => false) (fun q v => decide (q = per) && (ws v && !(om G per).testBit v)) _ (by omega) (by omega) ⟨hc1.keep (fun k k1 k2 => ag_up_ne (by omega)), IsB.zero _, fun p hpp => ?_, ⟨fun k _ hh => (by cases hh), fun v hv hs => ?_, fun q v hw => ?_⟩, fun k hk => ?_, fun k _ hh => (by cases hh)⟩ (Or.inr (by omega))
  · by_cases z : p = per
    · rw [z, show ag_up σ1 (3 + 17) per _ 20 per = _ from ma_up_s σ1 20 per _]
      exact (hx.andn (IsB.ofN (g.2.2.1 per hp) (show 8 ≤ 32 by omega))).congr (fun v _ => by dsimp only; rw [decide_eq_true rfl, Bool.true_and])
    · rw [show ag_up σ1 (3 + 17) per _ 20 p = _ from ma_up_i (k := 20) z 20, f3 p (by omega) hpp]
      exact (IsB.zero 8).congr (fun v _ => by dsimp only; rw [decide_eq_false z, Bool.false_and])
  · dsimp only
    rw [hs, decide_eq_true rfl]
    cases (om G per).testBit v with
    | true => exact Or.inr rfl
    | false => exact Or.inl rfl
  · simp only [Bool.and_eq_true, decide_eq_true_eq] at hw
    exact Or.inl hw.1
  · rw [ag_up_ne hk, f2 k hk]
