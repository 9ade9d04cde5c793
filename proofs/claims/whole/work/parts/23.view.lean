/-! ===== how the class holds people and letters, and what was lived ===== -/
def bI (c : Bool) : Int32 := if c = true then 1 else 0
theorem bI_t : bI true = 1 := rfl
theorem bI_f : bI false = 0 := rfl
def oI : Option Nat → Int32
  | none => -1
  | some w => nI w
theorem nI_lit1 : (1 : Int32) = nI 1 := rfl
theorem nI_lit8 : (8 : Int32) = nI 8 := rfl
theorem nI_lit200 : (200 : Int32) = nI 200 := rfl
/-- people at f -/
def VF (f : Nat) (S : Sc) (σ : Sg) : Prop := σ f 0 = nI (cn S) ∧ cn S ≤ 10 ∧ ∀ p, p < cn S → σ (f + 1) p = nI (bo S p) ∧ bo S p < 100 ∧ σ (f + 2) p = nI (en S p) ∧ en S p ≤ 100 ∧ (σ (f + 3) p = 1 ↔ el S p = true) ∧ σ (f + 4) p = nI (mo S p) ∧ mo S p ≤ 5 ∧ IsB (σ (f + 5) p) 8 (ow S p)
/-- letters at g -/
def VP (g : Nat) (S : Sc) (σ : Sg) : Prop := σ g 0 = nI (sz S) ∧ sz S ≤ 13 ∧ ∀ k, k < sz S → σ (g + 1) k = nI (wr S k) ∧ wr S k < 10 ∧ σ (g + 2) k = nI (rd S k) ∧ rd S k < 10 ∧ σ (g + 3) k = nI (yr S k) ∧ yr S k < 200 ∧ σ (g + 4) k = nI (wd S k) ∧ wd S k < 8 ∧ σ (g + 5) k = oI (nd S k) ∧ ∀ w, nd S k = some w → w < 8
def Vw (b : Nat) (S : Sc) (σ : Sg) : Prop := VF (b + 1) S σ ∧ VP (b + 7) S σ ∧ ∀ k, k < sz S → bt (σ b 2) k = !ac S k
theorem sp_isThere {f p : Nat} {S : Sc} {σ : Sg} (h : VF f S σ) (hp : p < 2 ^ 31) : fn_X1_isThere f (nI p) σ = some (bI (decide (p < cn S))) := by
  obtain ⟨h1, h2, -⟩ := h
  unfold fn_X1_isThere
  rw [if_neg (nI_pos hp), h1]
  by_cases c : p < cn S
  · rw [if_neg (nI_ge c (by omega)), decide_eq_true c]; rfl
  · rw [if_pos (nI_le (by omega) hp), decide_eq_false c]; rfl
theorem sp_lives {f p y : Nat} {S : Sc} {σ : Sg} (h : VF f S σ) (hp : p < 2 ^ 31) (hy : y < 2 ^ 31) : fn_X1_lives f (nI p) (nI y) σ = some (bI (lvs S p y)) := by
  obtain ⟨h1, h2, h3⟩ := h
  unfold fn_X1_lives lvs
  rw [if_neg (nI_pos hp), h1]
  by_cases c : p < cn S
  · obtain ⟨e1, e2, e3, e4, -⟩ := h3 p c
    rw [if_neg (nI_ge c (by omega)), ma_cl hp, e1, e3, nI_add, if_pos (ma_ib (by omega) (by omega)), decide_eq_true c]
    by_cases c2 : bo S p ≤ y
    · rw [if_neg (nI_nlt c2 hy), if_pos (ma_ib (by omega) (by omega)), if_pos (ma_ib (by omega) (by omega)), decide_eq_true c2]
      by_cases c3 : y ≤ bo S p + en S p
      · rw [if_neg (nI_nlt c3 (by omega)), decide_eq_true c3]; rfl
      · rw [if_pos (nI_lt (by omega) hy), decide_eq_false c3]; rfl
    · rw [if_pos (nI_lt (by omega) (by omega)), decide_eq_false c2]; rfl
  · rw [if_pos (nI_le (by omega) hp), decide_eq_false c]; rfl
theorem sp_told {f p y : Nat} {S : Sc} {σ : Sg} (h : VF f S σ) (hp : p < cn S) (hb : bo S p ≤ y) (hy : y < 2 ^ 31) : fn_X1_toldAge f (nI p) (nI y) σ = some (nI (tls S p y)) := by
  obtain ⟨h1, h2, h3⟩ := h
  obtain ⟨e1, e2, e3, e4, e5, e6, e7, -⟩ := h3 p hp
  unfold fn_X1_toldAge tls
  rw [if_pos (ma_ib (by omega) (by omega)), if_pos (ma_ib (by omega) (by omega)), ma_cl (by omega), e1, e6, pk_sub hb, nI_add]
theorem ma_max0 {a b : Nat} (ha : a < 2 ^ 30) (hb : b < 2 ^ 30) : ag_max 0 (nI a - nI b) = nI (a - b) := by
  unfold ag_max
  by_cases h : b < a
  · rw [pk_sub (by omega), ← nI_0, if_pos (nI_lt (by omega) (by omega))]
  · rw [show a - b = 0 by omega, nI_0]
    split
    · next q =>
      exfalso
      rw [Int32.lt_iff_toInt_lt, pk_sub_toInt ha hb] at q
      have : (0 : Int32).toInt = 0 := rfl
      omega
    · rfl
/-- what the class has lived: at b the state st -/
def RK (b : Nat) (S : Sc) (K : Nat → Nat → Option Nat) (σ : Sg) : Prop := ∀ p, p < cn S → IsB (σ (b + 15) p) 8 (fun w => (K p w).isSome) ∧ ∀ w, w < 8 → ∀ t, K p w = some t → ow S p w = false → σ (b + 16) (p * 8 + w) = nI t
def RO (b : Nat) (S : Sc) (O : Nat → Option Nat) (σ : Sg) : Prop := IsB (σ b 4) (sz S) (fun k => (O k).isSome) ∧ ∀ k, k < sz S → ∀ t, O k = some t → σ (b + 13) k = nI t
def RW (b : Nat) (S : Sc) (W : Nat → Bool) (σ : Sg) : Prop := IsB (σ b 3) (sz S) W ∧ ∀ k, k < sz S → W k = true → σ (b + 14) k = nI (dueY S k)
def Rs (b : Nat) (S : Sc) (st : Ys) (σ : Sg) : Prop := RW b S st.1 σ ∧ RO b S st.2.1 σ ∧ RK b S st.2.2 σ
/-- living changes only these -/
def Kp (b : Nat) (σ σ' : Sg) : Prop := (∀ i, i ≠ 3 → i ≠ 4 → σ' b i = σ b i) ∧ ∀ k, k ≠ b → k ≠ b + 13 → k ≠ b + 14 → k ≠ b + 15 → k ≠ b + 16 → σ' k = σ k
theorem Kp.rf (b : Nat) (σ : Sg) : Kp b σ σ := ⟨fun _ _ _ => rfl, fun _ _ _ _ _ _ => rfl⟩
theorem Kp.tr {b : Nat} {σ σ' σ'' : Sg} (h : Kp b σ σ') (h2 : Kp b σ' σ'') : Kp b σ σ'' :=
  ⟨fun i a c => (h2.1 i a c).trans (h.1 i a c), fun k a1 a2 a3 a4 a5 => (h2.2 k a1 a2 a3 a4 a5).trans (h.2 k a1 a2 a3 a4 a5)⟩
theorem kp_VF {b : Nat} {S : Sc} {σ σ' : Sg} (h : Kp b σ σ') (hv : VF (b + 1) S σ) : VF (b + 1) S σ' := by
  unfold VF at hv ⊢
  rw [h.2 (b + 1) (by omega) (by omega) (by omega) (by omega) (by omega), h.2 (b + 1 + 1) (by omega) (by omega) (by omega) (by omega) (by omega), h.2 (b + 1 + 2) (by omega) (by omega) (by omega) (by omega) (by omega), h.2 (b + 1 + 3) (by omega) (by omega) (by omega) (by omega) (by omega), h.2 (b + 1 + 4) (by omega) (by omega) (by omega) (by omega) (by omega), h.2 (b + 1 + 5) (by omega) (by omega) (by omega) (by omega) (by omega)]
  exact hv
theorem kp_VP {b : Nat} {S : Sc} {σ σ' : Sg} (h : Kp b σ σ') (hv : VP (b + 7) S σ) : VP (b + 7) S σ' := by
  unfold VP at hv ⊢
  rw [h.2 (b + 7) (by omega) (by omega) (by omega) (by omega) (by omega), h.2 (b + 7 + 1) (by omega) (by omega) (by omega) (by omega) (by omega), h.2 (b + 7 + 2) (by omega) (by omega) (by omega) (by omega) (by omega), h.2 (b + 7 + 3) (by omega) (by omega) (by omega) (by omega) (by omega), h.2 (b + 7 + 4) (by omega) (by omega) (by omega) (by omega) (by omega), h.2 (b + 7 + 5) (by omega) (by omega) (by omega) (by omega) (by omega)]
  exact hv
theorem kp_Vw {b : Nat} {S : Sc} {σ σ' : Sg} (h : Kp b σ σ') (hv : Vw b S σ) : Vw b S σ' := by
  refine ⟨kp_VF h hv.1, kp_VP h hv.2.1, ?_⟩
  rw [h.1 2 (by omega) (by omega)]
  exact hv.2.2
theorem kp_b {b i : Nat} {σ : Sg} {v : Int32} (hi : i = 3 ∨ i = 4) : Kp b σ (ag_up σ b i v) :=
  ⟨fun j h3 h4 => ma_up_n (fun q => by omega), fun k h1 _ _ _ _ => by funext j; exact ma_up_n (fun q => h1 q.1)⟩
theorem kp_c {b c i : Nat} {σ : Sg} {v : Int32} (hc : c = b + 13 ∨ c = b + 14 ∨ c = b + 15 ∨ c = b + 16) : Kp b σ (ag_up σ c i v) :=
  ⟨fun j h3 h4 => ma_up_n (fun q => by omega), fun k h1 h2 h3 h4 h5 => by funext j; exact ma_up_n (fun q => by omega)⟩
theorem sp_due {b k : Nat} {S : Sc} {σ : Sg} (h : Vw b S σ) (hk : k < sz S) : fn_X5_dueYear b (nI k) σ = some (nI (dueY S k)) := by
  obtain ⟨hF, hP, -⟩ := h
  obtain ⟨-, hz, hL⟩ := hP
  obtain ⟨a1, a2, a3, a4, a5, a6, -⟩ := hL k hk
  have a1 : σ (b + 8) k = nI (wr S k) := a1
  have a3 : σ (b + 9) k = nI (rd S k) := a3
  have a5 : σ (b + 10) k = nI (yr S k) := a5
  have ib : ag_ib (nI k) 13 = true := ma_ib (by omega) (by omega)
  unfold fn_X5_dueYear
  rw [if_pos ib, if_pos ib, if_pos ib, ma_cl (by omega), a1, a3, a5, sp_lives hF (by omega) (by omega), Option.bind_some]
  unfold dueY
  by_cases c1 : lvs S (wr S k) (yr S k) = true
  · have l1 := lvs_iff.mp c1
    rw [c1, bI_t, if_neg (by decide), sp_isThere hF (by omega), Option.bind_some]
    by_cases c2 : rd S k < cn S
    · obtain ⟨e1, e2, e3, e4, e5, e6, e7, -⟩ := hF.2.2 (rd S k) c2
      obtain ⟨w1, w2, w3, w4, w5, w6, w7, -⟩ := hF.2.2 (wr S k) l1.1
      have e1 : σ (b + 2) (rd S k) = nI (bo S (rd S k)) := e1
      have e6 : σ (b + 5) (rd S k) = nI (mo S (rd S k)) := e6
      have ib2 : ag_ib (nI (rd S k)) 10 = true := ma_ib (by omega) (by omega)
      have ht : tls S (wr S k) (yr S k) < 1000 := by unfold tls; omega
      rw [decide_eq_true c2, bI_t, if_neg (by decide), sp_told hF l1.1 l1.2.1 (by omega), Option.bind_some, if_pos ib2, if_pos ib2, ma_cl (show rd S k < 2 ^ 31 by omega), e1, e6, ma_max0 (by omega) (by omega), nI_add, ma_max (by omega) (by omega)]
      have hd : max (yr S k) (bo S (rd S k) + (tls S (wr S k) (yr S k) - mo S (rd S k))) = du0 S k := rfl
      have hd2 : du0 S k < 2 ^ 31 := by unfold du0; omega
      rw [hd, sp_lives hF (by omega) hd2, Option.bind_some]
      by_cases c3 : lvs S (rd S k) (du0 S k) = true
      · rw [c3, bI_t, if_neg (by decide), if_pos (by rfl)]
      · simp only [Bool.not_eq_true] at c3
        rw [c3, bI_f, if_pos rfl, if_neg (by decide)]
        rfl
    · rw [decide_eq_false c2, bI_f, if_pos rfl, if_neg (by simp)]
      rfl
  · simp only [Bool.not_eq_true] at c1
    rw [c1, bI_f, if_pos rfl, if_neg (by simp)]
    rfl
