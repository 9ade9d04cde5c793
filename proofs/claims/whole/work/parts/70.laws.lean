/-! ===== the law's loop ===== -/
theorem RM.hi {G : Gs} {τ τ' : Sg} (h : RM G τ) (e : ∀ k, 53 ≤ k → τ' k = τ k) : RM G τ' := h.k53 (fun i _ _ => by rw [e 53 (by omega)]) (fun k q => e k (by omega)) (fun k i a _ _ => by rw [e k (by omega)])
theorem RC.lo {G : Gs} {σ σ' : Sg} (h : RC G σ) (e : ∀ k, k < 53 → σ' k = σ k) : RC G σ' := h.keep (fun k k1 _ => e k k1)
theorem law_W {G : Gs} {σ : Sg} {f6 f7 : Sg → Option (Int32 × Sg)} (hm : RM G σ) (h : ∀ τ, RM G τ → ∃ a G', HC σ (f6 σ) a G' ∧ HM τ (f7 τ) a G') : ∃ a σ1 σ2 G', f6 σ = some (a, σ1) ∧ f7 σ1 = some (a, σ2) ∧ RC G' σ2 ∧ RM G' σ2 := by
  obtain ⟨a, G1, ⟨σ1, e1, r1, k1⟩, -⟩ := h σ hm
  obtain ⟨b, G2, ⟨σ3, e3, r3, k3⟩, σ2, e2, m2, k2⟩ := h σ1 (hm.hi k1)
  have e : (a, σ1) = (b, σ3) := Option.some.inj (e1.symm.trans e3)
  have ea : a = b := congrArg Prod.fst e
  have es : σ1 = σ3 := congrArg Prod.snd e
  exact ⟨a, σ1, σ2, G2, e1, by rw [e2, ea], (es ▸ r3 : RC G2 σ1).lo k2, m2⟩
theorem law_L {G : Gs} {σ : Sg} {f6 f7 : Sg → Option (Int64 × Sg)} (hm : RM G σ) (h : ∀ τ, RM G τ → ∃ a, HCL σ (f6 σ) a G ∧ HML τ (f7 τ) a G) : ∃ a σ1 σ2 G', f6 σ = some (a, σ1) ∧ f7 σ1 = some (a, σ2) ∧ RC G' σ2 ∧ RM G' σ2 := by
  obtain ⟨a, ⟨σ1, e1, r1, k1⟩, -⟩ := h σ hm
  obtain ⟨b, ⟨σ3, e3, r3, k3⟩, σ2, e2, m2, k2⟩ := h σ1 (hm.hi k1)
  have e : (a, σ1) = (b, σ3) := Option.some.inj (e1.symm.trans e3)
  have ea : a = b := congrArg Prod.fst e
  exact ⟨a, σ1, σ2, G, e1, by rw [e2, ea], r1.lo k2, m2⟩
theorem law_R {G : Gs} {σ : Sg} {o6 : Option Int32} {o7 : Option (Int32 × Sg)} (hc : RC G σ) (h : ∃ a, o6 = some a ∧ HM σ o7 a G) : ∃ a σ2, o6 = some a ∧ o7 = some (a, σ2) ∧ RC G σ2 ∧ RM G σ2 := by
  obtain ⟨a, e1, σ2, e2, m2, k2⟩ := h
  exact ⟨a, σ2, e1, e2, hc.lo k2, m2⟩
theorem lb_ib {v d Ls : Nat} (h : v + d < Ls) (hL : Ls ≤ 3072) : ag_ib (nI v + nI d) Ls = true := by
  rw [nI_add]
  exact ma_ib h (by omega)
def LK (v : Nat) (K : Int32 → Sg → Option (Int32 × Sg)) : Prop := ∀ G' σ', RC G' σ' → RM G' σ' → ∃ σ'', K (nI v + 6) σ' = some (1, σ'')
theorem lb_type {n Ls v : Nat} {xs : Nat → Int32} {K : Int32 → Sg → Option (Int32 × Sg)} {G : Gs} {σ : Sg} (hn : 5000 ≤ n) (hv : v + 6 ≤ Ls) (hL : Ls ≤ 3072) (hc : RC G σ) (hm : RM G σ) (hK : LK v K) : ∃ σ'', fn_L_law_b188 n Ls xs K (nI v) σ = some (1, σ'') := by
  have I1 : ag_ib (nI v + 1) Ls = true := lb_ib (d := 1) (by omega) hL
  obtain ⟨a, σ1, σ2, G', e1, e2, r, m⟩ := law_W (f6 := fun σ => fn_X6_type n (xs (nI v + 1).toNatClampNeg) σ) (f7 := fun τ => fn_X7_type (xs (nI v + 1).toNatClampNeg) τ) hm (fun τ ht => bo_type (n := n) (by omega) hc ht)
  have e1 : fn_X6_type n (xs (nI v + 1).toNatClampNeg) σ = some (a, σ1) := e1
  have e2 : fn_X7_type (xs (nI v + 1).toNatClampNeg) σ1 = some (a, σ2) := e2
  unfold fn_L_law_b188 fn_L_law_b1235
  rw [if_pos I1, e1, Option.bind_some]
  dsimp only
  rw [if_pos I1, e2, Option.bind_some]
  dsimp only
  rw [if_pos rfl]
  exact hK _ σ2 r m
theorem lb_wipe {n Ls v : Nat} {xs : Nat → Int32} {K : Int32 → Sg → Option (Int32 × Sg)} {G : Gs} {σ : Sg} (hn : 5000 ≤ n) (hv : v + 6 ≤ Ls) (hL : Ls ≤ 3072) (hc : RC G σ) (hm : RM G σ) (hK : LK v K) : ∃ σ'', fn_L_law_b211 n Ls xs K (nI v) σ = some (1, σ'') := by
  obtain ⟨a, σ1, σ2, G', e1, e2, r, m⟩ := law_W (f6 := fun σ => fn_X6_wipe n σ) (f7 := fun τ => fn_X7_wipe τ) hm (fun τ ht => bo_wipe (n := n) (by omega) hc ht)
  have e1 : fn_X6_wipe n σ = some (a, σ1) := e1
  have e2 : fn_X7_wipe σ1 = some (a, σ2) := e2
  unfold fn_L_law_b211 fn_L_law_b1235
  rw [e1, Option.bind_some]
  dsimp only
  rw [e2, Option.bind_some]
  dsimp only
  rw [if_pos rfl]
  exact hK _ σ2 r m
theorem lb_undo {n Ls v : Nat} {xs : Nat → Int32} {K : Int32 → Sg → Option (Int32 × Sg)} {G : Gs} {σ : Sg} (hn : 5000 ≤ n) (hv : v + 6 ≤ Ls) (hL : Ls ≤ 3072) (hc : RC G σ) (hm : RM G σ) (hK : LK v K) : ∃ σ'', fn_L_law_b224 n Ls xs K (nI v) σ = some (1, σ'') := by
  obtain ⟨a, σ1, σ2, G', e1, e2, r, m⟩ := law_W (f6 := fun σ => fn_X6_undo n σ) (f7 := fun τ => fn_X7_undo τ) hm (fun τ ht => bo_undo (n := n) (by omega) hc ht)
  have e1 : fn_X6_undo n σ = some (a, σ1) := e1
  have e2 : fn_X7_undo σ1 = some (a, σ2) := e2
  unfold fn_L_law_b224 fn_L_law_b1235
  rw [e1, Option.bind_some]
  dsimp only
  rw [e2, Option.bind_some]
  dsimp only
  rw [if_pos rfl]
  exact hK _ σ2 r m
theorem lb_fault {n Ls v : Nat} {xs : Nat → Int32} {K : Int32 → Sg → Option (Int32 × Sg)} {G : Gs} {σ : Sg} (hn : 5000 ≤ n) (hv : v + 6 ≤ Ls) (hL : Ls ≤ 3072) (hc : RC G σ) (hm : RM G σ) (hK : LK v K) : ∃ σ'', fn_L_law_b237 n Ls xs K (nI v) σ = some (1, σ'') := by
  obtain ⟨a, σ2, e1, e2, r, m⟩ := law_R (o6 := fn_X6_fault n σ) (o7 := fn_X7_fault n σ) hc ⟨_, bo_fault (n := n) (by omega) hc hm⟩
  unfold fn_L_law_b237 fn_L_law_b1235
  rw [e1, Option.bind_some]
  rw [e2, Option.bind_some]
  dsimp only
  rw [if_pos rfl]
  exact hK _ σ2 r m
theorem lb_person {n Ls v : Nat} {xs : Nat → Int32} {K : Int32 → Sg → Option (Int32 × Sg)} {G : Gs} {σ : Sg} (hn : 5000 ≤ n) (hv : v + 6 ≤ Ls) (hL : Ls ≤ 3072) (hc : RC G σ) (hm : RM G σ) (hK : LK v K) : ∃ σ'', fn_L_law_b250 n Ls xs K (nI v) σ = some (1, σ'') := by
  have I1 : ag_ib (nI v + 1) Ls = true := lb_ib (d := 1) (by omega) hL
  have I2 : ag_ib (nI v + 2) Ls = true := lb_ib (d := 2) (by omega) hL
  obtain ⟨a, σ2, e1, e2, r, m⟩ := law_R (o6 := fn_X6_person (xs (nI v + 1).toNatClampNeg) (xs (nI v + 2).toNatClampNeg) σ) (o7 := fn_X7_person n (xs (nI v + 1).toNatClampNeg) (xs (nI v + 2).toNatClampNeg) σ) hc (bo_person (n := n) (by omega) hc hm)
  unfold fn_L_law_b250 fn_L_law_b1235
  rw [if_pos I1, if_pos I2, e1, Option.bind_some]
  rw [if_pos I1, if_pos I2, e2, Option.bind_some]
  dsimp only
  rw [if_pos rfl]
  exact hK _ σ2 r m
theorem lb_knows {n Ls v : Nat} {xs : Nat → Int32} {K : Int32 → Sg → Option (Int32 × Sg)} {G : Gs} {σ : Sg} (hn : 5000 ≤ n) (hv : v + 6 ≤ Ls) (hL : Ls ≤ 3072) (hc : RC G σ) (hm : RM G σ) (hK : LK v K) : ∃ σ'', fn_L_law_b283 n Ls xs K (nI v) σ = some (1, σ'') := by
  have I1 : ag_ib (nI v + 1) Ls = true := lb_ib (d := 1) (by omega) hL
  have I2 : ag_ib (nI v + 2) Ls = true := lb_ib (d := 2) (by omega) hL
  obtain ⟨a, σ1, σ2, G', e1, e2, r, m⟩ := law_W (f6 := fun σ => fn_X6_knows n (xs (nI v + 1).toNatClampNeg) (xs (nI v + 2).toNatClampNeg) σ) (f7 := fun τ => fn_X7_knows (xs (nI v + 1).toNatClampNeg) (xs (nI v + 2).toNatClampNeg) τ) hm (fun τ ht => bo_knows (n := n) (by omega) hc ht)
  have e1 : fn_X6_knows n (xs (nI v + 1).toNatClampNeg) (xs (nI v + 2).toNatClampNeg) σ = some (a, σ1) := e1
  have e2 : fn_X7_knows (xs (nI v + 1).toNatClampNeg) (xs (nI v + 2).toNatClampNeg) σ1 = some (a, σ2) := e2
  unfold fn_L_law_b283 fn_L_law_b1235
  rw [if_pos I1, if_pos I2, e1, Option.bind_some]
  dsimp only
  rw [if_pos I1, if_pos I2, e2, Option.bind_some]
  dsimp only
  rw [if_pos rfl]
  exact hK _ σ2 r m
theorem lb_letter {n Ls v : Nat} {xs : Nat → Int32} {K : Int32 → Sg → Option (Int32 × Sg)} {G : Gs} {σ : Sg} (hn : 5000 ≤ n) (hv : v + 6 ≤ Ls) (hL : Ls ≤ 3072) (hc : RC G σ) (hm : RM G σ) (hK : LK v K) : ∃ σ'', fn_L_law_b316 n Ls xs K (nI v) σ = some (1, σ'') := by
  have I1 : ag_ib (nI v + 1) Ls = true := lb_ib (d := 1) (by omega) hL
  have I2 : ag_ib (nI v + 2) Ls = true := lb_ib (d := 2) (by omega) hL
  have I3 : ag_ib (nI v + 3) Ls = true := lb_ib (d := 3) (by omega) hL
  have I4 : ag_ib (nI v + 4) Ls = true := lb_ib (d := 4) (by omega) hL
  have I5 : ag_ib (nI v + 5) Ls = true := lb_ib (d := 5) (by omega) hL
  obtain ⟨a, σ1, σ2, G', e1, e2, r, m⟩ := law_W (f6 := fun σ => fn_X6_letter n (xs (nI v + 1).toNatClampNeg) (xs (nI v + 2).toNatClampNeg) (xs (nI v + 3).toNatClampNeg) (xs (nI v + 4).toNatClampNeg) (xs (nI v + 5).toNatClampNeg) σ) (f7 := fun τ => fn_X7_letter (xs (nI v + 1).toNatClampNeg) (xs (nI v + 2).toNatClampNeg) (xs (nI v + 3).toNatClampNeg) (xs (nI v + 4).toNatClampNeg) (xs (nI v + 5).toNatClampNeg) τ) hm (fun τ ht => bo_letter (n := n) (by omega) hc ht)
  have e1 : fn_X6_letter n (xs (nI v + 1).toNatClampNeg) (xs (nI v + 2).toNatClampNeg) (xs (nI v + 3).toNatClampNeg) (xs (nI v + 4).toNatClampNeg) (xs (nI v + 5).toNatClampNeg) σ = some (a, σ1) := e1
  have e2 : fn_X7_letter (xs (nI v + 1).toNatClampNeg) (xs (nI v + 2).toNatClampNeg) (xs (nI v + 3).toNatClampNeg) (xs (nI v + 4).toNatClampNeg) (xs (nI v + 5).toNatClampNeg) σ1 = some (a, σ2) := e2
  unfold fn_L_law_b316 fn_L_law_b1235
  rw [if_pos I1, if_pos I2, if_pos I3, if_pos I4, if_pos I5, e1, Option.bind_some]
  dsimp only
  rw [if_pos I1, if_pos I2, if_pos I3, if_pos I4, if_pos I5, e2, Option.bind_some]
  dsimp only
  rw [if_pos rfl]
  exact hK _ σ2 r m
theorem lb_back {n Ls v : Nat} {xs : Nat → Int32} {K : Int32 → Sg → Option (Int32 × Sg)} {G : Gs} {σ : Sg} (hn : 5000 ≤ n) (hv : v + 6 ≤ Ls) (hL : Ls ≤ 3072) (hc : RC G σ) (hm : RM G σ) (hK : LK v K) : ∃ σ'', fn_L_law_b379 n Ls xs K (nI v) σ = some (1, σ'') := by
  obtain ⟨a, σ1, σ2, G', e1, e2, r, m⟩ := law_W (f6 := fun σ => fn_X6_back n σ) (f7 := fun τ => fn_X7_back τ) hm (fun τ ht => bo_back (n := n) (by omega) hc ht)
  have e1 : fn_X6_back n σ = some (a, σ1) := e1
  have e2 : fn_X7_back σ1 = some (a, σ2) := e2
  unfold fn_L_law_b379 fn_L_law_b1235
  rw [e1, Option.bind_some]
  dsimp only
  rw [e2, Option.bind_some]
  dsimp only
  rw [if_pos rfl]
  exact hK _ σ2 r m
theorem lb_read {n Ls v : Nat} {xs : Nat → Int32} {K : Int32 → Sg → Option (Int32 × Sg)} {G : Gs} {σ : Sg} (hn : 5000 ≤ n) (hv : v + 6 ≤ Ls) (hL : Ls ≤ 3072) (hc : RC G σ) (hm : RM G σ) (hK : LK v K) : ∃ σ'', fn_L_law_b392 n Ls xs K (nI v) σ = some (1, σ'') := by
  have I1 : ag_ib (nI v + 1) Ls = true := lb_ib (d := 1) (by omega) hL
  obtain ⟨a, σ1, σ2, G', e1, e2, r, m⟩ := law_W (f6 := fun σ => fn_X6_read n (xs (nI v + 1).toNatClampNeg) σ) (f7 := fun τ => fn_X7_read n (xs (nI v + 1).toNatClampNeg) τ) hm (fun τ ht => bo_read (n := n) (by omega) hc ht)
  have e1 : fn_X6_read n (xs (nI v + 1).toNatClampNeg) σ = some (a, σ1) := e1
  have e2 : fn_X7_read n (xs (nI v + 1).toNatClampNeg) σ1 = some (a, σ2) := e2
  unfold fn_L_law_b392 fn_L_law_b1235
  rw [if_pos I1, e1, Option.bind_some]
  dsimp only
  rw [if_pos I1, e2, Option.bind_some]
  dsimp only
  rw [if_pos rfl]
  exact hK _ σ2 r m
theorem lb_age {n Ls v : Nat} {xs : Nat → Int32} {K : Int32 → Sg → Option (Int32 × Sg)} {G : Gs} {σ : Sg} (hn : 5000 ≤ n) (hv : v + 6 ≤ Ls) (hL : Ls ≤ 3072) (hc : RC G σ) (hm : RM G σ) (hK : LK v K) : ∃ σ'', fn_L_law_b415 n Ls xs K (nI v) σ = some (1, σ'') := by
  have I1 : ag_ib (nI v + 1) Ls = true := lb_ib (d := 1) (by omega) hL
  have I2 : ag_ib (nI v + 2) Ls = true := lb_ib (d := 2) (by omega) hL
  obtain ⟨a, σ2, e1, e2, r, m⟩ := law_R (o6 := fn_X6_age (xs (nI v + 1).toNatClampNeg) (xs (nI v + 2).toNatClampNeg) σ) (o7 := fn_X7_age n (xs (nI v + 1).toNatClampNeg) (xs (nI v + 2).toNatClampNeg) σ) hc (bo_age (n := n) (by omega) hc hm)
  unfold fn_L_law_b415 fn_L_law_b1235
  rw [if_pos I1, if_pos I2, e1, Option.bind_some]
  rw [if_pos I1, if_pos I2, e2, Option.bind_some]
  dsimp only
  rw [if_pos rfl]
  exact hK _ σ2 r m
theorem lb_opened {n Ls v : Nat} {xs : Nat → Int32} {K : Int32 → Sg → Option (Int32 × Sg)} {G : Gs} {σ : Sg} (hn : 5000 ≤ n) (hv : v + 6 ≤ Ls) (hL : Ls ≤ 3072) (hc : RC G σ) (hm : RM G σ) (hK : LK v K) : ∃ σ'', fn_L_law_b448 n Ls xs K (nI v) σ = some (1, σ'') := by
  have I1 : ag_ib (nI v + 1) Ls = true := lb_ib (d := 1) (by omega) hL
  obtain ⟨a, σ2, e1, e2, r, m⟩ := law_R (o6 := fn_X6_opened (xs (nI v + 1).toNatClampNeg) σ) (o7 := fn_X7_opened n (xs (nI v + 1).toNatClampNeg) σ) hc (bo_opened (n := n) (by omega) hc hm)
  unfold fn_L_law_b448 fn_L_law_b1235
  rw [if_pos I1, e1, Option.bind_some]
  rw [if_pos I1, e2, Option.bind_some]
  dsimp only
  rw [if_pos rfl]
  exact hK _ σ2 r m
theorem lb_written {n Ls v : Nat} {xs : Nat → Int32} {K : Int32 → Sg → Option (Int32 × Sg)} {G : Gs} {σ : Sg} (hn : 5000 ≤ n) (hv : v + 6 ≤ Ls) (hL : Ls ≤ 3072) (hc : RC G σ) (hm : RM G σ) (hK : LK v K) : ∃ σ'', fn_L_law_b471 n Ls xs K (nI v) σ = some (1, σ'') := by
  have I1 : ag_ib (nI v + 1) Ls = true := lb_ib (d := 1) (by omega) hL
  obtain ⟨a, σ2, e1, e2, r, m⟩ := law_R (o6 := fn_X6_written (xs (nI v + 1).toNatClampNeg) σ) (o7 := fn_X7_written n (xs (nI v + 1).toNatClampNeg) σ) hc (bo_written (n := n) (by omega) hc hm)
  unfold fn_L_law_b471 fn_L_law_b1235
  rw [if_pos I1, e1, Option.bind_some]
  rw [if_pos I1, e2, Option.bind_some]
  dsimp only
  rw [if_pos rfl]
  exact hK _ σ2 r m
theorem lb_waits {n Ls v : Nat} {xs : Nat → Int32} {K : Int32 → Sg → Option (Int32 × Sg)} {G : Gs} {σ : Sg} (hn : 5000 ≤ n) (hv : v + 6 ≤ Ls) (hL : Ls ≤ 3072) (hc : RC G σ) (hm : RM G σ) (hK : LK v K) : ∃ σ'', fn_L_law_b494 n Ls xs K (nI v) σ = some (1, σ'') := by
  have I1 : ag_ib (nI v + 1) Ls = true := lb_ib (d := 1) (by omega) hL
  have I2 : ag_ib (nI v + 2) Ls = true := lb_ib (d := 2) (by omega) hL
  obtain ⟨a, σ2, e1, e2, r, m⟩ := law_R (o6 := fn_X6_waits n (xs (nI v + 1).toNatClampNeg) (xs (nI v + 2).toNatClampNeg) σ) (o7 := fn_X7_waits n (xs (nI v + 1).toNatClampNeg) (xs (nI v + 2).toNatClampNeg) σ) hc (bo_waits (n := n) (by omega) hc hm)
  unfold fn_L_law_b494 fn_L_law_b1235
  rw [if_pos I1, if_pos I2, e1, Option.bind_some]
  rw [if_pos I1, if_pos I2, e2, Option.bind_some]
  dsimp only
  rw [if_pos rfl]
  exact hK _ σ2 r m
theorem lb_known {n Ls v : Nat} {xs : Nat → Int32} {K : Int32 → Sg → Option (Int32 × Sg)} {G : Gs} {σ : Sg} (hn : 5000 ≤ n) (hv : v + 6 ≤ Ls) (hL : Ls ≤ 3072) (hc : RC G σ) (hm : RM G σ) (hK : LK v K) : ∃ σ'', fn_L_law_b527 n Ls xs K (nI v) σ = some (1, σ'') := by
  have I1 : ag_ib (nI v + 1) Ls = true := lb_ib (d := 1) (by omega) hL
  have I2 : ag_ib (nI v + 2) Ls = true := lb_ib (d := 2) (by omega) hL
  obtain ⟨a, σ2, e1, e2, r, m⟩ := law_R (o6 := fn_X6_known n (xs (nI v + 1).toNatClampNeg) (xs (nI v + 2).toNatClampNeg) σ) (o7 := fn_X7_known n (xs (nI v + 1).toNatClampNeg) (xs (nI v + 2).toNatClampNeg) σ) hc (bo_known (n := n) (by omega) hc hm)
  unfold fn_L_law_b527 fn_L_law_b1235
  rw [if_pos I1, if_pos I2, e1, Option.bind_some]
  rw [if_pos I1, if_pos I2, e2, Option.bind_some]
  dsimp only
  rw [if_pos rfl]
  exact hK _ σ2 r m
theorem lb_learned {n Ls v : Nat} {xs : Nat → Int32} {K : Int32 → Sg → Option (Int32 × Sg)} {G : Gs} {σ : Sg} (hn : 5000 ≤ n) (hv : v + 6 ≤ Ls) (hL : Ls ≤ 3072) (hc : RC G σ) (hm : RM G σ) (hK : LK v K) : ∃ σ'', fn_L_law_b560 n Ls xs K (nI v) σ = some (1, σ'') := by
  have I1 : ag_ib (nI v + 1) Ls = true := lb_ib (d := 1) (by omega) hL
  have I2 : ag_ib (nI v + 2) Ls = true := lb_ib (d := 2) (by omega) hL
  obtain ⟨a, σ2, e1, e2, r, m⟩ := law_R (o6 := fn_X6_learned (xs (nI v + 1).toNatClampNeg) (xs (nI v + 2).toNatClampNeg) σ) (o7 := fn_X7_learned n (xs (nI v + 1).toNatClampNeg) (xs (nI v + 2).toNatClampNeg) σ) hc (bo_learned (n := n) (by omega) hc hm)
  unfold fn_L_law_b560 fn_L_law_b1235
  rw [if_pos I1, if_pos I2, e1, Option.bind_some]
  rw [if_pos I1, if_pos I2, e2, Option.bind_some]
  dsimp only
  rw [if_pos rfl]
  exact hK _ σ2 r m
theorem lb_sealed {n Ls v : Nat} {xs : Nat → Int32} {K : Int32 → Sg → Option (Int32 × Sg)} {G : Gs} {σ : Sg} (hn : 5000 ≤ n) (hv : v + 6 ≤ Ls) (hL : Ls ≤ 3072) (hc : RC G σ) (hm : RM G σ) (hK : LK v K) : ∃ σ'', fn_L_law_b593 n Ls xs K (nI v) σ = some (1, σ'') := by
  obtain ⟨a, σ2, e1, e2, r, m⟩ := law_R (o6 := fn_X6_sealed σ) (o7 := fn_X7_sealed n σ) hc (bo_sealed (n := n) (by omega) hc hm)
  unfold fn_L_law_b593 fn_L_law_b1235
  rw [e1, Option.bind_some]
  rw [e2, Option.bind_some]
  dsimp only
  rw [if_pos rfl]
  exact hK _ σ2 r m
theorem lb_loud {n Ls v : Nat} {xs : Nat → Int32} {K : Int32 → Sg → Option (Int32 × Sg)} {G : Gs} {σ : Sg} (hn : 5000 ≤ n) (hv : v + 6 ≤ Ls) (hL : Ls ≤ 3072) (hc : RC G σ) (hm : RM G σ) (hK : LK v K) : ∃ σ'', fn_L_law_b606 n Ls xs K (nI v) σ = some (1, σ'') := by
  have I1 : ag_ib (nI v + 1) Ls = true := lb_ib (d := 1) (by omega) hL
  obtain ⟨a, σ2, e1, e2, r, m⟩ := law_R (o6 := fn_X6_loud n (xs (nI v + 1).toNatClampNeg) σ) (o7 := fn_X7_loud n (xs (nI v + 1).toNatClampNeg) σ) hc (bo_loud (n := n) (by omega) hc hm)
  unfold fn_L_law_b606 fn_L_law_b1235
  rw [if_pos I1, e1, Option.bind_some]
  rw [if_pos I1, e2, Option.bind_some]
  dsimp only
  rw [if_pos rfl]
  exact hK _ σ2 r m
theorem lb_tooSoon {n Ls v : Nat} {xs : Nat → Int32} {K : Int32 → Sg → Option (Int32 × Sg)} {G : Gs} {σ : Sg} (hn : 5000 ≤ n) (hv : v + 6 ≤ Ls) (hL : Ls ≤ 3072) (hc : RC G σ) (hm : RM G σ) (hK : LK v K) : ∃ σ'', fn_L_law_b629 n Ls xs K (nI v) σ = some (1, σ'') := by
  obtain ⟨a, σ1, σ2, G', e1, e2, r, m⟩ := law_W (f6 := fun σ => fn_X6_tooSoon n σ) (f7 := fun τ => fn_X7_tooSoon n τ) hm (fun τ ht => (bo_tooSoon (n := n) (by omega) hc ht).elim fun a q => ⟨a, G, q⟩)
  have e1 : fn_X6_tooSoon n σ = some (a, σ1) := e1
  have e2 : fn_X7_tooSoon n σ1 = some (a, σ2) := e2
  unfold fn_L_law_b629 fn_L_law_b1235
  rw [e1, Option.bind_some]
  dsimp only
  rw [e2, Option.bind_some]
  dsimp only
  rw [if_pos rfl]
  exact hK _ σ2 r m
theorem lb_send {n Ls v : Nat} {xs : Nat → Int32} {K : Int32 → Sg → Option (Int32 × Sg)} {G : Gs} {σ : Sg} (hn : 5000 ≤ n) (hv : v + 6 ≤ Ls) (hL : Ls ≤ 3072) (hc : RC G σ) (hm : RM G σ) (hK : LK v K) : ∃ σ'', fn_L_law_b642 n Ls xs K (nI v) σ = some (1, σ'') := by
  have I1 : ag_ib (nI v + 1) Ls = true := lb_ib (d := 1) (by omega) hL
  have I2 : ag_ib (nI v + 2) Ls = true := lb_ib (d := 2) (by omega) hL
  have I3 : ag_ib (nI v + 3) Ls = true := lb_ib (d := 3) (by omega) hL
  obtain ⟨a, σ1, σ2, G', e1, e2, r, m⟩ := law_W (f6 := fun σ => fn_X6_send n (xs (nI v + 1).toNatClampNeg) (xs (nI v + 2).toNatClampNeg) (xs (nI v + 3).toNatClampNeg) σ) (f7 := fun τ => fn_X7_send n (xs (nI v + 1).toNatClampNeg) (xs (nI v + 2).toNatClampNeg) (xs (nI v + 3).toNatClampNeg) τ) hm (fun τ ht => (bo_send (n := n) (by omega) hc ht).elim fun a q => ⟨a, G, q⟩)
  have e1 : fn_X6_send n (xs (nI v + 1).toNatClampNeg) (xs (nI v + 2).toNatClampNeg) (xs (nI v + 3).toNatClampNeg) σ = some (a, σ1) := e1
  have e2 : fn_X7_send n (xs (nI v + 1).toNatClampNeg) (xs (nI v + 2).toNatClampNeg) (xs (nI v + 3).toNatClampNeg) σ1 = some (a, σ2) := e2
  unfold fn_L_law_b642 fn_L_law_b1235
  rw [if_pos I1, if_pos I2, if_pos I3, e1, Option.bind_some]
  dsimp only
  rw [if_pos I1, if_pos I2, if_pos I3, e2, Option.bind_some]
  dsimp only
  rw [if_pos rfl]
  exact hK _ σ2 r m
theorem lb_trust {n Ls v : Nat} {xs : Nat → Int32} {K : Int32 → Sg → Option (Int32 × Sg)} {G : Gs} {σ : Sg} (hn : 5000 ≤ n) (hv : v + 6 ≤ Ls) (hL : Ls ≤ 3072) (hc : RC G σ) (hm : RM G σ) (hK : LK v K) : ∃ σ'', fn_L_law_b685 n Ls xs K (nI v) σ = some (1, σ'') := by
  have I1 : ag_ib (nI v + 1) Ls = true := lb_ib (d := 1) (by omega) hL
  have I2 : ag_ib (nI v + 2) Ls = true := lb_ib (d := 2) (by omega) hL
  obtain ⟨a, σ1, σ2, G', e1, e2, r, m⟩ := law_W (f6 := fun σ => fn_X6_trust n (xs (nI v + 1).toNatClampNeg) (xs (nI v + 2).toNatClampNeg) σ) (f7 := fun τ => fn_X7_trust n (xs (nI v + 1).toNatClampNeg) (xs (nI v + 2).toNatClampNeg) τ) hm (fun τ ht => (bo_trust (n := n) (by omega) hc ht).elim fun a q => ⟨a, G, q⟩)
  have e1 : fn_X6_trust n (xs (nI v + 1).toNatClampNeg) (xs (nI v + 2).toNatClampNeg) σ = some (a, σ1) := e1
  have e2 : fn_X7_trust n (xs (nI v + 1).toNatClampNeg) (xs (nI v + 2).toNatClampNeg) σ1 = some (a, σ2) := e2
  unfold fn_L_law_b685 fn_L_law_b1235
  rw [if_pos I1, if_pos I2, e1, Option.bind_some]
  dsimp only
  rw [if_pos I1, if_pos I2, e2, Option.bind_some]
  dsimp only
  rw [if_pos rfl]
  exact hK _ σ2 r m
theorem lb_teach {n Ls v : Nat} {xs : Nat → Int32} {K : Int32 → Sg → Option (Int32 × Sg)} {G : Gs} {σ : Sg} (hn : 5000 ≤ n) (hv : v + 6 ≤ Ls) (hL : Ls ≤ 3072) (hc : RC G σ) (hm : RM G σ) (hK : LK v K) : ∃ σ'', fn_L_law_b718 n Ls xs K (nI v) σ = some (1, σ'') := by
  have I1 : ag_ib (nI v + 1) Ls = true := lb_ib (d := 1) (by omega) hL
  have I2 : ag_ib (nI v + 2) Ls = true := lb_ib (d := 2) (by omega) hL
  have I3 : ag_ib (nI v + 3) Ls = true := lb_ib (d := 3) (by omega) hL
  obtain ⟨a, σ1, σ2, G', e1, e2, r, m⟩ := law_W (f6 := fun σ => fn_X6_teach n (xs (nI v + 1).toNatClampNeg) (xs (nI v + 2).toNatClampNeg) (xs (nI v + 3).toNatClampNeg) σ) (f7 := fun τ => fn_X7_teach n (xs (nI v + 1).toNatClampNeg) (xs (nI v + 2).toNatClampNeg) (xs (nI v + 3).toNatClampNeg) τ) hm (fun τ ht => (bo_teach (n := n) (by omega) hc ht).elim fun a q => ⟨a, G, q⟩)
  have e1 : fn_X6_teach n (xs (nI v + 1).toNatClampNeg) (xs (nI v + 2).toNatClampNeg) (xs (nI v + 3).toNatClampNeg) σ = some (a, σ1) := e1
  have e2 : fn_X7_teach n (xs (nI v + 1).toNatClampNeg) (xs (nI v + 2).toNatClampNeg) (xs (nI v + 3).toNatClampNeg) σ1 = some (a, σ2) := e2
  unfold fn_L_law_b718 fn_L_law_b1235
  rw [if_pos I1, if_pos I2, if_pos I3, e1, Option.bind_some]
  dsimp only
  rw [if_pos I1, if_pos I2, if_pos I3, e2, Option.bind_some]
  dsimp only
  rw [if_pos rfl]
  exact hK _ σ2 r m
theorem lb_done {n Ls v : Nat} {xs : Nat → Int32} {K : Int32 → Sg → Option (Int32 × Sg)} {G : Gs} {σ : Sg} (hn : 5000 ≤ n) (hv : v + 6 ≤ Ls) (hL : Ls ≤ 3072) (hc : RC G σ) (hm : RM G σ) (hK : LK v K) : ∃ σ'', fn_L_law_b761 n Ls xs K (nI v) σ = some (1, σ'') := by
  have I1 : ag_ib (nI v + 1) Ls = true := lb_ib (d := 1) (by omega) hL
  have I2 : ag_ib (nI v + 2) Ls = true := lb_ib (d := 2) (by omega) hL
  have I3 : ag_ib (nI v + 3) Ls = true := lb_ib (d := 3) (by omega) hL
  have I4 : ag_ib (nI v + 4) Ls = true := lb_ib (d := 4) (by omega) hL
  obtain ⟨a, σ1, σ2, G', e1, e2, r, m⟩ := law_W (f6 := fun σ => fn_X6_done (xs (nI v + 1).toNatClampNeg) (xs (nI v + 2).toNatClampNeg) (xs (nI v + 3).toNatClampNeg) (xs (nI v + 4).toNatClampNeg) σ) (f7 := fun τ => fn_X7_done (xs (nI v + 1).toNatClampNeg) (xs (nI v + 2).toNatClampNeg) (xs (nI v + 3).toNatClampNeg) (xs (nI v + 4).toNatClampNeg) τ) hm (fun τ ht => bo_done hc ht)
  have e1 : fn_X6_done (xs (nI v + 1).toNatClampNeg) (xs (nI v + 2).toNatClampNeg) (xs (nI v + 3).toNatClampNeg) (xs (nI v + 4).toNatClampNeg) σ = some (a, σ1) := e1
  have e2 : fn_X7_done (xs (nI v + 1).toNatClampNeg) (xs (nI v + 2).toNatClampNeg) (xs (nI v + 3).toNatClampNeg) (xs (nI v + 4).toNatClampNeg) σ1 = some (a, σ2) := e2
  unfold fn_L_law_b761 fn_L_law_b1235
  rw [if_pos I1, if_pos I2, if_pos I3, if_pos I4, e1, Option.bind_some]
  dsimp only
  rw [if_pos I1, if_pos I2, if_pos I3, if_pos I4, e2, Option.bind_some]
  dsimp only
  rw [if_pos rfl]
  exact hK _ σ2 r m
theorem lb_forget {n Ls v : Nat} {xs : Nat → Int32} {K : Int32 → Sg → Option (Int32 × Sg)} {G : Gs} {σ : Sg} (hn : 5000 ≤ n) (hv : v + 6 ≤ Ls) (hL : Ls ≤ 3072) (hc : RC G σ) (hm : RM G σ) (hK : LK v K) : ∃ σ'', fn_L_law_b814 n Ls xs K (nI v) σ = some (1, σ'') := by
  obtain ⟨a, σ1, σ2, G', e1, e2, r, m⟩ := law_W (f6 := fun σ => fn_X6_forget σ) (f7 := fun τ => fn_X7_forget τ) hm (fun τ ht => bo_forget hc ht)
  have e1 : fn_X6_forget σ = some (a, σ1) := e1
  have e2 : fn_X7_forget σ1 = some (a, σ2) := e2
  unfold fn_L_law_b814 fn_L_law_b1235
  rw [e1, Option.bind_some]
  dsimp only
  rw [e2, Option.bind_some]
  dsimp only
  rw [if_pos rfl]
  exact hK _ σ2 r m
theorem lb_said {n Ls v : Nat} {xs : Nat → Int32} {K : Int32 → Sg → Option (Int32 × Sg)} {G : Gs} {σ : Sg} (hn : 5000 ≤ n) (hv : v + 6 ≤ Ls) (hL : Ls ≤ 3072) (hc : RC G σ) (hm : RM G σ) (hK : LK v K) : ∃ σ'', fn_L_law_b827 n Ls xs K (nI v) σ = some (1, σ'') := by
  have I1 : ag_ib (nI v + 1) Ls = true := lb_ib (d := 1) (by omega) hL
  obtain ⟨a, σ1, σ2, G', e1, e2, r, m⟩ := law_W (f6 := fun σ => fn_X6_said n (xs (nI v + 1).toNatClampNeg) σ) (f7 := fun τ => fn_X7_said n (xs (nI v + 1).toNatClampNeg) τ) hm (fun τ ht => (bo_said (n := n) (by omega) hc ht).elim fun a q => ⟨a, G, q⟩)
  have e1 : fn_X6_said n (xs (nI v + 1).toNatClampNeg) σ = some (a, σ1) := e1
  have e2 : fn_X7_said n (xs (nI v + 1).toNatClampNeg) σ1 = some (a, σ2) := e2
  unfold fn_L_law_b827 fn_L_law_b1235
  rw [if_pos I1, e1, Option.bind_some]
  dsimp only
  rw [if_pos I1, e2, Option.bind_some]
  dsimp only
  rw [if_pos rfl]
  exact hK _ σ2 r m
theorem lb_forged {n Ls v : Nat} {xs : Nat → Int32} {K : Int32 → Sg → Option (Int32 × Sg)} {G : Gs} {σ : Sg} (hn : 5000 ≤ n) (hv : v + 6 ≤ Ls) (hL : Ls ≤ 3072) (hc : RC G σ) (hm : RM G σ) (hK : LK v K) : ∃ σ'', fn_L_law_b850 n Ls xs K (nI v) σ = some (1, σ'') := by
  obtain ⟨a, σ1, σ2, G', e1, e2, r, m⟩ := law_W (f6 := fun σ => fn_X6_forged n σ) (f7 := fun τ => fn_X7_forged n τ) hm (fun τ ht => (bo_forged (n := n) (by omega) hc ht).elim fun a q => ⟨a, G, q⟩)
  have e1 : fn_X6_forged n σ = some (a, σ1) := e1
  have e2 : fn_X7_forged n σ1 = some (a, σ2) := e2
  unfold fn_L_law_b850 fn_L_law_b1235
  rw [e1, Option.bind_some]
  dsimp only
  rw [e2, Option.bind_some]
  dsimp only
  rw [if_pos rfl]
  exact hK _ σ2 r m
theorem lb_chance {n Ls v : Nat} {xs : Nat → Int32} {K : Int32 → Sg → Option (Int32 × Sg)} {G : Gs} {σ : Sg} (hn : 5000 ≤ n) (hv : v + 6 ≤ Ls) (hL : Ls ≤ 3072) (hc : RC G σ) (hm : RM G σ) (hK : LK v K) : ∃ σ'', fn_L_law_b863 n Ls xs K (nI v) σ = some (1, σ'') := by
  have I1 : ag_ib (nI v + 1) Ls = true := lb_ib (d := 1) (by omega) hL
  have I2 : ag_ib (nI v + 2) Ls = true := lb_ib (d := 2) (by omega) hL
  have I3 : ag_ib (nI v + 3) Ls = true := lb_ib (d := 3) (by omega) hL
  have I4 : ag_ib (nI v + 4) Ls = true := lb_ib (d := 4) (by omega) hL
  obtain ⟨a, σ1, σ2, G', e1, e2, r, m⟩ := law_L (f6 := fun σ => fn_X6_chance n (xs (nI v + 1).toNatClampNeg) (xs (nI v + 2).toNatClampNeg) (xs (nI v + 3).toNatClampNeg) (xs (nI v + 4).toNatClampNeg) σ) (f7 := fun τ => fn_X7_chance n (xs (nI v + 1).toNatClampNeg) (xs (nI v + 2).toNatClampNeg) (xs (nI v + 3).toNatClampNeg) (xs (nI v + 4).toNatClampNeg) τ) hm (fun τ ht => bo_chance (n := n) hn hc ht)
  have e1 : fn_X6_chance n (xs (nI v + 1).toNatClampNeg) (xs (nI v + 2).toNatClampNeg) (xs (nI v + 3).toNatClampNeg) (xs (nI v + 4).toNatClampNeg) σ = some (a, σ1) := e1
  have e2 : fn_X7_chance n (xs (nI v + 1).toNatClampNeg) (xs (nI v + 2).toNatClampNeg) (xs (nI v + 3).toNatClampNeg) (xs (nI v + 4).toNatClampNeg) σ1 = some (a, σ2) := e2
  unfold fn_L_law_b863 fn_L_law_b1235
  rw [if_pos I1, if_pos I2, if_pos I3, if_pos I4, e1, Option.bind_some]
  dsimp only
  rw [if_pos I1, if_pos I2, if_pos I3, if_pos I4, e2, Option.bind_some]
  dsimp only
  rw [if_pos ((lg_cmp_eq _ _).mpr rfl)]
  exact hK _ σ2 r m
theorem lb_drawn {n Ls v : Nat} {xs : Nat → Int32} {K : Int32 → Sg → Option (Int32 × Sg)} {G : Gs} {σ : Sg} (hn : 5000 ≤ n) (hv : v + 6 ≤ Ls) (hL : Ls ≤ 3072) (hc : RC G σ) (hm : RM G σ) (hK : LK v K) : ∃ σ'', fn_L_law_b917 n Ls xs K (nI v) σ = some (1, σ'') := by
  have I1 : ag_ib (nI v + 1) Ls = true := lb_ib (d := 1) (by omega) hL
  have I2 : ag_ib (nI v + 2) Ls = true := lb_ib (d := 2) (by omega) hL
  obtain ⟨a, σ1, σ2, G', e1, e2, r, m⟩ := law_W (f6 := fun σ => fn_X6_drawn n (xs (nI v + 1).toNatClampNeg) (xs (nI v + 2).toNatClampNeg) σ) (f7 := fun τ => fn_X7_drawn n (xs (nI v + 1).toNatClampNeg) (xs (nI v + 2).toNatClampNeg) τ) hm (fun τ ht => (bo_drawn (n := n) (by omega) hc ht).elim fun a q => ⟨a, G, q⟩)
  have e1 : fn_X6_drawn n (xs (nI v + 1).toNatClampNeg) (xs (nI v + 2).toNatClampNeg) σ = some (a, σ1) := e1
  have e2 : fn_X7_drawn n (xs (nI v + 1).toNatClampNeg) (xs (nI v + 2).toNatClampNeg) σ1 = some (a, σ2) := e2
  unfold fn_L_law_b917 fn_L_law_b1235
  rw [if_pos I1, if_pos I2, e1, Option.bind_some]
  dsimp only
  rw [if_pos I1, if_pos I2, e2, Option.bind_some]
  dsimp only
  rw [if_pos rfl]
  exact hK _ σ2 r m
theorem lb_sheet {n Ls v : Nat} {xs : Nat → Int32} {K : Int32 → Sg → Option (Int32 × Sg)} {G : Gs} {σ : Sg} (hn : 5000 ≤ n) (hv : v + 6 ≤ Ls) (hL : Ls ≤ 3072) (hc : RC G σ) (hm : RM G σ) (hK : LK v K) : ∃ σ'', fn_L_law_b950 n Ls xs K (nI v) σ = some (1, σ'') := by
  have I1 : ag_ib (nI v + 1) Ls = true := lb_ib (d := 1) (by omega) hL
  have I2 : ag_ib (nI v + 2) Ls = true := lb_ib (d := 2) (by omega) hL
  have I3 : ag_ib (nI v + 3) Ls = true := lb_ib (d := 3) (by omega) hL
  obtain ⟨a, σ1, σ2, G', e1, e2, r, m⟩ := law_W (f6 := fun σ => fn_X6_sheet n (xs (nI v + 1).toNatClampNeg) (xs (nI v + 2).toNatClampNeg) (xs (nI v + 3).toNatClampNeg) σ) (f7 := fun τ => fn_X7_sheet n (xs (nI v + 1).toNatClampNeg) (xs (nI v + 2).toNatClampNeg) (xs (nI v + 3).toNatClampNeg) τ) hm (fun τ ht => bo_sheet (n := n) (by omega) hc ht)
  have e1 : fn_X6_sheet n (xs (nI v + 1).toNatClampNeg) (xs (nI v + 2).toNatClampNeg) (xs (nI v + 3).toNatClampNeg) σ = some (a, σ1) := e1
  have e2 : fn_X7_sheet n (xs (nI v + 1).toNatClampNeg) (xs (nI v + 2).toNatClampNeg) (xs (nI v + 3).toNatClampNeg) σ1 = some (a, σ2) := e2
  unfold fn_L_law_b950 fn_L_law_b1235
  rw [if_pos I1, if_pos I2, if_pos I3, e1, Option.bind_some]
  dsimp only
  rw [if_pos I1, if_pos I2, if_pos I3, e2, Option.bind_some]
  dsimp only
  rw [if_pos rfl]
  exact hK _ σ2 r m
theorem lb_lose {n Ls v : Nat} {xs : Nat → Int32} {K : Int32 → Sg → Option (Int32 × Sg)} {G : Gs} {σ : Sg} (hn : 5000 ≤ n) (hv : v + 6 ≤ Ls) (hL : Ls ≤ 3072) (hc : RC G σ) (hm : RM G σ) (hK : LK v K) : ∃ σ'', fn_L_law_b993 n Ls xs K (nI v) σ = some (1, σ'') := by
  have I1 : ag_ib (nI v + 1) Ls = true := lb_ib (d := 1) (by omega) hL
  obtain ⟨a, σ1, σ2, G', e1, e2, r, m⟩ := law_W (f6 := fun σ => fn_X6_lose (xs (nI v + 1).toNatClampNeg) σ) (f7 := fun τ => fn_X7_lose (xs (nI v + 1).toNatClampNeg) τ) hm (fun τ ht => bo_lose hc ht)
  have e1 : fn_X6_lose (xs (nI v + 1).toNatClampNeg) σ = some (a, σ1) := e1
  have e2 : fn_X7_lose (xs (nI v + 1).toNatClampNeg) σ1 = some (a, σ2) := e2
  unfold fn_L_law_b993 fn_L_law_b1235
  rw [if_pos I1, e1, Option.bind_some]
  dsimp only
  rw [if_pos I1, e2, Option.bind_some]
  dsimp only
  rw [if_pos rfl]
  exact hK _ σ2 r m
theorem lb_put {n Ls v : Nat} {xs : Nat → Int32} {K : Int32 → Sg → Option (Int32 × Sg)} {G : Gs} {σ : Sg} (hn : 5000 ≤ n) (hv : v + 6 ≤ Ls) (hL : Ls ≤ 3072) (hc : RC G σ) (hm : RM G σ) (hK : LK v K) : ∃ σ'', fn_L_law_b1016 n Ls xs K (nI v) σ = some (1, σ'') := by
  have I1 : ag_ib (nI v + 1) Ls = true := lb_ib (d := 1) (by omega) hL
  have I2 : ag_ib (nI v + 2) Ls = true := lb_ib (d := 2) (by omega) hL
  have I3 : ag_ib (nI v + 3) Ls = true := lb_ib (d := 3) (by omega) hL
  have I4 : ag_ib (nI v + 4) Ls = true := lb_ib (d := 4) (by omega) hL
  obtain ⟨a, σ1, σ2, G', e1, e2, r, m⟩ := law_W (f6 := fun σ => fn_X6_put (xs (nI v + 1).toNatClampNeg) (xs (nI v + 2).toNatClampNeg) (xs (nI v + 3).toNatClampNeg) (xs (nI v + 4).toNatClampNeg) σ) (f7 := fun τ => fn_X7_put (xs (nI v + 1).toNatClampNeg) (xs (nI v + 2).toNatClampNeg) (xs (nI v + 3).toNatClampNeg) (xs (nI v + 4).toNatClampNeg) τ) hm (fun τ ht => bo_put hc ht)
  have e1 : fn_X6_put (xs (nI v + 1).toNatClampNeg) (xs (nI v + 2).toNatClampNeg) (xs (nI v + 3).toNatClampNeg) (xs (nI v + 4).toNatClampNeg) σ = some (a, σ1) := e1
  have e2 : fn_X7_put (xs (nI v + 1).toNatClampNeg) (xs (nI v + 2).toNatClampNeg) (xs (nI v + 3).toNatClampNeg) (xs (nI v + 4).toNatClampNeg) σ1 = some (a, σ2) := e2
  unfold fn_L_law_b1016 fn_L_law_b1235
  rw [if_pos I1, if_pos I2, if_pos I3, if_pos I4, e1, Option.bind_some]
  dsimp only
  rw [if_pos I1, if_pos I2, if_pos I3, if_pos I4, e2, Option.bind_some]
  dsimp only
  rw [if_pos rfl]
  exact hK _ σ2 r m
theorem lb_get {n Ls v : Nat} {xs : Nat → Int32} {K : Int32 → Sg → Option (Int32 × Sg)} {G : Gs} {σ : Sg} (hn : 5000 ≤ n) (hv : v + 6 ≤ Ls) (hL : Ls ≤ 3072) (hc : RC G σ) (hm : RM G σ) (hK : LK v K) : ∃ σ'', fn_L_law_b1069 n Ls xs K (nI v) σ = some (1, σ'') := by
  have I1 : ag_ib (nI v + 1) Ls = true := lb_ib (d := 1) (by omega) hL
  have I2 : ag_ib (nI v + 2) Ls = true := lb_ib (d := 2) (by omega) hL
  have I3 : ag_ib (nI v + 3) Ls = true := lb_ib (d := 3) (by omega) hL
  obtain ⟨a, σ1, σ2, G', e1, e2, r, m⟩ := law_W (f6 := fun σ => fn_X6_get (xs (nI v + 1).toNatClampNeg) (xs (nI v + 2).toNatClampNeg) (xs (nI v + 3).toNatClampNeg) σ) (f7 := fun τ => fn_X7_get (xs (nI v + 1).toNatClampNeg) (xs (nI v + 2).toNatClampNeg) (xs (nI v + 3).toNatClampNeg) τ) hm (fun τ ht => bo_get hc ht)
  have e1 : fn_X6_get (xs (nI v + 1).toNatClampNeg) (xs (nI v + 2).toNatClampNeg) (xs (nI v + 3).toNatClampNeg) σ = some (a, σ1) := e1
  have e2 : fn_X7_get (xs (nI v + 1).toNatClampNeg) (xs (nI v + 2).toNatClampNeg) (xs (nI v + 3).toNatClampNeg) σ1 = some (a, σ2) := e2
  unfold fn_L_law_b1069 fn_L_law_b1235
  rw [if_pos I1, if_pos I2, if_pos I3, e1, Option.bind_some]
  dsimp only
  rw [if_pos I1, if_pos I2, if_pos I3, e2, Option.bind_some]
  dsimp only
  rw [if_pos rfl]
  exact hK _ σ2 r m
theorem lb_copy {n Ls v : Nat} {xs : Nat → Int32} {K : Int32 → Sg → Option (Int32 × Sg)} {G : Gs} {σ : Sg} (hn : 5000 ≤ n) (hv : v + 6 ≤ Ls) (hL : Ls ≤ 3072) (hc : RC G σ) (hm : RM G σ) (hK : LK v K) : ∃ σ'', fn_L_law_b1112 n Ls xs K (nI v) σ = some (1, σ'') := by
  have I1 : ag_ib (nI v + 1) Ls = true := lb_ib (d := 1) (by omega) hL
  have I2 : ag_ib (nI v + 2) Ls = true := lb_ib (d := 2) (by omega) hL
  have I3 : ag_ib (nI v + 3) Ls = true := lb_ib (d := 3) (by omega) hL
  have I4 : ag_ib (nI v + 4) Ls = true := lb_ib (d := 4) (by omega) hL
  have I5 : ag_ib (nI v + 5) Ls = true := lb_ib (d := 5) (by omega) hL
  obtain ⟨a, σ1, σ2, G', e1, e2, r, m⟩ := law_W (f6 := fun σ => fn_X6_copy (xs (nI v + 1).toNatClampNeg) (xs (nI v + 2).toNatClampNeg) (xs (nI v + 3).toNatClampNeg) (xs (nI v + 4).toNatClampNeg) (xs (nI v + 5).toNatClampNeg) σ) (f7 := fun τ => fn_X7_copy n (xs (nI v + 1).toNatClampNeg) (xs (nI v + 2).toNatClampNeg) (xs (nI v + 3).toNatClampNeg) (xs (nI v + 4).toNatClampNeg) (xs (nI v + 5).toNatClampNeg) τ) hm (fun τ ht => bo_copy (n := n) (by omega) hc ht)
  have e1 : fn_X6_copy (xs (nI v + 1).toNatClampNeg) (xs (nI v + 2).toNatClampNeg) (xs (nI v + 3).toNatClampNeg) (xs (nI v + 4).toNatClampNeg) (xs (nI v + 5).toNatClampNeg) σ = some (a, σ1) := e1
  have e2 : fn_X7_copy n (xs (nI v + 1).toNatClampNeg) (xs (nI v + 2).toNatClampNeg) (xs (nI v + 3).toNatClampNeg) (xs (nI v + 4).toNatClampNeg) (xs (nI v + 5).toNatClampNeg) σ1 = some (a, σ2) := e2
  unfold fn_L_law_b1112 fn_L_law_b1235
  rw [if_pos I1, if_pos I2, if_pos I3, if_pos I4, if_pos I5, e1, Option.bind_some]
  dsimp only
  rw [if_pos I1, if_pos I2, if_pos I3, if_pos I4, if_pos I5, e2, Option.bind_some]
  dsimp only
  rw [if_pos rfl]
  exact hK _ σ2 r m
theorem lb_write {n Ls v : Nat} {xs : Nat → Int32} {K : Int32 → Sg → Option (Int32 × Sg)} {G : Gs} {σ : Sg} (hn : 5000 ≤ n) (hv : v + 6 ≤ Ls) (hL : Ls ≤ 3072) (hc : RC G σ) (hm : RM G σ) (hK : LK v K) : ∃ σ'', fn_L_law_b1175 n Ls xs K (nI v) σ = some (1, σ'') := by
  have I1 : ag_ib (nI v + 1) Ls = true := lb_ib (d := 1) (by omega) hL
  obtain ⟨a, σ1, σ2, G', e1, e2, r, m⟩ := law_W (f6 := fun σ => fn_X6_write n (xs (nI v + 1).toNatClampNeg) σ) (f7 := fun τ => fn_X7_write n (xs (nI v + 1).toNatClampNeg) τ) hm (fun τ ht => bo_write (n := n) (by omega) hc ht)
  have e1 : fn_X6_write n (xs (nI v + 1).toNatClampNeg) σ = some (a, σ1) := e1
  have e2 : fn_X7_write n (xs (nI v + 1).toNatClampNeg) σ1 = some (a, σ2) := e2
  unfold fn_L_law_b1175 fn_L_law_b1235
  rw [if_pos I1, e1, Option.bind_some]
  dsimp only
  rw [if_pos I1, e2, Option.bind_some]
  dsimp only
  rw [if_pos rfl]
  exact hK _ σ2 r m
theorem lb_count {n Ls v : Nat} {xs : Nat → Int32} {K : Int32 → Sg → Option (Int32 × Sg)} {G : Gs} {σ : Sg} (hn : 5000 ≤ n) (hv : v + 6 ≤ Ls) (hL : Ls ≤ 3072) (hc : RC G σ) (hm : RM G σ) (hK : LK v K) : ∃ σ'', fn_L_law_b1198 n Ls xs K (nI v) σ = some (1, σ'') := by
  have I1 : ag_ib (nI v + 1) Ls = true := lb_ib (d := 1) (by omega) hL
  obtain ⟨a, σ2, e1, e2, r, m⟩ := law_R (o6 := fn_X6_count n (xs (nI v + 1).toNatClampNeg) σ) (o7 := fn_X7_count n (xs (nI v + 1).toNatClampNeg) σ) hc (bo_count (n := n) (by omega) hc hm)
  unfold fn_L_law_b1198 fn_L_law_b1235
  rw [if_pos I1, e1, Option.bind_some]
  rw [if_pos I1, e2, Option.bind_some]
  dsimp only
  rw [if_pos rfl]
  exact hK _ σ2 r m
theorem lb_digest {n Ls v : Nat} {xs : Nat → Int32} {K : Int32 → Sg → Option (Int32 × Sg)} {G : Gs} {σ : Sg} (hn : 5000 ≤ n) (hv : v + 6 ≤ Ls) (hL : Ls ≤ 3072) (hc : RC G σ) (hm : RM G σ) (hK : LK v K) : ∃ σ'', fn_L_law_b1221 n Ls xs K (nI v) σ = some (1, σ'') := by
  obtain ⟨a, σ1, σ2, G', e1, e2, r, m⟩ := law_L (f6 := fun σ => fn_X6_digest n σ) (f7 := fun τ => fn_X7_digest n τ) hm (fun τ ht => bo_digest (n := n) hn hc ht)
  have e1 : fn_X6_digest n σ = some (a, σ1) := e1
  have e2 : fn_X7_digest n σ1 = some (a, σ2) := e2
  unfold fn_L_law_b1221 fn_L_law_b1235
  rw [e1, Option.bind_some]
  dsimp only
  rw [e2, Option.bind_some]
  dsimp only
  rw [if_pos ((lg_cmp_eq _ _).mpr rfl)]
  exact hK _ σ2 r m
theorem lb_end {Ls v : Nat} (hL : Ls ≤ 3072) (hv : v ≤ 4000) : (nI Ls - 6 < nI v) ↔ Ls < v + 6 := by
  rw [Int32.lt_iff_toInt_lt, show (nI Ls - 6).toInt = (Ls : Int) - (6 : Nat) from pk_sub_toInt (b := 6) (by omega) (by omega), nI_toInt (show v < 2 ^ 31 by omega)]
  omega
theorem lw_loop {n Ls : Nat} {xs : Nat → Int32} (hn : 5000 ≤ n) (hL : Ls ≤ 3072) : ∀ (i v : Nat) (G : Gs) (σ : Sg), Ls + 6 < 6 * i + v → v ≤ Ls + 6 → RC G σ → RM G σ → ∃ σ', fn_L_law_b18 n Ls xs i (nI v) σ = some (1, σ')
  | 0, v, G, σ, a, b, hc, hm => by
    exfalso
    omega
  | i + 1, v, G, σ, a, b, hc, hm => by
    rw [fn_L_law_b18]
    dsimp only
    by_cases z : Ls < v + 6
    · rw [if_pos (show Int32.ofNat Ls - 6 < nI v from (lb_end hL (by omega)).mpr z)]
      exact ⟨σ, rfl⟩
    · have hv : v + 6 ≤ Ls := by omega
      rw [if_neg (show ¬ Int32.ofNat Ls - 6 < nI v from fun q => z ((lb_end hL (by omega)).mp q)), if_pos (ma_ib (show v < Ls by omega) (by omega))]
      have hK : LK v (fn_L_law_b18 n Ls xs i) := fun G' σ' r m => by
        rw [show nI v + 6 = nI (v + 6) from nI_add v 6]
        exact lw_loop hn hL i (v + 6) G' σ' (by omega) (by omega) r m
      by_cases c0 : (xs (nI v).toNatClampNeg) &&& 63 = 0
      · rw [if_pos c0]; exact lb_type hn hv hL hc hm hK
      rw [if_neg c0]
      by_cases c1 : (xs (nI v).toNatClampNeg) &&& 63 = 1
      · rw [if_pos c1]; exact lb_wipe hn hv hL hc hm hK
      rw [if_neg c1]
      by_cases c2 : (xs (nI v).toNatClampNeg) &&& 63 = 2
      · rw [if_pos c2]; exact lb_undo hn hv hL hc hm hK
      rw [if_neg c2]
      by_cases c3 : (xs (nI v).toNatClampNeg) &&& 63 = 3
      · rw [if_pos c3]; exact lb_fault hn hv hL hc hm hK
      rw [if_neg c3]
      by_cases c4 : (xs (nI v).toNatClampNeg) &&& 63 = 4
      · rw [if_pos c4]; exact lb_person hn hv hL hc hm hK
      rw [if_neg c4]
      by_cases c5 : (xs (nI v).toNatClampNeg) &&& 63 = 5
      · rw [if_pos c5]; exact lb_knows hn hv hL hc hm hK
      rw [if_neg c5]
      by_cases c6 : (xs (nI v).toNatClampNeg) &&& 63 = 6
      · rw [if_pos c6]; exact lb_letter hn hv hL hc hm hK
      rw [if_neg c6]
      by_cases c7 : (xs (nI v).toNatClampNeg) &&& 63 = 7
      · rw [if_pos c7]; exact lb_back hn hv hL hc hm hK
      rw [if_neg c7]
      by_cases c8 : (xs (nI v).toNatClampNeg) &&& 63 = 8
      · rw [if_pos c8]; exact lb_read hn hv hL hc hm hK
      rw [if_neg c8]
      by_cases c9 : (xs (nI v).toNatClampNeg) &&& 63 = 9
      · rw [if_pos c9]; exact lb_age hn hv hL hc hm hK
      rw [if_neg c9]
      by_cases c10 : (xs (nI v).toNatClampNeg) &&& 63 = 10
      · rw [if_pos c10]; exact lb_opened hn hv hL hc hm hK
      rw [if_neg c10]
      by_cases c11 : (xs (nI v).toNatClampNeg) &&& 63 = 11
      · rw [if_pos c11]; exact lb_written hn hv hL hc hm hK
      rw [if_neg c11]
      by_cases c12 : (xs (nI v).toNatClampNeg) &&& 63 = 12
      · rw [if_pos c12]; exact lb_waits hn hv hL hc hm hK
      rw [if_neg c12]
      by_cases c13 : (xs (nI v).toNatClampNeg) &&& 63 = 13
      · rw [if_pos c13]; exact lb_known hn hv hL hc hm hK
      rw [if_neg c13]
      by_cases c14 : (xs (nI v).toNatClampNeg) &&& 63 = 14
      · rw [if_pos c14]; exact lb_learned hn hv hL hc hm hK
      rw [if_neg c14]
      by_cases c15 : (xs (nI v).toNatClampNeg) &&& 63 = 15
      · rw [if_pos c15]; exact lb_sealed hn hv hL hc hm hK
      rw [if_neg c15]
      by_cases c16 : (xs (nI v).toNatClampNeg) &&& 63 = 16
      · rw [if_pos c16]; exact lb_loud hn hv hL hc hm hK
      rw [if_neg c16]
      by_cases c17 : (xs (nI v).toNatClampNeg) &&& 63 = 17
      · rw [if_pos c17]; exact lb_tooSoon hn hv hL hc hm hK
      rw [if_neg c17]
      by_cases c18 : (xs (nI v).toNatClampNeg) &&& 63 = 18
      · rw [if_pos c18]; exact lb_send hn hv hL hc hm hK
      rw [if_neg c18]
      by_cases c19 : (xs (nI v).toNatClampNeg) &&& 63 = 19
      · rw [if_pos c19]; exact lb_trust hn hv hL hc hm hK
      rw [if_neg c19]
      by_cases c20 : (xs (nI v).toNatClampNeg) &&& 63 = 20
      · rw [if_pos c20]; exact lb_teach hn hv hL hc hm hK
      rw [if_neg c20]
      by_cases c21 : (xs (nI v).toNatClampNeg) &&& 63 = 21
      · rw [if_pos c21]; exact lb_done hn hv hL hc hm hK
      rw [if_neg c21]
      by_cases c22 : (xs (nI v).toNatClampNeg) &&& 63 = 22
      · rw [if_pos c22]; exact lb_forget hn hv hL hc hm hK
      rw [if_neg c22]
      by_cases c23 : (xs (nI v).toNatClampNeg) &&& 63 = 23
      · rw [if_pos c23]; exact lb_said hn hv hL hc hm hK
      rw [if_neg c23]
      by_cases c24 : (xs (nI v).toNatClampNeg) &&& 63 = 24
      · rw [if_pos c24]; exact lb_forged hn hv hL hc hm hK
      rw [if_neg c24]
      by_cases c25 : (xs (nI v).toNatClampNeg) &&& 63 = 25
      · rw [if_pos c25]; exact lb_chance hn hv hL hc hm hK
      rw [if_neg c25]
      by_cases c26 : (xs (nI v).toNatClampNeg) &&& 63 = 26
      · rw [if_pos c26]; exact lb_drawn hn hv hL hc hm hK
      rw [if_neg c26]
      by_cases c27 : (xs (nI v).toNatClampNeg) &&& 63 = 27
      · rw [if_pos c27]; exact lb_sheet hn hv hL hc hm hK
      rw [if_neg c27]
      by_cases c28 : (xs (nI v).toNatClampNeg) &&& 63 = 28
      · rw [if_pos c28]; exact lb_lose hn hv hL hc hm hK
      rw [if_neg c28]
      by_cases c29 : (xs (nI v).toNatClampNeg) &&& 63 = 29
      · rw [if_pos c29]; exact lb_put hn hv hL hc hm hK
      rw [if_neg c29]
      by_cases c30 : (xs (nI v).toNatClampNeg) &&& 63 = 30
      · rw [if_pos c30]; exact lb_get hn hv hL hc hm hK
      rw [if_neg c30]
      by_cases c31 : (xs (nI v).toNatClampNeg) &&& 63 = 31
      · rw [if_pos c31]; exact lb_copy hn hv hL hc hm hK
      rw [if_neg c31]
      by_cases c32 : (xs (nI v).toNatClampNeg) &&& 63 = 32
      · rw [if_pos c32]; exact lb_write hn hv hL hc hm hK
      rw [if_neg c32]
      by_cases c33 : (xs (nI v).toNatClampNeg) &&& 63 = 33
      · rw [if_pos c33]; exact lb_count hn hv hL hc hm hK
      rw [if_neg c33]
      by_cases c34 : (xs (nI v).toNatClampNeg) &&& 63 = 34
      · rw [if_pos c34]; exact lb_digest hn hv hL hc hm hK
      rw [if_neg c34]
      exact hK G σ hc hm
