/-! THE CLAIM OUT OF ONE WALK OF THE LAW'S BODY. Your part is whole_start (and what it stands on); all else here is the same for every law, but numbers. -/
def R_law : String := "AgeLettersLaw"
def lw_P (b : Addr) (xs : List Int32) (args : Array Value) (s : State) : Prop := args = #[.ref b] ∧ s.IntsAt b xs ∧ xs.length ≤ 3072 ∧ (Jvm.Cond.and given_1 narrow_1).before args s = true
def lw_Q (_ : Array Value) (s : State) (o : Outcome) (t : State) : Prop := o = .returned (some (.int 1)) ∧ Framed s o t [] 600000 7302250
def lw_Z (below : List Frame) (a : Array Value) (s : State) : State → Prop := fun t => ∃ o, t.status = .running ∧ Ended t below o ∧ lw_Q a s o t
/-- the law's own end, with 1 on the stack, nothing written that was there before, its room as the claim has it -/
theorem lw_ret {p : Program} {l : Launch} {e : Env} {s : State} {m : MethodId} {below : List Frame} {meth : Method} {c : Code} {b : Nat} (hx : p.tables.exec = Jvm.exec) (hb : c.code = code) (hr : meth.sig.returnType = ret) (hlocks : meth.locks = false) {pc : Nat} {H : Heap} {ls : Array Slot} (hdg : decode code pc = .ok (.ireturn, 1)) : W p l e room_1 s m #[Value.ref b] below meth c H [] 600000 7302250 (lw_Z below #[Value.ref b] s) (F0 m pc ls [.int 1]) := by
  intro T hT X
  obtain ⟨fs, hret, hrun, hended, hW, hframe⟩ := X.leave (v := some (.int 1)) (hlocks := hlocks) (fun h => by rw [hr] at h; cases h)
  have hmeth' : T.vm.method? m = some meth := X.method'
  refine ⟨T.setFrames fs, ?_, .returned (some (.int 1)), hrun, hended, rfl, ⟨_, rfl⟩, hW, hframe⟩
  jvm_step X.here [X.here.top, hx, hb, hdg, hmeth', hr, ret, narrow_b1]
  (try refine ⟨rfl, ?_⟩); (try refine ⟨rfl, ?_⟩)
  first | (intro acts; rw [hret _ acts rfl rfl rfl]) | rw [hret _ _ rfl rfl rfl]
  exact Steps.refl _
/-- what holds at the law's entry: the machine, the code, the tables' words (any of lw_tbl by 'hts w (by decide +kernel)'), the script of L ints xs at the cell b, what the Statement gives of the start (any of its parts by flat_of_before) -/
def lw_At (p : Program) (s : State) (m : MethodId) (meth : Method) (c : Code) (b L : Nat) (xs : Nat → Int32) : Prop :=
  p.tables.exec = Jvm.exec ∧ c.code = code ∧ meth.sig.returnType = ret ∧ c.maxLocals = 4 ∧ s.vm.findClass R_law = some m.cls ∧ (∀ w ∈ lw_tbl, w.before #[Value.ref b] s = true) ∧ va_X b L xs s s.heap ∧ b < s.heap.size ∧ meth.locks = false ∧ (Jvm.Cond.and given_1 narrow_1).before #[Value.ref b] s = true
theorem dL_law_0 : decode code 0 = .ok (.new 7, 3) := by decide +kernel
theorem dL_law_3 : decode code 3 = .ok (.dup, 1) := by decide +kernel
theorem dL_law_4 : decode code 4 = .ok (.invokespecial 9, 3) := by decide +kernel
theorem dL_law_7 : decode code 7 = .ok (.astore_n 1, 1) := by decide +kernel
theorem dL_law_8 : decode code 8 = .ok (.new 10, 3) := by decide +kernel
theorem dL_law_11 : decode code 11 = .ok (.dup, 1) := by decide +kernel
theorem dL_law_12 : decode code 12 = .ok (.invokespecial 12, 3) := by decide +kernel
theorem dL_law_15 : decode code 15 = .ok (.astore_n 2, 1) := by decide +kernel
theorem dL_law_16 : decode code 16 = .ok (.iconst 0, 1) := by decide +kernel
theorem dL_law_17 : decode code 17 = .ok (.istore_n 3, 1) := by decide +kernel
theorem ag_over : Cond.arrayOver (.object RX3) ∈ lw_tbl := List.mem_of_getElem? (i := 237) (by decide +kernel)
/-- the world as it is behind the two constructors -/
def ag_b0 : Sg := (fn_X7_asTold ag_s0).getD ag_s0
theorem ag_b0_eq : fn_X7_asTold ag_s0 = some ag_b0 := rfl
def ImD (y : MethodName) (M : Md) (fr lo mc ms : Nat) (o : va_E) (L : List va_E) (cs : Cs) (z : Nat) (w : List va_E) : Prop :=
  ∀ (l : Launch) (D : va_G), Met l y (ag_ws y M.2.1 M.2.2.1 M.2.2.2.1) ({ frames := fr, cells := mc, slots := ms, locals := lo }) (cw_Pc D cs z L o) (cw_Qc D z w) mc ms (fun q => z ≤ q)
theorem ImD.of {y : MethodName} {M : Md} {fr lo mc ms : Nat} {o : va_E} {L : List va_E} {cs : Cs} {z : Nat} {w : List va_E} (hy : plainName y.cls = true) (hc : y.cls = M.1) (hyn : y.name = "<init>") (hr : M.2.2.2.1 = none) (hn : 1 ≤ M.2.2.1)
    (h : EvC M fr lo mc ms (L.length + 1) z cs 0 [(0, .ref (z + L.length))] [] (L ++ [o]) 0 0 (cw_E M mc ms z w)) : ImD y M fr lo mc ms o L cs z w := by
  intro l D
  refine Met.ofW (cc := M.2.1) (maxL := M.2.2.1) (ret := M.2.2.2.1) hy rfl ?_
  intro p e s m args below meth c s₁ B hml hv
  obtain ⟨rfl, hP, hz, hK, hO⟩ := hv
  have hts := atoms_spec (ws := ag_ws y M.2.1 M.2.2.1 M.2.2.2.1) B.pre
  have hown : s.vm.findClass M.1 = some m.cls := hc ▸ findClass_of_methodNamed B.named
  have hl := lv_entry [Value.ref (z + L.length)] (n := M.2.2.1) hn
  have hnm : meth.name = "<init>" := (name_of_methodNamed B.named B.method).1.trans hyn
  have e9 : entryFrame m #[Value.ref (z + L.length)] M.2.2.1 = F0 m 0 ((lg_sl [Value.ref (z + L.length)] ++ List.replicate (M.2.2.1 - (lg_sl [Value.ref (z + L.length)]).length) Slot.unset).toArray) [] := lg_entry_eq m [Value.ref (z + L.length)] M.2.2.1
  rw [e9]
  exact h p l e _ s m _ below meth c D _ ⟨B.exec, B.bytes, hml, hown, fun w hw => hts w (List.mem_cons_of_mem _ hw), ⟨hK, hO⟩, hz, ⟨Nat.le_refl _, Nat.le_refl _⟩, ⟨Nat.le_refl _, Nat.le_refl _⟩, fun _ => hnm⟩ (fun H locs pc ls hP hS hd => W.vret B.exec B.bytes (B.returns.trans hr) (fun t ht hW => ⟨rfl, by rw [ht]; exact hP, hS.F ht⟩) hS.2.2 hd B.notSynchronized) s.heap [] _ hP va_S.rf hl
theorem ec_ctorD {M : Md} {fr lo mc ms n0 z : Nat} {cs : Cs} {pc : Nat} {lv : List (Nat × Value)} {st : List Value} {w : List va_E} {F : cw_FT} {cells slots : Nat} {y : MethodName} {M' : Md} {fr' lo' mc' ms' x idx : Nat} {o : va_E} {L w' : List va_E} (hM : ImD y M' fr' lo' mc' ms' o L cs z w') (hMi : ag_Mi y M') (hml : Cond.methodLink M.1 idx y ∈ ag_tbl) (hw : w = L ++ [o]) (hlen : w.length = n0 + cells) (hx : x = z + L.length) (hst : (st.map fun v => v.category).sum ≤ 8) (hR : fr' + 1 ≤ fr ∧ 8 + (M'.2.2.1 + 11) + lo' ≤ lo) (hc : cells + mc' ≤ mc ∧ slots + ms' ≤ ms) (hd : decode M.2.1 pc = .ok (.invokespecial idx, 3)) (k : EvC M fr lo mc ms n0 z cs (pc + 3) lv st w' (cells + mc') (slots + ms') F) : EvC M fr lo mc ms n0 z cs pc lv (.ref x :: st) w cells slots F := by
  intro p l e R s m args below meth c D Q C hf H locs ls hP hS hl
  have hts := C.2.2.2.2.1
  obtain ⟨hco, him, hini, hyn, hret, hds⟩ := hMi
  subst hw
  subst hx
  refine cw_sz (fun hsz => ?_)
  have hfull := cw_full hP
  have hl9 : (L ++ [o]).length = L.length + 1 := by rw [List.length_append]; rfl
  have hsz9 : H.size = z + (L.length + 1) := by have := C.2.2.2.2.2.2.1; omega
  have hco' : Cond.code y M'.2.1 M'.2.2.1 M'.2.2.2.1 ∈ ag_tbl := by rw [hret]; exact hco
  have hB : CallB R s args M.1 idx y M'.2.1 M'.2.2.1 M'.2.2.2.1 (ag_ws y M'.2.1 M'.2.2.1 M'.2.2.2.1) ({ frames := fr', cells := mc', slots := ms', locals := lo' }) mc' ms' 0 := callB_of 0 hts (ag_gws (ag_ws_in hco')) rfl rfl rfl (hts _ hini) (hts _ hml) hds ⟨Nat.le_trans hR.1 C.2.2.2.2.2.2.2.1.1, Nat.le_trans hR.2 C.2.2.2.2.2.2.2.1.2⟩
  have hMM := hM l D
  rw [hret] at hB hMM
  refine cw_call (rest := st) (va_runI (As := []) (b := z + L.length) ⟨C.1, C.2.1, C.2.2.1, C.2.2.2.1, hts⟩ hMM ⟨hB, hyn, hts _ him⟩ ⟨cw_blind, fun U hU hW => ⟨rfl, by rw [hU]; exact hP, by rw [hU]; exact hsz9, C.2.2.2.2.2.1.1.warm hW, va_AO.moved hW.alike C.2.2.2.2.2.1.2⟩⟩ rfl rfl hl.1 rfl (lv_room hst) hd ⟨Nat.le_trans hc.1 C.2.2.2.2.2.2.2.2.1.1, Nat.le_trans hc.2 C.2.2.2.2.2.2.2.2.1.2⟩) hS (fun H1 locs1 hP1 hS1 => ?_)
  exact k p l e R s m args below meth c D Q C hf H1 locs1 ls hP1 hS1 hl
/-- the script stands behind the cells -/
def ag_az (z b k : Nat) : Nat := if k = 77 then b else z + k
theorem ag_tg77 : ∀ k, k < 77 → ∀ j, j < 40 → ag_tg k j ≠ some 77 := by decide +kernel
theorem ag_tgN : ∀ k, k < 77 → (ag_kd k).2 ≤ 192 ∧ ((ag_kd k).1 < 8 → (ag_kd k).2 < 40) := by decide +kernel
theorem ag_az_P {D : va_G} {cs : Cs} {z b : Nat} {σ : Sg} {H : Heap} (h : va_P D ag_cl (ag_W (fun k => z + k) cs σ) H) : va_P D ag_cl (ag_W (ag_az z b) cs σ) H := by
  intro k q hk
  obtain ⟨hk77, rfl⟩ := ag_W_no _ _ _ hk
  have h1 := h k _ (ag_W_at _ _ _ hk77)
  have ea : ag_az z b k = z + k := if_neg (by omega)
  by_cases e : (ag_kd k).1 < 8
  · have ee : ag_en (ag_az z b) cs σ k = ag_en (fun k => z + k) cs σ k := by
      unfold ag_en
      rw [if_pos e, if_pos e]
      congr 2
      apply List.map_congr_left
      intro j hj
      have hj := List.mem_range.mp hj
      have hj40 : j < 40 := Nat.lt_trans hj ((ag_tgN k hk77).2 e)
      have hne := ag_tg77 k hk77 j hj40
      unfold ag_fv
      cases ht : ag_tg k j with
      | none => rfl
      | some t =>
        show Value.ref (ag_az z b t) = Value.ref (z + t)
        have : t ≠ 77 := fun q => hne (by rw [ht, q])
        rw [show ag_az z b t = z + t from if_neg this]
    rw [ea, ee]
    exact h1
  · by_cases e8 : (ag_kd k).1 = 8
    · have ee : ag_en (ag_az z b) cs σ k = ag_en (fun k => z + k) cs σ k := by
        unfold ag_en
        rw [if_neg e, if_neg e, if_pos e8, if_pos e8]
      rw [ea, ee]
      exact h1
    · by_cases e9 : (ag_kd k).1 = 9
      · have ee : ag_en (ag_az z b) cs σ k = ag_en (fun k => z + k) cs σ k := by
          unfold ag_en
          rw [if_neg e, if_neg e, if_neg e8, if_neg e8, if_pos e9, if_pos e9]
        rw [ea, ee]
        exact h1
      · have e1 : ag_en (ag_az z b) cs σ k = .inl (cs.2.2, (ag_kd k).2, .inr (.inr (.inr (.inr (fun i => some (ag_az z b (45 + 2 * i))))))) := by
          unfold ag_en
          rw [if_neg e, if_neg e8, if_neg e9]
        have e2 : ag_en (fun k => z + k) cs σ k = .inl (cs.2.2, (ag_kd k).2, .inr (.inr (.inr (.inr (fun i => some (z + (45 + 2 * i))))))) := by
          unfold ag_en
          rw [if_neg e, if_neg e8, if_neg e9]
        rw [ea, e1]
        rw [e2] at h1
        have h2 : H[z + k]? = some (vp_cell _ _) := h1
        show H[z + k]? = some (vp_cell _ _)
        rw [h2, vp_cell_q, vp_cell_q]
        congr 1
        apply arrV_ext_ag
        intro i hi
        have h44 : (ag_kd k).2 ≤ 4 := by
          have : ∀ k, k < 77 → ¬ (ag_kd k).1 < 8 → ¬ (ag_kd k).1 = 8 → ¬ (ag_kd k).1 = 9 → (ag_kd k).2 ≤ 4 := by decide +kernel
          exact this k hk77 e e8 e9
        show va_rf (some _) = va_rf (some _)
        rw [show ag_az z b (45 + 2 * i) = z + (45 + 2 * i) from if_neg (by omega)]
def lw_F (z : Nat) : cw_FT := fun p l e R s m args below meth c D Q => ∀ (H : Heap) (locs : List Loc) (pc : Nat) (ls : Array Slot), va_S (fun q => z ≤ q) s.heap H locs → decode code pc = .ok (.ireturn, 1) → W p l e R s m args below meth c H locs 77 1378 Q (F0 m pc ls [.int 1])
/-- what the functions must do: on every script the loop ends with 1 -/
def lw_Pure : Prop := ∀ (Ls : Nat) (xs : Nat → Int32), Ls ≤ 3072 → ∃ (n i : Nat) (σ : Sg), fn_L_law_b18 n Ls xs i 0 ag_b0 = some (1, σ)
set_option maxRecDepth 20000 in
set_option maxHeartbeats 4000000 in
theorem whole_open (hp : lw_Pure) {p : Program} {e : Env} {s : State} {m : MethodId} {below : List Frame} {meth : Method} {c : Code} (l : Launch) {b L : Nat} {xs : Nat → Int32} (hL : L ≤ 3072) (C0 : lw_At p s m meth c b L xs) : W p l e room_1 s m #[Value.ref b] below meth c s.heap [] 0 0 (lw_Z below #[Value.ref b] s) (entryFrame m ([Value.ref b] : List Value).toArray 4) := by
  obtain ⟨hx, hb, hr, hml, hown, hts, hX, hbl, hlocks, hgv⟩ := C0
  have hta : ∀ w ∈ ag_tbl, w.before #[Value.ref b] s = true := fun w h => hts w (ag_lw h)
  obtain ⟨c0, iS0, hKn0⟩ := u_known (C := RX0) (T := TX0) (N := 5) (n := 5) hta ag_inX0 (hta _ ag_ins_X0)
  obtain ⟨c1, iS1, hKn1⟩ := u_known (C := RX1) (T := TX1) (N := 6) (n := 6) hta ag_inX1 (hta _ ag_ins_X1)
  obtain ⟨c2, iS2, hKn2⟩ := u_known (C := RX2) (T := TX2) (N := 6) (n := 6) hta ag_inX2 (hta _ ag_ins_X2)
  obtain ⟨c3, iS3, hKn3⟩ := u_known (C := RX3) (T := TX3) (N := 4) (n := 4) hta ag_inX3 (hta _ ag_ins_X3)
  obtain ⟨c4, iS4, hKn4⟩ := u_known (C := RX4) (T := TX4) (N := 2) (n := 2) hta ag_inX4 (hta _ ag_ins_X4)
  obtain ⟨c5, iS5, hKn5⟩ := u_known (C := RX5) (T := TX5) (N := 10) (n := 10) hta ag_inX5 (hta _ ag_ins_X5)
  obtain ⟨c6, iS6, hKn6⟩ := u_known (C := RX6) (T := TX6) (N := 8) (n := 8) hta ag_inX6 (hta _ ag_ins_X6)
  obtain ⟨c7, iS7, hKn7⟩ := u_known (C := RX7) (T := TX7) (N := 37) (n := 37) hta ag_inX7 (hta _ ag_ins_X7)
  obtain ⟨dC, dI, hKc⟩ : ∃ (dC : Nat → ClassId) (dI : Nat → Nat → Nat), ∀ (k : Nat) (q : vw_C), ag_cl[k]? = some q → u_Kn s q.1 q.2.1 q.2.2 (dC k) (dI k) := by
    refine ⟨fun k => match k with | 0 => c0 | 1 => c1 | 2 => c2 | 3 => c3 | 4 => c4 | 5 => c5 | 6 => c6 | _ => c7, fun k => match k with | 0 => iS0 | 1 => iS1 | 2 => iS2 | 3 => iS3 | 4 => iS4 | 5 => iS5 | 6 => iS6 | _ => iS7, ?_⟩
    intro k q hq
    match k, hq with
    | 0, hq => cases hq; exact hKn0
    | 1, hq => cases hq; exact hKn1
    | 2, hq => cases hq; exact hKn2
    | 3, hq => cases hq; exact hKn3
    | 4, hq => cases hq; exact hKn4
    | 5, hq => cases hq; exact hKn5
    | 6, hq => cases hq; exact hKn6
    | 7, hq => cases hq; exact hKn7
    | k + 8, hq => simp [ag_cl] at hq
  obtain ⟨cI, kI, compI, i1, i2, i3⟩ := Cond.arrayClass_spec (hta _ ag_ac_int)
  obtain ⟨cZ, kZ, compZ, j1, j2, j3⟩ := Cond.arrayClass_spec (hta _ ag_ac_boolean)
  obtain ⟨compR, cR, kR, r1, r2, r3, r4, r5⟩ := Cond.arrayOver_spec (hts _ ag_over)
  have hK : ag_K (dC, dI) (cI, cZ, cR) s := by
    refine ⟨⟨hKc, fun k q hq => ?_⟩, va_Nw.of rfl (hts _ ag_nest)⟩
    match k, hq with
    | 0, hq => cases hq; exact ⟨fun n z => ⟨fun k h => (by cases h), kI, i2, compI, i3⟩, i1⟩
    | 1, hq => cases hq; exact ⟨fun n z => ⟨fun k h => (by cases h), kZ, j2, compZ, j3⟩, j1⟩
    | 2, hq => cases hq; exact ⟨fun n z => ⟨fun k h => (by cases h), kR, r3, compR, r4⟩, kR, compR, r3, r4, r1, r5⟩
    | k + 3, hq => simp [ag_ty] at hq
  have hO : va_AO RX3 s := va_AO.of (hts _ ag_over)
  obtain ⟨n, i, σ, hpure⟩ := hp L xs hL
  generalize hz : s.heap.size = z
  generalize hcs : ((cI, cZ, cR) : Cs) = cs at hK
  have K : EvC (mL_law L xs) 12 484 600000 7302250 0 z cs 0 [(0, .ref b)] [] [] 0 0 (fun p' l' e' R' s' m' args' below' meth' c' D' Q' => lw_F z p' l' e' R' s' m' args' below' meth' c' D' Q' ∧ va_X b L xs s' s'.heap ∧ b < z ∧ s'.heap.size = z) := by
    refine ec_new (pc := 0) (x := z) (fs := [.null, .null, .null, .null, .null, .null, .null, .int 0]) (w' := [.inr (6, [.null, .null, .null, .null, .null, .null, .null, .int 0])]) ag_C6 ag_cl_L_7 ag_ins_X6 ag_ini_X6 (by decide +kernel) rfl rfl rfl ⟨(Nat.le_of_ble_eq_true rfl), (Nat.le_of_ble_eq_true rfl)⟩ (mL_d dL_law_0) ?_
    refine ec_dup (pc := 3) (mL_d dL_law_3) rfl ?_
    refine ec_ctor (pc := 4) (L := []) (x := z) (w' := lf_X6_init cs z) ic_X6_init trivial mi_X6_init ag_ml_L_9 rfl rfl rfl rfl (Nat.le_of_ble_eq_true rfl) ⟨(Nat.le_of_ble_eq_true rfl), (Nat.le_of_ble_eq_true rfl)⟩ ⟨(Nat.le_of_ble_eq_true rfl), (Nat.le_of_ble_eq_true rfl)⟩ (mL_d dL_law_4) ?_
    refine ec_astore_n (pc := 7) (i := 1) (lv' := [(1, .ref z), (0, .ref b)]) (mL_d dL_law_7) rfl (Nat.le_of_ble_eq_true rfl) rfl ?_
    refine ec_new (pc := 8) (x := z + 53) (fs := [.null, .int 0, .int 0, .null, .null, .null, .null, .int 0, .null, .null, .null, .null, .null, .int 0, .int 0, .int 0, .int 0, .int 0, .int 0, .null, .null, .null, .int 0, .int 0, .int 0, .null, .int 0, .null, .null, .null, .null, .null, .null, .null, .null, .null, .int 0]) (w' := lf_X6_init cs z ++ [.inr (7, [.null, .int 0, .int 0, .null, .null, .null, .null, .int 0, .null, .null, .null, .null, .null, .int 0, .int 0, .int 0, .int 0, .int 0, .int 0, .null, .null, .null, .int 0, .int 0, .int 0, .null, .int 0, .null, .null, .null, .null, .null, .null, .null, .null, .null, .int 0])]) ag_C7 ag_cl_L_10 ag_ins_X7 ag_ini_X7 (by decide +kernel) rfl rfl rfl ⟨(Nat.le_of_ble_eq_true rfl), (Nat.le_of_ble_eq_true rfl)⟩ (mL_d dL_law_8) ?_
    refine ec_dup (pc := 11) (mL_d dL_law_11) rfl ?_
    refine ec_ctorD (pc := 12) (L := lf_X6_init cs z) (x := z + 53) (w' := wA cs z ag_b0) (ImD.of (by decide +kernel) rfl rfl rfl (Nat.le_of_ble_eq_true rfl) (ic_X7_init ag_b0 ag_b0_eq cs z (lf_X6_init cs z) _ rfl rfl)) mi_X7_init ag_ml_L_12 rfl rfl rfl (Nat.le_of_ble_eq_true rfl) ⟨(Nat.le_of_ble_eq_true rfl), (Nat.le_of_ble_eq_true rfl)⟩ ⟨(Nat.le_of_ble_eq_true rfl), (Nat.le_of_ble_eq_true rfl)⟩ (mL_d dL_law_12) ?_
    refine ec_astore_n (pc := 15) (i := 2) (lv' := [(2, .ref (z + 53)), (1, .ref z), (0, .ref b)]) (mL_d dL_law_15) rfl (Nat.le_of_ble_eq_true rfl) rfl ?_
    refine ec_iconst (pc := 16) (v := 0) (mL_d dL_law_16) (by decide) ?_
    refine ec_istore_n (pc := 17) (i := 3) (lv' := [(3, .int 0), (2, .ref (z + 53)), (1, .ref z), (0, .ref b)]) (mL_d dL_law_17) rfl (Nat.le_of_ble_eq_true rfl) rfl ?_
    intro p' l' e' R' s' m' args' below' meth' c' D' Q' C hf H locs ls hP hS hl
    obtain ⟨hF, hX', hb', hz'⟩ := hf
    rw [wA_W] at hP
    refine ev_L_law_b18 n L xs i 0 ag_b0 (1, σ) hpure p' l' e' R' s' m' args' below' meth' c' D' (ag_az z b) cs (fun q => z ≤ q) 77 1378 Q' ⟨C.1, C.2.1, C.2.2.1, C.2.2.2.1, C.2.2.2.2.1, C.2.2.2.2.2.1.1, ⟨fun i j hi hj hij => ?_, fun k hk => ?_⟩, ⟨Nat.le_trans (Nat.le_of_ble_eq_true rfl) C.2.2.2.2.2.2.2.1.1, Nat.le_trans (Nat.le_of_ble_eq_true rfl) C.2.2.2.2.2.2.2.1.2⟩, ⟨Nat.le_trans (Nat.le_of_ble_eq_true rfl) C.2.2.2.2.2.2.2.2.1.1, Nat.le_trans (Nat.le_of_ble_eq_true rfl) C.2.2.2.2.2.2.2.2.1.2⟩, hX', by rw [hz']; exact hb', fun q => absurd q (Nat.not_le.mpr hb')⟩ (fun H locs pc ls _ hS hd _ => hF H locs pc ls hS (by rw [← mL_code L xs]; exact hd)) H locs ls (ag_az_P hP) hS (lv_sub hl [3, 2, 1, 0] rfl)
    · rw [show ag_az z b i = z + i from if_neg (by omega), show ag_az z b j = z + j from if_neg (by omega)] at hij
      omega
    · show z ≤ ag_az z b k
      rw [show ag_az z b k = z + k from if_neg (by omega)]
      exact Nat.le_add_right z k
  have hl := lv_entry [Value.ref b] (n := 4) (Nat.le_of_ble_eq_true rfl)
  have e9 : entryFrame m #[Value.ref b] 4 = F0 m 0 ((lg_sl [Value.ref b] ++ List.replicate (4 - (lg_sl [Value.ref b]).length) Slot.unset).toArray) [] := lg_entry_eq m [Value.ref b] 4
  show W p l e room_1 s m #[Value.ref b] below meth c s.heap [] 0 0 (lw_Z below #[Value.ref b] s) (entryFrame m #[Value.ref b] 4)
  rw [e9]
  exact K p l e room_1 s m #[Value.ref b] below meth c (dC, dI) (lw_Z below #[Value.ref b] s) ⟨hx, hb, hml, hown, hta, ⟨hK, hO⟩, hz, ⟨(Nat.le_of_ble_eq_true rfl), (Nat.le_of_ble_eq_true rfl)⟩, ⟨(Nat.le_of_ble_eq_true rfl), (Nat.le_of_ble_eq_true rfl)⟩, fun h => absurd rfl h⟩ ⟨fun H locs pc ls hS hd => va_forget (fun q hq => by rw [hz]; exact hS.2.2 q hq) (W.widen (k := 600000) (n := 7302250) (Nat.le_of_ble_eq_true rfl) (Nat.le_of_ble_eq_true rfl) (lw_ret hx hb hr hlocks hd)), hX, by rw [← hz]; exact hbl, hz⟩ s.heap [] _ (fun k q h => by rw [cw_get] at h; simp at h) va_S.rf hl
