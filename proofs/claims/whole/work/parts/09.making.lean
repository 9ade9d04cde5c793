/-! making: cells at addresses z, z + 1 .., in the order of their making -/
def cw_W (z : Nat) (w : List va_E) : va_W := (w.zipIdx z).map (fun q => (q.2, q.1))
theorem cw_get (z : Nat) (w : List va_E) (k : Nat) : (cw_W z w)[k]? = (w[k]?).map (fun e => (z + k, e)) := by
  unfold cw_W
  rw [List.getElem?_map, List.getElem?_zipIdx]
  cases w[k]? <;> rfl
theorem cw_len (z : Nat) (w : List va_E) : (cw_W z w).length = w.length := by simp [cw_W]
theorem cw_at {z : Nat} {w : List va_E} {k : Nat} {e : va_E} (h : w[k]? = some e) : (cw_W z w)[k]? = some (z + k, e) := by
  rw [cw_get, h]
  rfl
theorem cw_no {z : Nat} {w : List va_E} {k : Nat} {q : Nat × va_E} (h : (cw_W z w)[k]? = some q) : k < w.length ∧ q.1 = z + k := by
  rw [cw_get] at h
  cases hw : w[k]? with
  | none => rw [hw] at h; cases h
  | some e =>
    rw [hw] at h
    cases h
    exact ⟨(List.getElem?_eq_some_iff.mp hw).1, rfl⟩
theorem cw_set (z : Nat) (w : List va_E) (k : Nat) (e : va_E) : (cw_W z w).set k (z + k, e) = cw_W z (w.set k e) := by
  apply List.ext_getElem?
  intro i
  rw [List.getElem?_set, cw_get, cw_get, List.getElem?_set, cw_len]
  by_cases h : k = i
  · subst h
    rw [if_pos rfl, if_pos rfl]
    by_cases h2 : k < w.length
    · rw [if_pos h2, if_pos h2]; rfl
    · rw [if_neg h2, if_neg h2]; rfl
  · rw [if_neg h, if_neg h]
theorem cw_push (z : Nat) (w : List va_E) (e : va_E) : cw_W z w ++ [(z + w.length, e)] = cw_W z (w ++ [e]) := by
  unfold cw_W
  rw [List.zipIdx_append, List.map_append]
  rfl
theorem cw_D (z : Nat) (w : List va_E) : va_D (fun q => z ≤ q) (cw_W z w) := by
  refine ⟨fun i j p q hi hj hpq => ?_, fun k q hk => ?_⟩
  · have h1 := (cw_no hi).2
    have h2 := (cw_no hj).2
    omega
  · have h1 := (cw_no hk).2
    show z ≤ q.1
    omega
theorem cw_q {D : va_G} {cl : List vw_C} {z : Nat} {w : List va_E} {q : Nat} {e : va_E} {H1 : Heap} (hP : va_P D cl (cw_W z w ++ [(q, e)]) H1) (hD : va_D (fun q => z ≤ q) (cw_W z w ++ [(q, e)])) (hs : H1.size ≤ z + w.length + 1) : q = z + w.length := by
  have hl := cw_len z w
  have hat : (cw_W z w ++ [(q, e)])[w.length]? = some (q, e) := by rw [List.getElem?_append_right (by omega), hl, Nat.sub_self]; rfl
  have h1 : q < H1.size := (hP _ _ hat).lt
  have h2 : z ≤ q := hD.2 _ _ hat
  by_cases h : q < z + w.length
  · have hk : q - z < w.length := by omega
    have h3 : (cw_W z w ++ [(q, e)])[q - z]? = some (z + (q - z), w[q - z]) := by
      rw [List.getElem?_append_left (by omega)]
      exact cw_at (List.getElem?_eq_getElem hk)
    have h4 := hD.1 _ _ _ _ h3 hat (by show z + (q - z) = q; omega)
    omega
  · omega
theorem cl_at {L l : List va_E} {i : Nat} {e : va_E} (h : l[i]? = some e) : (L ++ l)[L.length + i]? = some e := by
  rw [List.getElem?_append_right (by omega), Nat.add_sub_cancel_left, h]
theorem cl_set {L l l' : List va_E} {i : Nat} {e : va_E} (h : l.set i e = l') : (L ++ l).set (L.length + i) e = L ++ l' := by
  rw [List.set_append_right _ _ (by omega), Nat.add_sub_cancel_left, h]
theorem cl_push {L l l' : List va_E} {e : va_E} (h : l ++ [e] = l') : (L ++ l) ++ [e] = L ++ l' := by rw [List.append_assoc, h]
theorem cl_len {L l : List va_E} {z a n : Nat} (ha : a = z + L.length) (hn : l.length = n) : a + n = z + (L ++ l).length := by
  rw [List.length_append]
  omega
theorem cl_ln {L l : List va_E} {n m : Nat} (hn : l.length = n) (h2 : n = 1 + m) : (L ++ l).length = L.length + 1 + m := by
  rw [List.length_append]
  omega
theorem cl_adr {L : List va_E} {z a i : Nat} (ha : a = z + L.length) : a + i = z + (L.length + i) := by omega
def cw_Cx (M : Md) (fr lo mc ms n0 : Nat) (p : Program) (R : Room) (s : State) (m : MethodId) (args : Array Value) (meth : Method) (c : Code) (D : va_G) (cs : Cs) (z : Nat) : Prop :=
  p.tables.exec = Jvm.exec ∧ c.code = M.2.1 ∧ c.maxLocals = M.2.2.1 ∧ s.vm.findClass M.1 = some m.cls ∧ (∀ w ∈ ag_tbl, w.before args s = true) ∧ (ag_K D cs s ∧ va_AO RX3 s) ∧ s.heap.size = z + n0 ∧ (fr ≤ R.frames ∧ lo ≤ R.locals) ∧ (mc ≤ R.cells ∧ ms ≤ R.slots) ∧ (M.1 ≠ RL → meth.name = "<init>")
def cw_Fin (M : Md) (mc ms : Nat) (p : Program) (l : Launch) (e : Env) (R : Room) (s : State) (m : MethodId) (args : Array Value) (below : List Frame) (meth : Method) (c : Code) (D : va_G) (z : Nat) (Q : State → Prop) (w : List va_E) : Prop :=
  ∀ (H : Heap) (locs : List Loc) (pc : Nat) (ls : Array Slot), va_P D ag_cl (cw_W z w) H → va_S (fun q => z ≤ q) s.heap H locs → decode M.2.1 pc = .ok (.return_, 1) → W p l e R s m args below meth c H locs mc ms Q (F0 m pc ls [])
abbrev cw_FT : Type := Program → Launch → Env → Room → State → MethodId → Array Value → List Frame → Method → Code → va_G → (State → Prop) → Prop
def cw_E (M : Md) (mc ms z : Nat) (w : List va_E) : cw_FT := fun p l e R s m args below meth c D Q => cw_Fin M mc ms p l e R s m args below meth c D z Q w
def EvC (M : Md) (fr lo mc ms n0 z : Nat) (cs : Cs) (pc : Nat) (lv : List (Nat × Value)) (st : List Value) (w : List va_E) (cells slots : Nat) (F : cw_FT) : Prop :=
  ∀ (p : Program) (l : Launch) (e : Env) (R : Room) (s : State) (m : MethodId) (args : Array Value) (below : List Frame) (meth : Method) (c : Code) (D : va_G) (Q : State → Prop), cw_Cx M fr lo mc ms n0 p R s m args meth c D cs z → F p l e R s m args below meth c D Q →
    ∀ (H : Heap) (locs : List Loc) (ls : Array Slot), va_P D ag_cl (cw_W z w) H → va_S (fun q => z ≤ q) s.heap H locs → lv_has ls M.2.2.1 lv → W p l e R s m args below meth c H locs cells slots Q (F0 m pc ls st)
theorem cw_sz {p : Program} {l : Launch} {e : Env} {R : Room} {s : State} {m : MethodId} {args : Array Value} {below : List Frame} {meth : Method} {c : Code} {H : Heap} {locs : List Loc} {cells slots : Nat} {Q : State → Prop} {g : JFrame} (k : H.size ≤ s.heap.size + cells → W p l e R s m args below meth c H locs cells slots Q g) : W p l e R s m args below meth c H locs cells slots Q g :=
  fun T hT X => k (by rw [← hT]; exact X.same.2.2.1) T hT X
section MAKE
variable {M : Md} {fr lo mc ms n0 z : Nat} {cs : Cs} {pc : Nat} {lv : List (Nat × Value)} {st : List Value} {w : List va_E} {F : cw_FT} {cells slots : Nat}
theorem ec_aload_n {k0 : Fin 4} {i : Nat} {x : Nat} (q : Nat) (hd : decode M.2.1 pc = .ok (.aload_n k0, 1)) (hi : (k0 : Nat) = i) (h0 : lv[q]? = some (i, .ref x)) (k : EvC M fr lo mc ms n0 z cs (pc + 1) lv (.ref x :: st) w cells slots F) : EvC M fr lo mc ms n0 z cs pc lv st w cells slots F :=
  fun _ _ _ _ _ _ _ _ _ _ _ _ C hf _ _ _ hP hS hl => lv_aload_n C.1 C.2.1 hd hi (lv_at hl q h0) (k _ _ _ _ _ _ _ _ _ _ _ _ C hf _ _ _ hP hS hl)
theorem ec_iload_n {k0 : Fin 4} {i : Nat} {x : Int32} (q : Nat) (hd : decode M.2.1 pc = .ok (.iload_n k0, 1)) (hi : (k0 : Nat) = i) (h0 : lv[q]? = some (i, .int x)) (k : EvC M fr lo mc ms n0 z cs (pc + 1) lv (.int x :: st) w cells slots F) : EvC M fr lo mc ms n0 z cs pc lv st w cells slots F :=
  fun _ _ _ _ _ _ _ _ _ _ _ _ C hf _ _ _ hP hS hl => lv_iload_n C.1 C.2.1 hd hi (lv_at hl q h0) (k _ _ _ _ _ _ _ _ _ _ _ _ C hf _ _ _ hP hS hl)
theorem ec_iconst {n : Int} {v : Int32} (hd : decode M.2.1 pc = .ok (.iconst n, 1)) (hv : Int32.ofInt n = v) (k : EvC M fr lo mc ms n0 z cs (pc + 1) lv (.int v :: st) w cells slots F) : EvC M fr lo mc ms n0 z cs pc lv st w cells slots F :=
  fun _ _ _ _ _ _ _ _ _ _ _ _ C hf _ _ _ hP hS hl => lv_iconst C.1 C.2.1 hd hv (k _ _ _ _ _ _ _ _ _ _ _ _ C hf _ _ _ hP hS hl)
theorem ec_bipush {n : Int} {v : Int32} (hd : decode M.2.1 pc = .ok (.bipush n, 2)) (hv : (Int8.ofInt n).toInt32 = v) (k : EvC M fr lo mc ms n0 z cs (pc + 2) lv (.int v :: st) w cells slots F) : EvC M fr lo mc ms n0 z cs pc lv st w cells slots F :=
  fun _ _ _ _ _ _ _ _ _ _ _ _ C hf _ _ _ hP hS hl => lv_bipush C.1 C.2.1 hd hv (k _ _ _ _ _ _ _ _ _ _ _ _ C hf _ _ _ hP hS hl)
theorem ec_sipush {n : Int} {v : Int32} (hd : decode M.2.1 pc = .ok (.sipush n, 3)) (hv : (Int16.ofInt n).toInt32 = v) (k : EvC M fr lo mc ms n0 z cs (pc + 3) lv (.int v :: st) w cells slots F) : EvC M fr lo mc ms n0 z cs pc lv st w cells slots F :=
  fun _ _ _ _ _ _ _ _ _ _ _ _ C hf _ _ _ hP hS hl => lv_sipush C.1 C.2.1 hd hv (k _ _ _ _ _ _ _ _ _ _ _ _ C hf _ _ _ hP hS hl)
theorem ec_dup {v : Value} (hd : decode M.2.1 pc = .ok (.dup, 1)) (hc : v.category = 1) (k : EvC M fr lo mc ms n0 z cs (pc + 1) lv (v :: v :: st) w cells slots F) : EvC M fr lo mc ms n0 z cs pc lv (v :: st) w cells slots F :=
  fun _ _ _ _ _ _ _ _ _ _ _ _ C hf _ _ _ hP hS hl => lv_dup C.1 C.2.1 hd hc (k _ _ _ _ _ _ _ _ _ _ _ _ C hf _ _ _ hP hS hl)
theorem ec_istore_n {k0 : Fin 4} {i : Nat} {x : Int32} {lv' : List (Nat × Value)} (hd : decode M.2.1 pc = .ok (.istore_n k0, 1)) (hi : (k0 : Nat) = i) (hn : i < M.2.2.1) (h0 : ag_s1 i (.int x) lv = lv') (k : EvC M fr lo mc ms n0 z cs (pc + 1) lv' st w cells slots F) : EvC M fr lo mc ms n0 z cs pc lv (.int x :: st) w cells slots F :=
  fun _ _ _ _ _ _ _ _ _ _ _ _ C hf _ _ _ hP hS hl => lv_istore_n C.1 C.2.1 hd hi hl hn h0 (fun _ hl => k _ _ _ _ _ _ _ _ _ _ _ _ C hf _ _ _ hP hS hl)
theorem ec_astore_n {k0 : Fin 4} {i : Nat} {x : Nat} {lv' : List (Nat × Value)} (hd : decode M.2.1 pc = .ok (.astore_n k0, 1)) (hi : (k0 : Nat) = i) (hn : i < M.2.2.1) (h0 : ag_s1 i (.ref x) lv = lv') (k : EvC M fr lo mc ms n0 z cs (pc + 1) lv' st w cells slots F) : EvC M fr lo mc ms n0 z cs pc lv (.ref x :: st) w cells slots F :=
  fun _ _ _ _ _ _ _ _ _ _ _ _ C hf _ _ _ hP hS hl => lv_astore_n C.1 C.2.1 hd hi hl hn h0 (fun _ hl => k _ _ _ _ _ _ _ _ _ _ _ _ C hf _ _ _ hP hS hl)
theorem ec_iinc {i : Nat} {n : Int} {x v : Int32} {lv' : List (Nat × Value)} (q : Nat) (hd : decode M.2.1 pc = .ok (.iinc i n, 3)) (h0 : lv[q]? = some (i, .int x)) (hv : x + Int32.ofInt n = v) (hn : i < M.2.2.1) (h1 : ag_s1 i (.int v) lv = lv') (k : EvC M fr lo mc ms n0 z cs (pc + 3) lv' st w cells slots F) : EvC M fr lo mc ms n0 z cs pc lv st w cells slots F :=
  fun _ _ _ _ _ _ _ _ _ _ _ _ C hf _ _ _ hP hS hl => lv_iinc C.1 C.2.1 hd hl h0 hv hn h1 (fun _ hl => k _ _ _ _ _ _ _ _ _ _ _ _ C hf _ _ _ hP hS hl)
theorem ec_goto {off : Int} {tgt : Nat} (hd : decode M.2.1 pc = .ok (.goto off, 3)) (ht : (pc : Int) + off = (tgt : Int)) (k : EvC M fr lo mc ms n0 z cs tgt lv st w cells slots F) : EvC M fr lo mc ms n0 z cs pc lv st w cells slots F :=
  fun _ _ _ _ _ _ _ _ _ _ _ _ C hf _ _ _ hP hS hl => lv_goto C.1 C.2.1 hd ht (k _ _ _ _ _ _ _ _ _ _ _ _ C hf _ _ _ hP hS hl)
theorem ec_geT {x y : Int32} {off : Int} {tgt : Nat} (hd : decode M.2.1 pc = .ok (.if_icmp .ge off, 3)) (ht : (pc : Int) + off = (tgt : Int)) (hc : y ≤ x) (k : EvC M fr lo mc ms n0 z cs tgt lv st w cells slots F) : EvC M fr lo mc ms n0 z cs pc lv (.int y :: .int x :: st) w cells slots F :=
  fun _ _ _ _ _ _ _ _ _ _ _ _ C hf _ _ _ hP hS hl => lv_icmp_ge C.1 C.2.1 hd ht (fun _ => k _ _ _ _ _ _ _ _ _ _ _ _ C hf _ _ _ hP hS hl) (fun h => absurd hc h)
theorem ec_geF {x y : Int32} {off : Int} {tgt : Nat} (hd : decode M.2.1 pc = .ok (.if_icmp .ge off, 3)) (ht : (pc : Int) + off = (tgt : Int)) (hc : ¬ y ≤ x) (k : EvC M fr lo mc ms n0 z cs (pc + 3) lv st w cells slots F) : EvC M fr lo mc ms n0 z cs pc lv (.int y :: .int x :: st) w cells slots F :=
  fun _ _ _ _ _ _ _ _ _ _ _ _ C hf _ _ _ hP hS hl => lv_icmp_ge C.1 C.2.1 hd ht (fun h => absurd h hc) (fun _ => k _ _ _ _ _ _ _ _ _ _ _ _ C hf _ _ _ hP hS hl)
theorem ec_obj {idx x : Nat} (hml : Cond.methodLink M.1 idx objectInit ∈ ag_tbl) (hR : 1 ≤ fr ∧ (st.map fun v => v.category).sum + 12 ≤ lo) (hd : decode M.2.1 pc = .ok (.invokespecial idx, 3)) (k : EvC M fr lo mc ms n0 z cs (pc + 3) lv st w cells slots F) : EvC M fr lo mc ms n0 z cs pc lv (.ref x :: st) w cells slots F := by
  intro p l e R s m args below meth c D Q C hf H locs ls hP hS hl
  exact W.objInit C.1 C.2.1 C.2.2.2.1 (C.2.2.2.2.1 _ hml) (C.2.2.2.2.1 _ ag_im_objectInit) (C.2.2.2.2.1 _ ag_co_objectInit) (g := F0 m pc ls (.ref x :: st)) rfl (hl.1.trans C.2.2.1.symm) rfl hd (Nat.le_trans hR.1 C.2.2.2.2.2.2.2.1.1) (by show 2 * 0 + _ + 12 ≤ _; have := hR.2; have := C.2.2.2.2.2.2.2.1.2; omega) (k _ _ _ _ _ _ _ _ _ _ _ _ C hf _ _ _ hP hS hl)
theorem ec_ret {wF : List va_E} (hw : w = wF) (hcs : cells = mc ∧ slots = ms) (hd : decode M.2.1 pc = .ok (.return_, 1)) : EvC M fr lo mc ms n0 z cs pc lv [] w cells slots (cw_E M mc ms z wF) := by
  intro p l e R s m args below meth c D Q C hf H locs ls hP hS hl
  obtain ⟨rfl, rfl⟩ := hcs
  subst hw
  exact hf H locs pc ls hP hS hd
theorem ec_newa {atype : ArrayType} {n : Int32} {N' x : Nat} {a0 : vp_A} {cA : ClassId} {w' : List va_E} (t0 : Nat) (ht : (ag_ty cs)[t0]? = some (cA, newarray.typeOf atype)) (hra : ∀ s, va_RA s cA (newarray.typeOf atype) → s.vm.findClass ("[" ++ (newarray.typeOf atype).toString) = some cA) (hac : Cond.arrayClass (newarray.typeOf atype) ∈ ag_tbl) (ha : ∀ cA : ClassId, vp_cell cA a0 = arrV cA N' (fun _ => defaultValue (newarray.typeOf atype))) (hn : ¬ n < 0) (hN : n.toNatClampNeg = N') (hb : N' * componentBytes (newarray.typeOf atype) ≤ 536870912)
    (hlen : w.length = n0 + cells) (hx : x = z + w.length) (hw' : w ++ [.inl (cA, a0)] = w') (hc : cells + 1 ≤ mc ∧ slots + N' ≤ ms) (hd : decode M.2.1 pc = .ok (.newarray atype, 2)) (k : EvC M fr lo mc ms n0 z cs (pc + 2) lv (.ref x :: st) w' (cells + 1) (slots + N') F) : EvC M fr lo mc ms n0 z cs pc lv (.int n :: st) w cells slots F := by
  intro p l e R s m args below meth c D Q C hf H locs ls hP hS hl
  have hK := C.2.2.2.2.2.1.1.1
  refine va_newa C.1 C.2.1 (C.2.2.2.2.1 _ hac) rfl hK hP (cw_D z w) hS (fun q h => by have := C.2.2.2.2.2.2.1; show z ≤ q; omega) ha hn hN hb (Nat.le_trans hc.1 C.2.2.2.2.2.2.2.2.1.1) (Nat.le_trans hc.2 C.2.2.2.2.2.2.2.2.1.2) hd (fun q cA' H1 hK1 hP1 hD1 hS1 => ?_)
  refine cw_sz (fun hsz => ?_)
  have hq := cw_q hP1 hD1 (by have := C.2.2.2.2.2.2.1; omega)
  have e1 := (hK1.2 ((ag_ty cs).length) (cA', newarray.typeOf atype) (by rw [List.getElem?_append_right (Nat.le_refl _), Nat.sub_self]; rfl)).2
  have e2 := (hK.2 t0 _ ht).2
  have e3 : s.vm.findClass ("[" ++ (newarray.typeOf atype).toString) = some cA' := by cases atype <;> exact e1
  have e4 : cA' = cA := Option.some.inj (e3.symm.trans (hra s e2))
  subst e4
  subst hq
  rw [cw_push, hw'] at hP1
  subst hx
  exact k p l e R s m args below meth c D Q C hf H1 locs ls hP1 hS1 hl
theorem ec_new {idx ci N x : Nat} {Cn : String} {T : u_T} {ty : Nat → FieldType} {fs : List Value} {w' : List va_E} (hC : ag_Cf ci Cn T N ty) (hcl : Cond.classLink M.1 idx Cn ∈ ag_tbl) (hins : Cond.instantiable Cn N ∈ ag_tbl) (hini : Cond.initialized Cn ∈ ag_tbl) (hfs : ∀ j, j < N → defaultValue (ty j) = vp_V fs j)
    (hlen : w.length = n0 + cells) (hx : x = z + w.length) (hw' : w ++ [.inr (ci, fs)] = w') (hc : cells + 1 ≤ mc ∧ slots + N ≤ ms) (hd : decode M.2.1 pc = .ok (.new idx, 3)) (k : EvC M fr lo mc ms n0 z cs (pc + 3) lv (.ref x :: st) w' (cells + 1) (slots + N) F) : EvC M fr lo mc ms n0 z cs pc lv st w cells slots F := by
  intro p l e R s m args below meth c D Q C hf H locs ls hP hS hl
  have hts := C.2.2.2.2.1
  refine va_new C.1 C.2.1 hts hC.2.1 ty hC.2.2.1 C.2.2.2.1 (hts _ hcl) (hts _ hins) (hts _ hini) C.2.2.2.2.2.1.1.1 hP (cw_D z w) hS (fun q h => by have := C.2.2.2.2.2.2.1; show z ≤ q; omega) hC.1 hfs (Nat.le_trans hc.1 C.2.2.2.2.2.2.2.2.1.1) (Nat.le_trans hc.2 C.2.2.2.2.2.2.2.2.1.2) hd (fun q H1 hP1 hD1 hS1 => ?_)
  refine cw_sz (fun hsz => ?_)
  have hq := cw_q hP1 hD1 (by have := C.2.2.2.2.2.2.1; omega)
  subst hq
  rw [cw_push, hw'] at hP1
  subst hx
  exact k p l e R s m args below meth c D Q C hf H1 locs ls hP1 hS1 hl
theorem ec_anew {idx x N' : Nat} {n : Int32} {w' : List va_E} (hcl : Cond.classLink M.1 idx RX3 ∈ ag_tbl) (hn : ¬ n < 0) (hN : n.toNatClampNeg = N') (hb : N' * 4 ≤ 536870912)
    (hlen : w.length = n0 + cells) (hx : x = z + w.length) (hw' : w ++ [.inl (cs.2.2, N', .inr (.inr (.inr (.inr (fun _ => none)))))] = w') (hc : cells + 1 ≤ mc ∧ slots + N' ≤ ms) (hd : decode M.2.1 pc = .ok (.anewarray idx, 3)) (k : EvC M fr lo mc ms n0 z cs (pc + 3) lv (.ref x :: st) w' (cells + 1) (slots + N') F) : EvC M fr lo mc ms n0 z cs pc lv (.int n :: st) w cells slots F := by
  intro p l e R s m args below meth c D Q C hf H locs ls hP hS hl
  have hK := C.2.2.2.2.2.1.1.1
  refine va_newq C.1 C.2.1 C.2.2.2.1 (C.2.2.2.2.1 _ hcl) C.2.2.2.2.2.1.2 hK hP (cw_D z w) hS (fun q h => by have := C.2.2.2.2.2.2.1; show z ≤ q; omega) hn hN hb (Nat.le_trans hc.1 C.2.2.2.2.2.2.2.2.1.1) (Nat.le_trans hc.2 C.2.2.2.2.2.2.2.2.1.2) hd (fun q cA' H1 hK1 hP1 hD1 hS1 => ?_)
  refine cw_sz (fun hsz => ?_)
  have hq := cw_q hP1 hD1 (by have := C.2.2.2.2.2.2.1; omega)
  obtain ⟨kA, comp, -, -, -, e1⟩ := (hK1.2 ((ag_ty cs).length) (cA', .object RX3) (by rw [List.getElem?_append_right (Nat.le_refl _), Nat.sub_self]; rfl)).2
  obtain ⟨kA', comp', -, -, -, e2⟩ := (hK.2 2 _ rfl).2
  have e4 : cA' = cs.2.2 := Option.some.inj (e1.symm.trans e2)
  subst e4
  subst hq
  rw [cw_push, hw'] at hP1
  subst hx
  exact k p l e R s m args below meth c D Q C hf H1 locs ls hP1 hS1 hl
theorem ec_put {x : Nat} {v : Value} {ci idx N kk : Nat} {Cn : String} {T : u_T} {ty : Nat → FieldType} {fs : List Value} {w' : List va_E} (q : Nat) (hC : ag_Cf ci Cn T N ty) (hq : q < N) (hw : w[kk]? = some (.inr (ci, fs))) (hx : x = z + kk) (hr0 : (T q).1 = Cn) (hfl : Cond.fieldLink M.1 idx Cn (T q).2.1 (T q).2.2.1 ∈ ag_tbl) (hfin : (T q).2.2.2 = false) (hn : narrow (ty q) v = v) (hfit : fits (ty q) v = true) (hlf : q < fs.length) (hw' : w.set kk (.inr (ci, fs.set q v)) = w') (hd : decode M.2.1 pc = .ok (.putfield idx, 3)) (k : EvC M fr lo mc ms n0 z cs (pc + 3) lv st w' cells slots F) : EvC M fr lo mc ms n0 z cs pc lv (v :: .ref x :: st) w cells slots F := by
  intro p l e R s m args below meth c D Q C hf H locs ls hP hS hl
  have hts := C.2.2.2.2.1
  subst hx
  refine va_put C.1 C.2.1 hts hC.2.1 ty hC.2.2.1 hC.2.2.2 C.2.2.2.1 C.2.2.2.2.2.1.1.1 hP (cw_D z w) hS kk (cw_at hw) hC.1 q hq (hts _ hfl) (fun _ hx => hr0 ▸ hx) hfin (hC.2.2.1 q hq) hn hfit hlf hd (fun H1 locs1 hP1 _ hS1 => ?_)
  rw [cw_set, hw'] at hP1
  exact k p l e R s m args below meth c D Q C hf H1 locs1 ls hP1 hS1 hl
theorem ec_putF {x : Nat} {v : Value} {ci idx N kk : Nat} {Cn : String} {T : u_T} {ty : Nat → FieldType} {fs : List Value} {w' : List va_E} (q : Nat) (hC : ag_Cf ci Cn T N ty) (hq : q < N) (hw : w[kk]? = some (.inr (ci, fs))) (hx : x = z + kk) (hr0 : (T q).1 = Cn) (hown : Cn = M.1) (hnl : M.1 ≠ RL) (hfl : Cond.fieldLink M.1 idx Cn (T q).2.1 (T q).2.2.1 ∈ ag_tbl) (hfin : (T q).2.2.2 = true) (hn : narrow (ty q) v = v) (hfit : fits (ty q) v = true) (hlf : q < fs.length) (hw' : w.set kk (.inr (ci, fs.set q v)) = w') (hd : decode M.2.1 pc = .ok (.putfield idx, 3)) (k : EvC M fr lo mc ms n0 z cs (pc + 3) lv st w' cells slots F) : EvC M fr lo mc ms n0 z cs pc lv (v :: .ref x :: st) w cells slots F := by
  intro p l e R s m args below meth c D Q C hf H locs ls hP hS hl
  have hts := C.2.2.2.2.1
  subst hx
  refine va_putF C.1 C.2.1 hts hC.2.1 ty hC.2.2.1 hC.2.2.2 C.2.2.2.1 C.2.2.2.2.2.1.1.1 hP (cw_D z w) hS kk (cw_at hw) hC.1 q hq (hts _ hfl) (fun _ hx => hr0 ▸ hx) hfin (C.2.2.2.2.2.2.2.2.2 hnl) (hr0.trans hown) (hC.2.2.1 q hq) hn hfit hlf hd (fun H1 locs1 hP1 _ hS1 => ?_)
  rw [cw_set, hw'] at hP1
  exact k p l e R s m args below meth c D Q C hf H1 locs1 ls hP1 hS1 hl
theorem ec_get {x : Nat} {v : Value} {ci idx N kk : Nat} {Cn : String} {T : u_T} {ty : Nat → FieldType} {fs : List Value} (q : Nat) (hC : ag_Cf ci Cn T N ty) (hq : q < N) (hw : w[kk]? = some (.inr (ci, fs))) (hx : x = z + kk) (hr0 : (T q).1 = Cn) (hfl : Cond.fieldLink M.1 idx Cn (T q).2.1 (T q).2.2.1 ∈ ag_tbl) (hv : fs[q]? = some v) (hd : decode M.2.1 pc = .ok (.getfield idx, 3)) (k : EvC M fr lo mc ms n0 z cs (pc + 3) lv (v :: st) w cells slots F) : EvC M fr lo mc ms n0 z cs pc lv (.ref x :: st) w cells slots F := by
  intro p l e R s m args below meth c D Q C hf H locs ls hP hS hl
  have hts := C.2.2.2.2.1
  subst hx
  exact va_get C.1 C.2.1 hts hC.2.1 C.2.2.2.1 C.2.2.2.2.2.1.1.1 hP kk (cw_at hw) hC.1 q hq (hts _ hfl) (fun _ hx => hr0 ▸ hx) hv hd (k p l e R s m args below meth c D Q C hf H locs ls hP hS hl)
theorem ec_aast {x v : Nat} {kk qk n ci : Nat} {Cn : String} {T : u_T} {N : Nat} {ty : Nat → FieldType} {vs : List Value} {f : Nat → Option Nat} {i : Int32} {w' : List va_E} (hC : ag_Cf ci Cn T N ty) (hCn : Cn = RX3) (hw : w[kk]? = some (.inl (cs.2.2, n, .inr (.inr (.inr (.inr f)))))) (hv : w[qk]? = some (.inr (ci, vs))) (hx : x = z + kk) (hvq : v = z + qk) (hin : ag_ib i n = true) (hw' : w.set kk (.inl (cs.2.2, n, .inr (.inr (.inr (.inr (va_up f i.toNatClampNeg (some v))))))) = w') (hd : decode M.2.1 pc = .ok (.aastore, 1)) (k : EvC M fr lo mc ms n0 z cs (pc + 1) lv st w' cells slots F) : EvC M fr lo mc ms n0 z cs pc lv (.ref v :: .int i :: .ref x :: st) w cells slots F := by
  intro p l e R s m args below meth c D Q C hf H locs ls hP hS hl
  subst hx
  subst hvq
  subst hCn
  refine va_astq C.1 C.2.1 C.2.2.2.2.2.1.1.1 hP (cw_D z w) hS kk 2 qk ci (cw_at hw) rfl (cw_at hv) hC.1 (ag_ib_in hin) hd (fun H1 locs1 hP1 _ hS1 => ?_)
  rw [cw_set, hw'] at hP1
  exact k p l e R s m args below meth c D Q C hf H1 locs1 ls hP1 hS1 hl
end MAKE
def cw_Pc (D : va_G) (cs : Cs) (z : Nat) (L : List va_E) (o : va_E) : Array Value → State → Prop := fun v U => v = #[Value.ref (z + L.length)] ∧ va_P D ag_cl (cw_W z (L ++ [o])) U.heap ∧ U.heap.size = z + (L.length + 1) ∧ ag_K D cs U ∧ va_AO RX3 U
def cw_Qc (D : va_G) (z : Nat) (w : List va_E) : Array Value → State → Outcome → State → Prop := fun _ st oc t => oc = .returned none ∧ va_P D ag_cl (cw_W z w) t.heap ∧ va_F (fun q => z ≤ q) st t
/-- a constructor's contract: behind any cells L, the object o (last made) becomes the cells lF -/
def ImC (y : MethodName) (M : Md) (fr lo mc ms : Nat) (o : va_E) (lF : Cs → Nat → List va_E) (L0 : List va_E → Cs → Nat → Prop) : Prop :=
  ∀ (l : Launch) (D : va_G) (cs : Cs) (z : Nat) (L : List va_E), L0 L cs z → Met l y (ag_ws y M.2.1 M.2.2.1 M.2.2.2.1) ({ frames := fr, cells := mc, slots := ms, locals := lo }) (cw_Pc D cs z L o) (cw_Qc D z (L ++ lF cs (z + L.length))) mc ms (fun q => z ≤ q)
theorem ImC.of {y : MethodName} {M : Md} {fr lo mc ms : Nat} {o : va_E} {lF : Cs → Nat → List va_E} {L0 : List va_E → Cs → Nat → Prop} (hy : plainName y.cls = true) (hc : y.cls = M.1) (hyn : y.name = "<init>") (hr : M.2.2.2.1 = none) (hn : 1 ≤ M.2.2.1)
    (h : ∀ (cs : Cs) (z : Nat) (L : List va_E) (a : Nat), L0 L cs z → a = z + L.length → EvC M fr lo mc ms (L.length + 1) z cs 0 [(0, .ref a)] [] (L ++ [o]) 0 0 (cw_E M mc ms z (L ++ lF cs a))) : ImC y M fr lo mc ms o lF L0 := by
  intro l D cs z L h0
  refine Met.ofW (cc := M.2.1) (maxL := M.2.2.1) (ret := M.2.2.2.1) hy rfl ?_
  intro p e s m args below meth c s₁ B hml hv
  obtain ⟨rfl, hP, hz, hK, hO⟩ := hv
  have hts := atoms_spec (ws := ag_ws y M.2.1 M.2.2.1 M.2.2.2.1) B.pre
  have hown : s.vm.findClass M.1 = some m.cls := hc ▸ findClass_of_methodNamed B.named
  have hl := lv_entry [Value.ref (z + L.length)] (n := M.2.2.1) hn
  have hnm : meth.name = "<init>" := (name_of_methodNamed B.named B.method).1.trans hyn
  have e9 : entryFrame m #[Value.ref (z + L.length)] M.2.2.1 = F0 m 0 ((lg_sl [Value.ref (z + L.length)] ++ List.replicate (M.2.2.1 - (lg_sl [Value.ref (z + L.length)]).length) Slot.unset).toArray) [] := lg_entry_eq m [Value.ref (z + L.length)] M.2.2.1
  rw [e9]
  exact h cs z L (z + L.length) h0 rfl p l e _ s m _ below meth c D _ ⟨B.exec, B.bytes, hml, hown, fun w hw => hts w (List.mem_cons_of_mem _ hw), ⟨hK, hO⟩, hz, ⟨Nat.le_refl _, Nat.le_refl _⟩, ⟨Nat.le_refl _, Nat.le_refl _⟩, fun _ => hnm⟩ (fun H locs pc ls hP hS hd => W.vret B.exec B.bytes (B.returns.trans hr) (fun t ht hW => ⟨rfl, by rw [ht]; exact hP, hS.F ht⟩) hS.2.2 hd B.notSynchronized) s.heap [] _ hP va_S.rf hl
theorem cw_blind {D : va_G} {cs : Cs} {z : Nat} {L : List va_E} {o : va_E} : FrameBlind (cw_Pc D cs z L o) := by
  intro a U g mk q
  obtain ⟨q0, qP, qz, qK, qO⟩ := q
  exact ⟨q0, qP, qz, ag_K.same (s := U) (U := U.calling g mk a) rfl qK, va_AO.moved (u := U) (U := U.calling g mk a) (Vm.Alike.refl U.vm) qO⟩
def ag_Mi (y : MethodName) (M : Md) : Prop := Cond.code y M.2.1 M.2.2.1 none ∈ ag_tbl ∧ Cond.instanceMethod y ∈ ag_tbl ∧ Cond.initialized y.cls ∈ ag_tbl ∧ y.name = "<init>" ∧ M.2.2.2.1 = none ∧ (y.cls ≠ "java/lang/invoke/MethodHandle" ∧ y.cls ≠ "java/lang/invoke/VarHandle" ∧ (parseMethodDescriptor y.desc).map (fun d => d.parameters.length) = some 0)
theorem cw_call {p : Program} {l : Launch} {e : Env} {R : Room} {s : State} {m : MethodId} {args : Array Value} {below : List Frame} {meth : Method} {c : Code} {H : Heap} {locs : List Loc} {cells slots : Nat} {Q : State → Prop} {D : va_G} {z mc' ms' : Nat} {w' : List va_E} {pc : Nat} {ls : Array Slot} {st0 rest : List Value} {a : Array Value} (hr : va_Run p l e R s m args below meth c H locs cells slots mc' ms' (F0 m pc ls st0) rest (cw_Qc D z w' a) (fun q => z ≤ q)) (hS : va_S (fun q => z ≤ q) s.heap H locs)
    (kk : ∀ (H1 : Heap) (locs1 : List Loc), va_P D ag_cl (cw_W z w') H1 → va_S (fun q => z ≤ q) s.heap H1 locs1 → W p l e R s m args below meth c H1 locs1 (cells + mc') (slots + ms') Q (F0 m (pc + 3) ls rest)) : W p l e R s m args below meth c H locs cells slots Q (F0 m pc ls st0) := by
  intro T hT X
  obtain ⟨v, st₀, t, T', L, h0, X', hL, e1, e2, ⟨hv, hPt, hz, hk⟩, st⟩ := hr T hT X
  have hv' : v = none := Outcome.returned.inj hv
  subst hv'
  rw [h0] at hz hk
  obtain ⟨t2, a1, b1⟩ := kk T'.heap (locs ++ L) (by rw [e1]; exact hPt) ⟨Nat.le_trans hS.1 (by rw [e1]; exact hz), fun q h1 h2 => by
      rw [e1, hk q (Nat.lt_of_lt_of_le h1 hS.1) h2]
      exact hS.2.1 q h1 h2, fun q hq => (List.mem_append.mp hq).elim (hS.2.2 q) (hL q)⟩ T' rfl X'
  exact ⟨t2, st t2 a1, b1⟩
theorem cw_full {D : va_G} {cl : List vw_C} {z : Nat} {L : List va_E} {o : va_E} {H : Heap} (hP : va_P D cl (cw_W z (L ++ [o])) H) : z + (L.length + 1) ≤ H.size := by
  have h : (L ++ [o])[L.length]? = some o := by rw [List.getElem?_append_right (Nat.le_refl _), Nat.sub_self]; rfl
  have h1 : z + L.length < H.size := (hP _ _ (cw_at h)).lt
  omega
theorem ec_ctor {M : Md} {fr lo mc ms n0 z : Nat} {cs : Cs} {pc : Nat} {lv : List (Nat × Value)} {st : List Value} {w : List va_E} {F : cw_FT} {cells slots : Nat} {y : MethodName} {M' : Md} {fr' lo' mc' ms' x idx : Nat} {o : va_E} {lF : Cs → Nat → List va_E} {L0 : List va_E → Cs → Nat → Prop} {L w' : List va_E} (hM : ImC y M' fr' lo' mc' ms' o lF L0) (h0 : L0 L cs z) (hMi : ag_Mi y M') (hml : Cond.methodLink M.1 idx y ∈ ag_tbl) (hw : w = L ++ [o]) (hlen : w.length = n0 + cells) (hx : x = z + L.length) (hw' : L ++ lF cs x = w') (hst : (st.map fun v => v.category).sum ≤ 8) (hR : fr' + 1 ≤ fr ∧ 8 + (M'.2.2.1 + 11) + lo' ≤ lo) (hc : cells + mc' ≤ mc ∧ slots + ms' ≤ ms) (hd : decode M.2.1 pc = .ok (.invokespecial idx, 3)) (k : EvC M fr lo mc ms n0 z cs (pc + 3) lv st w' (cells + mc') (slots + ms') F) : EvC M fr lo mc ms n0 z cs pc lv (.ref x :: st) w cells slots F := by
  intro p l e R s m args below meth c D Q C hf H locs ls hP hS hl
  have hts := C.2.2.2.2.1
  obtain ⟨hco, him, hini, hyn, hret, hds⟩ := hMi
  subst hw
  subst hx
  refine cw_sz (fun hsz => ?_)
  have hfull := cw_full hP
  have hl9 : (L ++ [o]).length = L.length + 1 := by rw [List.length_append]; rfl
  have hsz9 : H.size = z + (L.length + 1) := by have := C.2.2.2.2.2.2.1; omega
  have hco' : Cond.code y M'.2.1 M'.2.2.1 M'.2.2.2.1 ∈ ag_tbl := by rw [hret]; exact hco
  have hB : CallB R s args M.1 idx y M'.2.1 M'.2.2.1 M'.2.2.2.1 (ag_ws y M'.2.1 M'.2.2.1 M'.2.2.2.1) ({ frames := fr', cells := mc', slots := ms', locals := lo' }) mc' ms' 0 := callB_of 0 hts (ag_gws (ag_ws_in hco')) rfl rfl rfl (hts _ hini) (hts _ hml) hds ⟨Nat.le_trans hR.1 C.2.2.2.2.2.2.2.1.1, Nat.le_trans hR.2 C.2.2.2.2.2.2.2.1.2⟩
  have hMM := hM l D cs z L h0
  rw [hret] at hB hMM
  refine cw_call (rest := st) (va_runI (As := []) (b := z + L.length) ⟨C.1, C.2.1, C.2.2.1, C.2.2.2.1, hts⟩ hMM ⟨hB, hyn, hts _ him⟩ ⟨cw_blind, fun U hU hW => ⟨rfl, by rw [hU]; exact hP, by rw [hU]; exact hsz9, C.2.2.2.2.2.1.1.warm hW, va_AO.moved hW.alike C.2.2.2.2.2.1.2⟩⟩ rfl rfl hl.1 rfl (lv_room hst) hd ⟨Nat.le_trans hc.1 C.2.2.2.2.2.2.2.2.1.1, Nat.le_trans hc.2 C.2.2.2.2.2.2.2.2.1.2⟩) hS (fun H1 locs1 hP1 hS1 => ?_)
  rw [hw'] at hP1
  exact k p l e R s m args below meth c D Q C hf H1 locs1 ls hP1 hS1 hl

/-! the whole world, as it is made -/
def ag_s0 : Sg := fun k => if k = 45 ∨ k = 47 ∨ k = 49 ∨ k = 51 then (fun i => if i = 0 then 1 else 0) else fun _ => 0
def wA (cs : Cs) (z : Nat) (σ : Sg) : List va_E := (List.range 77).map (ag_en (fun k => z + k) cs σ)
theorem wA_W (cs : Cs) (z : Nat) (σ : Sg) : cw_W z (wA cs z σ) = ag_W (fun k => z + k) cs σ := by
  apply List.ext_getElem?
  intro i
  rw [cw_get]
  unfold wA ag_W
  rw [List.getElem?_map, List.getElem?_map]
  cases h : (List.range 77)[i]? with
  | none => rfl
  | some v =>
    have : v = i := by
      have h2 := List.getElem?_eq_some_iff.mp h
      obtain ⟨h3, h4⟩ := h2
      rw [List.getElem_range] at h4
      exact h4.symm
    subst this
    rfl
theorem ag_injz (z : Nat) : ag_inj (fun k => z + k) := fun i j _ _ h => by
  have h2 : z + i = z + j := h
  omega
theorem ec_told {M : Md} {fr lo mc ms n0 z : Nat} {cs : Cs} {pc : Nat} {lv : List (Nat × Value)} {st : List Value} {w : List va_E} {F : cw_FT} {cells slots idx : Nat} {σ σ' : Sg} (hf0 : fn_X7_asTold σ = some σ') (hw : ∀ (D : va_G) (H : Heap), va_P D ag_cl (cw_W z w) H → va_P D ag_cl (ag_W (fun k => z + k) cs σ) H) (hml : Cond.methodLink M.1 idx yX7_asTold ∈ ag_tbl) (hst : (st.map fun v => v.category).sum ≤ 8) (hR : 0 + 1 ≤ fr ∧ 8 + (mX7_asTold.2.2.1 + 11) + 0 ≤ lo) (hcc : cells ≤ mc ∧ slots ≤ ms) (hd : decode M.2.1 pc = .ok (.invokevirtual idx, 3)) (k : EvC M fr lo mc ms n0 z cs (pc + 3) lv st (wA cs z σ') cells slots F) : EvC M fr lo mc ms n0 z cs pc lv (.ref (z + 53) :: st) w cells slots F := by
  intro p l e R s m args below meth c D Q C hf H locs ls hP hS hl
  have hts := C.2.2.2.2.1
  have hP1 := hw D H hP
  obtain ⟨hco, him, hse, hini, hds⟩ := mv_X7_asTold
  have hG : GoodIn ag_tbl (wsV M.1 idx mX7_asTold.1 yX7_asTold (ag_ws yX7_asTold mX7_asTold.2.1 mX7_asTold.2.2.1 mX7_asTold.2.2.2.1)) := ag_gws (fun w hw => by
    rcases List.mem_append.mp hw with hw | hw
    · simp only [List.mem_cons, List.not_mem_nil, or_false] at hw
      rcases hw with rfl | rfl | rfl | rfl <;> assumption
    · exact ag_ws_in hco w hw)
  refine ag_call (A := fun q => z ≤ q) (rv := jV σ') (rest := st) (va_runV (As := []) (b := z + 53) ⟨C.1, C.2.1, C.2.2.1, C.2.2.2.1, hts⟩ (im_X7_asTold σ σ' hf0 l D (fun k => z + k) cs) (cwV (C := mX7_asTold.1) 0 hts hG rfl rfl rfl hds ⟨Nat.le_trans hR.1 C.2.2.2.2.2.2.2.1.1, Nat.le_trans hR.2 C.2.2.2.2.2.2.2.1.2⟩)
    ⟨ag_blind, va_recv C.2.2.2.2.2.1.1.1 hP1 ag_C7.1 (ag_W_o (fun k => z + k) cs σ (K := 53) (by decide) rfl ag_C7), fun U hU hW => ⟨rfl, by rw [hU]; exact hP1, C.2.2.2.2.2.1.1.warm hW, ag_injz z⟩⟩ rfl rfl hl.1 rfl (lv_room hst) hd ⟨Nat.le_trans hcc.1 C.2.2.2.2.2.2.2.2.1.1, Nat.le_trans hcc.2 C.2.2.2.2.2.2.2.2.1.2⟩) hS (fun k _ => Nat.le_add_right z k) (fun H1 locs1 hP2 hS2 => ?_)
  refine k p l e R s m args below meth c D Q C hf H1 locs1 ls ?_ hS2 hl
  rw [wA_W]
  exact hP2
