abbrev Sg : Type := Nat → Nat → Int32
/-- own class, code, locals, answer; of the law the script -/
abbrev Md : Type := String × ByteArray × Nat × Option FieldType × Option (Nat × (Nat → Int32))
abbrev Cs : Type := ClassId × ClassId × ClassId
/-- the cells: class and number of fields; 8: ints, 9: booleans, 10: rows -/
def ag_kl : List (Nat × Nat) := [(6, 8), (4, 2), (8, 59), (5, 10), (1, 6), (8, 10), (8, 10), (8, 10), (8, 10), (8, 10), (2, 6), (8, 13), (8, 13), (8, 13), (8, 13), (8, 13), (8, 13), (8, 13), (8, 10), (8, 80), (8, 10), (5, 10), (1, 6), (8, 10), (8, 10), (8, 10), (8, 10), (8, 10), (2, 6), (8, 13), (8, 13), (8, 13), (8, 13), (8, 13), (8, 13), (8, 13), (8, 10), (8, 80), (8, 10), (0, 5), (8, 8), (8, 8), (8, 8), (8, 8), (10, 4), (3, 4), (8, 48), (3, 4), (8, 48), (3, 4), (8, 48), (3, 4), (8, 48), (7, 37), (8, 59), (8, 11), (8, 11), (8, 11), (8, 10), (8, 13), (8, 13), (8, 13), (8, 13), (8, 13), (8, 10), (8, 13), (8, 13), (8, 10), (8, 8), (8, 8), (8, 8), (8, 8), (9, 4), (8, 4), (8, 4), (8, 192), (8, 48)]
/-- what the fields that hold cells hold -/
def ag_tl : List (List (Option Nat)) := [[some 1, some 3, some 21, some 4, some 10, some 39, some 44, none], [some 2, none], [], [some 4, some 10, none, none, none, some 16, some 17, some 18, some 19, some 20], [none, some 5, some 6, some 7, some 8, some 9], [], [], [], [], [], [none, some 11, some 12, some 13, some 14, some 15], [], [], [], [], [], [], [], [], [], [], [some 22, some 28, none, none, none, some 34, some 35, some 36, some 37, some 38], [none, some 23, some 24, some 25, some 26, some 27], [], [], [], [], [], [none, some 29, some 30, some 31, some 32, some 33], [], [], [], [], [], [], [], [], [], [], [none, some 40, some 41, some 42, some 43], [], [], [], [], [], [none, none, none, some 46], [], [none, none, none, some 48], [], [none, none, none, some 50], [], [none, none, none, some 52], [], [some 54, none, none, some 55, some 56, some 57, some 58, none, some 59, some 60, some 61, some 62, some 63, none, none, none, none, none, none, some 64, some 65, some 66, none, none, none, some 67, none, some 68, some 69, some 70, some 71, some 72, some 73, some 74, some 75, some 76, none], [], [], [], [], [], [], [], [], [], [], [], [], [], [], [], [], [], [], [], [], [], [], []]
def ag_kd (k : Nat) : Nat × Nat := ag_kl.getD k (11, 0)
def ag_tg (k j : Nat) : Option Nat := (ag_tl.getD k []).getD j none
def ag_fv (ad : Nat → Nat) (σ : Sg) (k j : Nat) : Value := match ag_tg k j with
  | some t => .ref (ad t)
  | none => .int (σ k j)
def ag_en (ad : Nat → Nat) (cs : Cs) (σ : Sg) (k : Nat) : va_E :=
  if (ag_kd k).1 < 8 then .inr ((ag_kd k).1, (List.range (ag_kd k).2).map (ag_fv ad σ k))
  else if (ag_kd k).1 = 8 then .inl (cs.1, (ag_kd k).2, .inl (σ k))
  else if (ag_kd k).1 = 9 then .inl (cs.2.1, (ag_kd k).2, .inl (σ k))
  else .inl (cs.2.2, (ag_kd k).2, .inr (.inr (.inr (.inr (fun i => some (ad (45 + 2 * i)))))))
def ag_W (ad : Nat → Nat) (cs : Cs) (σ : Sg) : va_W := (List.range 77).map (fun k => (ad k, ag_en ad cs σ k))
theorem ag_W_at (ad : Nat → Nat) (cs : Cs) (σ : Sg) {k : Nat} (h : k < 77) : (ag_W ad cs σ)[k]? = some (ad k, ag_en ad cs σ k) := by
  unfold ag_W
  rw [List.getElem?_map, List.getElem?_range h]
  rfl
theorem ag_W_no (ad : Nat → Nat) (cs : Cs) (σ : Sg) {k : Nat} {q : Nat × va_E} (h : (ag_W ad cs σ)[k]? = some q) : k < 77 ∧ q = (ad k, ag_en ad cs σ k) := by
  have h1 : k < (ag_W ad cs σ).length := (List.getElem?_eq_some_iff.mp h).1
  have h2 : (ag_W ad cs σ).length = 77 := by simp [ag_W]
  have h3 : k < 77 := by omega
  rw [ag_W_at ad cs σ h3] at h
  exact ⟨h3, (Option.some.inj h).symm⟩
theorem ag_en_eq (ad : Nat → Nat) (cs : Cs) {σ σ' : Sg} {k : Nat} (h : σ k = σ' k) : ag_en ad cs σ k = ag_en ad cs σ' k := by
  have e : ag_fv ad σ k = ag_fv ad σ' k := by
    funext j
    unfold ag_fv
    rw [h]
  unfold ag_en
  rw [h, e]
/-- one cell anew -/
theorem ag_W_set (ad : Nat → Nat) (cs : Cs) {σ σ' : Sg} {k : Nat} (h : ∀ k', k' ≠ k → σ' k' = σ k') : (ag_W ad cs σ).set k (ad k, ag_en ad cs σ' k) = ag_W ad cs σ' := by
  apply List.ext_getElem?
  intro i
  by_cases hi : i < 77
  · rw [ag_W_at ad cs σ' hi]
    by_cases e : i = k
    · subst e
      rw [List.getElem?_set_self (by simp [ag_W]; exact hi)]
    · rw [List.getElem?_set_ne (Ne.symm e), ag_W_at ad cs σ hi, ag_en_eq ad cs (h i e)]
  · rw [List.getElem?_eq_none (by simp [ag_W]; omega), List.getElem?_eq_none (by simp [ag_W]; omega)]
def ag_up (σ : Sg) (k i : Nat) (v : Int32) : Sg := fun k' i' => if k' = k ∧ i' = i then v else σ k' i'
def ag_ar (σ : Sg) (k : Nat) (f : Nat → Int32) : Sg := fun k' => if k' = k then f else σ k'
theorem ag_up_ne {σ : Sg} {k i : Nat} {v : Int32} {k' : Nat} (h : k' ≠ k) : ag_up σ k i v k' = σ k' := by
  funext i'
  unfold ag_up
  rw [if_neg (fun q => h q.1)]
theorem ag_up_k {σ : Sg} {k i : Nat} {v : Int32} : ag_up σ k i v k = upd (σ k) i v := by
  funext i'
  unfold ag_up upd
  by_cases h : i' = i
  · rw [if_pos ⟨rfl, h⟩, if_pos h]
  · rw [if_neg (fun q => h q.2), if_neg h]
theorem ag_ar_ne {σ : Sg} {k : Nat} {f : Nat → Int32} {k' : Nat} (h : k' ≠ k) : ag_ar σ k f k' = σ k' := by
  unfold ag_ar
  rw [if_neg h]
theorem ag_ar_k {σ : Sg} {k : Nat} {f : Nat → Int32} : ag_ar σ k f k = f := by
  unfold ag_ar
  rw [if_pos rfl]
theorem ag_en_o (ad : Nat → Nat) (cs : Cs) (σ : Sg) {k ci n : Nat} (h : ag_kd k = (ci, n)) (hc : ci < 8) : ag_en ad cs σ k = .inr (ci, (List.range n).map (ag_fv ad σ k)) := by
  unfold ag_en
  rw [h, if_pos hc]
theorem ag_en_i (ad : Nat → Nat) (cs : Cs) (σ : Sg) {k n : Nat} (h : ag_kd k = (8, n)) : ag_en ad cs σ k = .inl (cs.1, n, .inl (σ k)) := by
  simp [ag_en, h]
theorem ag_en_z (ad : Nat → Nat) (cs : Cs) (σ : Sg) {k n : Nat} (h : ag_kd k = (9, n)) : ag_en ad cs σ k = .inl (cs.2.1, n, .inl (σ k)) := by
  simp [ag_en, h]
theorem ag_en_r (ad : Nat → Nat) (cs : Cs) (σ : Sg) {k n : Nat} (h : ag_kd k = (10, n)) : ag_en ad cs σ k = .inl (cs.2.2, n, .inr (.inr (.inr (.inr (fun i => some (ad (45 + 2 * i))))))) := by
  simp [ag_en, h]
def ag_inj (ad : Nat → Nat) : Prop := ∀ i j, i < 77 → j < 77 → ad i = ad j → i = j
theorem ag_DD {ad : Nat → Nat} {A : Nat → Prop} (cs : Cs) (σ : Sg) (h : ag_inj ad) (hA : ∀ k, k < 77 → A (ad k)) : va_D A (ag_W ad cs σ) := by
  refine ⟨fun i j p q hi hj hpq => ?_, fun k q hk => ?_⟩
  · obtain ⟨h1, rfl⟩ := ag_W_no ad cs σ hi
    obtain ⟨h2, rfl⟩ := ag_W_no ad cs σ hj
    exact h i j h1 h2 hpq
  · obtain ⟨h1, rfl⟩ := ag_W_no ad cs σ hk
    exact hA k h1
abbrev ag_ty (cs : Cs) : List (ClassId × FieldType) := [(cs.1, .int), (cs.2.1, .boolean), (cs.2.2, .object RX3)]
def ag_nw : Cond := Cond.methodLinkNest RX3 32 yX6_isBelow RX6
def ag_K (D : va_G) (cs : Cs) (s : State) : Prop := va_K D ag_cl (ag_ty cs) s ∧ va_Nw ag_nw s
theorem ag_K.warm {D : va_G} {cs : Cs} {s U : State} (hW : s.WarmedH U.vm) (h : ag_K D cs s) : ag_K D cs U := ⟨va_K.moved hW.alike h.1, va_Nw.warmM hW h.2⟩
theorem ag_K.same {D : va_G} {cs : Cs} {s U : State} (hv : s.vm = U.vm) (h : ag_K D cs s) : ag_K D cs U := ⟨va_K.moved (by rw [hv]; exact Vm.Alike.refl U.vm) h.1, va_Nw.same rfl hv h.2⟩
def ag_cv (ad : Nat → Nat) : Value → Value
  | .ref k => .ref (ad k)
  | v => v
theorem ag_cv_cat (ad : Nat → Nat) (v : Value) : (ag_cv ad v).category = v.category := by cases v <;> rfl
def ag_lm (ad : Nat → Nat) (lv : List (Nat × Value)) : List (Nat × Value) := lv.map (fun q => (q.1, ag_cv ad q.2))
theorem ag_lm_at {ad : Nat → Nat} {lv : List (Nat × Value)} {k i : Nat} {v : Value} (h : lv[k]? = some (i, v)) : (ag_lm ad lv)[k]? = some (i, ag_cv ad v) := by
  unfold ag_lm
  rw [List.getElem?_map, h]
  rfl
def ag_s1 (i : Nat) (v : Value) (lv : List (Nat × Value)) : List (Nat × Value) := (i, v) :: lv.filter (fun q => !(q.1 == i) && !(q.1 + 1 == i && q.2.category == 2))
def ag_s2 (i : Nat) (v : Value) (lv : List (Nat × Value)) : List (Nat × Value) := (i, v) :: lv.filter (fun q => !(q.1 == i) && (!(q.1 == i + 1) && !(q.1 + 1 == i && q.2.category == 2)))
theorem ag_lm_s1 (ad : Nat → Nat) (i : Nat) (v : Value) (lv : List (Nat × Value)) : (i, ag_cv ad v) :: (ag_lm ad lv).filter (fun q => !(q.1 == i) && !(q.1 + 1 == i && q.2.category == 2)) = ag_lm ad (ag_s1 i v lv) := by
  unfold ag_lm ag_s1
  rw [List.map_cons, List.filter_map]
  congr 2
  apply List.filter_congr
  intro q _
  simp only [Function.comp, ag_cv_cat]
theorem ag_lm_s2 (ad : Nat → Nat) (i : Nat) (v : Value) (lv : List (Nat × Value)) : (i, ag_cv ad v) :: (ag_lm ad lv).filter (fun q => !(q.1 == i) && (!(q.1 == i + 1) && !(q.1 + 1 == i && q.2.category == 2))) = ag_lm ad (ag_s2 i v lv) := by
  unfold ag_lm ag_s2
  rw [List.map_cons, List.filter_map]
  congr 2
  apply List.filter_congr
  intro q _
  simp only [Function.comp, ag_cv_cat]
theorem ag_lm_pick {ad : Nat → Nat} {lv lv' : List (Nat × Value)} (ks : List Nat) (h : lv_pick lv ks = lv') : lv_pick (ag_lm ad lv) ks = ag_lm ad lv' := by
  subst h
  unfold lv_pick ag_lm
  rw [List.map_filterMap]
  congr 1
  funext k
  rw [List.getElem?_map]
theorem ag_lv_args (ad : Nat → Nat) : ∀ (vs : List Value) (i : Nat), lv_args i (vs.map (ag_cv ad)) = ag_lm ad (lv_args i vs)
  | [], _ => rfl
  | v :: vs, i => by
    show (i, ag_cv ad v) :: lv_args (if (ag_cv ad v).category = 2 then i + 2 else i + 1) (vs.map (ag_cv ad)) = (i, ag_cv ad v) :: ag_lm ad (lv_args (if v.category = 2 then i + 2 else i + 1) vs)
    rw [ag_cv_cat, ag_lv_args ad vs]
theorem ag_sl_len (ad : Nat → Nat) : ∀ (vs : List Value), (lg_sl (vs.map (ag_cv ad))).length = (lg_sl vs).length
  | [] => rfl
  | v :: vs => by
    have ih := ag_sl_len ad vs
    simp only [lg_sl, List.map_cons, List.flatMap_cons, List.length_append, ag_cv_cat] at ih ⊢
    rw [ih]
    by_cases h : v.category = 2 <;> simp [h]
def ag_ri : Option Value → Instr
  | none => .return_
  | some (.int _) => .ireturn
  | some (.long _) => .lreturn
  | _ => .nop
def ag_nr (ret : Option FieldType) : Option Value → Prop
  | none => ret = none
  | some (.int x) => ∃ ty, ret = some ty ∧ narrow ty (.int x) = .int x
  | some (.long _) => ret = some .long
  | _ => False
/-- the law's script: behind the cells of the world -/
def ag_Sx (x : Option (Nat × (Nat → Int32))) (s : State) (ad : Nat → Nat) (A : Nat → Prop) : Prop := match x with
  | none => True
  | some q => va_X (ad 77) q.1 q.2 s s.heap ∧ ad 77 < s.heap.size ∧ ¬ A (ad 77)
/-- what stands fast in a method's frame -/
def ag_Cx (M : Md) (fr lo : Nat) (p : Program) (R : Room) (s : State) (m : MethodId) (args : Array Value) (c : Code) (D : va_G) (ad : Nat → Nat) (cs : Cs) (A : Nat → Prop) (cells slots : Nat) : Prop :=
  p.tables.exec = Jvm.exec ∧ c.code = M.2.1 ∧ c.maxLocals = M.2.2.1 ∧ s.vm.findClass M.1 = some m.cls ∧ (∀ w ∈ ag_tbl, w.before args s = true) ∧ ag_K D cs s ∧ (ag_inj ad ∧ ∀ k, k < 77 → A (ad k)) ∧ (fr ≤ R.frames ∧ lo ≤ R.locals) ∧ (cells ≤ R.cells ∧ slots ≤ R.slots) ∧ ag_Sx M.2.2.2.2 s ad A
/-- a method's end: with the value and the world, at a return -/
def ag_Fin (M : Md) (p : Program) (l : Launch) (e : Env) (R : Room) (s : State) (m : MethodId) (args : Array Value) (below : List Frame) (meth : Method) (c : Code) (D : va_G) (ad : Nat → Nat) (cs : Cs) (A : Nat → Prop) (cells slots : Nat) (Q : State → Prop) (rv : Option Value × Sg) : Prop :=
  ∀ (H : Heap) (locs : List Loc) (pc : Nat) (ls : Array Slot), va_P D ag_cl (ag_W ad cs rv.2) H → va_S A s.heap H locs → decode M.2.1 pc = .ok (ag_ri rv.1, 1) → ag_nr M.2.2.2.1 rv.1 → W p l e R s m args below meth c H locs cells slots Q (F0 m pc ls (rv.1.map (ag_cv ad)).toList)
/-- at pc, with these locals, this stack and this world the method comes to what o says (if it says something) -/
def Ev (M : Md) (fr lo : Nat) {α : Type} (j : α → Option Value × Sg) (pc : Nat) (lv : List (Nat × Value)) (st : List Value) (σ : Sg) (o : Option α) : Prop :=
  ∀ (r : α), o = some r → ∀ (p : Program) (l : Launch) (e : Env) (R : Room) (s : State) (m : MethodId) (args : Array Value) (below : List Frame) (meth : Method) (c : Code) (D : va_G) (ad : Nat → Nat) (cs : Cs) (A : Nat → Prop) (cells slots : Nat) (Q : State → Prop), ag_Cx M fr lo p R s m args c D ad cs A cells slots → ag_Fin M p l e R s m args below meth c D ad cs A cells slots Q (j r) →
    ∀ (H : Heap) (locs : List Loc) (ls : Array Slot), va_P D ag_cl (ag_W ad cs σ) H → va_S A s.heap H locs → lv_has ls M.2.2.1 (ag_lm ad lv) → W p l e R s m args below meth c H locs cells slots Q (F0 m pc ls (st.map (ag_cv ad)))
/-- an index that a row has -/
def ag_ib (i : Int32) (n : Nat) : Bool := decide (¬ (i < 0 ∨ n ≤ i.toNatClampNeg))
def ag_Cf (ci : Nat) (Cn : String) (T : u_T) (N : Nat) (ty : Nat → FieldType) : Prop := ag_cl[ci]? = some (Cn, T, N) ∧ (∀ w ∈ u_ws Cn T N, w ∈ ag_tbl) ∧ (∀ k, k < N → parseFieldDescriptor (T k).2.2.1 = some (ty k)) ∧ (∀ a, a < N → ∀ b, b < N → a ≠ b → (T a).2.1 ≠ (T b).2.1)
theorem ag_Cf.lt {ci : Nat} {Cn : String} {T : u_T} {N : Nat} {ty : Nat → FieldType} (h : ag_Cf ci Cn T N ty) : ci < 8 := (List.getElem?_eq_some_iff.mp h.1).1
theorem ag_W_o (ad : Nat → Nat) (cs : Cs) (σ : Sg) {K ci N : Nat} {Cn : String} {T : u_T} {ty : Nat → FieldType} (h : K < 77) (hk : ag_kd K = (ci, N)) (hC : ag_Cf ci Cn T N ty) : (ag_W ad cs σ)[K]? = some (ad K, .inr (ci, (List.range N).map (ag_fv ad σ K))) := by
  rw [ag_W_at ad cs σ h, ag_en_o ad cs σ hk hC.lt]
theorem ag_W_i (ad : Nat → Nat) (cs : Cs) (σ : Sg) {K n : Nat} (h : K < 77) (hk : ag_kd K = (8, n)) : (ag_W ad cs σ)[K]? = some (ad K, .inl (cs.1, n, .inl (σ K))) := by
  rw [ag_W_at ad cs σ h, ag_en_i ad cs σ hk]
theorem ag_W_z (ad : Nat → Nat) (cs : Cs) (σ : Sg) {K n : Nat} (h : K < 77) (hk : ag_kd K = (9, n)) : (ag_W ad cs σ)[K]? = some (ad K, .inl (cs.2.1, n, .inl (σ K))) := by
  rw [ag_W_at ad cs σ h, ag_en_z ad cs σ hk]
theorem ag_W_r (ad : Nat → Nat) (cs : Cs) (σ : Sg) {K n : Nat} (h : K < 77) (hk : ag_kd K = (10, n)) : (ag_W ad cs σ)[K]? = some (ad K, .inl (cs.2.2, n, .inr (.inr (.inr (.inr (fun i => some (ad (45 + 2 * i)))))))) := by
  rw [ag_W_at ad cs σ h, ag_en_r ad cs σ hk]
theorem ag_Pe {D : va_G} {cl : List vw_C} {w w' : va_W} {H : Heap} (e : w = w') (h : va_P D cl w H) : va_P D cl w' H := e ▸ h
theorem ag_fv_i (ad : Nat → Nat) (σ : Sg) {K q N : Nat} (hq : q < N) (ht : ag_tg K q = none) : ((List.range N).map (ag_fv ad σ K))[q]? = some (.int (σ K q)) := by
  rw [List.getElem?_map, List.getElem?_range hq]
  show some (ag_fv ad σ K q) = _
  unfold ag_fv
  rw [ht]
theorem ag_fv_r (ad : Nat → Nat) (σ : Sg) {K q N t : Nat} (hq : q < N) (ht : ag_tg K q = some t) : ((List.range N).map (ag_fv ad σ K))[q]? = some (.ref (ad t)) := by
  rw [List.getElem?_map, List.getElem?_range hq]
  show some (ag_fv ad σ K q) = _
  unfold ag_fv
  rw [ht]
theorem ag_W_put (ad : Nat → Nat) (cs : Cs) (σ : Sg) (x : Int32) {K q ci N : Nat} {Cn : String} {T : u_T} {ty : Nat → FieldType} (h : K < 77) (hk : ag_kd K = (ci, N)) (hC : ag_Cf ci Cn T N ty) (hq : q < N) (ht : ag_tg K q = none) : (ag_W ad cs σ).set K (ad K, .inr (ci, ((List.range N).map (ag_fv ad σ K)).set q (.int x))) = ag_W ad cs (ag_up σ K q x) := by
  have e : ((List.range N).map (ag_fv ad σ K)).set q (.int x) = (List.range N).map (ag_fv ad (ag_up σ K q x) K) := by
    apply List.ext_getElem?
    intro i
    by_cases hi : i < N
    · by_cases e : i = q
      · subst e
        rw [List.getElem?_set_self (by simp; exact hi), ag_fv_i ad _ hi ht]
        simp [ag_up]
      · rw [List.getElem?_set_ne (Ne.symm e), List.getElem?_map, List.getElem?_map]
        have : ag_fv ad (ag_up σ K q x) K i = ag_fv ad σ K i := by
          unfold ag_fv ag_up
          rw [if_neg (fun z => e z.2)]
        rw [List.getElem?_range hi]
        show some _ = some _
        rw [this]
    · rw [List.getElem?_eq_none (by simp; omega), List.getElem?_eq_none (by simp; omega)]
  rw [e, ← ag_en_o ad cs (ag_up σ K q x) hk hC.lt]
  exact ag_W_set ad cs (fun _ hne => ag_up_ne hne)
theorem ag_W_si (ad : Nat → Nat) (cs : Cs) (σ : Sg) (i : Nat) (x : Int32) {K n : Nat} (h : K < 77) (hk : ag_kd K = (8, n)) : (ag_W ad cs σ).set K (ad K, .inl (cs.1, n, .inl (upd (σ K) i x))) = ag_W ad cs (ag_up σ K i x) := by
  rw [← ag_up_k, ← ag_en_i ad cs (ag_up σ K i x) hk]
  exact ag_W_set ad cs (fun _ hne => ag_up_ne hne)
theorem ag_W_sz (ad : Nat → Nat) (cs : Cs) (σ : Sg) (i : Nat) (x : Int32) {K n : Nat} (h : K < 77) (hk : ag_kd K = (9, n)) : (ag_W ad cs σ).set K (ad K, .inl (cs.2.1, n, .inl (upd (σ K) i x))) = ag_W ad cs (ag_up σ K i x) := by
  rw [← ag_up_k, ← ag_en_z ad cs (ag_up σ K i x) hk]
  exact ag_W_set ad cs (fun _ hne => ag_up_ne hne)
theorem ag_W_sa (ad : Nat → Nat) (cs : Cs) (σ : Sg) (f : Nat → Int32) {K n : Nat} (h : K < 77) (hk : ag_kd K = (8, n)) : (ag_W ad cs σ).set K (ad K, .inl (cs.1, n, .inl f)) = ag_W ad cs (ag_ar σ K f) := by
  have e := ag_en_i ad cs (ag_ar σ K f) hk
  rw [ag_ar_k] at e
  rw [← e]
  exact ag_W_set ad cs (fun _ hne => ag_ar_ne hne)
theorem ag_gd {α : Type} {P : Prop} {i : Decidable P} {o : Option α} {r : α} (h : (@ite _ P i o none) = some r) : P ∧ o = some r := by
  by_cases c : P
  · rw [if_pos c] at h; exact ⟨c, h⟩
  · rw [if_neg c] at h; cases h
theorem ag_ib_in {i : Int32} {n : Nat} (h : ag_ib i n = true) : vp_in i n := show ¬ (i < 0 ∨ n ≤ i.toNatClampNeg) from of_decide_eq_true h
theorem ag_ite0 {α : Type} {P : Prop} {i : Decidable P} {o : Option α} {r : α} (h : (@ite _ P i none o) = some r) : ¬ P ∧ o = some r := by
  by_cases c : P
  · rw [if_pos c] at h; cases h
  · rw [if_neg c] at h; exact ⟨c, h⟩
def ag_ushr (x y : Int32) : Int32 := (x.toUInt32 >>> (y.toUInt32 &&& Int32.toUInt32 31)).toInt32
def ag_cpok (sp dp n : Int32) (n0 n1 : Nat) : Bool := decide (¬ sp < 0 ∧ ¬ dp < 0 ∧ ¬ n < 0 ∧ sp.toNatClampNeg + n.toNatClampNeg ≤ n0 ∧ dp.toNatClampNeg + n.toNatClampNeg ≤ n1)
theorem ag_cpok_spec {sp dp n : Int32} {n0 n1 : Nat} (h : ag_cpok sp dp n n0 n1 = true) : ¬ sp < 0 ∧ ¬ dp < 0 ∧ ¬ n < 0 ∧ sp.toNatClampNeg + n.toNatClampNeg ≤ n0 ∧ dp.toNatClampNeg + n.toNatClampNeg ≤ n1 := of_decide_eq_true h
def ag_bl (x : Int32) : Bool := decide (narrow .boolean (.int x) = .int x)
def ag_max (x y : Int32) : Int32 := if x < y then y else x
def ag_min (x y : Int32) : Int32 := if y < x then y else x
/-- a world gets a name -/
def ag_sg {α : Type} (s : Sg) (f : Sg → Option α) : Option α := f s
section RULES
variable {M : Md} {fr lo : Nat} {α : Type} {j : α → Option Value × Sg} {pc : Nat} {lv : List (Nat × Value)} {st : List Value} {σ : Sg} {o o1 o2 : Option α}
theorem ev_none : Ev M fr lo j pc lv st σ none := fun r h => by cases h
theorem ev_eq {o' : Option α} (h : o = o') (k : Ev M fr lo j pc lv st σ o') : Ev M fr lo j pc lv st σ o := h ▸ k
theorem ev_sub {lv' : List (Nat × Value)} (ks : List Nat) (h : lv_pick lv ks = lv') (k : Ev M fr lo j pc lv' st σ o) : Ev M fr lo j pc lv st σ o :=
  fun r hr _ _ _ _ _ _ _ _ _ _ _ _ _ _ _ _ _ C hf _ _ _ hP hS hl => k r hr _ _ _ _ _ _ _ _ _ _ _ _ _ _ _ _ _ C hf _ _ _ hP hS (lv_sub hl ks (ag_lm_pick ks h))
theorem ev_iconst {n : Int} {v : Int32} (hd : decode M.2.1 pc = .ok (.iconst n, 1)) (hv : Int32.ofInt n = v) (k : Ev M fr lo j (pc + 1) lv (.int v :: st) σ o) : Ev M fr lo j pc lv st σ o :=
  fun r hr _ _ _ _ _ _ _ _ _ _ _ ad cs _ _ _ _ C hf _ _ _ hP hS hl => lv_iconst C.1 C.2.1 hd hv (k r hr _ _ _ _ _ _ _ _ _ _ _ _ _ _ _ _ _ C hf _ _ _ hP hS hl)
theorem ev_bipush {n : Int} {v : Int32} (hd : decode M.2.1 pc = .ok (.bipush n, 2)) (hv : (Int8.ofInt n).toInt32 = v) (k : Ev M fr lo j (pc + 2) lv (.int v :: st) σ o) : Ev M fr lo j pc lv st σ o :=
  fun r hr _ _ _ _ _ _ _ _ _ _ _ ad cs _ _ _ _ C hf _ _ _ hP hS hl => lv_bipush C.1 C.2.1 hd hv (k r hr _ _ _ _ _ _ _ _ _ _ _ _ _ _ _ _ _ C hf _ _ _ hP hS hl)
theorem ev_sipush {n : Int} {v : Int32} (hd : decode M.2.1 pc = .ok (.sipush n, 3)) (hv : (Int16.ofInt n).toInt32 = v) (k : Ev M fr lo j (pc + 3) lv (.int v :: st) σ o) : Ev M fr lo j pc lv st σ o :=
  fun r hr _ _ _ _ _ _ _ _ _ _ _ ad cs _ _ _ _ C hf _ _ _ hP hS hl => lv_sipush C.1 C.2.1 hd hv (k r hr _ _ _ _ _ _ _ _ _ _ _ _ _ _ _ _ _ C hf _ _ _ hP hS hl)
theorem ev_lconst {n : Fin 2} {v : Int64} (hd : decode M.2.1 pc = .ok (.lconst n, 1)) (hv : Int64.ofNat (n : Nat) = v) (k : Ev M fr lo j (pc + 1) lv (.long v :: st) σ o) : Ev M fr lo j pc lv st σ o :=
  fun r hr _ _ _ _ _ _ _ _ _ _ _ ad cs _ _ _ _ C hf _ _ _ hP hS hl => lv_lconst C.1 C.2.1 hd hv (k r hr _ _ _ _ _ _ _ _ _ _ _ _ _ _ _ _ _ C hf _ _ _ hP hS hl)
theorem ev_ldc {idx : Nat} {v : Int32} (hd : decode M.2.1 pc = .ok (.ldc idx, 2)) (hc : Cond.constant M.1 idx v ∈ ag_tbl) (k : Ev M fr lo j (pc + 2) lv (.int v :: st) σ o) : Ev M fr lo j pc lv st σ o :=
  fun r hr _ _ _ _ _ _ _ _ _ _ _ ad cs _ _ _ _ C hf _ _ _ hP hS hl => lv_ldc C.1 C.2.1 C.2.2.2.1 (C.2.2.2.2.1 _ hc) hd (k r hr _ _ _ _ _ _ _ _ _ _ _ _ _ _ _ _ _ C hf _ _ _ hP hS hl)
theorem ev_ldcw {idx : Nat} {v : Int32} (hd : decode M.2.1 pc = .ok (.ldc_w idx, 3)) (hc : Cond.constant M.1 idx v ∈ ag_tbl) (k : Ev M fr lo j (pc + 3) lv (.int v :: st) σ o) : Ev M fr lo j pc lv st σ o :=
  fun r hr _ _ _ _ _ _ _ _ _ _ _ ad cs _ _ _ _ C hf _ _ _ hP hS hl => lv_ldcw C.1 C.2.1 C.2.2.2.1 (C.2.2.2.2.1 _ hc) hd (k r hr _ _ _ _ _ _ _ _ _ _ _ _ _ _ _ _ _ C hf _ _ _ hP hS hl)
theorem ev_ldc2 {idx : Nat} {v : Int64} (hd : decode M.2.1 pc = .ok (.ldc2_w idx, 3)) (hc : Cond.constantLong M.1 idx v ∈ ag_tbl) (k : Ev M fr lo j (pc + 3) lv (.long v :: st) σ o) : Ev M fr lo j pc lv st σ o :=
  fun r hr _ _ _ _ _ _ _ _ _ _ _ ad cs _ _ _ _ C hf _ _ _ hP hS hl => lv_ldc2 C.1 C.2.1 C.2.2.2.1 (C.2.2.2.2.1 _ hc) hd (k r hr _ _ _ _ _ _ _ _ _ _ _ _ _ _ _ _ _ C hf _ _ _ hP hS hl)
theorem ev_iload_n {k0 : Fin 4} {i : Nat} {x : Int32} (q : Nat) (hd : decode M.2.1 pc = .ok (.iload_n k0, 1)) (hi : (k0 : Nat) = i) (h0 : lv[q]? = some (i, .int x)) (k : Ev M fr lo j (pc + 1) lv (.int x :: st) σ o) : Ev M fr lo j pc lv st σ o :=
  fun r hr _ _ _ _ _ _ _ _ _ _ _ ad cs _ _ _ _ C hf _ _ _ hP hS hl => lv_iload_n C.1 C.2.1 hd hi (lv_at hl q (ag_lm_at h0)) (k r hr _ _ _ _ _ _ _ _ _ _ _ _ _ _ _ _ _ C hf _ _ _ hP hS hl)
theorem ev_iload {i : Nat} {x : Int32} (q : Nat) (hd : decode M.2.1 pc = .ok (.iload i, 2)) (h0 : lv[q]? = some (i, .int x)) (k : Ev M fr lo j (pc + 2) lv (.int x :: st) σ o) : Ev M fr lo j pc lv st σ o :=
  fun r hr _ _ _ _ _ _ _ _ _ _ _ ad cs _ _ _ _ C hf _ _ _ hP hS hl => lv_iload C.1 C.2.1 hd (lv_at hl q (ag_lm_at h0)) (k r hr _ _ _ _ _ _ _ _ _ _ _ _ _ _ _ _ _ C hf _ _ _ hP hS hl)
theorem ev_istore_n {k0 : Fin 4} {i : Nat} {x : Int32} {lv' : List (Nat × Value)} (hd : decode M.2.1 pc = .ok (.istore_n k0, 1)) (hi : (k0 : Nat) = i) (hn : i < M.2.2.1) (h0 : ag_s1 i (.int x) lv = lv') (k : Ev M fr lo j (pc + 1) lv' st σ o) : Ev M fr lo j pc lv (.int x :: st) σ o :=
  fun r hr _ _ _ _ _ _ _ _ _ _ _ ad cs _ _ _ _ C hf _ _ _ hP hS hl => lv_istore_n (lv' := ag_lm ad lv') C.1 C.2.1 hd hi hl hn (h0 ▸ ag_lm_s1 ad i (.int x) lv) (fun _ hl => (k r hr _ _ _ _ _ _ _ _ _ _ _ _ _ _ _ _ _ C hf _ _ _ hP hS hl))
theorem ev_istore {i : Nat} {x : Int32} {lv' : List (Nat × Value)} (hd : decode M.2.1 pc = .ok (.istore i, 2)) (hn : i < M.2.2.1) (h0 : ag_s1 i (.int x) lv = lv') (k : Ev M fr lo j (pc + 2) lv' st σ o) : Ev M fr lo j pc lv (.int x :: st) σ o :=
  fun r hr _ _ _ _ _ _ _ _ _ _ _ ad cs _ _ _ _ C hf _ _ _ hP hS hl => lv_istore (lv' := ag_lm ad lv') C.1 C.2.1 hd hl hn (h0 ▸ ag_lm_s1 ad i (.int x) lv) (fun _ hl => (k r hr _ _ _ _ _ _ _ _ _ _ _ _ _ _ _ _ _ C hf _ _ _ hP hS hl))
theorem ev_lload_n {k0 : Fin 4} {i : Nat} {x : Int64} (q : Nat) (hd : decode M.2.1 pc = .ok (.lload_n k0, 1)) (hi : (k0 : Nat) = i) (h0 : lv[q]? = some (i, .long x)) (k : Ev M fr lo j (pc + 1) lv (.long x :: st) σ o) : Ev M fr lo j pc lv st σ o :=
  fun r hr _ _ _ _ _ _ _ _ _ _ _ ad cs _ _ _ _ C hf _ _ _ hP hS hl => lv_lload_n C.1 C.2.1 hd hi (lv_at hl q (ag_lm_at h0)) (k r hr _ _ _ _ _ _ _ _ _ _ _ _ _ _ _ _ _ C hf _ _ _ hP hS hl)
theorem ev_lload {i : Nat} {x : Int64} (q : Nat) (hd : decode M.2.1 pc = .ok (.lload i, 2)) (h0 : lv[q]? = some (i, .long x)) (k : Ev M fr lo j (pc + 2) lv (.long x :: st) σ o) : Ev M fr lo j pc lv st σ o :=
  fun r hr _ _ _ _ _ _ _ _ _ _ _ ad cs _ _ _ _ C hf _ _ _ hP hS hl => lv_lload C.1 C.2.1 hd (lv_at hl q (ag_lm_at h0)) (k r hr _ _ _ _ _ _ _ _ _ _ _ _ _ _ _ _ _ C hf _ _ _ hP hS hl)
theorem ev_lstore_n {k0 : Fin 4} {i : Nat} {x : Int64} {lv' : List (Nat × Value)} (hd : decode M.2.1 pc = .ok (.lstore_n k0, 1)) (hi : (k0 : Nat) = i) (hn : i + 1 < M.2.2.1) (h0 : ag_s2 i (.long x) lv = lv') (k : Ev M fr lo j (pc + 1) lv' st σ o) : Ev M fr lo j pc lv (.long x :: st) σ o :=
  fun r hr _ _ _ _ _ _ _ _ _ _ _ ad cs _ _ _ _ C hf _ _ _ hP hS hl => lv_lstore_n (lv' := ag_lm ad lv') C.1 C.2.1 hd hi hl hn (h0 ▸ ag_lm_s2 ad i (.long x) lv) (fun _ hl => (k r hr _ _ _ _ _ _ _ _ _ _ _ _ _ _ _ _ _ C hf _ _ _ hP hS hl))
theorem ev_lstore {i : Nat} {x : Int64} {lv' : List (Nat × Value)} (hd : decode M.2.1 pc = .ok (.lstore i, 2)) (hn : i + 1 < M.2.2.1) (h0 : ag_s2 i (.long x) lv = lv') (k : Ev M fr lo j (pc + 2) lv' st σ o) : Ev M fr lo j pc lv (.long x :: st) σ o :=
  fun r hr _ _ _ _ _ _ _ _ _ _ _ ad cs _ _ _ _ C hf _ _ _ hP hS hl => lv_lstore (lv' := ag_lm ad lv') C.1 C.2.1 hd hl hn (h0 ▸ ag_lm_s2 ad i (.long x) lv) (fun _ hl => (k r hr _ _ _ _ _ _ _ _ _ _ _ _ _ _ _ _ _ C hf _ _ _ hP hS hl))
theorem ev_aload_n {k0 : Fin 4} {i : Nat} {x : Nat} (q : Nat) (hd : decode M.2.1 pc = .ok (.aload_n k0, 1)) (hi : (k0 : Nat) = i) (h0 : lv[q]? = some (i, .ref x)) (k : Ev M fr lo j (pc + 1) lv (.ref x :: st) σ o) : Ev M fr lo j pc lv st σ o :=
  fun r hr _ _ _ _ _ _ _ _ _ _ _ ad cs _ _ _ _ C hf _ _ _ hP hS hl => lv_aload_n C.1 C.2.1 hd hi (lv_at hl q (ag_lm_at h0)) (k r hr _ _ _ _ _ _ _ _ _ _ _ _ _ _ _ _ _ C hf _ _ _ hP hS hl)
theorem ev_aload {i : Nat} {x : Nat} (q : Nat) (hd : decode M.2.1 pc = .ok (.aload i, 2)) (h0 : lv[q]? = some (i, .ref x)) (k : Ev M fr lo j (pc + 2) lv (.ref x :: st) σ o) : Ev M fr lo j pc lv st σ o :=
  fun r hr _ _ _ _ _ _ _ _ _ _ _ ad cs _ _ _ _ C hf _ _ _ hP hS hl => lv_aload C.1 C.2.1 hd (lv_at hl q (ag_lm_at h0)) (k r hr _ _ _ _ _ _ _ _ _ _ _ _ _ _ _ _ _ C hf _ _ _ hP hS hl)
theorem ev_astore_n {k0 : Fin 4} {i : Nat} {x : Nat} {lv' : List (Nat × Value)} (hd : decode M.2.1 pc = .ok (.astore_n k0, 1)) (hi : (k0 : Nat) = i) (hn : i < M.2.2.1) (h0 : ag_s1 i (.ref x) lv = lv') (k : Ev M fr lo j (pc + 1) lv' st σ o) : Ev M fr lo j pc lv (.ref x :: st) σ o :=
  fun r hr _ _ _ _ _ _ _ _ _ _ _ ad cs _ _ _ _ C hf _ _ _ hP hS hl => lv_astore_n (lv' := ag_lm ad lv') C.1 C.2.1 hd hi hl hn (h0 ▸ ag_lm_s1 ad i (.ref x) lv) (fun _ hl => (k r hr _ _ _ _ _ _ _ _ _ _ _ _ _ _ _ _ _ C hf _ _ _ hP hS hl))
theorem ev_astore {i : Nat} {x : Nat} {lv' : List (Nat × Value)} (hd : decode M.2.1 pc = .ok (.astore i, 2)) (hn : i < M.2.2.1) (h0 : ag_s1 i (.ref x) lv = lv') (k : Ev M fr lo j (pc + 2) lv' st σ o) : Ev M fr lo j pc lv (.ref x :: st) σ o :=
  fun r hr _ _ _ _ _ _ _ _ _ _ _ ad cs _ _ _ _ C hf _ _ _ hP hS hl => lv_astore (lv' := ag_lm ad lv') C.1 C.2.1 hd hl hn (h0 ▸ ag_lm_s1 ad i (.ref x) lv) (fun _ hl => (k r hr _ _ _ _ _ _ _ _ _ _ _ _ _ _ _ _ _ C hf _ _ _ hP hS hl))
theorem ev_iinc {i : Nat} {n : Int} {x v : Int32} {lv' : List (Nat × Value)} (q : Nat) (hd : decode M.2.1 pc = .ok (.iinc i n, 3)) (h0 : lv[q]? = some (i, .int x)) (hv : x + Int32.ofInt n = v) (hn : i < M.2.2.1) (h1 : ag_s1 i (.int v) lv = lv') (k : Ev M fr lo j (pc + 3) lv' st σ o) : Ev M fr lo j pc lv st σ o :=
  fun r hr _ _ _ _ _ _ _ _ _ _ _ ad cs _ _ _ _ C hf _ _ _ hP hS hl => lv_iinc (lv' := ag_lm ad lv') C.1 C.2.1 hd hl (ag_lm_at h0) hv hn (h1 ▸ ag_lm_s1 ad i (.int v) lv) (fun _ hl => (k r hr _ _ _ _ _ _ _ _ _ _ _ _ _ _ _ _ _ C hf _ _ _ hP hS hl))
theorem ev_iadd {x y : Int32} (hd : decode M.2.1 pc = .ok (.iadd, 1))  (k : Ev M fr lo j (pc + 1) lv (.int (x + y) :: st) σ o) : Ev M fr lo j pc lv (.int y :: .int x :: st) σ o :=
  fun r hr _ _ _ _ _ _ _ _ _ _ _ ad cs _ _ _ _ C hf _ _ _ hP hS hl => lv_iadd C.1 C.2.1 hd (k r hr _ _ _ _ _ _ _ _ _ _ _ _ _ _ _ _ _ C hf _ _ _ hP hS hl)
theorem ev_isub {x y : Int32} (hd : decode M.2.1 pc = .ok (.isub, 1))  (k : Ev M fr lo j (pc + 1) lv (.int (x - y) :: st) σ o) : Ev M fr lo j pc lv (.int y :: .int x :: st) σ o :=
  fun r hr _ _ _ _ _ _ _ _ _ _ _ ad cs _ _ _ _ C hf _ _ _ hP hS hl => lv_isub C.1 C.2.1 hd (k r hr _ _ _ _ _ _ _ _ _ _ _ _ _ _ _ _ _ C hf _ _ _ hP hS hl)
theorem ev_imul {x y : Int32} (hd : decode M.2.1 pc = .ok (.imul, 1))  (k : Ev M fr lo j (pc + 1) lv (.int (x * y) :: st) σ o) : Ev M fr lo j pc lv (.int y :: .int x :: st) σ o :=
  fun r hr _ _ _ _ _ _ _ _ _ _ _ ad cs _ _ _ _ C hf _ _ _ hP hS hl => lv_imul C.1 C.2.1 hd (k r hr _ _ _ _ _ _ _ _ _ _ _ _ _ _ _ _ _ C hf _ _ _ hP hS hl)
theorem ev_iand {x y : Int32} (hd : decode M.2.1 pc = .ok (.iand, 1))  (k : Ev M fr lo j (pc + 1) lv (.int (x &&& y) :: st) σ o) : Ev M fr lo j pc lv (.int y :: .int x :: st) σ o :=
  fun r hr _ _ _ _ _ _ _ _ _ _ _ ad cs _ _ _ _ C hf _ _ _ hP hS hl => lv_iand C.1 C.2.1 hd (k r hr _ _ _ _ _ _ _ _ _ _ _ _ _ _ _ _ _ C hf _ _ _ hP hS hl)
theorem ev_ior {x y : Int32} (hd : decode M.2.1 pc = .ok (.ior, 1))  (k : Ev M fr lo j (pc + 1) lv (.int (x ||| y) :: st) σ o) : Ev M fr lo j pc lv (.int y :: .int x :: st) σ o :=
  fun r hr _ _ _ _ _ _ _ _ _ _ _ ad cs _ _ _ _ C hf _ _ _ hP hS hl => lv_ior C.1 C.2.1 hd (k r hr _ _ _ _ _ _ _ _ _ _ _ _ _ _ _ _ _ C hf _ _ _ hP hS hl)
theorem ev_ixor {x y : Int32} (hd : decode M.2.1 pc = .ok (.ixor, 1))  (k : Ev M fr lo j (pc + 1) lv (.int (x ^^^ y) :: st) σ o) : Ev M fr lo j pc lv (.int y :: .int x :: st) σ o :=
  fun r hr _ _ _ _ _ _ _ _ _ _ _ ad cs _ _ _ _ C hf _ _ _ hP hS hl => lv_ixor C.1 C.2.1 hd (k r hr _ _ _ _ _ _ _ _ _ _ _ _ _ _ _ _ _ C hf _ _ _ hP hS hl)
theorem ev_ishl {x y : Int32} (hd : decode M.2.1 pc = .ok (.ishl, 1))  (k : Ev M fr lo j (pc + 1) lv (.int (x <<< (y &&& 31)) :: st) σ o) : Ev M fr lo j pc lv (.int y :: .int x :: st) σ o :=
  fun r hr _ _ _ _ _ _ _ _ _ _ _ ad cs _ _ _ _ C hf _ _ _ hP hS hl => lv_ishl C.1 C.2.1 hd (k r hr _ _ _ _ _ _ _ _ _ _ _ _ _ _ _ _ _ C hf _ _ _ hP hS hl)
theorem ev_ishr {x y : Int32} (hd : decode M.2.1 pc = .ok (.ishr, 1))  (k : Ev M fr lo j (pc + 1) lv (.int (x >>> (y &&& 31)) :: st) σ o) : Ev M fr lo j pc lv (.int y :: .int x :: st) σ o :=
  fun r hr _ _ _ _ _ _ _ _ _ _ _ ad cs _ _ _ _ C hf _ _ _ hP hS hl => lv_ishr C.1 C.2.1 hd (k r hr _ _ _ _ _ _ _ _ _ _ _ _ _ _ _ _ _ C hf _ _ _ hP hS hl)
theorem ev_ladd {x y : Int64} (hd : decode M.2.1 pc = .ok (.ladd, 1))  (k : Ev M fr lo j (pc + 1) lv (.long (x + y) :: st) σ o) : Ev M fr lo j pc lv (.long y :: .long x :: st) σ o :=
  fun r hr _ _ _ _ _ _ _ _ _ _ _ ad cs _ _ _ _ C hf _ _ _ hP hS hl => lv_ladd C.1 C.2.1 hd (k r hr _ _ _ _ _ _ _ _ _ _ _ _ _ _ _ _ _ C hf _ _ _ hP hS hl)
theorem ev_lsub {x y : Int64} (hd : decode M.2.1 pc = .ok (.lsub, 1))  (k : Ev M fr lo j (pc + 1) lv (.long (x - y) :: st) σ o) : Ev M fr lo j pc lv (.long y :: .long x :: st) σ o :=
  fun r hr _ _ _ _ _ _ _ _ _ _ _ ad cs _ _ _ _ C hf _ _ _ hP hS hl => lv_lsub C.1 C.2.1 hd (k r hr _ _ _ _ _ _ _ _ _ _ _ _ _ _ _ _ _ C hf _ _ _ hP hS hl)
theorem ev_lmul {x y : Int64} (hd : decode M.2.1 pc = .ok (.lmul, 1))  (k : Ev M fr lo j (pc + 1) lv (.long (x * y) :: st) σ o) : Ev M fr lo j pc lv (.long y :: .long x :: st) σ o :=
  fun r hr _ _ _ _ _ _ _ _ _ _ _ ad cs _ _ _ _ C hf _ _ _ hP hS hl => lv_lmul C.1 C.2.1 hd (k r hr _ _ _ _ _ _ _ _ _ _ _ _ _ _ _ _ _ C hf _ _ _ hP hS hl)
theorem ev_land {x y : Int64} (hd : decode M.2.1 pc = .ok (.land, 1))  (k : Ev M fr lo j (pc + 1) lv (.long (x &&& y) :: st) σ o) : Ev M fr lo j pc lv (.long y :: .long x :: st) σ o :=
  fun r hr _ _ _ _ _ _ _ _ _ _ _ ad cs _ _ _ _ C hf _ _ _ hP hS hl => lv_land C.1 C.2.1 hd (k r hr _ _ _ _ _ _ _ _ _ _ _ _ _ _ _ _ _ C hf _ _ _ hP hS hl)
theorem ev_idiv {x y : Int32} (hd : decode M.2.1 pc = .ok (.idiv, 1)) (hne : ¬ y = 0) (k : Ev M fr lo j (pc + 1) lv (.int (x / y) :: st) σ o) : Ev M fr lo j pc lv (.int y :: .int x :: st) σ o :=
  fun r hr _ _ _ _ _ _ _ _ _ _ _ ad cs _ _ _ _ C hf _ _ _ hP hS hl => lv_idiv C.1 C.2.1 hd hne (k r hr _ _ _ _ _ _ _ _ _ _ _ _ _ _ _ _ _ C hf _ _ _ hP hS hl)
theorem ev_irem {x y : Int32} (hd : decode M.2.1 pc = .ok (.irem, 1)) (hne : ¬ y = 0) (k : Ev M fr lo j (pc + 1) lv (.int (x - x / y * y) :: st) σ o) : Ev M fr lo j pc lv (.int y :: .int x :: st) σ o :=
  fun r hr _ _ _ _ _ _ _ _ _ _ _ ad cs _ _ _ _ C hf _ _ _ hP hS hl => lv_irem C.1 C.2.1 hd hne (k r hr _ _ _ _ _ _ _ _ _ _ _ _ _ _ _ _ _ C hf _ _ _ hP hS hl)
theorem ev_iushr {x y : Int32} (hd : decode M.2.1 pc = .ok (.iushr, 1))  (k : Ev M fr lo j (pc + 1) lv (.int (ag_ushr x y) :: st) σ o) : Ev M fr lo j pc lv (.int y :: .int x :: st) σ o :=
  fun r hr _ _ _ _ _ _ _ _ _ _ _ ad cs _ _ _ _ C hf _ _ _ hP hS hl => lv_iushr C.1 C.2.1 hd rfl (k r hr _ _ _ _ _ _ _ _ _ _ _ _ _ _ _ _ _ C hf _ _ _ hP hS hl)
theorem ev_lshr {x : Int64} {y : Int32} (hd : decode M.2.1 pc = .ok (.lshr, 1))  (k : Ev M fr lo j (pc + 1) lv (.long (x >>> (y.toInt64 &&& 63)) :: st) σ o) : Ev M fr lo j pc lv (.int y :: .long x :: st) σ o :=
  fun r hr _ _ _ _ _ _ _ _ _ _ _ ad cs _ _ _ _ C hf _ _ _ hP hS hl => lv_lshr C.1 C.2.1 hd rfl (k r hr _ _ _ _ _ _ _ _ _ _ _ _ _ _ _ _ _ C hf _ _ _ hP hS hl)
theorem ev_i2l {x : Int32} (hd : decode M.2.1 pc = .ok (.i2l, 1))  (k : Ev M fr lo j (pc + 1) lv (.long x.toInt64 :: st) σ o) : Ev M fr lo j pc lv (.int x :: st) σ o :=
  fun r hr _ _ _ _ _ _ _ _ _ _ _ ad cs _ _ _ _ C hf _ _ _ hP hS hl => lv_i2l C.1 C.2.1 hd rfl (k r hr _ _ _ _ _ _ _ _ _ _ _ _ _ _ _ _ _ C hf _ _ _ hP hS hl)
theorem ev_i2b {x : Int32} (hd : decode M.2.1 pc = .ok (.i2b, 1))  (k : Ev M fr lo j (pc + 1) lv (.int x.toInt8.toInt32 :: st) σ o) : Ev M fr lo j pc lv (.int x :: st) σ o :=
  fun r hr _ _ _ _ _ _ _ _ _ _ _ ad cs _ _ _ _ C hf _ _ _ hP hS hl => lv_i2b C.1 C.2.1 hd rfl (k r hr _ _ _ _ _ _ _ _ _ _ _ _ _ _ _ _ _ C hf _ _ _ hP hS hl)
theorem ev_i2s {x : Int32} (hd : decode M.2.1 pc = .ok (.i2s, 1))  (k : Ev M fr lo j (pc + 1) lv (.int x.toInt16.toInt32 :: st) σ o) : Ev M fr lo j pc lv (.int x :: st) σ o :=
  fun r hr _ _ _ _ _ _ _ _ _ _ _ ad cs _ _ _ _ C hf _ _ _ hP hS hl => lv_i2s C.1 C.2.1 hd rfl (k r hr _ _ _ _ _ _ _ _ _ _ _ _ _ _ _ _ _ C hf _ _ _ hP hS hl)
theorem ev_lcmp {x y : Int64} (hd : decode M.2.1 pc = .ok (.lcmp, 1))  (k : Ev M fr lo j (pc + 1) lv (.int (lg_cmp x y) :: st) σ o) : Ev M fr lo j pc lv (.long y :: .long x :: st) σ o :=
  fun r hr _ _ _ _ _ _ _ _ _ _ _ ad cs _ _ _ _ C hf _ _ _ hP hS hl => W.lcmp C.1 C.2.1 hd (k r hr _ _ _ _ _ _ _ _ _ _ _ _ _ _ _ _ _ C hf _ _ _ hP hS hl)
theorem ev_dup {v : Value} (hd : decode M.2.1 pc = .ok (.dup, 1)) (hc : v.category = 1) (k : Ev M fr lo j (pc + 1) lv (v :: v :: st) σ o) : Ev M fr lo j pc lv (v :: st) σ o :=
  fun r hr _ _ _ _ _ _ _ _ _ _ _ ad cs _ _ _ _ C hf _ _ _ hP hS hl => lv_dup C.1 C.2.1 hd ((ag_cv_cat ad v).trans hc) (k r hr _ _ _ _ _ _ _ _ _ _ _ _ _ _ _ _ _ C hf _ _ _ hP hS hl)
theorem ev_dup2 {v w : Value} (hd : decode M.2.1 pc = .ok (.dup2, 1)) (hc : v.category = 1) (hc2 : w.category = 1) (k : Ev M fr lo j (pc + 1) lv (v :: w :: v :: w :: st) σ o) : Ev M fr lo j pc lv (v :: w :: st) σ o :=
  fun r hr _ _ _ _ _ _ _ _ _ _ _ ad cs _ _ _ _ C hf _ _ _ hP hS hl => lv_dup2_11 C.1 C.2.1 hd ((ag_cv_cat ad v).trans hc) ((ag_cv_cat ad w).trans hc2) (k r hr _ _ _ _ _ _ _ _ _ _ _ _ _ _ _ _ _ C hf _ _ _ hP hS hl)
theorem ev_ldiv {x y : Int64} (hd : decode M.2.1 pc = .ok (.ldiv, 1)) (k : Ev M fr lo j (pc + 1) lv (.long (x / y) :: st) σ o) : Ev M fr lo j pc lv (.long y :: .long x :: st) σ (if y = 0 then none else o) :=
  fun r hr _ _ _ _ _ _ _ _ _ _ _ ad cs _ _ _ _ C hf _ _ _ hP hS hl => lv_ldiv C.1 C.2.1 hd (ag_ite0 hr).1 (k r (ag_ite0 hr).2 _ _ _ _ _ _ _ _ _ _ _ _ _ _ _ _ _ C hf _ _ _ hP hS hl)
theorem ev_lrem {x y : Int64} (hd : decode M.2.1 pc = .ok (.lrem, 1)) (k : Ev M fr lo j (pc + 1) lv (.long (x - x / y * y) :: st) σ o) : Ev M fr lo j pc lv (.long y :: .long x :: st) σ (if y = 0 then none else o) :=
  fun r hr _ _ _ _ _ _ _ _ _ _ _ ad cs _ _ _ _ C hf _ _ _ hP hS hl => lv_lrem C.1 C.2.1 hd (ag_ite0 hr).1 (k r (ag_ite0 hr).2 _ _ _ _ _ _ _ _ _ _ _ _ _ _ _ _ _ C hf _ _ _ hP hS hl)
theorem ev_if_eq {x : Int32} {off : Int} {tgt : Nat} (hd : decode M.2.1 pc = .ok (.ifCond .eq off, 3)) (ht : (pc : Int) + off = (tgt : Int)) (k1 : Ev M fr lo j tgt lv st σ o1) (k2 : Ev M fr lo j (pc + 3) lv st σ o2) : Ev M fr lo j pc lv (.int x :: st) σ (if x = 0 then o1 else o2) :=
  fun r hr _ _ _ _ _ _ _ _ _ _ _ ad cs _ _ _ _ C hf _ _ _ hP hS hl => lv_if_eq C.1 C.2.1 hd ht (fun h => (k1 r ((if_pos h).symm.trans hr) _ _ _ _ _ _ _ _ _ _ _ _ _ _ _ _ _ C hf _ _ _ hP hS hl)) (fun h => (k2 r ((if_neg h).symm.trans hr) _ _ _ _ _ _ _ _ _ _ _ _ _ _ _ _ _ C hf _ _ _ hP hS hl))
theorem ev_icmp_eq {x y : Int32} {off : Int} {tgt : Nat} (hd : decode M.2.1 pc = .ok (.if_icmp .eq off, 3)) (ht : (pc : Int) + off = (tgt : Int)) (k1 : Ev M fr lo j tgt lv st σ o1) (k2 : Ev M fr lo j (pc + 3) lv st σ o2) : Ev M fr lo j pc lv (.int y :: .int x :: st) σ (if x = y then o1 else o2) :=
  fun r hr _ _ _ _ _ _ _ _ _ _ _ ad cs _ _ _ _ C hf _ _ _ hP hS hl => lv_icmp_eq C.1 C.2.1 hd ht (fun h => (k1 r ((if_pos h).symm.trans hr) _ _ _ _ _ _ _ _ _ _ _ _ _ _ _ _ _ C hf _ _ _ hP hS hl)) (fun h => (k2 r ((if_neg h).symm.trans hr) _ _ _ _ _ _ _ _ _ _ _ _ _ _ _ _ _ C hf _ _ _ hP hS hl))
theorem ev_if_ne {x : Int32} {off : Int} {tgt : Nat} (hd : decode M.2.1 pc = .ok (.ifCond .ne off, 3)) (ht : (pc : Int) + off = (tgt : Int)) (k1 : Ev M fr lo j (pc + 3) lv st σ o1) (k2 : Ev M fr lo j tgt lv st σ o2) : Ev M fr lo j pc lv (.int x :: st) σ (if x = 0 then o1 else o2) :=
  fun r hr _ _ _ _ _ _ _ _ _ _ _ ad cs _ _ _ _ C hf _ _ _ hP hS hl => lv_if_ne C.1 C.2.1 hd ht (fun h => (k2 r ((if_neg h).symm.trans hr) _ _ _ _ _ _ _ _ _ _ _ _ _ _ _ _ _ C hf _ _ _ hP hS hl)) (fun h => (k1 r ((if_pos h).symm.trans hr) _ _ _ _ _ _ _ _ _ _ _ _ _ _ _ _ _ C hf _ _ _ hP hS hl))
theorem ev_icmp_ne {x y : Int32} {off : Int} {tgt : Nat} (hd : decode M.2.1 pc = .ok (.if_icmp .ne off, 3)) (ht : (pc : Int) + off = (tgt : Int)) (k1 : Ev M fr lo j (pc + 3) lv st σ o1) (k2 : Ev M fr lo j tgt lv st σ o2) : Ev M fr lo j pc lv (.int y :: .int x :: st) σ (if x = y then o1 else o2) :=
  fun r hr _ _ _ _ _ _ _ _ _ _ _ ad cs _ _ _ _ C hf _ _ _ hP hS hl => lv_icmp_ne C.1 C.2.1 hd ht (fun h => (k2 r ((if_neg h).symm.trans hr) _ _ _ _ _ _ _ _ _ _ _ _ _ _ _ _ _ C hf _ _ _ hP hS hl)) (fun h => (k1 r ((if_pos h).symm.trans hr) _ _ _ _ _ _ _ _ _ _ _ _ _ _ _ _ _ C hf _ _ _ hP hS hl))
theorem ev_if_lt {x : Int32} {off : Int} {tgt : Nat} (hd : decode M.2.1 pc = .ok (.ifCond .lt off, 3)) (ht : (pc : Int) + off = (tgt : Int)) (k1 : Ev M fr lo j tgt lv st σ o1) (k2 : Ev M fr lo j (pc + 3) lv st σ o2) : Ev M fr lo j pc lv (.int x :: st) σ (if x < 0 then o1 else o2) :=
  fun r hr _ _ _ _ _ _ _ _ _ _ _ ad cs _ _ _ _ C hf _ _ _ hP hS hl => lv_if_lt C.1 C.2.1 hd ht (fun h => (k1 r ((if_pos h).symm.trans hr) _ _ _ _ _ _ _ _ _ _ _ _ _ _ _ _ _ C hf _ _ _ hP hS hl)) (fun h => (k2 r ((if_neg h).symm.trans hr) _ _ _ _ _ _ _ _ _ _ _ _ _ _ _ _ _ C hf _ _ _ hP hS hl))
theorem ev_icmp_lt {x y : Int32} {off : Int} {tgt : Nat} (hd : decode M.2.1 pc = .ok (.if_icmp .lt off, 3)) (ht : (pc : Int) + off = (tgt : Int)) (k1 : Ev M fr lo j tgt lv st σ o1) (k2 : Ev M fr lo j (pc + 3) lv st σ o2) : Ev M fr lo j pc lv (.int y :: .int x :: st) σ (if x < y then o1 else o2) :=
  fun r hr _ _ _ _ _ _ _ _ _ _ _ ad cs _ _ _ _ C hf _ _ _ hP hS hl => lv_icmp_lt C.1 C.2.1 hd ht (fun h => (k1 r ((if_pos h).symm.trans hr) _ _ _ _ _ _ _ _ _ _ _ _ _ _ _ _ _ C hf _ _ _ hP hS hl)) (fun h => (k2 r ((if_neg h).symm.trans hr) _ _ _ _ _ _ _ _ _ _ _ _ _ _ _ _ _ C hf _ _ _ hP hS hl))
theorem ev_if_ge {x : Int32} {off : Int} {tgt : Nat} (hd : decode M.2.1 pc = .ok (.ifCond .ge off, 3)) (ht : (pc : Int) + off = (tgt : Int)) (k1 : Ev M fr lo j tgt lv st σ o1) (k2 : Ev M fr lo j (pc + 3) lv st σ o2) : Ev M fr lo j pc lv (.int x :: st) σ (if 0 ≤ x then o1 else o2) :=
  fun r hr _ _ _ _ _ _ _ _ _ _ _ ad cs _ _ _ _ C hf _ _ _ hP hS hl => lv_if_ge C.1 C.2.1 hd ht (fun h => (k1 r ((if_pos h).symm.trans hr) _ _ _ _ _ _ _ _ _ _ _ _ _ _ _ _ _ C hf _ _ _ hP hS hl)) (fun h => (k2 r ((if_neg h).symm.trans hr) _ _ _ _ _ _ _ _ _ _ _ _ _ _ _ _ _ C hf _ _ _ hP hS hl))
theorem ev_icmp_ge {x y : Int32} {off : Int} {tgt : Nat} (hd : decode M.2.1 pc = .ok (.if_icmp .ge off, 3)) (ht : (pc : Int) + off = (tgt : Int)) (k1 : Ev M fr lo j tgt lv st σ o1) (k2 : Ev M fr lo j (pc + 3) lv st σ o2) : Ev M fr lo j pc lv (.int y :: .int x :: st) σ (if y ≤ x then o1 else o2) :=
  fun r hr _ _ _ _ _ _ _ _ _ _ _ ad cs _ _ _ _ C hf _ _ _ hP hS hl => lv_icmp_ge C.1 C.2.1 hd ht (fun h => (k1 r ((if_pos h).symm.trans hr) _ _ _ _ _ _ _ _ _ _ _ _ _ _ _ _ _ C hf _ _ _ hP hS hl)) (fun h => (k2 r ((if_neg h).symm.trans hr) _ _ _ _ _ _ _ _ _ _ _ _ _ _ _ _ _ C hf _ _ _ hP hS hl))
theorem ev_if_gt {x : Int32} {off : Int} {tgt : Nat} (hd : decode M.2.1 pc = .ok (.ifCond .gt off, 3)) (ht : (pc : Int) + off = (tgt : Int)) (k1 : Ev M fr lo j tgt lv st σ o1) (k2 : Ev M fr lo j (pc + 3) lv st σ o2) : Ev M fr lo j pc lv (.int x :: st) σ (if 0 < x then o1 else o2) :=
  fun r hr _ _ _ _ _ _ _ _ _ _ _ ad cs _ _ _ _ C hf _ _ _ hP hS hl => lv_if_gt C.1 C.2.1 hd ht (fun h => (k1 r ((if_pos h).symm.trans hr) _ _ _ _ _ _ _ _ _ _ _ _ _ _ _ _ _ C hf _ _ _ hP hS hl)) (fun h => (k2 r ((if_neg h).symm.trans hr) _ _ _ _ _ _ _ _ _ _ _ _ _ _ _ _ _ C hf _ _ _ hP hS hl))
theorem ev_icmp_gt {x y : Int32} {off : Int} {tgt : Nat} (hd : decode M.2.1 pc = .ok (.if_icmp .gt off, 3)) (ht : (pc : Int) + off = (tgt : Int)) (k1 : Ev M fr lo j tgt lv st σ o1) (k2 : Ev M fr lo j (pc + 3) lv st σ o2) : Ev M fr lo j pc lv (.int y :: .int x :: st) σ (if y < x then o1 else o2) :=
  fun r hr _ _ _ _ _ _ _ _ _ _ _ ad cs _ _ _ _ C hf _ _ _ hP hS hl => lv_icmp_gt C.1 C.2.1 hd ht (fun h => (k1 r ((if_pos h).symm.trans hr) _ _ _ _ _ _ _ _ _ _ _ _ _ _ _ _ _ C hf _ _ _ hP hS hl)) (fun h => (k2 r ((if_neg h).symm.trans hr) _ _ _ _ _ _ _ _ _ _ _ _ _ _ _ _ _ C hf _ _ _ hP hS hl))
theorem ev_if_le {x : Int32} {off : Int} {tgt : Nat} (hd : decode M.2.1 pc = .ok (.ifCond .le off, 3)) (ht : (pc : Int) + off = (tgt : Int)) (k1 : Ev M fr lo j tgt lv st σ o1) (k2 : Ev M fr lo j (pc + 3) lv st σ o2) : Ev M fr lo j pc lv (.int x :: st) σ (if x ≤ 0 then o1 else o2) :=
  fun r hr _ _ _ _ _ _ _ _ _ _ _ ad cs _ _ _ _ C hf _ _ _ hP hS hl => lv_if_le C.1 C.2.1 hd ht (fun h => (k1 r ((if_pos h).symm.trans hr) _ _ _ _ _ _ _ _ _ _ _ _ _ _ _ _ _ C hf _ _ _ hP hS hl)) (fun h => (k2 r ((if_neg h).symm.trans hr) _ _ _ _ _ _ _ _ _ _ _ _ _ _ _ _ _ C hf _ _ _ hP hS hl))
theorem ev_icmp_le {x y : Int32} {off : Int} {tgt : Nat} (hd : decode M.2.1 pc = .ok (.if_icmp .le off, 3)) (ht : (pc : Int) + off = (tgt : Int)) (k1 : Ev M fr lo j tgt lv st σ o1) (k2 : Ev M fr lo j (pc + 3) lv st σ o2) : Ev M fr lo j pc lv (.int y :: .int x :: st) σ (if x ≤ y then o1 else o2) :=
  fun r hr _ _ _ _ _ _ _ _ _ _ _ ad cs _ _ _ _ C hf _ _ _ hP hS hl => lv_icmp_le C.1 C.2.1 hd ht (fun h => (k1 r ((if_pos h).symm.trans hr) _ _ _ _ _ _ _ _ _ _ _ _ _ _ _ _ _ C hf _ _ _ hP hS hl)) (fun h => (k2 r ((if_neg h).symm.trans hr) _ _ _ _ _ _ _ _ _ _ _ _ _ _ _ _ _ C hf _ _ _ hP hS hl))
theorem ev_goto {off : Int} {tgt : Nat} (hd : decode M.2.1 pc = .ok (.goto off, 3)) (ht : (pc : Int) + off = (tgt : Int)) (k : Ev M fr lo j tgt lv st σ o) : Ev M fr lo j pc lv st σ o :=
  fun r hr _ _ _ _ _ _ _ _ _ _ _ ad cs _ _ _ _ C hf _ _ _ hP hS hl => lv_goto C.1 C.2.1 hd ht (k r hr _ _ _ _ _ _ _ _ _ _ _ _ _ _ _ _ _ C hf _ _ _ hP hS hl)
theorem ev_ite {c : Prop} {h9 : Decidable c} (k1 : c → Ev M fr lo j pc lv st σ o1) (k2 : ¬ c → Ev M fr lo j pc lv st σ o2) : Ev M fr lo j pc lv st σ (@ite _ c h9 o1 o2) := by
  by_cases h : c
  · rw [if_pos h]; exact k1 h
  · rw [if_neg h]; exact k2 h
theorem ev_tin {dflt lw hi : Int} {offs : Array Int} {len : Nat} {x : Int32} {off : Int} {tgt : Nat} (hd : decode M.2.1 pc = .ok (.tableswitch dflt lw hi offs, len)) (h1 : ¬ x.toInt < lw) (h2 : ¬ hi < x.toInt) (ho : offs[(x.toInt - lw).toNat]? = some off) (ht : (pc : Int) + off = (tgt : Int)) (k : Ev M fr lo j tgt lv st σ o) : Ev M fr lo j pc lv (.int x :: st) σ o :=
  fun r hr _ _ _ _ _ _ _ _ _ _ _ ad cs _ _ _ _ C hf _ _ _ hP hS hl => lv_tableIn C.1 C.2.1 hd h1 h2 ho ht (k r hr _ _ _ _ _ _ _ _ _ _ _ _ _ _ _ _ _ C hf _ _ _ hP hS hl)
theorem ev_tout {dflt lw hi : Int} {offs : Array Int} {len : Nat} {x : Int32} {tgt : Nat} (hd : decode M.2.1 pc = .ok (.tableswitch dflt lw hi offs, len)) (h1 : x.toInt < lw ∨ hi < x.toInt) (ht : (pc : Int) + dflt = (tgt : Int)) (k : Ev M fr lo j tgt lv st σ o) : Ev M fr lo j pc lv (.int x :: st) σ o :=
  fun r hr _ _ _ _ _ _ _ _ _ _ _ ad cs _ _ _ _ C hf _ _ _ hP hS hl => lv_tableOut C.1 C.2.1 hd h1 ht (k r hr _ _ _ _ _ _ _ _ _ _ _ _ _ _ _ _ _ C hf _ _ _ hP hS hl)
theorem ev_getI {ci idx K N : Nat} {Cn : String} {T : u_T} {ty : Nat → FieldType} (q : Nat) (hC : ag_Cf ci Cn T N ty) (hk : ag_kd K = (ci, N)) (h77 : K < 77) (hq : q < N) (ht : ag_tg K q = none) (hr0 : (T q).1 = Cn) (hfl : Cond.fieldLink M.1 idx Cn (T q).2.1 (T q).2.2.1 ∈ ag_tbl) (hd : decode M.2.1 pc = .ok (.getfield idx, 3)) (k : Ev M fr lo j (pc + 3) lv (.int (σ K q) :: st) σ o) : Ev M fr lo j pc lv (.ref K :: st) σ o :=
  fun r hr _ _ _ _ _ _ _ _ _ _ _ ad cs _ _ _ _ C hf _ _ _ hP hS hl => va_get C.1 C.2.1 C.2.2.2.2.1 hC.2.1 C.2.2.2.1 C.2.2.2.2.2.1.1 hP K (fs := (List.range N).map (ag_fv ad σ K)) (ag_W_o ad _ σ h77 hk hC) hC.1 q hq (C.2.2.2.2.1 _ hfl) (fun _ hx => hr0 ▸ hx) (v := .int (σ K q)) (ag_fv_i ad σ hq ht) hd (k r hr _ _ _ _ _ _ _ _ _ _ _ _ _ _ _ _ _ C hf _ _ _ hP hS hl)
theorem ev_getR {t : Nat} {ci idx K N : Nat} {Cn : String} {T : u_T} {ty : Nat → FieldType} (q : Nat) (hC : ag_Cf ci Cn T N ty) (hk : ag_kd K = (ci, N)) (h77 : K < 77) (hq : q < N) (ht : ag_tg K q = some t) (hr0 : (T q).1 = Cn) (hfl : Cond.fieldLink M.1 idx Cn (T q).2.1 (T q).2.2.1 ∈ ag_tbl) (hd : decode M.2.1 pc = .ok (.getfield idx, 3)) (k : Ev M fr lo j (pc + 3) lv (.ref t :: st) σ o) : Ev M fr lo j pc lv (.ref K :: st) σ o :=
  fun r hr _ _ _ _ _ _ _ _ _ _ _ ad cs _ _ _ _ C hf _ _ _ hP hS hl => va_get C.1 C.2.1 C.2.2.2.2.1 hC.2.1 C.2.2.2.1 C.2.2.2.2.2.1.1 hP K (fs := (List.range N).map (ag_fv ad σ K)) (ag_W_o ad _ σ h77 hk hC) hC.1 q hq (C.2.2.2.2.1 _ hfl) (fun _ hx => hr0 ▸ hx) (v := .ref (ad t)) (ag_fv_r ad σ hq ht) hd (k r hr _ _ _ _ _ _ _ _ _ _ _ _ _ _ _ _ _ C hf _ _ _ hP hS hl)
theorem ev_put {x : Int32} {ci idx K N : Nat} {Cn : String} {T : u_T} {ty : Nat → FieldType} (q : Nat) (hC : ag_Cf ci Cn T N ty) (hk : ag_kd K = (ci, N)) (h77 : K < 77) (hq : q < N) (ht : ag_tg K q = none) (hr0 : (T q).1 = Cn) (hfl : Cond.fieldLink M.1 idx Cn (T q).2.1 (T q).2.2.1 ∈ ag_tbl) (hfin : (T q).2.2.2 = false) (hn : narrow (ty q) (.int x) = .int x) (hfit : fits (ty q) (.int x) = true) (hd : decode M.2.1 pc = .ok (.putfield idx, 3)) (k : Ev M fr lo j (pc + 3) lv st (ag_up σ K q x) o) : Ev M fr lo j pc lv (.int x :: .ref K :: st) σ o :=
  fun r hr _ _ _ _ _ _ _ _ _ _ _ ad cs _ _ _ _ C hf _ _ _ hP hS hl => va_put C.1 C.2.1 C.2.2.2.2.1 hC.2.1 ty hC.2.2.1 hC.2.2.2 C.2.2.2.1 C.2.2.2.2.2.1.1 hP (ag_DD _ σ C.2.2.2.2.2.2.1.1 C.2.2.2.2.2.2.1.2) hS K (fs := (List.range N).map (ag_fv ad σ K)) (ag_W_o ad _ σ h77 hk hC) hC.1 q hq (C.2.2.2.2.1 _ hfl) (fun _ hx => hr0 ▸ hx) hfin (hC.2.2.1 q hq) hn hfit (by rw [List.length_map, List.length_range]; exact hq) hd (fun _ _ hP _ hS => (k r hr _ _ _ _ _ _ _ _ _ _ _ _ _ _ _ _ _ C hf _ _ _ (ag_Pe (ag_W_put ad cs σ x h77 hk hC hq ht) hP) hS hl))
theorem ev_iald {K n : Nat} {i : Int32} (hk : ag_kd K = (8, n)) (h77 : K < 77) (hd : decode M.2.1 pc = .ok (.iaload, 1)) (k : Ev M fr lo j (pc + 1) lv (.int (σ K i.toNatClampNeg) :: st) σ o) : Ev M fr lo j pc lv (.int i :: .ref K :: st) σ (if ag_ib i n = true then o else none) :=
  fun r hr _ _ _ _ _ _ _ _ _ _ _ ad cs _ _ _ _ C hf _ _ _ hP hS hl => va_iald C.1 C.2.1 C.2.2.2.2.2.1.1 hP K 0 (ag_W_i ad _ σ h77 hk) rfl (ag_ib_in (ag_gd hr).1) hd (k r (ag_gd hr).2 _ _ _ _ _ _ _ _ _ _ _ _ _ _ _ _ _ C hf _ _ _ hP hS hl)
theorem ev_zald {K n : Nat} {i : Int32} (hk : ag_kd K = (9, n)) (h77 : K < 77) (hd : decode M.2.1 pc = .ok (.baload, 1)) (k : Ev M fr lo j (pc + 1) lv (.int (σ K i.toNatClampNeg) :: st) σ o) : Ev M fr lo j pc lv (.int i :: .ref K :: st) σ (if ag_ib i n = true then o else none) :=
  fun r hr _ _ _ _ _ _ _ _ _ _ _ ad cs _ _ _ _ C hf _ _ _ hP hS hl => va_zald C.1 C.2.1 C.2.2.2.2.2.1.1 hP K 1 (ag_W_z ad _ σ h77 hk) rfl (ag_ib_in (ag_gd hr).1) hd (k r (ag_gd hr).2 _ _ _ _ _ _ _ _ _ _ _ _ _ _ _ _ _ C hf _ _ _ hP hS hl)
theorem ev_aald {K n : Nat} {i : Int32} (hk : ag_kd K = (10, n)) (h77 : K < 77) (hd : decode M.2.1 pc = .ok (.aaload, 1)) (k : ag_ib i n = true → Ev M fr lo j (pc + 1) lv (.ref (45 + 2 * i.toNatClampNeg) :: st) σ o) : Ev M fr lo j pc lv (.int i :: .ref K :: st) σ (if ag_ib i n = true then o else none) :=
  fun r hr _ _ _ _ _ _ _ _ _ _ _ ad cs _ _ _ _ C hf _ _ _ hP hS hl => va_aldq C.1 C.2.1 C.2.2.2.2.2.1.1 hP K 2 (ag_W_r ad _ σ h77 hk) rfl (ag_ib_in (ag_gd hr).1) hd (k (ag_gd hr).1 r (ag_gd hr).2 _ _ _ _ _ _ _ _ _ _ _ _ _ _ _ _ _ C hf _ _ _ hP hS hl)
theorem ev_iast {x : Int32} {K n : Nat} {i : Int32} (hk : ag_kd K = (8, n)) (h77 : K < 77) (hd : decode M.2.1 pc = .ok (.iastore, 1)) (k : Ev M fr lo j (pc + 1) lv st (ag_up σ K i.toNatClampNeg x) o) : Ev M fr lo j pc lv (.int x :: .int i :: .ref K :: st) σ (if ag_ib i n = true then o else none) :=
  fun r hr _ _ _ _ _ _ _ _ _ _ _ ad cs _ _ _ _ C hf _ _ _ hP hS hl => va_iast C.1 C.2.1 C.2.2.2.2.2.1.1 hP (ag_DD _ σ C.2.2.2.2.2.2.1.1 C.2.2.2.2.2.2.1.2) hS K 0 (ag_W_i ad _ σ h77 hk) rfl (ag_ib_in (ag_gd hr).1) hd (fun _ _ hP _ hS => (k r (ag_gd hr).2 _ _ _ _ _ _ _ _ _ _ _ _ _ _ _ _ _ C hf _ _ _ (ag_Pe (ag_W_si ad cs σ _ _ h77 hk) hP) hS hl))
theorem ev_zast {x : Int32} {K n : Nat} {i : Int32} (hk : ag_kd K = (9, n)) (h77 : K < 77) (hd : decode M.2.1 pc = .ok (.bastore, 1)) (k : Ev M fr lo j (pc + 1) lv st (ag_up σ K i.toNatClampNeg (vp_nar .boolean x)) o) : Ev M fr lo j pc lv (.int x :: .int i :: .ref K :: st) σ (if ag_ib i n = true then o else none) :=
  fun r hr _ _ _ _ _ _ _ _ _ _ _ ad cs _ _ _ _ C hf _ _ _ hP hS hl => va_zast C.1 C.2.1 C.2.2.2.2.2.1.1 hP (ag_DD _ σ C.2.2.2.2.2.2.1.1 C.2.2.2.2.2.2.1.2) hS K 1 (ag_W_z ad _ σ h77 hk) rfl (ag_ib_in (ag_gd hr).1) hd (fun _ _ hP _ hS => (k r (ag_gd hr).2 _ _ _ _ _ _ _ _ _ _ _ _ _ _ _ _ _ C hf _ _ _ (ag_Pe (ag_W_sz ad cs σ _ _ h77 hk) hP) hS hl))
theorem ev_alen {K n : Nat} {v : Int32} (hk : ag_kd K = (8, n)) (h77 : K < 77) (hv : Int32.ofNat n = v) (hd : decode M.2.1 pc = .ok (.arraylength, 1)) (k : Ev M fr lo j (pc + 1) lv (.int v :: st) σ o) : Ev M fr lo j pc lv (.ref K :: st) σ o :=
  fun r hr _ _ _ _ _ _ _ _ _ _ _ ad cs _ _ _ _ C hf _ _ _ hP hS hl => va_alen C.1 C.2.1 C.2.2.2.2.2.1.1 hP K 0 (ag_W_i ad _ σ h77 hk) (ty := .int) rfl hv hd (k r hr _ _ _ _ _ _ _ _ _ _ _ _ _ _ _ _ _ C hf _ _ _ hP hS hl)
theorem ev_copy {idx K0 n0 K1 n1 : Nat} {sp dp n : Int32} (hk0 : ag_kd K0 = (8, n0)) (h0 : K0 < 77) (hk1 : ag_kd K1 = (8, n1)) (h1 : K1 < 77) (hl0 : Cond.methodLink M.1 idx arraycopyName ∈ ag_tbl) (hR : 1 ≤ fr ∧ (st.map fun v => v.category).sum + (nativeFrameWords "java/lang/System" "arraycopy" 5 + 11) ≤ lo) (hd : decode M.2.1 pc = .ok (.invokestatic idx, 3)) (k : Ev M fr lo j (pc + 3) lv st (ag_ar σ K1 (va_cpy (σ K0) (σ K1) sp.toNatClampNeg dp.toNatClampNeg n.toNatClampNeg)) o) : Ev M fr lo j pc lv (.int n :: .int dp :: .ref K1 :: .int sp :: .ref K0 :: st) σ (if ag_cpok sp dp n n0 n1 = true then o else none) := by
  intro r hr p l e R s m args below meth c D ad cs A cells slots Q C hf H locs ls hP hS hl
  obtain ⟨hg, hr⟩ := ag_gd hr
  obtain ⟨g1, g2, g3, g4, g5⟩ := ag_cpok_spec hg
  exact va_copyi C.1 C.2.1 (C.2.2.1.trans hl.1.symm) C.2.2.2.1 (C.2.2.2.2.1 _ hl0) (C.2.2.2.2.1 _ ag_nt_arraycopyName) (C.2.2.2.2.1 _ ag_st_arraycopyName) (C.2.2.2.2.1 _ ag_ini_J10) C.2.2.2.2.2.1.1 hP (ag_DD _ σ C.2.2.2.2.2.2.1.1 C.2.2.2.2.2.2.1.2) hS K0 K1 0 0 (ag_W_i ad _ σ h0 hk0) (ag_W_i ad _ σ h1 hk1) rfl rfl rfl g1 g2 g3 g4 g5 (fun _ _ => rfl) (Nat.le_trans hR.1 C.2.2.2.2.2.2.2.1.1) (by rw [List.map_map]; exact Nat.le_trans (by rw [show ((fun v => Value.category v) ∘ ag_cv ad) = (fun v => Value.category v) from funext (ag_cv_cat ad)]; exact hR.2) C.2.2.2.2.2.2.2.1.2) hd (fun _ _ hP _ hS => (k r hr _ _ _ _ _ _ _ _ _ _ _ _ _ _ _ _ _ C hf _ _ _ (ag_Pe (ag_W_sa ad cs σ _ h1 hk1) hP) hS hl))
theorem ev_ret (hj : ∀ r, o = some r → j r = (none, σ)) (hret : M.2.2.2.1 = none) (hd : decode M.2.1 pc = .ok (.return_, 1)) : Ev M fr lo j pc lv [] σ o := by
  intro r hr p l e R s m args below meth c D ad cs A cells slots Q C hf H locs ls hP hS hl
  have h9 := hj r hr
  have h8 := hf H locs pc ls (by rw [h9]; exact hP) hS (by rw [h9]; exact hd) (by rw [h9]; exact hret)
  rw [h9] at h8
  exact h8
theorem ev_iret {x : Int32} {ty : FieldType} (hj : ∀ r, o = some r → j r = (some (.int x), σ)) (hret : M.2.2.2.1 = some ty) (hn : narrow ty (.int x) = .int x) (hd : decode M.2.1 pc = .ok (.ireturn, 1)) : Ev M fr lo j pc lv [.int x] σ o := by
  intro r hr p l e R s m args below meth c D ad cs A cells slots Q C hf H locs ls hP hS hl
  have h9 := hj r hr
  have h8 := hf H locs pc ls (by rw [h9]; exact hP) hS (by rw [h9]; exact hd) (by rw [h9]; exact ⟨ty, hret, hn⟩)
  rw [h9] at h8
  exact h8
theorem ev_lret {x : Int64} (hj : ∀ r, o = some r → j r = (some (.long x), σ)) (hret : M.2.2.2.1 = some .long) (hd : decode M.2.1 pc = .ok (.lreturn, 1)) : Ev M fr lo j pc lv [.long x] σ o := by
  intro r hr p l e R s m args below meth c D ad cs A cells slots Q C hf H locs ls hP hS hl
  have h9 := hj r hr
  have h8 := hf H locs pc ls (by rw [h9]; exact hP) hS (by rw [h9]; exact hd) (by rw [h9]; exact hret)
  rw [h9] at h8
  exact h8
theorem ev_zret {x : Int32} (hj : ∀ r, o = some r → j r = (some (.int x), σ)) (hret : M.2.2.2.1 = some .boolean) (hd : decode M.2.1 pc = .ok (.ireturn, 1)) : Ev M fr lo j pc lv [.int x] σ (if ag_bl x = true then o else none) := by
  intro r hr
  obtain ⟨h1, h2⟩ := ag_gd hr
  exact ev_iret hj hret (of_decide_eq_true h1) hd r h2
theorem ev_slen {Ls : Nat} {xs : Nat → Int32} (hx : M.2.2.2.2 = some (Ls, xs)) (hd : decode M.2.1 pc = .ok (.arraylength, 1)) (k : Ev M fr lo j (pc + 1) lv (.int (Int32.ofNat Ls) :: st) σ o) : Ev M fr lo j pc lv (.ref 77 :: st) σ o := by
  intro r hr p l e R s m args below meth c D ad cs A cells slots Q C hf H locs ls hP hS hl
  have hX := C.2.2.2.2.2.2.2.2.2
  rw [hx] at hX
  exact va_slen C.1 C.2.1 hX.1 hX.2.1 hX.2.2 hS hd (k r hr _ _ _ _ _ _ _ _ _ _ _ _ _ _ _ _ _ C hf _ _ _ hP hS hl)
theorem ev_sld {Ls : Nat} {xs : Nat → Int32} {i : Int32} (hx : M.2.2.2.2 = some (Ls, xs)) (hd : decode M.2.1 pc = .ok (.iaload, 1)) (k : Ev M fr lo j (pc + 1) lv (.int (xs i.toNatClampNeg) :: st) σ o) : Ev M fr lo j pc lv (.int i :: .ref 77 :: st) σ (if ag_ib i Ls = true then o else none) := by
  intro r hr p l e R s m args below meth c D ad cs A cells slots Q C hf H locs ls hP hS hl
  have hX := C.2.2.2.2.2.2.2.2.2
  rw [hx] at hX
  exact va_sld C.1 C.2.1 hX.1 hX.2.1 hX.2.2 hS (ag_ib_in (ag_gd hr).1) hd (k r (ag_gd hr).2 _ _ _ _ _ _ _ _ _ _ _ _ _ _ _ _ _ C hf _ _ _ hP hS hl)
theorem ev_sg {s : Sg} {f : Sg → Option α} (k : ∀ s9 : Sg, Ev M fr lo j pc lv st s9 (f s9)) : Ev M fr lo j pc lv st s (ag_sg s f) := k s
theorem ev_mmax {idx : Nat} {x y : Int32} (hl0 : Cond.methodLink M.1 idx Lib.Math.max.name ∈ ag_tbl) (hR : 1 ≤ fr ∧ (st.map fun v => v.category).sum + 13 ≤ lo) (hd : decode M.2.1 pc = .ok (.invokestatic idx, 3)) (k : Ev M fr lo j (pc + 3) lv (.int (ag_max x y) :: st) σ o) : Ev M fr lo j pc lv (.int y :: .int x :: st) σ o := by
  intro r hr p l e R s m args below meth c D ad cs A cells slots Q C hf H locs ls hP hS hl
  exact va_mmax C.1 C.2.1 (C.2.2.1.trans hl.1.symm) C.2.2.2.1 (C.2.2.2.2.1 _ hl0) (C.2.2.2.2.1 _ ag_st_Math_max) (C.2.2.2.2.1 _ ag_ini_J9) (C.2.2.2.2.1 _ ag_co_Math_max) (Nat.le_trans hR.1 C.2.2.2.2.2.2.2.1.1) (by rw [List.map_map, show ((fun v => Value.category v) ∘ ag_cv ad) = (fun v => Value.category v) from funext (ag_cv_cat ad)]; exact Nat.le_trans hR.2 C.2.2.2.2.2.2.2.1.2) C.2.2.2.2.2.2.2.2.1.1 C.2.2.2.2.2.2.2.2.1.2 hd (k r hr _ _ _ _ _ _ _ _ _ _ _ _ _ _ _ _ _ C hf _ _ _ hP hS hl)
theorem ev_mmin {idx : Nat} {x y : Int32} (hl0 : Cond.methodLink M.1 idx Lib.Math.min.name ∈ ag_tbl) (hR : 1 ≤ fr ∧ (st.map fun v => v.category).sum + 13 ≤ lo) (hd : decode M.2.1 pc = .ok (.invokestatic idx, 3)) (k : Ev M fr lo j (pc + 3) lv (.int (ag_min x y) :: st) σ o) : Ev M fr lo j pc lv (.int y :: .int x :: st) σ o := by
  intro r hr p l e R s m args below meth c D ad cs A cells slots Q C hf H locs ls hP hS hl
  exact va_mmin C.1 C.2.1 (C.2.2.1.trans hl.1.symm) C.2.2.2.1 (C.2.2.2.2.1 _ hl0) (C.2.2.2.2.1 _ ag_st_Math_min) (C.2.2.2.2.1 _ ag_ini_J9) (C.2.2.2.2.1 _ ag_co_Math_min) (Nat.le_trans hR.1 C.2.2.2.2.2.2.2.1.1) (by rw [List.map_map, show ((fun v => Value.category v) ∘ ag_cv ad) = (fun v => Value.category v) from funext (ag_cv_cat ad)]; exact Nat.le_trans hR.2 C.2.2.2.2.2.2.2.1.2) C.2.2.2.2.2.2.2.2.1.1 C.2.2.2.2.2.2.2.2.1.2 hd (k r hr _ _ _ _ _ _ _ _ _ _ _ _ _ _ _ _ _ C hf _ _ _ hP hS hl)
end RULES
/-! a method's contract, and calls by it -/
def ag_A (ad : Nat → Nat) : Nat → Prop := fun q => ∃ k, k < 77 ∧ q = ad k
def ag_Pc (D : va_G) (ad : Nat → Nat) (cs : Cs) (as : List Value) (σ : Sg) : Array Value → State → Prop := fun v U => v = (as.map (ag_cv ad)).toArray ∧ va_P D ag_cl (ag_W ad cs σ) U.heap ∧ ag_K D cs U ∧ ag_inj ad
def ag_Qc (D : va_G) (ad : Nat → Nat) (cs : Cs) (rv : Option Value × Sg) : Array Value → State → Outcome → State → Prop := fun _ st oc t => oc = .returned (rv.1.map (ag_cv ad)) ∧ va_P D ag_cl (ag_W ad cs rv.2) t.heap ∧ va_F (ag_A ad) st t
def Im (y : MethodName) (M : Md) (fr lo : Nat) {α : Type} (j : α → Option Value × Sg) (as : List Value) (σ : Sg) (o : Option α) : Prop :=
  ∀ (r : α), o = some r → ∀ (l : Launch) (D : va_G) (ad : Nat → Nat) (cs : Cs), Met l y (ag_ws y M.2.1 M.2.2.1 M.2.2.2.1) ({ frames := fr, cells := 0, slots := 0, locals := lo }) (ag_Pc D ad cs as σ) (ag_Qc D ad cs (j r)) 0 0 (ag_A ad)
theorem ag_end {M : Md} {p : Program} {l : Launch} {e : Env} {R : Room} {s : State} {m : MethodId} {args : Array Value} {below : List Frame} {meth : Method} {c : Code} {D : va_G} {ad : Nat → Nat} {cs : Cs} (hx : p.tables.exec = Jvm.exec) (hb : c.code = M.2.1) (hr : meth.sig.returnType = M.2.2.2.1) (hlocks : meth.locks = false) (rv : Option Value × Sg) :
    ag_Fin M p l e R s m args below meth c D ad cs (ag_A ad) 0 0 (MQ below (ag_Qc D ad cs rv) args s 0 0 (ag_A ad)) rv := by
  intro H locs pc ls hP hS hd hn
  obtain ⟨v, σ'⟩ := rv
  cases v with
  | none => exact W.vret hx hb (hr.trans hn) (fun t ht hW => ⟨rfl, by rw [ht]; exact hP, hS.F ht⟩) hS.2.2 hd hlocks
  | some v =>
    cases v with
    | int x =>
      obtain ⟨ty, h1, h2⟩ := hn
      exact W.zret hx hb (hr.trans h1) h2 (fun t ht hW => ⟨rfl, by rw [ht]; exact hP, hS.F ht⟩) hS.2.2 hd hlocks
    | long x => exact W.lret hx hb (hr.trans hn) (fun t ht hW => ⟨rfl, by rw [ht]; exact hP, hS.F ht⟩) hS.2.2 hd hlocks
    | _ => exact absurd hn id
theorem Im.of {y : MethodName} {M : Md} {fr lo : Nat} {α : Type} {j : α → Option Value × Sg} {as : List Value} {σ : Sg} {o : Option α} (hy : plainName y.cls = true) (hc : y.cls = M.1) (hx : M.2.2.2.2 = none) (hn : (lg_sl as).length ≤ M.2.2.1) (h : Ev M fr lo j 0 (lv_args 0 as) [] σ o) : Im y M fr lo j as σ o := by
  intro r hr l D ad cs
  refine Met.ofW (cc := M.2.1) (maxL := M.2.2.1) (ret := M.2.2.2.1) hy rfl ?_
  intro p e s m args below meth c s₁ B hml hv
  obtain ⟨rfl, hP, hK, hinj⟩ := hv
  have hts := atoms_spec (ws := ag_ws y M.2.1 M.2.2.1 M.2.2.2.1) B.pre
  have hown : s.vm.findClass M.1 = some m.cls := hc ▸ findClass_of_methodNamed B.named
  have hl := lv_entry (as.map (ag_cv ad)) (n := M.2.2.1) (by rw [ag_sl_len]; exact hn)
  rw [ag_lv_args] at hl
  rw [lg_entry_eq]
  exact h r hr p l e _ s m _ below meth c D ad cs (ag_A ad) 0 0 _ ⟨B.exec, B.bytes, hml, hown, fun w hw => hts w (List.mem_cons_of_mem _ hw), hK, ⟨hinj, fun k hk => ⟨k, hk, rfl⟩⟩, ⟨Nat.le_refl _, Nat.le_refl _⟩, ⟨Nat.zero_le _, Nat.zero_le _⟩, by rw [hx]; exact trivial⟩ (ag_end B.exec B.bytes B.returns B.notSynchronized (j r)) s.heap [] _ hP va_S.rf hl
section CALLS
variable {p : Program} {l : Launch} {e : Env} {R : Room} {s : State} {m : MethodId} {args : Array Value} {below : List Frame} {meth : Method} {c : Code} {H : Heap} {locs : List Loc} {cells slots : Nat} {Q : State → Prop}
theorem ag_call {D : va_G} {ad : Nat → Nat} {cs : Cs} {A : Nat → Prop} {pc : Nat} {ls : Array Slot} {st0 rest : List Value} {a : Array Value} {rv : Option Value × Sg} (hr : va_Run p l e R s m args below meth c H locs cells slots 0 0 (F0 m pc ls st0) rest (ag_Qc D ad cs rv a) (ag_A ad)) (hS : va_S A s.heap H locs) (hA : ∀ k, k < 77 → A (ad k))
    (kk : ∀ (H1 : Heap) (locs1 : List Loc), va_P D ag_cl (ag_W ad cs rv.2) H1 → va_S A s.heap H1 locs1 → W p l e R s m args below meth c H1 locs1 cells slots Q (F0 m (pc + 3) ls ((rv.1.map (ag_cv ad)).toList ++ rest))) : W p l e R s m args below meth c H locs cells slots Q (F0 m pc ls st0) := by
  intro T hT X
  obtain ⟨v, st₀, t, T', L, h0, X', hL, e1, e2, ⟨hv, hPt, hz, hk⟩, st⟩ := hr T hT X
  have hv' : v = rv.1.map (ag_cv ad) := Outcome.returned.inj hv
  subst hv'
  rw [h0] at hz hk
  obtain ⟨t2, a1, b1⟩ := kk T'.heap (locs ++ L) (by rw [e1]; exact hPt) ⟨Nat.le_trans hS.1 (by rw [e1]; exact hz), fun q h1 h2 => by
      rw [e1, hk q (Nat.lt_of_lt_of_le h1 hS.1) (fun z => h2 (by obtain ⟨k, hk1, rfl⟩ := z; exact hA k hk1))]
      exact hS.2.1 q h1 h2, fun q hq => (List.mem_append.mp hq).elim (hS.2.2 q) (fun h => by
      obtain ⟨k, hk1, hk2⟩ := hL q h
      rw [hk2]
      exact hA k hk1)⟩ T' rfl X'
  exact ⟨t2, st t2 a1, b1⟩
theorem ag_blind {D : va_G} {ad : Nat → Nat} {cs : Cs} {as : List Value} {σ : Sg} : FrameBlind (ag_Pc D ad cs as σ) := by
  intro a U g mk q
  obtain ⟨q0, qP, qK, qi⟩ := q
  exact ⟨q0, qP, ag_K.same (s := U) (U := U.calling g mk a) rfl qK, qi⟩
end CALLS
theorem ag_gws {ws : List Cond} (h : ∀ w ∈ ws, w ∈ ag_tbl) : GoodIn ag_tbl ws := fun w hw => ⟨h w hw, good_of_word (ag_good (h w hw))⟩
theorem ag_ws_in {y : MethodName} {cc : ByteArray} {nL : Nat} {ret : Option FieldType} (h : Cond.code y cc nL ret ∈ ag_tbl) : ∀ w ∈ ag_ws y cc nL ret, w ∈ ag_tbl := by
  intro w hw
  rcases List.mem_cons.mp hw with rfl | hw
  · exact h
  · exact hw
/-- what a virtual call needs of the callee -/
def ag_Mv (y : MethodName) (M : Md) (n : Nat) : Prop := Cond.code y M.2.1 M.2.2.1 M.2.2.2.1 ∈ ag_tbl ∧ Cond.instanceMethod y ∈ ag_tbl ∧ Cond.selects M.1 y y ∈ ag_tbl ∧ Cond.initialized M.1 ∈ ag_tbl ∧ (y.cls = M.1 ∧ y.cls ≠ "java/lang/invoke/MethodHandle" ∧ y.cls ≠ "java/lang/invoke/VarHandle" ∧ (parseMethodDescriptor y.desc).map (fun d => d.parameters.length) = some n)
def ag_Ms (y : MethodName) (M : Md) (n : Nat) : Prop := Cond.code y M.2.1 M.2.2.1 M.2.2.2.1 ∈ ag_tbl ∧ Cond.static y ∈ ag_tbl ∧ Cond.initialized y.cls ∈ ag_tbl ∧ (y.cls ≠ "java/lang/invoke/MethodHandle" ∧ y.cls ≠ "java/lang/invoke/VarHandle" ∧ (parseMethodDescriptor y.desc).map (fun d => d.parameters.length) = some n)
def ag_CV (M : Md) (fr lo pc : Nat) (st : List Value) (y : MethodName) (M' : Md) (fr' lo' b : Nat) (as rest : List Value) : Prop :=
  ∃ (ci idx N : Nat) (T : u_T) (ty : Nat → FieldType), ag_Cf ci M'.1 T N ty ∧ (ag_kd b = (ci, N) ∧ b < 77) ∧ ag_Mv y M' as.length ∧ Cond.methodLink M.1 idx y ∈ ag_tbl ∧ st = as.reverse ++ .ref b :: rest ∧ (rest.map fun v => v.category).sum ≤ 8 ∧ (fr' + 1 ≤ fr ∧ 8 + (M'.2.2.1 + 11) + lo' ≤ lo) ∧ decode M.2.1 pc = .ok (.invokevirtual idx, 3)
def ag_CS (M : Md) (fr lo pc : Nat) (st : List Value) (y : MethodName) (M' : Md) (fr' lo' : Nat) (as rest : List Value) : Prop :=
  ∃ idx : Nat, ag_Ms y M' as.length ∧ Cond.methodLink M.1 idx y ∈ ag_tbl ∧ st = as.reverse ++ rest ∧ (rest.map fun v => v.category).sum ≤ 8 ∧ (fr' + 1 ≤ fr ∧ 8 + (M'.2.2.1 + 11) + lo' ≤ lo) ∧ decode M.2.1 pc = .ok (.invokestatic idx, 3)
theorem ag_catm (ad : Nat → Nat) (st : List Value) : ((st.map (ag_cv ad)).map fun v => v.category) = st.map fun v => v.category := by
  rw [List.map_map]
  congr 1
  funext v
  exact ag_cv_cat ad v
section CALLS2
variable {M : Md} {fr lo : Nat} {α β : Type} {j : α → Option Value × Sg} {pc : Nat} {lv : List (Nat × Value)} {st : List Value} {σ : Sg} {y : MethodName} {M' : Md} {fr' lo' : Nat} {as rest : List Value} {o' : Option β} {oc : β → Option α}
theorem ev_callV {b : Nat} {j' : β → Option Value × Sg} (hc : ag_CV M fr lo pc st y M' fr' lo' b as rest) (hM : Im y M' fr' lo' j' (.ref b :: as) σ o') (k : ∀ r', o' = some r' → Ev M fr lo j (pc + 3) lv ((j' r').1.toList ++ rest) (j' r').2 (oc r')) : Ev M fr lo j pc lv st σ (o'.bind oc) := by
  intro r hr p l e R s m args below meth c D ad cs A cells slots Q C hf H locs ls hP hS hl
  obtain ⟨ci, idx, N, T, ty, hC, ⟨hk, h77⟩, ⟨hco, him, hse, hini, hds⟩, hml, hst, hw, hR, hd⟩ := hc
  obtain ⟨r', h1, h2⟩ := Option.bind_eq_some_iff.mp hr
  have hts := C.2.2.2.2.1
  have hG : GoodIn ag_tbl (wsV M.1 idx M'.1 y (ag_ws y M'.2.1 M'.2.2.1 M'.2.2.2.1)) := ag_gws (fun w hw => by
    rcases List.mem_append.mp hw with hw | hw
    · simp only [List.mem_cons, List.not_mem_nil, or_false] at hw
      rcases hw with rfl | rfl | rfl | rfl <;> assumption
    · exact ag_ws_in hco w hw)
  subst hst
  refine ag_call (rv := j' r') (rest := rest.map (ag_cv ad)) (va_runV (As := as.map (ag_cv ad)) (b := ad b) ⟨C.1, C.2.1, C.2.2.1, C.2.2.2.1, hts⟩ (hM r' h1 l D ad cs) (cwV (C := M'.1) as.length hts hG rfl rfl rfl hds ⟨Nat.le_trans hR.1 C.2.2.2.2.2.2.2.1.1, Nat.le_trans hR.2 C.2.2.2.2.2.2.2.1.2⟩)
    ⟨ag_blind, va_recv C.2.2.2.2.2.1.1 hP hC.1 (ag_W_o ad cs σ h77 hk hC), fun U hU hW => ⟨rfl, by rw [hU]; exact hP, C.2.2.2.2.2.1.warm hW, C.2.2.2.2.2.2.1.1⟩⟩ rfl (by rw [List.length_map]) hl.1 (by simp only [List.map_append, List.map_reverse, List.map_cons]; rfl) (lv_room (by rw [ag_catm]; exact hw)) hd C.2.2.2.2.2.2.2.2.1) hS C.2.2.2.2.2.2.1.2 (fun H1 locs1 hP1 hS1 => ?_)
  have h9 := k r' h1 r h2 _ _ _ _ _ _ _ _ _ _ _ _ _ _ _ _ _ C hf H1 locs1 ls hP1 hS1 hl
  have e9 : ((j' r').1.map (ag_cv ad)).toList ++ rest.map (ag_cv ad) = ((j' r').1.toList ++ rest).map (ag_cv ad) := by
    rw [List.map_append]
    cases (j' r').1 <;> rfl
  rw [e9]
  exact h9
theorem ev_callS {j' : β → Option Value × Sg} (hc : ag_CS M fr lo pc st y M' fr' lo' as rest) (hM : Im y M' fr' lo' j' as σ o') (k : ∀ r', o' = some r' → Ev M fr lo j (pc + 3) lv ((j' r').1.toList ++ rest) (j' r').2 (oc r')) : Ev M fr lo j pc lv st σ (o'.bind oc) := by
  intro r hr p l e R s m args below meth c D ad cs A cells slots Q C hf H locs ls hP hS hl
  obtain ⟨idx, ⟨hco, hsta, hini, hds⟩, hml, hst, hw, hR, hd⟩ := hc
  obtain ⟨r', h1, h2⟩ := Option.bind_eq_some_iff.mp hr
  have hts := C.2.2.2.2.1
  subst hst
  refine ag_call (rv := j' r') (rest := rest.map (ag_cv ad)) (va_runS (As := as.map (ag_cv ad)) ⟨C.1, C.2.1, C.2.2.1, C.2.2.2.1, hts⟩ (hM r' h1 l D ad cs) ⟨callB_of as.length hts (ag_gws (ag_ws_in hco)) rfl rfl rfl (hts _ hini) (hts _ hml) hds ⟨Nat.le_trans hR.1 C.2.2.2.2.2.2.2.1.1, Nat.le_trans hR.2 C.2.2.2.2.2.2.2.1.2⟩, hts _ hsta⟩
    ⟨ag_blind, fun U hU hW => ⟨rfl, by rw [hU]; exact hP, C.2.2.2.2.2.1.warm hW, C.2.2.2.2.2.2.1.1⟩⟩ rfl (by rw [List.length_map]) hl.1 (by simp only [List.map_append, List.map_reverse]) (lv_room (by rw [ag_catm]; exact hw)) hd C.2.2.2.2.2.2.2.2.1) hS C.2.2.2.2.2.2.1.2 (fun H1 locs1 hP1 hS1 => ?_)
  have h9 := k r' h1 r h2 _ _ _ _ _ _ _ _ _ _ _ _ _ _ _ _ _ C hf H1 locs1 ls hP1 hS1 hl
  have e9 : ((j' r').1.map (ag_cv ad)).toList ++ rest.map (ag_cv ad) = ((j' r').1.toList ++ rest).map (ag_cv ad) := by
    rw [List.map_append]
    cases (j' r').1 <;> rfl
  rw [e9]
  exact h9
/-- the one call of a nest mate's private method: a row asks isBelow -/
theorem ev_callN {j' : β → Option Value × Sg} (hown : M.1 = RX3) (hMs : ag_Ms yX6_isBelow M' as.length) (hst : st = as.reverse ++ rest) (hw : (rest.map fun v => v.category).sum ≤ 8) (hR : fr' + 1 ≤ fr ∧ 8 + (M'.2.2.1 + 11) + lo' ≤ lo) (hd : decode M.2.1 pc = .ok (.invokestatic 32, 3)) (hM : Im yX6_isBelow M' fr' lo' j' as σ o') (k : ∀ r', o' = some r' → Ev M fr lo j (pc + 3) lv ((j' r').1.toList ++ rest) (j' r').2 (oc r')) : Ev M fr lo j pc lv st σ (o'.bind oc) := by
  intro r hr p l e R s m args below meth c D ad cs A cells slots Q C hf H locs ls hP hS hl
  obtain ⟨hco, hsta, hini, hds⟩ := hMs
  obtain ⟨r', h1, h2⟩ := Option.bind_eq_some_iff.mp hr
  have hts := C.2.2.2.2.1
  have hnw : va_Nw (Cond.methodLinkNest M.1 32 yX6_isBelow RX6) s := by rw [hown]; exact C.2.2.2.2.2.1.2
  subst hst
  refine ag_call (rv := j' r') (rest := rest.map (ag_cv ad)) (va_runSN (As := as.map (ag_cv ad)) ⟨C.1, C.2.1, C.2.2.1, C.2.2.2.1, hts⟩ (hM r' h1 l D ad cs) ⟨va_cnB as.length hts (ag_gws (ag_ws_in hco)) rfl rfl rfl hnw (hts _ hini) hds ⟨Nat.le_trans hR.1 C.2.2.2.2.2.2.2.1.1, Nat.le_trans hR.2 C.2.2.2.2.2.2.2.1.2⟩, hts _ hsta, trivial⟩
    ⟨ag_blind, fun U hU hW => ⟨rfl, by rw [hU]; exact hP, C.2.2.2.2.2.1.warm hW, C.2.2.2.2.2.2.1.1⟩⟩ rfl (by rw [List.length_map]) hl.1 (by simp only [List.map_append, List.map_reverse]) (lv_room (by rw [ag_catm]; exact hw)) hd C.2.2.2.2.2.2.2.2.1) hS C.2.2.2.2.2.2.1.2 (fun H1 locs1 hP1 hS1 => ?_)
  have h9 := k r' h1 r h2 _ _ _ _ _ _ _ _ _ _ _ _ _ _ _ _ _ C hf H1 locs1 ls hP1 hS1 hl
  have e9 : ((j' r').1.map (ag_cv ad)).toList ++ rest.map (ag_cv ad) = ((j' r').1.toList ++ rest).map (ag_cv ad) := by
    rw [List.map_append]
    cases (j' r').1 <;> rfl
  rw [e9]
  exact h9
end CALLS2
/-! answers: an int, an int and a world, a world, a long, a long and a world -/
def jI (σ : Sg) (r : Int32) : Option Value × Sg := (some (.int r), σ)
def jW (r : Int32 × Sg) : Option Value × Sg := (some (.int r.1), r.2)
def jV (r : Sg) : Option Value × Sg := (none, r)
def jL (σ : Sg) (r : Int64) : Option Value × Sg := (some (.long r), σ)
def jM (r : Int64 × Sg) : Option Value × Sg := (some (.long r.1), r.2)
section CALLS3
variable {M : Md} {fr lo : Nat} {α : Type} {j : α → Option Value × Sg} {pc : Nat} {lv : List (Nat × Value)} {st : List Value} {σ : Sg} {y : MethodName} {M' : Md} {fr' lo' b : Nat} {as rest : List Value}
theorem ev_vI {o' : Option Int32} {oc : Int32 → Option α} (hc : ag_CV M fr lo pc st y M' fr' lo' b as rest) (hM : Im y M' fr' lo' (jI σ) (.ref b :: as) σ o') (k : ∀ r : Int32, Ev M fr lo j (pc + 3) lv (.int r :: rest) σ (oc r)) : Ev M fr lo j pc lv st σ (o'.bind oc) := ev_callV hc hM (fun r _ => k r)
theorem ev_vW {o' : Option (Int32 × Sg)} {oc : Int32 × Sg → Option α} (hc : ag_CV M fr lo pc st y M' fr' lo' b as rest) (hM : Im y M' fr' lo' jW (.ref b :: as) σ o') (k : ∀ r : Int32 × Sg, Ev M fr lo j (pc + 3) lv (.int r.1 :: rest) r.2 (oc r)) : Ev M fr lo j pc lv st σ (o'.bind oc) := ev_callV hc hM (fun r _ => k r)
theorem ev_vV {o' : Option Sg} {oc : Sg → Option α} (hc : ag_CV M fr lo pc st y M' fr' lo' b as rest) (hM : Im y M' fr' lo' jV (.ref b :: as) σ o') (k : ∀ r : Sg, Ev M fr lo j (pc + 3) lv rest r (oc r)) : Ev M fr lo j pc lv st σ (o'.bind oc) := ev_callV hc hM (fun r _ => k r)
theorem ev_vL {o' : Option Int64} {oc : Int64 → Option α} (hc : ag_CV M fr lo pc st y M' fr' lo' b as rest) (hM : Im y M' fr' lo' (jL σ) (.ref b :: as) σ o') (k : ∀ r : Int64, Ev M fr lo j (pc + 3) lv (.long r :: rest) σ (oc r)) : Ev M fr lo j pc lv st σ (o'.bind oc) := ev_callV hc hM (fun r _ => k r)
theorem ev_vM {o' : Option (Int64 × Sg)} {oc : Int64 × Sg → Option α} (hc : ag_CV M fr lo pc st y M' fr' lo' b as rest) (hM : Im y M' fr' lo' jM (.ref b :: as) σ o') (k : ∀ r : Int64 × Sg, Ev M fr lo j (pc + 3) lv (.long r.1 :: rest) r.2 (oc r)) : Ev M fr lo j pc lv st σ (o'.bind oc) := ev_callV hc hM (fun r _ => k r)
theorem ev_sI {o' : Option Int32} {oc : Int32 → Option α} (hc : ag_CS M fr lo pc st y M' fr' lo' as rest) (hM : Im y M' fr' lo' (jI σ) as σ o') (k : ∀ r : Int32, Ev M fr lo j (pc + 3) lv (.int r :: rest) σ (oc r)) : Ev M fr lo j pc lv st σ (o'.bind oc) := ev_callS hc hM (fun r _ => k r)
theorem ev_sV {o' : Option Sg} {oc : Sg → Option α} (hc : ag_CS M fr lo pc st y M' fr' lo' as rest) (hM : Im y M' fr' lo' jV as σ o') (k : ∀ r : Sg, Ev M fr lo j (pc + 3) lv rest r (oc r)) : Ev M fr lo j pc lv st σ (o'.bind oc) := ev_callS hc hM (fun r _ => k r)
theorem ev_sL {o' : Option Int64} {oc : Int64 → Option α} (hc : ag_CS M fr lo pc st y M' fr' lo' as rest) (hM : Im y M' fr' lo' (jL σ) as σ o') (k : ∀ r : Int64, Ev M fr lo j (pc + 3) lv (.long r :: rest) σ (oc r)) : Ev M fr lo j pc lv st σ (o'.bind oc) := ev_callS hc hM (fun r _ => k r)
theorem ev_nI {o' : Option Int32} {oc : Int32 → Option α} (hown : M.1 = RX3) (hMs : ag_Ms yX6_isBelow M' as.length) (hst : st = as.reverse ++ rest) (hw : (rest.map fun v => v.category).sum ≤ 8) (hR : fr' + 1 ≤ fr ∧ 8 + (M'.2.2.1 + 11) + lo' ≤ lo) (hd : decode M.2.1 pc = .ok (.invokestatic 32, 3)) (hM : Im yX6_isBelow M' fr' lo' (jI σ) as σ o') (k : ∀ r : Int32, Ev M fr lo j (pc + 3) lv (.int r :: rest) σ (oc r)) : Ev M fr lo j pc lv st σ (o'.bind oc) := ev_callN hown hMs hst hw hR hd hM (fun r _ => k r)
theorem ev_irI {x : Int32} (hret : M.2.2.2.1 = some .int) (hd : decode M.2.1 pc = .ok (.ireturn, 1)) : Ev M fr lo (jI σ) pc lv [.int x] σ (some x) := ev_iret (fun r h => by cases h; rfl) hret (vp_nar_int x) hd
theorem ev_irW {x : Int32} (hret : M.2.2.2.1 = some .int) (hd : decode M.2.1 pc = .ok (.ireturn, 1)) : Ev M fr lo jW pc lv [.int x] σ (some (x, σ)) := ev_iret (fun r h => by cases h; rfl) hret (vp_nar_int x) hd
theorem ev_brI {x : Int32} (hret : M.2.2.2.1 = some .boolean) (hn : narrow .boolean (.int x) = .int x) (hd : decode M.2.1 pc = .ok (.ireturn, 1)) : Ev M fr lo (jI σ) pc lv [.int x] σ (some x) := ev_iret (fun r h => by cases h; rfl) hret hn hd
theorem ev_brW {x : Int32} (hret : M.2.2.2.1 = some .boolean) (hn : narrow .boolean (.int x) = .int x) (hd : decode M.2.1 pc = .ok (.ireturn, 1)) : Ev M fr lo jW pc lv [.int x] σ (some (x, σ)) := ev_iret (fun r h => by cases h; rfl) hret hn hd
theorem ev_zrI {x : Int32} (hret : M.2.2.2.1 = some .boolean) (hd : decode M.2.1 pc = .ok (.ireturn, 1)) : Ev M fr lo (jI σ) pc lv [.int x] σ (if ag_bl x = true then some x else none) := ev_zret (fun r h => by cases h; rfl) hret hd
theorem ev_zrW {x : Int32} (hret : M.2.2.2.1 = some .boolean) (hd : decode M.2.1 pc = .ok (.ireturn, 1)) : Ev M fr lo jW pc lv [.int x] σ (if ag_bl x = true then some (x, σ) else none) := ev_zret (fun r h => by cases h; rfl) hret hd
theorem ev_rV (hret : M.2.2.2.1 = none) (hd : decode M.2.1 pc = .ok (.return_, 1)) : Ev M fr lo jV pc lv [] σ (some σ) := ev_ret (fun r h => by cases h; rfl) hret hd
theorem ev_lrL {x : Int64} (hret : M.2.2.2.1 = some .long) (hd : decode M.2.1 pc = .ok (.lreturn, 1)) : Ev M fr lo (jL σ) pc lv [.long x] σ (some x) := ev_lret (fun r h => by cases h; rfl) hret hd
theorem ev_lrM {x : Int64} (hret : M.2.2.2.1 = some .long) (hd : decode M.2.1 pc = .ok (.lreturn, 1)) : Ev M fr lo jM pc lv [.long x] σ (some (x, σ)) := ev_lret (fun r h => by cases h; rfl) hret hd
end CALLS3
/-! the cells of the two Years, the Folks, the Posts, the Rows -/
def ag_Y (b : Nat) : Prop := b = 3 ∨ b = 21
def ag_F (b : Nat) : Prop := b = 4 ∨ b = 22
def ag_P (b : Nat) : Prop := b = 10 ∨ b = 28
def ag_R (b : Nat) : Prop := b = 45 ∨ b = 47 ∨ b = 49 ∨ b = 51
theorem ag_YF {b : Nat} (h : ag_Y b) : ag_F (b + 1) := h.elim (fun e => Or.inl (by rw [e])) (fun e => Or.inr (by rw [e]))
theorem ag_YP {b : Nat} (h : ag_Y b) : ag_P (b + 7) := h.elim (fun e => Or.inl (by rw [e])) (fun e => Or.inr (by rw [e]))
theorem ag_RR {i : Int32} (h : ag_ib i 4 = true) : ag_R (45 + 2 * i.toNatClampNeg) := by
  have h1 : i.toNatClampNeg < 4 := Nat.not_le.mp fun q => ag_ib_in h (Or.inr q)
  unfold ag_R
  omega
theorem ag_Yk {b : Nat} (h : ag_Y b) : ag_kd b = (5, 10) ∧ b < 77 := by rcases h with rfl | rfl <;> exact ⟨rfl, by decide⟩
theorem ag_Fk {b : Nat} (h : ag_F b) : ag_kd b = (1, 6) ∧ b < 77 := by rcases h with rfl | rfl <;> exact ⟨rfl, by decide⟩
theorem ag_Pk {b : Nat} (h : ag_P b) : ag_kd b = (2, 6) ∧ b < 77 := by rcases h with rfl | rfl <;> exact ⟨rfl, by decide⟩
theorem ag_Rk {b : Nat} (h : ag_R b) : ag_kd b = (3, 4) ∧ b < 77 := by rcases h with rfl | rfl | rfl | rfl <;> exact ⟨rfl, by decide⟩
theorem ag_Yt0 {b : Nat} (h : ag_Y b) : ag_tg b 0 = some (b + 1) := by rcases h with rfl | rfl <;> rfl
theorem ag_Yt1 {b : Nat} (h : ag_Y b) : ag_tg b 1 = some (b + 7) := by rcases h with rfl | rfl <;> rfl
theorem ag_Yt2 {b : Nat} (h : ag_Y b) : ag_tg b 2 = none := by rcases h with rfl | rfl <;> rfl
theorem ag_Yt3 {b : Nat} (h : ag_Y b) : ag_tg b 3 = none := by rcases h with rfl | rfl <;> rfl
theorem ag_Yt4 {b : Nat} (h : ag_Y b) : ag_tg b 4 = none := by rcases h with rfl | rfl <;> rfl
theorem ag_Yt5 {b : Nat} (h : ag_Y b) : ag_tg b 5 = some (b + 13) := by rcases h with rfl | rfl <;> rfl
theorem ag_Yt6 {b : Nat} (h : ag_Y b) : ag_tg b 6 = some (b + 14) := by rcases h with rfl | rfl <;> rfl
theorem ag_Yt7 {b : Nat} (h : ag_Y b) : ag_tg b 7 = some (b + 15) := by rcases h with rfl | rfl <;> rfl
theorem ag_Yt8 {b : Nat} (h : ag_Y b) : ag_tg b 8 = some (b + 16) := by rcases h with rfl | rfl <;> rfl
theorem ag_Yt9 {b : Nat} (h : ag_Y b) : ag_tg b 9 = some (b + 17) := by rcases h with rfl | rfl <;> rfl
theorem ag_Ya13 {b : Nat} (h : ag_Y b) : ag_kd (b + 13) = (8, 13) ∧ b + 13 < 77 := by rcases h with rfl | rfl <;> exact ⟨rfl, by decide⟩
theorem ag_Ya14 {b : Nat} (h : ag_Y b) : ag_kd (b + 14) = (8, 13) ∧ b + 14 < 77 := by rcases h with rfl | rfl <;> exact ⟨rfl, by decide⟩
theorem ag_Ya15 {b : Nat} (h : ag_Y b) : ag_kd (b + 15) = (8, 10) ∧ b + 15 < 77 := by rcases h with rfl | rfl <;> exact ⟨rfl, by decide⟩
theorem ag_Ya16 {b : Nat} (h : ag_Y b) : ag_kd (b + 16) = (8, 80) ∧ b + 16 < 77 := by rcases h with rfl | rfl <;> exact ⟨rfl, by decide⟩
theorem ag_Ya17 {b : Nat} (h : ag_Y b) : ag_kd (b + 17) = (8, 10) ∧ b + 17 < 77 := by rcases h with rfl | rfl <;> exact ⟨rfl, by decide⟩
theorem ag_Ft0 {b : Nat} (h : ag_F b) : ag_tg b 0 = none := by rcases h with rfl | rfl <;> rfl
theorem ag_Ft1 {b : Nat} (h : ag_F b) : ag_tg b 1 = some (b + 1) := by rcases h with rfl | rfl <;> rfl
theorem ag_Ft2 {b : Nat} (h : ag_F b) : ag_tg b 2 = some (b + 2) := by rcases h with rfl | rfl <;> rfl
theorem ag_Ft3 {b : Nat} (h : ag_F b) : ag_tg b 3 = some (b + 3) := by rcases h with rfl | rfl <;> rfl
theorem ag_Ft4 {b : Nat} (h : ag_F b) : ag_tg b 4 = some (b + 4) := by rcases h with rfl | rfl <;> rfl
theorem ag_Ft5 {b : Nat} (h : ag_F b) : ag_tg b 5 = some (b + 5) := by rcases h with rfl | rfl <;> rfl
theorem ag_Fa1 {b : Nat} (h : ag_F b) : ag_kd (b + 1) = (8, 10) ∧ b + 1 < 77 := by rcases h with rfl | rfl <;> exact ⟨rfl, by decide⟩
theorem ag_Fa2 {b : Nat} (h : ag_F b) : ag_kd (b + 2) = (8, 10) ∧ b + 2 < 77 := by rcases h with rfl | rfl <;> exact ⟨rfl, by decide⟩
theorem ag_Fa3 {b : Nat} (h : ag_F b) : ag_kd (b + 3) = (8, 10) ∧ b + 3 < 77 := by rcases h with rfl | rfl <;> exact ⟨rfl, by decide⟩
theorem ag_Fa4 {b : Nat} (h : ag_F b) : ag_kd (b + 4) = (8, 10) ∧ b + 4 < 77 := by rcases h with rfl | rfl <;> exact ⟨rfl, by decide⟩
theorem ag_Fa5 {b : Nat} (h : ag_F b) : ag_kd (b + 5) = (8, 10) ∧ b + 5 < 77 := by rcases h with rfl | rfl <;> exact ⟨rfl, by decide⟩
theorem ag_Pt0 {b : Nat} (h : ag_P b) : ag_tg b 0 = none := by rcases h with rfl | rfl <;> rfl
theorem ag_Pt1 {b : Nat} (h : ag_P b) : ag_tg b 1 = some (b + 1) := by rcases h with rfl | rfl <;> rfl
theorem ag_Pt2 {b : Nat} (h : ag_P b) : ag_tg b 2 = some (b + 2) := by rcases h with rfl | rfl <;> rfl
theorem ag_Pt3 {b : Nat} (h : ag_P b) : ag_tg b 3 = some (b + 3) := by rcases h with rfl | rfl <;> rfl
theorem ag_Pt4 {b : Nat} (h : ag_P b) : ag_tg b 4 = some (b + 4) := by rcases h with rfl | rfl <;> rfl
theorem ag_Pt5 {b : Nat} (h : ag_P b) : ag_tg b 5 = some (b + 5) := by rcases h with rfl | rfl <;> rfl
theorem ag_Pa1 {b : Nat} (h : ag_P b) : ag_kd (b + 1) = (8, 13) ∧ b + 1 < 77 := by rcases h with rfl | rfl <;> exact ⟨rfl, by decide⟩
theorem ag_Pa2 {b : Nat} (h : ag_P b) : ag_kd (b + 2) = (8, 13) ∧ b + 2 < 77 := by rcases h with rfl | rfl <;> exact ⟨rfl, by decide⟩
theorem ag_Pa3 {b : Nat} (h : ag_P b) : ag_kd (b + 3) = (8, 13) ∧ b + 3 < 77 := by rcases h with rfl | rfl <;> exact ⟨rfl, by decide⟩
theorem ag_Pa4 {b : Nat} (h : ag_P b) : ag_kd (b + 4) = (8, 13) ∧ b + 4 < 77 := by rcases h with rfl | rfl <;> exact ⟨rfl, by decide⟩
theorem ag_Pa5 {b : Nat} (h : ag_P b) : ag_kd (b + 5) = (8, 13) ∧ b + 5 < 77 := by rcases h with rfl | rfl <;> exact ⟨rfl, by decide⟩
theorem ag_Rt0 {b : Nat} (h : ag_R b) : ag_tg b 0 = none := by rcases h with rfl | rfl | rfl | rfl <;> rfl
theorem ag_Rt1 {b : Nat} (h : ag_R b) : ag_tg b 1 = none := by rcases h with rfl | rfl | rfl | rfl <;> rfl
theorem ag_Rt2 {b : Nat} (h : ag_R b) : ag_tg b 2 = none := by rcases h with rfl | rfl | rfl | rfl <;> rfl
theorem ag_Rt3 {b : Nat} (h : ag_R b) : ag_tg b 3 = some (b + 1) := by rcases h with rfl | rfl | rfl | rfl <;> rfl
theorem ag_Ra1 {b : Nat} (h : ag_R b) : ag_kd (b + 1) = (8, 48) ∧ b + 1 < 77 := by rcases h with rfl | rfl | rfl | rfl <;> exact ⟨rfl, by decide⟩

theorem ag_C0 : ag_Cf 0 RX0 TX0 5 tyX0 := ⟨rfl, ag_inX0, tyX0_ok, nmX0⟩
theorem ag_C1 : ag_Cf 1 RX1 TX1 6 tyX1 := ⟨rfl, ag_inX1, tyX1_ok, nmX1⟩
theorem ag_C2 : ag_Cf 2 RX2 TX2 6 tyX2 := ⟨rfl, ag_inX2, tyX2_ok, nmX2⟩
theorem ag_C3 : ag_Cf 3 RX3 TX3 4 tyX3 := ⟨rfl, ag_inX3, tyX3_ok, nmX3⟩
theorem ag_C4 : ag_Cf 4 RX4 TX4 2 tyX4 := ⟨rfl, ag_inX4, tyX4_ok, nmX4⟩
theorem ag_C5 : ag_Cf 5 RX5 TX5 10 tyX5 := ⟨rfl, ag_inX5, tyX5_ok, nmX5⟩
theorem ag_C6 : ag_Cf 6 RX6 TX6 8 tyX6 := ⟨rfl, ag_inX6, tyX6_ok, nmX6⟩
theorem ag_C7 : ag_Cf 7 RX7 TX7 37 tyX7 := ⟨rfl, ag_inX7, tyX7_ok, nmX7⟩
