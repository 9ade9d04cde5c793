-- by program (wip/whole/emit.py): each method as a function, and its walk
-- X6_takePeople
def mX6_takePeople : Md := (RX6, cX6_takePeople, 1, none, none)
theorem mv_X6_takePeople : ag_Mv yX6_takePeople mX6_takePeople 0 := ⟨ag_co_X6_takePeople, ag_im_X6_takePeople, ag_se_X6_takePeople, ag_ini_X6, by decide +kernel⟩
theorem dX6_takePeople_0 : decode mX6_takePeople.2.1 0 = .ok (.aload_n 0, 1) := by decide +kernel
theorem dX6_takePeople_1 : decode mX6_takePeople.2.1 1 = .ok (.getfield 10, 3) := by decide +kernel
theorem dX6_takePeople_4 : decode mX6_takePeople.2.1 4 = .ok (.aload_n 0, 1) := by decide +kernel
theorem dX6_takePeople_5 : decode mX6_takePeople.2.1 5 = .ok (.getfield 30, 3) := by decide +kernel
theorem dX6_takePeople_8 : decode mX6_takePeople.2.1 8 = .ok (.invokevirtual 114, 3) := by decide +kernel
theorem dX6_takePeople_11 : decode mX6_takePeople.2.1 11 = .ok (.aload_n 0, 1) := by decide +kernel
theorem dX6_takePeople_12 : decode mX6_takePeople.2.1 12 = .ok (.getfield 19, 3) := by decide +kernel
theorem dX6_takePeople_15 : decode mX6_takePeople.2.1 15 = .ok (.invokevirtual 90, 3) := by decide +kernel
theorem dX6_takePeople_18 : decode mX6_takePeople.2.1 18 = .ok (.return_, 1) := by decide +kernel
def fn_X6_takePeople (n : Nat)  (σ : Sg) : Option Sg :=
  (Option.bind (fn_X4_tellPeople n 4 σ) fun q65 =>
  (Option.bind (fn_X5_live n 3 q65) fun q66 =>
  (some q66)))
set_option maxRecDepth 20000 in
set_option maxHeartbeats 4000000 in
theorem im_X6_takePeople (n : Nat)  (σ : Sg) : Im yX6_takePeople mX6_takePeople 4 93 jV [.ref 0] σ (fn_X6_takePeople n  σ) := by
  refine Im.of (by decide +kernel) rfl rfl (Nat.le_of_ble_eq_true rfl) ?_
  show Ev mX6_takePeople 4 93 jV 0 [(0, .ref 0)] [] σ (fn_X6_takePeople n  σ)
  unfold fn_X6_takePeople
  refine ev_aload_n (pc := 0) (i := 0) 0 dX6_takePeople_0 rfl rfl ?_
  refine ev_getR (pc := 1) (t := 1) 0 ag_C6 (rfl) (by decide) (Nat.le_of_ble_eq_true rfl) rfl rfl ag_fl_X6_10 dX6_takePeople_1 ?_
  refine ev_aload_n (pc := 4) (i := 0) 0 dX6_takePeople_4 rfl rfl ?_
  refine ev_getR (pc := 5) (t := 4) 3 ag_C6 (rfl) (by decide) (Nat.le_of_ble_eq_true rfl) rfl rfl ag_fl_X6_30 dX6_takePeople_5 ?_
  refine ev_vV (pc := 8) (as := [.ref 4]) (rest := []) ⟨4, 114, 2, TX4, tyX4, ag_C4, ⟨(rfl), (by decide)⟩, mv_X4_tellPeople, ag_ml_X6_114, rfl, (Nat.le_of_ble_eq_true rfl), ⟨(Nat.le_of_ble_eq_true rfl), (Nat.le_of_ble_eq_true rfl)⟩, dX6_takePeople_8⟩ (im_X4_tellPeople n 4 (Or.inl rfl) σ) (fun q65 => ?_)
  refine ev_aload_n (pc := 11) (i := 0) 0 dX6_takePeople_11 rfl rfl ?_
  refine ev_getR (pc := 12) (t := 3) 1 ag_C6 (rfl) (by decide) (Nat.le_of_ble_eq_true rfl) rfl rfl ag_fl_X6_19 dX6_takePeople_12 ?_
  refine ev_vV (pc := 15) (as := []) (rest := []) ⟨5, 90, 10, TX5, tyX5, ag_C5, ⟨(rfl), (by decide)⟩, mv_X5_live, ag_ml_X6_90, rfl, (Nat.le_of_ble_eq_true rfl), ⟨(Nat.le_of_ble_eq_true rfl), (Nat.le_of_ble_eq_true rfl)⟩, dX6_takePeople_15⟩ (im_X5_live n 3 (Or.inl rfl) q65) (fun q66 => ?_)
  exact ev_rV rfl dX6_takePeople_18
-- X6_type
def mX6_type : Md := (RX6, cX6_type, 2, some .int, none)
theorem mv_X6_type : ag_Mv yX6_type mX6_type 1 := ⟨ag_co_X6_type, ag_im_X6_type, ag_se_X6_type, ag_ini_X6, by decide +kernel⟩
theorem dX6_type_0 : decode mX6_type.2.1 0 = .ok (.iload_n 1, 1) := by decide +kernel
theorem dX6_type_1 : decode mX6_type.2.1 1 = .ok (.ifCond .lt 10, 3) := by decide +kernel
theorem dX6_type_4 : decode mX6_type.2.1 4 = .ok (.iload_n 1, 1) := by decide +kernel
theorem dX6_type_5 : decode mX6_type.2.1 5 = .ok (.sipush 255, 3) := by decide +kernel
theorem dX6_type_8 : decode mX6_type.2.1 8 = .ok (.if_icmp .le 6, 3) := by decide +kernel
theorem dX6_type_11 : decode mX6_type.2.1 11 = .ok (.bipush (-2), 2) := by decide +kernel
theorem dX6_type_13 : decode mX6_type.2.1 13 = .ok (.ireturn, 1) := by decide +kernel
theorem dX6_type_14 : decode mX6_type.2.1 14 = .ok (.aload_n 0, 1) := by decide +kernel
theorem dX6_type_15 : decode mX6_type.2.1 15 = .ok (.getfield 10, 3) := by decide +kernel
theorem dX6_type_18 : decode mX6_type.2.1 18 = .ok (.getfield 54, 3) := by decide +kernel
theorem dX6_type_21 : decode mX6_type.2.1 21 = .ok (.bipush 59, 2) := by decide +kernel
theorem dX6_type_23 : decode mX6_type.2.1 23 = .ok (.if_icmp .lt 6, 3) := by decide +kernel
theorem dX6_type_26 : decode mX6_type.2.1 26 = .ok (.bipush (-4), 2) := by decide +kernel
theorem dX6_type_28 : decode mX6_type.2.1 28 = .ok (.ireturn, 1) := by decide +kernel
theorem dX6_type_29 : decode mX6_type.2.1 29 = .ok (.aload_n 0, 1) := by decide +kernel
theorem dX6_type_30 : decode mX6_type.2.1 30 = .ok (.getfield 10, 3) := by decide +kernel
theorem dX6_type_33 : decode mX6_type.2.1 33 = .ok (.getfield 57, 3) := by decide +kernel
theorem dX6_type_36 : decode mX6_type.2.1 36 = .ok (.aload_n 0, 1) := by decide +kernel
theorem dX6_type_37 : decode mX6_type.2.1 37 = .ok (.getfield 10, 3) := by decide +kernel
theorem dX6_type_40 : decode mX6_type.2.1 40 = .ok (.getfield 54, 3) := by decide +kernel
theorem dX6_type_43 : decode mX6_type.2.1 43 = .ok (.iload_n 1, 1) := by decide +kernel
theorem dX6_type_44 : decode mX6_type.2.1 44 = .ok (.iastore, 1) := by decide +kernel
theorem dX6_type_45 : decode mX6_type.2.1 45 = .ok (.aload_n 0, 1) := by decide +kernel
theorem dX6_type_46 : decode mX6_type.2.1 46 = .ok (.getfield 10, 3) := by decide +kernel
theorem dX6_type_49 : decode mX6_type.2.1 49 = .ok (.dup, 1) := by decide +kernel
theorem dX6_type_50 : decode mX6_type.2.1 50 = .ok (.getfield 54, 3) := by decide +kernel
theorem dX6_type_53 : decode mX6_type.2.1 53 = .ok (.iconst 1, 1) := by decide +kernel
theorem dX6_type_54 : decode mX6_type.2.1 54 = .ok (.iadd, 1) := by decide +kernel
theorem dX6_type_55 : decode mX6_type.2.1 55 = .ok (.putfield 54, 3) := by decide +kernel
theorem dX6_type_58 : decode mX6_type.2.1 58 = .ok (.aload_n 0, 1) := by decide +kernel
theorem dX6_type_59 : decode mX6_type.2.1 59 = .ok (.invokevirtual 61, 3) := by decide +kernel
theorem dX6_type_62 : decode mX6_type.2.1 62 = .ok (.aload_n 0, 1) := by decide +kernel
theorem dX6_type_63 : decode mX6_type.2.1 63 = .ok (.getfield 10, 3) := by decide +kernel
theorem dX6_type_66 : decode mX6_type.2.1 66 = .ok (.getfield 54, 3) := by decide +kernel
theorem dX6_type_69 : decode mX6_type.2.1 69 = .ok (.ireturn, 1) := by decide +kernel
def fn_X6_type (n : Nat) (x1 : Int32) (σ : Sg) : Option (Int32 × Sg) :=
  (if x1 < 0 then (some ((-2), σ))
  else (if x1 ≤ 255 then (if (σ 1 1) < 59 then (if ag_ib (σ 1 1) 59 = true then (ag_sg (ag_up (ag_up σ 2 (σ 1 1).toNatClampNeg x1) 1 1 (((ag_up σ 2 (σ 1 1).toNatClampNeg x1) 1 1) + 1)) fun t67 =>
  (Option.bind (fn_X6_takePeople n t67) fun q68 =>
  (some ((q68 1 1), q68)))) else none)
  else (some ((-4), σ)))
  else (some ((-2), σ))))
set_option maxRecDepth 20000 in
set_option maxHeartbeats 4000000 in
theorem im_X6_type (n : Nat) (x1 : Int32) (σ : Sg) : Im yX6_type mX6_type 5 113 jW [.ref 0, .int x1] σ (fn_X6_type n x1 σ) := by
  refine Im.of (by decide +kernel) rfl rfl (Nat.le_of_ble_eq_true rfl) ?_
  show Ev mX6_type 5 113 jW 0 [(0, .ref 0), (1, .int x1)] [] σ (fn_X6_type n x1 σ)
  unfold fn_X6_type
  refine ev_iload_n (pc := 0) (i := 1) 1 dX6_type_0 rfl rfl ?_
  refine ev_if_lt (pc := 1) (tgt := 11) dX6_type_1 rfl ?_ ?_
  · refine ev_bipush (pc := 11) (v := (-2)) dX6_type_11 (by decide) ?_
    exact ev_irW rfl dX6_type_13
  · refine ev_iload_n (pc := 4) (i := 1) 1 dX6_type_4 rfl rfl ?_
    refine ev_sipush (pc := 5) (v := 255) dX6_type_5 (by decide) ?_
    refine ev_icmp_le (pc := 8) (tgt := 14) dX6_type_8 rfl ?_ ?_
    · refine ev_aload_n (pc := 14) (i := 0) 0 dX6_type_14 rfl rfl ?_
      refine ev_getR (pc := 15) (t := 1) 0 ag_C6 (rfl) (by decide) (Nat.le_of_ble_eq_true rfl) rfl rfl ag_fl_X6_10 dX6_type_15 ?_
      refine ev_getI (pc := 18) 1 ag_C4 (rfl) (by decide) (Nat.le_of_ble_eq_true rfl) rfl rfl ag_fl_X6_54 dX6_type_18 ?_
      refine ev_bipush (pc := 21) (v := 59) dX6_type_21 (by decide) ?_
      refine ev_icmp_lt (pc := 23) (tgt := 29) dX6_type_23 rfl ?_ ?_
      · refine ev_aload_n (pc := 29) (i := 0) 0 dX6_type_29 rfl rfl ?_
        refine ev_getR (pc := 30) (t := 1) 0 ag_C6 (rfl) (by decide) (Nat.le_of_ble_eq_true rfl) rfl rfl ag_fl_X6_10 dX6_type_30 ?_
        refine ev_getR (pc := 33) (t := 2) 0 ag_C4 (rfl) (by decide) (Nat.le_of_ble_eq_true rfl) rfl rfl ag_fl_X6_57 dX6_type_33 ?_
        refine ev_aload_n (pc := 36) (i := 0) 0 dX6_type_36 rfl rfl ?_
        refine ev_getR (pc := 37) (t := 1) 0 ag_C6 (rfl) (by decide) (Nat.le_of_ble_eq_true rfl) rfl rfl ag_fl_X6_10 dX6_type_37 ?_
        refine ev_getI (pc := 40) 1 ag_C4 (rfl) (by decide) (Nat.le_of_ble_eq_true rfl) rfl rfl ag_fl_X6_54 dX6_type_40 ?_
        refine ev_iload_n (pc := 43) (i := 1) 1 dX6_type_43 rfl rfl ?_
        refine ev_iast (pc := 44) (rfl) (by decide) dX6_type_44 ?_
        refine ev_aload_n (pc := 45) (i := 0) 0 dX6_type_45 rfl rfl ?_
        refine ev_getR (pc := 46) (t := 1) 0 ag_C6 (rfl) (by decide) (Nat.le_of_ble_eq_true rfl) rfl rfl ag_fl_X6_10 dX6_type_46 ?_
        refine ev_dup (pc := 49) dX6_type_49 rfl ?_
        refine ev_getI (pc := 50) 1 ag_C4 (rfl) (by decide) (Nat.le_of_ble_eq_true rfl) rfl rfl ag_fl_X6_54 dX6_type_50 ?_
        refine ev_iconst (pc := 53) (v := 1) dX6_type_53 (by decide) ?_
        refine ev_iadd (pc := 54) dX6_type_54 ?_
        refine ev_put (pc := 55) 1 ag_C4 (rfl) (by decide) (Nat.le_of_ble_eq_true rfl) rfl rfl ag_fl_X6_54 rfl rfl rfl dX6_type_55 ?_
        refine ev_sg (fun t67 => ?_)
        refine ev_aload_n (pc := 58) (i := 0) 0 dX6_type_58 rfl rfl ?_
        refine ev_vV (pc := 59) (as := []) (rest := []) ⟨6, 61, 8, TX6, tyX6, ag_C6, ⟨(rfl), (by decide)⟩, mv_X6_takePeople, ag_ml_X6_61, rfl, (Nat.le_of_ble_eq_true rfl), ⟨(Nat.le_of_ble_eq_true rfl), (Nat.le_of_ble_eq_true rfl)⟩, dX6_type_59⟩ (im_X6_takePeople n t67) (fun q68 => ?_)
        refine ev_aload_n (pc := 62) (i := 0) 0 dX6_type_62 rfl rfl ?_
        refine ev_getR (pc := 63) (t := 1) 0 ag_C6 (rfl) (by decide) (Nat.le_of_ble_eq_true rfl) rfl rfl ag_fl_X6_10 dX6_type_63 ?_
        refine ev_getI (pc := 66) 1 ag_C4 (rfl) (by decide) (Nat.le_of_ble_eq_true rfl) rfl rfl ag_fl_X6_54 dX6_type_66 ?_
        exact ev_irW rfl dX6_type_69
      · refine ev_bipush (pc := 26) (v := (-4)) dX6_type_26 (by decide) ?_
        exact ev_irW rfl dX6_type_28
    · refine ev_bipush (pc := 11) (v := (-2)) dX6_type_11 (by decide) ?_
      exact ev_irW rfl dX6_type_13
-- X6_wipe
def mX6_wipe : Md := (RX6, cX6_wipe, 2, some .int, none)
theorem mv_X6_wipe : ag_Mv yX6_wipe mX6_wipe 0 := ⟨ag_co_X6_wipe, ag_im_X6_wipe, ag_se_X6_wipe, ag_ini_X6, by decide +kernel⟩
theorem dX6_wipe_0 : decode mX6_wipe.2.1 0 = .ok (.aload_n 0, 1) := by decide +kernel
theorem dX6_wipe_1 : decode mX6_wipe.2.1 1 = .ok (.getfield 10, 3) := by decide +kernel
theorem dX6_wipe_4 : decode mX6_wipe.2.1 4 = .ok (.getfield 54, 3) := by decide +kernel
theorem dX6_wipe_7 : decode mX6_wipe.2.1 7 = .ok (.istore_n 1, 1) := by decide +kernel
theorem dX6_wipe_8 : decode mX6_wipe.2.1 8 = .ok (.aload_n 0, 1) := by decide +kernel
theorem dX6_wipe_9 : decode mX6_wipe.2.1 9 = .ok (.getfield 10, 3) := by decide +kernel
theorem dX6_wipe_12 : decode mX6_wipe.2.1 12 = .ok (.iconst 0, 1) := by decide +kernel
theorem dX6_wipe_13 : decode mX6_wipe.2.1 13 = .ok (.putfield 54, 3) := by decide +kernel
theorem dX6_wipe_16 : decode mX6_wipe.2.1 16 = .ok (.aload_n 0, 1) := by decide +kernel
theorem dX6_wipe_17 : decode mX6_wipe.2.1 17 = .ok (.invokevirtual 61, 3) := by decide +kernel
theorem dX6_wipe_20 : decode mX6_wipe.2.1 20 = .ok (.iload_n 1, 1) := by decide +kernel
theorem dX6_wipe_21 : decode mX6_wipe.2.1 21 = .ok (.ireturn, 1) := by decide +kernel
def fn_X6_wipe (n : Nat)  (σ : Sg) : Option (Int32 × Sg) :=
  (Option.bind (fn_X6_takePeople n (ag_up σ 1 1 0)) fun q69 =>
  (some ((σ 1 1), q69)))
set_option maxRecDepth 20000 in
set_option maxHeartbeats 4000000 in
theorem im_X6_wipe (n : Nat)  (σ : Sg) : Im yX6_wipe mX6_wipe 5 113 jW [.ref 0] σ (fn_X6_wipe n  σ) := by
  refine Im.of (by decide +kernel) rfl rfl (Nat.le_of_ble_eq_true rfl) ?_
  show Ev mX6_wipe 5 113 jW 0 [(0, .ref 0)] [] σ (fn_X6_wipe n  σ)
  unfold fn_X6_wipe
  refine ev_aload_n (pc := 0) (i := 0) 0 dX6_wipe_0 rfl rfl ?_
  refine ev_getR (pc := 1) (t := 1) 0 ag_C6 (rfl) (by decide) (Nat.le_of_ble_eq_true rfl) rfl rfl ag_fl_X6_10 dX6_wipe_1 ?_
  refine ev_getI (pc := 4) 1 ag_C4 (rfl) (by decide) (Nat.le_of_ble_eq_true rfl) rfl rfl ag_fl_X6_54 dX6_wipe_4 ?_
  refine ev_istore_n (pc := 7) (i := 1) (lv' := [(1, .int (σ 1 1)), (0, .ref 0)]) dX6_wipe_7 rfl (Nat.le_of_ble_eq_true rfl) rfl ?_
  refine ev_aload_n (pc := 8) (i := 0) 1 dX6_wipe_8 rfl rfl ?_
  refine ev_getR (pc := 9) (t := 1) 0 ag_C6 (rfl) (by decide) (Nat.le_of_ble_eq_true rfl) rfl rfl ag_fl_X6_10 dX6_wipe_9 ?_
  refine ev_iconst (pc := 12) (v := 0) dX6_wipe_12 (by decide) ?_
  refine ev_put (pc := 13) 1 ag_C4 (rfl) (by decide) (Nat.le_of_ble_eq_true rfl) rfl rfl ag_fl_X6_54 rfl rfl rfl dX6_wipe_13 ?_
  refine ev_aload_n (pc := 16) (i := 0) 1 dX6_wipe_16 rfl rfl ?_
  refine ev_vV (pc := 17) (as := []) (rest := []) ⟨6, 61, 8, TX6, tyX6, ag_C6, ⟨(rfl), (by decide)⟩, mv_X6_takePeople, ag_ml_X6_61, rfl, (Nat.le_of_ble_eq_true rfl), ⟨(Nat.le_of_ble_eq_true rfl), (Nat.le_of_ble_eq_true rfl)⟩, dX6_wipe_17⟩ (im_X6_takePeople n (ag_up σ 1 1 0)) (fun q69 => ?_)
  refine ev_iload_n (pc := 20) (i := 1) 0 dX6_wipe_20 rfl rfl ?_
  exact ev_irW rfl dX6_wipe_21
-- X6_undo
def mX6_undo : Md := (RX6, cX6_undo, 1, some .int, none)
theorem mv_X6_undo : ag_Mv yX6_undo mX6_undo 0 := ⟨ag_co_X6_undo, ag_im_X6_undo, ag_se_X6_undo, ag_ini_X6, by decide +kernel⟩
theorem dX6_undo_0 : decode mX6_undo.2.1 0 = .ok (.aload_n 0, 1) := by decide +kernel
theorem dX6_undo_1 : decode mX6_undo.2.1 1 = .ok (.getfield 10, 3) := by decide +kernel
theorem dX6_undo_4 : decode mX6_undo.2.1 4 = .ok (.getfield 54, 3) := by decide +kernel
theorem dX6_undo_7 : decode mX6_undo.2.1 7 = .ok (.ifCond .ne 6, 3) := by decide +kernel
theorem dX6_undo_10 : decode mX6_undo.2.1 10 = .ok (.bipush (-3), 2) := by decide +kernel
theorem dX6_undo_12 : decode mX6_undo.2.1 12 = .ok (.ireturn, 1) := by decide +kernel
theorem dX6_undo_13 : decode mX6_undo.2.1 13 = .ok (.aload_n 0, 1) := by decide +kernel
theorem dX6_undo_14 : decode mX6_undo.2.1 14 = .ok (.getfield 10, 3) := by decide +kernel
theorem dX6_undo_17 : decode mX6_undo.2.1 17 = .ok (.dup, 1) := by decide +kernel
theorem dX6_undo_18 : decode mX6_undo.2.1 18 = .ok (.getfield 54, 3) := by decide +kernel
theorem dX6_undo_21 : decode mX6_undo.2.1 21 = .ok (.iconst 1, 1) := by decide +kernel
theorem dX6_undo_22 : decode mX6_undo.2.1 22 = .ok (.isub, 1) := by decide +kernel
theorem dX6_undo_23 : decode mX6_undo.2.1 23 = .ok (.putfield 54, 3) := by decide +kernel
theorem dX6_undo_26 : decode mX6_undo.2.1 26 = .ok (.aload_n 0, 1) := by decide +kernel
theorem dX6_undo_27 : decode mX6_undo.2.1 27 = .ok (.invokevirtual 61, 3) := by decide +kernel
theorem dX6_undo_30 : decode mX6_undo.2.1 30 = .ok (.aload_n 0, 1) := by decide +kernel
theorem dX6_undo_31 : decode mX6_undo.2.1 31 = .ok (.getfield 10, 3) := by decide +kernel
theorem dX6_undo_34 : decode mX6_undo.2.1 34 = .ok (.getfield 54, 3) := by decide +kernel
theorem dX6_undo_37 : decode mX6_undo.2.1 37 = .ok (.ireturn, 1) := by decide +kernel
def fn_X6_undo (n : Nat)  (σ : Sg) : Option (Int32 × Sg) :=
  (if (σ 1 1) = 0 then (some ((-3), σ))
  else (Option.bind (fn_X6_takePeople n (ag_up σ 1 1 ((σ 1 1) - 1))) fun q70 =>
  (some ((q70 1 1), q70))))
set_option maxRecDepth 20000 in
set_option maxHeartbeats 4000000 in
theorem im_X6_undo (n : Nat)  (σ : Sg) : Im yX6_undo mX6_undo 5 113 jW [.ref 0] σ (fn_X6_undo n  σ) := by
  refine Im.of (by decide +kernel) rfl rfl (Nat.le_of_ble_eq_true rfl) ?_
  show Ev mX6_undo 5 113 jW 0 [(0, .ref 0)] [] σ (fn_X6_undo n  σ)
  unfold fn_X6_undo
  refine ev_aload_n (pc := 0) (i := 0) 0 dX6_undo_0 rfl rfl ?_
  refine ev_getR (pc := 1) (t := 1) 0 ag_C6 (rfl) (by decide) (Nat.le_of_ble_eq_true rfl) rfl rfl ag_fl_X6_10 dX6_undo_1 ?_
  refine ev_getI (pc := 4) 1 ag_C4 (rfl) (by decide) (Nat.le_of_ble_eq_true rfl) rfl rfl ag_fl_X6_54 dX6_undo_4 ?_
  refine ev_if_ne (pc := 7) (tgt := 13) dX6_undo_7 rfl ?_ ?_
  · refine ev_bipush (pc := 10) (v := (-3)) dX6_undo_10 (by decide) ?_
    exact ev_irW rfl dX6_undo_12
  · refine ev_aload_n (pc := 13) (i := 0) 0 dX6_undo_13 rfl rfl ?_
    refine ev_getR (pc := 14) (t := 1) 0 ag_C6 (rfl) (by decide) (Nat.le_of_ble_eq_true rfl) rfl rfl ag_fl_X6_10 dX6_undo_14 ?_
    refine ev_dup (pc := 17) dX6_undo_17 rfl ?_
    refine ev_getI (pc := 18) 1 ag_C4 (rfl) (by decide) (Nat.le_of_ble_eq_true rfl) rfl rfl ag_fl_X6_54 dX6_undo_18 ?_
    refine ev_iconst (pc := 21) (v := 1) dX6_undo_21 (by decide) ?_
    refine ev_isub (pc := 22) dX6_undo_22 ?_
    refine ev_put (pc := 23) 1 ag_C4 (rfl) (by decide) (Nat.le_of_ble_eq_true rfl) rfl rfl ag_fl_X6_54 rfl rfl rfl dX6_undo_23 ?_
    refine ev_aload_n (pc := 26) (i := 0) 0 dX6_undo_26 rfl rfl ?_
    refine ev_vV (pc := 27) (as := []) (rest := []) ⟨6, 61, 8, TX6, tyX6, ag_C6, ⟨(rfl), (by decide)⟩, mv_X6_takePeople, ag_ml_X6_61, rfl, (Nat.le_of_ble_eq_true rfl), ⟨(Nat.le_of_ble_eq_true rfl), (Nat.le_of_ble_eq_true rfl)⟩, dX6_undo_27⟩ (im_X6_takePeople n (ag_up σ 1 1 ((σ 1 1) - 1))) (fun q70 => ?_)
    refine ev_aload_n (pc := 30) (i := 0) 0 dX6_undo_30 rfl rfl ?_
    refine ev_getR (pc := 31) (t := 1) 0 ag_C6 (rfl) (by decide) (Nat.le_of_ble_eq_true rfl) rfl rfl ag_fl_X6_10 dX6_undo_31 ?_
    refine ev_getI (pc := 34) 1 ag_C4 (rfl) (by decide) (Nat.le_of_ble_eq_true rfl) rfl rfl ag_fl_X6_54 dX6_undo_34 ?_
    exact ev_irW rfl dX6_undo_37
-- X6_fault
def mX6_fault : Md := (RX6, cX6_fault, 1, some .int, none)
theorem mv_X6_fault : ag_Mv yX6_fault mX6_fault 0 := ⟨ag_co_X6_fault, ag_im_X6_fault, ag_se_X6_fault, ag_ini_X6, by decide +kernel⟩
theorem dX6_fault_0 : decode mX6_fault.2.1 0 = .ok (.aload_n 0, 1) := by decide +kernel
theorem dX6_fault_1 : decode mX6_fault.2.1 1 = .ok (.getfield 10, 3) := by decide +kernel
theorem dX6_fault_4 : decode mX6_fault.2.1 4 = .ok (.invokevirtual 64, 3) := by decide +kernel
theorem dX6_fault_7 : decode mX6_fault.2.1 7 = .ok (.ireturn, 1) := by decide +kernel
def fn_X6_fault (n : Nat)  (σ : Sg) : Option Int32 :=
  (Option.bind (fn_X4_firstFault n σ) fun q71 =>
  (some q71))
set_option maxRecDepth 20000 in
set_option maxHeartbeats 4000000 in
theorem im_X6_fault (n : Nat)  (σ : Sg) : Im yX6_fault mX6_fault 3 63 (jI σ) [.ref 0] σ (fn_X6_fault n  σ) := by
  refine Im.of (by decide +kernel) rfl rfl (Nat.le_of_ble_eq_true rfl) ?_
  show Ev mX6_fault 3 63 (jI σ) 0 [(0, .ref 0)] [] σ (fn_X6_fault n  σ)
  unfold fn_X6_fault
  refine ev_aload_n (pc := 0) (i := 0) 0 dX6_fault_0 rfl rfl ?_
  refine ev_getR (pc := 1) (t := 1) 0 ag_C6 (rfl) (by decide) (Nat.le_of_ble_eq_true rfl) rfl rfl ag_fl_X6_10 dX6_fault_1 ?_
  refine ev_vI (pc := 4) (as := []) (rest := []) ⟨4, 64, 2, TX4, tyX4, ag_C4, ⟨(rfl), (by decide)⟩, mv_X4_firstFault, ag_ml_X6_64, rfl, (Nat.le_of_ble_eq_true rfl), ⟨(Nat.le_of_ble_eq_true rfl), (Nat.le_of_ble_eq_true rfl)⟩, dX6_fault_4⟩ (im_X4_firstFault n σ) (fun q71 => ?_)
  exact ev_irI rfl dX6_fault_7
-- X6_person
def mX6_person : Md := (RX6, cX6_person, 3, some .int, none)
theorem mv_X6_person : ag_Mv yX6_person mX6_person 2 := ⟨ag_co_X6_person, ag_im_X6_person, ag_se_X6_person, ag_ini_X6, by decide +kernel⟩
theorem dX6_person_0 : decode mX6_person.2.1 0 = .ok (.aload_n 0, 1) := by decide +kernel
theorem dX6_person_1 : decode mX6_person.2.1 1 = .ok (.getfield 30, 3) := by decide +kernel
theorem dX6_person_4 : decode mX6_person.2.1 4 = .ok (.iload_n 1, 1) := by decide +kernel
theorem dX6_person_5 : decode mX6_person.2.1 5 = .ok (.invokevirtual 68, 3) := by decide +kernel
theorem dX6_person_8 : decode mX6_person.2.1 8 = .ok (.ifCond .ne 6, 3) := by decide +kernel
theorem dX6_person_11 : decode mX6_person.2.1 11 = .ok (.bipush (-2), 2) := by decide +kernel
theorem dX6_person_13 : decode mX6_person.2.1 13 = .ok (.ireturn, 1) := by decide +kernel
theorem dX6_person_14 : decode mX6_person.2.1 14 = .ok (.iload_n 2, 1) := by decide +kernel
theorem dX6_person_15 : decode mX6_person.2.1 15 = .ok (.tableswitch 55 0 2 #[25, 35, 45], 25) := by decide +kernel
theorem dX6_person_40 : decode mX6_person.2.1 40 = .ok (.aload_n 0, 1) := by decide +kernel
theorem dX6_person_41 : decode mX6_person.2.1 41 = .ok (.getfield 30, 3) := by decide +kernel
theorem dX6_person_44 : decode mX6_person.2.1 44 = .ok (.getfield 74, 3) := by decide +kernel
theorem dX6_person_47 : decode mX6_person.2.1 47 = .ok (.iload_n 1, 1) := by decide +kernel
theorem dX6_person_48 : decode mX6_person.2.1 48 = .ok (.iaload, 1) := by decide +kernel
theorem dX6_person_49 : decode mX6_person.2.1 49 = .ok (.ireturn, 1) := by decide +kernel
theorem dX6_person_50 : decode mX6_person.2.1 50 = .ok (.aload_n 0, 1) := by decide +kernel
theorem dX6_person_51 : decode mX6_person.2.1 51 = .ok (.getfield 30, 3) := by decide +kernel
theorem dX6_person_54 : decode mX6_person.2.1 54 = .ok (.getfield 77, 3) := by decide +kernel
theorem dX6_person_57 : decode mX6_person.2.1 57 = .ok (.iload_n 1, 1) := by decide +kernel
theorem dX6_person_58 : decode mX6_person.2.1 58 = .ok (.iaload, 1) := by decide +kernel
theorem dX6_person_59 : decode mX6_person.2.1 59 = .ok (.ireturn, 1) := by decide +kernel
theorem dX6_person_60 : decode mX6_person.2.1 60 = .ok (.aload_n 0, 1) := by decide +kernel
theorem dX6_person_61 : decode mX6_person.2.1 61 = .ok (.getfield 30, 3) := by decide +kernel
theorem dX6_person_64 : decode mX6_person.2.1 64 = .ok (.getfield 80, 3) := by decide +kernel
theorem dX6_person_67 : decode mX6_person.2.1 67 = .ok (.iload_n 1, 1) := by decide +kernel
theorem dX6_person_68 : decode mX6_person.2.1 68 = .ok (.iaload, 1) := by decide +kernel
theorem dX6_person_69 : decode mX6_person.2.1 69 = .ok (.ireturn, 1) := by decide +kernel
theorem dX6_person_70 : decode mX6_person.2.1 70 = .ok (.bipush (-2), 2) := by decide +kernel
theorem dX6_person_72 : decode mX6_person.2.1 72 = .ok (.ireturn, 1) := by decide +kernel
def fn_X6_person (x1 : Int32) (x2 : Int32) (σ : Sg) : Option Int32 :=
  (Option.bind (fn_X1_isThere 4 x1 σ) fun q72 =>
  (if q72 = 0 then (some (-2))
  else (if x2 = 0 then (if ag_ib x1 10 = true then (some (σ 5 x1.toNatClampNeg)) else none)
  else (if x2 = 1 then (if ag_ib x1 10 = true then (some (σ 6 x1.toNatClampNeg)) else none)
  else (if x2 = 2 then (if ag_ib x1 10 = true then (some (σ 7 x1.toNatClampNeg)) else none)
  else (some (-2)))))))
set_option maxRecDepth 20000 in
set_option maxHeartbeats 4000000 in
theorem im_X6_person (x1 : Int32) (x2 : Int32) (σ : Sg) : Im yX6_person mX6_person 1 21 (jI σ) [.ref 0, .int x1, .int x2] σ (fn_X6_person x1 x2 σ) := by
  refine Im.of (by decide +kernel) rfl rfl (Nat.le_of_ble_eq_true rfl) ?_
  show Ev mX6_person 1 21 (jI σ) 0 [(0, .ref 0), (1, .int x1), (2, .int x2)] [] σ (fn_X6_person x1 x2 σ)
  unfold fn_X6_person
  refine ev_aload_n (pc := 0) (i := 0) 0 dX6_person_0 rfl rfl ?_
  refine ev_getR (pc := 1) (t := 4) 3 ag_C6 (rfl) (by decide) (Nat.le_of_ble_eq_true rfl) rfl rfl ag_fl_X6_30 dX6_person_1 ?_
  refine ev_iload_n (pc := 4) (i := 1) 1 dX6_person_4 rfl rfl ?_
  refine ev_vI (pc := 5) (as := [.int x1]) (rest := []) ⟨1, 68, 6, TX1, tyX1, ag_C1, ⟨(rfl), (by decide)⟩, mv_X1_isThere, ag_ml_X6_68, rfl, (Nat.le_of_ble_eq_true rfl), ⟨(Nat.le_of_ble_eq_true rfl), (Nat.le_of_ble_eq_true rfl)⟩, dX6_person_5⟩ (im_X1_isThere 4 (Or.inl rfl) x1 σ) (fun q72 => ?_)
  refine ev_if_ne (pc := 8) (tgt := 14) dX6_person_8 rfl ?_ ?_
  · refine ev_bipush (pc := 11) (v := (-2)) dX6_person_11 (by decide) ?_
    exact ev_irI rfl dX6_person_13
  · refine ev_iload_n (pc := 14) (i := 2) 2 dX6_person_14 rfl rfl ?_
    refine ev_ite (fun hc0 => ?_) (fun hc0 => ?_)
    · refine ev_tin (pc := 15) (tgt := 40) dX6_person_15 (by rw [hc0]; decide) (by rw [hc0]; decide) (by rw [hc0]; rfl) rfl ?_
      refine ev_aload_n (pc := 40) (i := 0) 0 dX6_person_40 rfl rfl ?_
      refine ev_getR (pc := 41) (t := 4) 3 ag_C6 (rfl) (by decide) (Nat.le_of_ble_eq_true rfl) rfl rfl ag_fl_X6_30 dX6_person_41 ?_
      refine ev_getR (pc := 44) (t := 5) 1 ag_C1 (rfl) (by decide) (Nat.le_of_ble_eq_true rfl) rfl rfl ag_fl_X6_74 dX6_person_44 ?_
      refine ev_iload_n (pc := 47) (i := 1) 1 dX6_person_47 rfl rfl ?_
      refine ev_iald (pc := 48) (rfl) (by decide) dX6_person_48 ?_
      exact ev_irI rfl dX6_person_49
    · skip
      refine ev_ite (fun hc1 => ?_) (fun hc1 => ?_)
      · refine ev_tin (pc := 15) (tgt := 50) dX6_person_15 (by rw [hc1]; decide) (by rw [hc1]; decide) (by rw [hc1]; rfl) rfl ?_
        refine ev_aload_n (pc := 50) (i := 0) 0 dX6_person_50 rfl rfl ?_
        refine ev_getR (pc := 51) (t := 4) 3 ag_C6 (rfl) (by decide) (Nat.le_of_ble_eq_true rfl) rfl rfl ag_fl_X6_30 dX6_person_51 ?_
        refine ev_getR (pc := 54) (t := 6) 2 ag_C1 (rfl) (by decide) (Nat.le_of_ble_eq_true rfl) rfl rfl ag_fl_X6_77 dX6_person_54 ?_
        refine ev_iload_n (pc := 57) (i := 1) 1 dX6_person_57 rfl rfl ?_
        refine ev_iald (pc := 58) (rfl) (by decide) dX6_person_58 ?_
        exact ev_irI rfl dX6_person_59
      · skip
        refine ev_ite (fun hc2 => ?_) (fun hc2 => ?_)
        · refine ev_tin (pc := 15) (tgt := 60) dX6_person_15 (by rw [hc2]; decide) (by rw [hc2]; decide) (by rw [hc2]; rfl) rfl ?_
          refine ev_aload_n (pc := 60) (i := 0) 0 dX6_person_60 rfl rfl ?_
          refine ev_getR (pc := 61) (t := 4) 3 ag_C6 (rfl) (by decide) (Nat.le_of_ble_eq_true rfl) rfl rfl ag_fl_X6_30 dX6_person_61 ?_
          refine ev_getR (pc := 64) (t := 7) 3 ag_C1 (rfl) (by decide) (Nat.le_of_ble_eq_true rfl) rfl rfl ag_fl_X6_80 dX6_person_64 ?_
          refine ev_iload_n (pc := 67) (i := 1) 1 dX6_person_67 rfl rfl ?_
          refine ev_iald (pc := 68) (rfl) (by decide) dX6_person_68 ?_
          exact ev_irI rfl dX6_person_69
        · have hn0 := lv_neT (a := 0) hc0 rfl
          have hn1 := lv_neT (a := 1) hc1 rfl
          have hn2 := lv_neT (a := 2) hc2 rfl
          refine ev_tout (pc := 15) (tgt := 70) dX6_person_15 (by omega) rfl ?_
          refine ev_bipush (pc := 70) (v := (-2)) dX6_person_70 (by decide) ?_
          exact ev_irI rfl dX6_person_72
-- X6_knows
def mX6_knows : Md := (RX6, cX6_knows, 4, some .int, none)
theorem mv_X6_knows : ag_Mv yX6_knows mX6_knows 2 := ⟨ag_co_X6_knows, ag_im_X6_knows, ag_se_X6_knows, ag_ini_X6, by decide +kernel⟩
theorem dX6_knows_0 : decode mX6_knows.2.1 0 = .ok (.iload_n 1, 1) := by decide +kernel
theorem dX6_knows_1 : decode mX6_knows.2.1 1 = .ok (.bipush 10, 2) := by decide +kernel
theorem dX6_knows_3 : decode mX6_knows.2.1 3 = .ok (.invokestatic 83, 3) := by decide +kernel
theorem dX6_knows_6 : decode mX6_knows.2.1 6 = .ok (.ifCond .eq 13, 3) := by decide +kernel
theorem dX6_knows_9 : decode mX6_knows.2.1 9 = .ok (.iload_n 2, 1) := by decide +kernel
theorem dX6_knows_10 : decode mX6_knows.2.1 10 = .ok (.sipush 256, 3) := by decide +kernel
theorem dX6_knows_13 : decode mX6_knows.2.1 13 = .ok (.invokestatic 83, 3) := by decide +kernel
theorem dX6_knows_16 : decode mX6_knows.2.1 16 = .ok (.ifCond .ne 6, 3) := by decide +kernel
theorem dX6_knows_19 : decode mX6_knows.2.1 19 = .ok (.bipush (-2), 2) := by decide +kernel
theorem dX6_knows_21 : decode mX6_knows.2.1 21 = .ok (.ireturn, 1) := by decide +kernel
theorem dX6_knows_22 : decode mX6_knows.2.1 22 = .ok (.aload_n 0, 1) := by decide +kernel
theorem dX6_knows_23 : decode mX6_knows.2.1 23 = .ok (.getfield 30, 3) := by decide +kernel
theorem dX6_knows_26 : decode mX6_knows.2.1 26 = .ok (.getfield 87, 3) := by decide +kernel
theorem dX6_knows_29 : decode mX6_knows.2.1 29 = .ok (.iload_n 1, 1) := by decide +kernel
theorem dX6_knows_30 : decode mX6_knows.2.1 30 = .ok (.iaload, 1) := by decide +kernel
theorem dX6_knows_31 : decode mX6_knows.2.1 31 = .ok (.istore_n 3, 1) := by decide +kernel
theorem dX6_knows_32 : decode mX6_knows.2.1 32 = .ok (.aload_n 0, 1) := by decide +kernel
theorem dX6_knows_33 : decode mX6_knows.2.1 33 = .ok (.getfield 30, 3) := by decide +kernel
theorem dX6_knows_36 : decode mX6_knows.2.1 36 = .ok (.getfield 87, 3) := by decide +kernel
theorem dX6_knows_39 : decode mX6_knows.2.1 39 = .ok (.iload_n 1, 1) := by decide +kernel
theorem dX6_knows_40 : decode mX6_knows.2.1 40 = .ok (.iload_n 2, 1) := by decide +kernel
theorem dX6_knows_41 : decode mX6_knows.2.1 41 = .ok (.iastore, 1) := by decide +kernel
theorem dX6_knows_42 : decode mX6_knows.2.1 42 = .ok (.aload_n 0, 1) := by decide +kernel
theorem dX6_knows_43 : decode mX6_knows.2.1 43 = .ok (.getfield 19, 3) := by decide +kernel
theorem dX6_knows_46 : decode mX6_knows.2.1 46 = .ok (.invokevirtual 90, 3) := by decide +kernel
theorem dX6_knows_49 : decode mX6_knows.2.1 49 = .ok (.iload_n 3, 1) := by decide +kernel
theorem dX6_knows_50 : decode mX6_knows.2.1 50 = .ok (.ireturn, 1) := by decide +kernel
def fn_X6_knows (n : Nat) (x1 : Int32) (x2 : Int32) (σ : Sg) : Option (Int32 × Sg) :=
  (Option.bind (fn_X6_isBelow x1 10 σ) fun q73 =>
  (if q73 = 0 then (some ((-2), σ))
  else (Option.bind (fn_X6_isBelow x2 256 σ) fun q74 =>
  (if q74 = 0 then (some ((-2), σ))
  else (if ag_ib x1 10 = true then (if ag_ib x1 10 = true then (Option.bind (fn_X5_live n 3 (ag_up σ 9 x1.toNatClampNeg x2)) fun q75 =>
  (some ((σ 9 x1.toNatClampNeg), q75))) else none) else none)))))
set_option maxRecDepth 20000 in
set_option maxHeartbeats 4000000 in
theorem im_X6_knows (n : Nat) (x1 : Int32) (x2 : Int32) (σ : Sg) : Im yX6_knows mX6_knows 4 93 jW [.ref 0, .int x1, .int x2] σ (fn_X6_knows n x1 x2 σ) := by
  refine Im.of (by decide +kernel) rfl rfl (Nat.le_of_ble_eq_true rfl) ?_
  show Ev mX6_knows 4 93 jW 0 [(0, .ref 0), (1, .int x1), (2, .int x2)] [] σ (fn_X6_knows n x1 x2 σ)
  unfold fn_X6_knows
  refine ev_iload_n (pc := 0) (i := 1) 1 dX6_knows_0 rfl rfl ?_
  refine ev_bipush (pc := 1) (v := 10) dX6_knows_1 (by decide) ?_
  refine ev_sI (pc := 3) (as := [.int x1, .int 10]) (rest := []) ⟨83, ms_X6_isBelow, ag_ml_X6_83, rfl, (Nat.le_of_ble_eq_true rfl), ⟨(Nat.le_of_ble_eq_true rfl), (Nat.le_of_ble_eq_true rfl)⟩, dX6_knows_3⟩ (im_X6_isBelow x1 10 σ) (fun q73 => ?_)
  refine ev_if_eq (pc := 6) (tgt := 19) dX6_knows_6 rfl ?_ ?_
  · refine ev_bipush (pc := 19) (v := (-2)) dX6_knows_19 (by decide) ?_
    exact ev_irW rfl dX6_knows_21
  · refine ev_iload_n (pc := 9) (i := 2) 2 dX6_knows_9 rfl rfl ?_
    refine ev_sipush (pc := 10) (v := 256) dX6_knows_10 (by decide) ?_
    refine ev_sI (pc := 13) (as := [.int x2, .int 256]) (rest := []) ⟨83, ms_X6_isBelow, ag_ml_X6_83, rfl, (Nat.le_of_ble_eq_true rfl), ⟨(Nat.le_of_ble_eq_true rfl), (Nat.le_of_ble_eq_true rfl)⟩, dX6_knows_13⟩ (im_X6_isBelow x2 256 σ) (fun q74 => ?_)
    refine ev_if_ne (pc := 16) (tgt := 22) dX6_knows_16 rfl ?_ ?_
    · refine ev_bipush (pc := 19) (v := (-2)) dX6_knows_19 (by decide) ?_
      exact ev_irW rfl dX6_knows_21
    · refine ev_aload_n (pc := 22) (i := 0) 0 dX6_knows_22 rfl rfl ?_
      refine ev_getR (pc := 23) (t := 4) 3 ag_C6 (rfl) (by decide) (Nat.le_of_ble_eq_true rfl) rfl rfl ag_fl_X6_30 dX6_knows_23 ?_
      refine ev_getR (pc := 26) (t := 9) 5 ag_C1 (rfl) (by decide) (Nat.le_of_ble_eq_true rfl) rfl rfl ag_fl_X6_87 dX6_knows_26 ?_
      refine ev_iload_n (pc := 29) (i := 1) 1 dX6_knows_29 rfl rfl ?_
      refine ev_iald (pc := 30) (rfl) (by decide) dX6_knows_30 ?_
      refine ev_istore_n (pc := 31) (i := 3) (lv' := [(3, .int (σ 9 x1.toNatClampNeg)), (0, .ref 0), (1, .int x1), (2, .int x2)]) dX6_knows_31 rfl (Nat.le_of_ble_eq_true rfl) rfl ?_
      refine ev_aload_n (pc := 32) (i := 0) 1 dX6_knows_32 rfl rfl ?_
      refine ev_getR (pc := 33) (t := 4) 3 ag_C6 (rfl) (by decide) (Nat.le_of_ble_eq_true rfl) rfl rfl ag_fl_X6_30 dX6_knows_33 ?_
      refine ev_getR (pc := 36) (t := 9) 5 ag_C1 (rfl) (by decide) (Nat.le_of_ble_eq_true rfl) rfl rfl ag_fl_X6_87 dX6_knows_36 ?_
      refine ev_iload_n (pc := 39) (i := 1) 2 dX6_knows_39 rfl rfl ?_
      refine ev_iload_n (pc := 40) (i := 2) 3 dX6_knows_40 rfl rfl ?_
      refine ev_iast (pc := 41) (rfl) (by decide) dX6_knows_41 ?_
      refine ev_aload_n (pc := 42) (i := 0) 1 dX6_knows_42 rfl rfl ?_
      refine ev_getR (pc := 43) (t := 3) 1 ag_C6 (rfl) (by decide) (Nat.le_of_ble_eq_true rfl) rfl rfl ag_fl_X6_19 dX6_knows_43 ?_
      refine ev_vV (pc := 46) (as := []) (rest := []) ⟨5, 90, 10, TX5, tyX5, ag_C5, ⟨(rfl), (by decide)⟩, mv_X5_live, ag_ml_X6_90, rfl, (Nat.le_of_ble_eq_true rfl), ⟨(Nat.le_of_ble_eq_true rfl), (Nat.le_of_ble_eq_true rfl)⟩, dX6_knows_46⟩ (im_X5_live n 3 (Or.inl rfl) (ag_up σ 9 x1.toNatClampNeg x2)) (fun q75 => ?_)
      refine ev_iload_n (pc := 49) (i := 3) 0 dX6_knows_49 rfl rfl ?_
      exact ev_irW rfl dX6_knows_50
-- X6_takeLetter
def mX6_takeLetter : Md := (RX6, cX6_takeLetter, 6, some .int, none)
theorem mv_X6_takeLetter : ag_Mv yX6_takeLetter mX6_takeLetter 5 := ⟨ag_co_X6_takeLetter, ag_im_X6_takeLetter, ag_se_X6_takeLetter, ag_ini_X6, by decide +kernel⟩
theorem dX6_takeLetter_0 : decode mX6_takeLetter.2.1 0 = .ok (.iload_n 1, 1) := by decide +kernel
theorem dX6_takeLetter_1 : decode mX6_takeLetter.2.1 1 = .ok (.bipush 10, 2) := by decide +kernel
theorem dX6_takeLetter_3 : decode mX6_takeLetter.2.1 3 = .ok (.invokestatic 83, 3) := by decide +kernel
theorem dX6_takeLetter_6 : decode mX6_takeLetter.2.1 6 = .ok (.ifCond .eq 17, 3) := by decide +kernel
theorem dX6_takeLetter_9 : decode mX6_takeLetter.2.1 9 = .ok (.iload_n 2, 1) := by decide +kernel
theorem dX6_takeLetter_10 : decode mX6_takeLetter.2.1 10 = .ok (.bipush 10, 2) := by decide +kernel
theorem dX6_takeLetter_12 : decode mX6_takeLetter.2.1 12 = .ok (.invokestatic 83, 3) := by decide +kernel
theorem dX6_takeLetter_15 : decode mX6_takeLetter.2.1 15 = .ok (.ifCond .eq 8, 3) := by decide +kernel
theorem dX6_takeLetter_18 : decode mX6_takeLetter.2.1 18 = .ok (.iload_n 1, 1) := by decide +kernel
theorem dX6_takeLetter_19 : decode mX6_takeLetter.2.1 19 = .ok (.iload_n 2, 1) := by decide +kernel
theorem dX6_takeLetter_20 : decode mX6_takeLetter.2.1 20 = .ok (.if_icmp .ne 6, 3) := by decide +kernel
theorem dX6_takeLetter_23 : decode mX6_takeLetter.2.1 23 = .ok (.bipush (-2), 2) := by decide +kernel
theorem dX6_takeLetter_25 : decode mX6_takeLetter.2.1 25 = .ok (.ireturn, 1) := by decide +kernel
theorem dX6_takeLetter_26 : decode mX6_takeLetter.2.1 26 = .ok (.iload_n 3, 1) := by decide +kernel
theorem dX6_takeLetter_27 : decode mX6_takeLetter.2.1 27 = .ok (.sipush 200, 3) := by decide +kernel
theorem dX6_takeLetter_30 : decode mX6_takeLetter.2.1 30 = .ok (.invokestatic 83, 3) := by decide +kernel
theorem dX6_takeLetter_33 : decode mX6_takeLetter.2.1 33 = .ok (.ifCond .eq 13, 3) := by decide +kernel
theorem dX6_takeLetter_36 : decode mX6_takeLetter.2.1 36 = .ok (.iload 4, 2) := by decide +kernel
theorem dX6_takeLetter_38 : decode mX6_takeLetter.2.1 38 = .ok (.bipush 8, 2) := by decide +kernel
theorem dX6_takeLetter_40 : decode mX6_takeLetter.2.1 40 = .ok (.invokestatic 83, 3) := by decide +kernel
theorem dX6_takeLetter_43 : decode mX6_takeLetter.2.1 43 = .ok (.ifCond .ne 6, 3) := by decide +kernel
theorem dX6_takeLetter_46 : decode mX6_takeLetter.2.1 46 = .ok (.bipush (-2), 2) := by decide +kernel
theorem dX6_takeLetter_48 : decode mX6_takeLetter.2.1 48 = .ok (.ireturn, 1) := by decide +kernel
theorem dX6_takeLetter_49 : decode mX6_takeLetter.2.1 49 = .ok (.iload 5, 2) := by decide +kernel
theorem dX6_takeLetter_51 : decode mX6_takeLetter.2.1 51 = .ok (.iconst (-1), 1) := by decide +kernel
theorem dX6_takeLetter_52 : decode mX6_takeLetter.2.1 52 = .ok (.if_icmp .eq 16, 3) := by decide +kernel
theorem dX6_takeLetter_55 : decode mX6_takeLetter.2.1 55 = .ok (.iload 5, 2) := by decide +kernel
theorem dX6_takeLetter_57 : decode mX6_takeLetter.2.1 57 = .ok (.bipush 8, 2) := by decide +kernel
theorem dX6_takeLetter_59 : decode mX6_takeLetter.2.1 59 = .ok (.invokestatic 83, 3) := by decide +kernel
theorem dX6_takeLetter_62 : decode mX6_takeLetter.2.1 62 = .ok (.ifCond .ne 6, 3) := by decide +kernel
theorem dX6_takeLetter_65 : decode mX6_takeLetter.2.1 65 = .ok (.bipush (-2), 2) := by decide +kernel
theorem dX6_takeLetter_67 : decode mX6_takeLetter.2.1 67 = .ok (.ireturn, 1) := by decide +kernel
theorem dX6_takeLetter_68 : decode mX6_takeLetter.2.1 68 = .ok (.aload_n 0, 1) := by decide +kernel
theorem dX6_takeLetter_69 : decode mX6_takeLetter.2.1 69 = .ok (.getfield 35, 3) := by decide +kernel
theorem dX6_takeLetter_72 : decode mX6_takeLetter.2.1 72 = .ok (.getfield 97, 3) := by decide +kernel
theorem dX6_takeLetter_75 : decode mX6_takeLetter.2.1 75 = .ok (.bipush 12, 2) := by decide +kernel
theorem dX6_takeLetter_77 : decode mX6_takeLetter.2.1 77 = .ok (.if_icmp .lt 6, 3) := by decide +kernel
theorem dX6_takeLetter_80 : decode mX6_takeLetter.2.1 80 = .ok (.bipush (-4), 2) := by decide +kernel
theorem dX6_takeLetter_82 : decode mX6_takeLetter.2.1 82 = .ok (.ireturn, 1) := by decide +kernel
theorem dX6_takeLetter_83 : decode mX6_takeLetter.2.1 83 = .ok (.aload_n 0, 1) := by decide +kernel
theorem dX6_takeLetter_84 : decode mX6_takeLetter.2.1 84 = .ok (.getfield 35, 3) := by decide +kernel
theorem dX6_takeLetter_87 : decode mX6_takeLetter.2.1 87 = .ok (.dup, 1) := by decide +kernel
theorem dX6_takeLetter_88 : decode mX6_takeLetter.2.1 88 = .ok (.getfield 97, 3) := by decide +kernel
theorem dX6_takeLetter_91 : decode mX6_takeLetter.2.1 91 = .ok (.iconst 1, 1) := by decide +kernel
theorem dX6_takeLetter_92 : decode mX6_takeLetter.2.1 92 = .ok (.iadd, 1) := by decide +kernel
theorem dX6_takeLetter_93 : decode mX6_takeLetter.2.1 93 = .ok (.putfield 97, 3) := by decide +kernel
theorem dX6_takeLetter_96 : decode mX6_takeLetter.2.1 96 = .ok (.aload_n 0, 1) := by decide +kernel
theorem dX6_takeLetter_97 : decode mX6_takeLetter.2.1 97 = .ok (.getfield 35, 3) := by decide +kernel
theorem dX6_takeLetter_100 : decode mX6_takeLetter.2.1 100 = .ok (.iload_n 1, 1) := by decide +kernel
theorem dX6_takeLetter_101 : decode mX6_takeLetter.2.1 101 = .ok (.iload_n 2, 1) := by decide +kernel
theorem dX6_takeLetter_102 : decode mX6_takeLetter.2.1 102 = .ok (.iload_n 3, 1) := by decide +kernel
theorem dX6_takeLetter_103 : decode mX6_takeLetter.2.1 103 = .ok (.iload 4, 2) := by decide +kernel
theorem dX6_takeLetter_105 : decode mX6_takeLetter.2.1 105 = .ok (.iload 5, 2) := by decide +kernel
theorem dX6_takeLetter_107 : decode mX6_takeLetter.2.1 107 = .ok (.invokevirtual 118, 3) := by decide +kernel
theorem dX6_takeLetter_110 : decode mX6_takeLetter.2.1 110 = .ok (.aload_n 0, 1) := by decide +kernel
theorem dX6_takeLetter_111 : decode mX6_takeLetter.2.1 111 = .ok (.getfield 35, 3) := by decide +kernel
theorem dX6_takeLetter_114 : decode mX6_takeLetter.2.1 114 = .ok (.getfield 97, 3) := by decide +kernel
theorem dX6_takeLetter_117 : decode mX6_takeLetter.2.1 117 = .ok (.ireturn, 1) := by decide +kernel
def fn_X6_takeLetter_b68 (x1 : Int32) (x2 : Int32) (x3 : Int32) (x4 : Int32) (x5 : Int32)   (σ : Sg) : Option (Int32 × Sg) :=
  (if (σ 10 0) < 12 then (Option.bind (fn_X2_setLast 10 x1 x2 x3 x4 x5 (ag_up σ 10 0 ((σ 10 0) + 1))) fun q76 =>
  (some ((q76 10 0), q76)))
  else (some ((-4), σ)))
set_option maxRecDepth 20000 in
set_option maxHeartbeats 4000000 in
theorem ev_X6_takeLetter_b68 (x1 : Int32) (x2 : Int32) (x3 : Int32) (x4 : Int32) (x5 : Int32)   (σ : Sg) : Ev mX6_takeLetter 1 26 jW 68 [(0, .ref 0), (1, .int x1), (2, .int x2), (3, .int x3), (4, .int x4), (5, .int x5)] [] σ (fn_X6_takeLetter_b68 x1 x2 x3 x4 x5  σ) := by
  unfold fn_X6_takeLetter_b68
  refine ev_aload_n (pc := 68) (i := 0) 0 dX6_takeLetter_68 rfl rfl ?_
  refine ev_getR (pc := 69) (t := 10) 4 ag_C6 (rfl) (by decide) (Nat.le_of_ble_eq_true rfl) rfl rfl ag_fl_X6_35 dX6_takeLetter_69 ?_
  refine ev_getI (pc := 72) 0 ag_C2 (rfl) (by decide) (Nat.le_of_ble_eq_true rfl) rfl rfl ag_fl_X6_97 dX6_takeLetter_72 ?_
  refine ev_bipush (pc := 75) (v := 12) dX6_takeLetter_75 (by decide) ?_
  refine ev_icmp_lt (pc := 77) (tgt := 83) dX6_takeLetter_77 rfl ?_ ?_
  · refine ev_aload_n (pc := 83) (i := 0) 0 dX6_takeLetter_83 rfl rfl ?_
    refine ev_getR (pc := 84) (t := 10) 4 ag_C6 (rfl) (by decide) (Nat.le_of_ble_eq_true rfl) rfl rfl ag_fl_X6_35 dX6_takeLetter_84 ?_
    refine ev_dup (pc := 87) dX6_takeLetter_87 rfl ?_
    refine ev_getI (pc := 88) 0 ag_C2 (rfl) (by decide) (Nat.le_of_ble_eq_true rfl) rfl rfl ag_fl_X6_97 dX6_takeLetter_88 ?_
    refine ev_iconst (pc := 91) (v := 1) dX6_takeLetter_91 (by decide) ?_
    refine ev_iadd (pc := 92) dX6_takeLetter_92 ?_
    refine ev_put (pc := 93) 0 ag_C2 (rfl) (by decide) (Nat.le_of_ble_eq_true rfl) rfl rfl ag_fl_X6_97 rfl rfl rfl dX6_takeLetter_93 ?_
    refine ev_aload_n (pc := 96) (i := 0) 0 dX6_takeLetter_96 rfl rfl ?_
    refine ev_getR (pc := 97) (t := 10) 4 ag_C6 (rfl) (by decide) (Nat.le_of_ble_eq_true rfl) rfl rfl ag_fl_X6_35 dX6_takeLetter_97 ?_
    refine ev_iload_n (pc := 100) (i := 1) 1 dX6_takeLetter_100 rfl rfl ?_
    refine ev_iload_n (pc := 101) (i := 2) 2 dX6_takeLetter_101 rfl rfl ?_
    refine ev_iload_n (pc := 102) (i := 3) 3 dX6_takeLetter_102 rfl rfl ?_
    refine ev_iload (pc := 103) 4 dX6_takeLetter_103 rfl ?_
    refine ev_iload (pc := 105) 5 dX6_takeLetter_105 rfl ?_
    refine ev_vV (pc := 107) (as := [.int x1, .int x2, .int x3, .int x4, .int x5]) (rest := []) ⟨2, 118, 6, TX2, tyX2, ag_C2, ⟨(rfl), (by decide)⟩, mv_X2_setLast, ag_ml_X6_118, rfl, (Nat.le_of_ble_eq_true rfl), ⟨(Nat.le_of_ble_eq_true rfl), (Nat.le_of_ble_eq_true rfl)⟩, dX6_takeLetter_107⟩ (im_X2_setLast 10 (Or.inl rfl) x1 x2 x3 x4 x5 (ag_up σ 10 0 ((σ 10 0) + 1))) (fun q76 => ?_)
    refine ev_aload_n (pc := 110) (i := 0) 0 dX6_takeLetter_110 rfl rfl ?_
    refine ev_getR (pc := 111) (t := 10) 4 ag_C6 (rfl) (by decide) (Nat.le_of_ble_eq_true rfl) rfl rfl ag_fl_X6_35 dX6_takeLetter_111 ?_
    refine ev_getI (pc := 114) 0 ag_C2 (rfl) (by decide) (Nat.le_of_ble_eq_true rfl) rfl rfl ag_fl_X6_97 dX6_takeLetter_114 ?_
    exact ev_irW rfl dX6_takeLetter_117
  · refine ev_bipush (pc := 80) (v := (-4)) dX6_takeLetter_80 (by decide) ?_
    exact ev_irW rfl dX6_takeLetter_82
def fn_X6_takeLetter (x1 : Int32) (x2 : Int32) (x3 : Int32) (x4 : Int32) (x5 : Int32) (σ : Sg) : Option (Int32 × Sg) :=
  (Option.bind (fn_X6_isBelow x1 10 σ) fun q77 =>
  (if q77 = 0 then (some ((-2), σ))
  else (Option.bind (fn_X6_isBelow x2 10 σ) fun q78 =>
  (if q78 = 0 then (some ((-2), σ))
  else (if x1 = x2 then (some ((-2), σ))
  else (Option.bind (fn_X6_isBelow x3 200 σ) fun q79 =>
  (if q79 = 0 then (some ((-2), σ))
  else (Option.bind (fn_X6_isBelow x4 8 σ) fun q80 =>
  (if q80 = 0 then (some ((-2), σ))
  else (if x5 = (-1) then (fn_X6_takeLetter_b68 x1 x2 x3 x4 x5 σ)
  else (Option.bind (fn_X6_isBelow x5 8 σ) fun q81 =>
  (if q81 = 0 then (some ((-2), σ))
  else (fn_X6_takeLetter_b68 x1 x2 x3 x4 x5 σ)))))))))))))
set_option maxRecDepth 20000 in
set_option maxHeartbeats 4000000 in
theorem im_X6_takeLetter (x1 : Int32) (x2 : Int32) (x3 : Int32) (x4 : Int32) (x5 : Int32) (σ : Sg) : Im yX6_takeLetter mX6_takeLetter 1 26 jW [.ref 0, .int x1, .int x2, .int x3, .int x4, .int x5] σ (fn_X6_takeLetter x1 x2 x3 x4 x5 σ) := by
  refine Im.of (by decide +kernel) rfl rfl (Nat.le_of_ble_eq_true rfl) ?_
  show Ev mX6_takeLetter 1 26 jW 0 [(0, .ref 0), (1, .int x1), (2, .int x2), (3, .int x3), (4, .int x4), (5, .int x5)] [] σ (fn_X6_takeLetter x1 x2 x3 x4 x5 σ)
  unfold fn_X6_takeLetter
  refine ev_iload_n (pc := 0) (i := 1) 1 dX6_takeLetter_0 rfl rfl ?_
  refine ev_bipush (pc := 1) (v := 10) dX6_takeLetter_1 (by decide) ?_
  refine ev_sI (pc := 3) (as := [.int x1, .int 10]) (rest := []) ⟨83, ms_X6_isBelow, ag_ml_X6_83, rfl, (Nat.le_of_ble_eq_true rfl), ⟨(Nat.le_of_ble_eq_true rfl), (Nat.le_of_ble_eq_true rfl)⟩, dX6_takeLetter_3⟩ (im_X6_isBelow x1 10 σ) (fun q77 => ?_)
  refine ev_if_eq (pc := 6) (tgt := 23) dX6_takeLetter_6 rfl ?_ ?_
  · refine ev_bipush (pc := 23) (v := (-2)) dX6_takeLetter_23 (by decide) ?_
    exact ev_irW rfl dX6_takeLetter_25
  · refine ev_iload_n (pc := 9) (i := 2) 2 dX6_takeLetter_9 rfl rfl ?_
    refine ev_bipush (pc := 10) (v := 10) dX6_takeLetter_10 (by decide) ?_
    refine ev_sI (pc := 12) (as := [.int x2, .int 10]) (rest := []) ⟨83, ms_X6_isBelow, ag_ml_X6_83, rfl, (Nat.le_of_ble_eq_true rfl), ⟨(Nat.le_of_ble_eq_true rfl), (Nat.le_of_ble_eq_true rfl)⟩, dX6_takeLetter_12⟩ (im_X6_isBelow x2 10 σ) (fun q78 => ?_)
    refine ev_if_eq (pc := 15) (tgt := 23) dX6_takeLetter_15 rfl ?_ ?_
    · refine ev_bipush (pc := 23) (v := (-2)) dX6_takeLetter_23 (by decide) ?_
      exact ev_irW rfl dX6_takeLetter_25
    · refine ev_iload_n (pc := 18) (i := 1) 1 dX6_takeLetter_18 rfl rfl ?_
      refine ev_iload_n (pc := 19) (i := 2) 2 dX6_takeLetter_19 rfl rfl ?_
      refine ev_icmp_ne (pc := 20) (tgt := 26) dX6_takeLetter_20 rfl ?_ ?_
      · refine ev_bipush (pc := 23) (v := (-2)) dX6_takeLetter_23 (by decide) ?_
        exact ev_irW rfl dX6_takeLetter_25
      · refine ev_iload_n (pc := 26) (i := 3) 3 dX6_takeLetter_26 rfl rfl ?_
        refine ev_sipush (pc := 27) (v := 200) dX6_takeLetter_27 (by decide) ?_
        refine ev_sI (pc := 30) (as := [.int x3, .int 200]) (rest := []) ⟨83, ms_X6_isBelow, ag_ml_X6_83, rfl, (Nat.le_of_ble_eq_true rfl), ⟨(Nat.le_of_ble_eq_true rfl), (Nat.le_of_ble_eq_true rfl)⟩, dX6_takeLetter_30⟩ (im_X6_isBelow x3 200 σ) (fun q79 => ?_)
        refine ev_if_eq (pc := 33) (tgt := 46) dX6_takeLetter_33 rfl ?_ ?_
        · refine ev_bipush (pc := 46) (v := (-2)) dX6_takeLetter_46 (by decide) ?_
          exact ev_irW rfl dX6_takeLetter_48
        · refine ev_iload (pc := 36) 4 dX6_takeLetter_36 rfl ?_
          refine ev_bipush (pc := 38) (v := 8) dX6_takeLetter_38 (by decide) ?_
          refine ev_sI (pc := 40) (as := [.int x4, .int 8]) (rest := []) ⟨83, ms_X6_isBelow, ag_ml_X6_83, rfl, (Nat.le_of_ble_eq_true rfl), ⟨(Nat.le_of_ble_eq_true rfl), (Nat.le_of_ble_eq_true rfl)⟩, dX6_takeLetter_40⟩ (im_X6_isBelow x4 8 σ) (fun q80 => ?_)
          refine ev_if_ne (pc := 43) (tgt := 49) dX6_takeLetter_43 rfl ?_ ?_
          · refine ev_bipush (pc := 46) (v := (-2)) dX6_takeLetter_46 (by decide) ?_
            exact ev_irW rfl dX6_takeLetter_48
          · refine ev_iload (pc := 49) 5 dX6_takeLetter_49 rfl ?_
            refine ev_iconst (pc := 51) (v := (-1)) dX6_takeLetter_51 (by decide) ?_
            refine ev_icmp_eq (pc := 52) (tgt := 68) dX6_takeLetter_52 rfl ?_ ?_
            · exact ev_X6_takeLetter_b68 x1 x2 x3 x4 x5 σ
            · refine ev_iload (pc := 55) 5 dX6_takeLetter_55 rfl ?_
              refine ev_bipush (pc := 57) (v := 8) dX6_takeLetter_57 (by decide) ?_
              refine ev_sI (pc := 59) (as := [.int x5, .int 8]) (rest := []) ⟨83, ms_X6_isBelow, ag_ml_X6_83, rfl, (Nat.le_of_ble_eq_true rfl), ⟨(Nat.le_of_ble_eq_true rfl), (Nat.le_of_ble_eq_true rfl)⟩, dX6_takeLetter_59⟩ (im_X6_isBelow x5 8 σ) (fun q81 => ?_)
              refine ev_if_ne (pc := 62) (tgt := 68) dX6_takeLetter_62 rfl ?_ ?_
              · refine ev_bipush (pc := 65) (v := (-2)) dX6_takeLetter_65 (by decide) ?_
                exact ev_irW rfl dX6_takeLetter_67
              · exact ev_X6_takeLetter_b68 x1 x2 x3 x4 x5 σ
-- X6_letter
def mX6_letter : Md := (RX6, cX6_letter, 7, some .int, none)
theorem mv_X6_letter : ag_Mv yX6_letter mX6_letter 5 := ⟨ag_co_X6_letter, ag_im_X6_letter, ag_se_X6_letter, ag_ini_X6, by decide +kernel⟩
theorem dX6_letter_0 : decode mX6_letter.2.1 0 = .ok (.aload_n 0, 1) := by decide +kernel
theorem dX6_letter_1 : decode mX6_letter.2.1 1 = .ok (.iload_n 1, 1) := by decide +kernel
theorem dX6_letter_2 : decode mX6_letter.2.1 2 = .ok (.iload_n 2, 1) := by decide +kernel
theorem dX6_letter_3 : decode mX6_letter.2.1 3 = .ok (.iload_n 3, 1) := by decide +kernel
theorem dX6_letter_4 : decode mX6_letter.2.1 4 = .ok (.iload 4, 2) := by decide +kernel
theorem dX6_letter_6 : decode mX6_letter.2.1 6 = .ok (.iload 5, 2) := by decide +kernel
theorem dX6_letter_8 : decode mX6_letter.2.1 8 = .ok (.invokevirtual 93, 3) := by decide +kernel
theorem dX6_letter_11 : decode mX6_letter.2.1 11 = .ok (.istore 6, 2) := by decide +kernel
theorem dX6_letter_13 : decode mX6_letter.2.1 13 = .ok (.iload 6, 2) := by decide +kernel
theorem dX6_letter_15 : decode mX6_letter.2.1 15 = .ok (.ifCond .le 10, 3) := by decide +kernel
theorem dX6_letter_18 : decode mX6_letter.2.1 18 = .ok (.aload_n 0, 1) := by decide +kernel
theorem dX6_letter_19 : decode mX6_letter.2.1 19 = .ok (.getfield 19, 3) := by decide +kernel
theorem dX6_letter_22 : decode mX6_letter.2.1 22 = .ok (.invokevirtual 90, 3) := by decide +kernel
theorem dX6_letter_25 : decode mX6_letter.2.1 25 = .ok (.iload 6, 2) := by decide +kernel
theorem dX6_letter_27 : decode mX6_letter.2.1 27 = .ok (.ireturn, 1) := by decide +kernel
def fn_X6_letter (n : Nat) (x1 : Int32) (x2 : Int32) (x3 : Int32) (x4 : Int32) (x5 : Int32) (σ : Sg) : Option (Int32 × Sg) :=
  (Option.bind (fn_X6_takeLetter x1 x2 x3 x4 x5 σ) fun q82 =>
  (if q82.1 ≤ 0 then (some (q82.1, q82.2))
  else (Option.bind (fn_X5_live n 3 q82.2) fun q83 =>
  (some (q82.1, q83)))))
set_option maxRecDepth 20000 in
set_option maxHeartbeats 4000000 in
theorem im_X6_letter (n : Nat) (x1 : Int32) (x2 : Int32) (x3 : Int32) (x4 : Int32) (x5 : Int32) (σ : Sg) : Im yX6_letter mX6_letter 4 93 jW [.ref 0, .int x1, .int x2, .int x3, .int x4, .int x5] σ (fn_X6_letter n x1 x2 x3 x4 x5 σ) := by
  refine Im.of (by decide +kernel) rfl rfl (Nat.le_of_ble_eq_true rfl) ?_
  show Ev mX6_letter 4 93 jW 0 [(0, .ref 0), (1, .int x1), (2, .int x2), (3, .int x3), (4, .int x4), (5, .int x5)] [] σ (fn_X6_letter n x1 x2 x3 x4 x5 σ)
  unfold fn_X6_letter
  refine ev_aload_n (pc := 0) (i := 0) 0 dX6_letter_0 rfl rfl ?_
  refine ev_iload_n (pc := 1) (i := 1) 1 dX6_letter_1 rfl rfl ?_
  refine ev_iload_n (pc := 2) (i := 2) 2 dX6_letter_2 rfl rfl ?_
  refine ev_iload_n (pc := 3) (i := 3) 3 dX6_letter_3 rfl rfl ?_
  refine ev_iload (pc := 4) 4 dX6_letter_4 rfl ?_
  refine ev_iload (pc := 6) 5 dX6_letter_6 rfl ?_
  refine ev_vW (pc := 8) (as := [.int x1, .int x2, .int x3, .int x4, .int x5]) (rest := []) ⟨6, 93, 8, TX6, tyX6, ag_C6, ⟨(rfl), (by decide)⟩, mv_X6_takeLetter, ag_ml_X6_93, rfl, (Nat.le_of_ble_eq_true rfl), ⟨(Nat.le_of_ble_eq_true rfl), (Nat.le_of_ble_eq_true rfl)⟩, dX6_letter_8⟩ (im_X6_takeLetter x1 x2 x3 x4 x5 σ) (fun q82 => ?_)
  refine ev_istore (pc := 11) (lv' := [(6, .int q82.1), (0, .ref 0), (1, .int x1), (2, .int x2), (3, .int x3), (4, .int x4), (5, .int x5)]) dX6_letter_11 (Nat.le_of_ble_eq_true rfl) rfl ?_
  refine ev_iload (pc := 13) 0 dX6_letter_13 rfl ?_
  refine ev_if_le (pc := 15) (tgt := 25) dX6_letter_15 rfl ?_ ?_
  · refine ev_iload (pc := 25) 0 dX6_letter_25 rfl ?_
    exact ev_irW rfl dX6_letter_27
  · refine ev_aload_n (pc := 18) (i := 0) 1 dX6_letter_18 rfl rfl ?_
    refine ev_getR (pc := 19) (t := 3) 1 ag_C6 (rfl) (by decide) (Nat.le_of_ble_eq_true rfl) rfl rfl ag_fl_X6_19 dX6_letter_19 ?_
    refine ev_vV (pc := 22) (as := []) (rest := []) ⟨5, 90, 10, TX5, tyX5, ag_C5, ⟨(rfl), (by decide)⟩, mv_X5_live, ag_ml_X6_90, rfl, (Nat.le_of_ble_eq_true rfl), ⟨(Nat.le_of_ble_eq_true rfl), (Nat.le_of_ble_eq_true rfl)⟩, dX6_letter_22⟩ (im_X5_live n 3 (Or.inl rfl) q82.2) (fun q83 => ?_)
    refine ev_iload (pc := 25) 0 dX6_letter_25 rfl ?_
    exact ev_irW rfl dX6_letter_27
-- X6_back
def mX6_back : Md := (RX6, cX6_back, 1, some .int, none)
theorem mv_X6_back : ag_Mv yX6_back mX6_back 0 := ⟨ag_co_X6_back, ag_im_X6_back, ag_se_X6_back, ag_ini_X6, by decide +kernel⟩
theorem dX6_back_0 : decode mX6_back.2.1 0 = .ok (.aload_n 0, 1) := by decide +kernel
theorem dX6_back_1 : decode mX6_back.2.1 1 = .ok (.getfield 35, 3) := by decide +kernel
theorem dX6_back_4 : decode mX6_back.2.1 4 = .ok (.getfield 97, 3) := by decide +kernel
theorem dX6_back_7 : decode mX6_back.2.1 7 = .ok (.ifCond .ne 6, 3) := by decide +kernel
theorem dX6_back_10 : decode mX6_back.2.1 10 = .ok (.bipush (-3), 2) := by decide +kernel
theorem dX6_back_12 : decode mX6_back.2.1 12 = .ok (.ireturn, 1) := by decide +kernel
theorem dX6_back_13 : decode mX6_back.2.1 13 = .ok (.aload_n 0, 1) := by decide +kernel
theorem dX6_back_14 : decode mX6_back.2.1 14 = .ok (.getfield 35, 3) := by decide +kernel
theorem dX6_back_17 : decode mX6_back.2.1 17 = .ok (.dup, 1) := by decide +kernel
theorem dX6_back_18 : decode mX6_back.2.1 18 = .ok (.getfield 97, 3) := by decide +kernel
theorem dX6_back_21 : decode mX6_back.2.1 21 = .ok (.iconst 1, 1) := by decide +kernel
theorem dX6_back_22 : decode mX6_back.2.1 22 = .ok (.isub, 1) := by decide +kernel
theorem dX6_back_23 : decode mX6_back.2.1 23 = .ok (.putfield 97, 3) := by decide +kernel
theorem dX6_back_26 : decode mX6_back.2.1 26 = .ok (.aload_n 0, 1) := by decide +kernel
theorem dX6_back_27 : decode mX6_back.2.1 27 = .ok (.getfield 19, 3) := by decide +kernel
theorem dX6_back_30 : decode mX6_back.2.1 30 = .ok (.invokevirtual 90, 3) := by decide +kernel
theorem dX6_back_33 : decode mX6_back.2.1 33 = .ok (.aload_n 0, 1) := by decide +kernel
theorem dX6_back_34 : decode mX6_back.2.1 34 = .ok (.getfield 35, 3) := by decide +kernel
theorem dX6_back_37 : decode mX6_back.2.1 37 = .ok (.getfield 97, 3) := by decide +kernel
theorem dX6_back_40 : decode mX6_back.2.1 40 = .ok (.ireturn, 1) := by decide +kernel
def fn_X6_back (n : Nat)  (σ : Sg) : Option (Int32 × Sg) :=
  (if (σ 10 0) = 0 then (some ((-3), σ))
  else (Option.bind (fn_X5_live n 3 (ag_up σ 10 0 ((σ 10 0) - 1))) fun q84 =>
  (some ((q84 10 0), q84))))
set_option maxRecDepth 20000 in
set_option maxHeartbeats 4000000 in
theorem im_X6_back (n : Nat)  (σ : Sg) : Im yX6_back mX6_back 4 93 jW [.ref 0] σ (fn_X6_back n  σ) := by
  refine Im.of (by decide +kernel) rfl rfl (Nat.le_of_ble_eq_true rfl) ?_
  show Ev mX6_back 4 93 jW 0 [(0, .ref 0)] [] σ (fn_X6_back n  σ)
  unfold fn_X6_back
  refine ev_aload_n (pc := 0) (i := 0) 0 dX6_back_0 rfl rfl ?_
  refine ev_getR (pc := 1) (t := 10) 4 ag_C6 (rfl) (by decide) (Nat.le_of_ble_eq_true rfl) rfl rfl ag_fl_X6_35 dX6_back_1 ?_
  refine ev_getI (pc := 4) 0 ag_C2 (rfl) (by decide) (Nat.le_of_ble_eq_true rfl) rfl rfl ag_fl_X6_97 dX6_back_4 ?_
  refine ev_if_ne (pc := 7) (tgt := 13) dX6_back_7 rfl ?_ ?_
  · refine ev_bipush (pc := 10) (v := (-3)) dX6_back_10 (by decide) ?_
    exact ev_irW rfl dX6_back_12
  · refine ev_aload_n (pc := 13) (i := 0) 0 dX6_back_13 rfl rfl ?_
    refine ev_getR (pc := 14) (t := 10) 4 ag_C6 (rfl) (by decide) (Nat.le_of_ble_eq_true rfl) rfl rfl ag_fl_X6_35 dX6_back_14 ?_
    refine ev_dup (pc := 17) dX6_back_17 rfl ?_
    refine ev_getI (pc := 18) 0 ag_C2 (rfl) (by decide) (Nat.le_of_ble_eq_true rfl) rfl rfl ag_fl_X6_97 dX6_back_18 ?_
    refine ev_iconst (pc := 21) (v := 1) dX6_back_21 (by decide) ?_
    refine ev_isub (pc := 22) dX6_back_22 ?_
    refine ev_put (pc := 23) 0 ag_C2 (rfl) (by decide) (Nat.le_of_ble_eq_true rfl) rfl rfl ag_fl_X6_97 rfl rfl rfl dX6_back_23 ?_
    refine ev_aload_n (pc := 26) (i := 0) 0 dX6_back_26 rfl rfl ?_
    refine ev_getR (pc := 27) (t := 3) 1 ag_C6 (rfl) (by decide) (Nat.le_of_ble_eq_true rfl) rfl rfl ag_fl_X6_19 dX6_back_27 ?_
    refine ev_vV (pc := 30) (as := []) (rest := []) ⟨5, 90, 10, TX5, tyX5, ag_C5, ⟨(rfl), (by decide)⟩, mv_X5_live, ag_ml_X6_90, rfl, (Nat.le_of_ble_eq_true rfl), ⟨(Nat.le_of_ble_eq_true rfl), (Nat.le_of_ble_eq_true rfl)⟩, dX6_back_30⟩ (im_X5_live n 3 (Or.inl rfl) (ag_up σ 10 0 ((σ 10 0) - 1))) (fun q84 => ?_)
    refine ev_aload_n (pc := 33) (i := 0) 0 dX6_back_33 rfl rfl ?_
    refine ev_getR (pc := 34) (t := 10) 4 ag_C6 (rfl) (by decide) (Nat.le_of_ble_eq_true rfl) rfl rfl ag_fl_X6_35 dX6_back_34 ?_
    refine ev_getI (pc := 37) 0 ag_C2 (rfl) (by decide) (Nat.le_of_ble_eq_true rfl) rfl rfl ag_fl_X6_97 dX6_back_37 ?_
    exact ev_irW rfl dX6_back_40
-- X6_find
def mX6_find : Md := (RX6, cX6_find, 2, some .int, none)
theorem mv_X6_find : ag_Mv yX6_find mX6_find 1 := ⟨ag_co_X6_find, ag_im_X6_find, ag_se_X6_find, ag_ini_X6, by decide +kernel⟩
theorem dX6_find_0 : decode mX6_find.2.1 0 = .ok (.aload_n 0, 1) := by decide +kernel
theorem dX6_find_1 : decode mX6_find.2.1 1 = .ok (.iload_n 1, 1) := by decide +kernel
theorem dX6_find_2 : decode mX6_find.2.1 2 = .ok (.putfield 50, 3) := by decide +kernel
theorem dX6_find_5 : decode mX6_find.2.1 5 = .ok (.bipush (-10), 2) := by decide +kernel
theorem dX6_find_7 : decode mX6_find.2.1 7 = .ok (.iload_n 1, 1) := by decide +kernel
theorem dX6_find_8 : decode mX6_find.2.1 8 = .ok (.isub, 1) := by decide +kernel
theorem dX6_find_9 : decode mX6_find.2.1 9 = .ok (.ireturn, 1) := by decide +kernel
def fn_X6_find (x1 : Int32) (σ : Sg) : Option (Int32 × Sg) :=
  (some (((-10) - x1), (ag_up σ 0 7 x1)))
set_option maxRecDepth 20000 in
set_option maxHeartbeats 4000000 in
theorem im_X6_find (x1 : Int32) (σ : Sg) : Im yX6_find mX6_find 0 0 jW [.ref 0, .int x1] σ (fn_X6_find x1 σ) := by
  refine Im.of (by decide +kernel) rfl rfl (Nat.le_of_ble_eq_true rfl) ?_
  show Ev mX6_find 0 0 jW 0 [(0, .ref 0), (1, .int x1)] [] σ (fn_X6_find x1 σ)
  unfold fn_X6_find
  refine ev_aload_n (pc := 0) (i := 0) 0 dX6_find_0 rfl rfl ?_
  refine ev_iload_n (pc := 1) (i := 1) 1 dX6_find_1 rfl rfl ?_
  refine ev_put (pc := 2) 7 ag_C6 (rfl) (by decide) (Nat.le_of_ble_eq_true rfl) rfl rfl ag_fl_X6_50 rfl rfl rfl dX6_find_2 ?_
  refine ev_bipush (pc := 5) (v := (-10)) dX6_find_5 (by decide) ?_
  refine ev_iload_n (pc := 7) (i := 1) 1 dX6_find_7 rfl rfl ?_
  refine ev_isub (pc := 8) dX6_find_8 ?_
  exact ev_irW rfl dX6_find_9
-- X6_read
def mX6_read : Md := (RX6, cX6_read, 6, some .int, none)
theorem mv_X6_read : ag_Mv yX6_read mX6_read 1 := ⟨ag_co_X6_read, ag_im_X6_read, ag_se_X6_read, ag_ini_X6, by decide +kernel⟩
theorem dX6_read_0 : decode mX6_read.2.1 0 = .ok (.iload_n 1, 1) := by decide +kernel
theorem dX6_read_1 : decode mX6_read.2.1 1 = .ok (.iconst 4, 1) := by decide +kernel
theorem dX6_read_2 : decode mX6_read.2.1 2 = .ok (.invokestatic 83, 3) := by decide +kernel
theorem dX6_read_5 : decode mX6_read.2.1 5 = .ok (.ifCond .ne 6, 3) := by decide +kernel
theorem dX6_read_8 : decode mX6_read.2.1 8 = .ok (.bipush (-2), 2) := by decide +kernel
theorem dX6_read_10 : decode mX6_read.2.1 10 = .ok (.ireturn, 1) := by decide +kernel
theorem dX6_read_11 : decode mX6_read.2.1 11 = .ok (.aload_n 0, 1) := by decide +kernel
theorem dX6_read_12 : decode mX6_read.2.1 12 = .ok (.getfield 45, 3) := by decide +kernel
theorem dX6_read_15 : decode mX6_read.2.1 15 = .ok (.iload_n 1, 1) := by decide +kernel
theorem dX6_read_16 : decode mX6_read.2.1 16 = .ok (.aaload, 1) := by decide +kernel
theorem dX6_read_17 : decode mX6_read.2.1 17 = .ok (.astore_n 2, 1) := by decide +kernel
theorem dX6_read_18 : decode mX6_read.2.1 18 = .ok (.aload_n 2, 1) := by decide +kernel
theorem dX6_read_19 : decode mX6_read.2.1 19 = .ok (.getfield 102, 3) := by decide +kernel
theorem dX6_read_22 : decode mX6_read.2.1 22 = .ok (.ifCond .eq 9, 3) := by decide +kernel
theorem dX6_read_25 : decode mX6_read.2.1 25 = .ok (.aload_n 0, 1) := by decide +kernel
theorem dX6_read_26 : decode mX6_read.2.1 26 = .ok (.iconst 1, 1) := by decide +kernel
theorem dX6_read_27 : decode mX6_read.2.1 27 = .ok (.invokevirtual 106, 3) := by decide +kernel
theorem dX6_read_30 : decode mX6_read.2.1 30 = .ok (.ireturn, 1) := by decide +kernel
theorem dX6_read_31 : decode mX6_read.2.1 31 = .ok (.iconst 0, 1) := by decide +kernel
theorem dX6_read_32 : decode mX6_read.2.1 32 = .ok (.istore_n 3, 1) := by decide +kernel
theorem dX6_read_33 : decode mX6_read.2.1 33 = .ok (.iconst 0, 1) := by decide +kernel
theorem dX6_read_34 : decode mX6_read.2.1 34 = .ok (.istore 4, 2) := by decide +kernel
theorem dX6_read_36 : decode mX6_read.2.1 36 = .ok (.iload 4, 2) := by decide +kernel
theorem dX6_read_38 : decode mX6_read.2.1 38 = .ok (.iconst 5, 1) := by decide +kernel
theorem dX6_read_39 : decode mX6_read.2.1 39 = .ok (.iadd, 1) := by decide +kernel
theorem dX6_read_40 : decode mX6_read.2.1 40 = .ok (.aload_n 2, 1) := by decide +kernel
theorem dX6_read_41 : decode mX6_read.2.1 41 = .ok (.getfield 110, 3) := by decide +kernel
theorem dX6_read_44 : decode mX6_read.2.1 44 = .ok (.if_icmp .gt 61, 3) := by decide +kernel
theorem dX6_read_47 : decode mX6_read.2.1 47 = .ok (.aload_n 2, 1) := by decide +kernel
theorem dX6_read_48 : decode mX6_read.2.1 48 = .ok (.getfield 111, 3) := by decide +kernel
theorem dX6_read_51 : decode mX6_read.2.1 51 = .ok (.astore 5, 2) := by decide +kernel
theorem dX6_read_53 : decode mX6_read.2.1 53 = .ok (.aload_n 0, 1) := by decide +kernel
theorem dX6_read_54 : decode mX6_read.2.1 54 = .ok (.aload 5, 2) := by decide +kernel
theorem dX6_read_56 : decode mX6_read.2.1 56 = .ok (.iload 4, 2) := by decide +kernel
theorem dX6_read_58 : decode mX6_read.2.1 58 = .ok (.iaload, 1) := by decide +kernel
theorem dX6_read_59 : decode mX6_read.2.1 59 = .ok (.aload 5, 2) := by decide +kernel
theorem dX6_read_61 : decode mX6_read.2.1 61 = .ok (.iload 4, 2) := by decide +kernel
theorem dX6_read_63 : decode mX6_read.2.1 63 = .ok (.iconst 1, 1) := by decide +kernel
theorem dX6_read_64 : decode mX6_read.2.1 64 = .ok (.iadd, 1) := by decide +kernel
theorem dX6_read_65 : decode mX6_read.2.1 65 = .ok (.iaload, 1) := by decide +kernel
theorem dX6_read_66 : decode mX6_read.2.1 66 = .ok (.aload 5, 2) := by decide +kernel
theorem dX6_read_68 : decode mX6_read.2.1 68 = .ok (.iload 4, 2) := by decide +kernel
theorem dX6_read_70 : decode mX6_read.2.1 70 = .ok (.iconst 2, 1) := by decide +kernel
theorem dX6_read_71 : decode mX6_read.2.1 71 = .ok (.iadd, 1) := by decide +kernel
theorem dX6_read_72 : decode mX6_read.2.1 72 = .ok (.iaload, 1) := by decide +kernel
theorem dX6_read_73 : decode mX6_read.2.1 73 = .ok (.aload 5, 2) := by decide +kernel
theorem dX6_read_75 : decode mX6_read.2.1 75 = .ok (.iload 4, 2) := by decide +kernel
theorem dX6_read_77 : decode mX6_read.2.1 77 = .ok (.iconst 3, 1) := by decide +kernel
theorem dX6_read_78 : decode mX6_read.2.1 78 = .ok (.iadd, 1) := by decide +kernel
theorem dX6_read_79 : decode mX6_read.2.1 79 = .ok (.iaload, 1) := by decide +kernel
theorem dX6_read_80 : decode mX6_read.2.1 80 = .ok (.aload 5, 2) := by decide +kernel
theorem dX6_read_82 : decode mX6_read.2.1 82 = .ok (.iload 4, 2) := by decide +kernel
theorem dX6_read_84 : decode mX6_read.2.1 84 = .ok (.iconst 4, 1) := by decide +kernel
theorem dX6_read_85 : decode mX6_read.2.1 85 = .ok (.iadd, 1) := by decide +kernel
theorem dX6_read_86 : decode mX6_read.2.1 86 = .ok (.iaload, 1) := by decide +kernel
theorem dX6_read_87 : decode mX6_read.2.1 87 = .ok (.invokevirtual 93, 3) := by decide +kernel
theorem dX6_read_90 : decode mX6_read.2.1 90 = .ok (.ifCond .ge 6, 3) := by decide +kernel
theorem dX6_read_93 : decode mX6_read.2.1 93 = .ok (.goto 12, 3) := by decide +kernel
theorem dX6_read_96 : decode mX6_read.2.1 96 = .ok (.iinc 3 1, 3) := by decide +kernel
theorem dX6_read_99 : decode mX6_read.2.1 99 = .ok (.iinc 4 5, 3) := by decide +kernel
theorem dX6_read_102 : decode mX6_read.2.1 102 = .ok (.goto (-66), 3) := by decide +kernel
theorem dX6_read_105 : decode mX6_read.2.1 105 = .ok (.aload_n 0, 1) := by decide +kernel
theorem dX6_read_106 : decode mX6_read.2.1 106 = .ok (.getfield 19, 3) := by decide +kernel
theorem dX6_read_109 : decode mX6_read.2.1 109 = .ok (.invokevirtual 90, 3) := by decide +kernel
theorem dX6_read_112 : decode mX6_read.2.1 112 = .ok (.iload_n 3, 1) := by decide +kernel
theorem dX6_read_113 : decode mX6_read.2.1 113 = .ok (.ireturn, 1) := by decide +kernel
def fn_X6_read_b105 (n : Nat) (x1 : Int32)  (v3 : Int32) (σ : Sg) : Option (Int32 × Sg) :=
  (Option.bind (fn_X5_live n 3 σ) fun q85 =>
  (some (v3, q85)))
set_option maxRecDepth 20000 in
set_option maxHeartbeats 4000000 in
theorem ev_X6_read_b105 (n : Nat) (x1 : Int32)  (v3 : Int32) (σ : Sg) : Ev mX6_read 4 93 jW 105 [(0, .ref 0), (1, .int x1), (3, .int v3)] [] σ (fn_X6_read_b105 n x1 v3 σ) := by
  unfold fn_X6_read_b105
  refine ev_aload_n (pc := 105) (i := 0) 0 dX6_read_105 rfl rfl ?_
  refine ev_getR (pc := 106) (t := 3) 1 ag_C6 (rfl) (by decide) (Nat.le_of_ble_eq_true rfl) rfl rfl ag_fl_X6_19 dX6_read_106 ?_
  refine ev_vV (pc := 109) (as := []) (rest := []) ⟨5, 90, 10, TX5, tyX5, ag_C5, ⟨(rfl), (by decide)⟩, mv_X5_live, ag_ml_X6_90, rfl, (Nat.le_of_ble_eq_true rfl), ⟨(Nat.le_of_ble_eq_true rfl), (Nat.le_of_ble_eq_true rfl)⟩, dX6_read_109⟩ (im_X5_live n 3 (Or.inl rfl) σ) (fun q85 => ?_)
  refine ev_iload_n (pc := 112) (i := 3) 2 dX6_read_112 rfl rfl ?_
  exact ev_irW rfl dX6_read_113
def fn_X6_read_b36 (n : Nat) (x1 : Int32)  : Nat → Nat → Int32 → Int32 → Sg → Option (Int32 × Sg)
  | 0 => fun _ _ _ _ => none
  | i + 1 => fun r2 v3 v4 σ =>
  (if (σ r2 2) < (v4 + 5) then (fn_X6_read_b105 n x1 v3 σ)
  else (if ag_ib v4 48 = true then (if ag_ib (v4 + 1) 48 = true then (if ag_ib (v4 + 2) 48 = true then (if ag_ib (v4 + 3) 48 = true then (if ag_ib (v4 + 4) 48 = true then (Option.bind (fn_X6_takeLetter (σ (r2 + 1) v4.toNatClampNeg) (σ (r2 + 1) (v4 + 1).toNatClampNeg) (σ (r2 + 1) (v4 + 2).toNatClampNeg) (σ (r2 + 1) (v4 + 3).toNatClampNeg) (σ (r2 + 1) (v4 + 4).toNatClampNeg) σ) fun q86 =>
  (if 0 ≤ q86.1 then ((fn_X6_read_b36 n x1 i) r2 (v3 + 1) (v4 + 5) q86.2)
  else (fn_X6_read_b105 n x1 v3 q86.2))) else none) else none) else none) else none) else none))
theorem fn_X6_read_b36_s (n : Nat) (x1 : Int32)  (i : Nat) (r2 : Nat) (v3 : Int32) (v4 : Int32) (σ : Sg) : fn_X6_read_b36 n x1 (i + 1) r2 v3 v4 σ =
  (if (σ r2 2) < (v4 + 5) then (fn_X6_read_b105 n x1 v3 σ)
  else (if ag_ib v4 48 = true then (if ag_ib (v4 + 1) 48 = true then (if ag_ib (v4 + 2) 48 = true then (if ag_ib (v4 + 3) 48 = true then (if ag_ib (v4 + 4) 48 = true then (Option.bind (fn_X6_takeLetter (σ (r2 + 1) v4.toNatClampNeg) (σ (r2 + 1) (v4 + 1).toNatClampNeg) (σ (r2 + 1) (v4 + 2).toNatClampNeg) (σ (r2 + 1) (v4 + 3).toNatClampNeg) (σ (r2 + 1) (v4 + 4).toNatClampNeg) σ) fun q86 =>
  (if 0 ≤ q86.1 then ((fn_X6_read_b36 n x1 i) r2 (v3 + 1) (v4 + 5) q86.2)
  else (fn_X6_read_b105 n x1 v3 q86.2))) else none) else none) else none) else none) else none)) := rfl
set_option maxRecDepth 20000 in
set_option maxHeartbeats 4000000 in
theorem ev_X6_read_b36 (n : Nat) (x1 : Int32)  : ∀ (i : Nat) (r2 : Nat) (hr2 : ag_R r2) (v3 : Int32) (v4 : Int32) (σ : Sg), Ev mX6_read 4 93 jW 36 [(0, .ref 0), (1, .int x1), (2, .ref r2), (3, .int v3), (4, .int v4)] [] σ (fn_X6_read_b36 n x1 i r2 v3 v4 σ) := by
  intro i
  induction i with
  | zero =>
    intro r2 hr2 v3 v4 σ
    exact ev_none
  | succ i ih =>
    intro r2 hr2 v3 v4 σ
    rw [fn_X6_read_b36_s]
    refine ev_iload (pc := 36) 4 dX6_read_36 rfl ?_
    refine ev_iconst (pc := 38) (v := 5) dX6_read_38 (by decide) ?_
    refine ev_iadd (pc := 39) dX6_read_39 ?_
    refine ev_aload_n (pc := 40) (i := 2) 2 dX6_read_40 rfl rfl ?_
    refine ev_getI (pc := 41) 2 ag_C3 (ag_Rk hr2).1 (ag_Rk hr2).2 (Nat.le_of_ble_eq_true rfl) (ag_Rt2 hr2) rfl ag_fl_X6_110 dX6_read_41 ?_
    refine ev_icmp_gt (pc := 44) (tgt := 105) dX6_read_44 rfl ?_ ?_
    · refine ev_sub [0, 1, 3] rfl ?_
      exact ev_X6_read_b105 n x1 v3 σ
    · refine ev_aload_n (pc := 47) (i := 2) 2 dX6_read_47 rfl rfl ?_
      refine ev_getR (pc := 48) (t := (r2 + 1)) 3 ag_C3 (ag_Rk hr2).1 (ag_Rk hr2).2 (Nat.le_of_ble_eq_true rfl) (ag_Rt3 hr2) rfl ag_fl_X6_111 dX6_read_48 ?_
      refine ev_astore (pc := 51) (lv' := [(5, .ref (r2 + 1)), (0, .ref 0), (1, .int x1), (2, .ref r2), (3, .int v3), (4, .int v4)]) dX6_read_51 (Nat.le_of_ble_eq_true rfl) rfl ?_
      refine ev_aload_n (pc := 53) (i := 0) 1 dX6_read_53 rfl rfl ?_
      refine ev_aload (pc := 54) 0 dX6_read_54 rfl ?_
      refine ev_iload (pc := 56) 5 dX6_read_56 rfl ?_
      refine ev_iald (pc := 58) (ag_Ra1 hr2).1 (ag_Ra1 hr2).2 dX6_read_58 ?_
      refine ev_aload (pc := 59) 0 dX6_read_59 rfl ?_
      refine ev_iload (pc := 61) 5 dX6_read_61 rfl ?_
      refine ev_iconst (pc := 63) (v := 1) dX6_read_63 (by decide) ?_
      refine ev_iadd (pc := 64) dX6_read_64 ?_
      refine ev_iald (pc := 65) (ag_Ra1 hr2).1 (ag_Ra1 hr2).2 dX6_read_65 ?_
      refine ev_aload (pc := 66) 0 dX6_read_66 rfl ?_
      refine ev_iload (pc := 68) 5 dX6_read_68 rfl ?_
      refine ev_iconst (pc := 70) (v := 2) dX6_read_70 (by decide) ?_
      refine ev_iadd (pc := 71) dX6_read_71 ?_
      refine ev_iald (pc := 72) (ag_Ra1 hr2).1 (ag_Ra1 hr2).2 dX6_read_72 ?_
      refine ev_aload (pc := 73) 0 dX6_read_73 rfl ?_
      refine ev_iload (pc := 75) 5 dX6_read_75 rfl ?_
      refine ev_iconst (pc := 77) (v := 3) dX6_read_77 (by decide) ?_
      refine ev_iadd (pc := 78) dX6_read_78 ?_
      refine ev_iald (pc := 79) (ag_Ra1 hr2).1 (ag_Ra1 hr2).2 dX6_read_79 ?_
      refine ev_aload (pc := 80) 0 dX6_read_80 rfl ?_
      refine ev_iload (pc := 82) 5 dX6_read_82 rfl ?_
      refine ev_iconst (pc := 84) (v := 4) dX6_read_84 (by decide) ?_
      refine ev_iadd (pc := 85) dX6_read_85 ?_
      refine ev_iald (pc := 86) (ag_Ra1 hr2).1 (ag_Ra1 hr2).2 dX6_read_86 ?_
      refine ev_vW (pc := 87) (as := [.int (σ (r2 + 1) v4.toNatClampNeg), .int (σ (r2 + 1) (v4 + 1).toNatClampNeg), .int (σ (r2 + 1) (v4 + 2).toNatClampNeg), .int (σ (r2 + 1) (v4 + 3).toNatClampNeg), .int (σ (r2 + 1) (v4 + 4).toNatClampNeg)]) (rest := []) ⟨6, 93, 8, TX6, tyX6, ag_C6, ⟨(rfl), (by decide)⟩, mv_X6_takeLetter, ag_ml_X6_93, rfl, (Nat.le_of_ble_eq_true rfl), ⟨(Nat.le_of_ble_eq_true rfl), (Nat.le_of_ble_eq_true rfl)⟩, dX6_read_87⟩ (im_X6_takeLetter (σ (r2 + 1) v4.toNatClampNeg) (σ (r2 + 1) (v4 + 1).toNatClampNeg) (σ (r2 + 1) (v4 + 2).toNatClampNeg) (σ (r2 + 1) (v4 + 3).toNatClampNeg) (σ (r2 + 1) (v4 + 4).toNatClampNeg) σ) (fun q86 => ?_)
      refine ev_if_ge (pc := 90) (tgt := 96) dX6_read_90 rfl ?_ ?_
      · refine ev_iinc (pc := 96) (v := (v3 + 1)) (lv' := [(3, .int (v3 + 1)), (5, .ref (r2 + 1)), (0, .ref 0), (1, .int x1), (2, .ref r2), (4, .int v4)]) 4 dX6_read_96 rfl rfl (Nat.le_of_ble_eq_true rfl) rfl ?_
        refine ev_iinc (pc := 99) (v := (v4 + 5)) (lv' := [(4, .int (v4 + 5)), (3, .int (v3 + 1)), (5, .ref (r2 + 1)), (0, .ref 0), (1, .int x1), (2, .ref r2)]) 5 dX6_read_99 rfl rfl (Nat.le_of_ble_eq_true rfl) rfl ?_
        refine ev_goto (pc := 102) (tgt := 36) dX6_read_102 rfl ?_
        refine ev_sub [3, 4, 5, 1, 0] rfl ?_
        exact ih r2 hr2 (v3 + 1) (v4 + 5) q86.2
      · refine ev_goto (pc := 93) (tgt := 105) dX6_read_93 rfl ?_
        refine ev_sub [1, 2, 4] rfl ?_
        exact ev_X6_read_b105 n x1 v3 q86.2
def fn_X6_read (n : Nat) (x1 : Int32) (σ : Sg) : Option (Int32 × Sg) :=
  (Option.bind (fn_X6_isBelow x1 4 σ) fun q87 =>
  (if q87 = 0 then (some ((-2), σ))
  else (if ag_ib x1 4 = true then (if (σ (45 + 2 * x1.toNatClampNeg) 0) = 0 then (fn_X6_read_b36 n x1 n (45 + 2 * x1.toNatClampNeg) 0 0 σ)
  else (Option.bind (fn_X6_find 1 σ) fun q89 =>
  (some (q89.1, q89.2)))) else none)))
set_option maxRecDepth 20000 in
set_option maxHeartbeats 4000000 in
theorem im_X6_read (n : Nat) (x1 : Int32) (σ : Sg) : Im yX6_read mX6_read 4 93 jW [.ref 0, .int x1] σ (fn_X6_read n x1 σ) := by
  refine Im.of (by decide +kernel) rfl rfl (Nat.le_of_ble_eq_true rfl) ?_
  show Ev mX6_read 4 93 jW 0 [(0, .ref 0), (1, .int x1)] [] σ (fn_X6_read n x1 σ)
  unfold fn_X6_read
  refine ev_iload_n (pc := 0) (i := 1) 1 dX6_read_0 rfl rfl ?_
  refine ev_iconst (pc := 1) (v := 4) dX6_read_1 (by decide) ?_
  refine ev_sI (pc := 2) (as := [.int x1, .int 4]) (rest := []) ⟨83, ms_X6_isBelow, ag_ml_X6_83, rfl, (Nat.le_of_ble_eq_true rfl), ⟨(Nat.le_of_ble_eq_true rfl), (Nat.le_of_ble_eq_true rfl)⟩, dX6_read_2⟩ (im_X6_isBelow x1 4 σ) (fun q87 => ?_)
  refine ev_if_ne (pc := 5) (tgt := 11) dX6_read_5 rfl ?_ ?_
  · refine ev_bipush (pc := 8) (v := (-2)) dX6_read_8 (by decide) ?_
    exact ev_irW rfl dX6_read_10
  · refine ev_aload_n (pc := 11) (i := 0) 0 dX6_read_11 rfl rfl ?_
    refine ev_getR (pc := 12) (t := 44) 6 ag_C6 (rfl) (by decide) (Nat.le_of_ble_eq_true rfl) rfl rfl ag_fl_X6_45 dX6_read_12 ?_
    refine ev_iload_n (pc := 15) (i := 1) 1 dX6_read_15 rfl rfl ?_
    refine ev_aald (pc := 16) (rfl) (by decide) dX6_read_16 (fun hg88 => ?_)
    refine ev_astore_n (pc := 17) (i := 2) (lv' := [(2, .ref (45 + 2 * x1.toNatClampNeg)), (0, .ref 0), (1, .int x1)]) dX6_read_17 rfl (Nat.le_of_ble_eq_true rfl) rfl ?_
    refine ev_aload_n (pc := 18) (i := 2) 0 dX6_read_18 rfl rfl ?_
    refine ev_getI (pc := 19) 0 ag_C3 (ag_Rk (ag_RR hg88)).1 (ag_Rk (ag_RR hg88)).2 (Nat.le_of_ble_eq_true rfl) (ag_Rt0 (ag_RR hg88)) rfl ag_fl_X6_102 dX6_read_19 ?_
    refine ev_if_eq (pc := 22) (tgt := 31) dX6_read_22 rfl ?_ ?_
    · refine ev_iconst (pc := 31) (v := 0) dX6_read_31 (by decide) ?_
      refine ev_istore_n (pc := 32) (i := 3) (lv' := [(3, .int 0), (2, .ref (45 + 2 * x1.toNatClampNeg)), (0, .ref 0), (1, .int x1)]) dX6_read_32 rfl (Nat.le_of_ble_eq_true rfl) rfl ?_
      refine ev_iconst (pc := 33) (v := 0) dX6_read_33 (by decide) ?_
      refine ev_istore (pc := 34) (lv' := [(4, .int 0), (3, .int 0), (2, .ref (45 + 2 * x1.toNatClampNeg)), (0, .ref 0), (1, .int x1)]) dX6_read_34 (Nat.le_of_ble_eq_true rfl) rfl ?_
      refine ev_sub [3, 4, 2, 1, 0] rfl ?_
      exact ev_X6_read_b36 n x1 n (45 + 2 * x1.toNatClampNeg) (ag_RR hg88) 0 0 σ
    · refine ev_aload_n (pc := 25) (i := 0) 1 dX6_read_25 rfl rfl ?_
      refine ev_iconst (pc := 26) (v := 1) dX6_read_26 (by decide) ?_
      refine ev_vW (pc := 27) (as := [.int 1]) (rest := []) ⟨6, 106, 8, TX6, tyX6, ag_C6, ⟨(rfl), (by decide)⟩, mv_X6_find, ag_ml_X6_106, rfl, (Nat.le_of_ble_eq_true rfl), ⟨(Nat.le_of_ble_eq_true rfl), (Nat.le_of_ble_eq_true rfl)⟩, dX6_read_27⟩ (im_X6_find 1 σ) (fun q89 => ?_)
      exact ev_irW rfl dX6_read_30
-- X6_age
def mX6_age : Md := (RX6, cX6_age, 3, some .int, none)
theorem mv_X6_age : ag_Mv yX6_age mX6_age 2 := ⟨ag_co_X6_age, ag_im_X6_age, ag_se_X6_age, ag_ini_X6, by decide +kernel⟩
theorem dX6_age_0 : decode mX6_age.2.1 0 = .ok (.aload_n 0, 1) := by decide +kernel
theorem dX6_age_1 : decode mX6_age.2.1 1 = .ok (.getfield 30, 3) := by decide +kernel
theorem dX6_age_4 : decode mX6_age.2.1 4 = .ok (.iload_n 1, 1) := by decide +kernel
theorem dX6_age_5 : decode mX6_age.2.1 5 = .ok (.invokevirtual 68, 3) := by decide +kernel
theorem dX6_age_8 : decode mX6_age.2.1 8 = .ok (.ifCond .eq 13, 3) := by decide +kernel
theorem dX6_age_11 : decode mX6_age.2.1 11 = .ok (.iload_n 2, 1) := by decide +kernel
theorem dX6_age_12 : decode mX6_age.2.1 12 = .ok (.sipush 200, 3) := by decide +kernel
theorem dX6_age_15 : decode mX6_age.2.1 15 = .ok (.invokestatic 83, 3) := by decide +kernel
theorem dX6_age_18 : decode mX6_age.2.1 18 = .ok (.ifCond .ne 6, 3) := by decide +kernel
theorem dX6_age_21 : decode mX6_age.2.1 21 = .ok (.bipush (-2), 2) := by decide +kernel
theorem dX6_age_23 : decode mX6_age.2.1 23 = .ok (.ireturn, 1) := by decide +kernel
theorem dX6_age_24 : decode mX6_age.2.1 24 = .ok (.aload_n 0, 1) := by decide +kernel
theorem dX6_age_25 : decode mX6_age.2.1 25 = .ok (.getfield 30, 3) := by decide +kernel
theorem dX6_age_28 : decode mX6_age.2.1 28 = .ok (.iload_n 1, 1) := by decide +kernel
theorem dX6_age_29 : decode mX6_age.2.1 29 = .ok (.iload_n 2, 1) := by decide +kernel
theorem dX6_age_30 : decode mX6_age.2.1 30 = .ok (.invokevirtual 122, 3) := by decide +kernel
theorem dX6_age_33 : decode mX6_age.2.1 33 = .ok (.ifCond .eq 15, 3) := by decide +kernel
theorem dX6_age_36 : decode mX6_age.2.1 36 = .ok (.aload_n 0, 1) := by decide +kernel
theorem dX6_age_37 : decode mX6_age.2.1 37 = .ok (.getfield 30, 3) := by decide +kernel
theorem dX6_age_40 : decode mX6_age.2.1 40 = .ok (.iload_n 1, 1) := by decide +kernel
theorem dX6_age_41 : decode mX6_age.2.1 41 = .ok (.iload_n 2, 1) := by decide +kernel
theorem dX6_age_42 : decode mX6_age.2.1 42 = .ok (.invokevirtual 125, 3) := by decide +kernel
theorem dX6_age_45 : decode mX6_age.2.1 45 = .ok (.goto 4, 3) := by decide +kernel
theorem dX6_age_48 : decode mX6_age.2.1 48 = .ok (.iconst (-1), 1) := by decide +kernel
theorem dX6_age_49 : decode mX6_age.2.1 49 = .ok (.ireturn, 1) := by decide +kernel
def fn_X6_age (x1 : Int32) (x2 : Int32) (σ : Sg) : Option Int32 :=
  (Option.bind (fn_X1_isThere 4 x1 σ) fun q90 =>
  (if q90 = 0 then (some (-2))
  else (Option.bind (fn_X6_isBelow x2 200 σ) fun q91 =>
  (if q91 = 0 then (some (-2))
  else (Option.bind (fn_X1_lives 4 x1 x2 σ) fun q92 =>
  (if q92 = 0 then (some (-1))
  else (Option.bind (fn_X1_toldAge 4 x1 x2 σ) fun q93 =>
  (some q93))))))))
set_option maxRecDepth 20000 in
set_option maxHeartbeats 4000000 in
theorem im_X6_age (x1 : Int32) (x2 : Int32) (σ : Sg) : Im yX6_age mX6_age 1 22 (jI σ) [.ref 0, .int x1, .int x2] σ (fn_X6_age x1 x2 σ) := by
  refine Im.of (by decide +kernel) rfl rfl (Nat.le_of_ble_eq_true rfl) ?_
  show Ev mX6_age 1 22 (jI σ) 0 [(0, .ref 0), (1, .int x1), (2, .int x2)] [] σ (fn_X6_age x1 x2 σ)
  unfold fn_X6_age
  refine ev_aload_n (pc := 0) (i := 0) 0 dX6_age_0 rfl rfl ?_
  refine ev_getR (pc := 1) (t := 4) 3 ag_C6 (rfl) (by decide) (Nat.le_of_ble_eq_true rfl) rfl rfl ag_fl_X6_30 dX6_age_1 ?_
  refine ev_iload_n (pc := 4) (i := 1) 1 dX6_age_4 rfl rfl ?_
  refine ev_vI (pc := 5) (as := [.int x1]) (rest := []) ⟨1, 68, 6, TX1, tyX1, ag_C1, ⟨(rfl), (by decide)⟩, mv_X1_isThere, ag_ml_X6_68, rfl, (Nat.le_of_ble_eq_true rfl), ⟨(Nat.le_of_ble_eq_true rfl), (Nat.le_of_ble_eq_true rfl)⟩, dX6_age_5⟩ (im_X1_isThere 4 (Or.inl rfl) x1 σ) (fun q90 => ?_)
  refine ev_if_eq (pc := 8) (tgt := 21) dX6_age_8 rfl ?_ ?_
  · refine ev_bipush (pc := 21) (v := (-2)) dX6_age_21 (by decide) ?_
    exact ev_irI rfl dX6_age_23
  · refine ev_iload_n (pc := 11) (i := 2) 2 dX6_age_11 rfl rfl ?_
    refine ev_sipush (pc := 12) (v := 200) dX6_age_12 (by decide) ?_
    refine ev_sI (pc := 15) (as := [.int x2, .int 200]) (rest := []) ⟨83, ms_X6_isBelow, ag_ml_X6_83, rfl, (Nat.le_of_ble_eq_true rfl), ⟨(Nat.le_of_ble_eq_true rfl), (Nat.le_of_ble_eq_true rfl)⟩, dX6_age_15⟩ (im_X6_isBelow x2 200 σ) (fun q91 => ?_)
    refine ev_if_ne (pc := 18) (tgt := 24) dX6_age_18 rfl ?_ ?_
    · refine ev_bipush (pc := 21) (v := (-2)) dX6_age_21 (by decide) ?_
      exact ev_irI rfl dX6_age_23
    · refine ev_aload_n (pc := 24) (i := 0) 0 dX6_age_24 rfl rfl ?_
      refine ev_getR (pc := 25) (t := 4) 3 ag_C6 (rfl) (by decide) (Nat.le_of_ble_eq_true rfl) rfl rfl ag_fl_X6_30 dX6_age_25 ?_
      refine ev_iload_n (pc := 28) (i := 1) 1 dX6_age_28 rfl rfl ?_
      refine ev_iload_n (pc := 29) (i := 2) 2 dX6_age_29 rfl rfl ?_
      refine ev_vI (pc := 30) (as := [.int x1, .int x2]) (rest := []) ⟨1, 122, 6, TX1, tyX1, ag_C1, ⟨(rfl), (by decide)⟩, mv_X1_lives, ag_ml_X6_122, rfl, (Nat.le_of_ble_eq_true rfl), ⟨(Nat.le_of_ble_eq_true rfl), (Nat.le_of_ble_eq_true rfl)⟩, dX6_age_30⟩ (im_X1_lives 4 (Or.inl rfl) x1 x2 σ) (fun q92 => ?_)
      refine ev_if_eq (pc := 33) (tgt := 48) dX6_age_33 rfl ?_ ?_
      · refine ev_iconst (pc := 48) (v := (-1)) dX6_age_48 (by decide) ?_
        exact ev_irI rfl dX6_age_49
      · refine ev_aload_n (pc := 36) (i := 0) 0 dX6_age_36 rfl rfl ?_
        refine ev_getR (pc := 37) (t := 4) 3 ag_C6 (rfl) (by decide) (Nat.le_of_ble_eq_true rfl) rfl rfl ag_fl_X6_30 dX6_age_37 ?_
        refine ev_iload_n (pc := 40) (i := 1) 1 dX6_age_40 rfl rfl ?_
        refine ev_iload_n (pc := 41) (i := 2) 2 dX6_age_41 rfl rfl ?_
        refine ev_vI (pc := 42) (as := [.int x1, .int x2]) (rest := []) ⟨1, 125, 6, TX1, tyX1, ag_C1, ⟨(rfl), (by decide)⟩, mv_X1_toldAge, ag_ml_X6_125, rfl, (Nat.le_of_ble_eq_true rfl), ⟨(Nat.le_of_ble_eq_true rfl), (Nat.le_of_ble_eq_true rfl)⟩, dX6_age_42⟩ (im_X1_toldAge 4 (Or.inl rfl) x1 x2 σ) (fun q93 => ?_)
        refine ev_goto (pc := 45) (tgt := 49) dX6_age_45 rfl ?_
        exact ev_irI rfl dX6_age_49
-- X6_opened
def mX6_opened : Md := (RX6, cX6_opened, 2, some .int, none)
theorem mv_X6_opened : ag_Mv yX6_opened mX6_opened 1 := ⟨ag_co_X6_opened, ag_im_X6_opened, ag_se_X6_opened, ag_ini_X6, by decide +kernel⟩
theorem dX6_opened_0 : decode mX6_opened.2.1 0 = .ok (.iload_n 1, 1) := by decide +kernel
theorem dX6_opened_1 : decode mX6_opened.2.1 1 = .ok (.aload_n 0, 1) := by decide +kernel
theorem dX6_opened_2 : decode mX6_opened.2.1 2 = .ok (.getfield 35, 3) := by decide +kernel
theorem dX6_opened_5 : decode mX6_opened.2.1 5 = .ok (.getfield 97, 3) := by decide +kernel
theorem dX6_opened_8 : decode mX6_opened.2.1 8 = .ok (.invokestatic 83, 3) := by decide +kernel
theorem dX6_opened_11 : decode mX6_opened.2.1 11 = .ok (.ifCond .eq 14, 3) := by decide +kernel
theorem dX6_opened_14 : decode mX6_opened.2.1 14 = .ok (.aload_n 0, 1) := by decide +kernel
theorem dX6_opened_15 : decode mX6_opened.2.1 15 = .ok (.getfield 19, 3) := by decide +kernel
theorem dX6_opened_18 : decode mX6_opened.2.1 18 = .ok (.iload_n 1, 1) := by decide +kernel
theorem dX6_opened_19 : decode mX6_opened.2.1 19 = .ok (.invokevirtual 129, 3) := by decide +kernel
theorem dX6_opened_22 : decode mX6_opened.2.1 22 = .ok (.goto 5, 3) := by decide +kernel
theorem dX6_opened_25 : decode mX6_opened.2.1 25 = .ok (.bipush (-2), 2) := by decide +kernel
theorem dX6_opened_27 : decode mX6_opened.2.1 27 = .ok (.ireturn, 1) := by decide +kernel
def fn_X6_opened (x1 : Int32) (σ : Sg) : Option Int32 :=
  (Option.bind (fn_X6_isBelow x1 (σ 10 0) σ) fun q94 =>
  (if q94 = 0 then (some (-2))
  else (Option.bind (fn_X5_openingYear 3 x1 σ) fun q95 =>
  (some q95))))
set_option maxRecDepth 20000 in
set_option maxHeartbeats 4000000 in
theorem im_X6_opened (x1 : Int32) (σ : Sg) : Im yX6_opened mX6_opened 1 21 (jI σ) [.ref 0, .int x1] σ (fn_X6_opened x1 σ) := by
  refine Im.of (by decide +kernel) rfl rfl (Nat.le_of_ble_eq_true rfl) ?_
  show Ev mX6_opened 1 21 (jI σ) 0 [(0, .ref 0), (1, .int x1)] [] σ (fn_X6_opened x1 σ)
  unfold fn_X6_opened
  refine ev_iload_n (pc := 0) (i := 1) 1 dX6_opened_0 rfl rfl ?_
  refine ev_aload_n (pc := 1) (i := 0) 0 dX6_opened_1 rfl rfl ?_
  refine ev_getR (pc := 2) (t := 10) 4 ag_C6 (rfl) (by decide) (Nat.le_of_ble_eq_true rfl) rfl rfl ag_fl_X6_35 dX6_opened_2 ?_
  refine ev_getI (pc := 5) 0 ag_C2 (rfl) (by decide) (Nat.le_of_ble_eq_true rfl) rfl rfl ag_fl_X6_97 dX6_opened_5 ?_
  refine ev_sI (pc := 8) (as := [.int x1, .int (σ 10 0)]) (rest := []) ⟨83, ms_X6_isBelow, ag_ml_X6_83, rfl, (Nat.le_of_ble_eq_true rfl), ⟨(Nat.le_of_ble_eq_true rfl), (Nat.le_of_ble_eq_true rfl)⟩, dX6_opened_8⟩ (im_X6_isBelow x1 (σ 10 0) σ) (fun q94 => ?_)
  refine ev_if_eq (pc := 11) (tgt := 25) dX6_opened_11 rfl ?_ ?_
  · refine ev_bipush (pc := 25) (v := (-2)) dX6_opened_25 (by decide) ?_
    exact ev_irI rfl dX6_opened_27
  · refine ev_aload_n (pc := 14) (i := 0) 0 dX6_opened_14 rfl rfl ?_
    refine ev_getR (pc := 15) (t := 3) 1 ag_C6 (rfl) (by decide) (Nat.le_of_ble_eq_true rfl) rfl rfl ag_fl_X6_19 dX6_opened_15 ?_
    refine ev_iload_n (pc := 18) (i := 1) 1 dX6_opened_18 rfl rfl ?_
    refine ev_vI (pc := 19) (as := [.int x1]) (rest := []) ⟨5, 129, 10, TX5, tyX5, ag_C5, ⟨(rfl), (by decide)⟩, mv_X5_openingYear, ag_ml_X6_129, rfl, (Nat.le_of_ble_eq_true rfl), ⟨(Nat.le_of_ble_eq_true rfl), (Nat.le_of_ble_eq_true rfl)⟩, dX6_opened_19⟩ (im_X5_openingYear 3 (Or.inl rfl) x1 σ) (fun q95 => ?_)
    refine ev_goto (pc := 22) (tgt := 27) dX6_opened_22 rfl ?_
    exact ev_irI rfl dX6_opened_27
-- X6_written
def mX6_written : Md := (RX6, cX6_written, 2, some .int, none)
theorem mv_X6_written : ag_Mv yX6_written mX6_written 1 := ⟨ag_co_X6_written, ag_im_X6_written, ag_se_X6_written, ag_ini_X6, by decide +kernel⟩
theorem dX6_written_0 : decode mX6_written.2.1 0 = .ok (.iload_n 1, 1) := by decide +kernel
theorem dX6_written_1 : decode mX6_written.2.1 1 = .ok (.aload_n 0, 1) := by decide +kernel
theorem dX6_written_2 : decode mX6_written.2.1 2 = .ok (.getfield 35, 3) := by decide +kernel
theorem dX6_written_5 : decode mX6_written.2.1 5 = .ok (.getfield 97, 3) := by decide +kernel
theorem dX6_written_8 : decode mX6_written.2.1 8 = .ok (.invokestatic 83, 3) := by decide +kernel
theorem dX6_written_11 : decode mX6_written.2.1 11 = .ok (.ifCond .eq 17, 3) := by decide +kernel
theorem dX6_written_14 : decode mX6_written.2.1 14 = .ok (.aload_n 0, 1) := by decide +kernel
theorem dX6_written_15 : decode mX6_written.2.1 15 = .ok (.getfield 19, 3) := by decide +kernel
theorem dX6_written_18 : decode mX6_written.2.1 18 = .ok (.getfield 132, 3) := by decide +kernel
theorem dX6_written_21 : decode mX6_written.2.1 21 = .ok (.iload_n 1, 1) := by decide +kernel
theorem dX6_written_22 : decode mX6_written.2.1 22 = .ok (.ishr, 1) := by decide +kernel
theorem dX6_written_23 : decode mX6_written.2.1 23 = .ok (.iconst 1, 1) := by decide +kernel
theorem dX6_written_24 : decode mX6_written.2.1 24 = .ok (.iand, 1) := by decide +kernel
theorem dX6_written_25 : decode mX6_written.2.1 25 = .ok (.goto 5, 3) := by decide +kernel
theorem dX6_written_28 : decode mX6_written.2.1 28 = .ok (.bipush (-2), 2) := by decide +kernel
theorem dX6_written_30 : decode mX6_written.2.1 30 = .ok (.ireturn, 1) := by decide +kernel
def fn_X6_written (x1 : Int32) (σ : Sg) : Option Int32 :=
  (Option.bind (fn_X6_isBelow x1 (σ 10 0) σ) fun q96 =>
  (if q96 = 0 then (some (-2))
  else (some (((σ 3 3) >>> (x1 &&& 31)) &&& 1))))
set_option maxRecDepth 20000 in
set_option maxHeartbeats 4000000 in
theorem im_X6_written (x1 : Int32) (σ : Sg) : Im yX6_written mX6_written 1 21 (jI σ) [.ref 0, .int x1] σ (fn_X6_written x1 σ) := by
  refine Im.of (by decide +kernel) rfl rfl (Nat.le_of_ble_eq_true rfl) ?_
  show Ev mX6_written 1 21 (jI σ) 0 [(0, .ref 0), (1, .int x1)] [] σ (fn_X6_written x1 σ)
  unfold fn_X6_written
  refine ev_iload_n (pc := 0) (i := 1) 1 dX6_written_0 rfl rfl ?_
  refine ev_aload_n (pc := 1) (i := 0) 0 dX6_written_1 rfl rfl ?_
  refine ev_getR (pc := 2) (t := 10) 4 ag_C6 (rfl) (by decide) (Nat.le_of_ble_eq_true rfl) rfl rfl ag_fl_X6_35 dX6_written_2 ?_
  refine ev_getI (pc := 5) 0 ag_C2 (rfl) (by decide) (Nat.le_of_ble_eq_true rfl) rfl rfl ag_fl_X6_97 dX6_written_5 ?_
  refine ev_sI (pc := 8) (as := [.int x1, .int (σ 10 0)]) (rest := []) ⟨83, ms_X6_isBelow, ag_ml_X6_83, rfl, (Nat.le_of_ble_eq_true rfl), ⟨(Nat.le_of_ble_eq_true rfl), (Nat.le_of_ble_eq_true rfl)⟩, dX6_written_8⟩ (im_X6_isBelow x1 (σ 10 0) σ) (fun q96 => ?_)
  refine ev_if_eq (pc := 11) (tgt := 28) dX6_written_11 rfl ?_ ?_
  · refine ev_bipush (pc := 28) (v := (-2)) dX6_written_28 (by decide) ?_
    exact ev_irI rfl dX6_written_30
  · refine ev_aload_n (pc := 14) (i := 0) 0 dX6_written_14 rfl rfl ?_
    refine ev_getR (pc := 15) (t := 3) 1 ag_C6 (rfl) (by decide) (Nat.le_of_ble_eq_true rfl) rfl rfl ag_fl_X6_19 dX6_written_15 ?_
    refine ev_getI (pc := 18) 3 ag_C5 (rfl) (by decide) (Nat.le_of_ble_eq_true rfl) rfl rfl ag_fl_X6_132 dX6_written_18 ?_
    refine ev_iload_n (pc := 21) (i := 1) 1 dX6_written_21 rfl rfl ?_
    refine ev_ishr (pc := 22) dX6_written_22 ?_
    refine ev_iconst (pc := 23) (v := 1) dX6_written_23 (by decide) ?_
    refine ev_iand (pc := 24) dX6_written_24 ?_
    refine ev_goto (pc := 25) (tgt := 30) dX6_written_25 rfl ?_
    exact ev_irI rfl dX6_written_30
-- X6_waits
def mX6_waits : Md := (RX6, cX6_waits, 3, some .int, none)
theorem mv_X6_waits : ag_Mv yX6_waits mX6_waits 2 := ⟨ag_co_X6_waits, ag_im_X6_waits, ag_se_X6_waits, ag_ini_X6, by decide +kernel⟩
theorem dX6_waits_0 : decode mX6_waits.2.1 0 = .ok (.iload_n 1, 1) := by decide +kernel
theorem dX6_waits_1 : decode mX6_waits.2.1 1 = .ok (.sipush 200, 3) := by decide +kernel
theorem dX6_waits_4 : decode mX6_waits.2.1 4 = .ok (.invokestatic 83, 3) := by decide +kernel
theorem dX6_waits_7 : decode mX6_waits.2.1 7 = .ok (.ifCond .eq 11, 3) := by decide +kernel
theorem dX6_waits_10 : decode mX6_waits.2.1 10 = .ok (.iload_n 2, 1) := by decide +kernel
theorem dX6_waits_11 : decode mX6_waits.2.1 11 = .ok (.iconst 2, 1) := by decide +kernel
theorem dX6_waits_12 : decode mX6_waits.2.1 12 = .ok (.invokestatic 83, 3) := by decide +kernel
theorem dX6_waits_15 : decode mX6_waits.2.1 15 = .ok (.ifCond .ne 6, 3) := by decide +kernel
theorem dX6_waits_18 : decode mX6_waits.2.1 18 = .ok (.bipush (-2), 2) := by decide +kernel
theorem dX6_waits_20 : decode mX6_waits.2.1 20 = .ok (.ireturn, 1) := by decide +kernel
theorem dX6_waits_21 : decode mX6_waits.2.1 21 = .ok (.iload_n 2, 1) := by decide +kernel
theorem dX6_waits_22 : decode mX6_waits.2.1 22 = .ok (.ifCond .ne 14, 3) := by decide +kernel
theorem dX6_waits_25 : decode mX6_waits.2.1 25 = .ok (.aload_n 0, 1) := by decide +kernel
theorem dX6_waits_26 : decode mX6_waits.2.1 26 = .ok (.getfield 19, 3) := by decide +kernel
theorem dX6_waits_29 : decode mX6_waits.2.1 29 = .ok (.iload_n 1, 1) := by decide +kernel
theorem dX6_waits_30 : decode mX6_waits.2.1 30 = .ok (.invokevirtual 135, 3) := by decide +kernel
theorem dX6_waits_33 : decode mX6_waits.2.1 33 = .ok (.goto 11, 3) := by decide +kernel
theorem dX6_waits_36 : decode mX6_waits.2.1 36 = .ok (.aload_n 0, 1) := by decide +kernel
theorem dX6_waits_37 : decode mX6_waits.2.1 37 = .ok (.getfield 19, 3) := by decide +kernel
theorem dX6_waits_40 : decode mX6_waits.2.1 40 = .ok (.iload_n 1, 1) := by decide +kernel
theorem dX6_waits_41 : decode mX6_waits.2.1 41 = .ok (.invokevirtual 138, 3) := by decide +kernel
theorem dX6_waits_44 : decode mX6_waits.2.1 44 = .ok (.ireturn, 1) := by decide +kernel
def fn_X6_waits (n : Nat) (x1 : Int32) (x2 : Int32) (σ : Sg) : Option Int32 :=
  (Option.bind (fn_X6_isBelow x1 200 σ) fun q97 =>
  (if q97 = 0 then (some (-2))
  else (Option.bind (fn_X6_isBelow x2 2 σ) fun q98 =>
  (if q98 = 0 then (some (-2))
  else (if x2 = 0 then (Option.bind (fn_X5_waitingBehind n 3 x1 σ) fun q99 =>
  (some q99))
  else (Option.bind (fn_X5_openedBehind n 3 x1 σ) fun q100 =>
  (some q100)))))))
set_option maxRecDepth 20000 in
set_option maxHeartbeats 4000000 in
theorem im_X6_waits (n : Nat) (x1 : Int32) (x2 : Int32) (σ : Sg) : Im yX6_waits mX6_waits 2 46 (jI σ) [.ref 0, .int x1, .int x2] σ (fn_X6_waits n x1 x2 σ) := by
  refine Im.of (by decide +kernel) rfl rfl (Nat.le_of_ble_eq_true rfl) ?_
  show Ev mX6_waits 2 46 (jI σ) 0 [(0, .ref 0), (1, .int x1), (2, .int x2)] [] σ (fn_X6_waits n x1 x2 σ)
  unfold fn_X6_waits
  refine ev_iload_n (pc := 0) (i := 1) 1 dX6_waits_0 rfl rfl ?_
  refine ev_sipush (pc := 1) (v := 200) dX6_waits_1 (by decide) ?_
  refine ev_sI (pc := 4) (as := [.int x1, .int 200]) (rest := []) ⟨83, ms_X6_isBelow, ag_ml_X6_83, rfl, (Nat.le_of_ble_eq_true rfl), ⟨(Nat.le_of_ble_eq_true rfl), (Nat.le_of_ble_eq_true rfl)⟩, dX6_waits_4⟩ (im_X6_isBelow x1 200 σ) (fun q97 => ?_)
  refine ev_if_eq (pc := 7) (tgt := 18) dX6_waits_7 rfl ?_ ?_
  · refine ev_bipush (pc := 18) (v := (-2)) dX6_waits_18 (by decide) ?_
    exact ev_irI rfl dX6_waits_20
  · refine ev_iload_n (pc := 10) (i := 2) 2 dX6_waits_10 rfl rfl ?_
    refine ev_iconst (pc := 11) (v := 2) dX6_waits_11 (by decide) ?_
    refine ev_sI (pc := 12) (as := [.int x2, .int 2]) (rest := []) ⟨83, ms_X6_isBelow, ag_ml_X6_83, rfl, (Nat.le_of_ble_eq_true rfl), ⟨(Nat.le_of_ble_eq_true rfl), (Nat.le_of_ble_eq_true rfl)⟩, dX6_waits_12⟩ (im_X6_isBelow x2 2 σ) (fun q98 => ?_)
    refine ev_if_ne (pc := 15) (tgt := 21) dX6_waits_15 rfl ?_ ?_
    · refine ev_bipush (pc := 18) (v := (-2)) dX6_waits_18 (by decide) ?_
      exact ev_irI rfl dX6_waits_20
    · refine ev_iload_n (pc := 21) (i := 2) 2 dX6_waits_21 rfl rfl ?_
      refine ev_if_ne (pc := 22) (tgt := 36) dX6_waits_22 rfl ?_ ?_
      · refine ev_aload_n (pc := 25) (i := 0) 0 dX6_waits_25 rfl rfl ?_
        refine ev_getR (pc := 26) (t := 3) 1 ag_C6 (rfl) (by decide) (Nat.le_of_ble_eq_true rfl) rfl rfl ag_fl_X6_19 dX6_waits_26 ?_
        refine ev_iload_n (pc := 29) (i := 1) 1 dX6_waits_29 rfl rfl ?_
        refine ev_vI (pc := 30) (as := [.int x1]) (rest := []) ⟨5, 135, 10, TX5, tyX5, ag_C5, ⟨(rfl), (by decide)⟩, mv_X5_waitingBehind, ag_ml_X6_135, rfl, (Nat.le_of_ble_eq_true rfl), ⟨(Nat.le_of_ble_eq_true rfl), (Nat.le_of_ble_eq_true rfl)⟩, dX6_waits_30⟩ (im_X5_waitingBehind n 3 (Or.inl rfl) x1 σ) (fun q99 => ?_)
        refine ev_goto (pc := 33) (tgt := 44) dX6_waits_33 rfl ?_
        exact ev_irI rfl dX6_waits_44
      · refine ev_aload_n (pc := 36) (i := 0) 0 dX6_waits_36 rfl rfl ?_
        refine ev_getR (pc := 37) (t := 3) 1 ag_C6 (rfl) (by decide) (Nat.le_of_ble_eq_true rfl) rfl rfl ag_fl_X6_19 dX6_waits_37 ?_
        refine ev_iload_n (pc := 40) (i := 1) 1 dX6_waits_40 rfl rfl ?_
        refine ev_vI (pc := 41) (as := [.int x1]) (rest := []) ⟨5, 138, 10, TX5, tyX5, ag_C5, ⟨(rfl), (by decide)⟩, mv_X5_openedBehind, ag_ml_X6_138, rfl, (Nat.le_of_ble_eq_true rfl), ⟨(Nat.le_of_ble_eq_true rfl), (Nat.le_of_ble_eq_true rfl)⟩, dX6_waits_41⟩ (im_X5_openedBehind n 3 (Or.inl rfl) x1 σ) (fun q100 => ?_)
        exact ev_irI rfl dX6_waits_44
-- X6_known
def mX6_known : Md := (RX6, cX6_known, 3, some .int, none)
theorem mv_X6_known : ag_Mv yX6_known mX6_known 2 := ⟨ag_co_X6_known, ag_im_X6_known, ag_se_X6_known, ag_ini_X6, by decide +kernel⟩
theorem dX6_known_0 : decode mX6_known.2.1 0 = .ok (.iload_n 1, 1) := by decide +kernel
theorem dX6_known_1 : decode mX6_known.2.1 1 = .ok (.sipush 200, 3) := by decide +kernel
theorem dX6_known_4 : decode mX6_known.2.1 4 = .ok (.invokestatic 83, 3) := by decide +kernel
theorem dX6_known_7 : decode mX6_known.2.1 7 = .ok (.ifCond .eq 14, 3) := by decide +kernel
theorem dX6_known_10 : decode mX6_known.2.1 10 = .ok (.aload_n 0, 1) := by decide +kernel
theorem dX6_known_11 : decode mX6_known.2.1 11 = .ok (.getfield 30, 3) := by decide +kernel
theorem dX6_known_14 : decode mX6_known.2.1 14 = .ok (.iload_n 2, 1) := by decide +kernel
theorem dX6_known_15 : decode mX6_known.2.1 15 = .ok (.invokevirtual 68, 3) := by decide +kernel
theorem dX6_known_18 : decode mX6_known.2.1 18 = .ok (.ifCond .ne 6, 3) := by decide +kernel
theorem dX6_known_21 : decode mX6_known.2.1 21 = .ok (.bipush (-2), 2) := by decide +kernel
theorem dX6_known_23 : decode mX6_known.2.1 23 = .ok (.ireturn, 1) := by decide +kernel
theorem dX6_known_24 : decode mX6_known.2.1 24 = .ok (.aload_n 0, 1) := by decide +kernel
theorem dX6_known_25 : decode mX6_known.2.1 25 = .ok (.getfield 19, 3) := by decide +kernel
theorem dX6_known_28 : decode mX6_known.2.1 28 = .ok (.iload_n 1, 1) := by decide +kernel
theorem dX6_known_29 : decode mX6_known.2.1 29 = .ok (.iload_n 2, 1) := by decide +kernel
theorem dX6_known_30 : decode mX6_known.2.1 30 = .ok (.invokevirtual 141, 3) := by decide +kernel
theorem dX6_known_33 : decode mX6_known.2.1 33 = .ok (.ireturn, 1) := by decide +kernel
def fn_X6_known (n : Nat) (x1 : Int32) (x2 : Int32) (σ : Sg) : Option Int32 :=
  (Option.bind (fn_X6_isBelow x1 200 σ) fun q101 =>
  (if q101 = 0 then (some (-2))
  else (Option.bind (fn_X1_isThere 4 x2 σ) fun q102 =>
  (if q102 = 0 then (some (-2))
  else (Option.bind (fn_X5_wordsBehind n 3 x1 x2 σ) fun q103 =>
  (some q103))))))
set_option maxRecDepth 20000 in
set_option maxHeartbeats 4000000 in
theorem im_X6_known (n : Nat) (x1 : Int32) (x2 : Int32) (σ : Sg) : Im yX6_known mX6_known 3 70 (jI σ) [.ref 0, .int x1, .int x2] σ (fn_X6_known n x1 x2 σ) := by
  refine Im.of (by decide +kernel) rfl rfl (Nat.le_of_ble_eq_true rfl) ?_
  show Ev mX6_known 3 70 (jI σ) 0 [(0, .ref 0), (1, .int x1), (2, .int x2)] [] σ (fn_X6_known n x1 x2 σ)
  unfold fn_X6_known
  refine ev_iload_n (pc := 0) (i := 1) 1 dX6_known_0 rfl rfl ?_
  refine ev_sipush (pc := 1) (v := 200) dX6_known_1 (by decide) ?_
  refine ev_sI (pc := 4) (as := [.int x1, .int 200]) (rest := []) ⟨83, ms_X6_isBelow, ag_ml_X6_83, rfl, (Nat.le_of_ble_eq_true rfl), ⟨(Nat.le_of_ble_eq_true rfl), (Nat.le_of_ble_eq_true rfl)⟩, dX6_known_4⟩ (im_X6_isBelow x1 200 σ) (fun q101 => ?_)
  refine ev_if_eq (pc := 7) (tgt := 21) dX6_known_7 rfl ?_ ?_
  · refine ev_bipush (pc := 21) (v := (-2)) dX6_known_21 (by decide) ?_
    exact ev_irI rfl dX6_known_23
  · refine ev_aload_n (pc := 10) (i := 0) 0 dX6_known_10 rfl rfl ?_
    refine ev_getR (pc := 11) (t := 4) 3 ag_C6 (rfl) (by decide) (Nat.le_of_ble_eq_true rfl) rfl rfl ag_fl_X6_30 dX6_known_11 ?_
    refine ev_iload_n (pc := 14) (i := 2) 2 dX6_known_14 rfl rfl ?_
    refine ev_vI (pc := 15) (as := [.int x2]) (rest := []) ⟨1, 68, 6, TX1, tyX1, ag_C1, ⟨(rfl), (by decide)⟩, mv_X1_isThere, ag_ml_X6_68, rfl, (Nat.le_of_ble_eq_true rfl), ⟨(Nat.le_of_ble_eq_true rfl), (Nat.le_of_ble_eq_true rfl)⟩, dX6_known_15⟩ (im_X1_isThere 4 (Or.inl rfl) x2 σ) (fun q102 => ?_)
    refine ev_if_ne (pc := 18) (tgt := 24) dX6_known_18 rfl ?_ ?_
    · refine ev_bipush (pc := 21) (v := (-2)) dX6_known_21 (by decide) ?_
      exact ev_irI rfl dX6_known_23
    · refine ev_aload_n (pc := 24) (i := 0) 0 dX6_known_24 rfl rfl ?_
      refine ev_getR (pc := 25) (t := 3) 1 ag_C6 (rfl) (by decide) (Nat.le_of_ble_eq_true rfl) rfl rfl ag_fl_X6_19 dX6_known_25 ?_
      refine ev_iload_n (pc := 28) (i := 1) 1 dX6_known_28 rfl rfl ?_
      refine ev_iload_n (pc := 29) (i := 2) 2 dX6_known_29 rfl rfl ?_
      refine ev_vI (pc := 30) (as := [.int x1, .int x2]) (rest := []) ⟨5, 141, 10, TX5, tyX5, ag_C5, ⟨(rfl), (by decide)⟩, mv_X5_wordsBehind, ag_ml_X6_141, rfl, (Nat.le_of_ble_eq_true rfl), ⟨(Nat.le_of_ble_eq_true rfl), (Nat.le_of_ble_eq_true rfl)⟩, dX6_known_30⟩ (im_X5_wordsBehind n 3 (Or.inl rfl) x1 x2 σ) (fun q103 => ?_)
      exact ev_irI rfl dX6_known_33
-- X6_learned
def mX6_learned : Md := (RX6, cX6_learned, 3, some .int, none)
theorem mv_X6_learned : ag_Mv yX6_learned mX6_learned 2 := ⟨ag_co_X6_learned, ag_im_X6_learned, ag_se_X6_learned, ag_ini_X6, by decide +kernel⟩
theorem dX6_learned_0 : decode mX6_learned.2.1 0 = .ok (.aload_n 0, 1) := by decide +kernel
theorem dX6_learned_1 : decode mX6_learned.2.1 1 = .ok (.getfield 30, 3) := by decide +kernel
theorem dX6_learned_4 : decode mX6_learned.2.1 4 = .ok (.iload_n 1, 1) := by decide +kernel
theorem dX6_learned_5 : decode mX6_learned.2.1 5 = .ok (.invokevirtual 68, 3) := by decide +kernel
theorem dX6_learned_8 : decode mX6_learned.2.1 8 = .ok (.ifCond .eq 12, 3) := by decide +kernel
theorem dX6_learned_11 : decode mX6_learned.2.1 11 = .ok (.iload_n 2, 1) := by decide +kernel
theorem dX6_learned_12 : decode mX6_learned.2.1 12 = .ok (.bipush 8, 2) := by decide +kernel
theorem dX6_learned_14 : decode mX6_learned.2.1 14 = .ok (.invokestatic 83, 3) := by decide +kernel
theorem dX6_learned_17 : decode mX6_learned.2.1 17 = .ok (.ifCond .ne 6, 3) := by decide +kernel
theorem dX6_learned_20 : decode mX6_learned.2.1 20 = .ok (.bipush (-2), 2) := by decide +kernel
theorem dX6_learned_22 : decode mX6_learned.2.1 22 = .ok (.ireturn, 1) := by decide +kernel
theorem dX6_learned_23 : decode mX6_learned.2.1 23 = .ok (.aload_n 0, 1) := by decide +kernel
theorem dX6_learned_24 : decode mX6_learned.2.1 24 = .ok (.getfield 19, 3) := by decide +kernel
theorem dX6_learned_27 : decode mX6_learned.2.1 27 = .ok (.iload_n 1, 1) := by decide +kernel
theorem dX6_learned_28 : decode mX6_learned.2.1 28 = .ok (.iload_n 2, 1) := by decide +kernel
theorem dX6_learned_29 : decode mX6_learned.2.1 29 = .ok (.invokevirtual 144, 3) := by decide +kernel
theorem dX6_learned_32 : decode mX6_learned.2.1 32 = .ok (.ireturn, 1) := by decide +kernel
def fn_X6_learned (x1 : Int32) (x2 : Int32) (σ : Sg) : Option Int32 :=
  (Option.bind (fn_X1_isThere 4 x1 σ) fun q104 =>
  (if q104 = 0 then (some (-2))
  else (Option.bind (fn_X6_isBelow x2 8 σ) fun q105 =>
  (if q105 = 0 then (some (-2))
  else (Option.bind (fn_X5_learningYear 3 x1 x2 σ) fun q106 =>
  (some q106))))))
set_option maxRecDepth 20000 in
set_option maxHeartbeats 4000000 in
theorem im_X6_learned (x1 : Int32) (x2 : Int32) (σ : Sg) : Im yX6_learned mX6_learned 1 22 (jI σ) [.ref 0, .int x1, .int x2] σ (fn_X6_learned x1 x2 σ) := by
  refine Im.of (by decide +kernel) rfl rfl (Nat.le_of_ble_eq_true rfl) ?_
  show Ev mX6_learned 1 22 (jI σ) 0 [(0, .ref 0), (1, .int x1), (2, .int x2)] [] σ (fn_X6_learned x1 x2 σ)
  unfold fn_X6_learned
  refine ev_aload_n (pc := 0) (i := 0) 0 dX6_learned_0 rfl rfl ?_
  refine ev_getR (pc := 1) (t := 4) 3 ag_C6 (rfl) (by decide) (Nat.le_of_ble_eq_true rfl) rfl rfl ag_fl_X6_30 dX6_learned_1 ?_
  refine ev_iload_n (pc := 4) (i := 1) 1 dX6_learned_4 rfl rfl ?_
  refine ev_vI (pc := 5) (as := [.int x1]) (rest := []) ⟨1, 68, 6, TX1, tyX1, ag_C1, ⟨(rfl), (by decide)⟩, mv_X1_isThere, ag_ml_X6_68, rfl, (Nat.le_of_ble_eq_true rfl), ⟨(Nat.le_of_ble_eq_true rfl), (Nat.le_of_ble_eq_true rfl)⟩, dX6_learned_5⟩ (im_X1_isThere 4 (Or.inl rfl) x1 σ) (fun q104 => ?_)
  refine ev_if_eq (pc := 8) (tgt := 20) dX6_learned_8 rfl ?_ ?_
  · refine ev_bipush (pc := 20) (v := (-2)) dX6_learned_20 (by decide) ?_
    exact ev_irI rfl dX6_learned_22
  · refine ev_iload_n (pc := 11) (i := 2) 2 dX6_learned_11 rfl rfl ?_
    refine ev_bipush (pc := 12) (v := 8) dX6_learned_12 (by decide) ?_
    refine ev_sI (pc := 14) (as := [.int x2, .int 8]) (rest := []) ⟨83, ms_X6_isBelow, ag_ml_X6_83, rfl, (Nat.le_of_ble_eq_true rfl), ⟨(Nat.le_of_ble_eq_true rfl), (Nat.le_of_ble_eq_true rfl)⟩, dX6_learned_14⟩ (im_X6_isBelow x2 8 σ) (fun q105 => ?_)
    refine ev_if_ne (pc := 17) (tgt := 23) dX6_learned_17 rfl ?_ ?_
    · refine ev_bipush (pc := 20) (v := (-2)) dX6_learned_20 (by decide) ?_
      exact ev_irI rfl dX6_learned_22
    · refine ev_aload_n (pc := 23) (i := 0) 0 dX6_learned_23 rfl rfl ?_
      refine ev_getR (pc := 24) (t := 3) 1 ag_C6 (rfl) (by decide) (Nat.le_of_ble_eq_true rfl) rfl rfl ag_fl_X6_19 dX6_learned_24 ?_
      refine ev_iload_n (pc := 27) (i := 1) 1 dX6_learned_27 rfl rfl ?_
      refine ev_iload_n (pc := 28) (i := 2) 2 dX6_learned_28 rfl rfl ?_
      refine ev_vI (pc := 29) (as := [.int x1, .int x2]) (rest := []) ⟨5, 144, 10, TX5, tyX5, ag_C5, ⟨(rfl), (by decide)⟩, mv_X5_learningYear, ag_ml_X6_144, rfl, (Nat.le_of_ble_eq_true rfl), ⟨(Nat.le_of_ble_eq_true rfl), (Nat.le_of_ble_eq_true rfl)⟩, dX6_learned_29⟩ (im_X5_learningYear 3 (Or.inl rfl) x1 x2 σ) (fun q106 => ?_)
      exact ev_irI rfl dX6_learned_32
-- X6_sealed
def mX6_sealed : Md := (RX6, cX6_sealed, 1, some .int, none)
theorem mv_X6_sealed : ag_Mv yX6_sealed mX6_sealed 0 := ⟨ag_co_X6_sealed, ag_im_X6_sealed, ag_se_X6_sealed, ag_ini_X6, by decide +kernel⟩
theorem dX6_sealed_0 : decode mX6_sealed.2.1 0 = .ok (.aload_n 0, 1) := by decide +kernel
theorem dX6_sealed_1 : decode mX6_sealed.2.1 1 = .ok (.getfield 19, 3) := by decide +kernel
theorem dX6_sealed_4 : decode mX6_sealed.2.1 4 = .ok (.invokevirtual 147, 3) := by decide +kernel
theorem dX6_sealed_7 : decode mX6_sealed.2.1 7 = .ok (.ireturn, 1) := by decide +kernel
def fn_X6_sealed  (σ : Sg) : Option Int32 :=
  (Option.bind (fn_X5_sealedBits 3 σ) fun q107 =>
  (some q107))
set_option maxRecDepth 20000 in
set_option maxHeartbeats 4000000 in
theorem im_X6_sealed  (σ : Sg) : Im yX6_sealed mX6_sealed 1 20 (jI σ) [.ref 0] σ (fn_X6_sealed  σ) := by
  refine Im.of (by decide +kernel) rfl rfl (Nat.le_of_ble_eq_true rfl) ?_
  show Ev mX6_sealed 1 20 (jI σ) 0 [(0, .ref 0)] [] σ (fn_X6_sealed  σ)
  unfold fn_X6_sealed
  refine ev_aload_n (pc := 0) (i := 0) 0 dX6_sealed_0 rfl rfl ?_
  refine ev_getR (pc := 1) (t := 3) 1 ag_C6 (rfl) (by decide) (Nat.le_of_ble_eq_true rfl) rfl rfl ag_fl_X6_19 dX6_sealed_1 ?_
  refine ev_vI (pc := 4) (as := []) (rest := []) ⟨5, 147, 10, TX5, tyX5, ag_C5, ⟨(rfl), (by decide)⟩, mv_X5_sealedBits, ag_ml_X6_147, rfl, (Nat.le_of_ble_eq_true rfl), ⟨(Nat.le_of_ble_eq_true rfl), (Nat.le_of_ble_eq_true rfl)⟩, dX6_sealed_4⟩ (im_X5_sealedBits 3 (Or.inl rfl) σ) (fun q107 => ?_)
  exact ev_irI rfl dX6_sealed_7
-- X6_loud
def mX6_loud : Md := (RX6, cX6_loud, 3, some .int, none)
theorem mv_X6_loud : ag_Mv yX6_loud mX6_loud 1 := ⟨ag_co_X6_loud, ag_im_X6_loud, ag_se_X6_loud, ag_ini_X6, by decide +kernel⟩
theorem dX6_loud_0 : decode mX6_loud.2.1 0 = .ok (.iload_n 1, 1) := by decide +kernel
theorem dX6_loud_1 : decode mX6_loud.2.1 1 = .ok (.iconst 2, 1) := by decide +kernel
theorem dX6_loud_2 : decode mX6_loud.2.1 2 = .ok (.invokestatic 83, 3) := by decide +kernel
theorem dX6_loud_5 : decode mX6_loud.2.1 5 = .ok (.ifCond .ne 6, 3) := by decide +kernel
theorem dX6_loud_8 : decode mX6_loud.2.1 8 = .ok (.bipush (-2), 2) := by decide +kernel
theorem dX6_loud_10 : decode mX6_loud.2.1 10 = .ok (.ireturn, 1) := by decide +kernel
theorem dX6_loud_11 : decode mX6_loud.2.1 11 = .ok (.aload_n 0, 1) := by decide +kernel
theorem dX6_loud_12 : decode mX6_loud.2.1 12 = .ok (.getfield 19, 3) := by decide +kernel
theorem dX6_loud_15 : decode mX6_loud.2.1 15 = .ok (.getfield 150, 3) := by decide +kernel
theorem dX6_loud_18 : decode mX6_loud.2.1 18 = .ok (.ifCond .ne 5, 3) := by decide +kernel
theorem dX6_loud_21 : decode mX6_loud.2.1 21 = .ok (.iconst (-1), 1) := by decide +kernel
theorem dX6_loud_22 : decode mX6_loud.2.1 22 = .ok (.ireturn, 1) := by decide +kernel
theorem dX6_loud_23 : decode mX6_loud.2.1 23 = .ok (.aload_n 0, 1) := by decide +kernel
theorem dX6_loud_24 : decode mX6_loud.2.1 24 = .ok (.getfield 19, 3) := by decide +kernel
theorem dX6_loud_27 : decode mX6_loud.2.1 27 = .ok (.invokevirtual 153, 3) := by decide +kernel
theorem dX6_loud_30 : decode mX6_loud.2.1 30 = .ok (.istore_n 2, 1) := by decide +kernel
theorem dX6_loud_31 : decode mX6_loud.2.1 31 = .ok (.iload_n 1, 1) := by decide +kernel
theorem dX6_loud_32 : decode mX6_loud.2.1 32 = .ok (.ifCond .ne 7, 3) := by decide +kernel
theorem dX6_loud_35 : decode mX6_loud.2.1 35 = .ok (.iload_n 2, 1) := by decide +kernel
theorem dX6_loud_36 : decode mX6_loud.2.1 36 = .ok (.goto 11, 3) := by decide +kernel
theorem dX6_loud_39 : decode mX6_loud.2.1 39 = .ok (.aload_n 0, 1) := by decide +kernel
theorem dX6_loud_40 : decode mX6_loud.2.1 40 = .ok (.getfield 19, 3) := by decide +kernel
theorem dX6_loud_43 : decode mX6_loud.2.1 43 = .ok (.iload_n 2, 1) := by decide +kernel
theorem dX6_loud_44 : decode mX6_loud.2.1 44 = .ok (.invokevirtual 156, 3) := by decide +kernel
theorem dX6_loud_47 : decode mX6_loud.2.1 47 = .ok (.ireturn, 1) := by decide +kernel
def fn_X6_loud (n : Nat) (x1 : Int32) (σ : Sg) : Option Int32 :=
  (Option.bind (fn_X6_isBelow x1 2 σ) fun q108 =>
  (if q108 = 0 then (some (-2))
  else (if (σ 3 4) = 0 then (some (-1))
  else (Option.bind (fn_X5_loudestYear n 3 σ) fun q109 =>
  (if x1 = 0 then (some q109)
  else (Option.bind (fn_X5_openedWithin n 3 q109 σ) fun q110 =>
  (some q110)))))))
set_option maxRecDepth 20000 in
set_option maxHeartbeats 4000000 in
theorem im_X6_loud (n : Nat) (x1 : Int32) (σ : Sg) : Im yX6_loud mX6_loud 3 69 (jI σ) [.ref 0, .int x1] σ (fn_X6_loud n x1 σ) := by
  refine Im.of (by decide +kernel) rfl rfl (Nat.le_of_ble_eq_true rfl) ?_
  show Ev mX6_loud 3 69 (jI σ) 0 [(0, .ref 0), (1, .int x1)] [] σ (fn_X6_loud n x1 σ)
  unfold fn_X6_loud
  refine ev_iload_n (pc := 0) (i := 1) 1 dX6_loud_0 rfl rfl ?_
  refine ev_iconst (pc := 1) (v := 2) dX6_loud_1 (by decide) ?_
  refine ev_sI (pc := 2) (as := [.int x1, .int 2]) (rest := []) ⟨83, ms_X6_isBelow, ag_ml_X6_83, rfl, (Nat.le_of_ble_eq_true rfl), ⟨(Nat.le_of_ble_eq_true rfl), (Nat.le_of_ble_eq_true rfl)⟩, dX6_loud_2⟩ (im_X6_isBelow x1 2 σ) (fun q108 => ?_)
  refine ev_if_ne (pc := 5) (tgt := 11) dX6_loud_5 rfl ?_ ?_
  · refine ev_bipush (pc := 8) (v := (-2)) dX6_loud_8 (by decide) ?_
    exact ev_irI rfl dX6_loud_10
  · refine ev_aload_n (pc := 11) (i := 0) 0 dX6_loud_11 rfl rfl ?_
    refine ev_getR (pc := 12) (t := 3) 1 ag_C6 (rfl) (by decide) (Nat.le_of_ble_eq_true rfl) rfl rfl ag_fl_X6_19 dX6_loud_12 ?_
    refine ev_getI (pc := 15) 4 ag_C5 (rfl) (by decide) (Nat.le_of_ble_eq_true rfl) rfl rfl ag_fl_X6_150 dX6_loud_15 ?_
    refine ev_if_ne (pc := 18) (tgt := 23) dX6_loud_18 rfl ?_ ?_
    · refine ev_iconst (pc := 21) (v := (-1)) dX6_loud_21 (by decide) ?_
      exact ev_irI rfl dX6_loud_22
    · refine ev_aload_n (pc := 23) (i := 0) 0 dX6_loud_23 rfl rfl ?_
      refine ev_getR (pc := 24) (t := 3) 1 ag_C6 (rfl) (by decide) (Nat.le_of_ble_eq_true rfl) rfl rfl ag_fl_X6_19 dX6_loud_24 ?_
      refine ev_vI (pc := 27) (as := []) (rest := []) ⟨5, 153, 10, TX5, tyX5, ag_C5, ⟨(rfl), (by decide)⟩, mv_X5_loudestYear, ag_ml_X6_153, rfl, (Nat.le_of_ble_eq_true rfl), ⟨(Nat.le_of_ble_eq_true rfl), (Nat.le_of_ble_eq_true rfl)⟩, dX6_loud_27⟩ (im_X5_loudestYear n 3 (Or.inl rfl) σ) (fun q109 => ?_)
      refine ev_istore_n (pc := 30) (i := 2) (lv' := [(2, .int q109), (0, .ref 0), (1, .int x1)]) dX6_loud_30 rfl (Nat.le_of_ble_eq_true rfl) rfl ?_
      refine ev_iload_n (pc := 31) (i := 1) 2 dX6_loud_31 rfl rfl ?_
      refine ev_if_ne (pc := 32) (tgt := 39) dX6_loud_32 rfl ?_ ?_
      · refine ev_iload_n (pc := 35) (i := 2) 0 dX6_loud_35 rfl rfl ?_
        refine ev_goto (pc := 36) (tgt := 47) dX6_loud_36 rfl ?_
        exact ev_irI rfl dX6_loud_47
      · refine ev_aload_n (pc := 39) (i := 0) 1 dX6_loud_39 rfl rfl ?_
        refine ev_getR (pc := 40) (t := 3) 1 ag_C6 (rfl) (by decide) (Nat.le_of_ble_eq_true rfl) rfl rfl ag_fl_X6_19 dX6_loud_40 ?_
        refine ev_iload_n (pc := 43) (i := 2) 0 dX6_loud_43 rfl rfl ?_
        refine ev_vI (pc := 44) (as := [.int q109]) (rest := []) ⟨5, 156, 10, TX5, tyX5, ag_C5, ⟨(rfl), (by decide)⟩, mv_X5_openedWithin, ag_ml_X6_156, rfl, (Nat.le_of_ble_eq_true rfl), ⟨(Nat.le_of_ble_eq_true rfl), (Nat.le_of_ble_eq_true rfl)⟩, dX6_loud_44⟩ (im_X5_openedWithin n 3 (Or.inl rfl) q109 σ) (fun q110 => ?_)
        exact ev_irI rfl dX6_loud_47
-- X6_opensWithGrace
def mX6_opensWithGrace : Md := (RX6, cX6_opensWithGrace, 3, some .boolean, none)
theorem mv_X6_opensWithGrace : ag_Mv yX6_opensWithGrace mX6_opensWithGrace 1 := ⟨ag_co_X6_opensWithGrace, ag_im_X6_opensWithGrace, ag_se_X6_opensWithGrace, ag_ini_X6, by decide +kernel⟩
theorem dX6_opensWithGrace_0 : decode mX6_opensWithGrace.2.1 0 = .ok (.aload_n 0, 1) := by decide +kernel
theorem dX6_opensWithGrace_1 : decode mX6_opensWithGrace.2.1 1 = .ok (.getfield 35, 3) := by decide +kernel
theorem dX6_opensWithGrace_4 : decode mX6_opensWithGrace.2.1 4 = .ok (.getfield 166, 3) := by decide +kernel
theorem dX6_opensWithGrace_7 : decode mX6_opensWithGrace.2.1 7 = .ok (.iload_n 1, 1) := by decide +kernel
theorem dX6_opensWithGrace_8 : decode mX6_opensWithGrace.2.1 8 = .ok (.iaload, 1) := by decide +kernel
theorem dX6_opensWithGrace_9 : decode mX6_opensWithGrace.2.1 9 = .ok (.istore_n 2, 1) := by decide +kernel
theorem dX6_opensWithGrace_10 : decode mX6_opensWithGrace.2.1 10 = .ok (.aload_n 0, 1) := by decide +kernel
theorem dX6_opensWithGrace_11 : decode mX6_opensWithGrace.2.1 11 = .ok (.getfield 30, 3) := by decide +kernel
theorem dX6_opensWithGrace_14 : decode mX6_opensWithGrace.2.1 14 = .ok (.iload_n 2, 1) := by decide +kernel
theorem dX6_opensWithGrace_15 : decode mX6_opensWithGrace.2.1 15 = .ok (.invokevirtual 68, 3) := by decide +kernel
theorem dX6_opensWithGrace_18 : decode mX6_opensWithGrace.2.1 18 = .ok (.ifCond .ne 5, 3) := by decide +kernel
theorem dX6_opensWithGrace_21 : decode mX6_opensWithGrace.2.1 21 = .ok (.iconst 0, 1) := by decide +kernel
theorem dX6_opensWithGrace_22 : decode mX6_opensWithGrace.2.1 22 = .ok (.ireturn, 1) := by decide +kernel
theorem dX6_opensWithGrace_23 : decode mX6_opensWithGrace.2.1 23 = .ok (.aload_n 0, 1) := by decide +kernel
theorem dX6_opensWithGrace_24 : decode mX6_opensWithGrace.2.1 24 = .ok (.getfield 23, 3) := by decide +kernel
theorem dX6_opensWithGrace_27 : decode mX6_opensWithGrace.2.1 27 = .ok (.getfield 26, 3) := by decide +kernel
theorem dX6_opensWithGrace_30 : decode mX6_opensWithGrace.2.1 30 = .ok (.getfield 77, 3) := by decide +kernel
theorem dX6_opensWithGrace_33 : decode mX6_opensWithGrace.2.1 33 = .ok (.iload_n 2, 1) := by decide +kernel
theorem dX6_opensWithGrace_34 : decode mX6_opensWithGrace.2.1 34 = .ok (.aload_n 0, 1) := by decide +kernel
theorem dX6_opensWithGrace_35 : decode mX6_opensWithGrace.2.1 35 = .ok (.getfield 30, 3) := by decide +kernel
theorem dX6_opensWithGrace_38 : decode mX6_opensWithGrace.2.1 38 = .ok (.getfield 77, 3) := by decide +kernel
theorem dX6_opensWithGrace_41 : decode mX6_opensWithGrace.2.1 41 = .ok (.iload_n 2, 1) := by decide +kernel
theorem dX6_opensWithGrace_42 : decode mX6_opensWithGrace.2.1 42 = .ok (.iaload, 1) := by decide +kernel
theorem dX6_opensWithGrace_43 : decode mX6_opensWithGrace.2.1 43 = .ok (.iconst 1, 1) := by decide +kernel
theorem dX6_opensWithGrace_44 : decode mX6_opensWithGrace.2.1 44 = .ok (.iadd, 1) := by decide +kernel
theorem dX6_opensWithGrace_45 : decode mX6_opensWithGrace.2.1 45 = .ok (.iastore, 1) := by decide +kernel
theorem dX6_opensWithGrace_46 : decode mX6_opensWithGrace.2.1 46 = .ok (.aload_n 0, 1) := by decide +kernel
theorem dX6_opensWithGrace_47 : decode mX6_opensWithGrace.2.1 47 = .ok (.getfield 23, 3) := by decide +kernel
theorem dX6_opensWithGrace_50 : decode mX6_opensWithGrace.2.1 50 = .ok (.invokevirtual 90, 3) := by decide +kernel
theorem dX6_opensWithGrace_53 : decode mX6_opensWithGrace.2.1 53 = .ok (.aload_n 0, 1) := by decide +kernel
theorem dX6_opensWithGrace_54 : decode mX6_opensWithGrace.2.1 54 = .ok (.getfield 23, 3) := by decide +kernel
theorem dX6_opensWithGrace_57 : decode mX6_opensWithGrace.2.1 57 = .ok (.getfield 26, 3) := by decide +kernel
theorem dX6_opensWithGrace_60 : decode mX6_opensWithGrace.2.1 60 = .ok (.getfield 77, 3) := by decide +kernel
theorem dX6_opensWithGrace_63 : decode mX6_opensWithGrace.2.1 63 = .ok (.iload_n 2, 1) := by decide +kernel
theorem dX6_opensWithGrace_64 : decode mX6_opensWithGrace.2.1 64 = .ok (.aload_n 0, 1) := by decide +kernel
theorem dX6_opensWithGrace_65 : decode mX6_opensWithGrace.2.1 65 = .ok (.getfield 30, 3) := by decide +kernel
theorem dX6_opensWithGrace_68 : decode mX6_opensWithGrace.2.1 68 = .ok (.getfield 77, 3) := by decide +kernel
theorem dX6_opensWithGrace_71 : decode mX6_opensWithGrace.2.1 71 = .ok (.iload_n 2, 1) := by decide +kernel
theorem dX6_opensWithGrace_72 : decode mX6_opensWithGrace.2.1 72 = .ok (.iaload, 1) := by decide +kernel
theorem dX6_opensWithGrace_73 : decode mX6_opensWithGrace.2.1 73 = .ok (.iastore, 1) := by decide +kernel
theorem dX6_opensWithGrace_74 : decode mX6_opensWithGrace.2.1 74 = .ok (.aload_n 0, 1) := by decide +kernel
theorem dX6_opensWithGrace_75 : decode mX6_opensWithGrace.2.1 75 = .ok (.getfield 23, 3) := by decide +kernel
theorem dX6_opensWithGrace_78 : decode mX6_opensWithGrace.2.1 78 = .ok (.getfield 150, 3) := by decide +kernel
theorem dX6_opensWithGrace_81 : decode mX6_opensWithGrace.2.1 81 = .ok (.iload_n 1, 1) := by decide +kernel
theorem dX6_opensWithGrace_82 : decode mX6_opensWithGrace.2.1 82 = .ok (.ishr, 1) := by decide +kernel
theorem dX6_opensWithGrace_83 : decode mX6_opensWithGrace.2.1 83 = .ok (.iconst 1, 1) := by decide +kernel
theorem dX6_opensWithGrace_84 : decode mX6_opensWithGrace.2.1 84 = .ok (.iand, 1) := by decide +kernel
theorem dX6_opensWithGrace_85 : decode mX6_opensWithGrace.2.1 85 = .ok (.iconst 1, 1) := by decide +kernel
theorem dX6_opensWithGrace_86 : decode mX6_opensWithGrace.2.1 86 = .ok (.if_icmp .ne 7, 3) := by decide +kernel
theorem dX6_opensWithGrace_89 : decode mX6_opensWithGrace.2.1 89 = .ok (.iconst 1, 1) := by decide +kernel
theorem dX6_opensWithGrace_90 : decode mX6_opensWithGrace.2.1 90 = .ok (.goto 4, 3) := by decide +kernel
theorem dX6_opensWithGrace_93 : decode mX6_opensWithGrace.2.1 93 = .ok (.iconst 0, 1) := by decide +kernel
theorem dX6_opensWithGrace_94 : decode mX6_opensWithGrace.2.1 94 = .ok (.ireturn, 1) := by decide +kernel
def fn_X6_opensWithGrace (n : Nat) (x1 : Int32) (σ : Sg) : Option (Int32 × Sg) :=
  (if ag_ib x1 13 = true then (Option.bind (fn_X1_isThere 4 (σ 12 x1.toNatClampNeg) σ) fun q111 =>
  (if q111 = 0 then (some (0, σ))
  else (if ag_ib (σ 12 x1.toNatClampNeg) 10 = true then (if ag_ib (σ 12 x1.toNatClampNeg) 10 = true then (Option.bind (fn_X5_live n 21 (ag_up σ 24 (σ 12 x1.toNatClampNeg).toNatClampNeg ((σ 6 (σ 12 x1.toNatClampNeg).toNatClampNeg) + 1))) fun q112 =>
  (if ag_ib (σ 12 x1.toNatClampNeg) 10 = true then (if ag_ib (σ 12 x1.toNatClampNeg) 10 = true then (if ((((ag_up q112 24 (σ 12 x1.toNatClampNeg).toNatClampNeg (q112 6 (σ 12 x1.toNatClampNeg).toNatClampNeg)) 21 4) >>> (x1 &&& 31)) &&& 1) = 1 then (some (1, (ag_up q112 24 (σ 12 x1.toNatClampNeg).toNatClampNeg (q112 6 (σ 12 x1.toNatClampNeg).toNatClampNeg))))
  else (some (0, (ag_up q112 24 (σ 12 x1.toNatClampNeg).toNatClampNeg (q112 6 (σ 12 x1.toNatClampNeg).toNatClampNeg))))) else none) else none)) else none) else none))) else none)
set_option maxRecDepth 20000 in
set_option maxHeartbeats 4000000 in
theorem im_X6_opensWithGrace (n : Nat) (x1 : Int32) (σ : Sg) : Im yX6_opensWithGrace mX6_opensWithGrace 4 93 jW [.ref 0, .int x1] σ (fn_X6_opensWithGrace n x1 σ) := by
  refine Im.of (by decide +kernel) rfl rfl (Nat.le_of_ble_eq_true rfl) ?_
  show Ev mX6_opensWithGrace 4 93 jW 0 [(0, .ref 0), (1, .int x1)] [] σ (fn_X6_opensWithGrace n x1 σ)
  unfold fn_X6_opensWithGrace
  refine ev_aload_n (pc := 0) (i := 0) 0 dX6_opensWithGrace_0 rfl rfl ?_
  refine ev_getR (pc := 1) (t := 10) 4 ag_C6 (rfl) (by decide) (Nat.le_of_ble_eq_true rfl) rfl rfl ag_fl_X6_35 dX6_opensWithGrace_1 ?_
  refine ev_getR (pc := 4) (t := 12) 2 ag_C2 (rfl) (by decide) (Nat.le_of_ble_eq_true rfl) rfl rfl ag_fl_X6_166 dX6_opensWithGrace_4 ?_
  refine ev_iload_n (pc := 7) (i := 1) 1 dX6_opensWithGrace_7 rfl rfl ?_
  refine ev_iald (pc := 8) (rfl) (by decide) dX6_opensWithGrace_8 ?_
  refine ev_istore_n (pc := 9) (i := 2) (lv' := [(2, .int (σ 12 x1.toNatClampNeg)), (0, .ref 0), (1, .int x1)]) dX6_opensWithGrace_9 rfl (Nat.le_of_ble_eq_true rfl) rfl ?_
  refine ev_aload_n (pc := 10) (i := 0) 1 dX6_opensWithGrace_10 rfl rfl ?_
  refine ev_getR (pc := 11) (t := 4) 3 ag_C6 (rfl) (by decide) (Nat.le_of_ble_eq_true rfl) rfl rfl ag_fl_X6_30 dX6_opensWithGrace_11 ?_
  refine ev_iload_n (pc := 14) (i := 2) 0 dX6_opensWithGrace_14 rfl rfl ?_
  refine ev_vI (pc := 15) (as := [.int (σ 12 x1.toNatClampNeg)]) (rest := []) ⟨1, 68, 6, TX1, tyX1, ag_C1, ⟨(rfl), (by decide)⟩, mv_X1_isThere, ag_ml_X6_68, rfl, (Nat.le_of_ble_eq_true rfl), ⟨(Nat.le_of_ble_eq_true rfl), (Nat.le_of_ble_eq_true rfl)⟩, dX6_opensWithGrace_15⟩ (im_X1_isThere 4 (Or.inl rfl) (σ 12 x1.toNatClampNeg) σ) (fun q111 => ?_)
  refine ev_if_ne (pc := 18) (tgt := 23) dX6_opensWithGrace_18 rfl ?_ ?_
  · refine ev_iconst (pc := 21) (v := 0) dX6_opensWithGrace_21 (by decide) ?_
    exact ev_brW rfl rfl dX6_opensWithGrace_22
  · refine ev_aload_n (pc := 23) (i := 0) 1 dX6_opensWithGrace_23 rfl rfl ?_
    refine ev_getR (pc := 24) (t := 21) 2 ag_C6 (rfl) (by decide) (Nat.le_of_ble_eq_true rfl) rfl rfl ag_fl_X6_23 dX6_opensWithGrace_24 ?_
    refine ev_getR (pc := 27) (t := 22) 0 ag_C5 (rfl) (by decide) (Nat.le_of_ble_eq_true rfl) rfl rfl ag_fl_X6_26 dX6_opensWithGrace_27 ?_
    refine ev_getR (pc := 30) (t := 24) 2 ag_C1 (rfl) (by decide) (Nat.le_of_ble_eq_true rfl) rfl rfl ag_fl_X6_77 dX6_opensWithGrace_30 ?_
    refine ev_iload_n (pc := 33) (i := 2) 0 dX6_opensWithGrace_33 rfl rfl ?_
    refine ev_aload_n (pc := 34) (i := 0) 1 dX6_opensWithGrace_34 rfl rfl ?_
    refine ev_getR (pc := 35) (t := 4) 3 ag_C6 (rfl) (by decide) (Nat.le_of_ble_eq_true rfl) rfl rfl ag_fl_X6_30 dX6_opensWithGrace_35 ?_
    refine ev_getR (pc := 38) (t := 6) 2 ag_C1 (rfl) (by decide) (Nat.le_of_ble_eq_true rfl) rfl rfl ag_fl_X6_77 dX6_opensWithGrace_38 ?_
    refine ev_iload_n (pc := 41) (i := 2) 0 dX6_opensWithGrace_41 rfl rfl ?_
    refine ev_iald (pc := 42) (rfl) (by decide) dX6_opensWithGrace_42 ?_
    refine ev_iconst (pc := 43) (v := 1) dX6_opensWithGrace_43 (by decide) ?_
    refine ev_iadd (pc := 44) dX6_opensWithGrace_44 ?_
    refine ev_iast (pc := 45) (rfl) (by decide) dX6_opensWithGrace_45 ?_
    refine ev_aload_n (pc := 46) (i := 0) 1 dX6_opensWithGrace_46 rfl rfl ?_
    refine ev_getR (pc := 47) (t := 21) 2 ag_C6 (rfl) (by decide) (Nat.le_of_ble_eq_true rfl) rfl rfl ag_fl_X6_23 dX6_opensWithGrace_47 ?_
    refine ev_vV (pc := 50) (as := []) (rest := []) ⟨5, 90, 10, TX5, tyX5, ag_C5, ⟨(rfl), (by decide)⟩, mv_X5_live, ag_ml_X6_90, rfl, (Nat.le_of_ble_eq_true rfl), ⟨(Nat.le_of_ble_eq_true rfl), (Nat.le_of_ble_eq_true rfl)⟩, dX6_opensWithGrace_50⟩ (im_X5_live n 21 (Or.inr rfl) (ag_up σ 24 (σ 12 x1.toNatClampNeg).toNatClampNeg ((σ 6 (σ 12 x1.toNatClampNeg).toNatClampNeg) + 1))) (fun q112 => ?_)
    refine ev_aload_n (pc := 53) (i := 0) 1 dX6_opensWithGrace_53 rfl rfl ?_
    refine ev_getR (pc := 54) (t := 21) 2 ag_C6 (rfl) (by decide) (Nat.le_of_ble_eq_true rfl) rfl rfl ag_fl_X6_23 dX6_opensWithGrace_54 ?_
    refine ev_getR (pc := 57) (t := 22) 0 ag_C5 (rfl) (by decide) (Nat.le_of_ble_eq_true rfl) rfl rfl ag_fl_X6_26 dX6_opensWithGrace_57 ?_
    refine ev_getR (pc := 60) (t := 24) 2 ag_C1 (rfl) (by decide) (Nat.le_of_ble_eq_true rfl) rfl rfl ag_fl_X6_77 dX6_opensWithGrace_60 ?_
    refine ev_iload_n (pc := 63) (i := 2) 0 dX6_opensWithGrace_63 rfl rfl ?_
    refine ev_aload_n (pc := 64) (i := 0) 1 dX6_opensWithGrace_64 rfl rfl ?_
    refine ev_getR (pc := 65) (t := 4) 3 ag_C6 (rfl) (by decide) (Nat.le_of_ble_eq_true rfl) rfl rfl ag_fl_X6_30 dX6_opensWithGrace_65 ?_
    refine ev_getR (pc := 68) (t := 6) 2 ag_C1 (rfl) (by decide) (Nat.le_of_ble_eq_true rfl) rfl rfl ag_fl_X6_77 dX6_opensWithGrace_68 ?_
    refine ev_iload_n (pc := 71) (i := 2) 0 dX6_opensWithGrace_71 rfl rfl ?_
    refine ev_iald (pc := 72) (rfl) (by decide) dX6_opensWithGrace_72 ?_
    refine ev_iast (pc := 73) (rfl) (by decide) dX6_opensWithGrace_73 ?_
    refine ev_aload_n (pc := 74) (i := 0) 1 dX6_opensWithGrace_74 rfl rfl ?_
    refine ev_getR (pc := 75) (t := 21) 2 ag_C6 (rfl) (by decide) (Nat.le_of_ble_eq_true rfl) rfl rfl ag_fl_X6_23 dX6_opensWithGrace_75 ?_
    refine ev_getI (pc := 78) 4 ag_C5 (rfl) (by decide) (Nat.le_of_ble_eq_true rfl) rfl rfl ag_fl_X6_150 dX6_opensWithGrace_78 ?_
    refine ev_iload_n (pc := 81) (i := 1) 2 dX6_opensWithGrace_81 rfl rfl ?_
    refine ev_ishr (pc := 82) dX6_opensWithGrace_82 ?_
    refine ev_iconst (pc := 83) (v := 1) dX6_opensWithGrace_83 (by decide) ?_
    refine ev_iand (pc := 84) dX6_opensWithGrace_84 ?_
    refine ev_iconst (pc := 85) (v := 1) dX6_opensWithGrace_85 (by decide) ?_
    refine ev_icmp_ne (pc := 86) (tgt := 93) dX6_opensWithGrace_86 rfl ?_ ?_
    · refine ev_iconst (pc := 89) (v := 1) dX6_opensWithGrace_89 (by decide) ?_
      refine ev_goto (pc := 90) (tgt := 94) dX6_opensWithGrace_90 rfl ?_
      exact ev_brW rfl rfl dX6_opensWithGrace_94
    · refine ev_iconst (pc := 93) (v := 0) dX6_opensWithGrace_93 (by decide) ?_
      exact ev_brW rfl rfl dX6_opensWithGrace_94
-- X6_tooSoon
def mX6_tooSoon : Md := (RX6, cX6_tooSoon, 4, some .int, none)
theorem mv_X6_tooSoon : ag_Mv yX6_tooSoon mX6_tooSoon 0 := ⟨ag_co_X6_tooSoon, ag_im_X6_tooSoon, ag_se_X6_tooSoon, ag_ini_X6, by decide +kernel⟩
theorem dX6_tooSoon_0 : decode mX6_tooSoon.2.1 0 = .ok (.aload_n 0, 1) := by decide +kernel
theorem dX6_tooSoon_1 : decode mX6_tooSoon.2.1 1 = .ok (.getfield 19, 3) := by decide +kernel
theorem dX6_tooSoon_4 : decode mX6_tooSoon.2.1 4 = .ok (.invokevirtual 147, 3) := by decide +kernel
theorem dX6_tooSoon_7 : decode mX6_tooSoon.2.1 7 = .ok (.istore_n 1, 1) := by decide +kernel
theorem dX6_tooSoon_8 : decode mX6_tooSoon.2.1 8 = .ok (.iconst 0, 1) := by decide +kernel
theorem dX6_tooSoon_9 : decode mX6_tooSoon.2.1 9 = .ok (.istore_n 2, 1) := by decide +kernel
theorem dX6_tooSoon_10 : decode mX6_tooSoon.2.1 10 = .ok (.aload_n 0, 1) := by decide +kernel
theorem dX6_tooSoon_11 : decode mX6_tooSoon.2.1 11 = .ok (.getfield 23, 3) := by decide +kernel
theorem dX6_tooSoon_14 : decode mX6_tooSoon.2.1 14 = .ok (.aload_n 0, 1) := by decide +kernel
theorem dX6_tooSoon_15 : decode mX6_tooSoon.2.1 15 = .ok (.getfield 19, 3) := by decide +kernel
theorem dX6_tooSoon_18 : decode mX6_tooSoon.2.1 18 = .ok (.invokevirtual 159, 3) := by decide +kernel
theorem dX6_tooSoon_21 : decode mX6_tooSoon.2.1 21 = .ok (.iconst 0, 1) := by decide +kernel
theorem dX6_tooSoon_22 : decode mX6_tooSoon.2.1 22 = .ok (.istore_n 3, 1) := by decide +kernel
theorem dX6_tooSoon_23 : decode mX6_tooSoon.2.1 23 = .ok (.iload_n 3, 1) := by decide +kernel
theorem dX6_tooSoon_24 : decode mX6_tooSoon.2.1 24 = .ok (.aload_n 0, 1) := by decide +kernel
theorem dX6_tooSoon_25 : decode mX6_tooSoon.2.1 25 = .ok (.getfield 35, 3) := by decide +kernel
theorem dX6_tooSoon_28 : decode mX6_tooSoon.2.1 28 = .ok (.getfield 97, 3) := by decide +kernel
theorem dX6_tooSoon_31 : decode mX6_tooSoon.2.1 31 = .ok (.if_icmp .ge 32, 3) := by decide +kernel
theorem dX6_tooSoon_34 : decode mX6_tooSoon.2.1 34 = .ok (.iload_n 1, 1) := by decide +kernel
theorem dX6_tooSoon_35 : decode mX6_tooSoon.2.1 35 = .ok (.iload_n 3, 1) := by decide +kernel
theorem dX6_tooSoon_36 : decode mX6_tooSoon.2.1 36 = .ok (.ishr, 1) := by decide +kernel
theorem dX6_tooSoon_37 : decode mX6_tooSoon.2.1 37 = .ok (.iconst 1, 1) := by decide +kernel
theorem dX6_tooSoon_38 : decode mX6_tooSoon.2.1 38 = .ok (.iand, 1) := by decide +kernel
theorem dX6_tooSoon_39 : decode mX6_tooSoon.2.1 39 = .ok (.iconst 1, 1) := by decide +kernel
theorem dX6_tooSoon_40 : decode mX6_tooSoon.2.1 40 = .ok (.if_icmp .ne 17, 3) := by decide +kernel
theorem dX6_tooSoon_43 : decode mX6_tooSoon.2.1 43 = .ok (.aload_n 0, 1) := by decide +kernel
theorem dX6_tooSoon_44 : decode mX6_tooSoon.2.1 44 = .ok (.iload_n 3, 1) := by decide +kernel
theorem dX6_tooSoon_45 : decode mX6_tooSoon.2.1 45 = .ok (.invokevirtual 163, 3) := by decide +kernel
theorem dX6_tooSoon_48 : decode mX6_tooSoon.2.1 48 = .ok (.ifCond .eq 9, 3) := by decide +kernel
theorem dX6_tooSoon_51 : decode mX6_tooSoon.2.1 51 = .ok (.iload_n 2, 1) := by decide +kernel
theorem dX6_tooSoon_52 : decode mX6_tooSoon.2.1 52 = .ok (.iconst 1, 1) := by decide +kernel
theorem dX6_tooSoon_53 : decode mX6_tooSoon.2.1 53 = .ok (.iload_n 3, 1) := by decide +kernel
theorem dX6_tooSoon_54 : decode mX6_tooSoon.2.1 54 = .ok (.ishl, 1) := by decide +kernel
theorem dX6_tooSoon_55 : decode mX6_tooSoon.2.1 55 = .ok (.ior, 1) := by decide +kernel
theorem dX6_tooSoon_56 : decode mX6_tooSoon.2.1 56 = .ok (.istore_n 2, 1) := by decide +kernel
theorem dX6_tooSoon_57 : decode mX6_tooSoon.2.1 57 = .ok (.iinc 3 1, 3) := by decide +kernel
theorem dX6_tooSoon_60 : decode mX6_tooSoon.2.1 60 = .ok (.goto (-37), 3) := by decide +kernel
theorem dX6_tooSoon_63 : decode mX6_tooSoon.2.1 63 = .ok (.iload_n 2, 1) := by decide +kernel
theorem dX6_tooSoon_64 : decode mX6_tooSoon.2.1 64 = .ok (.ireturn, 1) := by decide +kernel
def fn_X6_tooSoon_b57 (n : Nat)  (k23 : Int32 → Int32 → Int32 → Sg → Option (Int32 × Sg)) (v1 : Int32) (v2 : Int32) (v3 : Int32) (σ : Sg) : Option (Int32 × Sg) :=
  (k23 v1 v2 (v3 + 1) σ)
set_option maxRecDepth 20000 in
set_option maxHeartbeats 4000000 in
theorem ev_X6_tooSoon_b57 (n : Nat)  (k23 : Int32 → Int32 → Int32 → Sg → Option (Int32 × Sg)) (hk23 : ∀ (v1 : Int32) (v2 : Int32) (v3 : Int32) (σ : Sg), Ev mX6_tooSoon 5 115 jW 23 [(0, .ref 0), (1, .int v1), (2, .int v2), (3, .int v3)] [] σ (k23 v1 v2 v3 σ)) (v1 : Int32) (v2 : Int32) (v3 : Int32) (σ : Sg) : Ev mX6_tooSoon 5 115 jW 57 [(0, .ref 0), (1, .int v1), (2, .int v2), (3, .int v3)] [] σ (fn_X6_tooSoon_b57 n k23 v1 v2 v3 σ) := by
  unfold fn_X6_tooSoon_b57
  refine ev_iinc (pc := 57) (v := (v3 + 1)) (lv' := [(3, .int (v3 + 1)), (0, .ref 0), (1, .int v1), (2, .int v2)]) 3 dX6_tooSoon_57 rfl rfl (Nat.le_of_ble_eq_true rfl) rfl ?_
  refine ev_goto (pc := 60) (tgt := 23) dX6_tooSoon_60 rfl ?_
  refine ev_sub [1, 2, 3, 0] rfl ?_
  exact hk23 v1 v2 (v3 + 1) σ
def fn_X6_tooSoon_b23 (n : Nat)   : Nat → Int32 → Int32 → Int32 → Sg → Option (Int32 × Sg)
  | 0 => fun _ _ _ _ => none
  | i + 1 => fun v1 v2 v3 σ =>
  (if (σ 10 0) ≤ v3 then (some (v2, σ))
  else (if ((v1 >>> (v3 &&& 31)) &&& 1) = 1 then (Option.bind (fn_X6_opensWithGrace n v3 σ) fun q113 =>
  (if q113.1 = 0 then (fn_X6_tooSoon_b57 n (fn_X6_tooSoon_b23 n i) v1 v2 v3 q113.2)
  else (fn_X6_tooSoon_b57 n (fn_X6_tooSoon_b23 n i) v1 (v2 ||| (1 <<< (v3 &&& 31))) v3 q113.2)))
  else (fn_X6_tooSoon_b57 n (fn_X6_tooSoon_b23 n i) v1 v2 v3 σ)))
theorem fn_X6_tooSoon_b23_s (n : Nat)   (i : Nat) (v1 : Int32) (v2 : Int32) (v3 : Int32) (σ : Sg) : fn_X6_tooSoon_b23 n (i + 1) v1 v2 v3 σ =
  (if (σ 10 0) ≤ v3 then (some (v2, σ))
  else (if ((v1 >>> (v3 &&& 31)) &&& 1) = 1 then (Option.bind (fn_X6_opensWithGrace n v3 σ) fun q113 =>
  (if q113.1 = 0 then (fn_X6_tooSoon_b57 n (fn_X6_tooSoon_b23 n i) v1 v2 v3 q113.2)
  else (fn_X6_tooSoon_b57 n (fn_X6_tooSoon_b23 n i) v1 (v2 ||| (1 <<< (v3 &&& 31))) v3 q113.2)))
  else (fn_X6_tooSoon_b57 n (fn_X6_tooSoon_b23 n i) v1 v2 v3 σ))) := rfl
set_option maxRecDepth 20000 in
set_option maxHeartbeats 4000000 in
theorem ev_X6_tooSoon_b23 (n : Nat)   : ∀ (i : Nat) (v1 : Int32) (v2 : Int32) (v3 : Int32) (σ : Sg), Ev mX6_tooSoon 5 115 jW 23 [(0, .ref 0), (1, .int v1), (2, .int v2), (3, .int v3)] [] σ (fn_X6_tooSoon_b23 n i v1 v2 v3 σ) := by
  intro i
  induction i with
  | zero =>
    intro v1 v2 v3 σ
    exact ev_none
  | succ i ih =>
    intro v1 v2 v3 σ
    rw [fn_X6_tooSoon_b23_s]
    refine ev_iload_n (pc := 23) (i := 3) 3 dX6_tooSoon_23 rfl rfl ?_
    refine ev_aload_n (pc := 24) (i := 0) 0 dX6_tooSoon_24 rfl rfl ?_
    refine ev_getR (pc := 25) (t := 10) 4 ag_C6 (rfl) (by decide) (Nat.le_of_ble_eq_true rfl) rfl rfl ag_fl_X6_35 dX6_tooSoon_25 ?_
    refine ev_getI (pc := 28) 0 ag_C2 (rfl) (by decide) (Nat.le_of_ble_eq_true rfl) rfl rfl ag_fl_X6_97 dX6_tooSoon_28 ?_
    refine ev_icmp_ge (pc := 31) (tgt := 63) dX6_tooSoon_31 rfl ?_ ?_
    · refine ev_iload_n (pc := 63) (i := 2) 2 dX6_tooSoon_63 rfl rfl ?_
      exact ev_irW rfl dX6_tooSoon_64
    · refine ev_iload_n (pc := 34) (i := 1) 1 dX6_tooSoon_34 rfl rfl ?_
      refine ev_iload_n (pc := 35) (i := 3) 3 dX6_tooSoon_35 rfl rfl ?_
      refine ev_ishr (pc := 36) dX6_tooSoon_36 ?_
      refine ev_iconst (pc := 37) (v := 1) dX6_tooSoon_37 (by decide) ?_
      refine ev_iand (pc := 38) dX6_tooSoon_38 ?_
      refine ev_iconst (pc := 39) (v := 1) dX6_tooSoon_39 (by decide) ?_
      refine ev_icmp_ne (pc := 40) (tgt := 57) dX6_tooSoon_40 rfl ?_ ?_
      · refine ev_aload_n (pc := 43) (i := 0) 0 dX6_tooSoon_43 rfl rfl ?_
        refine ev_iload_n (pc := 44) (i := 3) 3 dX6_tooSoon_44 rfl rfl ?_
        refine ev_vW (pc := 45) (as := [.int v3]) (rest := []) ⟨6, 163, 8, TX6, tyX6, ag_C6, ⟨(rfl), (by decide)⟩, mv_X6_opensWithGrace, ag_ml_X6_163, rfl, (Nat.le_of_ble_eq_true rfl), ⟨(Nat.le_of_ble_eq_true rfl), (Nat.le_of_ble_eq_true rfl)⟩, dX6_tooSoon_45⟩ (im_X6_opensWithGrace n v3 σ) (fun q113 => ?_)
        refine ev_if_eq (pc := 48) (tgt := 57) dX6_tooSoon_48 rfl ?_ ?_
        · exact ev_X6_tooSoon_b57 n (fn_X6_tooSoon_b23 n i) ih v1 v2 v3 q113.2
        · refine ev_iload_n (pc := 51) (i := 2) 2 dX6_tooSoon_51 rfl rfl ?_
          refine ev_iconst (pc := 52) (v := 1) dX6_tooSoon_52 (by decide) ?_
          refine ev_iload_n (pc := 53) (i := 3) 3 dX6_tooSoon_53 rfl rfl ?_
          refine ev_ishl (pc := 54) dX6_tooSoon_54 ?_
          refine ev_ior (pc := 55) dX6_tooSoon_55 ?_
          refine ev_istore_n (pc := 56) (i := 2) (lv' := [(2, .int (v2 ||| (1 <<< (v3 &&& 31)))), (0, .ref 0), (1, .int v1), (3, .int v3)]) dX6_tooSoon_56 rfl (Nat.le_of_ble_eq_true rfl) rfl ?_
          refine ev_sub [1, 2, 0, 3] rfl ?_
          exact ev_X6_tooSoon_b57 n (fn_X6_tooSoon_b23 n i) ih v1 (v2 ||| (1 <<< (v3 &&& 31))) v3 q113.2
      · exact ev_X6_tooSoon_b57 n (fn_X6_tooSoon_b23 n i) ih v1 v2 v3 σ
def fn_X6_tooSoon (n : Nat)  (σ : Sg) : Option (Int32 × Sg) :=
  (Option.bind (fn_X5_sealedBits 3 σ) fun q114 =>
  (Option.bind (fn_X5_takeFrom 21 3 σ) fun q115 =>
  (fn_X6_tooSoon_b23 n n q114 0 0 q115)))
set_option maxRecDepth 20000 in
set_option maxHeartbeats 4000000 in
theorem im_X6_tooSoon (n : Nat)  (σ : Sg) : Im yX6_tooSoon mX6_tooSoon 5 115 jW [.ref 0] σ (fn_X6_tooSoon n  σ) := by
  refine Im.of (by decide +kernel) rfl rfl (Nat.le_of_ble_eq_true rfl) ?_
  show Ev mX6_tooSoon 5 115 jW 0 [(0, .ref 0)] [] σ (fn_X6_tooSoon n  σ)
  unfold fn_X6_tooSoon
  refine ev_aload_n (pc := 0) (i := 0) 0 dX6_tooSoon_0 rfl rfl ?_
  refine ev_getR (pc := 1) (t := 3) 1 ag_C6 (rfl) (by decide) (Nat.le_of_ble_eq_true rfl) rfl rfl ag_fl_X6_19 dX6_tooSoon_1 ?_
  refine ev_vI (pc := 4) (as := []) (rest := []) ⟨5, 147, 10, TX5, tyX5, ag_C5, ⟨(rfl), (by decide)⟩, mv_X5_sealedBits, ag_ml_X6_147, rfl, (Nat.le_of_ble_eq_true rfl), ⟨(Nat.le_of_ble_eq_true rfl), (Nat.le_of_ble_eq_true rfl)⟩, dX6_tooSoon_4⟩ (im_X5_sealedBits 3 (Or.inl rfl) σ) (fun q114 => ?_)
  refine ev_istore_n (pc := 7) (i := 1) (lv' := [(1, .int q114), (0, .ref 0)]) dX6_tooSoon_7 rfl (Nat.le_of_ble_eq_true rfl) rfl ?_
  refine ev_iconst (pc := 8) (v := 0) dX6_tooSoon_8 (by decide) ?_
  refine ev_istore_n (pc := 9) (i := 2) (lv' := [(2, .int 0), (1, .int q114), (0, .ref 0)]) dX6_tooSoon_9 rfl (Nat.le_of_ble_eq_true rfl) rfl ?_
  refine ev_aload_n (pc := 10) (i := 0) 2 dX6_tooSoon_10 rfl rfl ?_
  refine ev_getR (pc := 11) (t := 21) 2 ag_C6 (rfl) (by decide) (Nat.le_of_ble_eq_true rfl) rfl rfl ag_fl_X6_23 dX6_tooSoon_11 ?_
  refine ev_aload_n (pc := 14) (i := 0) 2 dX6_tooSoon_14 rfl rfl ?_
  refine ev_getR (pc := 15) (t := 3) 1 ag_C6 (rfl) (by decide) (Nat.le_of_ble_eq_true rfl) rfl rfl ag_fl_X6_19 dX6_tooSoon_15 ?_
  refine ev_vV (pc := 18) (as := [.ref 3]) (rest := []) ⟨5, 159, 10, TX5, tyX5, ag_C5, ⟨(rfl), (by decide)⟩, mv_X5_takeFrom, ag_ml_X6_159, rfl, (Nat.le_of_ble_eq_true rfl), ⟨(Nat.le_of_ble_eq_true rfl), (Nat.le_of_ble_eq_true rfl)⟩, dX6_tooSoon_18⟩ (im_X5_takeFrom 21 (Or.inr rfl) 3 (Or.inl rfl) σ) (fun q115 => ?_)
  refine ev_iconst (pc := 21) (v := 0) dX6_tooSoon_21 (by decide) ?_
  refine ev_istore_n (pc := 22) (i := 3) (lv' := [(3, .int 0), (2, .int 0), (1, .int q114), (0, .ref 0)]) dX6_tooSoon_22 rfl (Nat.le_of_ble_eq_true rfl) rfl ?_
  refine ev_sub [3, 2, 1, 0] rfl ?_
  exact ev_X6_tooSoon_b23 n n q114 0 0 q115
-- X6_learnedBySend
def mX6_learnedBySend : Md := (RX6, cX6_learnedBySend, 7, some .int, none)
theorem mv_X6_learnedBySend : ag_Mv yX6_learnedBySend mX6_learnedBySend 5 := ⟨ag_co_X6_learnedBySend, ag_im_X6_learnedBySend, ag_se_X6_learnedBySend, ag_ini_X6, by decide +kernel⟩
theorem dX6_learnedBySend_0 : decode mX6_learnedBySend.2.1 0 = .ok (.aload_n 0, 1) := by decide +kernel
theorem dX6_learnedBySend_1 : decode mX6_learnedBySend.2.1 1 = .ok (.getfield 23, 3) := by decide +kernel
theorem dX6_learnedBySend_4 : decode mX6_learnedBySend.2.1 4 = .ok (.getfield 31, 3) := by decide +kernel
theorem dX6_learnedBySend_7 : decode mX6_learnedBySend.2.1 7 = .ok (.iload_n 1, 1) := by decide +kernel
theorem dX6_learnedBySend_8 : decode mX6_learnedBySend.2.1 8 = .ok (.iload_n 2, 1) := by decide +kernel
theorem dX6_learnedBySend_9 : decode mX6_learnedBySend.2.1 9 = .ok (.iload_n 3, 1) := by decide +kernel
theorem dX6_learnedBySend_10 : decode mX6_learnedBySend.2.1 10 = .ok (.iload 4, 2) := by decide +kernel
theorem dX6_learnedBySend_12 : decode mX6_learnedBySend.2.1 12 = .ok (.iconst (-1), 1) := by decide +kernel
theorem dX6_learnedBySend_13 : decode mX6_learnedBySend.2.1 13 = .ok (.invokevirtual 118, 3) := by decide +kernel
theorem dX6_learnedBySend_16 : decode mX6_learnedBySend.2.1 16 = .ok (.aload_n 0, 1) := by decide +kernel
theorem dX6_learnedBySend_17 : decode mX6_learnedBySend.2.1 17 = .ok (.getfield 23, 3) := by decide +kernel
theorem dX6_learnedBySend_20 : decode mX6_learnedBySend.2.1 20 = .ok (.aload_n 0, 1) := by decide +kernel
theorem dX6_learnedBySend_21 : decode mX6_learnedBySend.2.1 21 = .ok (.getfield 23, 3) := by decide +kernel
theorem dX6_learnedBySend_24 : decode mX6_learnedBySend.2.1 24 = .ok (.getfield 31, 3) := by decide +kernel
theorem dX6_learnedBySend_27 : decode mX6_learnedBySend.2.1 27 = .ok (.getfield 97, 3) := by decide +kernel
theorem dX6_learnedBySend_30 : decode mX6_learnedBySend.2.1 30 = .ok (.iconst 1, 1) := by decide +kernel
theorem dX6_learnedBySend_31 : decode mX6_learnedBySend.2.1 31 = .ok (.isub, 1) := by decide +kernel
theorem dX6_learnedBySend_32 : decode mX6_learnedBySend.2.1 32 = .ok (.invokevirtual 182, 3) := by decide +kernel
theorem dX6_learnedBySend_35 : decode mX6_learnedBySend.2.1 35 = .ok (.iload 5, 2) := by decide +kernel
theorem dX6_learnedBySend_37 : decode mX6_learnedBySend.2.1 37 = .ok (.if_icmp .lt 6, 3) := by decide +kernel
theorem dX6_learnedBySend_40 : decode mX6_learnedBySend.2.1 40 = .ok (.iload 5, 2) := by decide +kernel
theorem dX6_learnedBySend_42 : decode mX6_learnedBySend.2.1 42 = .ok (.ireturn, 1) := by decide +kernel
theorem dX6_learnedBySend_43 : decode mX6_learnedBySend.2.1 43 = .ok (.aload_n 0, 1) := by decide +kernel
theorem dX6_learnedBySend_44 : decode mX6_learnedBySend.2.1 44 = .ok (.getfield 23, 3) := by decide +kernel
theorem dX6_learnedBySend_47 : decode mX6_learnedBySend.2.1 47 = .ok (.invokevirtual 90, 3) := by decide +kernel
theorem dX6_learnedBySend_50 : decode mX6_learnedBySend.2.1 50 = .ok (.aload_n 0, 1) := by decide +kernel
theorem dX6_learnedBySend_51 : decode mX6_learnedBySend.2.1 51 = .ok (.getfield 23, 3) := by decide +kernel
theorem dX6_learnedBySend_54 : decode mX6_learnedBySend.2.1 54 = .ok (.iload_n 2, 1) := by decide +kernel
theorem dX6_learnedBySend_55 : decode mX6_learnedBySend.2.1 55 = .ok (.iload 4, 2) := by decide +kernel
theorem dX6_learnedBySend_57 : decode mX6_learnedBySend.2.1 57 = .ok (.invokevirtual 144, 3) := by decide +kernel
theorem dX6_learnedBySend_60 : decode mX6_learnedBySend.2.1 60 = .ok (.istore 6, 2) := by decide +kernel
theorem dX6_learnedBySend_62 : decode mX6_learnedBySend.2.1 62 = .ok (.iload 6, 2) := by decide +kernel
theorem dX6_learnedBySend_64 : decode mX6_learnedBySend.2.1 64 = .ok (.iconst (-1), 1) := by decide +kernel
theorem dX6_learnedBySend_65 : decode mX6_learnedBySend.2.1 65 = .ok (.if_icmp .ne 8, 3) := by decide +kernel
theorem dX6_learnedBySend_68 : decode mX6_learnedBySend.2.1 68 = .ok (.iload 5, 2) := by decide +kernel
theorem dX6_learnedBySend_70 : decode mX6_learnedBySend.2.1 70 = .ok (.goto 10, 3) := by decide +kernel
theorem dX6_learnedBySend_73 : decode mX6_learnedBySend.2.1 73 = .ok (.iload 6, 2) := by decide +kernel
theorem dX6_learnedBySend_75 : decode mX6_learnedBySend.2.1 75 = .ok (.iload 5, 2) := by decide +kernel
theorem dX6_learnedBySend_77 : decode mX6_learnedBySend.2.1 77 = .ok (.invokestatic 185, 3) := by decide +kernel
theorem dX6_learnedBySend_80 : decode mX6_learnedBySend.2.1 80 = .ok (.ireturn, 1) := by decide +kernel
def fn_X6_learnedBySend (n : Nat) (x1 : Int32) (x2 : Int32) (x3 : Int32) (x4 : Int32) (x5 : Int32) (σ : Sg) : Option (Int32 × Sg) :=
  (Option.bind (fn_X2_setLast 28 x1 x2 x3 x4 (-1) σ) fun q116 =>
  (Option.bind (fn_X5_dueYear 21 ((q116 28 0) - 1) q116) fun q117 =>
  (if q117 < x5 then (Option.bind (fn_X5_live n 21 q116) fun q118 =>
  (Option.bind (fn_X5_learningYear 21 x2 x4 q118) fun q119 =>
  (if q119 = (-1) then (some (x5, q118))
  else (some ((ag_min q119 x5), q118)))))
  else (some (x5, q116)))))
set_option maxRecDepth 20000 in
set_option maxHeartbeats 4000000 in
theorem im_X6_learnedBySend (n : Nat) (x1 : Int32) (x2 : Int32) (x3 : Int32) (x4 : Int32) (x5 : Int32) (σ : Sg) : Im yX6_learnedBySend mX6_learnedBySend 4 93 jW [.ref 0, .int x1, .int x2, .int x3, .int x4, .int x5] σ (fn_X6_learnedBySend n x1 x2 x3 x4 x5 σ) := by
  refine Im.of (by decide +kernel) rfl rfl (Nat.le_of_ble_eq_true rfl) ?_
  show Ev mX6_learnedBySend 4 93 jW 0 [(0, .ref 0), (1, .int x1), (2, .int x2), (3, .int x3), (4, .int x4), (5, .int x5)] [] σ (fn_X6_learnedBySend n x1 x2 x3 x4 x5 σ)
  unfold fn_X6_learnedBySend
  refine ev_aload_n (pc := 0) (i := 0) 0 dX6_learnedBySend_0 rfl rfl ?_
  refine ev_getR (pc := 1) (t := 21) 2 ag_C6 (rfl) (by decide) (Nat.le_of_ble_eq_true rfl) rfl rfl ag_fl_X6_23 dX6_learnedBySend_1 ?_
  refine ev_getR (pc := 4) (t := 28) 1 ag_C5 (rfl) (by decide) (Nat.le_of_ble_eq_true rfl) rfl rfl ag_fl_X6_31 dX6_learnedBySend_4 ?_
  refine ev_iload_n (pc := 7) (i := 1) 1 dX6_learnedBySend_7 rfl rfl ?_
  refine ev_iload_n (pc := 8) (i := 2) 2 dX6_learnedBySend_8 rfl rfl ?_
  refine ev_iload_n (pc := 9) (i := 3) 3 dX6_learnedBySend_9 rfl rfl ?_
  refine ev_iload (pc := 10) 4 dX6_learnedBySend_10 rfl ?_
  refine ev_iconst (pc := 12) (v := (-1)) dX6_learnedBySend_12 (by decide) ?_
  refine ev_vV (pc := 13) (as := [.int x1, .int x2, .int x3, .int x4, .int (-1)]) (rest := []) ⟨2, 118, 6, TX2, tyX2, ag_C2, ⟨(rfl), (by decide)⟩, mv_X2_setLast, ag_ml_X6_118, rfl, (Nat.le_of_ble_eq_true rfl), ⟨(Nat.le_of_ble_eq_true rfl), (Nat.le_of_ble_eq_true rfl)⟩, dX6_learnedBySend_13⟩ (im_X2_setLast 28 (Or.inr rfl) x1 x2 x3 x4 (-1) σ) (fun q116 => ?_)
  refine ev_aload_n (pc := 16) (i := 0) 0 dX6_learnedBySend_16 rfl rfl ?_
  refine ev_getR (pc := 17) (t := 21) 2 ag_C6 (rfl) (by decide) (Nat.le_of_ble_eq_true rfl) rfl rfl ag_fl_X6_23 dX6_learnedBySend_17 ?_
  refine ev_aload_n (pc := 20) (i := 0) 0 dX6_learnedBySend_20 rfl rfl ?_
  refine ev_getR (pc := 21) (t := 21) 2 ag_C6 (rfl) (by decide) (Nat.le_of_ble_eq_true rfl) rfl rfl ag_fl_X6_23 dX6_learnedBySend_21 ?_
  refine ev_getR (pc := 24) (t := 28) 1 ag_C5 (rfl) (by decide) (Nat.le_of_ble_eq_true rfl) rfl rfl ag_fl_X6_31 dX6_learnedBySend_24 ?_
  refine ev_getI (pc := 27) 0 ag_C2 (rfl) (by decide) (Nat.le_of_ble_eq_true rfl) rfl rfl ag_fl_X6_97 dX6_learnedBySend_27 ?_
  refine ev_iconst (pc := 30) (v := 1) dX6_learnedBySend_30 (by decide) ?_
  refine ev_isub (pc := 31) dX6_learnedBySend_31 ?_
  refine ev_vI (pc := 32) (as := [.int ((q116 28 0) - 1)]) (rest := []) ⟨5, 182, 10, TX5, tyX5, ag_C5, ⟨(rfl), (by decide)⟩, mv_X5_dueYear, ag_ml_X6_182, rfl, (Nat.le_of_ble_eq_true rfl), ⟨(Nat.le_of_ble_eq_true rfl), (Nat.le_of_ble_eq_true rfl)⟩, dX6_learnedBySend_32⟩ (im_X5_dueYear 21 (Or.inr rfl) ((q116 28 0) - 1) q116) (fun q117 => ?_)
  refine ev_iload (pc := 35) 5 dX6_learnedBySend_35 rfl ?_
  refine ev_icmp_lt (pc := 37) (tgt := 43) dX6_learnedBySend_37 rfl ?_ ?_
  · refine ev_aload_n (pc := 43) (i := 0) 0 dX6_learnedBySend_43 rfl rfl ?_
    refine ev_getR (pc := 44) (t := 21) 2 ag_C6 (rfl) (by decide) (Nat.le_of_ble_eq_true rfl) rfl rfl ag_fl_X6_23 dX6_learnedBySend_44 ?_
    refine ev_vV (pc := 47) (as := []) (rest := []) ⟨5, 90, 10, TX5, tyX5, ag_C5, ⟨(rfl), (by decide)⟩, mv_X5_live, ag_ml_X6_90, rfl, (Nat.le_of_ble_eq_true rfl), ⟨(Nat.le_of_ble_eq_true rfl), (Nat.le_of_ble_eq_true rfl)⟩, dX6_learnedBySend_47⟩ (im_X5_live n 21 (Or.inr rfl) q116) (fun q118 => ?_)
    refine ev_aload_n (pc := 50) (i := 0) 0 dX6_learnedBySend_50 rfl rfl ?_
    refine ev_getR (pc := 51) (t := 21) 2 ag_C6 (rfl) (by decide) (Nat.le_of_ble_eq_true rfl) rfl rfl ag_fl_X6_23 dX6_learnedBySend_51 ?_
    refine ev_iload_n (pc := 54) (i := 2) 2 dX6_learnedBySend_54 rfl rfl ?_
    refine ev_iload (pc := 55) 4 dX6_learnedBySend_55 rfl ?_
    refine ev_vI (pc := 57) (as := [.int x2, .int x4]) (rest := []) ⟨5, 144, 10, TX5, tyX5, ag_C5, ⟨(rfl), (by decide)⟩, mv_X5_learningYear, ag_ml_X6_144, rfl, (Nat.le_of_ble_eq_true rfl), ⟨(Nat.le_of_ble_eq_true rfl), (Nat.le_of_ble_eq_true rfl)⟩, dX6_learnedBySend_57⟩ (im_X5_learningYear 21 (Or.inr rfl) x2 x4 q118) (fun q119 => ?_)
    refine ev_istore (pc := 60) (lv' := [(6, .int q119), (0, .ref 0), (1, .int x1), (2, .int x2), (3, .int x3), (4, .int x4), (5, .int x5)]) dX6_learnedBySend_60 (Nat.le_of_ble_eq_true rfl) rfl ?_
    refine ev_iload (pc := 62) 0 dX6_learnedBySend_62 rfl ?_
    refine ev_iconst (pc := 64) (v := (-1)) dX6_learnedBySend_64 (by decide) ?_
    refine ev_icmp_ne (pc := 65) (tgt := 73) dX6_learnedBySend_65 rfl ?_ ?_
    · refine ev_iload (pc := 68) 6 dX6_learnedBySend_68 rfl ?_
      refine ev_goto (pc := 70) (tgt := 80) dX6_learnedBySend_70 rfl ?_
      exact ev_irW rfl dX6_learnedBySend_80
    · refine ev_iload (pc := 73) 0 dX6_learnedBySend_73 rfl ?_
      refine ev_iload (pc := 75) 6 dX6_learnedBySend_75 rfl ?_
      refine ev_mmin (pc := 77) ag_ml_X6_185 ⟨(Nat.le_of_ble_eq_true rfl), (Nat.le_of_ble_eq_true rfl)⟩ dX6_learnedBySend_77 ?_
      exact ev_irW rfl dX6_learnedBySend_80
  · refine ev_iload (pc := 40) 5 dX6_learnedBySend_40 rfl ?_
    exact ev_irW rfl dX6_learnedBySend_42
-- X6_bestSend
def mX6_bestSend : Md := (RX6, cX6_bestSend, 9, some .int, none)
theorem mv_X6_bestSend : ag_Mv yX6_bestSend mX6_bestSend 2 := ⟨ag_co_X6_bestSend, ag_im_X6_bestSend, ag_se_X6_bestSend, ag_ini_X6, by decide +kernel⟩
theorem dX6_bestSend_0 : decode mX6_bestSend.2.1 0 = .ok (.aload_n 0, 1) := by decide +kernel
theorem dX6_bestSend_1 : decode mX6_bestSend.2.1 1 = .ok (.getfield 19, 3) := by decide +kernel
theorem dX6_bestSend_4 : decode mX6_bestSend.2.1 4 = .ok (.iload_n 2, 1) := by decide +kernel
theorem dX6_bestSend_5 : decode mX6_bestSend.2.1 5 = .ok (.iload_n 1, 1) := by decide +kernel
theorem dX6_bestSend_6 : decode mX6_bestSend.2.1 6 = .ok (.invokevirtual 144, 3) := by decide +kernel
theorem dX6_bestSend_9 : decode mX6_bestSend.2.1 9 = .ok (.istore_n 3, 1) := by decide +kernel
theorem dX6_bestSend_10 : decode mX6_bestSend.2.1 10 = .ok (.iload_n 3, 1) := by decide +kernel
theorem dX6_bestSend_11 : decode mX6_bestSend.2.1 11 = .ok (.iconst (-1), 1) := by decide +kernel
theorem dX6_bestSend_12 : decode mX6_bestSend.2.1 12 = .ok (.if_icmp .ne 9, 3) := by decide +kernel
theorem dX6_bestSend_15 : decode mX6_bestSend.2.1 15 = .ok (.sipush 200, 3) := by decide +kernel
theorem dX6_bestSend_18 : decode mX6_bestSend.2.1 18 = .ok (.goto 4, 3) := by decide +kernel
theorem dX6_bestSend_21 : decode mX6_bestSend.2.1 21 = .ok (.iload_n 3, 1) := by decide +kernel
theorem dX6_bestSend_22 : decode mX6_bestSend.2.1 22 = .ok (.istore 4, 2) := by decide +kernel
theorem dX6_bestSend_24 : decode mX6_bestSend.2.1 24 = .ok (.iconst (-1), 1) := by decide +kernel
theorem dX6_bestSend_25 : decode mX6_bestSend.2.1 25 = .ok (.istore 5, 2) := by decide +kernel
theorem dX6_bestSend_27 : decode mX6_bestSend.2.1 27 = .ok (.aload_n 0, 1) := by decide +kernel
theorem dX6_bestSend_28 : decode mX6_bestSend.2.1 28 = .ok (.getfield 23, 3) := by decide +kernel
theorem dX6_bestSend_31 : decode mX6_bestSend.2.1 31 = .ok (.aload_n 0, 1) := by decide +kernel
theorem dX6_bestSend_32 : decode mX6_bestSend.2.1 32 = .ok (.getfield 19, 3) := by decide +kernel
theorem dX6_bestSend_35 : decode mX6_bestSend.2.1 35 = .ok (.invokevirtual 159, 3) := by decide +kernel
theorem dX6_bestSend_38 : decode mX6_bestSend.2.1 38 = .ok (.aload_n 0, 1) := by decide +kernel
theorem dX6_bestSend_39 : decode mX6_bestSend.2.1 39 = .ok (.getfield 23, 3) := by decide +kernel
theorem dX6_bestSend_42 : decode mX6_bestSend.2.1 42 = .ok (.getfield 31, 3) := by decide +kernel
theorem dX6_bestSend_45 : decode mX6_bestSend.2.1 45 = .ok (.dup, 1) := by decide +kernel
theorem dX6_bestSend_46 : decode mX6_bestSend.2.1 46 = .ok (.getfield 97, 3) := by decide +kernel
theorem dX6_bestSend_49 : decode mX6_bestSend.2.1 49 = .ok (.iconst 1, 1) := by decide +kernel
theorem dX6_bestSend_50 : decode mX6_bestSend.2.1 50 = .ok (.iadd, 1) := by decide +kernel
theorem dX6_bestSend_51 : decode mX6_bestSend.2.1 51 = .ok (.putfield 97, 3) := by decide +kernel
theorem dX6_bestSend_54 : decode mX6_bestSend.2.1 54 = .ok (.iconst 0, 1) := by decide +kernel
theorem dX6_bestSend_55 : decode mX6_bestSend.2.1 55 = .ok (.istore 6, 2) := by decide +kernel
theorem dX6_bestSend_57 : decode mX6_bestSend.2.1 57 = .ok (.iload 6, 2) := by decide +kernel
theorem dX6_bestSend_59 : decode mX6_bestSend.2.1 59 = .ok (.aload_n 0, 1) := by decide +kernel
theorem dX6_bestSend_60 : decode mX6_bestSend.2.1 60 = .ok (.getfield 30, 3) := by decide +kernel
theorem dX6_bestSend_63 : decode mX6_bestSend.2.1 63 = .ok (.getfield 172, 3) := by decide +kernel
theorem dX6_bestSend_66 : decode mX6_bestSend.2.1 66 = .ok (.if_icmp .ge 91, 3) := by decide +kernel
theorem dX6_bestSend_69 : decode mX6_bestSend.2.1 69 = .ok (.iconst 0, 1) := by decide +kernel
theorem dX6_bestSend_70 : decode mX6_bestSend.2.1 70 = .ok (.istore 7, 2) := by decide +kernel
theorem dX6_bestSend_72 : decode mX6_bestSend.2.1 72 = .ok (.iload 7, 2) := by decide +kernel
theorem dX6_bestSend_74 : decode mX6_bestSend.2.1 74 = .ok (.iload 4, 2) := by decide +kernel
theorem dX6_bestSend_76 : decode mX6_bestSend.2.1 76 = .ok (.if_icmp .ge 75, 3) := by decide +kernel
theorem dX6_bestSend_79 : decode mX6_bestSend.2.1 79 = .ok (.iload 6, 2) := by decide +kernel
theorem dX6_bestSend_81 : decode mX6_bestSend.2.1 81 = .ok (.iload_n 2, 1) := by decide +kernel
theorem dX6_bestSend_82 : decode mX6_bestSend.2.1 82 = .ok (.if_icmp .eq 63, 3) := by decide +kernel
theorem dX6_bestSend_85 : decode mX6_bestSend.2.1 85 = .ok (.aload_n 0, 1) := by decide +kernel
theorem dX6_bestSend_86 : decode mX6_bestSend.2.1 86 = .ok (.getfield 19, 3) := by decide +kernel
theorem dX6_bestSend_89 : decode mX6_bestSend.2.1 89 = .ok (.iload 6, 2) := by decide +kernel
theorem dX6_bestSend_91 : decode mX6_bestSend.2.1 91 = .ok (.iload_n 1, 1) := by decide +kernel
theorem dX6_bestSend_92 : decode mX6_bestSend.2.1 92 = .ok (.iload 7, 2) := by decide +kernel
theorem dX6_bestSend_94 : decode mX6_bestSend.2.1 94 = .ok (.invokevirtual 175, 3) := by decide +kernel
theorem dX6_bestSend_97 : decode mX6_bestSend.2.1 97 = .ok (.ifCond .ne 6, 3) := by decide +kernel
theorem dX6_bestSend_100 : decode mX6_bestSend.2.1 100 = .ok (.goto 45, 3) := by decide +kernel
theorem dX6_bestSend_103 : decode mX6_bestSend.2.1 103 = .ok (.aload_n 0, 1) := by decide +kernel
theorem dX6_bestSend_104 : decode mX6_bestSend.2.1 104 = .ok (.iload 6, 2) := by decide +kernel
theorem dX6_bestSend_106 : decode mX6_bestSend.2.1 106 = .ok (.iload_n 2, 1) := by decide +kernel
theorem dX6_bestSend_107 : decode mX6_bestSend.2.1 107 = .ok (.iload 7, 2) := by decide +kernel
theorem dX6_bestSend_109 : decode mX6_bestSend.2.1 109 = .ok (.iload_n 1, 1) := by decide +kernel
theorem dX6_bestSend_110 : decode mX6_bestSend.2.1 110 = .ok (.iload 4, 2) := by decide +kernel
theorem dX6_bestSend_112 : decode mX6_bestSend.2.1 112 = .ok (.invokevirtual 179, 3) := by decide +kernel
theorem dX6_bestSend_115 : decode mX6_bestSend.2.1 115 = .ok (.istore 8, 2) := by decide +kernel
theorem dX6_bestSend_117 : decode mX6_bestSend.2.1 117 = .ok (.iload 8, 2) := by decide +kernel
theorem dX6_bestSend_119 : decode mX6_bestSend.2.1 119 = .ok (.iload 4, 2) := by decide +kernel
theorem dX6_bestSend_121 : decode mX6_bestSend.2.1 121 = .ok (.if_icmp .ge 24, 3) := by decide +kernel
theorem dX6_bestSend_124 : decode mX6_bestSend.2.1 124 = .ok (.iload 8, 2) := by decide +kernel
theorem dX6_bestSend_126 : decode mX6_bestSend.2.1 126 = .ok (.istore 4, 2) := by decide +kernel
theorem dX6_bestSend_128 : decode mX6_bestSend.2.1 128 = .ok (.iload 8, 2) := by decide +kernel
theorem dX6_bestSend_130 : decode mX6_bestSend.2.1 130 = .ok (.bipush 10, 2) := by decide +kernel
theorem dX6_bestSend_132 : decode mX6_bestSend.2.1 132 = .ok (.imul, 1) := by decide +kernel
theorem dX6_bestSend_133 : decode mX6_bestSend.2.1 133 = .ok (.iload 6, 2) := by decide +kernel
theorem dX6_bestSend_135 : decode mX6_bestSend.2.1 135 = .ok (.iadd, 1) := by decide +kernel
theorem dX6_bestSend_136 : decode mX6_bestSend.2.1 136 = .ok (.sipush 200, 3) := by decide +kernel
theorem dX6_bestSend_139 : decode mX6_bestSend.2.1 139 = .ok (.imul, 1) := by decide +kernel
theorem dX6_bestSend_140 : decode mX6_bestSend.2.1 140 = .ok (.iload 7, 2) := by decide +kernel
theorem dX6_bestSend_142 : decode mX6_bestSend.2.1 142 = .ok (.iadd, 1) := by decide +kernel
theorem dX6_bestSend_143 : decode mX6_bestSend.2.1 143 = .ok (.istore 5, 2) := by decide +kernel
theorem dX6_bestSend_145 : decode mX6_bestSend.2.1 145 = .ok (.iinc 7 1, 3) := by decide +kernel
theorem dX6_bestSend_148 : decode mX6_bestSend.2.1 148 = .ok (.goto (-76), 3) := by decide +kernel
theorem dX6_bestSend_151 : decode mX6_bestSend.2.1 151 = .ok (.iinc 6 1, 3) := by decide +kernel
theorem dX6_bestSend_154 : decode mX6_bestSend.2.1 154 = .ok (.goto (-97), 3) := by decide +kernel
theorem dX6_bestSend_157 : decode mX6_bestSend.2.1 157 = .ok (.iload 5, 2) := by decide +kernel
theorem dX6_bestSend_159 : decode mX6_bestSend.2.1 159 = .ok (.ireturn, 1) := by decide +kernel
def fn_X6_bestSend_b145 (n : Nat) (x1 : Int32) (x2 : Int32) (k57 : Int32 → Int32 → Int32 → Sg → Option (Int32 × Sg)) (k72 : Int32 → Int32 → Int32 → Int32 → Sg → Option (Int32 × Sg)) (v4 : Int32) (v5 : Int32) (v6 : Int32) (v7 : Int32) (σ : Sg) : Option (Int32 × Sg) :=
  (k72 v4 v5 v6 (v7 + 1) σ)
set_option maxRecDepth 20000 in
set_option maxHeartbeats 4000000 in
theorem ev_X6_bestSend_b145 (n : Nat) (x1 : Int32) (x2 : Int32) (k57 : Int32 → Int32 → Int32 → Sg → Option (Int32 × Sg)) (hk57 : ∀ (v4 : Int32) (v5 : Int32) (v6 : Int32) (σ : Sg), Ev mX6_bestSend 5 119 jW 57 [(0, .ref 0), (1, .int x1), (2, .int x2), (4, .int v4), (5, .int v5), (6, .int v6)] [] σ (k57 v4 v5 v6 σ)) (k72 : Int32 → Int32 → Int32 → Int32 → Sg → Option (Int32 × Sg)) (hk72 : ∀ (v4 : Int32) (v5 : Int32) (v6 : Int32) (v7 : Int32) (σ : Sg), Ev mX6_bestSend 5 119 jW 72 [(0, .ref 0), (1, .int x1), (2, .int x2), (4, .int v4), (5, .int v5), (6, .int v6), (7, .int v7)] [] σ (k72 v4 v5 v6 v7 σ)) (v4 : Int32) (v5 : Int32) (v6 : Int32) (v7 : Int32) (σ : Sg) : Ev mX6_bestSend 5 119 jW 145 [(0, .ref 0), (1, .int x1), (2, .int x2), (4, .int v4), (5, .int v5), (6, .int v6), (7, .int v7)] [] σ (fn_X6_bestSend_b145 n x1 x2 k57 k72 v4 v5 v6 v7 σ) := by
  unfold fn_X6_bestSend_b145
  refine ev_iinc (pc := 145) (v := (v7 + 1)) (lv' := [(7, .int (v7 + 1)), (0, .ref 0), (1, .int x1), (2, .int x2), (4, .int v4), (5, .int v5), (6, .int v6)]) 6 dX6_bestSend_145 rfl rfl (Nat.le_of_ble_eq_true rfl) rfl ?_
  refine ev_goto (pc := 148) (tgt := 72) dX6_bestSend_148 rfl ?_
  refine ev_sub [1, 2, 3, 4, 5, 6, 0] rfl ?_
  exact hk72 v4 v5 v6 (v7 + 1) σ
def fn_X6_bestSend_b72 (n : Nat) (x1 : Int32) (x2 : Int32) (k57 : Int32 → Int32 → Int32 → Sg → Option (Int32 × Sg)) : Nat → Int32 → Int32 → Int32 → Int32 → Sg → Option (Int32 × Sg)
  | 0 => fun _ _ _ _ _ => none
  | i + 1 => fun v4 v5 v6 v7 σ =>
  (if v4 ≤ v7 then (k57 v4 v5 (v6 + 1) σ)
  else (if v6 = x2 then (fn_X6_bestSend_b145 n x1 x2 k57 (fn_X6_bestSend_b72 n x1 x2 k57 i) v4 v5 v6 v7 σ)
  else (Option.bind (fn_X5_couldWrite 3 v6 x1 v7 σ) fun q120 =>
  (if q120 = 0 then (fn_X6_bestSend_b145 n x1 x2 k57 (fn_X6_bestSend_b72 n x1 x2 k57 i) v4 v5 v6 v7 σ)
  else (Option.bind (fn_X6_learnedBySend n v6 x2 v7 x1 v4 σ) fun q121 =>
  (if v4 ≤ q121.1 then (fn_X6_bestSend_b145 n x1 x2 k57 (fn_X6_bestSend_b72 n x1 x2 k57 i) v4 v5 v6 v7 q121.2)
  else (fn_X6_bestSend_b145 n x1 x2 k57 (fn_X6_bestSend_b72 n x1 x2 k57 i) q121.1 ((((q121.1 * 10) + v6) * 200) + v7) v6 v7 q121.2)))))))
theorem fn_X6_bestSend_b72_s (n : Nat) (x1 : Int32) (x2 : Int32) (k57 : Int32 → Int32 → Int32 → Sg → Option (Int32 × Sg)) (i : Nat) (v4 : Int32) (v5 : Int32) (v6 : Int32) (v7 : Int32) (σ : Sg) : fn_X6_bestSend_b72 n x1 x2 k57 (i + 1) v4 v5 v6 v7 σ =
  (if v4 ≤ v7 then (k57 v4 v5 (v6 + 1) σ)
  else (if v6 = x2 then (fn_X6_bestSend_b145 n x1 x2 k57 (fn_X6_bestSend_b72 n x1 x2 k57 i) v4 v5 v6 v7 σ)
  else (Option.bind (fn_X5_couldWrite 3 v6 x1 v7 σ) fun q120 =>
  (if q120 = 0 then (fn_X6_bestSend_b145 n x1 x2 k57 (fn_X6_bestSend_b72 n x1 x2 k57 i) v4 v5 v6 v7 σ)
  else (Option.bind (fn_X6_learnedBySend n v6 x2 v7 x1 v4 σ) fun q121 =>
  (if v4 ≤ q121.1 then (fn_X6_bestSend_b145 n x1 x2 k57 (fn_X6_bestSend_b72 n x1 x2 k57 i) v4 v5 v6 v7 q121.2)
  else (fn_X6_bestSend_b145 n x1 x2 k57 (fn_X6_bestSend_b72 n x1 x2 k57 i) q121.1 ((((q121.1 * 10) + v6) * 200) + v7) v6 v7 q121.2))))))) := rfl
set_option maxRecDepth 20000 in
set_option maxHeartbeats 4000000 in
theorem ev_X6_bestSend_b72 (n : Nat) (x1 : Int32) (x2 : Int32) (k57 : Int32 → Int32 → Int32 → Sg → Option (Int32 × Sg)) (hk57 : ∀ (v4 : Int32) (v5 : Int32) (v6 : Int32) (σ : Sg), Ev mX6_bestSend 5 119 jW 57 [(0, .ref 0), (1, .int x1), (2, .int x2), (4, .int v4), (5, .int v5), (6, .int v6)] [] σ (k57 v4 v5 v6 σ)) : ∀ (i : Nat) (v4 : Int32) (v5 : Int32) (v6 : Int32) (v7 : Int32) (σ : Sg), Ev mX6_bestSend 5 119 jW 72 [(0, .ref 0), (1, .int x1), (2, .int x2), (4, .int v4), (5, .int v5), (6, .int v6), (7, .int v7)] [] σ (fn_X6_bestSend_b72 n x1 x2 k57 i v4 v5 v6 v7 σ) := by
  intro i
  induction i with
  | zero =>
    intro v4 v5 v6 v7 σ
    exact ev_none
  | succ i ih =>
    intro v4 v5 v6 v7 σ
    rw [fn_X6_bestSend_b72_s]
    refine ev_iload (pc := 72) 6 dX6_bestSend_72 rfl ?_
    refine ev_iload (pc := 74) 3 dX6_bestSend_74 rfl ?_
    refine ev_icmp_ge (pc := 76) (tgt := 151) dX6_bestSend_76 rfl ?_ ?_
    · refine ev_iinc (pc := 151) (v := (v6 + 1)) (lv' := [(6, .int (v6 + 1)), (0, .ref 0), (1, .int x1), (2, .int x2), (4, .int v4), (5, .int v5), (7, .int v7)]) 5 dX6_bestSend_151 rfl rfl (Nat.le_of_ble_eq_true rfl) rfl ?_
      refine ev_goto (pc := 154) (tgt := 57) dX6_bestSend_154 rfl ?_
      refine ev_sub [1, 2, 3, 4, 5, 0] rfl ?_
      exact hk57 v4 v5 (v6 + 1) σ
    · refine ev_iload (pc := 79) 5 dX6_bestSend_79 rfl ?_
      refine ev_iload_n (pc := 81) (i := 2) 2 dX6_bestSend_81 rfl rfl ?_
      refine ev_icmp_eq (pc := 82) (tgt := 145) dX6_bestSend_82 rfl ?_ ?_
      · exact ev_X6_bestSend_b145 n x1 x2 k57 hk57 (fn_X6_bestSend_b72 n x1 x2 k57 i) ih v4 v5 v6 v7 σ
      · refine ev_aload_n (pc := 85) (i := 0) 0 dX6_bestSend_85 rfl rfl ?_
        refine ev_getR (pc := 86) (t := 3) 1 ag_C6 (rfl) (by decide) (Nat.le_of_ble_eq_true rfl) rfl rfl ag_fl_X6_19 dX6_bestSend_86 ?_
        refine ev_iload (pc := 89) 5 dX6_bestSend_89 rfl ?_
        refine ev_iload_n (pc := 91) (i := 1) 1 dX6_bestSend_91 rfl rfl ?_
        refine ev_iload (pc := 92) 6 dX6_bestSend_92 rfl ?_
        refine ev_vI (pc := 94) (as := [.int v6, .int x1, .int v7]) (rest := []) ⟨5, 175, 10, TX5, tyX5, ag_C5, ⟨(rfl), (by decide)⟩, mv_X5_couldWrite, ag_ml_X6_175, rfl, (Nat.le_of_ble_eq_true rfl), ⟨(Nat.le_of_ble_eq_true rfl), (Nat.le_of_ble_eq_true rfl)⟩, dX6_bestSend_94⟩ (im_X5_couldWrite 3 (Or.inl rfl) v6 x1 v7 σ) (fun q120 => ?_)
        refine ev_if_ne (pc := 97) (tgt := 103) dX6_bestSend_97 rfl ?_ ?_
        · refine ev_goto (pc := 100) (tgt := 145) dX6_bestSend_100 rfl ?_
          exact ev_X6_bestSend_b145 n x1 x2 k57 hk57 (fn_X6_bestSend_b72 n x1 x2 k57 i) ih v4 v5 v6 v7 σ
        · refine ev_aload_n (pc := 103) (i := 0) 0 dX6_bestSend_103 rfl rfl ?_
          refine ev_iload (pc := 104) 5 dX6_bestSend_104 rfl ?_
          refine ev_iload_n (pc := 106) (i := 2) 2 dX6_bestSend_106 rfl rfl ?_
          refine ev_iload (pc := 107) 6 dX6_bestSend_107 rfl ?_
          refine ev_iload_n (pc := 109) (i := 1) 1 dX6_bestSend_109 rfl rfl ?_
          refine ev_iload (pc := 110) 3 dX6_bestSend_110 rfl ?_
          refine ev_vW (pc := 112) (as := [.int v6, .int x2, .int v7, .int x1, .int v4]) (rest := []) ⟨6, 179, 8, TX6, tyX6, ag_C6, ⟨(rfl), (by decide)⟩, mv_X6_learnedBySend, ag_ml_X6_179, rfl, (Nat.le_of_ble_eq_true rfl), ⟨(Nat.le_of_ble_eq_true rfl), (Nat.le_of_ble_eq_true rfl)⟩, dX6_bestSend_112⟩ (im_X6_learnedBySend n v6 x2 v7 x1 v4 σ) (fun q121 => ?_)
          refine ev_istore (pc := 115) (lv' := [(8, .int q121.1), (0, .ref 0), (1, .int x1), (2, .int x2), (4, .int v4), (5, .int v5), (6, .int v6), (7, .int v7)]) dX6_bestSend_115 (Nat.le_of_ble_eq_true rfl) rfl ?_
          refine ev_iload (pc := 117) 0 dX6_bestSend_117 rfl ?_
          refine ev_iload (pc := 119) 4 dX6_bestSend_119 rfl ?_
          refine ev_icmp_ge (pc := 121) (tgt := 145) dX6_bestSend_121 rfl ?_ ?_
          · refine ev_sub [1, 2, 3, 4, 5, 6, 7] rfl ?_
            exact ev_X6_bestSend_b145 n x1 x2 k57 hk57 (fn_X6_bestSend_b72 n x1 x2 k57 i) ih v4 v5 v6 v7 q121.2
          · refine ev_iload (pc := 124) 0 dX6_bestSend_124 rfl ?_
            refine ev_istore (pc := 126) (lv' := [(4, .int q121.1), (8, .int q121.1), (0, .ref 0), (1, .int x1), (2, .int x2), (5, .int v5), (6, .int v6), (7, .int v7)]) dX6_bestSend_126 (Nat.le_of_ble_eq_true rfl) rfl ?_
            refine ev_iload (pc := 128) 1 dX6_bestSend_128 rfl ?_
            refine ev_bipush (pc := 130) (v := 10) dX6_bestSend_130 (by decide) ?_
            refine ev_imul (pc := 132) dX6_bestSend_132 ?_
            refine ev_iload (pc := 133) 6 dX6_bestSend_133 rfl ?_
            refine ev_iadd (pc := 135) dX6_bestSend_135 ?_
            refine ev_sipush (pc := 136) (v := 200) dX6_bestSend_136 (by decide) ?_
            refine ev_imul (pc := 139) dX6_bestSend_139 ?_
            refine ev_iload (pc := 140) 7 dX6_bestSend_140 rfl ?_
            refine ev_iadd (pc := 142) dX6_bestSend_142 ?_
            refine ev_istore (pc := 143) (lv' := [(5, .int ((((q121.1 * 10) + v6) * 200) + v7)), (4, .int q121.1), (8, .int q121.1), (0, .ref 0), (1, .int x1), (2, .int x2), (6, .int v6), (7, .int v7)]) dX6_bestSend_143 (Nat.le_of_ble_eq_true rfl) rfl ?_
            refine ev_sub [3, 4, 5, 1, 0, 6, 7] rfl ?_
            exact ev_X6_bestSend_b145 n x1 x2 k57 hk57 (fn_X6_bestSend_b72 n x1 x2 k57 i) ih q121.1 ((((q121.1 * 10) + v6) * 200) + v7) v6 v7 q121.2
def fn_X6_bestSend_b57 (n : Nat) (x1 : Int32) (x2 : Int32)  : Nat → Int32 → Int32 → Int32 → Sg → Option (Int32 × Sg)
  | 0 => fun _ _ _ _ => none
  | i + 1 => fun v4 v5 v6 σ =>
  (if (σ 4 0) ≤ v6 then (some (v5, σ))
  else (fn_X6_bestSend_b72 n x1 x2 (fn_X6_bestSend_b57 n x1 x2 i) n v4 v5 v6 0 σ))
theorem fn_X6_bestSend_b57_s (n : Nat) (x1 : Int32) (x2 : Int32)  (i : Nat) (v4 : Int32) (v5 : Int32) (v6 : Int32) (σ : Sg) : fn_X6_bestSend_b57 n x1 x2 (i + 1) v4 v5 v6 σ =
  (if (σ 4 0) ≤ v6 then (some (v5, σ))
  else (fn_X6_bestSend_b72 n x1 x2 (fn_X6_bestSend_b57 n x1 x2 i) n v4 v5 v6 0 σ)) := rfl
set_option maxRecDepth 20000 in
set_option maxHeartbeats 4000000 in
theorem ev_X6_bestSend_b57 (n : Nat) (x1 : Int32) (x2 : Int32)  : ∀ (i : Nat) (v4 : Int32) (v5 : Int32) (v6 : Int32) (σ : Sg), Ev mX6_bestSend 5 119 jW 57 [(0, .ref 0), (1, .int x1), (2, .int x2), (4, .int v4), (5, .int v5), (6, .int v6)] [] σ (fn_X6_bestSend_b57 n x1 x2 i v4 v5 v6 σ) := by
  intro i
  induction i with
  | zero =>
    intro v4 v5 v6 σ
    exact ev_none
  | succ i ih =>
    intro v4 v5 v6 σ
    rw [fn_X6_bestSend_b57_s]
    refine ev_iload (pc := 57) 5 dX6_bestSend_57 rfl ?_
    refine ev_aload_n (pc := 59) (i := 0) 0 dX6_bestSend_59 rfl rfl ?_
    refine ev_getR (pc := 60) (t := 4) 3 ag_C6 (rfl) (by decide) (Nat.le_of_ble_eq_true rfl) rfl rfl ag_fl_X6_30 dX6_bestSend_60 ?_
    refine ev_getI (pc := 63) 0 ag_C1 (rfl) (by decide) (Nat.le_of_ble_eq_true rfl) rfl rfl ag_fl_X6_172 dX6_bestSend_63 ?_
    refine ev_icmp_ge (pc := 66) (tgt := 157) dX6_bestSend_66 rfl ?_ ?_
    · refine ev_iload (pc := 157) 4 dX6_bestSend_157 rfl ?_
      exact ev_irW rfl dX6_bestSend_159
    · refine ev_iconst (pc := 69) (v := 0) dX6_bestSend_69 (by decide) ?_
      refine ev_istore (pc := 70) (lv' := [(7, .int 0), (0, .ref 0), (1, .int x1), (2, .int x2), (4, .int v4), (5, .int v5), (6, .int v6)]) dX6_bestSend_70 (Nat.le_of_ble_eq_true rfl) rfl ?_
      refine ev_sub [1, 2, 3, 4, 5, 6, 0] rfl ?_
      exact ev_X6_bestSend_b72 n x1 x2 (fn_X6_bestSend_b57 n x1 x2 i) ih n v4 v5 v6 0 σ
def fn_X6_bestSend_b22 (n : Nat) (x1 : Int32) (x2 : Int32)  (s0 : Int32) (σ : Sg) : Option (Int32 × Sg) :=
  (Option.bind (fn_X5_takeFrom 21 3 σ) fun q122 =>
  (fn_X6_bestSend_b57 n x1 x2 n s0 (-1) 0 (ag_up q122 28 0 ((q122 28 0) + 1))))
set_option maxRecDepth 20000 in
set_option maxHeartbeats 4000000 in
theorem ev_X6_bestSend_b22 (n : Nat) (x1 : Int32) (x2 : Int32)  (s0 : Int32) (σ : Sg) : Ev mX6_bestSend 5 119 jW 22 [(0, .ref 0), (1, .int x1), (2, .int x2)] [.int s0] σ (fn_X6_bestSend_b22 n x1 x2 s0 σ) := by
  unfold fn_X6_bestSend_b22
  refine ev_istore (pc := 22) (lv' := [(4, .int s0), (0, .ref 0), (1, .int x1), (2, .int x2)]) dX6_bestSend_22 (Nat.le_of_ble_eq_true rfl) rfl ?_
  refine ev_iconst (pc := 24) (v := (-1)) dX6_bestSend_24 (by decide) ?_
  refine ev_istore (pc := 25) (lv' := [(5, .int (-1)), (4, .int s0), (0, .ref 0), (1, .int x1), (2, .int x2)]) dX6_bestSend_25 (Nat.le_of_ble_eq_true rfl) rfl ?_
  refine ev_aload_n (pc := 27) (i := 0) 2 dX6_bestSend_27 rfl rfl ?_
  refine ev_getR (pc := 28) (t := 21) 2 ag_C6 (rfl) (by decide) (Nat.le_of_ble_eq_true rfl) rfl rfl ag_fl_X6_23 dX6_bestSend_28 ?_
  refine ev_aload_n (pc := 31) (i := 0) 2 dX6_bestSend_31 rfl rfl ?_
  refine ev_getR (pc := 32) (t := 3) 1 ag_C6 (rfl) (by decide) (Nat.le_of_ble_eq_true rfl) rfl rfl ag_fl_X6_19 dX6_bestSend_32 ?_
  refine ev_vV (pc := 35) (as := [.ref 3]) (rest := []) ⟨5, 159, 10, TX5, tyX5, ag_C5, ⟨(rfl), (by decide)⟩, mv_X5_takeFrom, ag_ml_X6_159, rfl, (Nat.le_of_ble_eq_true rfl), ⟨(Nat.le_of_ble_eq_true rfl), (Nat.le_of_ble_eq_true rfl)⟩, dX6_bestSend_35⟩ (im_X5_takeFrom 21 (Or.inr rfl) 3 (Or.inl rfl) σ) (fun q122 => ?_)
  refine ev_aload_n (pc := 38) (i := 0) 2 dX6_bestSend_38 rfl rfl ?_
  refine ev_getR (pc := 39) (t := 21) 2 ag_C6 (rfl) (by decide) (Nat.le_of_ble_eq_true rfl) rfl rfl ag_fl_X6_23 dX6_bestSend_39 ?_
  refine ev_getR (pc := 42) (t := 28) 1 ag_C5 (rfl) (by decide) (Nat.le_of_ble_eq_true rfl) rfl rfl ag_fl_X6_31 dX6_bestSend_42 ?_
  refine ev_dup (pc := 45) dX6_bestSend_45 rfl ?_
  refine ev_getI (pc := 46) 0 ag_C2 (rfl) (by decide) (Nat.le_of_ble_eq_true rfl) rfl rfl ag_fl_X6_97 dX6_bestSend_46 ?_
  refine ev_iconst (pc := 49) (v := 1) dX6_bestSend_49 (by decide) ?_
  refine ev_iadd (pc := 50) dX6_bestSend_50 ?_
  refine ev_put (pc := 51) 0 ag_C2 (rfl) (by decide) (Nat.le_of_ble_eq_true rfl) rfl rfl ag_fl_X6_97 rfl rfl rfl dX6_bestSend_51 ?_
  refine ev_iconst (pc := 54) (v := 0) dX6_bestSend_54 (by decide) ?_
  refine ev_istore (pc := 55) (lv' := [(6, .int 0), (5, .int (-1)), (4, .int s0), (0, .ref 0), (1, .int x1), (2, .int x2)]) dX6_bestSend_55 (Nat.le_of_ble_eq_true rfl) rfl ?_
  refine ev_sub [3, 4, 5, 2, 1, 0] rfl ?_
  exact ev_X6_bestSend_b57 n x1 x2 n s0 (-1) 0 (ag_up q122 28 0 ((q122 28 0) + 1))
def fn_X6_bestSend (n : Nat) (x1 : Int32) (x2 : Int32) (σ : Sg) : Option (Int32 × Sg) :=
  (Option.bind (fn_X5_learningYear 3 x2 x1 σ) fun q123 =>
  (if q123 = (-1) then (fn_X6_bestSend_b22 n x1 x2 200 σ)
  else (fn_X6_bestSend_b22 n x1 x2 q123 σ)))
set_option maxRecDepth 20000 in
set_option maxHeartbeats 4000000 in
theorem im_X6_bestSend (n : Nat) (x1 : Int32) (x2 : Int32) (σ : Sg) : Im yX6_bestSend mX6_bestSend 5 119 jW [.ref 0, .int x1, .int x2] σ (fn_X6_bestSend n x1 x2 σ) := by
  refine Im.of (by decide +kernel) rfl rfl (Nat.le_of_ble_eq_true rfl) ?_
  show Ev mX6_bestSend 5 119 jW 0 [(0, .ref 0), (1, .int x1), (2, .int x2)] [] σ (fn_X6_bestSend n x1 x2 σ)
  unfold fn_X6_bestSend
  refine ev_aload_n (pc := 0) (i := 0) 0 dX6_bestSend_0 rfl rfl ?_
  refine ev_getR (pc := 1) (t := 3) 1 ag_C6 (rfl) (by decide) (Nat.le_of_ble_eq_true rfl) rfl rfl ag_fl_X6_19 dX6_bestSend_1 ?_
  refine ev_iload_n (pc := 4) (i := 2) 2 dX6_bestSend_4 rfl rfl ?_
  refine ev_iload_n (pc := 5) (i := 1) 1 dX6_bestSend_5 rfl rfl ?_
  refine ev_vI (pc := 6) (as := [.int x2, .int x1]) (rest := []) ⟨5, 144, 10, TX5, tyX5, ag_C5, ⟨(rfl), (by decide)⟩, mv_X5_learningYear, ag_ml_X6_144, rfl, (Nat.le_of_ble_eq_true rfl), ⟨(Nat.le_of_ble_eq_true rfl), (Nat.le_of_ble_eq_true rfl)⟩, dX6_bestSend_6⟩ (im_X5_learningYear 3 (Or.inl rfl) x2 x1 σ) (fun q123 => ?_)
  refine ev_istore_n (pc := 9) (i := 3) (lv' := [(3, .int q123), (0, .ref 0), (1, .int x1), (2, .int x2)]) dX6_bestSend_9 rfl (Nat.le_of_ble_eq_true rfl) rfl ?_
  refine ev_iload_n (pc := 10) (i := 3) 0 dX6_bestSend_10 rfl rfl ?_
  refine ev_iconst (pc := 11) (v := (-1)) dX6_bestSend_11 (by decide) ?_
  refine ev_icmp_ne (pc := 12) (tgt := 21) dX6_bestSend_12 rfl ?_ ?_
  · refine ev_sipush (pc := 15) (v := 200) dX6_bestSend_15 (by decide) ?_
    refine ev_goto (pc := 18) (tgt := 22) dX6_bestSend_18 rfl ?_
    refine ev_sub [1, 2, 3] rfl ?_
    exact ev_X6_bestSend_b22 n x1 x2 200 σ
  · refine ev_iload_n (pc := 21) (i := 3) 0 dX6_bestSend_21 rfl rfl ?_
    refine ev_sub [1, 2, 3] rfl ?_
    exact ev_X6_bestSend_b22 n x1 x2 q123 σ
-- X6_send
def mX6_send : Md := (RX6, cX6_send, 5, some .int, none)
theorem mv_X6_send : ag_Mv yX6_send mX6_send 3 := ⟨ag_co_X6_send, ag_im_X6_send, ag_se_X6_send, ag_ini_X6, by decide +kernel⟩
theorem dX6_send_0 : decode mX6_send.2.1 0 = .ok (.iload_n 1, 1) := by decide +kernel
theorem dX6_send_1 : decode mX6_send.2.1 1 = .ok (.bipush 8, 2) := by decide +kernel
theorem dX6_send_3 : decode mX6_send.2.1 3 = .ok (.invokestatic 83, 3) := by decide +kernel
theorem dX6_send_6 : decode mX6_send.2.1 6 = .ok (.ifCond .eq 22, 3) := by decide +kernel
theorem dX6_send_9 : decode mX6_send.2.1 9 = .ok (.aload_n 0, 1) := by decide +kernel
theorem dX6_send_10 : decode mX6_send.2.1 10 = .ok (.getfield 30, 3) := by decide +kernel
theorem dX6_send_13 : decode mX6_send.2.1 13 = .ok (.iload_n 2, 1) := by decide +kernel
theorem dX6_send_14 : decode mX6_send.2.1 14 = .ok (.invokevirtual 68, 3) := by decide +kernel
theorem dX6_send_17 : decode mX6_send.2.1 17 = .ok (.ifCond .eq 11, 3) := by decide +kernel
theorem dX6_send_20 : decode mX6_send.2.1 20 = .ok (.iload_n 3, 1) := by decide +kernel
theorem dX6_send_21 : decode mX6_send.2.1 21 = .ok (.iconst 3, 1) := by decide +kernel
theorem dX6_send_22 : decode mX6_send.2.1 22 = .ok (.invokestatic 83, 3) := by decide +kernel
theorem dX6_send_25 : decode mX6_send.2.1 25 = .ok (.ifCond .ne 6, 3) := by decide +kernel
theorem dX6_send_28 : decode mX6_send.2.1 28 = .ok (.bipush (-2), 2) := by decide +kernel
theorem dX6_send_30 : decode mX6_send.2.1 30 = .ok (.ireturn, 1) := by decide +kernel
theorem dX6_send_31 : decode mX6_send.2.1 31 = .ok (.aload_n 0, 1) := by decide +kernel
theorem dX6_send_32 : decode mX6_send.2.1 32 = .ok (.iload_n 1, 1) := by decide +kernel
theorem dX6_send_33 : decode mX6_send.2.1 33 = .ok (.iload_n 2, 1) := by decide +kernel
theorem dX6_send_34 : decode mX6_send.2.1 34 = .ok (.invokevirtual 169, 3) := by decide +kernel
theorem dX6_send_37 : decode mX6_send.2.1 37 = .ok (.istore 4, 2) := by decide +kernel
theorem dX6_send_39 : decode mX6_send.2.1 39 = .ok (.iload 4, 2) := by decide +kernel
theorem dX6_send_41 : decode mX6_send.2.1 41 = .ok (.iconst (-1), 1) := by decide +kernel
theorem dX6_send_42 : decode mX6_send.2.1 42 = .ok (.if_icmp .ne 5, 3) := by decide +kernel
theorem dX6_send_45 : decode mX6_send.2.1 45 = .ok (.iconst (-1), 1) := by decide +kernel
theorem dX6_send_46 : decode mX6_send.2.1 46 = .ok (.ireturn, 1) := by decide +kernel
theorem dX6_send_47 : decode mX6_send.2.1 47 = .ok (.iload_n 3, 1) := by decide +kernel
theorem dX6_send_48 : decode mX6_send.2.1 48 = .ok (.ifCond .ne 10, 3) := by decide +kernel
theorem dX6_send_51 : decode mX6_send.2.1 51 = .ok (.iload 4, 2) := by decide +kernel
theorem dX6_send_53 : decode mX6_send.2.1 53 = .ok (.sipush 2000, 3) := by decide +kernel
theorem dX6_send_56 : decode mX6_send.2.1 56 = .ok (.idiv, 1) := by decide +kernel
theorem dX6_send_57 : decode mX6_send.2.1 57 = .ok (.ireturn, 1) := by decide +kernel
theorem dX6_send_58 : decode mX6_send.2.1 58 = .ok (.iload_n 3, 1) := by decide +kernel
theorem dX6_send_59 : decode mX6_send.2.1 59 = .ok (.iconst 1, 1) := by decide +kernel
theorem dX6_send_60 : decode mX6_send.2.1 60 = .ok (.if_icmp .ne 15, 3) := by decide +kernel
theorem dX6_send_63 : decode mX6_send.2.1 63 = .ok (.iload 4, 2) := by decide +kernel
theorem dX6_send_65 : decode mX6_send.2.1 65 = .ok (.sipush 200, 3) := by decide +kernel
theorem dX6_send_68 : decode mX6_send.2.1 68 = .ok (.idiv, 1) := by decide +kernel
theorem dX6_send_69 : decode mX6_send.2.1 69 = .ok (.bipush 10, 2) := by decide +kernel
theorem dX6_send_71 : decode mX6_send.2.1 71 = .ok (.irem, 1) := by decide +kernel
theorem dX6_send_72 : decode mX6_send.2.1 72 = .ok (.goto 9, 3) := by decide +kernel
theorem dX6_send_75 : decode mX6_send.2.1 75 = .ok (.iload 4, 2) := by decide +kernel
theorem dX6_send_77 : decode mX6_send.2.1 77 = .ok (.sipush 200, 3) := by decide +kernel
theorem dX6_send_80 : decode mX6_send.2.1 80 = .ok (.irem, 1) := by decide +kernel
theorem dX6_send_81 : decode mX6_send.2.1 81 = .ok (.ireturn, 1) := by decide +kernel
def fn_X6_send (n : Nat) (x1 : Int32) (x2 : Int32) (x3 : Int32) (σ : Sg) : Option (Int32 × Sg) :=
  (Option.bind (fn_X6_isBelow x1 8 σ) fun q124 =>
  (if q124 = 0 then (some ((-2), σ))
  else (Option.bind (fn_X1_isThere 4 x2 σ) fun q125 =>
  (if q125 = 0 then (some ((-2), σ))
  else (Option.bind (fn_X6_isBelow x3 3 σ) fun q126 =>
  (if q126 = 0 then (some ((-2), σ))
  else (Option.bind (fn_X6_bestSend n x1 x2 σ) fun q127 =>
  (if q127.1 = (-1) then (some ((-1), q127.2))
  else (if x3 = 0 then (some ((q127.1 / 2000), q127.2))
  else (if x3 = 1 then (some (((q127.1 / 200) - (q127.1 / 200) / 10 * 10), q127.2))
  else (some ((q127.1 - q127.1 / 200 * 200), q127.2))))))))))))
set_option maxRecDepth 20000 in
set_option maxHeartbeats 4000000 in
theorem im_X6_send (n : Nat) (x1 : Int32) (x2 : Int32) (x3 : Int32) (σ : Sg) : Im yX6_send mX6_send 6 147 jW [.ref 0, .int x1, .int x2, .int x3] σ (fn_X6_send n x1 x2 x3 σ) := by
  refine Im.of (by decide +kernel) rfl rfl (Nat.le_of_ble_eq_true rfl) ?_
  show Ev mX6_send 6 147 jW 0 [(0, .ref 0), (1, .int x1), (2, .int x2), (3, .int x3)] [] σ (fn_X6_send n x1 x2 x3 σ)
  unfold fn_X6_send
  refine ev_iload_n (pc := 0) (i := 1) 1 dX6_send_0 rfl rfl ?_
  refine ev_bipush (pc := 1) (v := 8) dX6_send_1 (by decide) ?_
  refine ev_sI (pc := 3) (as := [.int x1, .int 8]) (rest := []) ⟨83, ms_X6_isBelow, ag_ml_X6_83, rfl, (Nat.le_of_ble_eq_true rfl), ⟨(Nat.le_of_ble_eq_true rfl), (Nat.le_of_ble_eq_true rfl)⟩, dX6_send_3⟩ (im_X6_isBelow x1 8 σ) (fun q124 => ?_)
  refine ev_if_eq (pc := 6) (tgt := 28) dX6_send_6 rfl ?_ ?_
  · refine ev_bipush (pc := 28) (v := (-2)) dX6_send_28 (by decide) ?_
    exact ev_irW rfl dX6_send_30
  · refine ev_aload_n (pc := 9) (i := 0) 0 dX6_send_9 rfl rfl ?_
    refine ev_getR (pc := 10) (t := 4) 3 ag_C6 (rfl) (by decide) (Nat.le_of_ble_eq_true rfl) rfl rfl ag_fl_X6_30 dX6_send_10 ?_
    refine ev_iload_n (pc := 13) (i := 2) 2 dX6_send_13 rfl rfl ?_
    refine ev_vI (pc := 14) (as := [.int x2]) (rest := []) ⟨1, 68, 6, TX1, tyX1, ag_C1, ⟨(rfl), (by decide)⟩, mv_X1_isThere, ag_ml_X6_68, rfl, (Nat.le_of_ble_eq_true rfl), ⟨(Nat.le_of_ble_eq_true rfl), (Nat.le_of_ble_eq_true rfl)⟩, dX6_send_14⟩ (im_X1_isThere 4 (Or.inl rfl) x2 σ) (fun q125 => ?_)
    refine ev_if_eq (pc := 17) (tgt := 28) dX6_send_17 rfl ?_ ?_
    · refine ev_bipush (pc := 28) (v := (-2)) dX6_send_28 (by decide) ?_
      exact ev_irW rfl dX6_send_30
    · refine ev_iload_n (pc := 20) (i := 3) 3 dX6_send_20 rfl rfl ?_
      refine ev_iconst (pc := 21) (v := 3) dX6_send_21 (by decide) ?_
      refine ev_sI (pc := 22) (as := [.int x3, .int 3]) (rest := []) ⟨83, ms_X6_isBelow, ag_ml_X6_83, rfl, (Nat.le_of_ble_eq_true rfl), ⟨(Nat.le_of_ble_eq_true rfl), (Nat.le_of_ble_eq_true rfl)⟩, dX6_send_22⟩ (im_X6_isBelow x3 3 σ) (fun q126 => ?_)
      refine ev_if_ne (pc := 25) (tgt := 31) dX6_send_25 rfl ?_ ?_
      · refine ev_bipush (pc := 28) (v := (-2)) dX6_send_28 (by decide) ?_
        exact ev_irW rfl dX6_send_30
      · refine ev_aload_n (pc := 31) (i := 0) 0 dX6_send_31 rfl rfl ?_
        refine ev_iload_n (pc := 32) (i := 1) 1 dX6_send_32 rfl rfl ?_
        refine ev_iload_n (pc := 33) (i := 2) 2 dX6_send_33 rfl rfl ?_
        refine ev_vW (pc := 34) (as := [.int x1, .int x2]) (rest := []) ⟨6, 169, 8, TX6, tyX6, ag_C6, ⟨(rfl), (by decide)⟩, mv_X6_bestSend, ag_ml_X6_169, rfl, (Nat.le_of_ble_eq_true rfl), ⟨(Nat.le_of_ble_eq_true rfl), (Nat.le_of_ble_eq_true rfl)⟩, dX6_send_34⟩ (im_X6_bestSend n x1 x2 σ) (fun q127 => ?_)
        refine ev_istore (pc := 37) (lv' := [(4, .int q127.1), (0, .ref 0), (1, .int x1), (2, .int x2), (3, .int x3)]) dX6_send_37 (Nat.le_of_ble_eq_true rfl) rfl ?_
        refine ev_iload (pc := 39) 0 dX6_send_39 rfl ?_
        refine ev_iconst (pc := 41) (v := (-1)) dX6_send_41 (by decide) ?_
        refine ev_icmp_ne (pc := 42) (tgt := 47) dX6_send_42 rfl ?_ ?_
        · refine ev_iconst (pc := 45) (v := (-1)) dX6_send_45 (by decide) ?_
          exact ev_irW rfl dX6_send_46
        · refine ev_iload_n (pc := 47) (i := 3) 4 dX6_send_47 rfl rfl ?_
          refine ev_if_ne (pc := 48) (tgt := 58) dX6_send_48 rfl ?_ ?_
          · refine ev_iload (pc := 51) 0 dX6_send_51 rfl ?_
            refine ev_sipush (pc := 53) (v := 2000) dX6_send_53 (by decide) ?_
            refine ev_idiv (pc := 56) dX6_send_56 (by decide) ?_
            exact ev_irW rfl dX6_send_57
          · refine ev_iload_n (pc := 58) (i := 3) 4 dX6_send_58 rfl rfl ?_
            refine ev_iconst (pc := 59) (v := 1) dX6_send_59 (by decide) ?_
            refine ev_icmp_ne (pc := 60) (tgt := 75) dX6_send_60 rfl ?_ ?_
            · refine ev_iload (pc := 63) 0 dX6_send_63 rfl ?_
              refine ev_sipush (pc := 65) (v := 200) dX6_send_65 (by decide) ?_
              refine ev_idiv (pc := 68) dX6_send_68 (by decide) ?_
              refine ev_bipush (pc := 69) (v := 10) dX6_send_69 (by decide) ?_
              refine ev_irem (pc := 71) dX6_send_71 (by decide) ?_
              refine ev_goto (pc := 72) (tgt := 81) dX6_send_72 rfl ?_
              exact ev_irW rfl dX6_send_81
            · refine ev_iload (pc := 75) 0 dX6_send_75 rfl ?_
              refine ev_sipush (pc := 77) (v := 200) dX6_send_77 (by decide) ?_
              refine ev_irem (pc := 80) dX6_send_80 (by decide) ?_
              exact ev_irW rfl dX6_send_81
-- X6_knowsByTrust
def mX6_knowsByTrust : Md := (RX6, cX6_knowsByTrust, 5, some .boolean, none)
theorem mv_X6_knowsByTrust : ag_Mv yX6_knowsByTrust mX6_knowsByTrust 3 := ⟨ag_co_X6_knowsByTrust, ag_im_X6_knowsByTrust, ag_se_X6_knowsByTrust, ag_ini_X6, by decide +kernel⟩
theorem dX6_knowsByTrust_0 : decode mX6_knowsByTrust.2.1 0 = .ok (.iconst 0, 1) := by decide +kernel
theorem dX6_knowsByTrust_1 : decode mX6_knowsByTrust.2.1 1 = .ok (.istore 4, 2) := by decide +kernel
theorem dX6_knowsByTrust_3 : decode mX6_knowsByTrust.2.1 3 = .ok (.iload 4, 2) := by decide +kernel
theorem dX6_knowsByTrust_5 : decode mX6_knowsByTrust.2.1 5 = .ok (.aload_n 0, 1) := by decide +kernel
theorem dX6_knowsByTrust_6 : decode mX6_knowsByTrust.2.1 6 = .ok (.getfield 30, 3) := by decide +kernel
theorem dX6_knowsByTrust_9 : decode mX6_knowsByTrust.2.1 9 = .ok (.getfield 172, 3) := by decide +kernel
theorem dX6_knowsByTrust_12 : decode mX6_knowsByTrust.2.1 12 = .ok (.if_icmp .ge 41, 3) := by decide +kernel
theorem dX6_knowsByTrust_15 : decode mX6_knowsByTrust.2.1 15 = .ok (.aload_n 0, 1) := by decide +kernel
theorem dX6_knowsByTrust_16 : decode mX6_knowsByTrust.2.1 16 = .ok (.getfield 23, 3) := by decide +kernel
theorem dX6_knowsByTrust_19 : decode mX6_knowsByTrust.2.1 19 = .ok (.getfield 26, 3) := by decide +kernel
theorem dX6_knowsByTrust_22 : decode mX6_knowsByTrust.2.1 22 = .ok (.getfield 87, 3) := by decide +kernel
theorem dX6_knowsByTrust_25 : decode mX6_knowsByTrust.2.1 25 = .ok (.iload 4, 2) := by decide +kernel
theorem dX6_knowsByTrust_27 : decode mX6_knowsByTrust.2.1 27 = .ok (.aload_n 0, 1) := by decide +kernel
theorem dX6_knowsByTrust_28 : decode mX6_knowsByTrust.2.1 28 = .ok (.getfield 30, 3) := by decide +kernel
theorem dX6_knowsByTrust_31 : decode mX6_knowsByTrust.2.1 31 = .ok (.getfield 87, 3) := by decide +kernel
theorem dX6_knowsByTrust_34 : decode mX6_knowsByTrust.2.1 34 = .ok (.iload 4, 2) := by decide +kernel
theorem dX6_knowsByTrust_36 : decode mX6_knowsByTrust.2.1 36 = .ok (.iaload, 1) := by decide +kernel
theorem dX6_knowsByTrust_37 : decode mX6_knowsByTrust.2.1 37 = .ok (.iload_n 1, 1) := by decide +kernel
theorem dX6_knowsByTrust_38 : decode mX6_knowsByTrust.2.1 38 = .ok (.iload 4, 2) := by decide +kernel
theorem dX6_knowsByTrust_40 : decode mX6_knowsByTrust.2.1 40 = .ok (.ishr, 1) := by decide +kernel
theorem dX6_knowsByTrust_41 : decode mX6_knowsByTrust.2.1 41 = .ok (.iconst 1, 1) := by decide +kernel
theorem dX6_knowsByTrust_42 : decode mX6_knowsByTrust.2.1 42 = .ok (.iand, 1) := by decide +kernel
theorem dX6_knowsByTrust_43 : decode mX6_knowsByTrust.2.1 43 = .ok (.iload_n 2, 1) := by decide +kernel
theorem dX6_knowsByTrust_44 : decode mX6_knowsByTrust.2.1 44 = .ok (.ishl, 1) := by decide +kernel
theorem dX6_knowsByTrust_45 : decode mX6_knowsByTrust.2.1 45 = .ok (.ior, 1) := by decide +kernel
theorem dX6_knowsByTrust_46 : decode mX6_knowsByTrust.2.1 46 = .ok (.iastore, 1) := by decide +kernel
theorem dX6_knowsByTrust_47 : decode mX6_knowsByTrust.2.1 47 = .ok (.iinc 4 1, 3) := by decide +kernel
theorem dX6_knowsByTrust_50 : decode mX6_knowsByTrust.2.1 50 = .ok (.goto (-47), 3) := by decide +kernel
theorem dX6_knowsByTrust_53 : decode mX6_knowsByTrust.2.1 53 = .ok (.aload_n 0, 1) := by decide +kernel
theorem dX6_knowsByTrust_54 : decode mX6_knowsByTrust.2.1 54 = .ok (.getfield 23, 3) := by decide +kernel
theorem dX6_knowsByTrust_57 : decode mX6_knowsByTrust.2.1 57 = .ok (.invokevirtual 90, 3) := by decide +kernel
theorem dX6_knowsByTrust_60 : decode mX6_knowsByTrust.2.1 60 = .ok (.aload_n 0, 1) := by decide +kernel
theorem dX6_knowsByTrust_61 : decode mX6_knowsByTrust.2.1 61 = .ok (.getfield 23, 3) := by decide +kernel
theorem dX6_knowsByTrust_64 : decode mX6_knowsByTrust.2.1 64 = .ok (.getfield 198, 3) := by decide +kernel
theorem dX6_knowsByTrust_67 : decode mX6_knowsByTrust.2.1 67 = .ok (.iload_n 3, 1) := by decide +kernel
theorem dX6_knowsByTrust_68 : decode mX6_knowsByTrust.2.1 68 = .ok (.iaload, 1) := by decide +kernel
theorem dX6_knowsByTrust_69 : decode mX6_knowsByTrust.2.1 69 = .ok (.iload_n 2, 1) := by decide +kernel
theorem dX6_knowsByTrust_70 : decode mX6_knowsByTrust.2.1 70 = .ok (.ishr, 1) := by decide +kernel
theorem dX6_knowsByTrust_71 : decode mX6_knowsByTrust.2.1 71 = .ok (.iconst 1, 1) := by decide +kernel
theorem dX6_knowsByTrust_72 : decode mX6_knowsByTrust.2.1 72 = .ok (.iand, 1) := by decide +kernel
theorem dX6_knowsByTrust_73 : decode mX6_knowsByTrust.2.1 73 = .ok (.iconst 1, 1) := by decide +kernel
theorem dX6_knowsByTrust_74 : decode mX6_knowsByTrust.2.1 74 = .ok (.if_icmp .ne 7, 3) := by decide +kernel
theorem dX6_knowsByTrust_77 : decode mX6_knowsByTrust.2.1 77 = .ok (.iconst 1, 1) := by decide +kernel
theorem dX6_knowsByTrust_78 : decode mX6_knowsByTrust.2.1 78 = .ok (.goto 4, 3) := by decide +kernel
theorem dX6_knowsByTrust_81 : decode mX6_knowsByTrust.2.1 81 = .ok (.iconst 0, 1) := by decide +kernel
theorem dX6_knowsByTrust_82 : decode mX6_knowsByTrust.2.1 82 = .ok (.ireturn, 1) := by decide +kernel
def fn_X6_knowsByTrust_b3 (n : Nat) (x1 : Int32) (x2 : Int32) (x3 : Int32)  : Nat → Int32 → Sg → Option (Int32 × Sg)
  | 0 => fun _ _ => none
  | i + 1 => fun v4 σ =>
  (if (σ 4 0) ≤ v4 then (Option.bind (fn_X5_live n 21 σ) fun q128 =>
  (if ag_ib x3 10 = true then (if (((q128 36 x3.toNatClampNeg) >>> (x2 &&& 31)) &&& 1) = 1 then (some (1, q128))
  else (some (0, q128))) else none))
  else (if ag_ib v4 10 = true then (if ag_ib v4 10 = true then ((fn_X6_knowsByTrust_b3 n x1 x2 x3 i) (v4 + 1) (ag_up σ 27 v4.toNatClampNeg ((σ 9 v4.toNatClampNeg) ||| (((x1 >>> (v4 &&& 31)) &&& 1) <<< (x2 &&& 31))))) else none) else none))
theorem fn_X6_knowsByTrust_b3_s (n : Nat) (x1 : Int32) (x2 : Int32) (x3 : Int32)  (i : Nat) (v4 : Int32) (σ : Sg) : fn_X6_knowsByTrust_b3 n x1 x2 x3 (i + 1) v4 σ =
  (if (σ 4 0) ≤ v4 then (Option.bind (fn_X5_live n 21 σ) fun q128 =>
  (if ag_ib x3 10 = true then (if (((q128 36 x3.toNatClampNeg) >>> (x2 &&& 31)) &&& 1) = 1 then (some (1, q128))
  else (some (0, q128))) else none))
  else (if ag_ib v4 10 = true then (if ag_ib v4 10 = true then ((fn_X6_knowsByTrust_b3 n x1 x2 x3 i) (v4 + 1) (ag_up σ 27 v4.toNatClampNeg ((σ 9 v4.toNatClampNeg) ||| (((x1 >>> (v4 &&& 31)) &&& 1) <<< (x2 &&& 31))))) else none) else none)) := rfl
set_option maxRecDepth 20000 in
set_option maxHeartbeats 4000000 in
theorem ev_X6_knowsByTrust_b3 (n : Nat) (x1 : Int32) (x2 : Int32) (x3 : Int32)  : ∀ (i : Nat) (v4 : Int32) (σ : Sg), Ev mX6_knowsByTrust 4 93 jW 3 [(0, .ref 0), (1, .int x1), (2, .int x2), (3, .int x3), (4, .int v4)] [] σ (fn_X6_knowsByTrust_b3 n x1 x2 x3 i v4 σ) := by
  intro i
  induction i with
  | zero =>
    intro v4 σ
    exact ev_none
  | succ i ih =>
    intro v4 σ
    rw [fn_X6_knowsByTrust_b3_s]
    refine ev_iload (pc := 3) 4 dX6_knowsByTrust_3 rfl ?_
    refine ev_aload_n (pc := 5) (i := 0) 0 dX6_knowsByTrust_5 rfl rfl ?_
    refine ev_getR (pc := 6) (t := 4) 3 ag_C6 (rfl) (by decide) (Nat.le_of_ble_eq_true rfl) rfl rfl ag_fl_X6_30 dX6_knowsByTrust_6 ?_
    refine ev_getI (pc := 9) 0 ag_C1 (rfl) (by decide) (Nat.le_of_ble_eq_true rfl) rfl rfl ag_fl_X6_172 dX6_knowsByTrust_9 ?_
    refine ev_icmp_ge (pc := 12) (tgt := 53) dX6_knowsByTrust_12 rfl ?_ ?_
    · refine ev_aload_n (pc := 53) (i := 0) 0 dX6_knowsByTrust_53 rfl rfl ?_
      refine ev_getR (pc := 54) (t := 21) 2 ag_C6 (rfl) (by decide) (Nat.le_of_ble_eq_true rfl) rfl rfl ag_fl_X6_23 dX6_knowsByTrust_54 ?_
      refine ev_vV (pc := 57) (as := []) (rest := []) ⟨5, 90, 10, TX5, tyX5, ag_C5, ⟨(rfl), (by decide)⟩, mv_X5_live, ag_ml_X6_90, rfl, (Nat.le_of_ble_eq_true rfl), ⟨(Nat.le_of_ble_eq_true rfl), (Nat.le_of_ble_eq_true rfl)⟩, dX6_knowsByTrust_57⟩ (im_X5_live n 21 (Or.inr rfl) σ) (fun q128 => ?_)
      refine ev_aload_n (pc := 60) (i := 0) 0 dX6_knowsByTrust_60 rfl rfl ?_
      refine ev_getR (pc := 61) (t := 21) 2 ag_C6 (rfl) (by decide) (Nat.le_of_ble_eq_true rfl) rfl rfl ag_fl_X6_23 dX6_knowsByTrust_61 ?_
      refine ev_getR (pc := 64) (t := 36) 7 ag_C5 (rfl) (by decide) (Nat.le_of_ble_eq_true rfl) rfl rfl ag_fl_X6_198 dX6_knowsByTrust_64 ?_
      refine ev_iload_n (pc := 67) (i := 3) 3 dX6_knowsByTrust_67 rfl rfl ?_
      refine ev_iald (pc := 68) (rfl) (by decide) dX6_knowsByTrust_68 ?_
      refine ev_iload_n (pc := 69) (i := 2) 2 dX6_knowsByTrust_69 rfl rfl ?_
      refine ev_ishr (pc := 70) dX6_knowsByTrust_70 ?_
      refine ev_iconst (pc := 71) (v := 1) dX6_knowsByTrust_71 (by decide) ?_
      refine ev_iand (pc := 72) dX6_knowsByTrust_72 ?_
      refine ev_iconst (pc := 73) (v := 1) dX6_knowsByTrust_73 (by decide) ?_
      refine ev_icmp_ne (pc := 74) (tgt := 81) dX6_knowsByTrust_74 rfl ?_ ?_
      · refine ev_iconst (pc := 77) (v := 1) dX6_knowsByTrust_77 (by decide) ?_
        refine ev_goto (pc := 78) (tgt := 82) dX6_knowsByTrust_78 rfl ?_
        exact ev_brW rfl rfl dX6_knowsByTrust_82
      · refine ev_iconst (pc := 81) (v := 0) dX6_knowsByTrust_81 (by decide) ?_
        exact ev_brW rfl rfl dX6_knowsByTrust_82
    · refine ev_aload_n (pc := 15) (i := 0) 0 dX6_knowsByTrust_15 rfl rfl ?_
      refine ev_getR (pc := 16) (t := 21) 2 ag_C6 (rfl) (by decide) (Nat.le_of_ble_eq_true rfl) rfl rfl ag_fl_X6_23 dX6_knowsByTrust_16 ?_
      refine ev_getR (pc := 19) (t := 22) 0 ag_C5 (rfl) (by decide) (Nat.le_of_ble_eq_true rfl) rfl rfl ag_fl_X6_26 dX6_knowsByTrust_19 ?_
      refine ev_getR (pc := 22) (t := 27) 5 ag_C1 (rfl) (by decide) (Nat.le_of_ble_eq_true rfl) rfl rfl ag_fl_X6_87 dX6_knowsByTrust_22 ?_
      refine ev_iload (pc := 25) 4 dX6_knowsByTrust_25 rfl ?_
      refine ev_aload_n (pc := 27) (i := 0) 0 dX6_knowsByTrust_27 rfl rfl ?_
      refine ev_getR (pc := 28) (t := 4) 3 ag_C6 (rfl) (by decide) (Nat.le_of_ble_eq_true rfl) rfl rfl ag_fl_X6_30 dX6_knowsByTrust_28 ?_
      refine ev_getR (pc := 31) (t := 9) 5 ag_C1 (rfl) (by decide) (Nat.le_of_ble_eq_true rfl) rfl rfl ag_fl_X6_87 dX6_knowsByTrust_31 ?_
      refine ev_iload (pc := 34) 4 dX6_knowsByTrust_34 rfl ?_
      refine ev_iald (pc := 36) (rfl) (by decide) dX6_knowsByTrust_36 ?_
      refine ev_iload_n (pc := 37) (i := 1) 1 dX6_knowsByTrust_37 rfl rfl ?_
      refine ev_iload (pc := 38) 4 dX6_knowsByTrust_38 rfl ?_
      refine ev_ishr (pc := 40) dX6_knowsByTrust_40 ?_
      refine ev_iconst (pc := 41) (v := 1) dX6_knowsByTrust_41 (by decide) ?_
      refine ev_iand (pc := 42) dX6_knowsByTrust_42 ?_
      refine ev_iload_n (pc := 43) (i := 2) 2 dX6_knowsByTrust_43 rfl rfl ?_
      refine ev_ishl (pc := 44) dX6_knowsByTrust_44 ?_
      refine ev_ior (pc := 45) dX6_knowsByTrust_45 ?_
      refine ev_iast (pc := 46) (rfl) (by decide) dX6_knowsByTrust_46 ?_
      refine ev_iinc (pc := 47) (v := (v4 + 1)) (lv' := [(4, .int (v4 + 1)), (0, .ref 0), (1, .int x1), (2, .int x2), (3, .int x3)]) 4 dX6_knowsByTrust_47 rfl rfl (Nat.le_of_ble_eq_true rfl) rfl ?_
      refine ev_goto (pc := 50) (tgt := 3) dX6_knowsByTrust_50 rfl ?_
      refine ev_sub [1, 2, 3, 4, 0] rfl ?_
      exact ih (v4 + 1) (ag_up σ 27 v4.toNatClampNeg ((σ 9 v4.toNatClampNeg) ||| (((x1 >>> (v4 &&& 31)) &&& 1) <<< (x2 &&& 31))))
def fn_X6_knowsByTrust (n : Nat) (x1 : Int32) (x2 : Int32) (x3 : Int32) (σ : Sg) : Option (Int32 × Sg) :=
  (fn_X6_knowsByTrust_b3 n x1 x2 x3 n 0 σ)
set_option maxRecDepth 20000 in
set_option maxHeartbeats 4000000 in
theorem im_X6_knowsByTrust (n : Nat) (x1 : Int32) (x2 : Int32) (x3 : Int32) (σ : Sg) : Im yX6_knowsByTrust mX6_knowsByTrust 4 93 jW [.ref 0, .int x1, .int x2, .int x3] σ (fn_X6_knowsByTrust n x1 x2 x3 σ) := by
  refine Im.of (by decide +kernel) rfl rfl (Nat.le_of_ble_eq_true rfl) ?_
  show Ev mX6_knowsByTrust 4 93 jW 0 [(0, .ref 0), (1, .int x1), (2, .int x2), (3, .int x3)] [] σ (fn_X6_knowsByTrust n x1 x2 x3 σ)
  unfold fn_X6_knowsByTrust
  refine ev_iconst (pc := 0) (v := 0) dX6_knowsByTrust_0 (by decide) ?_
  refine ev_istore (pc := 1) (lv' := [(4, .int 0), (0, .ref 0), (1, .int x1), (2, .int x2), (3, .int x3)]) dX6_knowsByTrust_1 (Nat.le_of_ble_eq_true rfl) rfl ?_
  refine ev_sub [1, 2, 3, 4, 0] rfl ?_
  exact ev_X6_knowsByTrust_b3 n x1 x2 x3 n 0 σ
-- X6_trust
def mX6_trust : Md := (RX6, cX6_trust, 5, some .int, none)
theorem mv_X6_trust : ag_Mv yX6_trust mX6_trust 2 := ⟨ag_co_X6_trust, ag_im_X6_trust, ag_se_X6_trust, ag_ini_X6, by decide +kernel⟩
theorem dX6_trust_0 : decode mX6_trust.2.1 0 = .ok (.iload_n 1, 1) := by decide +kernel
theorem dX6_trust_1 : decode mX6_trust.2.1 1 = .ok (.bipush 8, 2) := by decide +kernel
theorem dX6_trust_3 : decode mX6_trust.2.1 3 = .ok (.invokestatic 83, 3) := by decide +kernel
theorem dX6_trust_6 : decode mX6_trust.2.1 6 = .ok (.ifCond .eq 14, 3) := by decide +kernel
theorem dX6_trust_9 : decode mX6_trust.2.1 9 = .ok (.aload_n 0, 1) := by decide +kernel
theorem dX6_trust_10 : decode mX6_trust.2.1 10 = .ok (.getfield 30, 3) := by decide +kernel
theorem dX6_trust_13 : decode mX6_trust.2.1 13 = .ok (.iload_n 2, 1) := by decide +kernel
theorem dX6_trust_14 : decode mX6_trust.2.1 14 = .ok (.invokevirtual 68, 3) := by decide +kernel
theorem dX6_trust_17 : decode mX6_trust.2.1 17 = .ok (.ifCond .ne 6, 3) := by decide +kernel
theorem dX6_trust_20 : decode mX6_trust.2.1 20 = .ok (.bipush (-2), 2) := by decide +kernel
theorem dX6_trust_22 : decode mX6_trust.2.1 22 = .ok (.ireturn, 1) := by decide +kernel
theorem dX6_trust_23 : decode mX6_trust.2.1 23 = .ok (.aload_n 0, 1) := by decide +kernel
theorem dX6_trust_24 : decode mX6_trust.2.1 24 = .ok (.getfield 23, 3) := by decide +kernel
theorem dX6_trust_27 : decode mX6_trust.2.1 27 = .ok (.aload_n 0, 1) := by decide +kernel
theorem dX6_trust_28 : decode mX6_trust.2.1 28 = .ok (.getfield 19, 3) := by decide +kernel
theorem dX6_trust_31 : decode mX6_trust.2.1 31 = .ok (.invokevirtual 159, 3) := by decide +kernel
theorem dX6_trust_34 : decode mX6_trust.2.1 34 = .ok (.iconst 0, 1) := by decide +kernel
theorem dX6_trust_35 : decode mX6_trust.2.1 35 = .ok (.istore_n 3, 1) := by decide +kernel
theorem dX6_trust_36 : decode mX6_trust.2.1 36 = .ok (.iload_n 3, 1) := by decide +kernel
theorem dX6_trust_37 : decode mX6_trust.2.1 37 = .ok (.iconst 3, 1) := by decide +kernel
theorem dX6_trust_38 : decode mX6_trust.2.1 38 = .ok (.if_icmp .gt 64, 3) := by decide +kernel
theorem dX6_trust_41 : decode mX6_trust.2.1 41 = .ok (.iconst 0, 1) := by decide +kernel
theorem dX6_trust_42 : decode mX6_trust.2.1 42 = .ok (.istore 4, 2) := by decide +kernel
theorem dX6_trust_44 : decode mX6_trust.2.1 44 = .ok (.iload 4, 2) := by decide +kernel
theorem dX6_trust_46 : decode mX6_trust.2.1 46 = .ok (.iconst 1, 1) := by decide +kernel
theorem dX6_trust_47 : decode mX6_trust.2.1 47 = .ok (.aload_n 0, 1) := by decide +kernel
theorem dX6_trust_48 : decode mX6_trust.2.1 48 = .ok (.getfield 30, 3) := by decide +kernel
theorem dX6_trust_51 : decode mX6_trust.2.1 51 = .ok (.getfield 172, 3) := by decide +kernel
theorem dX6_trust_54 : decode mX6_trust.2.1 54 = .ok (.ishl, 1) := by decide +kernel
theorem dX6_trust_55 : decode mX6_trust.2.1 55 = .ok (.if_icmp .ge 41, 3) := by decide +kernel
theorem dX6_trust_58 : decode mX6_trust.2.1 58 = .ok (.iload 4, 2) := by decide +kernel
theorem dX6_trust_60 : decode mX6_trust.2.1 60 = .ok (.invokestatic 190, 3) := by decide +kernel
theorem dX6_trust_63 : decode mX6_trust.2.1 63 = .ok (.iload_n 3, 1) := by decide +kernel
theorem dX6_trust_64 : decode mX6_trust.2.1 64 = .ok (.if_icmp .ne 26, 3) := by decide +kernel
theorem dX6_trust_67 : decode mX6_trust.2.1 67 = .ok (.iload 4, 2) := by decide +kernel
theorem dX6_trust_69 : decode mX6_trust.2.1 69 = .ok (.iload_n 2, 1) := by decide +kernel
theorem dX6_trust_70 : decode mX6_trust.2.1 70 = .ok (.ishr, 1) := by decide +kernel
theorem dX6_trust_71 : decode mX6_trust.2.1 71 = .ok (.iconst 1, 1) := by decide +kernel
theorem dX6_trust_72 : decode mX6_trust.2.1 72 = .ok (.iand, 1) := by decide +kernel
theorem dX6_trust_73 : decode mX6_trust.2.1 73 = .ok (.ifCond .ne 17, 3) := by decide +kernel
theorem dX6_trust_76 : decode mX6_trust.2.1 76 = .ok (.aload_n 0, 1) := by decide +kernel
theorem dX6_trust_77 : decode mX6_trust.2.1 77 = .ok (.iload 4, 2) := by decide +kernel
theorem dX6_trust_79 : decode mX6_trust.2.1 79 = .ok (.iload_n 1, 1) := by decide +kernel
theorem dX6_trust_80 : decode mX6_trust.2.1 80 = .ok (.iload_n 2, 1) := by decide +kernel
theorem dX6_trust_81 : decode mX6_trust.2.1 81 = .ok (.invokevirtual 195, 3) := by decide +kernel
theorem dX6_trust_84 : decode mX6_trust.2.1 84 = .ok (.ifCond .eq 6, 3) := by decide +kernel
theorem dX6_trust_87 : decode mX6_trust.2.1 87 = .ok (.iload 4, 2) := by decide +kernel
theorem dX6_trust_89 : decode mX6_trust.2.1 89 = .ok (.ireturn, 1) := by decide +kernel
theorem dX6_trust_90 : decode mX6_trust.2.1 90 = .ok (.iinc 4 1, 3) := by decide +kernel
theorem dX6_trust_93 : decode mX6_trust.2.1 93 = .ok (.goto (-49), 3) := by decide +kernel
theorem dX6_trust_96 : decode mX6_trust.2.1 96 = .ok (.iinc 3 1, 3) := by decide +kernel
theorem dX6_trust_99 : decode mX6_trust.2.1 99 = .ok (.goto (-63), 3) := by decide +kernel
theorem dX6_trust_102 : decode mX6_trust.2.1 102 = .ok (.iconst (-1), 1) := by decide +kernel
theorem dX6_trust_103 : decode mX6_trust.2.1 103 = .ok (.ireturn, 1) := by decide +kernel
def fn_X6_trust_b90 (n : Nat) (x1 : Int32) (x2 : Int32) (k36 : Int32 → Sg → Option (Int32 × Sg)) (k44 : Int32 → Int32 → Sg → Option (Int32 × Sg)) (v3 : Int32) (v4 : Int32) (σ : Sg) : Option (Int32 × Sg) :=
  (k44 v3 (v4 + 1) σ)
set_option maxRecDepth 20000 in
set_option maxHeartbeats 4000000 in
theorem ev_X6_trust_b90 (n : Nat) (x1 : Int32) (x2 : Int32) (k36 : Int32 → Sg → Option (Int32 × Sg)) (hk36 : ∀ (v3 : Int32) (σ : Sg), Ev mX6_trust 5 117 jW 36 [(0, .ref 0), (1, .int x1), (2, .int x2), (3, .int v3)] [] σ (k36 v3 σ)) (k44 : Int32 → Int32 → Sg → Option (Int32 × Sg)) (hk44 : ∀ (v3 : Int32) (v4 : Int32) (σ : Sg), Ev mX6_trust 5 117 jW 44 [(0, .ref 0), (1, .int x1), (2, .int x2), (3, .int v3), (4, .int v4)] [] σ (k44 v3 v4 σ)) (v3 : Int32) (v4 : Int32) (σ : Sg) : Ev mX6_trust 5 117 jW 90 [(0, .ref 0), (1, .int x1), (2, .int x2), (3, .int v3), (4, .int v4)] [] σ (fn_X6_trust_b90 n x1 x2 k36 k44 v3 v4 σ) := by
  unfold fn_X6_trust_b90
  refine ev_iinc (pc := 90) (v := (v4 + 1)) (lv' := [(4, .int (v4 + 1)), (0, .ref 0), (1, .int x1), (2, .int x2), (3, .int v3)]) 4 dX6_trust_90 rfl rfl (Nat.le_of_ble_eq_true rfl) rfl ?_
  refine ev_goto (pc := 93) (tgt := 44) dX6_trust_93 rfl ?_
  refine ev_sub [1, 2, 3, 4, 0] rfl ?_
  exact hk44 v3 (v4 + 1) σ
def fn_X6_trust_b44 (n : Nat) (x1 : Int32) (x2 : Int32) (k36 : Int32 → Sg → Option (Int32 × Sg)) : Nat → Int32 → Int32 → Sg → Option (Int32 × Sg)
  | 0 => fun _ _ _ => none
  | i + 1 => fun v3 v4 σ =>
  (if (1 <<< ((σ 4 0) &&& 31)) ≤ v4 then (k36 (v3 + 1) σ)
  else (Option.bind (fn_J6_bitCount_0f7a4 v4 σ) fun q129 =>
  (if q129 = v3 then (if ((v4 >>> (x2 &&& 31)) &&& 1) = 0 then (Option.bind (fn_X6_knowsByTrust n v4 x1 x2 σ) fun q130 =>
  (if q130.1 = 0 then (fn_X6_trust_b90 n x1 x2 k36 (fn_X6_trust_b44 n x1 x2 k36 i) v3 v4 q130.2)
  else (some (v4, q130.2))))
  else (fn_X6_trust_b90 n x1 x2 k36 (fn_X6_trust_b44 n x1 x2 k36 i) v3 v4 σ))
  else (fn_X6_trust_b90 n x1 x2 k36 (fn_X6_trust_b44 n x1 x2 k36 i) v3 v4 σ))))
theorem fn_X6_trust_b44_s (n : Nat) (x1 : Int32) (x2 : Int32) (k36 : Int32 → Sg → Option (Int32 × Sg)) (i : Nat) (v3 : Int32) (v4 : Int32) (σ : Sg) : fn_X6_trust_b44 n x1 x2 k36 (i + 1) v3 v4 σ =
  (if (1 <<< ((σ 4 0) &&& 31)) ≤ v4 then (k36 (v3 + 1) σ)
  else (Option.bind (fn_J6_bitCount_0f7a4 v4 σ) fun q129 =>
  (if q129 = v3 then (if ((v4 >>> (x2 &&& 31)) &&& 1) = 0 then (Option.bind (fn_X6_knowsByTrust n v4 x1 x2 σ) fun q130 =>
  (if q130.1 = 0 then (fn_X6_trust_b90 n x1 x2 k36 (fn_X6_trust_b44 n x1 x2 k36 i) v3 v4 q130.2)
  else (some (v4, q130.2))))
  else (fn_X6_trust_b90 n x1 x2 k36 (fn_X6_trust_b44 n x1 x2 k36 i) v3 v4 σ))
  else (fn_X6_trust_b90 n x1 x2 k36 (fn_X6_trust_b44 n x1 x2 k36 i) v3 v4 σ)))) := rfl
set_option maxRecDepth 20000 in
set_option maxHeartbeats 4000000 in
theorem ev_X6_trust_b44 (n : Nat) (x1 : Int32) (x2 : Int32) (k36 : Int32 → Sg → Option (Int32 × Sg)) (hk36 : ∀ (v3 : Int32) (σ : Sg), Ev mX6_trust 5 117 jW 36 [(0, .ref 0), (1, .int x1), (2, .int x2), (3, .int v3)] [] σ (k36 v3 σ)) : ∀ (i : Nat) (v3 : Int32) (v4 : Int32) (σ : Sg), Ev mX6_trust 5 117 jW 44 [(0, .ref 0), (1, .int x1), (2, .int x2), (3, .int v3), (4, .int v4)] [] σ (fn_X6_trust_b44 n x1 x2 k36 i v3 v4 σ) := by
  intro i
  induction i with
  | zero =>
    intro v3 v4 σ
    exact ev_none
  | succ i ih =>
    intro v3 v4 σ
    rw [fn_X6_trust_b44_s]
    refine ev_iload (pc := 44) 4 dX6_trust_44 rfl ?_
    refine ev_iconst (pc := 46) (v := 1) dX6_trust_46 (by decide) ?_
    refine ev_aload_n (pc := 47) (i := 0) 0 dX6_trust_47 rfl rfl ?_
    refine ev_getR (pc := 48) (t := 4) 3 ag_C6 (rfl) (by decide) (Nat.le_of_ble_eq_true rfl) rfl rfl ag_fl_X6_30 dX6_trust_48 ?_
    refine ev_getI (pc := 51) 0 ag_C1 (rfl) (by decide) (Nat.le_of_ble_eq_true rfl) rfl rfl ag_fl_X6_172 dX6_trust_51 ?_
    refine ev_ishl (pc := 54) dX6_trust_54 ?_
    refine ev_icmp_ge (pc := 55) (tgt := 96) dX6_trust_55 rfl ?_ ?_
    · refine ev_iinc (pc := 96) (v := (v3 + 1)) (lv' := [(3, .int (v3 + 1)), (0, .ref 0), (1, .int x1), (2, .int x2), (4, .int v4)]) 3 dX6_trust_96 rfl rfl (Nat.le_of_ble_eq_true rfl) rfl ?_
      refine ev_goto (pc := 99) (tgt := 36) dX6_trust_99 rfl ?_
      refine ev_sub [1, 2, 3, 0] rfl ?_
      exact hk36 (v3 + 1) σ
    · refine ev_iload (pc := 58) 4 dX6_trust_58 rfl ?_
      refine ev_sI (pc := 60) (as := [.int v4]) (rest := []) ⟨190, ms_J6_bitCount_0f7a4, ag_ml_X6_190, rfl, (Nat.le_of_ble_eq_true rfl), ⟨(Nat.le_of_ble_eq_true rfl), (Nat.le_of_ble_eq_true rfl)⟩, dX6_trust_60⟩ (im_J6_bitCount_0f7a4 v4 σ) (fun q129 => ?_)
      refine ev_iload_n (pc := 63) (i := 3) 3 dX6_trust_63 rfl rfl ?_
      refine ev_icmp_ne (pc := 64) (tgt := 90) dX6_trust_64 rfl ?_ ?_
      · refine ev_iload (pc := 67) 4 dX6_trust_67 rfl ?_
        refine ev_iload_n (pc := 69) (i := 2) 2 dX6_trust_69 rfl rfl ?_
        refine ev_ishr (pc := 70) dX6_trust_70 ?_
        refine ev_iconst (pc := 71) (v := 1) dX6_trust_71 (by decide) ?_
        refine ev_iand (pc := 72) dX6_trust_72 ?_
        refine ev_if_ne (pc := 73) (tgt := 90) dX6_trust_73 rfl ?_ ?_
        · refine ev_aload_n (pc := 76) (i := 0) 0 dX6_trust_76 rfl rfl ?_
          refine ev_iload (pc := 77) 4 dX6_trust_77 rfl ?_
          refine ev_iload_n (pc := 79) (i := 1) 1 dX6_trust_79 rfl rfl ?_
          refine ev_iload_n (pc := 80) (i := 2) 2 dX6_trust_80 rfl rfl ?_
          refine ev_vW (pc := 81) (as := [.int v4, .int x1, .int x2]) (rest := []) ⟨6, 195, 8, TX6, tyX6, ag_C6, ⟨(rfl), (by decide)⟩, mv_X6_knowsByTrust, ag_ml_X6_195, rfl, (Nat.le_of_ble_eq_true rfl), ⟨(Nat.le_of_ble_eq_true rfl), (Nat.le_of_ble_eq_true rfl)⟩, dX6_trust_81⟩ (im_X6_knowsByTrust n v4 x1 x2 σ) (fun q130 => ?_)
          refine ev_if_eq (pc := 84) (tgt := 90) dX6_trust_84 rfl ?_ ?_
          · exact ev_X6_trust_b90 n x1 x2 k36 hk36 (fn_X6_trust_b44 n x1 x2 k36 i) ih v3 v4 q130.2
          · refine ev_iload (pc := 87) 4 dX6_trust_87 rfl ?_
            exact ev_irW rfl dX6_trust_89
        · exact ev_X6_trust_b90 n x1 x2 k36 hk36 (fn_X6_trust_b44 n x1 x2 k36 i) ih v3 v4 σ
      · exact ev_X6_trust_b90 n x1 x2 k36 hk36 (fn_X6_trust_b44 n x1 x2 k36 i) ih v3 v4 σ
def fn_X6_trust_b36 (n : Nat) (x1 : Int32) (x2 : Int32)  : Nat → Int32 → Sg → Option (Int32 × Sg)
  | 0 => fun _ _ => none
  | i + 1 => fun v3 σ =>
  (if 3 < v3 then (some ((-1), σ))
  else (fn_X6_trust_b44 n x1 x2 (fn_X6_trust_b36 n x1 x2 i) n v3 0 σ))
theorem fn_X6_trust_b36_s (n : Nat) (x1 : Int32) (x2 : Int32)  (i : Nat) (v3 : Int32) (σ : Sg) : fn_X6_trust_b36 n x1 x2 (i + 1) v3 σ =
  (if 3 < v3 then (some ((-1), σ))
  else (fn_X6_trust_b44 n x1 x2 (fn_X6_trust_b36 n x1 x2 i) n v3 0 σ)) := rfl
set_option maxRecDepth 20000 in
set_option maxHeartbeats 4000000 in
theorem ev_X6_trust_b36 (n : Nat) (x1 : Int32) (x2 : Int32)  : ∀ (i : Nat) (v3 : Int32) (σ : Sg), Ev mX6_trust 5 117 jW 36 [(0, .ref 0), (1, .int x1), (2, .int x2), (3, .int v3)] [] σ (fn_X6_trust_b36 n x1 x2 i v3 σ) := by
  intro i
  induction i with
  | zero =>
    intro v3 σ
    exact ev_none
  | succ i ih =>
    intro v3 σ
    rw [fn_X6_trust_b36_s]
    refine ev_iload_n (pc := 36) (i := 3) 3 dX6_trust_36 rfl rfl ?_
    refine ev_iconst (pc := 37) (v := 3) dX6_trust_37 (by decide) ?_
    refine ev_icmp_gt (pc := 38) (tgt := 102) dX6_trust_38 rfl ?_ ?_
    · refine ev_iconst (pc := 102) (v := (-1)) dX6_trust_102 (by decide) ?_
      exact ev_irW rfl dX6_trust_103
    · refine ev_iconst (pc := 41) (v := 0) dX6_trust_41 (by decide) ?_
      refine ev_istore (pc := 42) (lv' := [(4, .int 0), (0, .ref 0), (1, .int x1), (2, .int x2), (3, .int v3)]) dX6_trust_42 (Nat.le_of_ble_eq_true rfl) rfl ?_
      refine ev_sub [1, 2, 3, 4, 0] rfl ?_
      exact ev_X6_trust_b44 n x1 x2 (fn_X6_trust_b36 n x1 x2 i) ih n v3 0 σ
def fn_X6_trust (n : Nat) (x1 : Int32) (x2 : Int32) (σ : Sg) : Option (Int32 × Sg) :=
  (Option.bind (fn_X6_isBelow x1 8 σ) fun q131 =>
  (if q131 = 0 then (some ((-2), σ))
  else (Option.bind (fn_X1_isThere 4 x2 σ) fun q132 =>
  (if q132 = 0 then (some ((-2), σ))
  else (Option.bind (fn_X5_takeFrom 21 3 σ) fun q133 =>
  (fn_X6_trust_b36 n x1 x2 n 0 q133))))))
set_option maxRecDepth 20000 in
set_option maxHeartbeats 4000000 in
theorem im_X6_trust (n : Nat) (x1 : Int32) (x2 : Int32) (σ : Sg) : Im yX6_trust mX6_trust 5 117 jW [.ref 0, .int x1, .int x2] σ (fn_X6_trust n x1 x2 σ) := by
  refine Im.of (by decide +kernel) rfl rfl (Nat.le_of_ble_eq_true rfl) ?_
  show Ev mX6_trust 5 117 jW 0 [(0, .ref 0), (1, .int x1), (2, .int x2)] [] σ (fn_X6_trust n x1 x2 σ)
  unfold fn_X6_trust
  refine ev_iload_n (pc := 0) (i := 1) 1 dX6_trust_0 rfl rfl ?_
  refine ev_bipush (pc := 1) (v := 8) dX6_trust_1 (by decide) ?_
  refine ev_sI (pc := 3) (as := [.int x1, .int 8]) (rest := []) ⟨83, ms_X6_isBelow, ag_ml_X6_83, rfl, (Nat.le_of_ble_eq_true rfl), ⟨(Nat.le_of_ble_eq_true rfl), (Nat.le_of_ble_eq_true rfl)⟩, dX6_trust_3⟩ (im_X6_isBelow x1 8 σ) (fun q131 => ?_)
  refine ev_if_eq (pc := 6) (tgt := 20) dX6_trust_6 rfl ?_ ?_
  · refine ev_bipush (pc := 20) (v := (-2)) dX6_trust_20 (by decide) ?_
    exact ev_irW rfl dX6_trust_22
  · refine ev_aload_n (pc := 9) (i := 0) 0 dX6_trust_9 rfl rfl ?_
    refine ev_getR (pc := 10) (t := 4) 3 ag_C6 (rfl) (by decide) (Nat.le_of_ble_eq_true rfl) rfl rfl ag_fl_X6_30 dX6_trust_10 ?_
    refine ev_iload_n (pc := 13) (i := 2) 2 dX6_trust_13 rfl rfl ?_
    refine ev_vI (pc := 14) (as := [.int x2]) (rest := []) ⟨1, 68, 6, TX1, tyX1, ag_C1, ⟨(rfl), (by decide)⟩, mv_X1_isThere, ag_ml_X6_68, rfl, (Nat.le_of_ble_eq_true rfl), ⟨(Nat.le_of_ble_eq_true rfl), (Nat.le_of_ble_eq_true rfl)⟩, dX6_trust_14⟩ (im_X1_isThere 4 (Or.inl rfl) x2 σ) (fun q132 => ?_)
    refine ev_if_ne (pc := 17) (tgt := 23) dX6_trust_17 rfl ?_ ?_
    · refine ev_bipush (pc := 20) (v := (-2)) dX6_trust_20 (by decide) ?_
      exact ev_irW rfl dX6_trust_22
    · refine ev_aload_n (pc := 23) (i := 0) 0 dX6_trust_23 rfl rfl ?_
      refine ev_getR (pc := 24) (t := 21) 2 ag_C6 (rfl) (by decide) (Nat.le_of_ble_eq_true rfl) rfl rfl ag_fl_X6_23 dX6_trust_24 ?_
      refine ev_aload_n (pc := 27) (i := 0) 0 dX6_trust_27 rfl rfl ?_
      refine ev_getR (pc := 28) (t := 3) 1 ag_C6 (rfl) (by decide) (Nat.le_of_ble_eq_true rfl) rfl rfl ag_fl_X6_19 dX6_trust_28 ?_
      refine ev_vV (pc := 31) (as := [.ref 3]) (rest := []) ⟨5, 159, 10, TX5, tyX5, ag_C5, ⟨(rfl), (by decide)⟩, mv_X5_takeFrom, ag_ml_X6_159, rfl, (Nat.le_of_ble_eq_true rfl), ⟨(Nat.le_of_ble_eq_true rfl), (Nat.le_of_ble_eq_true rfl)⟩, dX6_trust_31⟩ (im_X5_takeFrom 21 (Or.inr rfl) 3 (Or.inl rfl) σ) (fun q133 => ?_)
      refine ev_iconst (pc := 34) (v := 0) dX6_trust_34 (by decide) ?_
      refine ev_istore_n (pc := 35) (i := 3) (lv' := [(3, .int 0), (0, .ref 0), (1, .int x1), (2, .int x2)]) dX6_trust_35 rfl (Nat.le_of_ble_eq_true rfl) rfl ?_
      refine ev_sub [1, 2, 3, 0] rfl ?_
      exact ev_X6_trust_b36 n x1 x2 n 0 q133
-- X6_teaches
def mX6_teaches : Md := (RX6, cX6_teaches, 5, some .boolean, none)
theorem mv_X6_teaches : ag_Mv yX6_teaches mX6_teaches 4 := ⟨ag_co_X6_teaches, ag_im_X6_teaches, ag_se_X6_teaches, ag_ini_X6, by decide +kernel⟩
theorem dX6_teaches_0 : decode mX6_teaches.2.1 0 = .ok (.aload_n 0, 1) := by decide +kernel
theorem dX6_teaches_1 : decode mX6_teaches.2.1 1 = .ok (.getfield 23, 3) := by decide +kernel
theorem dX6_teaches_4 : decode mX6_teaches.2.1 4 = .ok (.iload_n 1, 1) := by decide +kernel
theorem dX6_teaches_5 : decode mX6_teaches.2.1 5 = .ok (.iconst (-1), 1) := by decide +kernel
theorem dX6_teaches_6 : decode mX6_teaches.2.1 6 = .ok (.ixor, 1) := by decide +kernel
theorem dX6_teaches_7 : decode mX6_teaches.2.1 7 = .ok (.putfield 212, 3) := by decide +kernel
theorem dX6_teaches_10 : decode mX6_teaches.2.1 10 = .ok (.aload_n 0, 1) := by decide +kernel
theorem dX6_teaches_11 : decode mX6_teaches.2.1 11 = .ok (.getfield 23, 3) := by decide +kernel
theorem dX6_teaches_14 : decode mX6_teaches.2.1 14 = .ok (.invokevirtual 90, 3) := by decide +kernel
theorem dX6_teaches_17 : decode mX6_teaches.2.1 17 = .ok (.aload_n 0, 1) := by decide +kernel
theorem dX6_teaches_18 : decode mX6_teaches.2.1 18 = .ok (.getfield 23, 3) := by decide +kernel
theorem dX6_teaches_21 : decode mX6_teaches.2.1 21 = .ok (.iload 4, 2) := by decide +kernel
theorem dX6_teaches_23 : decode mX6_teaches.2.1 23 = .ok (.iload_n 2, 1) := by decide +kernel
theorem dX6_teaches_24 : decode mX6_teaches.2.1 24 = .ok (.invokevirtual 141, 3) := by decide +kernel
theorem dX6_teaches_27 : decode mX6_teaches.2.1 27 = .ok (.iload_n 3, 1) := by decide +kernel
theorem dX6_teaches_28 : decode mX6_teaches.2.1 28 = .ok (.iand, 1) := by decide +kernel
theorem dX6_teaches_29 : decode mX6_teaches.2.1 29 = .ok (.iload_n 3, 1) := by decide +kernel
theorem dX6_teaches_30 : decode mX6_teaches.2.1 30 = .ok (.if_icmp .ne 7, 3) := by decide +kernel
theorem dX6_teaches_33 : decode mX6_teaches.2.1 33 = .ok (.iconst 1, 1) := by decide +kernel
theorem dX6_teaches_34 : decode mX6_teaches.2.1 34 = .ok (.goto 4, 3) := by decide +kernel
theorem dX6_teaches_37 : decode mX6_teaches.2.1 37 = .ok (.iconst 0, 1) := by decide +kernel
theorem dX6_teaches_38 : decode mX6_teaches.2.1 38 = .ok (.ireturn, 1) := by decide +kernel
def fn_X6_teaches (n : Nat) (x1 : Int32) (x2 : Int32) (x3 : Int32) (x4 : Int32) (σ : Sg) : Option (Int32 × Sg) :=
  (Option.bind (fn_X5_live n 21 (ag_up σ 21 2 (x1 ^^^ (-1)))) fun q134 =>
  (Option.bind (fn_X5_wordsBehind n 21 x4 x2 q134) fun q135 =>
  (if (q135 &&& x3) = x3 then (some (1, q134))
  else (some (0, q134)))))
set_option maxRecDepth 20000 in
set_option maxHeartbeats 4000000 in
theorem im_X6_teaches (n : Nat) (x1 : Int32) (x2 : Int32) (x3 : Int32) (x4 : Int32) (σ : Sg) : Im yX6_teaches mX6_teaches 4 93 jW [.ref 0, .int x1, .int x2, .int x3, .int x4] σ (fn_X6_teaches n x1 x2 x3 x4 σ) := by
  refine Im.of (by decide +kernel) rfl rfl (Nat.le_of_ble_eq_true rfl) ?_
  show Ev mX6_teaches 4 93 jW 0 [(0, .ref 0), (1, .int x1), (2, .int x2), (3, .int x3), (4, .int x4)] [] σ (fn_X6_teaches n x1 x2 x3 x4 σ)
  unfold fn_X6_teaches
  refine ev_aload_n (pc := 0) (i := 0) 0 dX6_teaches_0 rfl rfl ?_
  refine ev_getR (pc := 1) (t := 21) 2 ag_C6 (rfl) (by decide) (Nat.le_of_ble_eq_true rfl) rfl rfl ag_fl_X6_23 dX6_teaches_1 ?_
  refine ev_iload_n (pc := 4) (i := 1) 1 dX6_teaches_4 rfl rfl ?_
  refine ev_iconst (pc := 5) (v := (-1)) dX6_teaches_5 (by decide) ?_
  refine ev_ixor (pc := 6) dX6_teaches_6 ?_
  refine ev_put (pc := 7) 2 ag_C5 (rfl) (by decide) (Nat.le_of_ble_eq_true rfl) rfl rfl ag_fl_X6_212 rfl rfl rfl dX6_teaches_7 ?_
  refine ev_aload_n (pc := 10) (i := 0) 0 dX6_teaches_10 rfl rfl ?_
  refine ev_getR (pc := 11) (t := 21) 2 ag_C6 (rfl) (by decide) (Nat.le_of_ble_eq_true rfl) rfl rfl ag_fl_X6_23 dX6_teaches_11 ?_
  refine ev_vV (pc := 14) (as := []) (rest := []) ⟨5, 90, 10, TX5, tyX5, ag_C5, ⟨(rfl), (by decide)⟩, mv_X5_live, ag_ml_X6_90, rfl, (Nat.le_of_ble_eq_true rfl), ⟨(Nat.le_of_ble_eq_true rfl), (Nat.le_of_ble_eq_true rfl)⟩, dX6_teaches_14⟩ (im_X5_live n 21 (Or.inr rfl) (ag_up σ 21 2 (x1 ^^^ (-1)))) (fun q134 => ?_)
  refine ev_aload_n (pc := 17) (i := 0) 0 dX6_teaches_17 rfl rfl ?_
  refine ev_getR (pc := 18) (t := 21) 2 ag_C6 (rfl) (by decide) (Nat.le_of_ble_eq_true rfl) rfl rfl ag_fl_X6_23 dX6_teaches_18 ?_
  refine ev_iload (pc := 21) 4 dX6_teaches_21 rfl ?_
  refine ev_iload_n (pc := 23) (i := 2) 2 dX6_teaches_23 rfl rfl ?_
  refine ev_vI (pc := 24) (as := [.int x4, .int x2]) (rest := []) ⟨5, 141, 10, TX5, tyX5, ag_C5, ⟨(rfl), (by decide)⟩, mv_X5_wordsBehind, ag_ml_X6_141, rfl, (Nat.le_of_ble_eq_true rfl), ⟨(Nat.le_of_ble_eq_true rfl), (Nat.le_of_ble_eq_true rfl)⟩, dX6_teaches_24⟩ (im_X5_wordsBehind n 21 (Or.inr rfl) x4 x2 q134) (fun q135 => ?_)
  refine ev_iload_n (pc := 27) (i := 3) 3 dX6_teaches_27 rfl rfl ?_
  refine ev_iand (pc := 28) dX6_teaches_28 ?_
  refine ev_iload_n (pc := 29) (i := 3) 3 dX6_teaches_29 rfl rfl ?_
  refine ev_icmp_ne (pc := 30) (tgt := 37) dX6_teaches_30 rfl ?_ ?_
  · refine ev_iconst (pc := 33) (v := 1) dX6_teaches_33 (by decide) ?_
    refine ev_goto (pc := 34) (tgt := 38) dX6_teaches_34 rfl ?_
    exact ev_brW rfl rfl dX6_teaches_38
  · refine ev_iconst (pc := 37) (v := 0) dX6_teaches_37 (by decide) ?_
    exact ev_brW rfl rfl dX6_teaches_38
-- X6_nextWithin
def mX6_nextWithin : Md := (RX6, cX6_nextWithin, 2, some .int, none)
theorem ms_X6_nextWithin : ag_Ms yX6_nextWithin mX6_nextWithin 2 := ⟨ag_co_X6_nextWithin, ag_st_X6_nextWithin, ag_ini_X6, by decide +kernel⟩
theorem dX6_nextWithin_0 : decode mX6_nextWithin.2.1 0 = .ok (.iload_n 0, 1) := by decide +kernel
theorem dX6_nextWithin_1 : decode mX6_nextWithin.2.1 1 = .ok (.iload_n 1, 1) := by decide +kernel
theorem dX6_nextWithin_2 : decode mX6_nextWithin.2.1 2 = .ok (.isub, 1) := by decide +kernel
theorem dX6_nextWithin_3 : decode mX6_nextWithin.2.1 3 = .ok (.iload_n 1, 1) := by decide +kernel
theorem dX6_nextWithin_4 : decode mX6_nextWithin.2.1 4 = .ok (.iand, 1) := by decide +kernel
theorem dX6_nextWithin_5 : decode mX6_nextWithin.2.1 5 = .ok (.ireturn, 1) := by decide +kernel
def fn_X6_nextWithin (x0 : Int32) (x1 : Int32) (σ : Sg) : Option Int32 :=
  (some ((x0 - x1) &&& x1))
set_option maxRecDepth 20000 in
set_option maxHeartbeats 4000000 in
theorem im_X6_nextWithin (x0 : Int32) (x1 : Int32) (σ : Sg) : Im yX6_nextWithin mX6_nextWithin 0 0 (jI σ) [.int x0, .int x1] σ (fn_X6_nextWithin x0 x1 σ) := by
  refine Im.of (by decide +kernel) rfl rfl (Nat.le_of_ble_eq_true rfl) ?_
  show Ev mX6_nextWithin 0 0 (jI σ) 0 [(0, .int x0), (1, .int x1)] [] σ (fn_X6_nextWithin x0 x1 σ)
  unfold fn_X6_nextWithin
  refine ev_iload_n (pc := 0) (i := 0) 0 dX6_nextWithin_0 rfl rfl ?_
  refine ev_iload_n (pc := 1) (i := 1) 1 dX6_nextWithin_1 rfl rfl ?_
  refine ev_isub (pc := 2) dX6_nextWithin_2 ?_
  refine ev_iload_n (pc := 3) (i := 1) 1 dX6_nextWithin_3 rfl rfl ?_
  refine ev_iand (pc := 4) dX6_nextWithin_4 ?_
  exact ev_irI rfl dX6_nextWithin_5
-- X6_teach
def mX6_teach : Md := (RX6, cX6_teach, 10, some .int, none)
theorem mv_X6_teach : ag_Mv yX6_teach mX6_teach 3 := ⟨ag_co_X6_teach, ag_im_X6_teach, ag_se_X6_teach, ag_ini_X6, by decide +kernel⟩
theorem dX6_teach_0 : decode mX6_teach.2.1 0 = .ok (.aload_n 0, 1) := by decide +kernel
theorem dX6_teach_1 : decode mX6_teach.2.1 1 = .ok (.getfield 30, 3) := by decide +kernel
theorem dX6_teach_4 : decode mX6_teach.2.1 4 = .ok (.iload_n 1, 1) := by decide +kernel
theorem dX6_teach_5 : decode mX6_teach.2.1 5 = .ok (.invokevirtual 68, 3) := by decide +kernel
theorem dX6_teach_8 : decode mX6_teach.2.1 8 = .ok (.ifCond .eq 22, 3) := by decide +kernel
theorem dX6_teach_11 : decode mX6_teach.2.1 11 = .ok (.iload_n 2, 1) := by decide +kernel
theorem dX6_teach_12 : decode mX6_teach.2.1 12 = .ok (.sipush 256, 3) := by decide +kernel
theorem dX6_teach_15 : decode mX6_teach.2.1 15 = .ok (.invokestatic 83, 3) := by decide +kernel
theorem dX6_teach_18 : decode mX6_teach.2.1 18 = .ok (.ifCond .eq 12, 3) := by decide +kernel
theorem dX6_teach_21 : decode mX6_teach.2.1 21 = .ok (.iload_n 3, 1) := by decide +kernel
theorem dX6_teach_22 : decode mX6_teach.2.1 22 = .ok (.bipush 100, 2) := by decide +kernel
theorem dX6_teach_24 : decode mX6_teach.2.1 24 = .ok (.invokestatic 83, 3) := by decide +kernel
theorem dX6_teach_27 : decode mX6_teach.2.1 27 = .ok (.ifCond .ne 6, 3) := by decide +kernel
theorem dX6_teach_30 : decode mX6_teach.2.1 30 = .ok (.bipush (-2), 2) := by decide +kernel
theorem dX6_teach_32 : decode mX6_teach.2.1 32 = .ok (.ireturn, 1) := by decide +kernel
theorem dX6_teach_33 : decode mX6_teach.2.1 33 = .ok (.aload_n 0, 1) := by decide +kernel
theorem dX6_teach_34 : decode mX6_teach.2.1 34 = .ok (.getfield 30, 3) := by decide +kernel
theorem dX6_teach_37 : decode mX6_teach.2.1 37 = .ok (.getfield 74, 3) := by decide +kernel
theorem dX6_teach_40 : decode mX6_teach.2.1 40 = .ok (.iload_n 1, 1) := by decide +kernel
theorem dX6_teach_41 : decode mX6_teach.2.1 41 = .ok (.iaload, 1) := by decide +kernel
theorem dX6_teach_42 : decode mX6_teach.2.1 42 = .ok (.iload_n 3, 1) := by decide +kernel
theorem dX6_teach_43 : decode mX6_teach.2.1 43 = .ok (.iadd, 1) := by decide +kernel
theorem dX6_teach_44 : decode mX6_teach.2.1 44 = .ok (.istore 4, 2) := by decide +kernel
theorem dX6_teach_46 : decode mX6_teach.2.1 46 = .ok (.aload_n 0, 1) := by decide +kernel
theorem dX6_teach_47 : decode mX6_teach.2.1 47 = .ok (.getfield 19, 3) := by decide +kernel
theorem dX6_teach_50 : decode mX6_teach.2.1 50 = .ok (.iload_n 1, 1) := by decide +kernel
theorem dX6_teach_51 : decode mX6_teach.2.1 51 = .ok (.iload_n 2, 1) := by decide +kernel
theorem dX6_teach_52 : decode mX6_teach.2.1 52 = .ok (.iload 4, 2) := by decide +kernel
theorem dX6_teach_54 : decode mX6_teach.2.1 54 = .ok (.invokevirtual 201, 3) := by decide +kernel
theorem dX6_teach_57 : decode mX6_teach.2.1 57 = .ok (.istore 5, 2) := by decide +kernel
theorem dX6_teach_59 : decode mX6_teach.2.1 59 = .ok (.iload 5, 2) := by decide +kernel
theorem dX6_teach_61 : decode mX6_teach.2.1 61 = .ok (.invokestatic 190, 3) := by decide +kernel
theorem dX6_teach_64 : decode mX6_teach.2.1 64 = .ok (.istore 6, 2) := by decide +kernel
theorem dX6_teach_66 : decode mX6_teach.2.1 66 = .ok (.aload_n 0, 1) := by decide +kernel
theorem dX6_teach_67 : decode mX6_teach.2.1 67 = .ok (.getfield 23, 3) := by decide +kernel
theorem dX6_teach_70 : decode mX6_teach.2.1 70 = .ok (.aload_n 0, 1) := by decide +kernel
theorem dX6_teach_71 : decode mX6_teach.2.1 71 = .ok (.getfield 19, 3) := by decide +kernel
theorem dX6_teach_74 : decode mX6_teach.2.1 74 = .ok (.invokevirtual 159, 3) := by decide +kernel
theorem dX6_teach_77 : decode mX6_teach.2.1 77 = .ok (.iconst 0, 1) := by decide +kernel
theorem dX6_teach_78 : decode mX6_teach.2.1 78 = .ok (.istore 7, 2) := by decide +kernel
theorem dX6_teach_80 : decode mX6_teach.2.1 80 = .ok (.iload 7, 2) := by decide +kernel
theorem dX6_teach_82 : decode mX6_teach.2.1 82 = .ok (.iload 6, 2) := by decide +kernel
theorem dX6_teach_84 : decode mX6_teach.2.1 84 = .ok (.if_icmp .gt 65, 3) := by decide +kernel
theorem dX6_teach_87 : decode mX6_teach.2.1 87 = .ok (.iconst 0, 1) := by decide +kernel
theorem dX6_teach_88 : decode mX6_teach.2.1 88 = .ok (.istore 8, 2) := by decide +kernel
theorem dX6_teach_90 : decode mX6_teach.2.1 90 = .ok (.iconst 0, 1) := by decide +kernel
theorem dX6_teach_91 : decode mX6_teach.2.1 91 = .ok (.istore 9, 2) := by decide +kernel
theorem dX6_teach_93 : decode mX6_teach.2.1 93 = .ok (.iload 9, 2) := by decide +kernel
theorem dX6_teach_95 : decode mX6_teach.2.1 95 = .ok (.iconst 1, 1) := by decide +kernel
theorem dX6_teach_96 : decode mX6_teach.2.1 96 = .ok (.iload 6, 2) := by decide +kernel
theorem dX6_teach_98 : decode mX6_teach.2.1 98 = .ok (.ishl, 1) := by decide +kernel
theorem dX6_teach_99 : decode mX6_teach.2.1 99 = .ok (.if_icmp .ge 44, 3) := by decide +kernel
theorem dX6_teach_102 : decode mX6_teach.2.1 102 = .ok (.iload 8, 2) := by decide +kernel
theorem dX6_teach_104 : decode mX6_teach.2.1 104 = .ok (.invokestatic 190, 3) := by decide +kernel
theorem dX6_teach_107 : decode mX6_teach.2.1 107 = .ok (.iload 7, 2) := by decide +kernel
theorem dX6_teach_109 : decode mX6_teach.2.1 109 = .ok (.if_icmp .ne 19, 3) := by decide +kernel
theorem dX6_teach_112 : decode mX6_teach.2.1 112 = .ok (.aload_n 0, 1) := by decide +kernel
theorem dX6_teach_113 : decode mX6_teach.2.1 113 = .ok (.iload 8, 2) := by decide +kernel
theorem dX6_teach_115 : decode mX6_teach.2.1 115 = .ok (.iload_n 1, 1) := by decide +kernel
theorem dX6_teach_116 : decode mX6_teach.2.1 116 = .ok (.iload_n 2, 1) := by decide +kernel
theorem dX6_teach_117 : decode mX6_teach.2.1 117 = .ok (.iload 4, 2) := by decide +kernel
theorem dX6_teach_119 : decode mX6_teach.2.1 119 = .ok (.invokevirtual 205, 3) := by decide +kernel
theorem dX6_teach_122 : decode mX6_teach.2.1 122 = .ok (.ifCond .eq 6, 3) := by decide +kernel
theorem dX6_teach_125 : decode mX6_teach.2.1 125 = .ok (.iload 8, 2) := by decide +kernel
theorem dX6_teach_127 : decode mX6_teach.2.1 127 = .ok (.ireturn, 1) := by decide +kernel
theorem dX6_teach_128 : decode mX6_teach.2.1 128 = .ok (.iload 8, 2) := by decide +kernel
theorem dX6_teach_130 : decode mX6_teach.2.1 130 = .ok (.iload 5, 2) := by decide +kernel
theorem dX6_teach_132 : decode mX6_teach.2.1 132 = .ok (.invokestatic 209, 3) := by decide +kernel
theorem dX6_teach_135 : decode mX6_teach.2.1 135 = .ok (.istore 8, 2) := by decide +kernel
theorem dX6_teach_137 : decode mX6_teach.2.1 137 = .ok (.iinc 9 1, 3) := by decide +kernel
theorem dX6_teach_140 : decode mX6_teach.2.1 140 = .ok (.goto (-47), 3) := by decide +kernel
theorem dX6_teach_143 : decode mX6_teach.2.1 143 = .ok (.iinc 7 1, 3) := by decide +kernel
theorem dX6_teach_146 : decode mX6_teach.2.1 146 = .ok (.goto (-66), 3) := by decide +kernel
theorem dX6_teach_149 : decode mX6_teach.2.1 149 = .ok (.iconst (-1), 1) := by decide +kernel
theorem dX6_teach_150 : decode mX6_teach.2.1 150 = .ok (.ireturn, 1) := by decide +kernel
def fn_X6_teach_b128 (n : Nat) (x1 : Int32) (x2 : Int32) (x3 : Int32) (k80 : Int32 → Int32 → Int32 → Int32 → Sg → Option (Int32 × Sg)) (k93 : Int32 → Int32 → Int32 → Int32 → Int32 → Int32 → Sg → Option (Int32 × Sg)) (v4 : Int32) (v5 : Int32) (v6 : Int32) (v7 : Int32) (v8 : Int32) (v9 : Int32) (σ : Sg) : Option (Int32 × Sg) :=
  (Option.bind (fn_X6_nextWithin v8 v5 σ) fun q136 =>
  (k93 v4 v5 v6 v7 q136 (v9 + 1) σ))
set_option maxRecDepth 20000 in
set_option maxHeartbeats 4000000 in
theorem ev_X6_teach_b128 (n : Nat) (x1 : Int32) (x2 : Int32) (x3 : Int32) (k80 : Int32 → Int32 → Int32 → Int32 → Sg → Option (Int32 × Sg)) (hk80 : ∀ (v4 : Int32) (v5 : Int32) (v6 : Int32) (v7 : Int32) (σ : Sg), Ev mX6_teach 5 117 jW 80 [(0, .ref 0), (1, .int x1), (2, .int x2), (3, .int x3), (4, .int v4), (5, .int v5), (6, .int v6), (7, .int v7)] [] σ (k80 v4 v5 v6 v7 σ)) (k93 : Int32 → Int32 → Int32 → Int32 → Int32 → Int32 → Sg → Option (Int32 × Sg)) (hk93 : ∀ (v4 : Int32) (v5 : Int32) (v6 : Int32) (v7 : Int32) (v8 : Int32) (v9 : Int32) (σ : Sg), Ev mX6_teach 5 117 jW 93 [(0, .ref 0), (1, .int x1), (2, .int x2), (3, .int x3), (4, .int v4), (5, .int v5), (6, .int v6), (7, .int v7), (8, .int v8), (9, .int v9)] [] σ (k93 v4 v5 v6 v7 v8 v9 σ)) (v4 : Int32) (v5 : Int32) (v6 : Int32) (v7 : Int32) (v8 : Int32) (v9 : Int32) (σ : Sg) : Ev mX6_teach 5 117 jW 128 [(0, .ref 0), (1, .int x1), (2, .int x2), (3, .int x3), (4, .int v4), (5, .int v5), (6, .int v6), (7, .int v7), (8, .int v8), (9, .int v9)] [] σ (fn_X6_teach_b128 n x1 x2 x3 k80 k93 v4 v5 v6 v7 v8 v9 σ) := by
  unfold fn_X6_teach_b128
  refine ev_iload (pc := 128) 8 dX6_teach_128 rfl ?_
  refine ev_iload (pc := 130) 5 dX6_teach_130 rfl ?_
  refine ev_sI (pc := 132) (as := [.int v8, .int v5]) (rest := []) ⟨209, ms_X6_nextWithin, ag_ml_X6_209, rfl, (Nat.le_of_ble_eq_true rfl), ⟨(Nat.le_of_ble_eq_true rfl), (Nat.le_of_ble_eq_true rfl)⟩, dX6_teach_132⟩ (im_X6_nextWithin v8 v5 σ) (fun q136 => ?_)
  refine ev_istore (pc := 135) (lv' := [(8, .int q136), (0, .ref 0), (1, .int x1), (2, .int x2), (3, .int x3), (4, .int v4), (5, .int v5), (6, .int v6), (7, .int v7), (9, .int v9)]) dX6_teach_135 (Nat.le_of_ble_eq_true rfl) rfl ?_
  refine ev_iinc (pc := 137) (v := (v9 + 1)) (lv' := [(9, .int (v9 + 1)), (8, .int q136), (0, .ref 0), (1, .int x1), (2, .int x2), (3, .int x3), (4, .int v4), (5, .int v5), (6, .int v6), (7, .int v7)]) 9 dX6_teach_137 rfl rfl (Nat.le_of_ble_eq_true rfl) rfl ?_
  refine ev_goto (pc := 140) (tgt := 93) dX6_teach_140 rfl ?_
  refine ev_sub [2, 3, 4, 5, 6, 7, 8, 9, 1, 0] rfl ?_
  exact hk93 v4 v5 v6 v7 q136 (v9 + 1) σ
def fn_X6_teach_b93 (n : Nat) (x1 : Int32) (x2 : Int32) (x3 : Int32) (k80 : Int32 → Int32 → Int32 → Int32 → Sg → Option (Int32 × Sg)) : Nat → Int32 → Int32 → Int32 → Int32 → Int32 → Int32 → Sg → Option (Int32 × Sg)
  | 0 => fun _ _ _ _ _ _ _ => none
  | i + 1 => fun v4 v5 v6 v7 v8 v9 σ =>
  (if (1 <<< (v6 &&& 31)) ≤ v9 then (k80 v4 v5 v6 (v7 + 1) σ)
  else (Option.bind (fn_J6_bitCount_0f7a4 v8 σ) fun q137 =>
  (if q137 = v7 then (Option.bind (fn_X6_teaches n v8 x1 x2 v4 σ) fun q138 =>
  (if q138.1 = 0 then (fn_X6_teach_b128 n x1 x2 x3 k80 (fn_X6_teach_b93 n x1 x2 x3 k80 i) v4 v5 v6 v7 v8 v9 q138.2)
  else (some (v8, q138.2))))
  else (fn_X6_teach_b128 n x1 x2 x3 k80 (fn_X6_teach_b93 n x1 x2 x3 k80 i) v4 v5 v6 v7 v8 v9 σ))))
theorem fn_X6_teach_b93_s (n : Nat) (x1 : Int32) (x2 : Int32) (x3 : Int32) (k80 : Int32 → Int32 → Int32 → Int32 → Sg → Option (Int32 × Sg)) (i : Nat) (v4 : Int32) (v5 : Int32) (v6 : Int32) (v7 : Int32) (v8 : Int32) (v9 : Int32) (σ : Sg) : fn_X6_teach_b93 n x1 x2 x3 k80 (i + 1) v4 v5 v6 v7 v8 v9 σ =
  (if (1 <<< (v6 &&& 31)) ≤ v9 then (k80 v4 v5 v6 (v7 + 1) σ)
  else (Option.bind (fn_J6_bitCount_0f7a4 v8 σ) fun q137 =>
  (if q137 = v7 then (Option.bind (fn_X6_teaches n v8 x1 x2 v4 σ) fun q138 =>
  (if q138.1 = 0 then (fn_X6_teach_b128 n x1 x2 x3 k80 (fn_X6_teach_b93 n x1 x2 x3 k80 i) v4 v5 v6 v7 v8 v9 q138.2)
  else (some (v8, q138.2))))
  else (fn_X6_teach_b128 n x1 x2 x3 k80 (fn_X6_teach_b93 n x1 x2 x3 k80 i) v4 v5 v6 v7 v8 v9 σ)))) := rfl
set_option maxRecDepth 20000 in
set_option maxHeartbeats 4000000 in
theorem ev_X6_teach_b93 (n : Nat) (x1 : Int32) (x2 : Int32) (x3 : Int32) (k80 : Int32 → Int32 → Int32 → Int32 → Sg → Option (Int32 × Sg)) (hk80 : ∀ (v4 : Int32) (v5 : Int32) (v6 : Int32) (v7 : Int32) (σ : Sg), Ev mX6_teach 5 117 jW 80 [(0, .ref 0), (1, .int x1), (2, .int x2), (3, .int x3), (4, .int v4), (5, .int v5), (6, .int v6), (7, .int v7)] [] σ (k80 v4 v5 v6 v7 σ)) : ∀ (i : Nat) (v4 : Int32) (v5 : Int32) (v6 : Int32) (v7 : Int32) (v8 : Int32) (v9 : Int32) (σ : Sg), Ev mX6_teach 5 117 jW 93 [(0, .ref 0), (1, .int x1), (2, .int x2), (3, .int x3), (4, .int v4), (5, .int v5), (6, .int v6), (7, .int v7), (8, .int v8), (9, .int v9)] [] σ (fn_X6_teach_b93 n x1 x2 x3 k80 i v4 v5 v6 v7 v8 v9 σ) := by
  intro i
  induction i with
  | zero =>
    intro v4 v5 v6 v7 v8 v9 σ
    exact ev_none
  | succ i ih =>
    intro v4 v5 v6 v7 v8 v9 σ
    rw [fn_X6_teach_b93_s]
    refine ev_iload (pc := 93) 9 dX6_teach_93 rfl ?_
    refine ev_iconst (pc := 95) (v := 1) dX6_teach_95 (by decide) ?_
    refine ev_iload (pc := 96) 6 dX6_teach_96 rfl ?_
    refine ev_ishl (pc := 98) dX6_teach_98 ?_
    refine ev_icmp_ge (pc := 99) (tgt := 143) dX6_teach_99 rfl ?_ ?_
    · refine ev_iinc (pc := 143) (v := (v7 + 1)) (lv' := [(7, .int (v7 + 1)), (0, .ref 0), (1, .int x1), (2, .int x2), (3, .int x3), (4, .int v4), (5, .int v5), (6, .int v6), (8, .int v8), (9, .int v9)]) 7 dX6_teach_143 rfl rfl (Nat.le_of_ble_eq_true rfl) rfl ?_
      refine ev_goto (pc := 146) (tgt := 80) dX6_teach_146 rfl ?_
      refine ev_sub [1, 2, 3, 4, 5, 6, 7, 0] rfl ?_
      exact hk80 v4 v5 v6 (v7 + 1) σ
    · refine ev_iload (pc := 102) 8 dX6_teach_102 rfl ?_
      refine ev_sI (pc := 104) (as := [.int v8]) (rest := []) ⟨190, ms_J6_bitCount_0f7a4, ag_ml_X6_190, rfl, (Nat.le_of_ble_eq_true rfl), ⟨(Nat.le_of_ble_eq_true rfl), (Nat.le_of_ble_eq_true rfl)⟩, dX6_teach_104⟩ (im_J6_bitCount_0f7a4 v8 σ) (fun q137 => ?_)
      refine ev_iload (pc := 107) 7 dX6_teach_107 rfl ?_
      refine ev_icmp_ne (pc := 109) (tgt := 128) dX6_teach_109 rfl ?_ ?_
      · refine ev_aload_n (pc := 112) (i := 0) 0 dX6_teach_112 rfl rfl ?_
        refine ev_iload (pc := 113) 8 dX6_teach_113 rfl ?_
        refine ev_iload_n (pc := 115) (i := 1) 1 dX6_teach_115 rfl rfl ?_
        refine ev_iload_n (pc := 116) (i := 2) 2 dX6_teach_116 rfl rfl ?_
        refine ev_iload (pc := 117) 4 dX6_teach_117 rfl ?_
        refine ev_vW (pc := 119) (as := [.int v8, .int x1, .int x2, .int v4]) (rest := []) ⟨6, 205, 8, TX6, tyX6, ag_C6, ⟨(rfl), (by decide)⟩, mv_X6_teaches, ag_ml_X6_205, rfl, (Nat.le_of_ble_eq_true rfl), ⟨(Nat.le_of_ble_eq_true rfl), (Nat.le_of_ble_eq_true rfl)⟩, dX6_teach_119⟩ (im_X6_teaches n v8 x1 x2 v4 σ) (fun q138 => ?_)
        refine ev_if_eq (pc := 122) (tgt := 128) dX6_teach_122 rfl ?_ ?_
        · exact ev_X6_teach_b128 n x1 x2 x3 k80 hk80 (fn_X6_teach_b93 n x1 x2 x3 k80 i) ih v4 v5 v6 v7 v8 v9 q138.2
        · refine ev_iload (pc := 125) 8 dX6_teach_125 rfl ?_
          exact ev_irW rfl dX6_teach_127
      · exact ev_X6_teach_b128 n x1 x2 x3 k80 hk80 (fn_X6_teach_b93 n x1 x2 x3 k80 i) ih v4 v5 v6 v7 v8 v9 σ
def fn_X6_teach_b80 (n : Nat) (x1 : Int32) (x2 : Int32) (x3 : Int32)  : Nat → Int32 → Int32 → Int32 → Int32 → Sg → Option (Int32 × Sg)
  | 0 => fun _ _ _ _ _ => none
  | i + 1 => fun v4 v5 v6 v7 σ =>
  (if v6 < v7 then (some ((-1), σ))
  else (fn_X6_teach_b93 n x1 x2 x3 (fn_X6_teach_b80 n x1 x2 x3 i) n v4 v5 v6 v7 0 0 σ))
theorem fn_X6_teach_b80_s (n : Nat) (x1 : Int32) (x2 : Int32) (x3 : Int32)  (i : Nat) (v4 : Int32) (v5 : Int32) (v6 : Int32) (v7 : Int32) (σ : Sg) : fn_X6_teach_b80 n x1 x2 x3 (i + 1) v4 v5 v6 v7 σ =
  (if v6 < v7 then (some ((-1), σ))
  else (fn_X6_teach_b93 n x1 x2 x3 (fn_X6_teach_b80 n x1 x2 x3 i) n v4 v5 v6 v7 0 0 σ)) := rfl
set_option maxRecDepth 20000 in
set_option maxHeartbeats 4000000 in
theorem ev_X6_teach_b80 (n : Nat) (x1 : Int32) (x2 : Int32) (x3 : Int32)  : ∀ (i : Nat) (v4 : Int32) (v5 : Int32) (v6 : Int32) (v7 : Int32) (σ : Sg), Ev mX6_teach 5 117 jW 80 [(0, .ref 0), (1, .int x1), (2, .int x2), (3, .int x3), (4, .int v4), (5, .int v5), (6, .int v6), (7, .int v7)] [] σ (fn_X6_teach_b80 n x1 x2 x3 i v4 v5 v6 v7 σ) := by
  intro i
  induction i with
  | zero =>
    intro v4 v5 v6 v7 σ
    exact ev_none
  | succ i ih =>
    intro v4 v5 v6 v7 σ
    rw [fn_X6_teach_b80_s]
    refine ev_iload (pc := 80) 7 dX6_teach_80 rfl ?_
    refine ev_iload (pc := 82) 6 dX6_teach_82 rfl ?_
    refine ev_icmp_gt (pc := 84) (tgt := 149) dX6_teach_84 rfl ?_ ?_
    · refine ev_iconst (pc := 149) (v := (-1)) dX6_teach_149 (by decide) ?_
      exact ev_irW rfl dX6_teach_150
    · refine ev_iconst (pc := 87) (v := 0) dX6_teach_87 (by decide) ?_
      refine ev_istore (pc := 88) (lv' := [(8, .int 0), (0, .ref 0), (1, .int x1), (2, .int x2), (3, .int x3), (4, .int v4), (5, .int v5), (6, .int v6), (7, .int v7)]) dX6_teach_88 (Nat.le_of_ble_eq_true rfl) rfl ?_
      refine ev_iconst (pc := 90) (v := 0) dX6_teach_90 (by decide) ?_
      refine ev_istore (pc := 91) (lv' := [(9, .int 0), (8, .int 0), (0, .ref 0), (1, .int x1), (2, .int x2), (3, .int x3), (4, .int v4), (5, .int v5), (6, .int v6), (7, .int v7)]) dX6_teach_91 (Nat.le_of_ble_eq_true rfl) rfl ?_
      refine ev_sub [2, 3, 4, 5, 6, 7, 8, 9, 1, 0] rfl ?_
      exact ev_X6_teach_b93 n x1 x2 x3 (fn_X6_teach_b80 n x1 x2 x3 i) ih n v4 v5 v6 v7 0 0 σ
def fn_X6_teach (n : Nat) (x1 : Int32) (x2 : Int32) (x3 : Int32) (σ : Sg) : Option (Int32 × Sg) :=
  (Option.bind (fn_X1_isThere 4 x1 σ) fun q139 =>
  (if q139 = 0 then (some ((-2), σ))
  else (Option.bind (fn_X6_isBelow x2 256 σ) fun q140 =>
  (if q140 = 0 then (some ((-2), σ))
  else (Option.bind (fn_X6_isBelow x3 100 σ) fun q141 =>
  (if q141 = 0 then (some ((-2), σ))
  else (if ag_ib x1 10 = true then (Option.bind (fn_X5_helpfulFor n 3 x1 x2 ((σ 5 x1.toNatClampNeg) + x3) σ) fun q142 =>
  (Option.bind (fn_J6_bitCount_0f7a4 q142.1 q142.2) fun q143 =>
  (Option.bind (fn_X5_takeFrom 21 3 q142.2) fun q144 =>
  (fn_X6_teach_b80 n x1 x2 x3 n ((σ 5 x1.toNatClampNeg) + x3) q142.1 q143 0 q144)))) else none)))))))
set_option maxRecDepth 20000 in
set_option maxHeartbeats 4000000 in
theorem im_X6_teach (n : Nat) (x1 : Int32) (x2 : Int32) (x3 : Int32) (σ : Sg) : Im yX6_teach mX6_teach 5 117 jW [.ref 0, .int x1, .int x2, .int x3] σ (fn_X6_teach n x1 x2 x3 σ) := by
  refine Im.of (by decide +kernel) rfl rfl (Nat.le_of_ble_eq_true rfl) ?_
  show Ev mX6_teach 5 117 jW 0 [(0, .ref 0), (1, .int x1), (2, .int x2), (3, .int x3)] [] σ (fn_X6_teach n x1 x2 x3 σ)
  unfold fn_X6_teach
  refine ev_aload_n (pc := 0) (i := 0) 0 dX6_teach_0 rfl rfl ?_
  refine ev_getR (pc := 1) (t := 4) 3 ag_C6 (rfl) (by decide) (Nat.le_of_ble_eq_true rfl) rfl rfl ag_fl_X6_30 dX6_teach_1 ?_
  refine ev_iload_n (pc := 4) (i := 1) 1 dX6_teach_4 rfl rfl ?_
  refine ev_vI (pc := 5) (as := [.int x1]) (rest := []) ⟨1, 68, 6, TX1, tyX1, ag_C1, ⟨(rfl), (by decide)⟩, mv_X1_isThere, ag_ml_X6_68, rfl, (Nat.le_of_ble_eq_true rfl), ⟨(Nat.le_of_ble_eq_true rfl), (Nat.le_of_ble_eq_true rfl)⟩, dX6_teach_5⟩ (im_X1_isThere 4 (Or.inl rfl) x1 σ) (fun q139 => ?_)
  refine ev_if_eq (pc := 8) (tgt := 30) dX6_teach_8 rfl ?_ ?_
  · refine ev_bipush (pc := 30) (v := (-2)) dX6_teach_30 (by decide) ?_
    exact ev_irW rfl dX6_teach_32
  · refine ev_iload_n (pc := 11) (i := 2) 2 dX6_teach_11 rfl rfl ?_
    refine ev_sipush (pc := 12) (v := 256) dX6_teach_12 (by decide) ?_
    refine ev_sI (pc := 15) (as := [.int x2, .int 256]) (rest := []) ⟨83, ms_X6_isBelow, ag_ml_X6_83, rfl, (Nat.le_of_ble_eq_true rfl), ⟨(Nat.le_of_ble_eq_true rfl), (Nat.le_of_ble_eq_true rfl)⟩, dX6_teach_15⟩ (im_X6_isBelow x2 256 σ) (fun q140 => ?_)
    refine ev_if_eq (pc := 18) (tgt := 30) dX6_teach_18 rfl ?_ ?_
    · refine ev_bipush (pc := 30) (v := (-2)) dX6_teach_30 (by decide) ?_
      exact ev_irW rfl dX6_teach_32
    · refine ev_iload_n (pc := 21) (i := 3) 3 dX6_teach_21 rfl rfl ?_
      refine ev_bipush (pc := 22) (v := 100) dX6_teach_22 (by decide) ?_
      refine ev_sI (pc := 24) (as := [.int x3, .int 100]) (rest := []) ⟨83, ms_X6_isBelow, ag_ml_X6_83, rfl, (Nat.le_of_ble_eq_true rfl), ⟨(Nat.le_of_ble_eq_true rfl), (Nat.le_of_ble_eq_true rfl)⟩, dX6_teach_24⟩ (im_X6_isBelow x3 100 σ) (fun q141 => ?_)
      refine ev_if_ne (pc := 27) (tgt := 33) dX6_teach_27 rfl ?_ ?_
      · refine ev_bipush (pc := 30) (v := (-2)) dX6_teach_30 (by decide) ?_
        exact ev_irW rfl dX6_teach_32
      · refine ev_aload_n (pc := 33) (i := 0) 0 dX6_teach_33 rfl rfl ?_
        refine ev_getR (pc := 34) (t := 4) 3 ag_C6 (rfl) (by decide) (Nat.le_of_ble_eq_true rfl) rfl rfl ag_fl_X6_30 dX6_teach_34 ?_
        refine ev_getR (pc := 37) (t := 5) 1 ag_C1 (rfl) (by decide) (Nat.le_of_ble_eq_true rfl) rfl rfl ag_fl_X6_74 dX6_teach_37 ?_
        refine ev_iload_n (pc := 40) (i := 1) 1 dX6_teach_40 rfl rfl ?_
        refine ev_iald (pc := 41) (rfl) (by decide) dX6_teach_41 ?_
        refine ev_iload_n (pc := 42) (i := 3) 3 dX6_teach_42 rfl rfl ?_
        refine ev_iadd (pc := 43) dX6_teach_43 ?_
        refine ev_istore (pc := 44) (lv' := [(4, .int ((σ 5 x1.toNatClampNeg) + x3)), (0, .ref 0), (1, .int x1), (2, .int x2), (3, .int x3)]) dX6_teach_44 (Nat.le_of_ble_eq_true rfl) rfl ?_
        refine ev_aload_n (pc := 46) (i := 0) 1 dX6_teach_46 rfl rfl ?_
        refine ev_getR (pc := 47) (t := 3) 1 ag_C6 (rfl) (by decide) (Nat.le_of_ble_eq_true rfl) rfl rfl ag_fl_X6_19 dX6_teach_47 ?_
        refine ev_iload_n (pc := 50) (i := 1) 2 dX6_teach_50 rfl rfl ?_
        refine ev_iload_n (pc := 51) (i := 2) 3 dX6_teach_51 rfl rfl ?_
        refine ev_iload (pc := 52) 0 dX6_teach_52 rfl ?_
        refine ev_vW (pc := 54) (as := [.int x1, .int x2, .int ((σ 5 x1.toNatClampNeg) + x3)]) (rest := []) ⟨5, 201, 10, TX5, tyX5, ag_C5, ⟨(rfl), (by decide)⟩, mv_X5_helpfulFor, ag_ml_X6_201, rfl, (Nat.le_of_ble_eq_true rfl), ⟨(Nat.le_of_ble_eq_true rfl), (Nat.le_of_ble_eq_true rfl)⟩, dX6_teach_54⟩ (im_X5_helpfulFor n 3 (Or.inl rfl) x1 x2 ((σ 5 x1.toNatClampNeg) + x3) σ) (fun q142 => ?_)
        refine ev_istore (pc := 57) (lv' := [(5, .int q142.1), (4, .int ((σ 5 x1.toNatClampNeg) + x3)), (0, .ref 0), (1, .int x1), (2, .int x2), (3, .int x3)]) dX6_teach_57 (Nat.le_of_ble_eq_true rfl) rfl ?_
        refine ev_iload (pc := 59) 0 dX6_teach_59 rfl ?_
        refine ev_sI (pc := 61) (as := [.int q142.1]) (rest := []) ⟨190, ms_J6_bitCount_0f7a4, ag_ml_X6_190, rfl, (Nat.le_of_ble_eq_true rfl), ⟨(Nat.le_of_ble_eq_true rfl), (Nat.le_of_ble_eq_true rfl)⟩, dX6_teach_61⟩ (im_J6_bitCount_0f7a4 q142.1 q142.2) (fun q143 => ?_)
        refine ev_istore (pc := 64) (lv' := [(6, .int q143), (5, .int q142.1), (4, .int ((σ 5 x1.toNatClampNeg) + x3)), (0, .ref 0), (1, .int x1), (2, .int x2), (3, .int x3)]) dX6_teach_64 (Nat.le_of_ble_eq_true rfl) rfl ?_
        refine ev_aload_n (pc := 66) (i := 0) 3 dX6_teach_66 rfl rfl ?_
        refine ev_getR (pc := 67) (t := 21) 2 ag_C6 (rfl) (by decide) (Nat.le_of_ble_eq_true rfl) rfl rfl ag_fl_X6_23 dX6_teach_67 ?_
        refine ev_aload_n (pc := 70) (i := 0) 3 dX6_teach_70 rfl rfl ?_
        refine ev_getR (pc := 71) (t := 3) 1 ag_C6 (rfl) (by decide) (Nat.le_of_ble_eq_true rfl) rfl rfl ag_fl_X6_19 dX6_teach_71 ?_
        refine ev_vV (pc := 74) (as := [.ref 3]) (rest := []) ⟨5, 159, 10, TX5, tyX5, ag_C5, ⟨(rfl), (by decide)⟩, mv_X5_takeFrom, ag_ml_X6_159, rfl, (Nat.le_of_ble_eq_true rfl), ⟨(Nat.le_of_ble_eq_true rfl), (Nat.le_of_ble_eq_true rfl)⟩, dX6_teach_74⟩ (im_X5_takeFrom 21 (Or.inr rfl) 3 (Or.inl rfl) q142.2) (fun q144 => ?_)
        refine ev_iconst (pc := 77) (v := 0) dX6_teach_77 (by decide) ?_
        refine ev_istore (pc := 78) (lv' := [(7, .int 0), (6, .int q143), (5, .int q142.1), (4, .int ((σ 5 x1.toNatClampNeg) + x3)), (0, .ref 0), (1, .int x1), (2, .int x2), (3, .int x3)]) dX6_teach_78 (Nat.le_of_ble_eq_true rfl) rfl ?_
        refine ev_sub [4, 5, 6, 7, 3, 2, 1, 0] rfl ?_
        exact ev_X6_teach_b80 n x1 x2 x3 n ((σ 5 x1.toNatClampNeg) + x3) q142.1 q143 0 q144
-- X6_done
def mX6_done : Md := (RX6, cX6_done, 5, some .int, none)
theorem mv_X6_done : ag_Mv yX6_done mX6_done 4 := ⟨ag_co_X6_done, ag_im_X6_done, ag_se_X6_done, ag_ini_X6, by decide +kernel⟩
theorem dX6_done_0 : decode mX6_done.2.1 0 = .ok (.iload_n 1, 1) := by decide +kernel
theorem dX6_done_1 : decode mX6_done.2.1 1 = .ok (.sipush 200, 3) := by decide +kernel
theorem dX6_done_4 : decode mX6_done.2.1 4 = .ok (.invokestatic 83, 3) := by decide +kernel
theorem dX6_done_7 : decode mX6_done.2.1 7 = .ok (.ifCond .eq 30, 3) := by decide +kernel
theorem dX6_done_10 : decode mX6_done.2.1 10 = .ok (.iload_n 2, 1) := by decide +kernel
theorem dX6_done_11 : decode mX6_done.2.1 11 = .ok (.bipush 10, 2) := by decide +kernel
theorem dX6_done_13 : decode mX6_done.2.1 13 = .ok (.invokestatic 83, 3) := by decide +kernel
theorem dX6_done_16 : decode mX6_done.2.1 16 = .ok (.ifCond .eq 21, 3) := by decide +kernel
theorem dX6_done_19 : decode mX6_done.2.1 19 = .ok (.iload_n 3, 1) := by decide +kernel
theorem dX6_done_20 : decode mX6_done.2.1 20 = .ok (.bipush 8, 2) := by decide +kernel
theorem dX6_done_22 : decode mX6_done.2.1 22 = .ok (.invokestatic 83, 3) := by decide +kernel
theorem dX6_done_25 : decode mX6_done.2.1 25 = .ok (.ifCond .eq 12, 3) := by decide +kernel
theorem dX6_done_28 : decode mX6_done.2.1 28 = .ok (.iload 4, 2) := by decide +kernel
theorem dX6_done_30 : decode mX6_done.2.1 30 = .ok (.iconst 2, 1) := by decide +kernel
theorem dX6_done_31 : decode mX6_done.2.1 31 = .ok (.invokestatic 83, 3) := by decide +kernel
theorem dX6_done_34 : decode mX6_done.2.1 34 = .ok (.ifCond .ne 6, 3) := by decide +kernel
theorem dX6_done_37 : decode mX6_done.2.1 37 = .ok (.bipush (-2), 2) := by decide +kernel
theorem dX6_done_39 : decode mX6_done.2.1 39 = .ok (.ireturn, 1) := by decide +kernel
theorem dX6_done_40 : decode mX6_done.2.1 40 = .ok (.aload_n 0, 1) := by decide +kernel
theorem dX6_done_41 : decode mX6_done.2.1 41 = .ok (.getfield 39, 3) := by decide +kernel
theorem dX6_done_44 : decode mX6_done.2.1 44 = .ok (.getfield 215, 3) := by decide +kernel
theorem dX6_done_47 : decode mX6_done.2.1 47 = .ok (.bipush 8, 2) := by decide +kernel
theorem dX6_done_49 : decode mX6_done.2.1 49 = .ok (.if_icmp .lt 6, 3) := by decide +kernel
theorem dX6_done_52 : decode mX6_done.2.1 52 = .ok (.bipush (-4), 2) := by decide +kernel
theorem dX6_done_54 : decode mX6_done.2.1 54 = .ok (.ireturn, 1) := by decide +kernel
theorem dX6_done_55 : decode mX6_done.2.1 55 = .ok (.aload_n 0, 1) := by decide +kernel
theorem dX6_done_56 : decode mX6_done.2.1 56 = .ok (.getfield 39, 3) := by decide +kernel
theorem dX6_done_59 : decode mX6_done.2.1 59 = .ok (.iload_n 1, 1) := by decide +kernel
theorem dX6_done_60 : decode mX6_done.2.1 60 = .ok (.iload_n 2, 1) := by decide +kernel
theorem dX6_done_61 : decode mX6_done.2.1 61 = .ok (.iload_n 3, 1) := by decide +kernel
theorem dX6_done_62 : decode mX6_done.2.1 62 = .ok (.iload 4, 2) := by decide +kernel
theorem dX6_done_64 : decode mX6_done.2.1 64 = .ok (.invokevirtual 216, 3) := by decide +kernel
theorem dX6_done_67 : decode mX6_done.2.1 67 = .ok (.aload_n 0, 1) := by decide +kernel
theorem dX6_done_68 : decode mX6_done.2.1 68 = .ok (.getfield 39, 3) := by decide +kernel
theorem dX6_done_71 : decode mX6_done.2.1 71 = .ok (.getfield 215, 3) := by decide +kernel
theorem dX6_done_74 : decode mX6_done.2.1 74 = .ok (.ireturn, 1) := by decide +kernel
def fn_X6_done (x1 : Int32) (x2 : Int32) (x3 : Int32) (x4 : Int32) (σ : Sg) : Option (Int32 × Sg) :=
  (Option.bind (fn_X6_isBelow x1 200 σ) fun q145 =>
  (if q145 = 0 then (some ((-2), σ))
  else (Option.bind (fn_X6_isBelow x2 10 σ) fun q146 =>
  (if q146 = 0 then (some ((-2), σ))
  else (Option.bind (fn_X6_isBelow x3 8 σ) fun q147 =>
  (if q147 = 0 then (some ((-2), σ))
  else (Option.bind (fn_X6_isBelow x4 2 σ) fun q148 =>
  (if q148 = 0 then (some ((-2), σ))
  else (if (σ 39 0) < 8 then (Option.bind (fn_X0_addOne x1 x2 x3 x4 σ) fun q149 =>
  (some ((q149 39 0), q149)))
  else (some ((-4), σ)))))))))))
set_option maxRecDepth 20000 in
set_option maxHeartbeats 4000000 in
theorem im_X6_done (x1 : Int32) (x2 : Int32) (x3 : Int32) (x4 : Int32) (σ : Sg) : Im yX6_done mX6_done 1 24 jW [.ref 0, .int x1, .int x2, .int x3, .int x4] σ (fn_X6_done x1 x2 x3 x4 σ) := by
  refine Im.of (by decide +kernel) rfl rfl (Nat.le_of_ble_eq_true rfl) ?_
  show Ev mX6_done 1 24 jW 0 [(0, .ref 0), (1, .int x1), (2, .int x2), (3, .int x3), (4, .int x4)] [] σ (fn_X6_done x1 x2 x3 x4 σ)
  unfold fn_X6_done
  refine ev_iload_n (pc := 0) (i := 1) 1 dX6_done_0 rfl rfl ?_
  refine ev_sipush (pc := 1) (v := 200) dX6_done_1 (by decide) ?_
  refine ev_sI (pc := 4) (as := [.int x1, .int 200]) (rest := []) ⟨83, ms_X6_isBelow, ag_ml_X6_83, rfl, (Nat.le_of_ble_eq_true rfl), ⟨(Nat.le_of_ble_eq_true rfl), (Nat.le_of_ble_eq_true rfl)⟩, dX6_done_4⟩ (im_X6_isBelow x1 200 σ) (fun q145 => ?_)
  refine ev_if_eq (pc := 7) (tgt := 37) dX6_done_7 rfl ?_ ?_
  · refine ev_bipush (pc := 37) (v := (-2)) dX6_done_37 (by decide) ?_
    exact ev_irW rfl dX6_done_39
  · refine ev_iload_n (pc := 10) (i := 2) 2 dX6_done_10 rfl rfl ?_
    refine ev_bipush (pc := 11) (v := 10) dX6_done_11 (by decide) ?_
    refine ev_sI (pc := 13) (as := [.int x2, .int 10]) (rest := []) ⟨83, ms_X6_isBelow, ag_ml_X6_83, rfl, (Nat.le_of_ble_eq_true rfl), ⟨(Nat.le_of_ble_eq_true rfl), (Nat.le_of_ble_eq_true rfl)⟩, dX6_done_13⟩ (im_X6_isBelow x2 10 σ) (fun q146 => ?_)
    refine ev_if_eq (pc := 16) (tgt := 37) dX6_done_16 rfl ?_ ?_
    · refine ev_bipush (pc := 37) (v := (-2)) dX6_done_37 (by decide) ?_
      exact ev_irW rfl dX6_done_39
    · refine ev_iload_n (pc := 19) (i := 3) 3 dX6_done_19 rfl rfl ?_
      refine ev_bipush (pc := 20) (v := 8) dX6_done_20 (by decide) ?_
      refine ev_sI (pc := 22) (as := [.int x3, .int 8]) (rest := []) ⟨83, ms_X6_isBelow, ag_ml_X6_83, rfl, (Nat.le_of_ble_eq_true rfl), ⟨(Nat.le_of_ble_eq_true rfl), (Nat.le_of_ble_eq_true rfl)⟩, dX6_done_22⟩ (im_X6_isBelow x3 8 σ) (fun q147 => ?_)
      refine ev_if_eq (pc := 25) (tgt := 37) dX6_done_25 rfl ?_ ?_
      · refine ev_bipush (pc := 37) (v := (-2)) dX6_done_37 (by decide) ?_
        exact ev_irW rfl dX6_done_39
      · refine ev_iload (pc := 28) 4 dX6_done_28 rfl ?_
        refine ev_iconst (pc := 30) (v := 2) dX6_done_30 (by decide) ?_
        refine ev_sI (pc := 31) (as := [.int x4, .int 2]) (rest := []) ⟨83, ms_X6_isBelow, ag_ml_X6_83, rfl, (Nat.le_of_ble_eq_true rfl), ⟨(Nat.le_of_ble_eq_true rfl), (Nat.le_of_ble_eq_true rfl)⟩, dX6_done_31⟩ (im_X6_isBelow x4 2 σ) (fun q148 => ?_)
        refine ev_if_ne (pc := 34) (tgt := 40) dX6_done_34 rfl ?_ ?_
        · refine ev_bipush (pc := 37) (v := (-2)) dX6_done_37 (by decide) ?_
          exact ev_irW rfl dX6_done_39
        · refine ev_aload_n (pc := 40) (i := 0) 0 dX6_done_40 rfl rfl ?_
          refine ev_getR (pc := 41) (t := 39) 5 ag_C6 (rfl) (by decide) (Nat.le_of_ble_eq_true rfl) rfl rfl ag_fl_X6_39 dX6_done_41 ?_
          refine ev_getI (pc := 44) 0 ag_C0 (rfl) (by decide) (Nat.le_of_ble_eq_true rfl) rfl rfl ag_fl_X6_215 dX6_done_44 ?_
          refine ev_bipush (pc := 47) (v := 8) dX6_done_47 (by decide) ?_
          refine ev_icmp_lt (pc := 49) (tgt := 55) dX6_done_49 rfl ?_ ?_
          · refine ev_aload_n (pc := 55) (i := 0) 0 dX6_done_55 rfl rfl ?_
            refine ev_getR (pc := 56) (t := 39) 5 ag_C6 (rfl) (by decide) (Nat.le_of_ble_eq_true rfl) rfl rfl ag_fl_X6_39 dX6_done_56 ?_
            refine ev_iload_n (pc := 59) (i := 1) 1 dX6_done_59 rfl rfl ?_
            refine ev_iload_n (pc := 60) (i := 2) 2 dX6_done_60 rfl rfl ?_
            refine ev_iload_n (pc := 61) (i := 3) 3 dX6_done_61 rfl rfl ?_
            refine ev_iload (pc := 62) 4 dX6_done_62 rfl ?_
            refine ev_vV (pc := 64) (as := [.int x1, .int x2, .int x3, .int x4]) (rest := []) ⟨0, 216, 5, TX0, tyX0, ag_C0, ⟨(rfl), (by decide)⟩, mv_X0_addOne, ag_ml_X6_216, rfl, (Nat.le_of_ble_eq_true rfl), ⟨(Nat.le_of_ble_eq_true rfl), (Nat.le_of_ble_eq_true rfl)⟩, dX6_done_64⟩ (im_X0_addOne x1 x2 x3 x4 σ) (fun q149 => ?_)
            refine ev_aload_n (pc := 67) (i := 0) 0 dX6_done_67 rfl rfl ?_
            refine ev_getR (pc := 68) (t := 39) 5 ag_C6 (rfl) (by decide) (Nat.le_of_ble_eq_true rfl) rfl rfl ag_fl_X6_39 dX6_done_68 ?_
            refine ev_getI (pc := 71) 0 ag_C0 (rfl) (by decide) (Nat.le_of_ble_eq_true rfl) rfl rfl ag_fl_X6_215 dX6_done_71 ?_
            exact ev_irW rfl dX6_done_74
          · refine ev_bipush (pc := 52) (v := (-4)) dX6_done_52 (by decide) ?_
            exact ev_irW rfl dX6_done_54
-- X6_forget
def mX6_forget : Md := (RX6, cX6_forget, 2, some .int, none)
theorem mv_X6_forget : ag_Mv yX6_forget mX6_forget 0 := ⟨ag_co_X6_forget, ag_im_X6_forget, ag_se_X6_forget, ag_ini_X6, by decide +kernel⟩
theorem dX6_forget_0 : decode mX6_forget.2.1 0 = .ok (.aload_n 0, 1) := by decide +kernel
theorem dX6_forget_1 : decode mX6_forget.2.1 1 = .ok (.getfield 39, 3) := by decide +kernel
theorem dX6_forget_4 : decode mX6_forget.2.1 4 = .ok (.getfield 215, 3) := by decide +kernel
theorem dX6_forget_7 : decode mX6_forget.2.1 7 = .ok (.istore_n 1, 1) := by decide +kernel
theorem dX6_forget_8 : decode mX6_forget.2.1 8 = .ok (.aload_n 0, 1) := by decide +kernel
theorem dX6_forget_9 : decode mX6_forget.2.1 9 = .ok (.getfield 39, 3) := by decide +kernel
theorem dX6_forget_12 : decode mX6_forget.2.1 12 = .ok (.iconst 0, 1) := by decide +kernel
theorem dX6_forget_13 : decode mX6_forget.2.1 13 = .ok (.putfield 215, 3) := by decide +kernel
theorem dX6_forget_16 : decode mX6_forget.2.1 16 = .ok (.iload_n 1, 1) := by decide +kernel
theorem dX6_forget_17 : decode mX6_forget.2.1 17 = .ok (.ireturn, 1) := by decide +kernel
def fn_X6_forget  (σ : Sg) : Option (Int32 × Sg) :=
  (some ((σ 39 0), (ag_up σ 39 0 0)))
set_option maxRecDepth 20000 in
set_option maxHeartbeats 4000000 in
theorem im_X6_forget  (σ : Sg) : Im yX6_forget mX6_forget 0 0 jW [.ref 0] σ (fn_X6_forget  σ) := by
  refine Im.of (by decide +kernel) rfl rfl (Nat.le_of_ble_eq_true rfl) ?_
  show Ev mX6_forget 0 0 jW 0 [(0, .ref 0)] [] σ (fn_X6_forget  σ)
  unfold fn_X6_forget
  refine ev_aload_n (pc := 0) (i := 0) 0 dX6_forget_0 rfl rfl ?_
  refine ev_getR (pc := 1) (t := 39) 5 ag_C6 (rfl) (by decide) (Nat.le_of_ble_eq_true rfl) rfl rfl ag_fl_X6_39 dX6_forget_1 ?_
  refine ev_getI (pc := 4) 0 ag_C0 (rfl) (by decide) (Nat.le_of_ble_eq_true rfl) rfl rfl ag_fl_X6_215 dX6_forget_4 ?_
  refine ev_istore_n (pc := 7) (i := 1) (lv' := [(1, .int (σ 39 0)), (0, .ref 0)]) dX6_forget_7 rfl (Nat.le_of_ble_eq_true rfl) rfl ?_
  refine ev_aload_n (pc := 8) (i := 0) 1 dX6_forget_8 rfl rfl ?_
  refine ev_getR (pc := 9) (t := 39) 5 ag_C6 (rfl) (by decide) (Nat.le_of_ble_eq_true rfl) rfl rfl ag_fl_X6_39 dX6_forget_9 ?_
  refine ev_iconst (pc := 12) (v := 0) dX6_forget_12 (by decide) ?_
  refine ev_put (pc := 13) 0 ag_C0 (rfl) (by decide) (Nat.le_of_ble_eq_true rfl) rfl rfl ag_fl_X6_215 rfl rfl rfl dX6_forget_13 ?_
  refine ev_iload_n (pc := 16) (i := 1) 0 dX6_forget_16 rfl rfl ?_
  exact ev_irW rfl dX6_forget_17
-- X6_said
def mX6_said : Md := (RX6, cX6_said, 4, some .int, none)
theorem mv_X6_said : ag_Mv yX6_said mX6_said 1 := ⟨ag_co_X6_said, ag_im_X6_said, ag_se_X6_said, ag_ini_X6, by decide +kernel⟩
theorem dX6_said_0 : decode mX6_said.2.1 0 = .ok (.iload_n 1, 1) := by decide +kernel
theorem dX6_said_1 : decode mX6_said.2.1 1 = .ok (.aload_n 0, 1) := by decide +kernel
theorem dX6_said_2 : decode mX6_said.2.1 2 = .ok (.getfield 35, 3) := by decide +kernel
theorem dX6_said_5 : decode mX6_said.2.1 5 = .ok (.getfield 97, 3) := by decide +kernel
theorem dX6_said_8 : decode mX6_said.2.1 8 = .ok (.invokestatic 83, 3) := by decide +kernel
theorem dX6_said_11 : decode mX6_said.2.1 11 = .ok (.ifCond .ne 6, 3) := by decide +kernel
theorem dX6_said_14 : decode mX6_said.2.1 14 = .ok (.bipush (-2), 2) := by decide +kernel
theorem dX6_said_16 : decode mX6_said.2.1 16 = .ok (.ireturn, 1) := by decide +kernel
theorem dX6_said_17 : decode mX6_said.2.1 17 = .ok (.iconst 0, 1) := by decide +kernel
theorem dX6_said_18 : decode mX6_said.2.1 18 = .ok (.istore_n 2, 1) := by decide +kernel
theorem dX6_said_19 : decode mX6_said.2.1 19 = .ok (.aload_n 0, 1) := by decide +kernel
theorem dX6_said_20 : decode mX6_said.2.1 20 = .ok (.getfield 23, 3) := by decide +kernel
theorem dX6_said_23 : decode mX6_said.2.1 23 = .ok (.aload_n 0, 1) := by decide +kernel
theorem dX6_said_24 : decode mX6_said.2.1 24 = .ok (.getfield 19, 3) := by decide +kernel
theorem dX6_said_27 : decode mX6_said.2.1 27 = .ok (.invokevirtual 159, 3) := by decide +kernel
theorem dX6_said_30 : decode mX6_said.2.1 30 = .ok (.iconst 0, 1) := by decide +kernel
theorem dX6_said_31 : decode mX6_said.2.1 31 = .ok (.istore_n 3, 1) := by decide +kernel
theorem dX6_said_32 : decode mX6_said.2.1 32 = .ok (.iload_n 3, 1) := by decide +kernel
theorem dX6_said_33 : decode mX6_said.2.1 33 = .ok (.bipush 8, 2) := by decide +kernel
theorem dX6_said_35 : decode mX6_said.2.1 35 = .ok (.if_icmp .ge 49, 3) := by decide +kernel
theorem dX6_said_38 : decode mX6_said.2.1 38 = .ok (.aload_n 0, 1) := by decide +kernel
theorem dX6_said_39 : decode mX6_said.2.1 39 = .ok (.getfield 23, 3) := by decide +kernel
theorem dX6_said_42 : decode mX6_said.2.1 42 = .ok (.getfield 31, 3) := by decide +kernel
theorem dX6_said_45 : decode mX6_said.2.1 45 = .ok (.getfield 220, 3) := by decide +kernel
theorem dX6_said_48 : decode mX6_said.2.1 48 = .ok (.iload_n 1, 1) := by decide +kernel
theorem dX6_said_49 : decode mX6_said.2.1 49 = .ok (.iload_n 3, 1) := by decide +kernel
theorem dX6_said_50 : decode mX6_said.2.1 50 = .ok (.iastore, 1) := by decide +kernel
theorem dX6_said_51 : decode mX6_said.2.1 51 = .ok (.aload_n 0, 1) := by decide +kernel
theorem dX6_said_52 : decode mX6_said.2.1 52 = .ok (.getfield 23, 3) := by decide +kernel
theorem dX6_said_55 : decode mX6_said.2.1 55 = .ok (.invokevirtual 90, 3) := by decide +kernel
theorem dX6_said_58 : decode mX6_said.2.1 58 = .ok (.aload_n 0, 1) := by decide +kernel
theorem dX6_said_59 : decode mX6_said.2.1 59 = .ok (.getfield 39, 3) := by decide +kernel
theorem dX6_said_62 : decode mX6_said.2.1 62 = .ok (.aload_n 0, 1) := by decide +kernel
theorem dX6_said_63 : decode mX6_said.2.1 63 = .ok (.getfield 23, 3) := by decide +kernel
theorem dX6_said_66 : decode mX6_said.2.1 66 = .ok (.invokevirtual 223, 3) := by decide +kernel
theorem dX6_said_69 : decode mX6_said.2.1 69 = .ok (.ifCond .eq 9, 3) := by decide +kernel
theorem dX6_said_72 : decode mX6_said.2.1 72 = .ok (.iload_n 2, 1) := by decide +kernel
theorem dX6_said_73 : decode mX6_said.2.1 73 = .ok (.iconst 1, 1) := by decide +kernel
theorem dX6_said_74 : decode mX6_said.2.1 74 = .ok (.iload_n 3, 1) := by decide +kernel
theorem dX6_said_75 : decode mX6_said.2.1 75 = .ok (.ishl, 1) := by decide +kernel
theorem dX6_said_76 : decode mX6_said.2.1 76 = .ok (.ior, 1) := by decide +kernel
theorem dX6_said_77 : decode mX6_said.2.1 77 = .ok (.istore_n 2, 1) := by decide +kernel
theorem dX6_said_78 : decode mX6_said.2.1 78 = .ok (.iinc 3 1, 3) := by decide +kernel
theorem dX6_said_81 : decode mX6_said.2.1 81 = .ok (.goto (-49), 3) := by decide +kernel
theorem dX6_said_84 : decode mX6_said.2.1 84 = .ok (.iload_n 2, 1) := by decide +kernel
theorem dX6_said_85 : decode mX6_said.2.1 85 = .ok (.ireturn, 1) := by decide +kernel
def fn_X6_said_b78 (n : Nat) (x1 : Int32) (k32 : Int32 → Int32 → Sg → Option (Int32 × Sg)) (v2 : Int32) (v3 : Int32) (σ : Sg) : Option (Int32 × Sg) :=
  (k32 v2 (v3 + 1) σ)
set_option maxRecDepth 20000 in
set_option maxHeartbeats 4000000 in
theorem ev_X6_said_b78 (n : Nat) (x1 : Int32) (k32 : Int32 → Int32 → Sg → Option (Int32 × Sg)) (hk32 : ∀ (v2 : Int32) (v3 : Int32) (σ : Sg), Ev mX6_said 4 102 jW 32 [(0, .ref 0), (1, .int x1), (2, .int v2), (3, .int v3)] [] σ (k32 v2 v3 σ)) (v2 : Int32) (v3 : Int32) (σ : Sg) : Ev mX6_said 4 102 jW 78 [(0, .ref 0), (1, .int x1), (2, .int v2), (3, .int v3)] [] σ (fn_X6_said_b78 n x1 k32 v2 v3 σ) := by
  unfold fn_X6_said_b78
  refine ev_iinc (pc := 78) (v := (v3 + 1)) (lv' := [(3, .int (v3 + 1)), (0, .ref 0), (1, .int x1), (2, .int v2)]) 3 dX6_said_78 rfl rfl (Nat.le_of_ble_eq_true rfl) rfl ?_
  refine ev_goto (pc := 81) (tgt := 32) dX6_said_81 rfl ?_
  refine ev_sub [1, 2, 3, 0] rfl ?_
  exact hk32 v2 (v3 + 1) σ
def fn_X6_said_b32 (n : Nat) (x1 : Int32)  : Nat → Int32 → Int32 → Sg → Option (Int32 × Sg)
  | 0 => fun _ _ _ => none
  | i + 1 => fun v2 v3 σ =>
  (if 8 ≤ v3 then (some (v2, σ))
  else (if ag_ib x1 13 = true then (Option.bind (fn_X5_live n 21 (ag_up σ 32 x1.toNatClampNeg v3)) fun q150 =>
  (Option.bind (fn_X0_cameOutIn n 21 q150) fun q151 =>
  (if q151 = 0 then (fn_X6_said_b78 n x1 (fn_X6_said_b32 n x1 i) v2 v3 q150)
  else (fn_X6_said_b78 n x1 (fn_X6_said_b32 n x1 i) (v2 ||| (1 <<< (v3 &&& 31))) v3 q150)))) else none))
theorem fn_X6_said_b32_s (n : Nat) (x1 : Int32)  (i : Nat) (v2 : Int32) (v3 : Int32) (σ : Sg) : fn_X6_said_b32 n x1 (i + 1) v2 v3 σ =
  (if 8 ≤ v3 then (some (v2, σ))
  else (if ag_ib x1 13 = true then (Option.bind (fn_X5_live n 21 (ag_up σ 32 x1.toNatClampNeg v3)) fun q150 =>
  (Option.bind (fn_X0_cameOutIn n 21 q150) fun q151 =>
  (if q151 = 0 then (fn_X6_said_b78 n x1 (fn_X6_said_b32 n x1 i) v2 v3 q150)
  else (fn_X6_said_b78 n x1 (fn_X6_said_b32 n x1 i) (v2 ||| (1 <<< (v3 &&& 31))) v3 q150)))) else none)) := rfl
set_option maxRecDepth 20000 in
set_option maxHeartbeats 4000000 in
theorem ev_X6_said_b32 (n : Nat) (x1 : Int32)  : ∀ (i : Nat) (v2 : Int32) (v3 : Int32) (σ : Sg), Ev mX6_said 4 102 jW 32 [(0, .ref 0), (1, .int x1), (2, .int v2), (3, .int v3)] [] σ (fn_X6_said_b32 n x1 i v2 v3 σ) := by
  intro i
  induction i with
  | zero =>
    intro v2 v3 σ
    exact ev_none
  | succ i ih =>
    intro v2 v3 σ
    rw [fn_X6_said_b32_s]
    refine ev_iload_n (pc := 32) (i := 3) 3 dX6_said_32 rfl rfl ?_
    refine ev_bipush (pc := 33) (v := 8) dX6_said_33 (by decide) ?_
    refine ev_icmp_ge (pc := 35) (tgt := 84) dX6_said_35 rfl ?_ ?_
    · refine ev_iload_n (pc := 84) (i := 2) 2 dX6_said_84 rfl rfl ?_
      exact ev_irW rfl dX6_said_85
    · refine ev_aload_n (pc := 38) (i := 0) 0 dX6_said_38 rfl rfl ?_
      refine ev_getR (pc := 39) (t := 21) 2 ag_C6 (rfl) (by decide) (Nat.le_of_ble_eq_true rfl) rfl rfl ag_fl_X6_23 dX6_said_39 ?_
      refine ev_getR (pc := 42) (t := 28) 1 ag_C5 (rfl) (by decide) (Nat.le_of_ble_eq_true rfl) rfl rfl ag_fl_X6_31 dX6_said_42 ?_
      refine ev_getR (pc := 45) (t := 32) 4 ag_C2 (rfl) (by decide) (Nat.le_of_ble_eq_true rfl) rfl rfl ag_fl_X6_220 dX6_said_45 ?_
      refine ev_iload_n (pc := 48) (i := 1) 1 dX6_said_48 rfl rfl ?_
      refine ev_iload_n (pc := 49) (i := 3) 3 dX6_said_49 rfl rfl ?_
      refine ev_iast (pc := 50) (rfl) (by decide) dX6_said_50 ?_
      refine ev_aload_n (pc := 51) (i := 0) 0 dX6_said_51 rfl rfl ?_
      refine ev_getR (pc := 52) (t := 21) 2 ag_C6 (rfl) (by decide) (Nat.le_of_ble_eq_true rfl) rfl rfl ag_fl_X6_23 dX6_said_52 ?_
      refine ev_vV (pc := 55) (as := []) (rest := []) ⟨5, 90, 10, TX5, tyX5, ag_C5, ⟨(rfl), (by decide)⟩, mv_X5_live, ag_ml_X6_90, rfl, (Nat.le_of_ble_eq_true rfl), ⟨(Nat.le_of_ble_eq_true rfl), (Nat.le_of_ble_eq_true rfl)⟩, dX6_said_55⟩ (im_X5_live n 21 (Or.inr rfl) (ag_up σ 32 x1.toNatClampNeg v3)) (fun q150 => ?_)
      refine ev_aload_n (pc := 58) (i := 0) 0 dX6_said_58 rfl rfl ?_
      refine ev_getR (pc := 59) (t := 39) 5 ag_C6 (rfl) (by decide) (Nat.le_of_ble_eq_true rfl) rfl rfl ag_fl_X6_39 dX6_said_59 ?_
      refine ev_aload_n (pc := 62) (i := 0) 0 dX6_said_62 rfl rfl ?_
      refine ev_getR (pc := 63) (t := 21) 2 ag_C6 (rfl) (by decide) (Nat.le_of_ble_eq_true rfl) rfl rfl ag_fl_X6_23 dX6_said_63 ?_
      refine ev_vI (pc := 66) (as := [.ref 21]) (rest := []) ⟨0, 223, 5, TX0, tyX0, ag_C0, ⟨(rfl), (by decide)⟩, mv_X0_cameOutIn, ag_ml_X6_223, rfl, (Nat.le_of_ble_eq_true rfl), ⟨(Nat.le_of_ble_eq_true rfl), (Nat.le_of_ble_eq_true rfl)⟩, dX6_said_66⟩ (im_X0_cameOutIn n 21 (Or.inr rfl) q150) (fun q151 => ?_)
      refine ev_if_eq (pc := 69) (tgt := 78) dX6_said_69 rfl ?_ ?_
      · exact ev_X6_said_b78 n x1 (fn_X6_said_b32 n x1 i) ih v2 v3 q150
      · refine ev_iload_n (pc := 72) (i := 2) 2 dX6_said_72 rfl rfl ?_
        refine ev_iconst (pc := 73) (v := 1) dX6_said_73 (by decide) ?_
        refine ev_iload_n (pc := 74) (i := 3) 3 dX6_said_74 rfl rfl ?_
        refine ev_ishl (pc := 75) dX6_said_75 ?_
        refine ev_ior (pc := 76) dX6_said_76 ?_
        refine ev_istore_n (pc := 77) (i := 2) (lv' := [(2, .int (v2 ||| (1 <<< (v3 &&& 31)))), (0, .ref 0), (1, .int x1), (3, .int v3)]) dX6_said_77 rfl (Nat.le_of_ble_eq_true rfl) rfl ?_
        refine ev_sub [1, 2, 0, 3] rfl ?_
        exact ev_X6_said_b78 n x1 (fn_X6_said_b32 n x1 i) ih (v2 ||| (1 <<< (v3 &&& 31))) v3 q150
def fn_X6_said (n : Nat) (x1 : Int32) (σ : Sg) : Option (Int32 × Sg) :=
  (Option.bind (fn_X6_isBelow x1 (σ 10 0) σ) fun q152 =>
  (if q152 = 0 then (some ((-2), σ))
  else (Option.bind (fn_X5_takeFrom 21 3 σ) fun q153 =>
  (fn_X6_said_b32 n x1 n 0 0 q153))))
set_option maxRecDepth 20000 in
set_option maxHeartbeats 4000000 in
theorem im_X6_said (n : Nat) (x1 : Int32) (σ : Sg) : Im yX6_said mX6_said 4 102 jW [.ref 0, .int x1] σ (fn_X6_said n x1 σ) := by
  refine Im.of (by decide +kernel) rfl rfl (Nat.le_of_ble_eq_true rfl) ?_
  show Ev mX6_said 4 102 jW 0 [(0, .ref 0), (1, .int x1)] [] σ (fn_X6_said n x1 σ)
  unfold fn_X6_said
  refine ev_iload_n (pc := 0) (i := 1) 1 dX6_said_0 rfl rfl ?_
  refine ev_aload_n (pc := 1) (i := 0) 0 dX6_said_1 rfl rfl ?_
  refine ev_getR (pc := 2) (t := 10) 4 ag_C6 (rfl) (by decide) (Nat.le_of_ble_eq_true rfl) rfl rfl ag_fl_X6_35 dX6_said_2 ?_
  refine ev_getI (pc := 5) 0 ag_C2 (rfl) (by decide) (Nat.le_of_ble_eq_true rfl) rfl rfl ag_fl_X6_97 dX6_said_5 ?_
  refine ev_sI (pc := 8) (as := [.int x1, .int (σ 10 0)]) (rest := []) ⟨83, ms_X6_isBelow, ag_ml_X6_83, rfl, (Nat.le_of_ble_eq_true rfl), ⟨(Nat.le_of_ble_eq_true rfl), (Nat.le_of_ble_eq_true rfl)⟩, dX6_said_8⟩ (im_X6_isBelow x1 (σ 10 0) σ) (fun q152 => ?_)
  refine ev_if_ne (pc := 11) (tgt := 17) dX6_said_11 rfl ?_ ?_
  · refine ev_bipush (pc := 14) (v := (-2)) dX6_said_14 (by decide) ?_
    exact ev_irW rfl dX6_said_16
  · refine ev_iconst (pc := 17) (v := 0) dX6_said_17 (by decide) ?_
    refine ev_istore_n (pc := 18) (i := 2) (lv' := [(2, .int 0), (0, .ref 0), (1, .int x1)]) dX6_said_18 rfl (Nat.le_of_ble_eq_true rfl) rfl ?_
    refine ev_aload_n (pc := 19) (i := 0) 1 dX6_said_19 rfl rfl ?_
    refine ev_getR (pc := 20) (t := 21) 2 ag_C6 (rfl) (by decide) (Nat.le_of_ble_eq_true rfl) rfl rfl ag_fl_X6_23 dX6_said_20 ?_
    refine ev_aload_n (pc := 23) (i := 0) 1 dX6_said_23 rfl rfl ?_
    refine ev_getR (pc := 24) (t := 3) 1 ag_C6 (rfl) (by decide) (Nat.le_of_ble_eq_true rfl) rfl rfl ag_fl_X6_19 dX6_said_24 ?_
    refine ev_vV (pc := 27) (as := [.ref 3]) (rest := []) ⟨5, 159, 10, TX5, tyX5, ag_C5, ⟨(rfl), (by decide)⟩, mv_X5_takeFrom, ag_ml_X6_159, rfl, (Nat.le_of_ble_eq_true rfl), ⟨(Nat.le_of_ble_eq_true rfl), (Nat.le_of_ble_eq_true rfl)⟩, dX6_said_27⟩ (im_X5_takeFrom 21 (Or.inr rfl) 3 (Or.inl rfl) σ) (fun q153 => ?_)
    refine ev_iconst (pc := 30) (v := 0) dX6_said_30 (by decide) ?_
    refine ev_istore_n (pc := 31) (i := 3) (lv' := [(3, .int 0), (2, .int 0), (0, .ref 0), (1, .int x1)]) dX6_said_31 rfl (Nat.le_of_ble_eq_true rfl) rfl ?_
    refine ev_sub [2, 3, 1, 0] rfl ?_
    exact ev_X6_said_b32 n x1 n 0 0 q153
-- X6_forged
def mX6_forged : Md := (RX6, cX6_forged, 3, some .int, none)
theorem mv_X6_forged : ag_Mv yX6_forged mX6_forged 0 := ⟨ag_co_X6_forged, ag_im_X6_forged, ag_se_X6_forged, ag_ini_X6, by decide +kernel⟩
theorem dX6_forged_0 : decode mX6_forged.2.1 0 = .ok (.iconst 0, 1) := by decide +kernel
theorem dX6_forged_1 : decode mX6_forged.2.1 1 = .ok (.istore_n 1, 1) := by decide +kernel
theorem dX6_forged_2 : decode mX6_forged.2.1 2 = .ok (.aload_n 0, 1) := by decide +kernel
theorem dX6_forged_3 : decode mX6_forged.2.1 3 = .ok (.getfield 23, 3) := by decide +kernel
theorem dX6_forged_6 : decode mX6_forged.2.1 6 = .ok (.aload_n 0, 1) := by decide +kernel
theorem dX6_forged_7 : decode mX6_forged.2.1 7 = .ok (.getfield 19, 3) := by decide +kernel
theorem dX6_forged_10 : decode mX6_forged.2.1 10 = .ok (.invokevirtual 159, 3) := by decide +kernel
theorem dX6_forged_13 : decode mX6_forged.2.1 13 = .ok (.aload_n 0, 1) := by decide +kernel
theorem dX6_forged_14 : decode mX6_forged.2.1 14 = .ok (.getfield 23, 3) := by decide +kernel
theorem dX6_forged_17 : decode mX6_forged.2.1 17 = .ok (.getfield 26, 3) := by decide +kernel
theorem dX6_forged_20 : decode mX6_forged.2.1 20 = .ok (.getfield 227, 3) := by decide +kernel
theorem dX6_forged_23 : decode mX6_forged.2.1 23 = .ok (.iconst 0, 1) := by decide +kernel
theorem dX6_forged_24 : decode mX6_forged.2.1 24 = .ok (.invokestatic 230, 3) := by decide +kernel
theorem dX6_forged_27 : decode mX6_forged.2.1 27 = .ok (.iconst 0, 1) := by decide +kernel
theorem dX6_forged_28 : decode mX6_forged.2.1 28 = .ok (.istore_n 2, 1) := by decide +kernel
theorem dX6_forged_29 : decode mX6_forged.2.1 29 = .ok (.iload_n 2, 1) := by decide +kernel
theorem dX6_forged_30 : decode mX6_forged.2.1 30 = .ok (.aload_n 0, 1) := by decide +kernel
theorem dX6_forged_31 : decode mX6_forged.2.1 31 = .ok (.getfield 30, 3) := by decide +kernel
theorem dX6_forged_34 : decode mX6_forged.2.1 34 = .ok (.getfield 172, 3) := by decide +kernel
theorem dX6_forged_37 : decode mX6_forged.2.1 37 = .ok (.if_icmp .ge 62, 3) := by decide +kernel
theorem dX6_forged_40 : decode mX6_forged.2.1 40 = .ok (.aload_n 0, 1) := by decide +kernel
theorem dX6_forged_41 : decode mX6_forged.2.1 41 = .ok (.getfield 23, 3) := by decide +kernel
theorem dX6_forged_44 : decode mX6_forged.2.1 44 = .ok (.getfield 26, 3) := by decide +kernel
theorem dX6_forged_47 : decode mX6_forged.2.1 47 = .ok (.getfield 227, 3) := by decide +kernel
theorem dX6_forged_50 : decode mX6_forged.2.1 50 = .ok (.iload_n 2, 1) := by decide +kernel
theorem dX6_forged_51 : decode mX6_forged.2.1 51 = .ok (.iconst 5, 1) := by decide +kernel
theorem dX6_forged_52 : decode mX6_forged.2.1 52 = .ok (.iastore, 1) := by decide +kernel
theorem dX6_forged_53 : decode mX6_forged.2.1 53 = .ok (.aload_n 0, 1) := by decide +kernel
theorem dX6_forged_54 : decode mX6_forged.2.1 54 = .ok (.getfield 23, 3) := by decide +kernel
theorem dX6_forged_57 : decode mX6_forged.2.1 57 = .ok (.invokevirtual 90, 3) := by decide +kernel
theorem dX6_forged_60 : decode mX6_forged.2.1 60 = .ok (.aload_n 0, 1) := by decide +kernel
theorem dX6_forged_61 : decode mX6_forged.2.1 61 = .ok (.getfield 23, 3) := by decide +kernel
theorem dX6_forged_64 : decode mX6_forged.2.1 64 = .ok (.getfield 26, 3) := by decide +kernel
theorem dX6_forged_67 : decode mX6_forged.2.1 67 = .ok (.getfield 227, 3) := by decide +kernel
theorem dX6_forged_70 : decode mX6_forged.2.1 70 = .ok (.iload_n 2, 1) := by decide +kernel
theorem dX6_forged_71 : decode mX6_forged.2.1 71 = .ok (.iconst 0, 1) := by decide +kernel
theorem dX6_forged_72 : decode mX6_forged.2.1 72 = .ok (.iastore, 1) := by decide +kernel
theorem dX6_forged_73 : decode mX6_forged.2.1 73 = .ok (.aload_n 0, 1) := by decide +kernel
theorem dX6_forged_74 : decode mX6_forged.2.1 74 = .ok (.getfield 39, 3) := by decide +kernel
theorem dX6_forged_77 : decode mX6_forged.2.1 77 = .ok (.aload_n 0, 1) := by decide +kernel
theorem dX6_forged_78 : decode mX6_forged.2.1 78 = .ok (.getfield 23, 3) := by decide +kernel
theorem dX6_forged_81 : decode mX6_forged.2.1 81 = .ok (.invokevirtual 223, 3) := by decide +kernel
theorem dX6_forged_84 : decode mX6_forged.2.1 84 = .ok (.ifCond .eq 9, 3) := by decide +kernel
theorem dX6_forged_87 : decode mX6_forged.2.1 87 = .ok (.iload_n 1, 1) := by decide +kernel
theorem dX6_forged_88 : decode mX6_forged.2.1 88 = .ok (.iconst 1, 1) := by decide +kernel
theorem dX6_forged_89 : decode mX6_forged.2.1 89 = .ok (.iload_n 2, 1) := by decide +kernel
theorem dX6_forged_90 : decode mX6_forged.2.1 90 = .ok (.ishl, 1) := by decide +kernel
theorem dX6_forged_91 : decode mX6_forged.2.1 91 = .ok (.ior, 1) := by decide +kernel
theorem dX6_forged_92 : decode mX6_forged.2.1 92 = .ok (.istore_n 1, 1) := by decide +kernel
theorem dX6_forged_93 : decode mX6_forged.2.1 93 = .ok (.iinc 2 1, 3) := by decide +kernel
theorem dX6_forged_96 : decode mX6_forged.2.1 96 = .ok (.goto (-67), 3) := by decide +kernel
theorem dX6_forged_99 : decode mX6_forged.2.1 99 = .ok (.aload_n 0, 1) := by decide +kernel
theorem dX6_forged_100 : decode mX6_forged.2.1 100 = .ok (.getfield 23, 3) := by decide +kernel
theorem dX6_forged_103 : decode mX6_forged.2.1 103 = .ok (.invokevirtual 90, 3) := by decide +kernel
theorem dX6_forged_106 : decode mX6_forged.2.1 106 = .ok (.aload_n 0, 1) := by decide +kernel
theorem dX6_forged_107 : decode mX6_forged.2.1 107 = .ok (.getfield 39, 3) := by decide +kernel
theorem dX6_forged_110 : decode mX6_forged.2.1 110 = .ok (.aload_n 0, 1) := by decide +kernel
theorem dX6_forged_111 : decode mX6_forged.2.1 111 = .ok (.getfield 23, 3) := by decide +kernel
theorem dX6_forged_114 : decode mX6_forged.2.1 114 = .ok (.invokevirtual 223, 3) := by decide +kernel
theorem dX6_forged_117 : decode mX6_forged.2.1 117 = .ok (.ifCond .eq 11, 3) := by decide +kernel
theorem dX6_forged_120 : decode mX6_forged.2.1 120 = .ok (.iload_n 1, 1) := by decide +kernel
theorem dX6_forged_121 : decode mX6_forged.2.1 121 = .ok (.sipush 1024, 3) := by decide +kernel
theorem dX6_forged_124 : decode mX6_forged.2.1 124 = .ok (.ior, 1) := by decide +kernel
theorem dX6_forged_125 : decode mX6_forged.2.1 125 = .ok (.goto 4, 3) := by decide +kernel
theorem dX6_forged_128 : decode mX6_forged.2.1 128 = .ok (.iload_n 1, 1) := by decide +kernel
theorem dX6_forged_129 : decode mX6_forged.2.1 129 = .ok (.ireturn, 1) := by decide +kernel
def fn_X6_forged_b93 (n : Nat)  (k29 : Int32 → Int32 → Sg → Option (Int32 × Sg)) (v1 : Int32) (v2 : Int32) (σ : Sg) : Option (Int32 × Sg) :=
  (k29 v1 (v2 + 1) σ)
set_option maxRecDepth 20000 in
set_option maxHeartbeats 4000000 in
theorem ev_X6_forged_b93 (n : Nat)  (k29 : Int32 → Int32 → Sg → Option (Int32 × Sg)) (hk29 : ∀ (v1 : Int32) (v2 : Int32) (σ : Sg), Ev mX6_forged 4 102 jW 29 [(0, .ref 0), (1, .int v1), (2, .int v2)] [] σ (k29 v1 v2 σ)) (v1 : Int32) (v2 : Int32) (σ : Sg) : Ev mX6_forged 4 102 jW 93 [(0, .ref 0), (1, .int v1), (2, .int v2)] [] σ (fn_X6_forged_b93 n k29 v1 v2 σ) := by
  unfold fn_X6_forged_b93
  refine ev_iinc (pc := 93) (v := (v2 + 1)) (lv' := [(2, .int (v2 + 1)), (0, .ref 0), (1, .int v1)]) 2 dX6_forged_93 rfl rfl (Nat.le_of_ble_eq_true rfl) rfl ?_
  refine ev_goto (pc := 96) (tgt := 29) dX6_forged_96 rfl ?_
  refine ev_sub [1, 2, 0] rfl ?_
  exact hk29 v1 (v2 + 1) σ
def fn_X6_forged_b29 (n : Nat)   : Nat → Int32 → Int32 → Sg → Option (Int32 × Sg)
  | 0 => fun _ _ _ => none
  | i + 1 => fun v1 v2 σ =>
  (if (σ 4 0) ≤ v2 then (Option.bind (fn_X5_live n 21 σ) fun q154 =>
  (Option.bind (fn_X0_cameOutIn n 21 q154) fun q155 =>
  (if q155 = 0 then (some (v1, q154))
  else (some ((v1 ||| 1024), q154)))))
  else (if ag_ib v2 10 = true then (Option.bind (fn_X5_live n 21 (ag_up σ 26 v2.toNatClampNeg 5)) fun q156 =>
  (if ag_ib v2 10 = true then (Option.bind (fn_X0_cameOutIn n 21 (ag_up q156 26 v2.toNatClampNeg 0)) fun q157 =>
  (if q157 = 0 then (fn_X6_forged_b93 n (fn_X6_forged_b29 n i) v1 v2 (ag_up q156 26 v2.toNatClampNeg 0))
  else (fn_X6_forged_b93 n (fn_X6_forged_b29 n i) (v1 ||| (1 <<< (v2 &&& 31))) v2 (ag_up q156 26 v2.toNatClampNeg 0)))) else none)) else none))
theorem fn_X6_forged_b29_s (n : Nat)   (i : Nat) (v1 : Int32) (v2 : Int32) (σ : Sg) : fn_X6_forged_b29 n (i + 1) v1 v2 σ =
  (if (σ 4 0) ≤ v2 then (Option.bind (fn_X5_live n 21 σ) fun q154 =>
  (Option.bind (fn_X0_cameOutIn n 21 q154) fun q155 =>
  (if q155 = 0 then (some (v1, q154))
  else (some ((v1 ||| 1024), q154)))))
  else (if ag_ib v2 10 = true then (Option.bind (fn_X5_live n 21 (ag_up σ 26 v2.toNatClampNeg 5)) fun q156 =>
  (if ag_ib v2 10 = true then (Option.bind (fn_X0_cameOutIn n 21 (ag_up q156 26 v2.toNatClampNeg 0)) fun q157 =>
  (if q157 = 0 then (fn_X6_forged_b93 n (fn_X6_forged_b29 n i) v1 v2 (ag_up q156 26 v2.toNatClampNeg 0))
  else (fn_X6_forged_b93 n (fn_X6_forged_b29 n i) (v1 ||| (1 <<< (v2 &&& 31))) v2 (ag_up q156 26 v2.toNatClampNeg 0)))) else none)) else none)) := rfl
set_option maxRecDepth 20000 in
set_option maxHeartbeats 4000000 in
theorem ev_X6_forged_b29 (n : Nat)   : ∀ (i : Nat) (v1 : Int32) (v2 : Int32) (σ : Sg), Ev mX6_forged 4 102 jW 29 [(0, .ref 0), (1, .int v1), (2, .int v2)] [] σ (fn_X6_forged_b29 n i v1 v2 σ) := by
  intro i
  induction i with
  | zero =>
    intro v1 v2 σ
    exact ev_none
  | succ i ih =>
    intro v1 v2 σ
    rw [fn_X6_forged_b29_s]
    refine ev_iload_n (pc := 29) (i := 2) 2 dX6_forged_29 rfl rfl ?_
    refine ev_aload_n (pc := 30) (i := 0) 0 dX6_forged_30 rfl rfl ?_
    refine ev_getR (pc := 31) (t := 4) 3 ag_C6 (rfl) (by decide) (Nat.le_of_ble_eq_true rfl) rfl rfl ag_fl_X6_30 dX6_forged_31 ?_
    refine ev_getI (pc := 34) 0 ag_C1 (rfl) (by decide) (Nat.le_of_ble_eq_true rfl) rfl rfl ag_fl_X6_172 dX6_forged_34 ?_
    refine ev_icmp_ge (pc := 37) (tgt := 99) dX6_forged_37 rfl ?_ ?_
    · refine ev_aload_n (pc := 99) (i := 0) 0 dX6_forged_99 rfl rfl ?_
      refine ev_getR (pc := 100) (t := 21) 2 ag_C6 (rfl) (by decide) (Nat.le_of_ble_eq_true rfl) rfl rfl ag_fl_X6_23 dX6_forged_100 ?_
      refine ev_vV (pc := 103) (as := []) (rest := []) ⟨5, 90, 10, TX5, tyX5, ag_C5, ⟨(rfl), (by decide)⟩, mv_X5_live, ag_ml_X6_90, rfl, (Nat.le_of_ble_eq_true rfl), ⟨(Nat.le_of_ble_eq_true rfl), (Nat.le_of_ble_eq_true rfl)⟩, dX6_forged_103⟩ (im_X5_live n 21 (Or.inr rfl) σ) (fun q154 => ?_)
      refine ev_aload_n (pc := 106) (i := 0) 0 dX6_forged_106 rfl rfl ?_
      refine ev_getR (pc := 107) (t := 39) 5 ag_C6 (rfl) (by decide) (Nat.le_of_ble_eq_true rfl) rfl rfl ag_fl_X6_39 dX6_forged_107 ?_
      refine ev_aload_n (pc := 110) (i := 0) 0 dX6_forged_110 rfl rfl ?_
      refine ev_getR (pc := 111) (t := 21) 2 ag_C6 (rfl) (by decide) (Nat.le_of_ble_eq_true rfl) rfl rfl ag_fl_X6_23 dX6_forged_111 ?_
      refine ev_vI (pc := 114) (as := [.ref 21]) (rest := []) ⟨0, 223, 5, TX0, tyX0, ag_C0, ⟨(rfl), (by decide)⟩, mv_X0_cameOutIn, ag_ml_X6_223, rfl, (Nat.le_of_ble_eq_true rfl), ⟨(Nat.le_of_ble_eq_true rfl), (Nat.le_of_ble_eq_true rfl)⟩, dX6_forged_114⟩ (im_X0_cameOutIn n 21 (Or.inr rfl) q154) (fun q155 => ?_)
      refine ev_if_eq (pc := 117) (tgt := 128) dX6_forged_117 rfl ?_ ?_
      · refine ev_iload_n (pc := 128) (i := 1) 1 dX6_forged_128 rfl rfl ?_
        exact ev_irW rfl dX6_forged_129
      · refine ev_iload_n (pc := 120) (i := 1) 1 dX6_forged_120 rfl rfl ?_
        refine ev_sipush (pc := 121) (v := 1024) dX6_forged_121 (by decide) ?_
        refine ev_ior (pc := 124) dX6_forged_124 ?_
        refine ev_goto (pc := 125) (tgt := 129) dX6_forged_125 rfl ?_
        exact ev_irW rfl dX6_forged_129
    · refine ev_aload_n (pc := 40) (i := 0) 0 dX6_forged_40 rfl rfl ?_
      refine ev_getR (pc := 41) (t := 21) 2 ag_C6 (rfl) (by decide) (Nat.le_of_ble_eq_true rfl) rfl rfl ag_fl_X6_23 dX6_forged_41 ?_
      refine ev_getR (pc := 44) (t := 22) 0 ag_C5 (rfl) (by decide) (Nat.le_of_ble_eq_true rfl) rfl rfl ag_fl_X6_26 dX6_forged_44 ?_
      refine ev_getR (pc := 47) (t := 26) 4 ag_C1 (rfl) (by decide) (Nat.le_of_ble_eq_true rfl) rfl rfl ag_fl_X6_227 dX6_forged_47 ?_
      refine ev_iload_n (pc := 50) (i := 2) 2 dX6_forged_50 rfl rfl ?_
      refine ev_iconst (pc := 51) (v := 5) dX6_forged_51 (by decide) ?_
      refine ev_iast (pc := 52) (rfl) (by decide) dX6_forged_52 ?_
      refine ev_aload_n (pc := 53) (i := 0) 0 dX6_forged_53 rfl rfl ?_
      refine ev_getR (pc := 54) (t := 21) 2 ag_C6 (rfl) (by decide) (Nat.le_of_ble_eq_true rfl) rfl rfl ag_fl_X6_23 dX6_forged_54 ?_
      refine ev_vV (pc := 57) (as := []) (rest := []) ⟨5, 90, 10, TX5, tyX5, ag_C5, ⟨(rfl), (by decide)⟩, mv_X5_live, ag_ml_X6_90, rfl, (Nat.le_of_ble_eq_true rfl), ⟨(Nat.le_of_ble_eq_true rfl), (Nat.le_of_ble_eq_true rfl)⟩, dX6_forged_57⟩ (im_X5_live n 21 (Or.inr rfl) (ag_up σ 26 v2.toNatClampNeg 5)) (fun q156 => ?_)
      refine ev_aload_n (pc := 60) (i := 0) 0 dX6_forged_60 rfl rfl ?_
      refine ev_getR (pc := 61) (t := 21) 2 ag_C6 (rfl) (by decide) (Nat.le_of_ble_eq_true rfl) rfl rfl ag_fl_X6_23 dX6_forged_61 ?_
      refine ev_getR (pc := 64) (t := 22) 0 ag_C5 (rfl) (by decide) (Nat.le_of_ble_eq_true rfl) rfl rfl ag_fl_X6_26 dX6_forged_64 ?_
      refine ev_getR (pc := 67) (t := 26) 4 ag_C1 (rfl) (by decide) (Nat.le_of_ble_eq_true rfl) rfl rfl ag_fl_X6_227 dX6_forged_67 ?_
      refine ev_iload_n (pc := 70) (i := 2) 2 dX6_forged_70 rfl rfl ?_
      refine ev_iconst (pc := 71) (v := 0) dX6_forged_71 (by decide) ?_
      refine ev_iast (pc := 72) (rfl) (by decide) dX6_forged_72 ?_
      refine ev_aload_n (pc := 73) (i := 0) 0 dX6_forged_73 rfl rfl ?_
      refine ev_getR (pc := 74) (t := 39) 5 ag_C6 (rfl) (by decide) (Nat.le_of_ble_eq_true rfl) rfl rfl ag_fl_X6_39 dX6_forged_74 ?_
      refine ev_aload_n (pc := 77) (i := 0) 0 dX6_forged_77 rfl rfl ?_
      refine ev_getR (pc := 78) (t := 21) 2 ag_C6 (rfl) (by decide) (Nat.le_of_ble_eq_true rfl) rfl rfl ag_fl_X6_23 dX6_forged_78 ?_
      refine ev_vI (pc := 81) (as := [.ref 21]) (rest := []) ⟨0, 223, 5, TX0, tyX0, ag_C0, ⟨(rfl), (by decide)⟩, mv_X0_cameOutIn, ag_ml_X6_223, rfl, (Nat.le_of_ble_eq_true rfl), ⟨(Nat.le_of_ble_eq_true rfl), (Nat.le_of_ble_eq_true rfl)⟩, dX6_forged_81⟩ (im_X0_cameOutIn n 21 (Or.inr rfl) (ag_up q156 26 v2.toNatClampNeg 0)) (fun q157 => ?_)
      refine ev_if_eq (pc := 84) (tgt := 93) dX6_forged_84 rfl ?_ ?_
      · exact ev_X6_forged_b93 n (fn_X6_forged_b29 n i) ih v1 v2 (ag_up q156 26 v2.toNatClampNeg 0)
      · refine ev_iload_n (pc := 87) (i := 1) 1 dX6_forged_87 rfl rfl ?_
        refine ev_iconst (pc := 88) (v := 1) dX6_forged_88 (by decide) ?_
        refine ev_iload_n (pc := 89) (i := 2) 2 dX6_forged_89 rfl rfl ?_
        refine ev_ishl (pc := 90) dX6_forged_90 ?_
        refine ev_ior (pc := 91) dX6_forged_91 ?_
        refine ev_istore_n (pc := 92) (i := 1) (lv' := [(1, .int (v1 ||| (1 <<< (v2 &&& 31)))), (0, .ref 0), (2, .int v2)]) dX6_forged_92 rfl (Nat.le_of_ble_eq_true rfl) rfl ?_
        refine ev_sub [1, 0, 2] rfl ?_
        exact ev_X6_forged_b93 n (fn_X6_forged_b29 n i) ih (v1 ||| (1 <<< (v2 &&& 31))) v2 (ag_up q156 26 v2.toNatClampNeg 0)
def fn_X6_forged (n : Nat)  (σ : Sg) : Option (Int32 × Sg) :=
  (Option.bind (fn_X5_takeFrom 21 3 σ) fun q158 =>
  (Option.bind (fn_J7_fill_53178 n 26 10 0 q158) fun q159 =>
  (fn_X6_forged_b29 n n 0 0 q159)))
set_option maxRecDepth 20000 in
set_option maxHeartbeats 4000000 in
theorem im_X6_forged (n : Nat)  (σ : Sg) : Im yX6_forged mX6_forged 4 102 jW [.ref 0] σ (fn_X6_forged n  σ) := by
  refine Im.of (by decide +kernel) rfl rfl (Nat.le_of_ble_eq_true rfl) ?_
  show Ev mX6_forged 4 102 jW 0 [(0, .ref 0)] [] σ (fn_X6_forged n  σ)
  unfold fn_X6_forged
  refine ev_iconst (pc := 0) (v := 0) dX6_forged_0 (by decide) ?_
  refine ev_istore_n (pc := 1) (i := 1) (lv' := [(1, .int 0), (0, .ref 0)]) dX6_forged_1 rfl (Nat.le_of_ble_eq_true rfl) rfl ?_
  refine ev_aload_n (pc := 2) (i := 0) 1 dX6_forged_2 rfl rfl ?_
  refine ev_getR (pc := 3) (t := 21) 2 ag_C6 (rfl) (by decide) (Nat.le_of_ble_eq_true rfl) rfl rfl ag_fl_X6_23 dX6_forged_3 ?_
  refine ev_aload_n (pc := 6) (i := 0) 1 dX6_forged_6 rfl rfl ?_
  refine ev_getR (pc := 7) (t := 3) 1 ag_C6 (rfl) (by decide) (Nat.le_of_ble_eq_true rfl) rfl rfl ag_fl_X6_19 dX6_forged_7 ?_
  refine ev_vV (pc := 10) (as := [.ref 3]) (rest := []) ⟨5, 159, 10, TX5, tyX5, ag_C5, ⟨(rfl), (by decide)⟩, mv_X5_takeFrom, ag_ml_X6_159, rfl, (Nat.le_of_ble_eq_true rfl), ⟨(Nat.le_of_ble_eq_true rfl), (Nat.le_of_ble_eq_true rfl)⟩, dX6_forged_10⟩ (im_X5_takeFrom 21 (Or.inr rfl) 3 (Or.inl rfl) σ) (fun q158 => ?_)
  refine ev_aload_n (pc := 13) (i := 0) 1 dX6_forged_13 rfl rfl ?_
  refine ev_getR (pc := 14) (t := 21) 2 ag_C6 (rfl) (by decide) (Nat.le_of_ble_eq_true rfl) rfl rfl ag_fl_X6_23 dX6_forged_14 ?_
  refine ev_getR (pc := 17) (t := 22) 0 ag_C5 (rfl) (by decide) (Nat.le_of_ble_eq_true rfl) rfl rfl ag_fl_X6_26 dX6_forged_17 ?_
  refine ev_getR (pc := 20) (t := 26) 4 ag_C1 (rfl) (by decide) (Nat.le_of_ble_eq_true rfl) rfl rfl ag_fl_X6_227 dX6_forged_20 ?_
  refine ev_iconst (pc := 23) (v := 0) dX6_forged_23 (by decide) ?_
  refine ev_sV (pc := 24) (as := [.ref 26, .int 0]) (rest := []) ⟨230, ms_J7_fill_53178, ag_ml_X6_230, rfl, (Nat.le_of_ble_eq_true rfl), ⟨(Nat.le_of_ble_eq_true rfl), (Nat.le_of_ble_eq_true rfl)⟩, dX6_forged_24⟩ (im_J7_fill_53178 n 26 10 ⟨(rfl), (by decide)⟩ 0 q158) (fun q159 => ?_)
  refine ev_iconst (pc := 27) (v := 0) dX6_forged_27 (by decide) ?_
  refine ev_istore_n (pc := 28) (i := 2) (lv' := [(2, .int 0), (1, .int 0), (0, .ref 0)]) dX6_forged_28 rfl (Nat.le_of_ble_eq_true rfl) rfl ?_
  refine ev_sub [2, 1, 0] rfl ?_
  exact ev_X6_forged_b29 n n 0 0 q159
-- X6_power
def mX6_power : Md := (RX6, cX6_power, 5, some .long, none)
theorem ms_X6_power : ag_Ms yX6_power mX6_power 2 := ⟨ag_co_X6_power, ag_st_X6_power, ag_ini_X6, by decide +kernel⟩
theorem dX6_power_0 : decode mX6_power.2.1 0 = .ok (.lconst 1, 1) := by decide +kernel
theorem dX6_power_1 : decode mX6_power.2.1 1 = .ok (.lstore_n 2, 1) := by decide +kernel
theorem dX6_power_2 : decode mX6_power.2.1 2 = .ok (.iconst 0, 1) := by decide +kernel
theorem dX6_power_3 : decode mX6_power.2.1 3 = .ok (.istore 4, 2) := by decide +kernel
theorem dX6_power_5 : decode mX6_power.2.1 5 = .ok (.iload 4, 2) := by decide +kernel
theorem dX6_power_7 : decode mX6_power.2.1 7 = .ok (.iload_n 1, 1) := by decide +kernel
theorem dX6_power_8 : decode mX6_power.2.1 8 = .ok (.if_icmp .ge 14, 3) := by decide +kernel
theorem dX6_power_11 : decode mX6_power.2.1 11 = .ok (.lload_n 2, 1) := by decide +kernel
theorem dX6_power_12 : decode mX6_power.2.1 12 = .ok (.iload_n 0, 1) := by decide +kernel
theorem dX6_power_13 : decode mX6_power.2.1 13 = .ok (.i2l, 1) := by decide +kernel
theorem dX6_power_14 : decode mX6_power.2.1 14 = .ok (.lmul, 1) := by decide +kernel
theorem dX6_power_15 : decode mX6_power.2.1 15 = .ok (.lstore_n 2, 1) := by decide +kernel
theorem dX6_power_16 : decode mX6_power.2.1 16 = .ok (.iinc 4 1, 3) := by decide +kernel
theorem dX6_power_19 : decode mX6_power.2.1 19 = .ok (.goto (-14), 3) := by decide +kernel
theorem dX6_power_22 : decode mX6_power.2.1 22 = .ok (.lload_n 2, 1) := by decide +kernel
theorem dX6_power_23 : decode mX6_power.2.1 23 = .ok (.lreturn, 1) := by decide +kernel
def fn_X6_power_b5 (n : Nat) (x0 : Int32) (x1 : Int32) (σ : Sg)  : Nat → Int64 → Int32 → Option Int64
  | 0 => fun _ _ => none
  | i + 1 => fun v2 v4 =>
  (if x1 ≤ v4 then (some v2)
  else ((fn_X6_power_b5 n x0 x1 σ i) (v2 * x0.toInt64) (v4 + 1)))
theorem fn_X6_power_b5_s (n : Nat) (x0 : Int32) (x1 : Int32) (σ : Sg)  (i : Nat) (v2 : Int64) (v4 : Int32) : fn_X6_power_b5 n x0 x1 σ (i + 1) v2 v4 =
  (if x1 ≤ v4 then (some v2)
  else ((fn_X6_power_b5 n x0 x1 σ i) (v2 * x0.toInt64) (v4 + 1))) := rfl
set_option maxRecDepth 20000 in
set_option maxHeartbeats 4000000 in
theorem ev_X6_power_b5 (n : Nat) (x0 : Int32) (x1 : Int32) (σ : Sg)  : ∀ (i : Nat) (v2 : Int64) (v4 : Int32), Ev mX6_power 0 0 (jL σ) 5 [(0, .int x0), (1, .int x1), (2, .long v2), (4, .int v4)] [] σ (fn_X6_power_b5 n x0 x1 σ i v2 v4) := by
  intro i
  induction i with
  | zero =>
    intro v2 v4
    exact ev_none
  | succ i ih =>
    intro v2 v4
    rw [fn_X6_power_b5_s]
    refine ev_iload (pc := 5) 3 dX6_power_5 rfl ?_
    refine ev_iload_n (pc := 7) (i := 1) 1 dX6_power_7 rfl rfl ?_
    refine ev_icmp_ge (pc := 8) (tgt := 22) dX6_power_8 rfl ?_ ?_
    · refine ev_lload_n (pc := 22) (i := 2) 2 dX6_power_22 rfl rfl ?_
      exact ev_lrL rfl dX6_power_23
    · refine ev_lload_n (pc := 11) (i := 2) 2 dX6_power_11 rfl rfl ?_
      refine ev_iload_n (pc := 12) (i := 0) 0 dX6_power_12 rfl rfl ?_
      refine ev_i2l (pc := 13) dX6_power_13 ?_
      refine ev_lmul (pc := 14) dX6_power_14 ?_
      refine ev_lstore_n (pc := 15) (i := 2) (lv' := [(2, .long (v2 * x0.toInt64)), (0, .int x0), (1, .int x1), (4, .int v4)]) dX6_power_15 rfl (Nat.le_of_ble_eq_true rfl) rfl ?_
      refine ev_iinc (pc := 16) (v := (v4 + 1)) (lv' := [(4, .int (v4 + 1)), (2, .long (v2 * x0.toInt64)), (0, .int x0), (1, .int x1)]) 3 dX6_power_16 rfl rfl (Nat.le_of_ble_eq_true rfl) rfl ?_
      refine ev_goto (pc := 19) (tgt := 5) dX6_power_19 rfl ?_
      refine ev_sub [2, 3, 1, 0] rfl ?_
      exact ih (v2 * x0.toInt64) (v4 + 1)
def fn_X6_power (n : Nat) (x0 : Int32) (x1 : Int32) (σ : Sg) : Option Int64 :=
  (fn_X6_power_b5 n x0 x1 σ n 1 0)
set_option maxRecDepth 20000 in
set_option maxHeartbeats 4000000 in
theorem im_X6_power (n : Nat) (x0 : Int32) (x1 : Int32) (σ : Sg) : Im yX6_power mX6_power 0 0 (jL σ) [.int x0, .int x1] σ (fn_X6_power n x0 x1 σ) := by
  refine Im.of (by decide +kernel) rfl rfl (Nat.le_of_ble_eq_true rfl) ?_
  show Ev mX6_power 0 0 (jL σ) 0 [(0, .int x0), (1, .int x1)] [] σ (fn_X6_power n x0 x1 σ)
  unfold fn_X6_power
  refine ev_lconst (pc := 0) (v := 1) dX6_power_0 (by decide) ?_
  refine ev_lstore_n (pc := 1) (i := 2) (lv' := [(2, .long 1), (0, .int x0), (1, .int x1)]) dX6_power_1 rfl (Nat.le_of_ble_eq_true rfl) rfl ?_
  refine ev_iconst (pc := 2) (v := 0) dX6_power_2 (by decide) ?_
  refine ev_istore (pc := 3) (lv' := [(4, .int 0), (2, .long 1), (0, .int x0), (1, .int x1)]) dX6_power_3 (Nat.le_of_ble_eq_true rfl) rfl ?_
  refine ev_sub [2, 3, 1, 0] rfl ?_
  exact ev_X6_power_b5 n x0 x1 σ n 1 0
-- X6_knowsWithShorter
def mX6_knowsWithShorter : Md := (RX6, cX6_knowsWithShorter, 4, some .boolean, none)
theorem mv_X6_knowsWithShorter : ag_Mv yX6_knowsWithShorter mX6_knowsWithShorter 3 := ⟨ag_co_X6_knowsWithShorter, ag_im_X6_knowsWithShorter, ag_se_X6_knowsWithShorter, ag_ini_X6, by decide +kernel⟩
theorem dX6_knowsWithShorter_0 : decode mX6_knowsWithShorter.2.1 0 = .ok (.aload_n 0, 1) := by decide +kernel
theorem dX6_knowsWithShorter_1 : decode mX6_knowsWithShorter.2.1 1 = .ok (.getfield 23, 3) := by decide +kernel
theorem dX6_knowsWithShorter_4 : decode mX6_knowsWithShorter.2.1 4 = .ok (.getfield 26, 3) := by decide +kernel
theorem dX6_knowsWithShorter_7 : decode mX6_knowsWithShorter.2.1 7 = .ok (.aload_n 0, 1) := by decide +kernel
theorem dX6_knowsWithShorter_8 : decode mX6_knowsWithShorter.2.1 8 = .ok (.getfield 30, 3) := by decide +kernel
theorem dX6_knowsWithShorter_11 : decode mX6_knowsWithShorter.2.1 11 = .ok (.iload_n 1, 1) := by decide +kernel
theorem dX6_knowsWithShorter_12 : decode mX6_knowsWithShorter.2.1 12 = .ok (.invokevirtual 252, 3) := by decide +kernel
theorem dX6_knowsWithShorter_15 : decode mX6_knowsWithShorter.2.1 15 = .ok (.aload_n 0, 1) := by decide +kernel
theorem dX6_knowsWithShorter_16 : decode mX6_knowsWithShorter.2.1 16 = .ok (.getfield 23, 3) := by decide +kernel
theorem dX6_knowsWithShorter_19 : decode mX6_knowsWithShorter.2.1 19 = .ok (.invokevirtual 90, 3) := by decide +kernel
theorem dX6_knowsWithShorter_22 : decode mX6_knowsWithShorter.2.1 22 = .ok (.aload_n 0, 1) := by decide +kernel
theorem dX6_knowsWithShorter_23 : decode mX6_knowsWithShorter.2.1 23 = .ok (.getfield 23, 3) := by decide +kernel
theorem dX6_knowsWithShorter_26 : decode mX6_knowsWithShorter.2.1 26 = .ok (.getfield 198, 3) := by decide +kernel
theorem dX6_knowsWithShorter_29 : decode mX6_knowsWithShorter.2.1 29 = .ok (.iload_n 3, 1) := by decide +kernel
theorem dX6_knowsWithShorter_30 : decode mX6_knowsWithShorter.2.1 30 = .ok (.iaload, 1) := by decide +kernel
theorem dX6_knowsWithShorter_31 : decode mX6_knowsWithShorter.2.1 31 = .ok (.iload_n 2, 1) := by decide +kernel
theorem dX6_knowsWithShorter_32 : decode mX6_knowsWithShorter.2.1 32 = .ok (.ishr, 1) := by decide +kernel
theorem dX6_knowsWithShorter_33 : decode mX6_knowsWithShorter.2.1 33 = .ok (.iconst 1, 1) := by decide +kernel
theorem dX6_knowsWithShorter_34 : decode mX6_knowsWithShorter.2.1 34 = .ok (.iand, 1) := by decide +kernel
theorem dX6_knowsWithShorter_35 : decode mX6_knowsWithShorter.2.1 35 = .ok (.iconst 1, 1) := by decide +kernel
theorem dX6_knowsWithShorter_36 : decode mX6_knowsWithShorter.2.1 36 = .ok (.if_icmp .ne 7, 3) := by decide +kernel
theorem dX6_knowsWithShorter_39 : decode mX6_knowsWithShorter.2.1 39 = .ok (.iconst 1, 1) := by decide +kernel
theorem dX6_knowsWithShorter_40 : decode mX6_knowsWithShorter.2.1 40 = .ok (.goto 4, 3) := by decide +kernel
theorem dX6_knowsWithShorter_43 : decode mX6_knowsWithShorter.2.1 43 = .ok (.iconst 0, 1) := by decide +kernel
theorem dX6_knowsWithShorter_44 : decode mX6_knowsWithShorter.2.1 44 = .ok (.ireturn, 1) := by decide +kernel
def fn_X6_knowsWithShorter (n : Nat) (x1 : Int32) (x2 : Int32) (x3 : Int32) (σ : Sg) : Option (Int32 × Sg) :=
  (Option.bind (fn_X1_shorten n 22 4 x1 σ) fun q160 =>
  (Option.bind (fn_X5_live n 21 q160) fun q161 =>
  (if ag_ib x3 10 = true then (if (((q161 36 x3.toNatClampNeg) >>> (x2 &&& 31)) &&& 1) = 1 then (some (1, q161))
  else (some (0, q161))) else none)))
set_option maxRecDepth 20000 in
set_option maxHeartbeats 4000000 in
theorem im_X6_knowsWithShorter (n : Nat) (x1 : Int32) (x2 : Int32) (x3 : Int32) (σ : Sg) : Im yX6_knowsWithShorter mX6_knowsWithShorter 4 93 jW [.ref 0, .int x1, .int x2, .int x3] σ (fn_X6_knowsWithShorter n x1 x2 x3 σ) := by
  refine Im.of (by decide +kernel) rfl rfl (Nat.le_of_ble_eq_true rfl) ?_
  show Ev mX6_knowsWithShorter 4 93 jW 0 [(0, .ref 0), (1, .int x1), (2, .int x2), (3, .int x3)] [] σ (fn_X6_knowsWithShorter n x1 x2 x3 σ)
  unfold fn_X6_knowsWithShorter
  refine ev_aload_n (pc := 0) (i := 0) 0 dX6_knowsWithShorter_0 rfl rfl ?_
  refine ev_getR (pc := 1) (t := 21) 2 ag_C6 (rfl) (by decide) (Nat.le_of_ble_eq_true rfl) rfl rfl ag_fl_X6_23 dX6_knowsWithShorter_1 ?_
  refine ev_getR (pc := 4) (t := 22) 0 ag_C5 (rfl) (by decide) (Nat.le_of_ble_eq_true rfl) rfl rfl ag_fl_X6_26 dX6_knowsWithShorter_4 ?_
  refine ev_aload_n (pc := 7) (i := 0) 0 dX6_knowsWithShorter_7 rfl rfl ?_
  refine ev_getR (pc := 8) (t := 4) 3 ag_C6 (rfl) (by decide) (Nat.le_of_ble_eq_true rfl) rfl rfl ag_fl_X6_30 dX6_knowsWithShorter_8 ?_
  refine ev_iload_n (pc := 11) (i := 1) 1 dX6_knowsWithShorter_11 rfl rfl ?_
  refine ev_vV (pc := 12) (as := [.ref 4, .int x1]) (rest := []) ⟨1, 252, 6, TX1, tyX1, ag_C1, ⟨(rfl), (by decide)⟩, mv_X1_shorten, ag_ml_X6_252, rfl, (Nat.le_of_ble_eq_true rfl), ⟨(Nat.le_of_ble_eq_true rfl), (Nat.le_of_ble_eq_true rfl)⟩, dX6_knowsWithShorter_12⟩ (im_X1_shorten n 22 (Or.inr rfl) 4 (Or.inl rfl) x1 σ) (fun q160 => ?_)
  refine ev_aload_n (pc := 15) (i := 0) 0 dX6_knowsWithShorter_15 rfl rfl ?_
  refine ev_getR (pc := 16) (t := 21) 2 ag_C6 (rfl) (by decide) (Nat.le_of_ble_eq_true rfl) rfl rfl ag_fl_X6_23 dX6_knowsWithShorter_16 ?_
  refine ev_vV (pc := 19) (as := []) (rest := []) ⟨5, 90, 10, TX5, tyX5, ag_C5, ⟨(rfl), (by decide)⟩, mv_X5_live, ag_ml_X6_90, rfl, (Nat.le_of_ble_eq_true rfl), ⟨(Nat.le_of_ble_eq_true rfl), (Nat.le_of_ble_eq_true rfl)⟩, dX6_knowsWithShorter_19⟩ (im_X5_live n 21 (Or.inr rfl) q160) (fun q161 => ?_)
  refine ev_aload_n (pc := 22) (i := 0) 0 dX6_knowsWithShorter_22 rfl rfl ?_
  refine ev_getR (pc := 23) (t := 21) 2 ag_C6 (rfl) (by decide) (Nat.le_of_ble_eq_true rfl) rfl rfl ag_fl_X6_23 dX6_knowsWithShorter_23 ?_
  refine ev_getR (pc := 26) (t := 36) 7 ag_C5 (rfl) (by decide) (Nat.le_of_ble_eq_true rfl) rfl rfl ag_fl_X6_198 dX6_knowsWithShorter_26 ?_
  refine ev_iload_n (pc := 29) (i := 3) 3 dX6_knowsWithShorter_29 rfl rfl ?_
  refine ev_iald (pc := 30) (rfl) (by decide) dX6_knowsWithShorter_30 ?_
  refine ev_iload_n (pc := 31) (i := 2) 2 dX6_knowsWithShorter_31 rfl rfl ?_
  refine ev_ishr (pc := 32) dX6_knowsWithShorter_32 ?_
  refine ev_iconst (pc := 33) (v := 1) dX6_knowsWithShorter_33 (by decide) ?_
  refine ev_iand (pc := 34) dX6_knowsWithShorter_34 ?_
  refine ev_iconst (pc := 35) (v := 1) dX6_knowsWithShorter_35 (by decide) ?_
  refine ev_icmp_ne (pc := 36) (tgt := 43) dX6_knowsWithShorter_36 rfl ?_ ?_
  · refine ev_iconst (pc := 39) (v := 1) dX6_knowsWithShorter_39 (by decide) ?_
    refine ev_goto (pc := 40) (tgt := 44) dX6_knowsWithShorter_40 rfl ?_
    exact ev_brW rfl rfl dX6_knowsWithShorter_44
  · refine ev_iconst (pc := 43) (v := 0) dX6_knowsWithShorter_43 (by decide) ?_
    exact ev_brW rfl rfl dX6_knowsWithShorter_44
-- X6_weightOfKnowing
def mX6_weightOfKnowing : Md := (RX6, cX6_weightOfKnowing, 13, some .long, none)
theorem mv_X6_weightOfKnowing : ag_Mv yX6_weightOfKnowing mX6_weightOfKnowing 4 := ⟨ag_co_X6_weightOfKnowing, ag_im_X6_weightOfKnowing, ag_se_X6_weightOfKnowing, ag_ini_X6, by decide +kernel⟩
theorem dX6_weightOfKnowing_0 : decode mX6_weightOfKnowing.2.1 0 = .ok (.lconst 0, 1) := by decide +kernel
theorem dX6_weightOfKnowing_1 : decode mX6_weightOfKnowing.2.1 1 = .ok (.lstore 5, 2) := by decide +kernel
theorem dX6_weightOfKnowing_3 : decode mX6_weightOfKnowing.2.1 3 = .ok (.iload 4, 2) := by decide +kernel
theorem dX6_weightOfKnowing_5 : decode mX6_weightOfKnowing.2.1 5 = .ok (.invokestatic 190, 3) := by decide +kernel
theorem dX6_weightOfKnowing_8 : decode mX6_weightOfKnowing.2.1 8 = .ok (.istore 7, 2) := by decide +kernel
theorem dX6_weightOfKnowing_10 : decode mX6_weightOfKnowing.2.1 10 = .ok (.iconst 0, 1) := by decide +kernel
theorem dX6_weightOfKnowing_11 : decode mX6_weightOfKnowing.2.1 11 = .ok (.istore 8, 2) := by decide +kernel
theorem dX6_weightOfKnowing_13 : decode mX6_weightOfKnowing.2.1 13 = .ok (.aload_n 0, 1) := by decide +kernel
theorem dX6_weightOfKnowing_14 : decode mX6_weightOfKnowing.2.1 14 = .ok (.getfield 23, 3) := by decide +kernel
theorem dX6_weightOfKnowing_17 : decode mX6_weightOfKnowing.2.1 17 = .ok (.aload_n 0, 1) := by decide +kernel
theorem dX6_weightOfKnowing_18 : decode mX6_weightOfKnowing.2.1 18 = .ok (.getfield 19, 3) := by decide +kernel
theorem dX6_weightOfKnowing_21 : decode mX6_weightOfKnowing.2.1 21 = .ok (.invokevirtual 159, 3) := by decide +kernel
theorem dX6_weightOfKnowing_24 : decode mX6_weightOfKnowing.2.1 24 = .ok (.iconst 0, 1) := by decide +kernel
theorem dX6_weightOfKnowing_25 : decode mX6_weightOfKnowing.2.1 25 = .ok (.istore 9, 2) := by decide +kernel
theorem dX6_weightOfKnowing_27 : decode mX6_weightOfKnowing.2.1 27 = .ok (.iload 9, 2) := by decide +kernel
theorem dX6_weightOfKnowing_29 : decode mX6_weightOfKnowing.2.1 29 = .ok (.iconst 1, 1) := by decide +kernel
theorem dX6_weightOfKnowing_30 : decode mX6_weightOfKnowing.2.1 30 = .ok (.iload 7, 2) := by decide +kernel
theorem dX6_weightOfKnowing_32 : decode mX6_weightOfKnowing.2.1 32 = .ok (.ishl, 1) := by decide +kernel
theorem dX6_weightOfKnowing_33 : decode mX6_weightOfKnowing.2.1 33 = .ok (.if_icmp .ge 71, 3) := by decide +kernel
theorem dX6_weightOfKnowing_36 : decode mX6_weightOfKnowing.2.1 36 = .ok (.iload 8, 2) := by decide +kernel
theorem dX6_weightOfKnowing_38 : decode mX6_weightOfKnowing.2.1 38 = .ok (.invokestatic 190, 3) := by decide +kernel
theorem dX6_weightOfKnowing_41 : decode mX6_weightOfKnowing.2.1 41 = .ok (.istore 10, 2) := by decide +kernel
theorem dX6_weightOfKnowing_43 : decode mX6_weightOfKnowing.2.1 43 = .ok (.iload_n 1, 1) := by decide +kernel
theorem dX6_weightOfKnowing_44 : decode mX6_weightOfKnowing.2.1 44 = .ok (.iload 10, 2) := by decide +kernel
theorem dX6_weightOfKnowing_46 : decode mX6_weightOfKnowing.2.1 46 = .ok (.invokestatic 245, 3) := by decide +kernel
theorem dX6_weightOfKnowing_49 : decode mX6_weightOfKnowing.2.1 49 = .ok (.bipush 16, 2) := by decide +kernel
theorem dX6_weightOfKnowing_51 : decode mX6_weightOfKnowing.2.1 51 = .ok (.iload_n 1, 1) := by decide +kernel
theorem dX6_weightOfKnowing_52 : decode mX6_weightOfKnowing.2.1 52 = .ok (.isub, 1) := by decide +kernel
theorem dX6_weightOfKnowing_53 : decode mX6_weightOfKnowing.2.1 53 = .ok (.iload 7, 2) := by decide +kernel
theorem dX6_weightOfKnowing_55 : decode mX6_weightOfKnowing.2.1 55 = .ok (.iload 10, 2) := by decide +kernel
theorem dX6_weightOfKnowing_57 : decode mX6_weightOfKnowing.2.1 57 = .ok (.isub, 1) := by decide +kernel
theorem dX6_weightOfKnowing_58 : decode mX6_weightOfKnowing.2.1 58 = .ok (.invokestatic 245, 3) := by decide +kernel
theorem dX6_weightOfKnowing_61 : decode mX6_weightOfKnowing.2.1 61 = .ok (.lmul, 1) := by decide +kernel
theorem dX6_weightOfKnowing_62 : decode mX6_weightOfKnowing.2.1 62 = .ok (.lstore 11, 2) := by decide +kernel
theorem dX6_weightOfKnowing_64 : decode mX6_weightOfKnowing.2.1 64 = .ok (.lload 11, 2) := by decide +kernel
theorem dX6_weightOfKnowing_66 : decode mX6_weightOfKnowing.2.1 66 = .ok (.lconst 0, 1) := by decide +kernel
theorem dX6_weightOfKnowing_67 : decode mX6_weightOfKnowing.2.1 67 = .ok (.lcmp, 1) := by decide +kernel
theorem dX6_weightOfKnowing_68 : decode mX6_weightOfKnowing.2.1 68 = .ok (.ifCond .eq 21, 3) := by decide +kernel
theorem dX6_weightOfKnowing_71 : decode mX6_weightOfKnowing.2.1 71 = .ok (.aload_n 0, 1) := by decide +kernel
theorem dX6_weightOfKnowing_72 : decode mX6_weightOfKnowing.2.1 72 = .ok (.iload 8, 2) := by decide +kernel
theorem dX6_weightOfKnowing_74 : decode mX6_weightOfKnowing.2.1 74 = .ok (.iload_n 3, 1) := by decide +kernel
theorem dX6_weightOfKnowing_75 : decode mX6_weightOfKnowing.2.1 75 = .ok (.iload_n 2, 1) := by decide +kernel
theorem dX6_weightOfKnowing_76 : decode mX6_weightOfKnowing.2.1 76 = .ok (.invokevirtual 249, 3) := by decide +kernel
theorem dX6_weightOfKnowing_79 : decode mX6_weightOfKnowing.2.1 79 = .ok (.ifCond .eq 10, 3) := by decide +kernel
theorem dX6_weightOfKnowing_82 : decode mX6_weightOfKnowing.2.1 82 = .ok (.lload 5, 2) := by decide +kernel
theorem dX6_weightOfKnowing_84 : decode mX6_weightOfKnowing.2.1 84 = .ok (.lload 11, 2) := by decide +kernel
theorem dX6_weightOfKnowing_86 : decode mX6_weightOfKnowing.2.1 86 = .ok (.ladd, 1) := by decide +kernel
theorem dX6_weightOfKnowing_87 : decode mX6_weightOfKnowing.2.1 87 = .ok (.lstore 5, 2) := by decide +kernel
theorem dX6_weightOfKnowing_89 : decode mX6_weightOfKnowing.2.1 89 = .ok (.iload 8, 2) := by decide +kernel
theorem dX6_weightOfKnowing_91 : decode mX6_weightOfKnowing.2.1 91 = .ok (.iload 4, 2) := by decide +kernel
theorem dX6_weightOfKnowing_93 : decode mX6_weightOfKnowing.2.1 93 = .ok (.invokestatic 209, 3) := by decide +kernel
theorem dX6_weightOfKnowing_96 : decode mX6_weightOfKnowing.2.1 96 = .ok (.istore 8, 2) := by decide +kernel
theorem dX6_weightOfKnowing_98 : decode mX6_weightOfKnowing.2.1 98 = .ok (.iinc 9 1, 3) := by decide +kernel
theorem dX6_weightOfKnowing_101 : decode mX6_weightOfKnowing.2.1 101 = .ok (.goto (-74), 3) := by decide +kernel
theorem dX6_weightOfKnowing_104 : decode mX6_weightOfKnowing.2.1 104 = .ok (.lload 5, 2) := by decide +kernel
theorem dX6_weightOfKnowing_106 : decode mX6_weightOfKnowing.2.1 106 = .ok (.lreturn, 1) := by decide +kernel
def fn_X6_weightOfKnowing_b89 (n : Nat) (x1 : Int32) (x2 : Int32) (x3 : Int32) (x4 : Int32) (k27 : Int64 → Int32 → Int32 → Int32 → Sg → Option (Int64 × Sg)) (v5 : Int64) (v7 : Int32) (v8 : Int32) (v9 : Int32) (σ : Sg) : Option (Int64 × Sg) :=
  (Option.bind (fn_X6_nextWithin v8 x4 σ) fun q162 =>
  (k27 v5 v7 q162 (v9 + 1) σ))
set_option maxRecDepth 20000 in
set_option maxHeartbeats 4000000 in
theorem ev_X6_weightOfKnowing_b89 (n : Nat) (x1 : Int32) (x2 : Int32) (x3 : Int32) (x4 : Int32) (k27 : Int64 → Int32 → Int32 → Int32 → Sg → Option (Int64 × Sg)) (hk27 : ∀ (v5 : Int64) (v7 : Int32) (v8 : Int32) (v9 : Int32) (σ : Sg), Ev mX6_weightOfKnowing 5 116 jM 27 [(0, .ref 0), (1, .int x1), (2, .int x2), (3, .int x3), (4, .int x4), (5, .long v5), (7, .int v7), (8, .int v8), (9, .int v9)] [] σ (k27 v5 v7 v8 v9 σ)) (v5 : Int64) (v7 : Int32) (v8 : Int32) (v9 : Int32) (σ : Sg) : Ev mX6_weightOfKnowing 5 116 jM 89 [(0, .ref 0), (1, .int x1), (2, .int x2), (3, .int x3), (4, .int x4), (5, .long v5), (7, .int v7), (8, .int v8), (9, .int v9)] [] σ (fn_X6_weightOfKnowing_b89 n x1 x2 x3 x4 k27 v5 v7 v8 v9 σ) := by
  unfold fn_X6_weightOfKnowing_b89
  refine ev_iload (pc := 89) 7 dX6_weightOfKnowing_89 rfl ?_
  refine ev_iload (pc := 91) 4 dX6_weightOfKnowing_91 rfl ?_
  refine ev_sI (pc := 93) (as := [.int v8, .int x4]) (rest := []) ⟨209, ms_X6_nextWithin, ag_ml_X6_209, rfl, (Nat.le_of_ble_eq_true rfl), ⟨(Nat.le_of_ble_eq_true rfl), (Nat.le_of_ble_eq_true rfl)⟩, dX6_weightOfKnowing_93⟩ (im_X6_nextWithin v8 x4 σ) (fun q162 => ?_)
  refine ev_istore (pc := 96) (lv' := [(8, .int q162), (0, .ref 0), (1, .int x1), (2, .int x2), (3, .int x3), (4, .int x4), (5, .long v5), (7, .int v7), (9, .int v9)]) dX6_weightOfKnowing_96 (Nat.le_of_ble_eq_true rfl) rfl ?_
  refine ev_iinc (pc := 98) (v := (v9 + 1)) (lv' := [(9, .int (v9 + 1)), (8, .int q162), (0, .ref 0), (1, .int x1), (2, .int x2), (3, .int x3), (4, .int x4), (5, .long v5), (7, .int v7)]) 8 dX6_weightOfKnowing_98 rfl rfl (Nat.le_of_ble_eq_true rfl) rfl ?_
  refine ev_goto (pc := 101) (tgt := 27) dX6_weightOfKnowing_101 rfl ?_
  refine ev_sub [2, 3, 4, 5, 6, 7, 8, 1, 0] rfl ?_
  exact hk27 v5 v7 q162 (v9 + 1) σ
def fn_X6_weightOfKnowing_b27 (n : Nat) (x1 : Int32) (x2 : Int32) (x3 : Int32) (x4 : Int32)  : Nat → Int64 → Int32 → Int32 → Int32 → Sg → Option (Int64 × Sg)
  | 0 => fun _ _ _ _ _ => none
  | i + 1 => fun v5 v7 v8 v9 σ =>
  (if (1 <<< (v7 &&& 31)) ≤ v9 then (some (v5, σ))
  else (Option.bind (fn_J6_bitCount_0f7a4 v8 σ) fun q163 =>
  (Option.bind (fn_X6_power n x1 q163 σ) fun q164 =>
  (Option.bind (fn_X6_power n (16 - x1) (v7 - q163) σ) fun q165 =>
  (if (lg_cmp (q164 * q165) 0) = 0 then (fn_X6_weightOfKnowing_b89 n x1 x2 x3 x4 (fn_X6_weightOfKnowing_b27 n x1 x2 x3 x4 i) v5 v7 v8 v9 σ)
  else (Option.bind (fn_X6_knowsWithShorter n v8 x3 x2 σ) fun q166 =>
  (if q166.1 = 0 then (fn_X6_weightOfKnowing_b89 n x1 x2 x3 x4 (fn_X6_weightOfKnowing_b27 n x1 x2 x3 x4 i) v5 v7 v8 v9 q166.2)
  else (fn_X6_weightOfKnowing_b89 n x1 x2 x3 x4 (fn_X6_weightOfKnowing_b27 n x1 x2 x3 x4 i) (v5 + (q164 * q165)) v7 v8 v9 q166.2))))))))
theorem fn_X6_weightOfKnowing_b27_s (n : Nat) (x1 : Int32) (x2 : Int32) (x3 : Int32) (x4 : Int32)  (i : Nat) (v5 : Int64) (v7 : Int32) (v8 : Int32) (v9 : Int32) (σ : Sg) : fn_X6_weightOfKnowing_b27 n x1 x2 x3 x4 (i + 1) v5 v7 v8 v9 σ =
  (if (1 <<< (v7 &&& 31)) ≤ v9 then (some (v5, σ))
  else (Option.bind (fn_J6_bitCount_0f7a4 v8 σ) fun q163 =>
  (Option.bind (fn_X6_power n x1 q163 σ) fun q164 =>
  (Option.bind (fn_X6_power n (16 - x1) (v7 - q163) σ) fun q165 =>
  (if (lg_cmp (q164 * q165) 0) = 0 then (fn_X6_weightOfKnowing_b89 n x1 x2 x3 x4 (fn_X6_weightOfKnowing_b27 n x1 x2 x3 x4 i) v5 v7 v8 v9 σ)
  else (Option.bind (fn_X6_knowsWithShorter n v8 x3 x2 σ) fun q166 =>
  (if q166.1 = 0 then (fn_X6_weightOfKnowing_b89 n x1 x2 x3 x4 (fn_X6_weightOfKnowing_b27 n x1 x2 x3 x4 i) v5 v7 v8 v9 q166.2)
  else (fn_X6_weightOfKnowing_b89 n x1 x2 x3 x4 (fn_X6_weightOfKnowing_b27 n x1 x2 x3 x4 i) (v5 + (q164 * q165)) v7 v8 v9 q166.2)))))))) := rfl
set_option maxRecDepth 20000 in
set_option maxHeartbeats 4000000 in
theorem ev_X6_weightOfKnowing_b27 (n : Nat) (x1 : Int32) (x2 : Int32) (x3 : Int32) (x4 : Int32)  : ∀ (i : Nat) (v5 : Int64) (v7 : Int32) (v8 : Int32) (v9 : Int32) (σ : Sg), Ev mX6_weightOfKnowing 5 116 jM 27 [(0, .ref 0), (1, .int x1), (2, .int x2), (3, .int x3), (4, .int x4), (5, .long v5), (7, .int v7), (8, .int v8), (9, .int v9)] [] σ (fn_X6_weightOfKnowing_b27 n x1 x2 x3 x4 i v5 v7 v8 v9 σ) := by
  intro i
  induction i with
  | zero =>
    intro v5 v7 v8 v9 σ
    exact ev_none
  | succ i ih =>
    intro v5 v7 v8 v9 σ
    rw [fn_X6_weightOfKnowing_b27_s]
    refine ev_iload (pc := 27) 8 dX6_weightOfKnowing_27 rfl ?_
    refine ev_iconst (pc := 29) (v := 1) dX6_weightOfKnowing_29 (by decide) ?_
    refine ev_iload (pc := 30) 6 dX6_weightOfKnowing_30 rfl ?_
    refine ev_ishl (pc := 32) dX6_weightOfKnowing_32 ?_
    refine ev_icmp_ge (pc := 33) (tgt := 104) dX6_weightOfKnowing_33 rfl ?_ ?_
    · refine ev_lload (pc := 104) 5 dX6_weightOfKnowing_104 rfl ?_
      exact ev_lrM rfl dX6_weightOfKnowing_106
    · refine ev_iload (pc := 36) 7 dX6_weightOfKnowing_36 rfl ?_
      refine ev_sI (pc := 38) (as := [.int v8]) (rest := []) ⟨190, ms_J6_bitCount_0f7a4, ag_ml_X6_190, rfl, (Nat.le_of_ble_eq_true rfl), ⟨(Nat.le_of_ble_eq_true rfl), (Nat.le_of_ble_eq_true rfl)⟩, dX6_weightOfKnowing_38⟩ (im_J6_bitCount_0f7a4 v8 σ) (fun q163 => ?_)
      refine ev_istore (pc := 41) (lv' := [(10, .int q163), (0, .ref 0), (1, .int x1), (2, .int x2), (3, .int x3), (4, .int x4), (5, .long v5), (7, .int v7), (8, .int v8), (9, .int v9)]) dX6_weightOfKnowing_41 (Nat.le_of_ble_eq_true rfl) rfl ?_
      refine ev_iload_n (pc := 43) (i := 1) 2 dX6_weightOfKnowing_43 rfl rfl ?_
      refine ev_iload (pc := 44) 0 dX6_weightOfKnowing_44 rfl ?_
      refine ev_sL (pc := 46) (as := [.int x1, .int q163]) (rest := []) ⟨245, ms_X6_power, ag_ml_X6_245, rfl, (Nat.le_of_ble_eq_true rfl), ⟨(Nat.le_of_ble_eq_true rfl), (Nat.le_of_ble_eq_true rfl)⟩, dX6_weightOfKnowing_46⟩ (im_X6_power n x1 q163 σ) (fun q164 => ?_)
      refine ev_bipush (pc := 49) (v := 16) dX6_weightOfKnowing_49 (by decide) ?_
      refine ev_iload_n (pc := 51) (i := 1) 2 dX6_weightOfKnowing_51 rfl rfl ?_
      refine ev_isub (pc := 52) dX6_weightOfKnowing_52 ?_
      refine ev_iload (pc := 53) 7 dX6_weightOfKnowing_53 rfl ?_
      refine ev_iload (pc := 55) 0 dX6_weightOfKnowing_55 rfl ?_
      refine ev_isub (pc := 57) dX6_weightOfKnowing_57 ?_
      refine ev_sL (pc := 58) (as := [.int (16 - x1), .int (v7 - q163)]) (rest := [.long q164]) ⟨245, ms_X6_power, ag_ml_X6_245, rfl, (Nat.le_of_ble_eq_true rfl), ⟨(Nat.le_of_ble_eq_true rfl), (Nat.le_of_ble_eq_true rfl)⟩, dX6_weightOfKnowing_58⟩ (im_X6_power n (16 - x1) (v7 - q163) σ) (fun q165 => ?_)
      refine ev_lmul (pc := 61) dX6_weightOfKnowing_61 ?_
      refine ev_lstore (pc := 62) (lv' := [(11, .long (q164 * q165)), (10, .int q163), (0, .ref 0), (1, .int x1), (2, .int x2), (3, .int x3), (4, .int x4), (5, .long v5), (7, .int v7), (8, .int v8), (9, .int v9)]) dX6_weightOfKnowing_62 (Nat.le_of_ble_eq_true rfl) rfl ?_
      refine ev_lload (pc := 64) 0 dX6_weightOfKnowing_64 rfl ?_
      refine ev_lconst (pc := 66) (v := 0) dX6_weightOfKnowing_66 (by decide) ?_
      refine ev_lcmp (pc := 67) dX6_weightOfKnowing_67 ?_
      refine ev_if_eq (pc := 68) (tgt := 89) dX6_weightOfKnowing_68 rfl ?_ ?_
      · refine ev_sub [2, 3, 4, 5, 6, 7, 8, 9, 10] rfl ?_
        exact ev_X6_weightOfKnowing_b89 n x1 x2 x3 x4 (fn_X6_weightOfKnowing_b27 n x1 x2 x3 x4 i) ih v5 v7 v8 v9 σ
      · refine ev_aload_n (pc := 71) (i := 0) 2 dX6_weightOfKnowing_71 rfl rfl ?_
        refine ev_iload (pc := 72) 9 dX6_weightOfKnowing_72 rfl ?_
        refine ev_iload_n (pc := 74) (i := 3) 5 dX6_weightOfKnowing_74 rfl rfl ?_
        refine ev_iload_n (pc := 75) (i := 2) 4 dX6_weightOfKnowing_75 rfl rfl ?_
        refine ev_vW (pc := 76) (as := [.int v8, .int x3, .int x2]) (rest := []) ⟨6, 249, 8, TX6, tyX6, ag_C6, ⟨(rfl), (by decide)⟩, mv_X6_knowsWithShorter, ag_ml_X6_249, rfl, (Nat.le_of_ble_eq_true rfl), ⟨(Nat.le_of_ble_eq_true rfl), (Nat.le_of_ble_eq_true rfl)⟩, dX6_weightOfKnowing_76⟩ (im_X6_knowsWithShorter n v8 x3 x2 σ) (fun q166 => ?_)
        refine ev_if_eq (pc := 79) (tgt := 89) dX6_weightOfKnowing_79 rfl ?_ ?_
        · refine ev_sub [2, 3, 4, 5, 6, 7, 8, 9, 10] rfl ?_
          exact ev_X6_weightOfKnowing_b89 n x1 x2 x3 x4 (fn_X6_weightOfKnowing_b27 n x1 x2 x3 x4 i) ih v5 v7 v8 v9 q166.2
        · refine ev_lload (pc := 82) 7 dX6_weightOfKnowing_82 rfl ?_
          refine ev_lload (pc := 84) 0 dX6_weightOfKnowing_84 rfl ?_
          refine ev_ladd (pc := 86) dX6_weightOfKnowing_86 ?_
          refine ev_lstore (pc := 87) (lv' := [(5, .long (v5 + (q164 * q165))), (11, .long (q164 * q165)), (10, .int q163), (0, .ref 0), (1, .int x1), (2, .int x2), (3, .int x3), (4, .int x4), (7, .int v7), (8, .int v8), (9, .int v9)]) dX6_weightOfKnowing_87 (Nat.le_of_ble_eq_true rfl) rfl ?_
          refine ev_sub [3, 4, 5, 6, 7, 0, 8, 9, 10] rfl ?_
          exact ev_X6_weightOfKnowing_b89 n x1 x2 x3 x4 (fn_X6_weightOfKnowing_b27 n x1 x2 x3 x4 i) ih (v5 + (q164 * q165)) v7 v8 v9 q166.2
def fn_X6_weightOfKnowing (n : Nat) (x1 : Int32) (x2 : Int32) (x3 : Int32) (x4 : Int32) (σ : Sg) : Option (Int64 × Sg) :=
  (Option.bind (fn_J6_bitCount_0f7a4 x4 σ) fun q167 =>
  (Option.bind (fn_X5_takeFrom 21 3 σ) fun q168 =>
  (fn_X6_weightOfKnowing_b27 n x1 x2 x3 x4 n 0 q167 0 0 q168)))
set_option maxRecDepth 20000 in
set_option maxHeartbeats 4000000 in
theorem im_X6_weightOfKnowing (n : Nat) (x1 : Int32) (x2 : Int32) (x3 : Int32) (x4 : Int32) (σ : Sg) : Im yX6_weightOfKnowing mX6_weightOfKnowing 5 116 jM [.ref 0, .int x1, .int x2, .int x3, .int x4] σ (fn_X6_weightOfKnowing n x1 x2 x3 x4 σ) := by
  refine Im.of (by decide +kernel) rfl rfl (Nat.le_of_ble_eq_true rfl) ?_
  show Ev mX6_weightOfKnowing 5 116 jM 0 [(0, .ref 0), (1, .int x1), (2, .int x2), (3, .int x3), (4, .int x4)] [] σ (fn_X6_weightOfKnowing n x1 x2 x3 x4 σ)
  unfold fn_X6_weightOfKnowing
  refine ev_lconst (pc := 0) (v := 0) dX6_weightOfKnowing_0 (by decide) ?_
  refine ev_lstore (pc := 1) (lv' := [(5, .long 0), (0, .ref 0), (1, .int x1), (2, .int x2), (3, .int x3), (4, .int x4)]) dX6_weightOfKnowing_1 (Nat.le_of_ble_eq_true rfl) rfl ?_
  refine ev_iload (pc := 3) 5 dX6_weightOfKnowing_3 rfl ?_
  refine ev_sI (pc := 5) (as := [.int x4]) (rest := []) ⟨190, ms_J6_bitCount_0f7a4, ag_ml_X6_190, rfl, (Nat.le_of_ble_eq_true rfl), ⟨(Nat.le_of_ble_eq_true rfl), (Nat.le_of_ble_eq_true rfl)⟩, dX6_weightOfKnowing_5⟩ (im_J6_bitCount_0f7a4 x4 σ) (fun q167 => ?_)
  refine ev_istore (pc := 8) (lv' := [(7, .int q167), (5, .long 0), (0, .ref 0), (1, .int x1), (2, .int x2), (3, .int x3), (4, .int x4)]) dX6_weightOfKnowing_8 (Nat.le_of_ble_eq_true rfl) rfl ?_
  refine ev_iconst (pc := 10) (v := 0) dX6_weightOfKnowing_10 (by decide) ?_
  refine ev_istore (pc := 11) (lv' := [(8, .int 0), (7, .int q167), (5, .long 0), (0, .ref 0), (1, .int x1), (2, .int x2), (3, .int x3), (4, .int x4)]) dX6_weightOfKnowing_11 (Nat.le_of_ble_eq_true rfl) rfl ?_
  refine ev_aload_n (pc := 13) (i := 0) 3 dX6_weightOfKnowing_13 rfl rfl ?_
  refine ev_getR (pc := 14) (t := 21) 2 ag_C6 (rfl) (by decide) (Nat.le_of_ble_eq_true rfl) rfl rfl ag_fl_X6_23 dX6_weightOfKnowing_14 ?_
  refine ev_aload_n (pc := 17) (i := 0) 3 dX6_weightOfKnowing_17 rfl rfl ?_
  refine ev_getR (pc := 18) (t := 3) 1 ag_C6 (rfl) (by decide) (Nat.le_of_ble_eq_true rfl) rfl rfl ag_fl_X6_19 dX6_weightOfKnowing_18 ?_
  refine ev_vV (pc := 21) (as := [.ref 3]) (rest := []) ⟨5, 159, 10, TX5, tyX5, ag_C5, ⟨(rfl), (by decide)⟩, mv_X5_takeFrom, ag_ml_X6_159, rfl, (Nat.le_of_ble_eq_true rfl), ⟨(Nat.le_of_ble_eq_true rfl), (Nat.le_of_ble_eq_true rfl)⟩, dX6_weightOfKnowing_21⟩ (im_X5_takeFrom 21 (Or.inr rfl) 3 (Or.inl rfl) σ) (fun q168 => ?_)
  refine ev_iconst (pc := 24) (v := 0) dX6_weightOfKnowing_24 (by decide) ?_
  refine ev_istore (pc := 25) (lv' := [(9, .int 0), (8, .int 0), (7, .int q167), (5, .long 0), (0, .ref 0), (1, .int x1), (2, .int x2), (3, .int x3), (4, .int x4)]) dX6_weightOfKnowing_25 (Nat.le_of_ble_eq_true rfl) rfl ?_
  refine ev_sub [4, 5, 6, 7, 8, 3, 2, 1, 0] rfl ?_
  exact ev_X6_weightOfKnowing_b27 n x1 x2 x3 x4 n 0 q167 0 0 q168
-- X6_chance
def mX6_chance : Md := (RX6, cX6_chance, 11, some .long, none)
theorem mv_X6_chance : ag_Mv yX6_chance mX6_chance 4 := ⟨ag_co_X6_chance, ag_im_X6_chance, ag_se_X6_chance, ag_ini_X6, by decide +kernel⟩
theorem dX6_chance_0 : decode mX6_chance.2.1 0 = .ok (.iload_n 1, 1) := by decide +kernel
theorem dX6_chance_1 : decode mX6_chance.2.1 1 = .ok (.bipush 17, 2) := by decide +kernel
theorem dX6_chance_3 : decode mX6_chance.2.1 3 = .ok (.invokestatic 83, 3) := by decide +kernel
theorem dX6_chance_6 : decode mX6_chance.2.1 6 = .ok (.ifCond .eq 32, 3) := by decide +kernel
theorem dX6_chance_9 : decode mX6_chance.2.1 9 = .ok (.aload_n 0, 1) := by decide +kernel
theorem dX6_chance_10 : decode mX6_chance.2.1 10 = .ok (.getfield 30, 3) := by decide +kernel
theorem dX6_chance_13 : decode mX6_chance.2.1 13 = .ok (.iload_n 2, 1) := by decide +kernel
theorem dX6_chance_14 : decode mX6_chance.2.1 14 = .ok (.invokevirtual 68, 3) := by decide +kernel
theorem dX6_chance_17 : decode mX6_chance.2.1 17 = .ok (.ifCond .eq 21, 3) := by decide +kernel
theorem dX6_chance_20 : decode mX6_chance.2.1 20 = .ok (.iload_n 3, 1) := by decide +kernel
theorem dX6_chance_21 : decode mX6_chance.2.1 21 = .ok (.bipush 8, 2) := by decide +kernel
theorem dX6_chance_23 : decode mX6_chance.2.1 23 = .ok (.invokestatic 83, 3) := by decide +kernel
theorem dX6_chance_26 : decode mX6_chance.2.1 26 = .ok (.ifCond .eq 12, 3) := by decide +kernel
theorem dX6_chance_29 : decode mX6_chance.2.1 29 = .ok (.iload 4, 2) := by decide +kernel
theorem dX6_chance_31 : decode mX6_chance.2.1 31 = .ok (.iconst 2, 1) := by decide +kernel
theorem dX6_chance_32 : decode mX6_chance.2.1 32 = .ok (.invokestatic 83, 3) := by decide +kernel
theorem dX6_chance_35 : decode mX6_chance.2.1 35 = .ok (.ifCond .ne 7, 3) := by decide +kernel
theorem dX6_chance_38 : decode mX6_chance.2.1 38 = .ok (.ldc2_w 236, 3) := by decide +kernel
theorem dX6_chance_41 : decode mX6_chance.2.1 41 = .ok (.lreturn, 1) := by decide +kernel
theorem dX6_chance_42 : decode mX6_chance.2.1 42 = .ok (.aload_n 0, 1) := by decide +kernel
theorem dX6_chance_43 : decode mX6_chance.2.1 43 = .ok (.getfield 19, 3) := by decide +kernel
theorem dX6_chance_46 : decode mX6_chance.2.1 46 = .ok (.aload_n 0, 1) := by decide +kernel
theorem dX6_chance_47 : decode mX6_chance.2.1 47 = .ok (.getfield 19, 3) := by decide +kernel
theorem dX6_chance_50 : decode mX6_chance.2.1 50 = .ok (.iload_n 2, 1) := by decide +kernel
theorem dX6_chance_51 : decode mX6_chance.2.1 51 = .ok (.iconst 1, 1) := by decide +kernel
theorem dX6_chance_52 : decode mX6_chance.2.1 52 = .ok (.iload_n 3, 1) := by decide +kernel
theorem dX6_chance_53 : decode mX6_chance.2.1 53 = .ok (.ishl, 1) := by decide +kernel
theorem dX6_chance_54 : decode mX6_chance.2.1 54 = .ok (.sipush 199, 3) := by decide +kernel
theorem dX6_chance_57 : decode mX6_chance.2.1 57 = .ok (.invokevirtual 201, 3) := by decide +kernel
theorem dX6_chance_60 : decode mX6_chance.2.1 60 = .ok (.invokevirtual 238, 3) := by decide +kernel
theorem dX6_chance_63 : decode mX6_chance.2.1 63 = .ok (.iconst 1, 1) := by decide +kernel
theorem dX6_chance_64 : decode mX6_chance.2.1 64 = .ok (.iload_n 2, 1) := by decide +kernel
theorem dX6_chance_65 : decode mX6_chance.2.1 65 = .ok (.ishl, 1) := by decide +kernel
theorem dX6_chance_66 : decode mX6_chance.2.1 66 = .ok (.ior, 1) := by decide +kernel
theorem dX6_chance_67 : decode mX6_chance.2.1 67 = .ok (.istore 5, 2) := by decide +kernel
theorem dX6_chance_69 : decode mX6_chance.2.1 69 = .ok (.aload_n 0, 1) := by decide +kernel
theorem dX6_chance_70 : decode mX6_chance.2.1 70 = .ok (.iload_n 1, 1) := by decide +kernel
theorem dX6_chance_71 : decode mX6_chance.2.1 71 = .ok (.iload_n 2, 1) := by decide +kernel
theorem dX6_chance_72 : decode mX6_chance.2.1 72 = .ok (.iload_n 3, 1) := by decide +kernel
theorem dX6_chance_73 : decode mX6_chance.2.1 73 = .ok (.iload 5, 2) := by decide +kernel
theorem dX6_chance_75 : decode mX6_chance.2.1 75 = .ok (.invokevirtual 241, 3) := by decide +kernel
theorem dX6_chance_78 : decode mX6_chance.2.1 78 = .ok (.lstore 6, 2) := by decide +kernel
theorem dX6_chance_80 : decode mX6_chance.2.1 80 = .ok (.bipush 16, 2) := by decide +kernel
theorem dX6_chance_82 : decode mX6_chance.2.1 82 = .ok (.iload 5, 2) := by decide +kernel
theorem dX6_chance_84 : decode mX6_chance.2.1 84 = .ok (.invokestatic 190, 3) := by decide +kernel
theorem dX6_chance_87 : decode mX6_chance.2.1 87 = .ok (.invokestatic 245, 3) := by decide +kernel
theorem dX6_chance_90 : decode mX6_chance.2.1 90 = .ok (.lstore 8, 2) := by decide +kernel
theorem dX6_chance_92 : decode mX6_chance.2.1 92 = .ok (.iconst 0, 1) := by decide +kernel
theorem dX6_chance_93 : decode mX6_chance.2.1 93 = .ok (.istore 10, 2) := by decide +kernel
theorem dX6_chance_95 : decode mX6_chance.2.1 95 = .ok (.iload 10, 2) := by decide +kernel
theorem dX6_chance_97 : decode mX6_chance.2.1 97 = .ok (.bipush 40, 2) := by decide +kernel
theorem dX6_chance_99 : decode mX6_chance.2.1 99 = .ok (.if_icmp .ge 37, 3) := by decide +kernel
theorem dX6_chance_102 : decode mX6_chance.2.1 102 = .ok (.lload 8, 2) := by decide +kernel
theorem dX6_chance_104 : decode mX6_chance.2.1 104 = .ok (.lconst 1, 1) := by decide +kernel
theorem dX6_chance_105 : decode mX6_chance.2.1 105 = .ok (.lcmp, 1) := by decide +kernel
theorem dX6_chance_106 : decode mX6_chance.2.1 106 = .ok (.ifCond .le 30, 3) := by decide +kernel
theorem dX6_chance_109 : decode mX6_chance.2.1 109 = .ok (.lload 6, 2) := by decide +kernel
theorem dX6_chance_111 : decode mX6_chance.2.1 111 = .ok (.lconst 1, 1) := by decide +kernel
theorem dX6_chance_112 : decode mX6_chance.2.1 112 = .ok (.land, 1) := by decide +kernel
theorem dX6_chance_113 : decode mX6_chance.2.1 113 = .ok (.lconst 0, 1) := by decide +kernel
theorem dX6_chance_114 : decode mX6_chance.2.1 114 = .ok (.lcmp, 1) := by decide +kernel
theorem dX6_chance_115 : decode mX6_chance.2.1 115 = .ok (.ifCond .ne 21, 3) := by decide +kernel
theorem dX6_chance_118 : decode mX6_chance.2.1 118 = .ok (.lload 6, 2) := by decide +kernel
theorem dX6_chance_120 : decode mX6_chance.2.1 120 = .ok (.iconst 1, 1) := by decide +kernel
theorem dX6_chance_121 : decode mX6_chance.2.1 121 = .ok (.lshr, 1) := by decide +kernel
theorem dX6_chance_122 : decode mX6_chance.2.1 122 = .ok (.lstore 6, 2) := by decide +kernel
theorem dX6_chance_124 : decode mX6_chance.2.1 124 = .ok (.lload 8, 2) := by decide +kernel
theorem dX6_chance_126 : decode mX6_chance.2.1 126 = .ok (.iconst 1, 1) := by decide +kernel
theorem dX6_chance_127 : decode mX6_chance.2.1 127 = .ok (.lshr, 1) := by decide +kernel
theorem dX6_chance_128 : decode mX6_chance.2.1 128 = .ok (.lstore 8, 2) := by decide +kernel
theorem dX6_chance_130 : decode mX6_chance.2.1 130 = .ok (.iinc 10 1, 3) := by decide +kernel
theorem dX6_chance_133 : decode mX6_chance.2.1 133 = .ok (.goto (-38), 3) := by decide +kernel
theorem dX6_chance_136 : decode mX6_chance.2.1 136 = .ok (.iload 4, 2) := by decide +kernel
theorem dX6_chance_138 : decode mX6_chance.2.1 138 = .ok (.ifCond .ne 8, 3) := by decide +kernel
theorem dX6_chance_141 : decode mX6_chance.2.1 141 = .ok (.lload 6, 2) := by decide +kernel
theorem dX6_chance_143 : decode mX6_chance.2.1 143 = .ok (.goto 5, 3) := by decide +kernel
theorem dX6_chance_146 : decode mX6_chance.2.1 146 = .ok (.lload 8, 2) := by decide +kernel
theorem dX6_chance_148 : decode mX6_chance.2.1 148 = .ok (.lreturn, 1) := by decide +kernel
def fn_X6_chance_b136 (n : Nat) (x1 : Int32) (x2 : Int32) (x3 : Int32) (x4 : Int32)  (v6 : Int64) (v8 : Int64) (σ : Sg) : Option (Int64 × Sg) :=
  (if x4 = 0 then (some (v6, σ))
  else (some (v8, σ)))
set_option maxRecDepth 20000 in
set_option maxHeartbeats 4000000 in
theorem ev_X6_chance_b136 (n : Nat) (x1 : Int32) (x2 : Int32) (x3 : Int32) (x4 : Int32)  (v6 : Int64) (v8 : Int64) (σ : Sg) : Ev mX6_chance 6 148 jM 136 [(0, .ref 0), (1, .int x1), (2, .int x2), (3, .int x3), (4, .int x4), (6, .long v6), (8, .long v8)] [] σ (fn_X6_chance_b136 n x1 x2 x3 x4 v6 v8 σ) := by
  unfold fn_X6_chance_b136
  refine ev_iload (pc := 136) 4 dX6_chance_136 rfl ?_
  refine ev_if_ne (pc := 138) (tgt := 146) dX6_chance_138 rfl ?_ ?_
  · refine ev_lload (pc := 141) 5 dX6_chance_141 rfl ?_
    refine ev_goto (pc := 143) (tgt := 148) dX6_chance_143 rfl ?_
    exact ev_lrM rfl dX6_chance_148
  · refine ev_lload (pc := 146) 6 dX6_chance_146 rfl ?_
    exact ev_lrM rfl dX6_chance_148
def fn_X6_chance_b95 (n : Nat) (x1 : Int32) (x2 : Int32) (x3 : Int32) (x4 : Int32)  : Nat → Int64 → Int64 → Int32 → Sg → Option (Int64 × Sg)
  | 0 => fun _ _ _ _ => none
  | i + 1 => fun v6 v8 v10 σ =>
  (if 40 ≤ v10 then (fn_X6_chance_b136 n x1 x2 x3 x4 v6 v8 σ)
  else (if (lg_cmp v8 1) ≤ 0 then (fn_X6_chance_b136 n x1 x2 x3 x4 v6 v8 σ)
  else (if (lg_cmp (v6 &&& 1) 0) = 0 then ((fn_X6_chance_b95 n x1 x2 x3 x4 i) (v6 >>> ((1 : Int32).toInt64 &&& 63)) (v8 >>> ((1 : Int32).toInt64 &&& 63)) (v10 + 1) σ)
  else (fn_X6_chance_b136 n x1 x2 x3 x4 v6 v8 σ))))
theorem fn_X6_chance_b95_s (n : Nat) (x1 : Int32) (x2 : Int32) (x3 : Int32) (x4 : Int32)  (i : Nat) (v6 : Int64) (v8 : Int64) (v10 : Int32) (σ : Sg) : fn_X6_chance_b95 n x1 x2 x3 x4 (i + 1) v6 v8 v10 σ =
  (if 40 ≤ v10 then (fn_X6_chance_b136 n x1 x2 x3 x4 v6 v8 σ)
  else (if (lg_cmp v8 1) ≤ 0 then (fn_X6_chance_b136 n x1 x2 x3 x4 v6 v8 σ)
  else (if (lg_cmp (v6 &&& 1) 0) = 0 then ((fn_X6_chance_b95 n x1 x2 x3 x4 i) (v6 >>> ((1 : Int32).toInt64 &&& 63)) (v8 >>> ((1 : Int32).toInt64 &&& 63)) (v10 + 1) σ)
  else (fn_X6_chance_b136 n x1 x2 x3 x4 v6 v8 σ)))) := rfl
set_option maxRecDepth 20000 in
set_option maxHeartbeats 4000000 in
theorem ev_X6_chance_b95 (n : Nat) (x1 : Int32) (x2 : Int32) (x3 : Int32) (x4 : Int32)  : ∀ (i : Nat) (v6 : Int64) (v8 : Int64) (v10 : Int32) (σ : Sg), Ev mX6_chance 6 148 jM 95 [(0, .ref 0), (1, .int x1), (2, .int x2), (3, .int x3), (4, .int x4), (6, .long v6), (8, .long v8), (10, .int v10)] [] σ (fn_X6_chance_b95 n x1 x2 x3 x4 i v6 v8 v10 σ) := by
  intro i
  induction i with
  | zero =>
    intro v6 v8 v10 σ
    exact ev_none
  | succ i ih =>
    intro v6 v8 v10 σ
    rw [fn_X6_chance_b95_s]
    refine ev_iload (pc := 95) 7 dX6_chance_95 rfl ?_
    refine ev_bipush (pc := 97) (v := 40) dX6_chance_97 (by decide) ?_
    refine ev_icmp_ge (pc := 99) (tgt := 136) dX6_chance_99 rfl ?_ ?_
    · refine ev_sub [0, 1, 2, 3, 4, 5, 6] rfl ?_
      exact ev_X6_chance_b136 n x1 x2 x3 x4 v6 v8 σ
    · refine ev_lload (pc := 102) 6 dX6_chance_102 rfl ?_
      refine ev_lconst (pc := 104) (v := 1) dX6_chance_104 (by decide) ?_
      refine ev_lcmp (pc := 105) dX6_chance_105 ?_
      refine ev_if_le (pc := 106) (tgt := 136) dX6_chance_106 rfl ?_ ?_
      · refine ev_sub [0, 1, 2, 3, 4, 5, 6] rfl ?_
        exact ev_X6_chance_b136 n x1 x2 x3 x4 v6 v8 σ
      · refine ev_lload (pc := 109) 5 dX6_chance_109 rfl ?_
        refine ev_lconst (pc := 111) (v := 1) dX6_chance_111 (by decide) ?_
        refine ev_land (pc := 112) dX6_chance_112 ?_
        refine ev_lconst (pc := 113) (v := 0) dX6_chance_113 (by decide) ?_
        refine ev_lcmp (pc := 114) dX6_chance_114 ?_
        refine ev_if_ne (pc := 115) (tgt := 136) dX6_chance_115 rfl ?_ ?_
        · refine ev_lload (pc := 118) 5 dX6_chance_118 rfl ?_
          refine ev_iconst (pc := 120) (v := 1) dX6_chance_120 (by decide) ?_
          refine ev_lshr (pc := 121) dX6_chance_121 ?_
          refine ev_lstore (pc := 122) (lv' := [(6, .long (v6 >>> ((1 : Int32).toInt64 &&& 63))), (0, .ref 0), (1, .int x1), (2, .int x2), (3, .int x3), (4, .int x4), (8, .long v8), (10, .int v10)]) dX6_chance_122 (Nat.le_of_ble_eq_true rfl) rfl ?_
          refine ev_lload (pc := 124) 6 dX6_chance_124 rfl ?_
          refine ev_iconst (pc := 126) (v := 1) dX6_chance_126 (by decide) ?_
          refine ev_lshr (pc := 127) dX6_chance_127 ?_
          refine ev_lstore (pc := 128) (lv' := [(8, .long (v8 >>> ((1 : Int32).toInt64 &&& 63))), (6, .long (v6 >>> ((1 : Int32).toInt64 &&& 63))), (0, .ref 0), (1, .int x1), (2, .int x2), (3, .int x3), (4, .int x4), (10, .int v10)]) dX6_chance_128 (Nat.le_of_ble_eq_true rfl) rfl ?_
          refine ev_iinc (pc := 130) (v := (v10 + 1)) (lv' := [(10, .int (v10 + 1)), (8, .long (v8 >>> ((1 : Int32).toInt64 &&& 63))), (6, .long (v6 >>> ((1 : Int32).toInt64 &&& 63))), (0, .ref 0), (1, .int x1), (2, .int x2), (3, .int x3), (4, .int x4)]) 7 dX6_chance_130 rfl rfl (Nat.le_of_ble_eq_true rfl) rfl ?_
          refine ev_goto (pc := 133) (tgt := 95) dX6_chance_133 rfl ?_
          refine ev_sub [3, 4, 5, 6, 7, 2, 1, 0] rfl ?_
          exact ih (v6 >>> ((1 : Int32).toInt64 &&& 63)) (v8 >>> ((1 : Int32).toInt64 &&& 63)) (v10 + 1) σ
        · refine ev_sub [0, 1, 2, 3, 4, 5, 6] rfl ?_
          exact ev_X6_chance_b136 n x1 x2 x3 x4 v6 v8 σ
def fn_X6_chance (n : Nat) (x1 : Int32) (x2 : Int32) (x3 : Int32) (x4 : Int32) (σ : Sg) : Option (Int64 × Sg) :=
  (Option.bind (fn_X6_isBelow x1 17 σ) fun q169 =>
  (if q169 = 0 then (some ((-9223372036854775806), σ))
  else (Option.bind (fn_X1_isThere 4 x2 σ) fun q170 =>
  (if q170 = 0 then (some ((-9223372036854775806), σ))
  else (Option.bind (fn_X6_isBelow x3 8 σ) fun q171 =>
  (if q171 = 0 then (some ((-9223372036854775806), σ))
  else (Option.bind (fn_X6_isBelow x4 2 σ) fun q172 =>
  (if q172 = 0 then (some ((-9223372036854775806), σ))
  else (Option.bind (fn_X5_helpfulFor n 3 x2 (1 <<< (x3 &&& 31)) 199 σ) fun q173 =>
  (Option.bind (fn_X5_involvedIn n 3 q173.1 q173.2) fun q174 =>
  (Option.bind (fn_X6_weightOfKnowing n x1 x2 x3 (q174 ||| (1 <<< (x2 &&& 31))) q173.2) fun q175 =>
  (Option.bind (fn_J6_bitCount_0f7a4 (q174 ||| (1 <<< (x2 &&& 31))) q175.2) fun q176 =>
  (Option.bind (fn_X6_power n 16 q176 q175.2) fun q177 =>
  (fn_X6_chance_b95 n x1 x2 x3 x4 n q175.1 q177 0 q175.2))))))))))))))
set_option maxRecDepth 20000 in
set_option maxHeartbeats 4000000 in
theorem im_X6_chance (n : Nat) (x1 : Int32) (x2 : Int32) (x3 : Int32) (x4 : Int32) (σ : Sg) : Im yX6_chance mX6_chance 6 148 jM [.ref 0, .int x1, .int x2, .int x3, .int x4] σ (fn_X6_chance n x1 x2 x3 x4 σ) := by
  refine Im.of (by decide +kernel) rfl rfl (Nat.le_of_ble_eq_true rfl) ?_
  show Ev mX6_chance 6 148 jM 0 [(0, .ref 0), (1, .int x1), (2, .int x2), (3, .int x3), (4, .int x4)] [] σ (fn_X6_chance n x1 x2 x3 x4 σ)
  unfold fn_X6_chance
  refine ev_iload_n (pc := 0) (i := 1) 1 dX6_chance_0 rfl rfl ?_
  refine ev_bipush (pc := 1) (v := 17) dX6_chance_1 (by decide) ?_
  refine ev_sI (pc := 3) (as := [.int x1, .int 17]) (rest := []) ⟨83, ms_X6_isBelow, ag_ml_X6_83, rfl, (Nat.le_of_ble_eq_true rfl), ⟨(Nat.le_of_ble_eq_true rfl), (Nat.le_of_ble_eq_true rfl)⟩, dX6_chance_3⟩ (im_X6_isBelow x1 17 σ) (fun q169 => ?_)
  refine ev_if_eq (pc := 6) (tgt := 38) dX6_chance_6 rfl ?_ ?_
  · refine ev_ldc2 (pc := 38) (v := (-9223372036854775806)) dX6_chance_38 ag_kl_X6_236 ?_
    exact ev_lrM rfl dX6_chance_41
  · refine ev_aload_n (pc := 9) (i := 0) 0 dX6_chance_9 rfl rfl ?_
    refine ev_getR (pc := 10) (t := 4) 3 ag_C6 (rfl) (by decide) (Nat.le_of_ble_eq_true rfl) rfl rfl ag_fl_X6_30 dX6_chance_10 ?_
    refine ev_iload_n (pc := 13) (i := 2) 2 dX6_chance_13 rfl rfl ?_
    refine ev_vI (pc := 14) (as := [.int x2]) (rest := []) ⟨1, 68, 6, TX1, tyX1, ag_C1, ⟨(rfl), (by decide)⟩, mv_X1_isThere, ag_ml_X6_68, rfl, (Nat.le_of_ble_eq_true rfl), ⟨(Nat.le_of_ble_eq_true rfl), (Nat.le_of_ble_eq_true rfl)⟩, dX6_chance_14⟩ (im_X1_isThere 4 (Or.inl rfl) x2 σ) (fun q170 => ?_)
    refine ev_if_eq (pc := 17) (tgt := 38) dX6_chance_17 rfl ?_ ?_
    · refine ev_ldc2 (pc := 38) (v := (-9223372036854775806)) dX6_chance_38 ag_kl_X6_236 ?_
      exact ev_lrM rfl dX6_chance_41
    · refine ev_iload_n (pc := 20) (i := 3) 3 dX6_chance_20 rfl rfl ?_
      refine ev_bipush (pc := 21) (v := 8) dX6_chance_21 (by decide) ?_
      refine ev_sI (pc := 23) (as := [.int x3, .int 8]) (rest := []) ⟨83, ms_X6_isBelow, ag_ml_X6_83, rfl, (Nat.le_of_ble_eq_true rfl), ⟨(Nat.le_of_ble_eq_true rfl), (Nat.le_of_ble_eq_true rfl)⟩, dX6_chance_23⟩ (im_X6_isBelow x3 8 σ) (fun q171 => ?_)
      refine ev_if_eq (pc := 26) (tgt := 38) dX6_chance_26 rfl ?_ ?_
      · refine ev_ldc2 (pc := 38) (v := (-9223372036854775806)) dX6_chance_38 ag_kl_X6_236 ?_
        exact ev_lrM rfl dX6_chance_41
      · refine ev_iload (pc := 29) 4 dX6_chance_29 rfl ?_
        refine ev_iconst (pc := 31) (v := 2) dX6_chance_31 (by decide) ?_
        refine ev_sI (pc := 32) (as := [.int x4, .int 2]) (rest := []) ⟨83, ms_X6_isBelow, ag_ml_X6_83, rfl, (Nat.le_of_ble_eq_true rfl), ⟨(Nat.le_of_ble_eq_true rfl), (Nat.le_of_ble_eq_true rfl)⟩, dX6_chance_32⟩ (im_X6_isBelow x4 2 σ) (fun q172 => ?_)
        refine ev_if_ne (pc := 35) (tgt := 42) dX6_chance_35 rfl ?_ ?_
        · refine ev_ldc2 (pc := 38) (v := (-9223372036854775806)) dX6_chance_38 ag_kl_X6_236 ?_
          exact ev_lrM rfl dX6_chance_41
        · refine ev_aload_n (pc := 42) (i := 0) 0 dX6_chance_42 rfl rfl ?_
          refine ev_getR (pc := 43) (t := 3) 1 ag_C6 (rfl) (by decide) (Nat.le_of_ble_eq_true rfl) rfl rfl ag_fl_X6_19 dX6_chance_43 ?_
          refine ev_aload_n (pc := 46) (i := 0) 0 dX6_chance_46 rfl rfl ?_
          refine ev_getR (pc := 47) (t := 3) 1 ag_C6 (rfl) (by decide) (Nat.le_of_ble_eq_true rfl) rfl rfl ag_fl_X6_19 dX6_chance_47 ?_
          refine ev_iload_n (pc := 50) (i := 2) 2 dX6_chance_50 rfl rfl ?_
          refine ev_iconst (pc := 51) (v := 1) dX6_chance_51 (by decide) ?_
          refine ev_iload_n (pc := 52) (i := 3) 3 dX6_chance_52 rfl rfl ?_
          refine ev_ishl (pc := 53) dX6_chance_53 ?_
          refine ev_sipush (pc := 54) (v := 199) dX6_chance_54 (by decide) ?_
          refine ev_vW (pc := 57) (as := [.int x2, .int (1 <<< (x3 &&& 31)), .int 199]) (rest := [.ref 3]) ⟨5, 201, 10, TX5, tyX5, ag_C5, ⟨(rfl), (by decide)⟩, mv_X5_helpfulFor, ag_ml_X6_201, rfl, (Nat.le_of_ble_eq_true rfl), ⟨(Nat.le_of_ble_eq_true rfl), (Nat.le_of_ble_eq_true rfl)⟩, dX6_chance_57⟩ (im_X5_helpfulFor n 3 (Or.inl rfl) x2 (1 <<< (x3 &&& 31)) 199 σ) (fun q173 => ?_)
          refine ev_vI (pc := 60) (as := [.int q173.1]) (rest := []) ⟨5, 238, 10, TX5, tyX5, ag_C5, ⟨(rfl), (by decide)⟩, mv_X5_involvedIn, ag_ml_X6_238, rfl, (Nat.le_of_ble_eq_true rfl), ⟨(Nat.le_of_ble_eq_true rfl), (Nat.le_of_ble_eq_true rfl)⟩, dX6_chance_60⟩ (im_X5_involvedIn n 3 (Or.inl rfl) q173.1 q173.2) (fun q174 => ?_)
          refine ev_iconst (pc := 63) (v := 1) dX6_chance_63 (by decide) ?_
          refine ev_iload_n (pc := 64) (i := 2) 2 dX6_chance_64 rfl rfl ?_
          refine ev_ishl (pc := 65) dX6_chance_65 ?_
          refine ev_ior (pc := 66) dX6_chance_66 ?_
          refine ev_istore (pc := 67) (lv' := [(5, .int (q174 ||| (1 <<< (x2 &&& 31)))), (0, .ref 0), (1, .int x1), (2, .int x2), (3, .int x3), (4, .int x4)]) dX6_chance_67 (Nat.le_of_ble_eq_true rfl) rfl ?_
          refine ev_aload_n (pc := 69) (i := 0) 1 dX6_chance_69 rfl rfl ?_
          refine ev_iload_n (pc := 70) (i := 1) 2 dX6_chance_70 rfl rfl ?_
          refine ev_iload_n (pc := 71) (i := 2) 3 dX6_chance_71 rfl rfl ?_
          refine ev_iload_n (pc := 72) (i := 3) 4 dX6_chance_72 rfl rfl ?_
          refine ev_iload (pc := 73) 0 dX6_chance_73 rfl ?_
          refine ev_vM (pc := 75) (as := [.int x1, .int x2, .int x3, .int (q174 ||| (1 <<< (x2 &&& 31)))]) (rest := []) ⟨6, 241, 8, TX6, tyX6, ag_C6, ⟨(rfl), (by decide)⟩, mv_X6_weightOfKnowing, ag_ml_X6_241, rfl, (Nat.le_of_ble_eq_true rfl), ⟨(Nat.le_of_ble_eq_true rfl), (Nat.le_of_ble_eq_true rfl)⟩, dX6_chance_75⟩ (im_X6_weightOfKnowing n x1 x2 x3 (q174 ||| (1 <<< (x2 &&& 31))) q173.2) (fun q175 => ?_)
          refine ev_lstore (pc := 78) (lv' := [(6, .long q175.1), (5, .int (q174 ||| (1 <<< (x2 &&& 31)))), (0, .ref 0), (1, .int x1), (2, .int x2), (3, .int x3), (4, .int x4)]) dX6_chance_78 (Nat.le_of_ble_eq_true rfl) rfl ?_
          refine ev_bipush (pc := 80) (v := 16) dX6_chance_80 (by decide) ?_
          refine ev_iload (pc := 82) 1 dX6_chance_82 rfl ?_
          refine ev_sI (pc := 84) (as := [.int (q174 ||| (1 <<< (x2 &&& 31)))]) (rest := [.int 16]) ⟨190, ms_J6_bitCount_0f7a4, ag_ml_X6_190, rfl, (Nat.le_of_ble_eq_true rfl), ⟨(Nat.le_of_ble_eq_true rfl), (Nat.le_of_ble_eq_true rfl)⟩, dX6_chance_84⟩ (im_J6_bitCount_0f7a4 (q174 ||| (1 <<< (x2 &&& 31))) q175.2) (fun q176 => ?_)
          refine ev_sL (pc := 87) (as := [.int 16, .int q176]) (rest := []) ⟨245, ms_X6_power, ag_ml_X6_245, rfl, (Nat.le_of_ble_eq_true rfl), ⟨(Nat.le_of_ble_eq_true rfl), (Nat.le_of_ble_eq_true rfl)⟩, dX6_chance_87⟩ (im_X6_power n 16 q176 q175.2) (fun q177 => ?_)
          refine ev_lstore (pc := 90) (lv' := [(8, .long q177), (6, .long q175.1), (5, .int (q174 ||| (1 <<< (x2 &&& 31)))), (0, .ref 0), (1, .int x1), (2, .int x2), (3, .int x3), (4, .int x4)]) dX6_chance_90 (Nat.le_of_ble_eq_true rfl) rfl ?_
          refine ev_iconst (pc := 92) (v := 0) dX6_chance_92 (by decide) ?_
          refine ev_istore (pc := 93) (lv' := [(10, .int 0), (8, .long q177), (6, .long q175.1), (5, .int (q174 ||| (1 <<< (x2 &&& 31)))), (0, .ref 0), (1, .int x1), (2, .int x2), (3, .int x3), (4, .int x4)]) dX6_chance_93 (Nat.le_of_ble_eq_true rfl) rfl ?_
          refine ev_sub [4, 5, 6, 7, 8, 2, 1, 0] rfl ?_
          exact ev_X6_chance_b95 n x1 x2 x3 x4 n q175.1 q177 0 q175.2
-- X6_drawn
def mX6_drawn : Md := (RX6, cX6_drawn, 6, some .int, none)
theorem mv_X6_drawn : ag_Mv yX6_drawn mX6_drawn 2 := ⟨ag_co_X6_drawn, ag_im_X6_drawn, ag_se_X6_drawn, ag_ini_X6, by decide +kernel⟩
theorem dX6_drawn_0 : decode mX6_drawn.2.1 0 = .ok (.iload_n 2, 1) := by decide +kernel
theorem dX6_drawn_1 : decode mX6_drawn.2.1 1 = .ok (.bipush 17, 2) := by decide +kernel
theorem dX6_drawn_3 : decode mX6_drawn.2.1 3 = .ok (.invokestatic 83, 3) := by decide +kernel
theorem dX6_drawn_6 : decode mX6_drawn.2.1 6 = .ok (.ifCond .ne 6, 3) := by decide +kernel
theorem dX6_drawn_9 : decode mX6_drawn.2.1 9 = .ok (.bipush (-2), 2) := by decide +kernel
theorem dX6_drawn_11 : decode mX6_drawn.2.1 11 = .ok (.ireturn, 1) := by decide +kernel
theorem dX6_drawn_12 : decode mX6_drawn.2.1 12 = .ok (.iload_n 1, 1) := by decide +kernel
theorem dX6_drawn_13 : decode mX6_drawn.2.1 13 = .ok (.istore_n 3, 1) := by decide +kernel
theorem dX6_drawn_14 : decode mX6_drawn.2.1 14 = .ok (.iconst 0, 1) := by decide +kernel
theorem dX6_drawn_15 : decode mX6_drawn.2.1 15 = .ok (.istore 4, 2) := by decide +kernel
theorem dX6_drawn_17 : decode mX6_drawn.2.1 17 = .ok (.iconst 0, 1) := by decide +kernel
theorem dX6_drawn_18 : decode mX6_drawn.2.1 18 = .ok (.istore 5, 2) := by decide +kernel
theorem dX6_drawn_20 : decode mX6_drawn.2.1 20 = .ok (.iload 5, 2) := by decide +kernel
theorem dX6_drawn_22 : decode mX6_drawn.2.1 22 = .ok (.aload_n 0, 1) := by decide +kernel
theorem dX6_drawn_23 : decode mX6_drawn.2.1 23 = .ok (.getfield 30, 3) := by decide +kernel
theorem dX6_drawn_26 : decode mX6_drawn.2.1 26 = .ok (.getfield 172, 3) := by decide +kernel
theorem dX6_drawn_29 : decode mX6_drawn.2.1 29 = .ok (.if_icmp .ge 39, 3) := by decide +kernel
theorem dX6_drawn_32 : decode mX6_drawn.2.1 32 = .ok (.ldc_w 256, 3) := by decide +kernel
theorem dX6_drawn_35 : decode mX6_drawn.2.1 35 = .ok (.iload_n 3, 1) := by decide +kernel
theorem dX6_drawn_36 : decode mX6_drawn.2.1 36 = .ok (.imul, 1) := by decide +kernel
theorem dX6_drawn_37 : decode mX6_drawn.2.1 37 = .ok (.sipush 12345, 3) := by decide +kernel
theorem dX6_drawn_40 : decode mX6_drawn.2.1 40 = .ok (.iadd, 1) := by decide +kernel
theorem dX6_drawn_41 : decode mX6_drawn.2.1 41 = .ok (.istore_n 3, 1) := by decide +kernel
theorem dX6_drawn_42 : decode mX6_drawn.2.1 42 = .ok (.iload_n 3, 1) := by decide +kernel
theorem dX6_drawn_43 : decode mX6_drawn.2.1 43 = .ok (.bipush 16, 2) := by decide +kernel
theorem dX6_drawn_45 : decode mX6_drawn.2.1 45 = .ok (.iushr, 1) := by decide +kernel
theorem dX6_drawn_46 : decode mX6_drawn.2.1 46 = .ok (.bipush 16, 2) := by decide +kernel
theorem dX6_drawn_48 : decode mX6_drawn.2.1 48 = .ok (.irem, 1) := by decide +kernel
theorem dX6_drawn_49 : decode mX6_drawn.2.1 49 = .ok (.iload_n 2, 1) := by decide +kernel
theorem dX6_drawn_50 : decode mX6_drawn.2.1 50 = .ok (.if_icmp .ge 12, 3) := by decide +kernel
theorem dX6_drawn_53 : decode mX6_drawn.2.1 53 = .ok (.iload 4, 2) := by decide +kernel
theorem dX6_drawn_55 : decode mX6_drawn.2.1 55 = .ok (.iconst 1, 1) := by decide +kernel
theorem dX6_drawn_56 : decode mX6_drawn.2.1 56 = .ok (.iload 5, 2) := by decide +kernel
theorem dX6_drawn_58 : decode mX6_drawn.2.1 58 = .ok (.ishl, 1) := by decide +kernel
theorem dX6_drawn_59 : decode mX6_drawn.2.1 59 = .ok (.ior, 1) := by decide +kernel
theorem dX6_drawn_60 : decode mX6_drawn.2.1 60 = .ok (.istore 4, 2) := by decide +kernel
theorem dX6_drawn_62 : decode mX6_drawn.2.1 62 = .ok (.iinc 5 1, 3) := by decide +kernel
theorem dX6_drawn_65 : decode mX6_drawn.2.1 65 = .ok (.goto (-45), 3) := by decide +kernel
theorem dX6_drawn_68 : decode mX6_drawn.2.1 68 = .ok (.aload_n 0, 1) := by decide +kernel
theorem dX6_drawn_69 : decode mX6_drawn.2.1 69 = .ok (.getfield 23, 3) := by decide +kernel
theorem dX6_drawn_72 : decode mX6_drawn.2.1 72 = .ok (.aload_n 0, 1) := by decide +kernel
theorem dX6_drawn_73 : decode mX6_drawn.2.1 73 = .ok (.getfield 19, 3) := by decide +kernel
theorem dX6_drawn_76 : decode mX6_drawn.2.1 76 = .ok (.invokevirtual 159, 3) := by decide +kernel
theorem dX6_drawn_79 : decode mX6_drawn.2.1 79 = .ok (.aload_n 0, 1) := by decide +kernel
theorem dX6_drawn_80 : decode mX6_drawn.2.1 80 = .ok (.getfield 23, 3) := by decide +kernel
theorem dX6_drawn_83 : decode mX6_drawn.2.1 83 = .ok (.getfield 26, 3) := by decide +kernel
theorem dX6_drawn_86 : decode mX6_drawn.2.1 86 = .ok (.aload_n 0, 1) := by decide +kernel
theorem dX6_drawn_87 : decode mX6_drawn.2.1 87 = .ok (.getfield 30, 3) := by decide +kernel
theorem dX6_drawn_90 : decode mX6_drawn.2.1 90 = .ok (.iload 4, 2) := by decide +kernel
theorem dX6_drawn_92 : decode mX6_drawn.2.1 92 = .ok (.invokevirtual 252, 3) := by decide +kernel
theorem dX6_drawn_95 : decode mX6_drawn.2.1 95 = .ok (.aload_n 0, 1) := by decide +kernel
theorem dX6_drawn_96 : decode mX6_drawn.2.1 96 = .ok (.getfield 23, 3) := by decide +kernel
theorem dX6_drawn_99 : decode mX6_drawn.2.1 99 = .ok (.invokevirtual 90, 3) := by decide +kernel
theorem dX6_drawn_102 : decode mX6_drawn.2.1 102 = .ok (.aload_n 0, 1) := by decide +kernel
theorem dX6_drawn_103 : decode mX6_drawn.2.1 103 = .ok (.getfield 23, 3) := by decide +kernel
theorem dX6_drawn_106 : decode mX6_drawn.2.1 106 = .ok (.getfield 150, 3) := by decide +kernel
theorem dX6_drawn_109 : decode mX6_drawn.2.1 109 = .ok (.ireturn, 1) := by decide +kernel
def fn_X6_drawn_b62 (n : Nat) (x1 : Int32) (x2 : Int32) (k20 : Int32 → Int32 → Int32 → Sg → Option (Int32 × Sg)) (v3 : Int32) (v4 : Int32) (v5 : Int32) (σ : Sg) : Option (Int32 × Sg) :=
  (k20 v3 v4 (v5 + 1) σ)
set_option maxRecDepth 20000 in
set_option maxHeartbeats 4000000 in
theorem ev_X6_drawn_b62 (n : Nat) (x1 : Int32) (x2 : Int32) (k20 : Int32 → Int32 → Int32 → Sg → Option (Int32 × Sg)) (hk20 : ∀ (v3 : Int32) (v4 : Int32) (v5 : Int32) (σ : Sg), Ev mX6_drawn 4 102 jW 20 [(0, .ref 0), (1, .int x1), (2, .int x2), (3, .int v3), (4, .int v4), (5, .int v5)] [] σ (k20 v3 v4 v5 σ)) (v3 : Int32) (v4 : Int32) (v5 : Int32) (σ : Sg) : Ev mX6_drawn 4 102 jW 62 [(0, .ref 0), (1, .int x1), (2, .int x2), (3, .int v3), (4, .int v4), (5, .int v5)] [] σ (fn_X6_drawn_b62 n x1 x2 k20 v3 v4 v5 σ) := by
  unfold fn_X6_drawn_b62
  refine ev_iinc (pc := 62) (v := (v5 + 1)) (lv' := [(5, .int (v5 + 1)), (0, .ref 0), (1, .int x1), (2, .int x2), (3, .int v3), (4, .int v4)]) 5 dX6_drawn_62 rfl rfl (Nat.le_of_ble_eq_true rfl) rfl ?_
  refine ev_goto (pc := 65) (tgt := 20) dX6_drawn_65 rfl ?_
  refine ev_sub [1, 2, 3, 4, 5, 0] rfl ?_
  exact hk20 v3 v4 (v5 + 1) σ
def fn_X6_drawn_b20 (n : Nat) (x1 : Int32) (x2 : Int32)  : Nat → Int32 → Int32 → Int32 → Sg → Option (Int32 × Sg)
  | 0 => fun _ _ _ _ => none
  | i + 1 => fun v3 v4 v5 σ =>
  (if (σ 4 0) ≤ v5 then (Option.bind (fn_X5_takeFrom 21 3 σ) fun q178 =>
  (Option.bind (fn_X1_shorten n 22 4 v4 q178) fun q179 =>
  (Option.bind (fn_X5_live n 21 q179) fun q180 =>
  (some ((q180 21 4), q180)))))
  else (if x2 ≤ ((ag_ushr ((1103515245 * v3) + 12345) 16) - (ag_ushr ((1103515245 * v3) + 12345) 16) / 16 * 16) then (fn_X6_drawn_b62 n x1 x2 (fn_X6_drawn_b20 n x1 x2 i) ((1103515245 * v3) + 12345) v4 v5 σ)
  else (fn_X6_drawn_b62 n x1 x2 (fn_X6_drawn_b20 n x1 x2 i) ((1103515245 * v3) + 12345) (v4 ||| (1 <<< (v5 &&& 31))) v5 σ)))
theorem fn_X6_drawn_b20_s (n : Nat) (x1 : Int32) (x2 : Int32)  (i : Nat) (v3 : Int32) (v4 : Int32) (v5 : Int32) (σ : Sg) : fn_X6_drawn_b20 n x1 x2 (i + 1) v3 v4 v5 σ =
  (if (σ 4 0) ≤ v5 then (Option.bind (fn_X5_takeFrom 21 3 σ) fun q178 =>
  (Option.bind (fn_X1_shorten n 22 4 v4 q178) fun q179 =>
  (Option.bind (fn_X5_live n 21 q179) fun q180 =>
  (some ((q180 21 4), q180)))))
  else (if x2 ≤ ((ag_ushr ((1103515245 * v3) + 12345) 16) - (ag_ushr ((1103515245 * v3) + 12345) 16) / 16 * 16) then (fn_X6_drawn_b62 n x1 x2 (fn_X6_drawn_b20 n x1 x2 i) ((1103515245 * v3) + 12345) v4 v5 σ)
  else (fn_X6_drawn_b62 n x1 x2 (fn_X6_drawn_b20 n x1 x2 i) ((1103515245 * v3) + 12345) (v4 ||| (1 <<< (v5 &&& 31))) v5 σ))) := rfl
set_option maxRecDepth 20000 in
set_option maxHeartbeats 4000000 in
theorem ev_X6_drawn_b20 (n : Nat) (x1 : Int32) (x2 : Int32)  : ∀ (i : Nat) (v3 : Int32) (v4 : Int32) (v5 : Int32) (σ : Sg), Ev mX6_drawn 4 102 jW 20 [(0, .ref 0), (1, .int x1), (2, .int x2), (3, .int v3), (4, .int v4), (5, .int v5)] [] σ (fn_X6_drawn_b20 n x1 x2 i v3 v4 v5 σ) := by
  intro i
  induction i with
  | zero =>
    intro v3 v4 v5 σ
    exact ev_none
  | succ i ih =>
    intro v3 v4 v5 σ
    rw [fn_X6_drawn_b20_s]
    refine ev_iload (pc := 20) 5 dX6_drawn_20 rfl ?_
    refine ev_aload_n (pc := 22) (i := 0) 0 dX6_drawn_22 rfl rfl ?_
    refine ev_getR (pc := 23) (t := 4) 3 ag_C6 (rfl) (by decide) (Nat.le_of_ble_eq_true rfl) rfl rfl ag_fl_X6_30 dX6_drawn_23 ?_
    refine ev_getI (pc := 26) 0 ag_C1 (rfl) (by decide) (Nat.le_of_ble_eq_true rfl) rfl rfl ag_fl_X6_172 dX6_drawn_26 ?_
    refine ev_icmp_ge (pc := 29) (tgt := 68) dX6_drawn_29 rfl ?_ ?_
    · refine ev_aload_n (pc := 68) (i := 0) 0 dX6_drawn_68 rfl rfl ?_
      refine ev_getR (pc := 69) (t := 21) 2 ag_C6 (rfl) (by decide) (Nat.le_of_ble_eq_true rfl) rfl rfl ag_fl_X6_23 dX6_drawn_69 ?_
      refine ev_aload_n (pc := 72) (i := 0) 0 dX6_drawn_72 rfl rfl ?_
      refine ev_getR (pc := 73) (t := 3) 1 ag_C6 (rfl) (by decide) (Nat.le_of_ble_eq_true rfl) rfl rfl ag_fl_X6_19 dX6_drawn_73 ?_
      refine ev_vV (pc := 76) (as := [.ref 3]) (rest := []) ⟨5, 159, 10, TX5, tyX5, ag_C5, ⟨(rfl), (by decide)⟩, mv_X5_takeFrom, ag_ml_X6_159, rfl, (Nat.le_of_ble_eq_true rfl), ⟨(Nat.le_of_ble_eq_true rfl), (Nat.le_of_ble_eq_true rfl)⟩, dX6_drawn_76⟩ (im_X5_takeFrom 21 (Or.inr rfl) 3 (Or.inl rfl) σ) (fun q178 => ?_)
      refine ev_aload_n (pc := 79) (i := 0) 0 dX6_drawn_79 rfl rfl ?_
      refine ev_getR (pc := 80) (t := 21) 2 ag_C6 (rfl) (by decide) (Nat.le_of_ble_eq_true rfl) rfl rfl ag_fl_X6_23 dX6_drawn_80 ?_
      refine ev_getR (pc := 83) (t := 22) 0 ag_C5 (rfl) (by decide) (Nat.le_of_ble_eq_true rfl) rfl rfl ag_fl_X6_26 dX6_drawn_83 ?_
      refine ev_aload_n (pc := 86) (i := 0) 0 dX6_drawn_86 rfl rfl ?_
      refine ev_getR (pc := 87) (t := 4) 3 ag_C6 (rfl) (by decide) (Nat.le_of_ble_eq_true rfl) rfl rfl ag_fl_X6_30 dX6_drawn_87 ?_
      refine ev_iload (pc := 90) 4 dX6_drawn_90 rfl ?_
      refine ev_vV (pc := 92) (as := [.ref 4, .int v4]) (rest := []) ⟨1, 252, 6, TX1, tyX1, ag_C1, ⟨(rfl), (by decide)⟩, mv_X1_shorten, ag_ml_X6_252, rfl, (Nat.le_of_ble_eq_true rfl), ⟨(Nat.le_of_ble_eq_true rfl), (Nat.le_of_ble_eq_true rfl)⟩, dX6_drawn_92⟩ (im_X1_shorten n 22 (Or.inr rfl) 4 (Or.inl rfl) v4 q178) (fun q179 => ?_)
      refine ev_aload_n (pc := 95) (i := 0) 0 dX6_drawn_95 rfl rfl ?_
      refine ev_getR (pc := 96) (t := 21) 2 ag_C6 (rfl) (by decide) (Nat.le_of_ble_eq_true rfl) rfl rfl ag_fl_X6_23 dX6_drawn_96 ?_
      refine ev_vV (pc := 99) (as := []) (rest := []) ⟨5, 90, 10, TX5, tyX5, ag_C5, ⟨(rfl), (by decide)⟩, mv_X5_live, ag_ml_X6_90, rfl, (Nat.le_of_ble_eq_true rfl), ⟨(Nat.le_of_ble_eq_true rfl), (Nat.le_of_ble_eq_true rfl)⟩, dX6_drawn_99⟩ (im_X5_live n 21 (Or.inr rfl) q179) (fun q180 => ?_)
      refine ev_aload_n (pc := 102) (i := 0) 0 dX6_drawn_102 rfl rfl ?_
      refine ev_getR (pc := 103) (t := 21) 2 ag_C6 (rfl) (by decide) (Nat.le_of_ble_eq_true rfl) rfl rfl ag_fl_X6_23 dX6_drawn_103 ?_
      refine ev_getI (pc := 106) 4 ag_C5 (rfl) (by decide) (Nat.le_of_ble_eq_true rfl) rfl rfl ag_fl_X6_150 dX6_drawn_106 ?_
      exact ev_irW rfl dX6_drawn_109
    · refine ev_ldcw (pc := 32) (v := 1103515245) dX6_drawn_32 ag_kc_X6_256 ?_
      refine ev_iload_n (pc := 35) (i := 3) 3 dX6_drawn_35 rfl rfl ?_
      refine ev_imul (pc := 36) dX6_drawn_36 ?_
      refine ev_sipush (pc := 37) (v := 12345) dX6_drawn_37 (by decide) ?_
      refine ev_iadd (pc := 40) dX6_drawn_40 ?_
      refine ev_istore_n (pc := 41) (i := 3) (lv' := [(3, .int ((1103515245 * v3) + 12345)), (0, .ref 0), (1, .int x1), (2, .int x2), (4, .int v4), (5, .int v5)]) dX6_drawn_41 rfl (Nat.le_of_ble_eq_true rfl) rfl ?_
      refine ev_iload_n (pc := 42) (i := 3) 0 dX6_drawn_42 rfl rfl ?_
      refine ev_bipush (pc := 43) (v := 16) dX6_drawn_43 (by decide) ?_
      refine ev_iushr (pc := 45) dX6_drawn_45 ?_
      refine ev_bipush (pc := 46) (v := 16) dX6_drawn_46 (by decide) ?_
      refine ev_irem (pc := 48) dX6_drawn_48 (by decide) ?_
      refine ev_iload_n (pc := 49) (i := 2) 3 dX6_drawn_49 rfl rfl ?_
      refine ev_icmp_ge (pc := 50) (tgt := 62) dX6_drawn_50 rfl ?_ ?_
      · refine ev_sub [1, 2, 3, 0, 4, 5] rfl ?_
        exact ev_X6_drawn_b62 n x1 x2 (fn_X6_drawn_b20 n x1 x2 i) ih ((1103515245 * v3) + 12345) v4 v5 σ
      · refine ev_iload (pc := 53) 4 dX6_drawn_53 rfl ?_
        refine ev_iconst (pc := 55) (v := 1) dX6_drawn_55 (by decide) ?_
        refine ev_iload (pc := 56) 5 dX6_drawn_56 rfl ?_
        refine ev_ishl (pc := 58) dX6_drawn_58 ?_
        refine ev_ior (pc := 59) dX6_drawn_59 ?_
        refine ev_istore (pc := 60) (lv' := [(4, .int (v4 ||| (1 <<< (v5 &&& 31)))), (3, .int ((1103515245 * v3) + 12345)), (0, .ref 0), (1, .int x1), (2, .int x2), (5, .int v5)]) dX6_drawn_60 (Nat.le_of_ble_eq_true rfl) rfl ?_
        refine ev_sub [2, 3, 4, 1, 0, 5] rfl ?_
        exact ev_X6_drawn_b62 n x1 x2 (fn_X6_drawn_b20 n x1 x2 i) ih ((1103515245 * v3) + 12345) (v4 ||| (1 <<< (v5 &&& 31))) v5 σ
def fn_X6_drawn (n : Nat) (x1 : Int32) (x2 : Int32) (σ : Sg) : Option (Int32 × Sg) :=
  (Option.bind (fn_X6_isBelow x2 17 σ) fun q181 =>
  (if q181 = 0 then (some ((-2), σ))
  else (fn_X6_drawn_b20 n x1 x2 n x1 0 0 σ)))
set_option maxRecDepth 20000 in
set_option maxHeartbeats 4000000 in
theorem im_X6_drawn (n : Nat) (x1 : Int32) (x2 : Int32) (σ : Sg) : Im yX6_drawn mX6_drawn 4 102 jW [.ref 0, .int x1, .int x2] σ (fn_X6_drawn n x1 x2 σ) := by
  refine Im.of (by decide +kernel) rfl rfl (Nat.le_of_ble_eq_true rfl) ?_
  show Ev mX6_drawn 4 102 jW 0 [(0, .ref 0), (1, .int x1), (2, .int x2)] [] σ (fn_X6_drawn n x1 x2 σ)
  unfold fn_X6_drawn
  refine ev_iload_n (pc := 0) (i := 2) 2 dX6_drawn_0 rfl rfl ?_
  refine ev_bipush (pc := 1) (v := 17) dX6_drawn_1 (by decide) ?_
  refine ev_sI (pc := 3) (as := [.int x2, .int 17]) (rest := []) ⟨83, ms_X6_isBelow, ag_ml_X6_83, rfl, (Nat.le_of_ble_eq_true rfl), ⟨(Nat.le_of_ble_eq_true rfl), (Nat.le_of_ble_eq_true rfl)⟩, dX6_drawn_3⟩ (im_X6_isBelow x2 17 σ) (fun q181 => ?_)
  refine ev_if_ne (pc := 6) (tgt := 12) dX6_drawn_6 rfl ?_ ?_
  · refine ev_bipush (pc := 9) (v := (-2)) dX6_drawn_9 (by decide) ?_
    exact ev_irW rfl dX6_drawn_11
  · refine ev_iload_n (pc := 12) (i := 1) 1 dX6_drawn_12 rfl rfl ?_
    refine ev_istore_n (pc := 13) (i := 3) (lv' := [(3, .int x1), (0, .ref 0), (1, .int x1), (2, .int x2)]) dX6_drawn_13 rfl (Nat.le_of_ble_eq_true rfl) rfl ?_
    refine ev_iconst (pc := 14) (v := 0) dX6_drawn_14 (by decide) ?_
    refine ev_istore (pc := 15) (lv' := [(4, .int 0), (3, .int x1), (0, .ref 0), (1, .int x1), (2, .int x2)]) dX6_drawn_15 (Nat.le_of_ble_eq_true rfl) rfl ?_
    refine ev_iconst (pc := 17) (v := 0) dX6_drawn_17 (by decide) ?_
    refine ev_istore (pc := 18) (lv' := [(5, .int 0), (4, .int 0), (3, .int x1), (0, .ref 0), (1, .int x1), (2, .int x2)]) dX6_drawn_18 (Nat.le_of_ble_eq_true rfl) rfl ?_
    refine ev_sub [3, 4, 5, 2, 1, 0] rfl ?_
    exact ev_X6_drawn_b20 n x1 x2 n x1 0 0 σ
-- X6_sheet
def mX6_sheet : Md := (RX6, cX6_sheet, 4, some .int, none)
theorem mv_X6_sheet : ag_Mv yX6_sheet mX6_sheet 3 := ⟨ag_co_X6_sheet, ag_im_X6_sheet, ag_se_X6_sheet, ag_ini_X6, by decide +kernel⟩
theorem dX6_sheet_0 : decode mX6_sheet.2.1 0 = .ok (.iload_n 1, 1) := by decide +kernel
theorem dX6_sheet_1 : decode mX6_sheet.2.1 1 = .ok (.iconst 4, 1) := by decide +kernel
theorem dX6_sheet_2 : decode mX6_sheet.2.1 2 = .ok (.invokestatic 83, 3) := by decide +kernel
theorem dX6_sheet_5 : decode mX6_sheet.2.1 5 = .ok (.ifCond .eq 17, 3) := by decide +kernel
theorem dX6_sheet_8 : decode mX6_sheet.2.1 8 = .ok (.iload_n 2, 1) := by decide +kernel
theorem dX6_sheet_9 : decode mX6_sheet.2.1 9 = .ok (.iconst 3, 1) := by decide +kernel
theorem dX6_sheet_10 : decode mX6_sheet.2.1 10 = .ok (.invokestatic 83, 3) := by decide +kernel
theorem dX6_sheet_13 : decode mX6_sheet.2.1 13 = .ok (.ifCond .eq 9, 3) := by decide +kernel
theorem dX6_sheet_16 : decode mX6_sheet.2.1 16 = .ok (.iload_n 3, 1) := by decide +kernel
theorem dX6_sheet_17 : decode mX6_sheet.2.1 17 = .ok (.bipush 48, 2) := by decide +kernel
theorem dX6_sheet_19 : decode mX6_sheet.2.1 19 = .ok (.if_icmp .le 6, 3) := by decide +kernel
theorem dX6_sheet_22 : decode mX6_sheet.2.1 22 = .ok (.bipush (-2), 2) := by decide +kernel
theorem dX6_sheet_24 : decode mX6_sheet.2.1 24 = .ok (.ireturn, 1) := by decide +kernel
theorem dX6_sheet_25 : decode mX6_sheet.2.1 25 = .ok (.iload_n 3, 1) := by decide +kernel
theorem dX6_sheet_26 : decode mX6_sheet.2.1 26 = .ok (.ifCond .ge 9, 3) := by decide +kernel
theorem dX6_sheet_29 : decode mX6_sheet.2.1 29 = .ok (.aload_n 0, 1) := by decide +kernel
theorem dX6_sheet_30 : decode mX6_sheet.2.1 30 = .ok (.iconst 5, 1) := by decide +kernel
theorem dX6_sheet_31 : decode mX6_sheet.2.1 31 = .ok (.invokevirtual 106, 3) := by decide +kernel
theorem dX6_sheet_34 : decode mX6_sheet.2.1 34 = .ok (.ireturn, 1) := by decide +kernel
theorem dX6_sheet_35 : decode mX6_sheet.2.1 35 = .ok (.aload_n 0, 1) := by decide +kernel
theorem dX6_sheet_36 : decode mX6_sheet.2.1 36 = .ok (.getfield 45, 3) := by decide +kernel
theorem dX6_sheet_39 : decode mX6_sheet.2.1 39 = .ok (.iload_n 1, 1) := by decide +kernel
theorem dX6_sheet_40 : decode mX6_sheet.2.1 40 = .ok (.aaload, 1) := by decide +kernel
theorem dX6_sheet_41 : decode mX6_sheet.2.1 41 = .ok (.iload_n 2, 1) := by decide +kernel
theorem dX6_sheet_42 : decode mX6_sheet.2.1 42 = .ok (.iload_n 3, 1) := by decide +kernel
theorem dX6_sheet_43 : decode mX6_sheet.2.1 43 = .ok (.invokevirtual 257, 3) := by decide +kernel
theorem dX6_sheet_46 : decode mX6_sheet.2.1 46 = .ok (.iload_n 3, 1) := by decide +kernel
theorem dX6_sheet_47 : decode mX6_sheet.2.1 47 = .ok (.ireturn, 1) := by decide +kernel
def fn_X6_sheet (n : Nat) (x1 : Int32) (x2 : Int32) (x3 : Int32) (σ : Sg) : Option (Int32 × Sg) :=
  (Option.bind (fn_X6_isBelow x1 4 σ) fun q182 =>
  (if q182 = 0 then (some ((-2), σ))
  else (Option.bind (fn_X6_isBelow x2 3 σ) fun q183 =>
  (if q183 = 0 then (some ((-2), σ))
  else (if x3 ≤ 48 then (if 0 ≤ x3 then (if ag_ib x1 4 = true then (Option.bind (fn_X3_begin n (45 + 2 * x1.toNatClampNeg) x2 x3 σ) fun q185 =>
  (some (x3, q185))) else none)
  else (Option.bind (fn_X6_find 5 σ) fun q186 =>
  (some (q186.1, q186.2))))
  else (some ((-2), σ)))))))
set_option maxRecDepth 20000 in
set_option maxHeartbeats 4000000 in
theorem im_X6_sheet (n : Nat) (x1 : Int32) (x2 : Int32) (x3 : Int32) (σ : Sg) : Im yX6_sheet mX6_sheet 2 45 jW [.ref 0, .int x1, .int x2, .int x3] σ (fn_X6_sheet n x1 x2 x3 σ) := by
  refine Im.of (by decide +kernel) rfl rfl (Nat.le_of_ble_eq_true rfl) ?_
  show Ev mX6_sheet 2 45 jW 0 [(0, .ref 0), (1, .int x1), (2, .int x2), (3, .int x3)] [] σ (fn_X6_sheet n x1 x2 x3 σ)
  unfold fn_X6_sheet
  refine ev_iload_n (pc := 0) (i := 1) 1 dX6_sheet_0 rfl rfl ?_
  refine ev_iconst (pc := 1) (v := 4) dX6_sheet_1 (by decide) ?_
  refine ev_sI (pc := 2) (as := [.int x1, .int 4]) (rest := []) ⟨83, ms_X6_isBelow, ag_ml_X6_83, rfl, (Nat.le_of_ble_eq_true rfl), ⟨(Nat.le_of_ble_eq_true rfl), (Nat.le_of_ble_eq_true rfl)⟩, dX6_sheet_2⟩ (im_X6_isBelow x1 4 σ) (fun q182 => ?_)
  refine ev_if_eq (pc := 5) (tgt := 22) dX6_sheet_5 rfl ?_ ?_
  · refine ev_bipush (pc := 22) (v := (-2)) dX6_sheet_22 (by decide) ?_
    exact ev_irW rfl dX6_sheet_24
  · refine ev_iload_n (pc := 8) (i := 2) 2 dX6_sheet_8 rfl rfl ?_
    refine ev_iconst (pc := 9) (v := 3) dX6_sheet_9 (by decide) ?_
    refine ev_sI (pc := 10) (as := [.int x2, .int 3]) (rest := []) ⟨83, ms_X6_isBelow, ag_ml_X6_83, rfl, (Nat.le_of_ble_eq_true rfl), ⟨(Nat.le_of_ble_eq_true rfl), (Nat.le_of_ble_eq_true rfl)⟩, dX6_sheet_10⟩ (im_X6_isBelow x2 3 σ) (fun q183 => ?_)
    refine ev_if_eq (pc := 13) (tgt := 22) dX6_sheet_13 rfl ?_ ?_
    · refine ev_bipush (pc := 22) (v := (-2)) dX6_sheet_22 (by decide) ?_
      exact ev_irW rfl dX6_sheet_24
    · refine ev_iload_n (pc := 16) (i := 3) 3 dX6_sheet_16 rfl rfl ?_
      refine ev_bipush (pc := 17) (v := 48) dX6_sheet_17 (by decide) ?_
      refine ev_icmp_le (pc := 19) (tgt := 25) dX6_sheet_19 rfl ?_ ?_
      · refine ev_iload_n (pc := 25) (i := 3) 3 dX6_sheet_25 rfl rfl ?_
        refine ev_if_ge (pc := 26) (tgt := 35) dX6_sheet_26 rfl ?_ ?_
        · refine ev_aload_n (pc := 35) (i := 0) 0 dX6_sheet_35 rfl rfl ?_
          refine ev_getR (pc := 36) (t := 44) 6 ag_C6 (rfl) (by decide) (Nat.le_of_ble_eq_true rfl) rfl rfl ag_fl_X6_45 dX6_sheet_36 ?_
          refine ev_iload_n (pc := 39) (i := 1) 1 dX6_sheet_39 rfl rfl ?_
          refine ev_aald (pc := 40) (rfl) (by decide) dX6_sheet_40 (fun hg184 => ?_)
          refine ev_iload_n (pc := 41) (i := 2) 2 dX6_sheet_41 rfl rfl ?_
          refine ev_iload_n (pc := 42) (i := 3) 3 dX6_sheet_42 rfl rfl ?_
          refine ev_vV (pc := 43) (as := [.int x2, .int x3]) (rest := []) ⟨3, 257, 4, TX3, tyX3, ag_C3, ⟨(ag_Rk (ag_RR hg184)).1, (ag_Rk (ag_RR hg184)).2⟩, mv_X3_begin, ag_ml_X6_257, rfl, (Nat.le_of_ble_eq_true rfl), ⟨(Nat.le_of_ble_eq_true rfl), (Nat.le_of_ble_eq_true rfl)⟩, dX6_sheet_43⟩ (im_X3_begin n (45 + 2 * x1.toNatClampNeg) (ag_RR hg184) x2 x3 σ) (fun q185 => ?_)
          refine ev_iload_n (pc := 46) (i := 3) 3 dX6_sheet_46 rfl rfl ?_
          exact ev_irW rfl dX6_sheet_47
        · refine ev_aload_n (pc := 29) (i := 0) 0 dX6_sheet_29 rfl rfl ?_
          refine ev_iconst (pc := 30) (v := 5) dX6_sheet_30 (by decide) ?_
          refine ev_vW (pc := 31) (as := [.int 5]) (rest := []) ⟨6, 106, 8, TX6, tyX6, ag_C6, ⟨(rfl), (by decide)⟩, mv_X6_find, ag_ml_X6_106, rfl, (Nat.le_of_ble_eq_true rfl), ⟨(Nat.le_of_ble_eq_true rfl), (Nat.le_of_ble_eq_true rfl)⟩, dX6_sheet_31⟩ (im_X6_find 5 σ) (fun q186 => ?_)
          exact ev_irW rfl dX6_sheet_34
      · refine ev_bipush (pc := 22) (v := (-2)) dX6_sheet_22 (by decide) ?_
        exact ev_irW rfl dX6_sheet_24
-- X6_lose
def mX6_lose : Md := (RX6, cX6_lose, 2, some .int, none)
theorem mv_X6_lose : ag_Mv yX6_lose mX6_lose 1 := ⟨ag_co_X6_lose, ag_im_X6_lose, ag_se_X6_lose, ag_ini_X6, by decide +kernel⟩
theorem dX6_lose_0 : decode mX6_lose.2.1 0 = .ok (.iload_n 1, 1) := by decide +kernel
theorem dX6_lose_1 : decode mX6_lose.2.1 1 = .ok (.iconst 4, 1) := by decide +kernel
theorem dX6_lose_2 : decode mX6_lose.2.1 2 = .ok (.invokestatic 83, 3) := by decide +kernel
theorem dX6_lose_5 : decode mX6_lose.2.1 5 = .ok (.ifCond .ne 6, 3) := by decide +kernel
theorem dX6_lose_8 : decode mX6_lose.2.1 8 = .ok (.bipush (-2), 2) := by decide +kernel
theorem dX6_lose_10 : decode mX6_lose.2.1 10 = .ok (.ireturn, 1) := by decide +kernel
theorem dX6_lose_11 : decode mX6_lose.2.1 11 = .ok (.aload_n 0, 1) := by decide +kernel
theorem dX6_lose_12 : decode mX6_lose.2.1 12 = .ok (.getfield 45, 3) := by decide +kernel
theorem dX6_lose_15 : decode mX6_lose.2.1 15 = .ok (.iload_n 1, 1) := by decide +kernel
theorem dX6_lose_16 : decode mX6_lose.2.1 16 = .ok (.aaload, 1) := by decide +kernel
theorem dX6_lose_17 : decode mX6_lose.2.1 17 = .ok (.getfield 102, 3) := by decide +kernel
theorem dX6_lose_20 : decode mX6_lose.2.1 20 = .ok (.ifCond .eq 9, 3) := by decide +kernel
theorem dX6_lose_23 : decode mX6_lose.2.1 23 = .ok (.aload_n 0, 1) := by decide +kernel
theorem dX6_lose_24 : decode mX6_lose.2.1 24 = .ok (.iconst 1, 1) := by decide +kernel
theorem dX6_lose_25 : decode mX6_lose.2.1 25 = .ok (.invokevirtual 106, 3) := by decide +kernel
theorem dX6_lose_28 : decode mX6_lose.2.1 28 = .ok (.ireturn, 1) := by decide +kernel
theorem dX6_lose_29 : decode mX6_lose.2.1 29 = .ok (.aload_n 0, 1) := by decide +kernel
theorem dX6_lose_30 : decode mX6_lose.2.1 30 = .ok (.getfield 45, 3) := by decide +kernel
theorem dX6_lose_33 : decode mX6_lose.2.1 33 = .ok (.iload_n 1, 1) := by decide +kernel
theorem dX6_lose_34 : decode mX6_lose.2.1 34 = .ok (.aaload, 1) := by decide +kernel
theorem dX6_lose_35 : decode mX6_lose.2.1 35 = .ok (.iconst 1, 1) := by decide +kernel
theorem dX6_lose_36 : decode mX6_lose.2.1 36 = .ok (.putfield 102, 3) := by decide +kernel
theorem dX6_lose_39 : decode mX6_lose.2.1 39 = .ok (.aload_n 0, 1) := by decide +kernel
theorem dX6_lose_40 : decode mX6_lose.2.1 40 = .ok (.getfield 45, 3) := by decide +kernel
theorem dX6_lose_43 : decode mX6_lose.2.1 43 = .ok (.iload_n 1, 1) := by decide +kernel
theorem dX6_lose_44 : decode mX6_lose.2.1 44 = .ok (.aaload, 1) := by decide +kernel
theorem dX6_lose_45 : decode mX6_lose.2.1 45 = .ok (.getfield 110, 3) := by decide +kernel
theorem dX6_lose_48 : decode mX6_lose.2.1 48 = .ok (.ireturn, 1) := by decide +kernel
def fn_X6_lose (x1 : Int32) (σ : Sg) : Option (Int32 × Sg) :=
  (Option.bind (fn_X6_isBelow x1 4 σ) fun q187 =>
  (if q187 = 0 then (some ((-2), σ))
  else (if ag_ib x1 4 = true then (if (σ (45 + 2 * x1.toNatClampNeg) 0) = 0 then (if ag_ib x1 4 = true then (if ag_ib x1 4 = true then (some (((ag_up σ (45 + 2 * x1.toNatClampNeg) 0 1) (45 + 2 * x1.toNatClampNeg) 2), (ag_up σ (45 + 2 * x1.toNatClampNeg) 0 1))) else none) else none)
  else (Option.bind (fn_X6_find 1 σ) fun q191 =>
  (some (q191.1, q191.2)))) else none)))
set_option maxRecDepth 20000 in
set_option maxHeartbeats 4000000 in
theorem im_X6_lose (x1 : Int32) (σ : Sg) : Im yX6_lose mX6_lose 1 21 jW [.ref 0, .int x1] σ (fn_X6_lose x1 σ) := by
  refine Im.of (by decide +kernel) rfl rfl (Nat.le_of_ble_eq_true rfl) ?_
  show Ev mX6_lose 1 21 jW 0 [(0, .ref 0), (1, .int x1)] [] σ (fn_X6_lose x1 σ)
  unfold fn_X6_lose
  refine ev_iload_n (pc := 0) (i := 1) 1 dX6_lose_0 rfl rfl ?_
  refine ev_iconst (pc := 1) (v := 4) dX6_lose_1 (by decide) ?_
  refine ev_sI (pc := 2) (as := [.int x1, .int 4]) (rest := []) ⟨83, ms_X6_isBelow, ag_ml_X6_83, rfl, (Nat.le_of_ble_eq_true rfl), ⟨(Nat.le_of_ble_eq_true rfl), (Nat.le_of_ble_eq_true rfl)⟩, dX6_lose_2⟩ (im_X6_isBelow x1 4 σ) (fun q187 => ?_)
  refine ev_if_ne (pc := 5) (tgt := 11) dX6_lose_5 rfl ?_ ?_
  · refine ev_bipush (pc := 8) (v := (-2)) dX6_lose_8 (by decide) ?_
    exact ev_irW rfl dX6_lose_10
  · refine ev_aload_n (pc := 11) (i := 0) 0 dX6_lose_11 rfl rfl ?_
    refine ev_getR (pc := 12) (t := 44) 6 ag_C6 (rfl) (by decide) (Nat.le_of_ble_eq_true rfl) rfl rfl ag_fl_X6_45 dX6_lose_12 ?_
    refine ev_iload_n (pc := 15) (i := 1) 1 dX6_lose_15 rfl rfl ?_
    refine ev_aald (pc := 16) (rfl) (by decide) dX6_lose_16 (fun hg188 => ?_)
    refine ev_getI (pc := 17) 0 ag_C3 (ag_Rk (ag_RR hg188)).1 (ag_Rk (ag_RR hg188)).2 (Nat.le_of_ble_eq_true rfl) (ag_Rt0 (ag_RR hg188)) rfl ag_fl_X6_102 dX6_lose_17 ?_
    refine ev_if_eq (pc := 20) (tgt := 29) dX6_lose_20 rfl ?_ ?_
    · refine ev_aload_n (pc := 29) (i := 0) 0 dX6_lose_29 rfl rfl ?_
      refine ev_getR (pc := 30) (t := 44) 6 ag_C6 (rfl) (by decide) (Nat.le_of_ble_eq_true rfl) rfl rfl ag_fl_X6_45 dX6_lose_30 ?_
      refine ev_iload_n (pc := 33) (i := 1) 1 dX6_lose_33 rfl rfl ?_
      refine ev_aald (pc := 34) (rfl) (by decide) dX6_lose_34 (fun hg189 => ?_)
      refine ev_iconst (pc := 35) (v := 1) dX6_lose_35 (by decide) ?_
      refine ev_put (pc := 36) 0 ag_C3 (ag_Rk (ag_RR hg189)).1 (ag_Rk (ag_RR hg189)).2 (Nat.le_of_ble_eq_true rfl) (ag_Rt0 (ag_RR hg189)) rfl ag_fl_X6_102 rfl rfl rfl dX6_lose_36 ?_
      refine ev_aload_n (pc := 39) (i := 0) 0 dX6_lose_39 rfl rfl ?_
      refine ev_getR (pc := 40) (t := 44) 6 ag_C6 (rfl) (by decide) (Nat.le_of_ble_eq_true rfl) rfl rfl ag_fl_X6_45 dX6_lose_40 ?_
      refine ev_iload_n (pc := 43) (i := 1) 1 dX6_lose_43 rfl rfl ?_
      refine ev_aald (pc := 44) (rfl) (by decide) dX6_lose_44 (fun hg190 => ?_)
      refine ev_getI (pc := 45) 2 ag_C3 (ag_Rk (ag_RR hg190)).1 (ag_Rk (ag_RR hg190)).2 (Nat.le_of_ble_eq_true rfl) (ag_Rt2 (ag_RR hg190)) rfl ag_fl_X6_110 dX6_lose_45 ?_
      exact ev_irW rfl dX6_lose_48
    · refine ev_aload_n (pc := 23) (i := 0) 0 dX6_lose_23 rfl rfl ?_
      refine ev_iconst (pc := 24) (v := 1) dX6_lose_24 (by decide) ?_
      refine ev_vW (pc := 25) (as := [.int 1]) (rest := []) ⟨6, 106, 8, TX6, tyX6, ag_C6, ⟨(rfl), (by decide)⟩, mv_X6_find, ag_ml_X6_106, rfl, (Nat.le_of_ble_eq_true rfl), ⟨(Nat.le_of_ble_eq_true rfl), (Nat.le_of_ble_eq_true rfl)⟩, dX6_lose_25⟩ (im_X6_find 1 σ) (fun q191 => ?_)
      exact ev_irW rfl dX6_lose_28
-- X6_put
def mX6_put : Md := (RX6, cX6_put, 6, some .int, none)
theorem mv_X6_put : ag_Mv yX6_put mX6_put 4 := ⟨ag_co_X6_put, ag_im_X6_put, ag_se_X6_put, ag_ini_X6, by decide +kernel⟩
theorem dX6_put_0 : decode mX6_put.2.1 0 = .ok (.iload_n 1, 1) := by decide +kernel
theorem dX6_put_1 : decode mX6_put.2.1 1 = .ok (.iconst 4, 1) := by decide +kernel
theorem dX6_put_2 : decode mX6_put.2.1 2 = .ok (.invokestatic 83, 3) := by decide +kernel
theorem dX6_put_5 : decode mX6_put.2.1 5 = .ok (.ifCond .eq 11, 3) := by decide +kernel
theorem dX6_put_8 : decode mX6_put.2.1 8 = .ok (.iload_n 2, 1) := by decide +kernel
theorem dX6_put_9 : decode mX6_put.2.1 9 = .ok (.iconst 3, 1) := by decide +kernel
theorem dX6_put_10 : decode mX6_put.2.1 10 = .ok (.invokestatic 83, 3) := by decide +kernel
theorem dX6_put_13 : decode mX6_put.2.1 13 = .ok (.ifCond .ne 6, 3) := by decide +kernel
theorem dX6_put_16 : decode mX6_put.2.1 16 = .ok (.bipush (-2), 2) := by decide +kernel
theorem dX6_put_18 : decode mX6_put.2.1 18 = .ok (.ireturn, 1) := by decide +kernel
theorem dX6_put_19 : decode mX6_put.2.1 19 = .ok (.aload_n 0, 1) := by decide +kernel
theorem dX6_put_20 : decode mX6_put.2.1 20 = .ok (.getfield 45, 3) := by decide +kernel
theorem dX6_put_23 : decode mX6_put.2.1 23 = .ok (.iload_n 1, 1) := by decide +kernel
theorem dX6_put_24 : decode mX6_put.2.1 24 = .ok (.aaload, 1) := by decide +kernel
theorem dX6_put_25 : decode mX6_put.2.1 25 = .ok (.iload_n 2, 1) := by decide +kernel
theorem dX6_put_26 : decode mX6_put.2.1 26 = .ok (.iload_n 3, 1) := by decide +kernel
theorem dX6_put_27 : decode mX6_put.2.1 27 = .ok (.invokevirtual 261, 3) := by decide +kernel
theorem dX6_put_30 : decode mX6_put.2.1 30 = .ok (.istore 5, 2) := by decide +kernel
theorem dX6_put_32 : decode mX6_put.2.1 32 = .ok (.iload 5, 2) := by decide +kernel
theorem dX6_put_34 : decode mX6_put.2.1 34 = .ok (.ifCond .eq 10, 3) := by decide +kernel
theorem dX6_put_37 : decode mX6_put.2.1 37 = .ok (.aload_n 0, 1) := by decide +kernel
theorem dX6_put_38 : decode mX6_put.2.1 38 = .ok (.iload 5, 2) := by decide +kernel
theorem dX6_put_40 : decode mX6_put.2.1 40 = .ok (.invokevirtual 106, 3) := by decide +kernel
theorem dX6_put_43 : decode mX6_put.2.1 43 = .ok (.ireturn, 1) := by decide +kernel
theorem dX6_put_44 : decode mX6_put.2.1 44 = .ok (.aload_n 0, 1) := by decide +kernel
theorem dX6_put_45 : decode mX6_put.2.1 45 = .ok (.getfield 45, 3) := by decide +kernel
theorem dX6_put_48 : decode mX6_put.2.1 48 = .ok (.iload_n 1, 1) := by decide +kernel
theorem dX6_put_49 : decode mX6_put.2.1 49 = .ok (.aaload, 1) := by decide +kernel
theorem dX6_put_50 : decode mX6_put.2.1 50 = .ok (.iload_n 3, 1) := by decide +kernel
theorem dX6_put_51 : decode mX6_put.2.1 51 = .ok (.iload 4, 2) := by decide +kernel
theorem dX6_put_53 : decode mX6_put.2.1 53 = .ok (.invokevirtual 264, 3) := by decide +kernel
theorem dX6_put_56 : decode mX6_put.2.1 56 = .ok (.iconst 1, 1) := by decide +kernel
theorem dX6_put_57 : decode mX6_put.2.1 57 = .ok (.ireturn, 1) := by decide +kernel
def fn_X6_put (x1 : Int32) (x2 : Int32) (x3 : Int32) (x4 : Int32) (σ : Sg) : Option (Int32 × Sg) :=
  (Option.bind (fn_X6_isBelow x1 4 σ) fun q192 =>
  (if q192 = 0 then (some ((-2), σ))
  else (Option.bind (fn_X6_isBelow x2 3 σ) fun q193 =>
  (if q193 = 0 then (some ((-2), σ))
  else (if ag_ib x1 4 = true then (Option.bind (fn_X3_findingAt (45 + 2 * x1.toNatClampNeg) x2 x3 σ) fun q195 =>
  (if q195 = 0 then (if ag_ib x1 4 = true then (Option.bind (fn_X3_setItem (45 + 2 * x1.toNatClampNeg) x3 x4 σ) fun q197 =>
  (some (1, q197))) else none)
  else (Option.bind (fn_X6_find q195 σ) fun q198 =>
  (some (q198.1, q198.2))))) else none)))))
set_option maxRecDepth 20000 in
set_option maxHeartbeats 4000000 in
theorem im_X6_put (x1 : Int32) (x2 : Int32) (x3 : Int32) (x4 : Int32) (σ : Sg) : Im yX6_put mX6_put 2 43 jW [.ref 0, .int x1, .int x2, .int x3, .int x4] σ (fn_X6_put x1 x2 x3 x4 σ) := by
  refine Im.of (by decide +kernel) rfl rfl (Nat.le_of_ble_eq_true rfl) ?_
  show Ev mX6_put 2 43 jW 0 [(0, .ref 0), (1, .int x1), (2, .int x2), (3, .int x3), (4, .int x4)] [] σ (fn_X6_put x1 x2 x3 x4 σ)
  unfold fn_X6_put
  refine ev_iload_n (pc := 0) (i := 1) 1 dX6_put_0 rfl rfl ?_
  refine ev_iconst (pc := 1) (v := 4) dX6_put_1 (by decide) ?_
  refine ev_sI (pc := 2) (as := [.int x1, .int 4]) (rest := []) ⟨83, ms_X6_isBelow, ag_ml_X6_83, rfl, (Nat.le_of_ble_eq_true rfl), ⟨(Nat.le_of_ble_eq_true rfl), (Nat.le_of_ble_eq_true rfl)⟩, dX6_put_2⟩ (im_X6_isBelow x1 4 σ) (fun q192 => ?_)
  refine ev_if_eq (pc := 5) (tgt := 16) dX6_put_5 rfl ?_ ?_
  · refine ev_bipush (pc := 16) (v := (-2)) dX6_put_16 (by decide) ?_
    exact ev_irW rfl dX6_put_18
  · refine ev_iload_n (pc := 8) (i := 2) 2 dX6_put_8 rfl rfl ?_
    refine ev_iconst (pc := 9) (v := 3) dX6_put_9 (by decide) ?_
    refine ev_sI (pc := 10) (as := [.int x2, .int 3]) (rest := []) ⟨83, ms_X6_isBelow, ag_ml_X6_83, rfl, (Nat.le_of_ble_eq_true rfl), ⟨(Nat.le_of_ble_eq_true rfl), (Nat.le_of_ble_eq_true rfl)⟩, dX6_put_10⟩ (im_X6_isBelow x2 3 σ) (fun q193 => ?_)
    refine ev_if_ne (pc := 13) (tgt := 19) dX6_put_13 rfl ?_ ?_
    · refine ev_bipush (pc := 16) (v := (-2)) dX6_put_16 (by decide) ?_
      exact ev_irW rfl dX6_put_18
    · refine ev_aload_n (pc := 19) (i := 0) 0 dX6_put_19 rfl rfl ?_
      refine ev_getR (pc := 20) (t := 44) 6 ag_C6 (rfl) (by decide) (Nat.le_of_ble_eq_true rfl) rfl rfl ag_fl_X6_45 dX6_put_20 ?_
      refine ev_iload_n (pc := 23) (i := 1) 1 dX6_put_23 rfl rfl ?_
      refine ev_aald (pc := 24) (rfl) (by decide) dX6_put_24 (fun hg194 => ?_)
      refine ev_iload_n (pc := 25) (i := 2) 2 dX6_put_25 rfl rfl ?_
      refine ev_iload_n (pc := 26) (i := 3) 3 dX6_put_26 rfl rfl ?_
      refine ev_vI (pc := 27) (as := [.int x2, .int x3]) (rest := []) ⟨3, 261, 4, TX3, tyX3, ag_C3, ⟨(ag_Rk (ag_RR hg194)).1, (ag_Rk (ag_RR hg194)).2⟩, mv_X3_findingAt, ag_ml_X6_261, rfl, (Nat.le_of_ble_eq_true rfl), ⟨(Nat.le_of_ble_eq_true rfl), (Nat.le_of_ble_eq_true rfl)⟩, dX6_put_27⟩ (im_X3_findingAt (45 + 2 * x1.toNatClampNeg) (ag_RR hg194) x2 x3 σ) (fun q195 => ?_)
      refine ev_istore (pc := 30) (lv' := [(5, .int q195), (0, .ref 0), (1, .int x1), (2, .int x2), (3, .int x3), (4, .int x4)]) dX6_put_30 (Nat.le_of_ble_eq_true rfl) rfl ?_
      refine ev_iload (pc := 32) 0 dX6_put_32 rfl ?_
      refine ev_if_eq (pc := 34) (tgt := 44) dX6_put_34 rfl ?_ ?_
      · refine ev_aload_n (pc := 44) (i := 0) 1 dX6_put_44 rfl rfl ?_
        refine ev_getR (pc := 45) (t := 44) 6 ag_C6 (rfl) (by decide) (Nat.le_of_ble_eq_true rfl) rfl rfl ag_fl_X6_45 dX6_put_45 ?_
        refine ev_iload_n (pc := 48) (i := 1) 2 dX6_put_48 rfl rfl ?_
        refine ev_aald (pc := 49) (rfl) (by decide) dX6_put_49 (fun hg196 => ?_)
        refine ev_iload_n (pc := 50) (i := 3) 4 dX6_put_50 rfl rfl ?_
        refine ev_iload (pc := 51) 5 dX6_put_51 rfl ?_
        refine ev_vV (pc := 53) (as := [.int x3, .int x4]) (rest := []) ⟨3, 264, 4, TX3, tyX3, ag_C3, ⟨(ag_Rk (ag_RR hg196)).1, (ag_Rk (ag_RR hg196)).2⟩, mv_X3_setItem, ag_ml_X6_264, rfl, (Nat.le_of_ble_eq_true rfl), ⟨(Nat.le_of_ble_eq_true rfl), (Nat.le_of_ble_eq_true rfl)⟩, dX6_put_53⟩ (im_X3_setItem (45 + 2 * x1.toNatClampNeg) (ag_RR hg196) x3 x4 σ) (fun q197 => ?_)
        refine ev_iconst (pc := 56) (v := 1) dX6_put_56 (by decide) ?_
        exact ev_irW rfl dX6_put_57
      · refine ev_aload_n (pc := 37) (i := 0) 1 dX6_put_37 rfl rfl ?_
        refine ev_iload (pc := 38) 0 dX6_put_38 rfl ?_
        refine ev_vW (pc := 40) (as := [.int q195]) (rest := []) ⟨6, 106, 8, TX6, tyX6, ag_C6, ⟨(rfl), (by decide)⟩, mv_X6_find, ag_ml_X6_106, rfl, (Nat.le_of_ble_eq_true rfl), ⟨(Nat.le_of_ble_eq_true rfl), (Nat.le_of_ble_eq_true rfl)⟩, dX6_put_40⟩ (im_X6_find q195 σ) (fun q198 => ?_)
        exact ev_irW rfl dX6_put_43
-- X6_get
def mX6_get : Md := (RX6, cX6_get, 5, some .int, none)
theorem mv_X6_get : ag_Mv yX6_get mX6_get 3 := ⟨ag_co_X6_get, ag_im_X6_get, ag_se_X6_get, ag_ini_X6, by decide +kernel⟩
theorem dX6_get_0 : decode mX6_get.2.1 0 = .ok (.iload_n 1, 1) := by decide +kernel
theorem dX6_get_1 : decode mX6_get.2.1 1 = .ok (.iconst 4, 1) := by decide +kernel
theorem dX6_get_2 : decode mX6_get.2.1 2 = .ok (.invokestatic 83, 3) := by decide +kernel
theorem dX6_get_5 : decode mX6_get.2.1 5 = .ok (.ifCond .eq 11, 3) := by decide +kernel
theorem dX6_get_8 : decode mX6_get.2.1 8 = .ok (.iload_n 2, 1) := by decide +kernel
theorem dX6_get_9 : decode mX6_get.2.1 9 = .ok (.iconst 3, 1) := by decide +kernel
theorem dX6_get_10 : decode mX6_get.2.1 10 = .ok (.invokestatic 83, 3) := by decide +kernel
theorem dX6_get_13 : decode mX6_get.2.1 13 = .ok (.ifCond .ne 7, 3) := by decide +kernel
theorem dX6_get_16 : decode mX6_get.2.1 16 = .ok (.ldc_w 267, 3) := by decide +kernel
theorem dX6_get_19 : decode mX6_get.2.1 19 = .ok (.ireturn, 1) := by decide +kernel
theorem dX6_get_20 : decode mX6_get.2.1 20 = .ok (.aload_n 0, 1) := by decide +kernel
theorem dX6_get_21 : decode mX6_get.2.1 21 = .ok (.getfield 45, 3) := by decide +kernel
theorem dX6_get_24 : decode mX6_get.2.1 24 = .ok (.iload_n 1, 1) := by decide +kernel
theorem dX6_get_25 : decode mX6_get.2.1 25 = .ok (.aaload, 1) := by decide +kernel
theorem dX6_get_26 : decode mX6_get.2.1 26 = .ok (.iload_n 2, 1) := by decide +kernel
theorem dX6_get_27 : decode mX6_get.2.1 27 = .ok (.iload_n 3, 1) := by decide +kernel
theorem dX6_get_28 : decode mX6_get.2.1 28 = .ok (.invokevirtual 261, 3) := by decide +kernel
theorem dX6_get_31 : decode mX6_get.2.1 31 = .ok (.istore 4, 2) := by decide +kernel
theorem dX6_get_33 : decode mX6_get.2.1 33 = .ok (.iload 4, 2) := by decide +kernel
theorem dX6_get_35 : decode mX6_get.2.1 35 = .ok (.ifCond .eq 13, 3) := by decide +kernel
theorem dX6_get_38 : decode mX6_get.2.1 38 = .ok (.aload_n 0, 1) := by decide +kernel
theorem dX6_get_39 : decode mX6_get.2.1 39 = .ok (.iload 4, 2) := by decide +kernel
theorem dX6_get_41 : decode mX6_get.2.1 41 = .ok (.putfield 50, 3) := by decide +kernel
theorem dX6_get_44 : decode mX6_get.2.1 44 = .ok (.ldc_w 267, 3) := by decide +kernel
theorem dX6_get_47 : decode mX6_get.2.1 47 = .ok (.ireturn, 1) := by decide +kernel
theorem dX6_get_48 : decode mX6_get.2.1 48 = .ok (.aload_n 0, 1) := by decide +kernel
theorem dX6_get_49 : decode mX6_get.2.1 49 = .ok (.getfield 45, 3) := by decide +kernel
theorem dX6_get_52 : decode mX6_get.2.1 52 = .ok (.iload_n 1, 1) := by decide +kernel
theorem dX6_get_53 : decode mX6_get.2.1 53 = .ok (.aaload, 1) := by decide +kernel
theorem dX6_get_54 : decode mX6_get.2.1 54 = .ok (.getfield 111, 3) := by decide +kernel
theorem dX6_get_57 : decode mX6_get.2.1 57 = .ok (.iload_n 3, 1) := by decide +kernel
theorem dX6_get_58 : decode mX6_get.2.1 58 = .ok (.iaload, 1) := by decide +kernel
theorem dX6_get_59 : decode mX6_get.2.1 59 = .ok (.ireturn, 1) := by decide +kernel
def fn_X6_get_b16 (x1 : Int32) (x2 : Int32) (x3 : Int32)   (σ : Sg) : Option (Int32 × Sg) :=
  (some ((-2147483648), σ))
set_option maxRecDepth 20000 in
set_option maxHeartbeats 4000000 in
theorem ev_X6_get_b16 (x1 : Int32) (x2 : Int32) (x3 : Int32)   (σ : Sg) : Ev mX6_get 2 43 jW 16 [(0, .ref 0), (1, .int x1), (2, .int x2), (3, .int x3)] [] σ (fn_X6_get_b16 x1 x2 x3  σ) := by
  unfold fn_X6_get_b16
  refine ev_ldcw (pc := 16) (v := (-2147483648)) dX6_get_16 ag_kc_X6_267 ?_
  exact ev_irW rfl dX6_get_19
def fn_X6_get (x1 : Int32) (x2 : Int32) (x3 : Int32) (σ : Sg) : Option (Int32 × Sg) :=
  (Option.bind (fn_X6_isBelow x1 4 σ) fun q199 =>
  (if q199 = 0 then (fn_X6_get_b16 x1 x2 x3 σ)
  else (Option.bind (fn_X6_isBelow x2 3 σ) fun q200 =>
  (if q200 = 0 then (fn_X6_get_b16 x1 x2 x3 σ)
  else (if ag_ib x1 4 = true then (Option.bind (fn_X3_findingAt (45 + 2 * x1.toNatClampNeg) x2 x3 σ) fun q202 =>
  (if q202 = 0 then (if ag_ib x1 4 = true then (if ag_ib x3 48 = true then (some ((σ ((45 + 2 * x1.toNatClampNeg) + 1) x3.toNatClampNeg), σ)) else none) else none)
  else (some ((-2147483648), (ag_up σ 0 7 q202))))) else none)))))
set_option maxRecDepth 20000 in
set_option maxHeartbeats 4000000 in
theorem im_X6_get (x1 : Int32) (x2 : Int32) (x3 : Int32) (σ : Sg) : Im yX6_get mX6_get 2 43 jW [.ref 0, .int x1, .int x2, .int x3] σ (fn_X6_get x1 x2 x3 σ) := by
  refine Im.of (by decide +kernel) rfl rfl (Nat.le_of_ble_eq_true rfl) ?_
  show Ev mX6_get 2 43 jW 0 [(0, .ref 0), (1, .int x1), (2, .int x2), (3, .int x3)] [] σ (fn_X6_get x1 x2 x3 σ)
  unfold fn_X6_get
  refine ev_iload_n (pc := 0) (i := 1) 1 dX6_get_0 rfl rfl ?_
  refine ev_iconst (pc := 1) (v := 4) dX6_get_1 (by decide) ?_
  refine ev_sI (pc := 2) (as := [.int x1, .int 4]) (rest := []) ⟨83, ms_X6_isBelow, ag_ml_X6_83, rfl, (Nat.le_of_ble_eq_true rfl), ⟨(Nat.le_of_ble_eq_true rfl), (Nat.le_of_ble_eq_true rfl)⟩, dX6_get_2⟩ (im_X6_isBelow x1 4 σ) (fun q199 => ?_)
  refine ev_if_eq (pc := 5) (tgt := 16) dX6_get_5 rfl ?_ ?_
  · exact ev_X6_get_b16 x1 x2 x3 σ
  · refine ev_iload_n (pc := 8) (i := 2) 2 dX6_get_8 rfl rfl ?_
    refine ev_iconst (pc := 9) (v := 3) dX6_get_9 (by decide) ?_
    refine ev_sI (pc := 10) (as := [.int x2, .int 3]) (rest := []) ⟨83, ms_X6_isBelow, ag_ml_X6_83, rfl, (Nat.le_of_ble_eq_true rfl), ⟨(Nat.le_of_ble_eq_true rfl), (Nat.le_of_ble_eq_true rfl)⟩, dX6_get_10⟩ (im_X6_isBelow x2 3 σ) (fun q200 => ?_)
    refine ev_if_ne (pc := 13) (tgt := 20) dX6_get_13 rfl ?_ ?_
    · exact ev_X6_get_b16 x1 x2 x3 σ
    · refine ev_aload_n (pc := 20) (i := 0) 0 dX6_get_20 rfl rfl ?_
      refine ev_getR (pc := 21) (t := 44) 6 ag_C6 (rfl) (by decide) (Nat.le_of_ble_eq_true rfl) rfl rfl ag_fl_X6_45 dX6_get_21 ?_
      refine ev_iload_n (pc := 24) (i := 1) 1 dX6_get_24 rfl rfl ?_
      refine ev_aald (pc := 25) (rfl) (by decide) dX6_get_25 (fun hg201 => ?_)
      refine ev_iload_n (pc := 26) (i := 2) 2 dX6_get_26 rfl rfl ?_
      refine ev_iload_n (pc := 27) (i := 3) 3 dX6_get_27 rfl rfl ?_
      refine ev_vI (pc := 28) (as := [.int x2, .int x3]) (rest := []) ⟨3, 261, 4, TX3, tyX3, ag_C3, ⟨(ag_Rk (ag_RR hg201)).1, (ag_Rk (ag_RR hg201)).2⟩, mv_X3_findingAt, ag_ml_X6_261, rfl, (Nat.le_of_ble_eq_true rfl), ⟨(Nat.le_of_ble_eq_true rfl), (Nat.le_of_ble_eq_true rfl)⟩, dX6_get_28⟩ (im_X3_findingAt (45 + 2 * x1.toNatClampNeg) (ag_RR hg201) x2 x3 σ) (fun q202 => ?_)
      refine ev_istore (pc := 31) (lv' := [(4, .int q202), (0, .ref 0), (1, .int x1), (2, .int x2), (3, .int x3)]) dX6_get_31 (Nat.le_of_ble_eq_true rfl) rfl ?_
      refine ev_iload (pc := 33) 0 dX6_get_33 rfl ?_
      refine ev_if_eq (pc := 35) (tgt := 48) dX6_get_35 rfl ?_ ?_
      · refine ev_aload_n (pc := 48) (i := 0) 1 dX6_get_48 rfl rfl ?_
        refine ev_getR (pc := 49) (t := 44) 6 ag_C6 (rfl) (by decide) (Nat.le_of_ble_eq_true rfl) rfl rfl ag_fl_X6_45 dX6_get_49 ?_
        refine ev_iload_n (pc := 52) (i := 1) 2 dX6_get_52 rfl rfl ?_
        refine ev_aald (pc := 53) (rfl) (by decide) dX6_get_53 (fun hg203 => ?_)
        refine ev_getR (pc := 54) (t := ((45 + 2 * x1.toNatClampNeg) + 1)) 3 ag_C3 (ag_Rk (ag_RR hg203)).1 (ag_Rk (ag_RR hg203)).2 (Nat.le_of_ble_eq_true rfl) (ag_Rt3 (ag_RR hg203)) rfl ag_fl_X6_111 dX6_get_54 ?_
        refine ev_iload_n (pc := 57) (i := 3) 4 dX6_get_57 rfl rfl ?_
        refine ev_iald (pc := 58) (ag_Ra1 (ag_RR hg203)).1 (ag_Ra1 (ag_RR hg203)).2 dX6_get_58 ?_
        exact ev_irW rfl dX6_get_59
      · refine ev_aload_n (pc := 38) (i := 0) 1 dX6_get_38 rfl rfl ?_
        refine ev_iload (pc := 39) 0 dX6_get_39 rfl ?_
        refine ev_put (pc := 41) 7 ag_C6 (rfl) (by decide) (Nat.le_of_ble_eq_true rfl) rfl rfl ag_fl_X6_50 rfl rfl rfl dX6_get_41 ?_
        refine ev_ldcw (pc := 44) (v := (-2147483648)) dX6_get_44 ag_kc_X6_267 ?_
        exact ev_irW rfl dX6_get_47
-- X6_copy
def mX6_copy : Md := (RX6, cX6_copy, 8, some .int, none)
theorem mv_X6_copy : ag_Mv yX6_copy mX6_copy 5 := ⟨ag_co_X6_copy, ag_im_X6_copy, ag_se_X6_copy, ag_ini_X6, by decide +kernel⟩
theorem dX6_copy_0 : decode mX6_copy.2.1 0 = .ok (.iload_n 1, 1) := by decide +kernel
theorem dX6_copy_1 : decode mX6_copy.2.1 1 = .ok (.iconst 4, 1) := by decide +kernel
theorem dX6_copy_2 : decode mX6_copy.2.1 2 = .ok (.invokestatic 83, 3) := by decide +kernel
theorem dX6_copy_5 : decode mX6_copy.2.1 5 = .ok (.ifCond .eq 11, 3) := by decide +kernel
theorem dX6_copy_8 : decode mX6_copy.2.1 8 = .ok (.iload_n 3, 1) := by decide +kernel
theorem dX6_copy_9 : decode mX6_copy.2.1 9 = .ok (.iconst 4, 1) := by decide +kernel
theorem dX6_copy_10 : decode mX6_copy.2.1 10 = .ok (.invokestatic 83, 3) := by decide +kernel
theorem dX6_copy_13 : decode mX6_copy.2.1 13 = .ok (.ifCond .ne 6, 3) := by decide +kernel
theorem dX6_copy_16 : decode mX6_copy.2.1 16 = .ok (.bipush (-2), 2) := by decide +kernel
theorem dX6_copy_18 : decode mX6_copy.2.1 18 = .ok (.ireturn, 1) := by decide +kernel
theorem dX6_copy_19 : decode mX6_copy.2.1 19 = .ok (.aload_n 0, 1) := by decide +kernel
theorem dX6_copy_20 : decode mX6_copy.2.1 20 = .ok (.getfield 45, 3) := by decide +kernel
theorem dX6_copy_23 : decode mX6_copy.2.1 23 = .ok (.iload_n 1, 1) := by decide +kernel
theorem dX6_copy_24 : decode mX6_copy.2.1 24 = .ok (.aaload, 1) := by decide +kernel
theorem dX6_copy_25 : decode mX6_copy.2.1 25 = .ok (.astore 6, 2) := by decide +kernel
theorem dX6_copy_27 : decode mX6_copy.2.1 27 = .ok (.aload_n 0, 1) := by decide +kernel
theorem dX6_copy_28 : decode mX6_copy.2.1 28 = .ok (.getfield 45, 3) := by decide +kernel
theorem dX6_copy_31 : decode mX6_copy.2.1 31 = .ok (.iload_n 3, 1) := by decide +kernel
theorem dX6_copy_32 : decode mX6_copy.2.1 32 = .ok (.aaload, 1) := by decide +kernel
theorem dX6_copy_33 : decode mX6_copy.2.1 33 = .ok (.astore 7, 2) := by decide +kernel
theorem dX6_copy_35 : decode mX6_copy.2.1 35 = .ok (.aload 6, 2) := by decide +kernel
theorem dX6_copy_37 : decode mX6_copy.2.1 37 = .ok (.getfield 102, 3) := by decide +kernel
theorem dX6_copy_40 : decode mX6_copy.2.1 40 = .ok (.ifCond .ne 11, 3) := by decide +kernel
theorem dX6_copy_43 : decode mX6_copy.2.1 43 = .ok (.aload 7, 2) := by decide +kernel
theorem dX6_copy_45 : decode mX6_copy.2.1 45 = .ok (.getfield 102, 3) := by decide +kernel
theorem dX6_copy_48 : decode mX6_copy.2.1 48 = .ok (.ifCond .eq 9, 3) := by decide +kernel
theorem dX6_copy_51 : decode mX6_copy.2.1 51 = .ok (.aload_n 0, 1) := by decide +kernel
theorem dX6_copy_52 : decode mX6_copy.2.1 52 = .ok (.iconst 1, 1) := by decide +kernel
theorem dX6_copy_53 : decode mX6_copy.2.1 53 = .ok (.invokevirtual 106, 3) := by decide +kernel
theorem dX6_copy_56 : decode mX6_copy.2.1 56 = .ok (.ireturn, 1) := by decide +kernel
theorem dX6_copy_57 : decode mX6_copy.2.1 57 = .ok (.aload 6, 2) := by decide +kernel
theorem dX6_copy_59 : decode mX6_copy.2.1 59 = .ok (.getfield 268, 3) := by decide +kernel
theorem dX6_copy_62 : decode mX6_copy.2.1 62 = .ok (.aload 7, 2) := by decide +kernel
theorem dX6_copy_64 : decode mX6_copy.2.1 64 = .ok (.getfield 268, 3) := by decide +kernel
theorem dX6_copy_67 : decode mX6_copy.2.1 67 = .ok (.if_icmp .eq 9, 3) := by decide +kernel
theorem dX6_copy_70 : decode mX6_copy.2.1 70 = .ok (.aload_n 0, 1) := by decide +kernel
theorem dX6_copy_71 : decode mX6_copy.2.1 71 = .ok (.iconst 4, 1) := by decide +kernel
theorem dX6_copy_72 : decode mX6_copy.2.1 72 = .ok (.invokevirtual 106, 3) := by decide +kernel
theorem dX6_copy_75 : decode mX6_copy.2.1 75 = .ok (.ireturn, 1) := by decide +kernel
theorem dX6_copy_76 : decode mX6_copy.2.1 76 = .ok (.aload 6, 2) := by decide +kernel
theorem dX6_copy_78 : decode mX6_copy.2.1 78 = .ok (.iload_n 2, 1) := by decide +kernel
theorem dX6_copy_79 : decode mX6_copy.2.1 79 = .ok (.iload 5, 2) := by decide +kernel
theorem dX6_copy_81 : decode mX6_copy.2.1 81 = .ok (.invokevirtual 271, 3) := by decide +kernel
theorem dX6_copy_84 : decode mX6_copy.2.1 84 = .ok (.ifCond .eq 15, 3) := by decide +kernel
theorem dX6_copy_87 : decode mX6_copy.2.1 87 = .ok (.aload 7, 2) := by decide +kernel
theorem dX6_copy_89 : decode mX6_copy.2.1 89 = .ok (.iload 4, 2) := by decide +kernel
theorem dX6_copy_91 : decode mX6_copy.2.1 91 = .ok (.iload 5, 2) := by decide +kernel
theorem dX6_copy_93 : decode mX6_copy.2.1 93 = .ok (.invokevirtual 271, 3) := by decide +kernel
theorem dX6_copy_96 : decode mX6_copy.2.1 96 = .ok (.ifCond .ne 9, 3) := by decide +kernel
theorem dX6_copy_99 : decode mX6_copy.2.1 99 = .ok (.aload_n 0, 1) := by decide +kernel
theorem dX6_copy_100 : decode mX6_copy.2.1 100 = .ok (.iconst 2, 1) := by decide +kernel
theorem dX6_copy_101 : decode mX6_copy.2.1 101 = .ok (.invokevirtual 106, 3) := by decide +kernel
theorem dX6_copy_104 : decode mX6_copy.2.1 104 = .ok (.ireturn, 1) := by decide +kernel
theorem dX6_copy_105 : decode mX6_copy.2.1 105 = .ok (.aload 6, 2) := by decide +kernel
theorem dX6_copy_107 : decode mX6_copy.2.1 107 = .ok (.getfield 111, 3) := by decide +kernel
theorem dX6_copy_110 : decode mX6_copy.2.1 110 = .ok (.iload_n 2, 1) := by decide +kernel
theorem dX6_copy_111 : decode mX6_copy.2.1 111 = .ok (.aload 7, 2) := by decide +kernel
theorem dX6_copy_113 : decode mX6_copy.2.1 113 = .ok (.getfield 111, 3) := by decide +kernel
theorem dX6_copy_116 : decode mX6_copy.2.1 116 = .ok (.iload 4, 2) := by decide +kernel
theorem dX6_copy_118 : decode mX6_copy.2.1 118 = .ok (.iload 5, 2) := by decide +kernel
theorem dX6_copy_120 : decode mX6_copy.2.1 120 = .ok (.invokestatic 274, 3) := by decide +kernel
theorem dX6_copy_123 : decode mX6_copy.2.1 123 = .ok (.iconst 1, 1) := by decide +kernel
theorem dX6_copy_124 : decode mX6_copy.2.1 124 = .ok (.ireturn, 1) := by decide +kernel
def fn_X6_copy_b99 (x1 : Int32) (x2 : Int32) (x3 : Int32) (x4 : Int32) (x5 : Int32)   (σ : Sg) : Option (Int32 × Sg) :=
  (Option.bind (fn_X6_find 2 σ) fun q204 =>
  (some (q204.1, q204.2)))
set_option maxRecDepth 20000 in
set_option maxHeartbeats 4000000 in
theorem ev_X6_copy_b99 (x1 : Int32) (x2 : Int32) (x3 : Int32) (x4 : Int32) (x5 : Int32)   (σ : Sg) : Ev mX6_copy 1 60 jW 99 [(0, .ref 0), (1, .int x1), (2, .int x2), (3, .int x3), (4, .int x4), (5, .int x5)] [] σ (fn_X6_copy_b99 x1 x2 x3 x4 x5  σ) := by
  unfold fn_X6_copy_b99
  refine ev_aload_n (pc := 99) (i := 0) 0 dX6_copy_99 rfl rfl ?_
  refine ev_iconst (pc := 100) (v := 2) dX6_copy_100 (by decide) ?_
  refine ev_vW (pc := 101) (as := [.int 2]) (rest := []) ⟨6, 106, 8, TX6, tyX6, ag_C6, ⟨(rfl), (by decide)⟩, mv_X6_find, ag_ml_X6_106, rfl, (Nat.le_of_ble_eq_true rfl), ⟨(Nat.le_of_ble_eq_true rfl), (Nat.le_of_ble_eq_true rfl)⟩, dX6_copy_101⟩ (im_X6_find 2 σ) (fun q204 => ?_)
  exact ev_irW rfl dX6_copy_104
def fn_X6_copy_b51 (x1 : Int32) (x2 : Int32) (x3 : Int32) (x4 : Int32) (x5 : Int32)   (σ : Sg) : Option (Int32 × Sg) :=
  (Option.bind (fn_X6_find 1 σ) fun q205 =>
  (some (q205.1, q205.2)))
set_option maxRecDepth 20000 in
set_option maxHeartbeats 4000000 in
theorem ev_X6_copy_b51 (x1 : Int32) (x2 : Int32) (x3 : Int32) (x4 : Int32) (x5 : Int32)   (σ : Sg) : Ev mX6_copy 1 60 jW 51 [(0, .ref 0), (1, .int x1), (2, .int x2), (3, .int x3), (4, .int x4), (5, .int x5)] [] σ (fn_X6_copy_b51 x1 x2 x3 x4 x5  σ) := by
  unfold fn_X6_copy_b51
  refine ev_aload_n (pc := 51) (i := 0) 0 dX6_copy_51 rfl rfl ?_
  refine ev_iconst (pc := 52) (v := 1) dX6_copy_52 (by decide) ?_
  refine ev_vW (pc := 53) (as := [.int 1]) (rest := []) ⟨6, 106, 8, TX6, tyX6, ag_C6, ⟨(rfl), (by decide)⟩, mv_X6_find, ag_ml_X6_106, rfl, (Nat.le_of_ble_eq_true rfl), ⟨(Nat.le_of_ble_eq_true rfl), (Nat.le_of_ble_eq_true rfl)⟩, dX6_copy_53⟩ (im_X6_find 1 σ) (fun q205 => ?_)
  exact ev_irW rfl dX6_copy_56
def fn_X6_copy (x1 : Int32) (x2 : Int32) (x3 : Int32) (x4 : Int32) (x5 : Int32) (σ : Sg) : Option (Int32 × Sg) :=
  (Option.bind (fn_X6_isBelow x1 4 σ) fun q206 =>
  (if q206 = 0 then (some ((-2), σ))
  else (Option.bind (fn_X6_isBelow x3 4 σ) fun q207 =>
  (if q207 = 0 then (some ((-2), σ))
  else (if ag_ib x1 4 = true then (if ag_ib x3 4 = true then (if (σ (45 + 2 * x1.toNatClampNeg) 0) = 0 then (if (σ (45 + 2 * x3.toNatClampNeg) 0) = 0 then (if (σ (45 + 2 * x1.toNatClampNeg) 1) = (σ (45 + 2 * x3.toNatClampNeg) 1) then (Option.bind (fn_X3_hasStretch (45 + 2 * x1.toNatClampNeg) x2 x5 σ) fun q210 =>
  (if q210 = 0 then (fn_X6_copy_b99 x1 x2 x3 x4 x5 σ)
  else (Option.bind (fn_X3_hasStretch (45 + 2 * x3.toNatClampNeg) x4 x5 σ) fun q211 =>
  (if q211 = 0 then (fn_X6_copy_b99 x1 x2 x3 x4 x5 σ)
  else (if ag_cpok x2 x4 x5 48 48 = true then (ag_sg (ag_ar σ ((45 + 2 * x3.toNatClampNeg) + 1) (va_cpy (σ ((45 + 2 * x1.toNatClampNeg) + 1)) (σ ((45 + 2 * x3.toNatClampNeg) + 1)) x2.toNatClampNeg x4.toNatClampNeg x5.toNatClampNeg)) fun t212 =>
  (some (1, t212))) else none)))))
  else (Option.bind (fn_X6_find 4 σ) fun q213 =>
  (some (q213.1, q213.2))))
  else (fn_X6_copy_b51 x1 x2 x3 x4 x5 σ))
  else (fn_X6_copy_b51 x1 x2 x3 x4 x5 σ)) else none) else none)))))
set_option maxRecDepth 20000 in
set_option maxHeartbeats 4000000 in
theorem im_X6_copy (x1 : Int32) (x2 : Int32) (x3 : Int32) (x4 : Int32) (x5 : Int32) (σ : Sg) : Im yX6_copy mX6_copy 1 60 jW [.ref 0, .int x1, .int x2, .int x3, .int x4, .int x5] σ (fn_X6_copy x1 x2 x3 x4 x5 σ) := by
  refine Im.of (by decide +kernel) rfl rfl (Nat.le_of_ble_eq_true rfl) ?_
  show Ev mX6_copy 1 60 jW 0 [(0, .ref 0), (1, .int x1), (2, .int x2), (3, .int x3), (4, .int x4), (5, .int x5)] [] σ (fn_X6_copy x1 x2 x3 x4 x5 σ)
  unfold fn_X6_copy
  refine ev_iload_n (pc := 0) (i := 1) 1 dX6_copy_0 rfl rfl ?_
  refine ev_iconst (pc := 1) (v := 4) dX6_copy_1 (by decide) ?_
  refine ev_sI (pc := 2) (as := [.int x1, .int 4]) (rest := []) ⟨83, ms_X6_isBelow, ag_ml_X6_83, rfl, (Nat.le_of_ble_eq_true rfl), ⟨(Nat.le_of_ble_eq_true rfl), (Nat.le_of_ble_eq_true rfl)⟩, dX6_copy_2⟩ (im_X6_isBelow x1 4 σ) (fun q206 => ?_)
  refine ev_if_eq (pc := 5) (tgt := 16) dX6_copy_5 rfl ?_ ?_
  · refine ev_bipush (pc := 16) (v := (-2)) dX6_copy_16 (by decide) ?_
    exact ev_irW rfl dX6_copy_18
  · refine ev_iload_n (pc := 8) (i := 3) 3 dX6_copy_8 rfl rfl ?_
    refine ev_iconst (pc := 9) (v := 4) dX6_copy_9 (by decide) ?_
    refine ev_sI (pc := 10) (as := [.int x3, .int 4]) (rest := []) ⟨83, ms_X6_isBelow, ag_ml_X6_83, rfl, (Nat.le_of_ble_eq_true rfl), ⟨(Nat.le_of_ble_eq_true rfl), (Nat.le_of_ble_eq_true rfl)⟩, dX6_copy_10⟩ (im_X6_isBelow x3 4 σ) (fun q207 => ?_)
    refine ev_if_ne (pc := 13) (tgt := 19) dX6_copy_13 rfl ?_ ?_
    · refine ev_bipush (pc := 16) (v := (-2)) dX6_copy_16 (by decide) ?_
      exact ev_irW rfl dX6_copy_18
    · refine ev_aload_n (pc := 19) (i := 0) 0 dX6_copy_19 rfl rfl ?_
      refine ev_getR (pc := 20) (t := 44) 6 ag_C6 (rfl) (by decide) (Nat.le_of_ble_eq_true rfl) rfl rfl ag_fl_X6_45 dX6_copy_20 ?_
      refine ev_iload_n (pc := 23) (i := 1) 1 dX6_copy_23 rfl rfl ?_
      refine ev_aald (pc := 24) (rfl) (by decide) dX6_copy_24 (fun hg208 => ?_)
      refine ev_astore (pc := 25) (lv' := [(6, .ref (45 + 2 * x1.toNatClampNeg)), (0, .ref 0), (1, .int x1), (2, .int x2), (3, .int x3), (4, .int x4), (5, .int x5)]) dX6_copy_25 (Nat.le_of_ble_eq_true rfl) rfl ?_
      refine ev_aload_n (pc := 27) (i := 0) 1 dX6_copy_27 rfl rfl ?_
      refine ev_getR (pc := 28) (t := 44) 6 ag_C6 (rfl) (by decide) (Nat.le_of_ble_eq_true rfl) rfl rfl ag_fl_X6_45 dX6_copy_28 ?_
      refine ev_iload_n (pc := 31) (i := 3) 4 dX6_copy_31 rfl rfl ?_
      refine ev_aald (pc := 32) (rfl) (by decide) dX6_copy_32 (fun hg209 => ?_)
      refine ev_astore (pc := 33) (lv' := [(7, .ref (45 + 2 * x3.toNatClampNeg)), (6, .ref (45 + 2 * x1.toNatClampNeg)), (0, .ref 0), (1, .int x1), (2, .int x2), (3, .int x3), (4, .int x4), (5, .int x5)]) dX6_copy_33 (Nat.le_of_ble_eq_true rfl) rfl ?_
      refine ev_aload (pc := 35) 1 dX6_copy_35 rfl ?_
      refine ev_getI (pc := 37) 0 ag_C3 (ag_Rk (ag_RR hg208)).1 (ag_Rk (ag_RR hg208)).2 (Nat.le_of_ble_eq_true rfl) (ag_Rt0 (ag_RR hg208)) rfl ag_fl_X6_102 dX6_copy_37 ?_
      refine ev_if_ne (pc := 40) (tgt := 51) dX6_copy_40 rfl ?_ ?_
      · refine ev_aload (pc := 43) 0 dX6_copy_43 rfl ?_
        refine ev_getI (pc := 45) 0 ag_C3 (ag_Rk (ag_RR hg209)).1 (ag_Rk (ag_RR hg209)).2 (Nat.le_of_ble_eq_true rfl) (ag_Rt0 (ag_RR hg209)) rfl ag_fl_X6_102 dX6_copy_45 ?_
        refine ev_if_eq (pc := 48) (tgt := 57) dX6_copy_48 rfl ?_ ?_
        · refine ev_aload (pc := 57) 1 dX6_copy_57 rfl ?_
          refine ev_getI (pc := 59) 1 ag_C3 (ag_Rk (ag_RR hg208)).1 (ag_Rk (ag_RR hg208)).2 (Nat.le_of_ble_eq_true rfl) (ag_Rt1 (ag_RR hg208)) rfl ag_fl_X6_268 dX6_copy_59 ?_
          refine ev_aload (pc := 62) 0 dX6_copy_62 rfl ?_
          refine ev_getI (pc := 64) 1 ag_C3 (ag_Rk (ag_RR hg209)).1 (ag_Rk (ag_RR hg209)).2 (Nat.le_of_ble_eq_true rfl) (ag_Rt1 (ag_RR hg209)) rfl ag_fl_X6_268 dX6_copy_64 ?_
          refine ev_icmp_eq (pc := 67) (tgt := 76) dX6_copy_67 rfl ?_ ?_
          · refine ev_aload (pc := 76) 1 dX6_copy_76 rfl ?_
            refine ev_iload_n (pc := 78) (i := 2) 4 dX6_copy_78 rfl rfl ?_
            refine ev_iload (pc := 79) 7 dX6_copy_79 rfl ?_
            refine ev_vI (pc := 81) (as := [.int x2, .int x5]) (rest := []) ⟨3, 271, 4, TX3, tyX3, ag_C3, ⟨(ag_Rk (ag_RR hg208)).1, (ag_Rk (ag_RR hg208)).2⟩, mv_X3_hasStretch, ag_ml_X6_271, rfl, (Nat.le_of_ble_eq_true rfl), ⟨(Nat.le_of_ble_eq_true rfl), (Nat.le_of_ble_eq_true rfl)⟩, dX6_copy_81⟩ (im_X3_hasStretch (45 + 2 * x1.toNatClampNeg) (ag_RR hg208) x2 x5 σ) (fun q210 => ?_)
            refine ev_if_eq (pc := 84) (tgt := 99) dX6_copy_84 rfl ?_ ?_
            · refine ev_sub [2, 3, 4, 5, 6, 7] rfl ?_
              exact ev_X6_copy_b99 x1 x2 x3 x4 x5 σ
            · refine ev_aload (pc := 87) 0 dX6_copy_87 rfl ?_
              refine ev_iload (pc := 89) 6 dX6_copy_89 rfl ?_
              refine ev_iload (pc := 91) 7 dX6_copy_91 rfl ?_
              refine ev_vI (pc := 93) (as := [.int x4, .int x5]) (rest := []) ⟨3, 271, 4, TX3, tyX3, ag_C3, ⟨(ag_Rk (ag_RR hg209)).1, (ag_Rk (ag_RR hg209)).2⟩, mv_X3_hasStretch, ag_ml_X6_271, rfl, (Nat.le_of_ble_eq_true rfl), ⟨(Nat.le_of_ble_eq_true rfl), (Nat.le_of_ble_eq_true rfl)⟩, dX6_copy_93⟩ (im_X3_hasStretch (45 + 2 * x3.toNatClampNeg) (ag_RR hg209) x4 x5 σ) (fun q211 => ?_)
              refine ev_if_ne (pc := 96) (tgt := 105) dX6_copy_96 rfl ?_ ?_
              · refine ev_sub [2, 3, 4, 5, 6, 7] rfl ?_
                exact ev_X6_copy_b99 x1 x2 x3 x4 x5 σ
              · refine ev_aload (pc := 105) 1 dX6_copy_105 rfl ?_
                refine ev_getR (pc := 107) (t := ((45 + 2 * x1.toNatClampNeg) + 1)) 3 ag_C3 (ag_Rk (ag_RR hg208)).1 (ag_Rk (ag_RR hg208)).2 (Nat.le_of_ble_eq_true rfl) (ag_Rt3 (ag_RR hg208)) rfl ag_fl_X6_111 dX6_copy_107 ?_
                refine ev_iload_n (pc := 110) (i := 2) 4 dX6_copy_110 rfl rfl ?_
                refine ev_aload (pc := 111) 0 dX6_copy_111 rfl ?_
                refine ev_getR (pc := 113) (t := ((45 + 2 * x3.toNatClampNeg) + 1)) 3 ag_C3 (ag_Rk (ag_RR hg209)).1 (ag_Rk (ag_RR hg209)).2 (Nat.le_of_ble_eq_true rfl) (ag_Rt3 (ag_RR hg209)) rfl ag_fl_X6_111 dX6_copy_113 ?_
                refine ev_iload (pc := 116) 6 dX6_copy_116 rfl ?_
                refine ev_iload (pc := 118) 7 dX6_copy_118 rfl ?_
                refine ev_copy (pc := 120) (ag_Ra1 (ag_RR hg208)).1 (ag_Ra1 (ag_RR hg208)).2 (ag_Ra1 (ag_RR hg209)).1 (ag_Ra1 (ag_RR hg209)).2 ag_ml_X6_274 ⟨(Nat.le_of_ble_eq_true rfl), (by decide)⟩ dX6_copy_120 ?_
                refine ev_sg (fun t212 => ?_)
                refine ev_iconst (pc := 123) (v := 1) dX6_copy_123 (by decide) ?_
                exact ev_irW rfl dX6_copy_124
          · refine ev_aload_n (pc := 70) (i := 0) 2 dX6_copy_70 rfl rfl ?_
            refine ev_iconst (pc := 71) (v := 4) dX6_copy_71 (by decide) ?_
            refine ev_vW (pc := 72) (as := [.int 4]) (rest := []) ⟨6, 106, 8, TX6, tyX6, ag_C6, ⟨(rfl), (by decide)⟩, mv_X6_find, ag_ml_X6_106, rfl, (Nat.le_of_ble_eq_true rfl), ⟨(Nat.le_of_ble_eq_true rfl), (Nat.le_of_ble_eq_true rfl)⟩, dX6_copy_72⟩ (im_X6_find 4 σ) (fun q213 => ?_)
            exact ev_irW rfl dX6_copy_75
        · refine ev_sub [2, 3, 4, 5, 6, 7] rfl ?_
          exact ev_X6_copy_b51 x1 x2 x3 x4 x5 σ
      · refine ev_sub [2, 3, 4, 5, 6, 7] rfl ?_
        exact ev_X6_copy_b51 x1 x2 x3 x4 x5 σ
-- X6_write
def mX6_write : Md := (RX6, cX6_write, 5, some .int, none)
theorem mv_X6_write : ag_Mv yX6_write mX6_write 1 := ⟨ag_co_X6_write, ag_im_X6_write, ag_se_X6_write, ag_ini_X6, by decide +kernel⟩
theorem dX6_write_0 : decode mX6_write.2.1 0 = .ok (.iload_n 1, 1) := by decide +kernel
theorem dX6_write_1 : decode mX6_write.2.1 1 = .ok (.iconst 4, 1) := by decide +kernel
theorem dX6_write_2 : decode mX6_write.2.1 2 = .ok (.invokestatic 83, 3) := by decide +kernel
theorem dX6_write_5 : decode mX6_write.2.1 5 = .ok (.ifCond .ne 6, 3) := by decide +kernel
theorem dX6_write_8 : decode mX6_write.2.1 8 = .ok (.bipush (-2), 2) := by decide +kernel
theorem dX6_write_10 : decode mX6_write.2.1 10 = .ok (.ireturn, 1) := by decide +kernel
theorem dX6_write_11 : decode mX6_write.2.1 11 = .ok (.aload_n 0, 1) := by decide +kernel
theorem dX6_write_12 : decode mX6_write.2.1 12 = .ok (.getfield 45, 3) := by decide +kernel
theorem dX6_write_15 : decode mX6_write.2.1 15 = .ok (.iload_n 1, 1) := by decide +kernel
theorem dX6_write_16 : decode mX6_write.2.1 16 = .ok (.aaload, 1) := by decide +kernel
theorem dX6_write_17 : decode mX6_write.2.1 17 = .ok (.astore_n 2, 1) := by decide +kernel
theorem dX6_write_18 : decode mX6_write.2.1 18 = .ok (.aload_n 2, 1) := by decide +kernel
theorem dX6_write_19 : decode mX6_write.2.1 19 = .ok (.getfield 102, 3) := by decide +kernel
theorem dX6_write_22 : decode mX6_write.2.1 22 = .ok (.ifCond .eq 9, 3) := by decide +kernel
theorem dX6_write_25 : decode mX6_write.2.1 25 = .ok (.aload_n 0, 1) := by decide +kernel
theorem dX6_write_26 : decode mX6_write.2.1 26 = .ok (.iconst 1, 1) := by decide +kernel
theorem dX6_write_27 : decode mX6_write.2.1 27 = .ok (.invokevirtual 106, 3) := by decide +kernel
theorem dX6_write_30 : decode mX6_write.2.1 30 = .ok (.ireturn, 1) := by decide +kernel
theorem dX6_write_31 : decode mX6_write.2.1 31 = .ok (.aload_n 2, 1) := by decide +kernel
theorem dX6_write_32 : decode mX6_write.2.1 32 = .ok (.getfield 110, 3) := by decide +kernel
theorem dX6_write_35 : decode mX6_write.2.1 35 = .ok (.aload_n 0, 1) := by decide +kernel
theorem dX6_write_36 : decode mX6_write.2.1 36 = .ok (.getfield 35, 3) := by decide +kernel
theorem dX6_write_39 : decode mX6_write.2.1 39 = .ok (.getfield 97, 3) := by decide +kernel
theorem dX6_write_42 : decode mX6_write.2.1 42 = .ok (.invokestatic 185, 3) := by decide +kernel
theorem dX6_write_45 : decode mX6_write.2.1 45 = .ok (.istore_n 3, 1) := by decide +kernel
theorem dX6_write_46 : decode mX6_write.2.1 46 = .ok (.iconst 0, 1) := by decide +kernel
theorem dX6_write_47 : decode mX6_write.2.1 47 = .ok (.istore 4, 2) := by decide +kernel
theorem dX6_write_49 : decode mX6_write.2.1 49 = .ok (.iload 4, 2) := by decide +kernel
theorem dX6_write_51 : decode mX6_write.2.1 51 = .ok (.iload_n 3, 1) := by decide +kernel
theorem dX6_write_52 : decode mX6_write.2.1 52 = .ok (.if_icmp .ge 24, 3) := by decide +kernel
theorem dX6_write_55 : decode mX6_write.2.1 55 = .ok (.aload_n 2, 1) := by decide +kernel
theorem dX6_write_56 : decode mX6_write.2.1 56 = .ok (.iload 4, 2) := by decide +kernel
theorem dX6_write_58 : decode mX6_write.2.1 58 = .ok (.aload_n 0, 1) := by decide +kernel
theorem dX6_write_59 : decode mX6_write.2.1 59 = .ok (.getfield 19, 3) := by decide +kernel
theorem dX6_write_62 : decode mX6_write.2.1 62 = .ok (.iload 4, 2) := by decide +kernel
theorem dX6_write_64 : decode mX6_write.2.1 64 = .ok (.invokevirtual 129, 3) := by decide +kernel
theorem dX6_write_67 : decode mX6_write.2.1 67 = .ok (.invokevirtual 264, 3) := by decide +kernel
theorem dX6_write_70 : decode mX6_write.2.1 70 = .ok (.iinc 4 1, 3) := by decide +kernel
theorem dX6_write_73 : decode mX6_write.2.1 73 = .ok (.goto (-24), 3) := by decide +kernel
theorem dX6_write_76 : decode mX6_write.2.1 76 = .ok (.iload_n 3, 1) := by decide +kernel
theorem dX6_write_77 : decode mX6_write.2.1 77 = .ok (.ireturn, 1) := by decide +kernel
def fn_X6_write_b49 (n : Nat) (x1 : Int32)  : Nat → Nat → Int32 → Int32 → Sg → Option (Int32 × Sg)
  | 0 => fun _ _ _ _ => none
  | i + 1 => fun r2 v3 v4 σ =>
  (if v3 ≤ v4 then (some (v3, σ))
  else (Option.bind (fn_X5_openingYear 3 v4 σ) fun q214 =>
  (Option.bind (fn_X3_setItem r2 v4 q214 σ) fun q215 =>
  ((fn_X6_write_b49 n x1 i) r2 v3 (v4 + 1) q215))))
theorem fn_X6_write_b49_s (n : Nat) (x1 : Int32)  (i : Nat) (r2 : Nat) (v3 : Int32) (v4 : Int32) (σ : Sg) : fn_X6_write_b49 n x1 (i + 1) r2 v3 v4 σ =
  (if v3 ≤ v4 then (some (v3, σ))
  else (Option.bind (fn_X5_openingYear 3 v4 σ) fun q214 =>
  (Option.bind (fn_X3_setItem r2 v4 q214 σ) fun q215 =>
  ((fn_X6_write_b49 n x1 i) r2 v3 (v4 + 1) q215)))) := rfl
set_option maxRecDepth 20000 in
set_option maxHeartbeats 4000000 in
theorem ev_X6_write_b49 (n : Nat) (x1 : Int32)  : ∀ (i : Nat) (r2 : Nat) (hr2 : ag_R r2) (v3 : Int32) (v4 : Int32) (σ : Sg), Ev mX6_write 2 43 jW 49 [(0, .ref 0), (1, .int x1), (2, .ref r2), (3, .int v3), (4, .int v4)] [] σ (fn_X6_write_b49 n x1 i r2 v3 v4 σ) := by
  intro i
  induction i with
  | zero =>
    intro r2 hr2 v3 v4 σ
    exact ev_none
  | succ i ih =>
    intro r2 hr2 v3 v4 σ
    rw [fn_X6_write_b49_s]
    refine ev_iload (pc := 49) 4 dX6_write_49 rfl ?_
    refine ev_iload_n (pc := 51) (i := 3) 3 dX6_write_51 rfl rfl ?_
    refine ev_icmp_ge (pc := 52) (tgt := 76) dX6_write_52 rfl ?_ ?_
    · refine ev_iload_n (pc := 76) (i := 3) 3 dX6_write_76 rfl rfl ?_
      exact ev_irW rfl dX6_write_77
    · refine ev_aload_n (pc := 55) (i := 2) 2 dX6_write_55 rfl rfl ?_
      refine ev_iload (pc := 56) 4 dX6_write_56 rfl ?_
      refine ev_aload_n (pc := 58) (i := 0) 0 dX6_write_58 rfl rfl ?_
      refine ev_getR (pc := 59) (t := 3) 1 ag_C6 (rfl) (by decide) (Nat.le_of_ble_eq_true rfl) rfl rfl ag_fl_X6_19 dX6_write_59 ?_
      refine ev_iload (pc := 62) 4 dX6_write_62 rfl ?_
      refine ev_vI (pc := 64) (as := [.int v4]) (rest := [.int v4, .ref r2]) ⟨5, 129, 10, TX5, tyX5, ag_C5, ⟨(rfl), (by decide)⟩, mv_X5_openingYear, ag_ml_X6_129, rfl, (Nat.le_of_ble_eq_true rfl), ⟨(Nat.le_of_ble_eq_true rfl), (Nat.le_of_ble_eq_true rfl)⟩, dX6_write_64⟩ (im_X5_openingYear 3 (Or.inl rfl) v4 σ) (fun q214 => ?_)
      refine ev_vV (pc := 67) (as := [.int v4, .int q214]) (rest := []) ⟨3, 264, 4, TX3, tyX3, ag_C3, ⟨(ag_Rk hr2).1, (ag_Rk hr2).2⟩, mv_X3_setItem, ag_ml_X6_264, rfl, (Nat.le_of_ble_eq_true rfl), ⟨(Nat.le_of_ble_eq_true rfl), (Nat.le_of_ble_eq_true rfl)⟩, dX6_write_67⟩ (im_X3_setItem r2 hr2 v4 q214 σ) (fun q215 => ?_)
      refine ev_iinc (pc := 70) (v := (v4 + 1)) (lv' := [(4, .int (v4 + 1)), (0, .ref 0), (1, .int x1), (2, .ref r2), (3, .int v3)]) 4 dX6_write_70 rfl rfl (Nat.le_of_ble_eq_true rfl) rfl ?_
      refine ev_goto (pc := 73) (tgt := 49) dX6_write_73 rfl ?_
      refine ev_sub [1, 2, 3, 4, 0] rfl ?_
      exact ih r2 hr2 v3 (v4 + 1) q215
def fn_X6_write (n : Nat) (x1 : Int32) (σ : Sg) : Option (Int32 × Sg) :=
  (Option.bind (fn_X6_isBelow x1 4 σ) fun q216 =>
  (if q216 = 0 then (some ((-2), σ))
  else (if ag_ib x1 4 = true then (if (σ (45 + 2 * x1.toNatClampNeg) 0) = 0 then (fn_X6_write_b49 n x1 n (45 + 2 * x1.toNatClampNeg) (ag_min (σ (45 + 2 * x1.toNatClampNeg) 2) (σ 10 0)) 0 σ)
  else (Option.bind (fn_X6_find 1 σ) fun q218 =>
  (some (q218.1, q218.2)))) else none)))
set_option maxRecDepth 20000 in
set_option maxHeartbeats 4000000 in
theorem im_X6_write (n : Nat) (x1 : Int32) (σ : Sg) : Im yX6_write mX6_write 2 43 jW [.ref 0, .int x1] σ (fn_X6_write n x1 σ) := by
  refine Im.of (by decide +kernel) rfl rfl (Nat.le_of_ble_eq_true rfl) ?_
  show Ev mX6_write 2 43 jW 0 [(0, .ref 0), (1, .int x1)] [] σ (fn_X6_write n x1 σ)
  unfold fn_X6_write
  refine ev_iload_n (pc := 0) (i := 1) 1 dX6_write_0 rfl rfl ?_
  refine ev_iconst (pc := 1) (v := 4) dX6_write_1 (by decide) ?_
  refine ev_sI (pc := 2) (as := [.int x1, .int 4]) (rest := []) ⟨83, ms_X6_isBelow, ag_ml_X6_83, rfl, (Nat.le_of_ble_eq_true rfl), ⟨(Nat.le_of_ble_eq_true rfl), (Nat.le_of_ble_eq_true rfl)⟩, dX6_write_2⟩ (im_X6_isBelow x1 4 σ) (fun q216 => ?_)
  refine ev_if_ne (pc := 5) (tgt := 11) dX6_write_5 rfl ?_ ?_
  · refine ev_bipush (pc := 8) (v := (-2)) dX6_write_8 (by decide) ?_
    exact ev_irW rfl dX6_write_10
  · refine ev_aload_n (pc := 11) (i := 0) 0 dX6_write_11 rfl rfl ?_
    refine ev_getR (pc := 12) (t := 44) 6 ag_C6 (rfl) (by decide) (Nat.le_of_ble_eq_true rfl) rfl rfl ag_fl_X6_45 dX6_write_12 ?_
    refine ev_iload_n (pc := 15) (i := 1) 1 dX6_write_15 rfl rfl ?_
    refine ev_aald (pc := 16) (rfl) (by decide) dX6_write_16 (fun hg217 => ?_)
    refine ev_astore_n (pc := 17) (i := 2) (lv' := [(2, .ref (45 + 2 * x1.toNatClampNeg)), (0, .ref 0), (1, .int x1)]) dX6_write_17 rfl (Nat.le_of_ble_eq_true rfl) rfl ?_
    refine ev_aload_n (pc := 18) (i := 2) 0 dX6_write_18 rfl rfl ?_
    refine ev_getI (pc := 19) 0 ag_C3 (ag_Rk (ag_RR hg217)).1 (ag_Rk (ag_RR hg217)).2 (Nat.le_of_ble_eq_true rfl) (ag_Rt0 (ag_RR hg217)) rfl ag_fl_X6_102 dX6_write_19 ?_
    refine ev_if_eq (pc := 22) (tgt := 31) dX6_write_22 rfl ?_ ?_
    · refine ev_aload_n (pc := 31) (i := 2) 0 dX6_write_31 rfl rfl ?_
      refine ev_getI (pc := 32) 2 ag_C3 (ag_Rk (ag_RR hg217)).1 (ag_Rk (ag_RR hg217)).2 (Nat.le_of_ble_eq_true rfl) (ag_Rt2 (ag_RR hg217)) rfl ag_fl_X6_110 dX6_write_32 ?_
      refine ev_aload_n (pc := 35) (i := 0) 1 dX6_write_35 rfl rfl ?_
      refine ev_getR (pc := 36) (t := 10) 4 ag_C6 (rfl) (by decide) (Nat.le_of_ble_eq_true rfl) rfl rfl ag_fl_X6_35 dX6_write_36 ?_
      refine ev_getI (pc := 39) 0 ag_C2 (rfl) (by decide) (Nat.le_of_ble_eq_true rfl) rfl rfl ag_fl_X6_97 dX6_write_39 ?_
      refine ev_mmin (pc := 42) ag_ml_X6_185 ⟨(Nat.le_of_ble_eq_true rfl), (Nat.le_of_ble_eq_true rfl)⟩ dX6_write_42 ?_
      refine ev_istore_n (pc := 45) (i := 3) (lv' := [(3, .int (ag_min (σ (45 + 2 * x1.toNatClampNeg) 2) (σ 10 0))), (2, .ref (45 + 2 * x1.toNatClampNeg)), (0, .ref 0), (1, .int x1)]) dX6_write_45 rfl (Nat.le_of_ble_eq_true rfl) rfl ?_
      refine ev_iconst (pc := 46) (v := 0) dX6_write_46 (by decide) ?_
      refine ev_istore (pc := 47) (lv' := [(4, .int 0), (3, .int (ag_min (σ (45 + 2 * x1.toNatClampNeg) 2) (σ 10 0))), (2, .ref (45 + 2 * x1.toNatClampNeg)), (0, .ref 0), (1, .int x1)]) dX6_write_47 (Nat.le_of_ble_eq_true rfl) rfl ?_
      refine ev_sub [3, 4, 2, 1, 0] rfl ?_
      exact ev_X6_write_b49 n x1 n (45 + 2 * x1.toNatClampNeg) (ag_RR hg217) (ag_min (σ (45 + 2 * x1.toNatClampNeg) 2) (σ 10 0)) 0 σ
    · refine ev_aload_n (pc := 25) (i := 0) 1 dX6_write_25 rfl rfl ?_
      refine ev_iconst (pc := 26) (v := 1) dX6_write_26 (by decide) ?_
      refine ev_vW (pc := 27) (as := [.int 1]) (rest := []) ⟨6, 106, 8, TX6, tyX6, ag_C6, ⟨(rfl), (by decide)⟩, mv_X6_find, ag_ml_X6_106, rfl, (Nat.le_of_ble_eq_true rfl), ⟨(Nat.le_of_ble_eq_true rfl), (Nat.le_of_ble_eq_true rfl)⟩, dX6_write_27⟩ (im_X6_find 1 σ) (fun q218 => ?_)
      exact ev_irW rfl dX6_write_30
-- X6_count
def mX6_count : Md := (RX6, cX6_count, 2, some .int, none)
theorem mv_X6_count : ag_Mv yX6_count mX6_count 1 := ⟨ag_co_X6_count, ag_im_X6_count, ag_se_X6_count, ag_ini_X6, by decide +kernel⟩
theorem dX6_count_0 : decode mX6_count.2.1 0 = .ok (.iload_n 1, 1) := by decide +kernel
theorem dX6_count_1 : decode mX6_count.2.1 1 = .ok (.tableswitch 126 0 8 #[51, 59, 67, 75, 86, 97, 105, 113, 121], 51) := by decide +kernel
theorem dX6_count_52 : decode mX6_count.2.1 52 = .ok (.aload_n 0, 1) := by decide +kernel
theorem dX6_count_53 : decode mX6_count.2.1 53 = .ok (.getfield 30, 3) := by decide +kernel
theorem dX6_count_56 : decode mX6_count.2.1 56 = .ok (.getfield 172, 3) := by decide +kernel
theorem dX6_count_59 : decode mX6_count.2.1 59 = .ok (.ireturn, 1) := by decide +kernel
theorem dX6_count_60 : decode mX6_count.2.1 60 = .ok (.aload_n 0, 1) := by decide +kernel
theorem dX6_count_61 : decode mX6_count.2.1 61 = .ok (.getfield 10, 3) := by decide +kernel
theorem dX6_count_64 : decode mX6_count.2.1 64 = .ok (.getfield 54, 3) := by decide +kernel
theorem dX6_count_67 : decode mX6_count.2.1 67 = .ok (.ireturn, 1) := by decide +kernel
theorem dX6_count_68 : decode mX6_count.2.1 68 = .ok (.aload_n 0, 1) := by decide +kernel
theorem dX6_count_69 : decode mX6_count.2.1 69 = .ok (.getfield 35, 3) := by decide +kernel
theorem dX6_count_72 : decode mX6_count.2.1 72 = .ok (.getfield 97, 3) := by decide +kernel
theorem dX6_count_75 : decode mX6_count.2.1 75 = .ok (.ireturn, 1) := by decide +kernel
theorem dX6_count_76 : decode mX6_count.2.1 76 = .ok (.aload_n 0, 1) := by decide +kernel
theorem dX6_count_77 : decode mX6_count.2.1 77 = .ok (.getfield 19, 3) := by decide +kernel
theorem dX6_count_80 : decode mX6_count.2.1 80 = .ok (.getfield 132, 3) := by decide +kernel
theorem dX6_count_83 : decode mX6_count.2.1 83 = .ok (.invokestatic 190, 3) := by decide +kernel
theorem dX6_count_86 : decode mX6_count.2.1 86 = .ok (.ireturn, 1) := by decide +kernel
theorem dX6_count_87 : decode mX6_count.2.1 87 = .ok (.aload_n 0, 1) := by decide +kernel
theorem dX6_count_88 : decode mX6_count.2.1 88 = .ok (.getfield 19, 3) := by decide +kernel
theorem dX6_count_91 : decode mX6_count.2.1 91 = .ok (.getfield 150, 3) := by decide +kernel
theorem dX6_count_94 : decode mX6_count.2.1 94 = .ok (.invokestatic 190, 3) := by decide +kernel
theorem dX6_count_97 : decode mX6_count.2.1 97 = .ok (.ireturn, 1) := by decide +kernel
theorem dX6_count_98 : decode mX6_count.2.1 98 = .ok (.aload_n 0, 1) := by decide +kernel
theorem dX6_count_99 : decode mX6_count.2.1 99 = .ok (.getfield 39, 3) := by decide +kernel
theorem dX6_count_102 : decode mX6_count.2.1 102 = .ok (.getfield 215, 3) := by decide +kernel
theorem dX6_count_105 : decode mX6_count.2.1 105 = .ok (.ireturn, 1) := by decide +kernel
theorem dX6_count_106 : decode mX6_count.2.1 106 = .ok (.aload_n 0, 1) := by decide +kernel
theorem dX6_count_107 : decode mX6_count.2.1 107 = .ok (.getfield 30, 3) := by decide +kernel
theorem dX6_count_110 : decode mX6_count.2.1 110 = .ok (.invokevirtual 280, 3) := by decide +kernel
theorem dX6_count_113 : decode mX6_count.2.1 113 = .ok (.ireturn, 1) := by decide +kernel
theorem dX6_count_114 : decode mX6_count.2.1 114 = .ok (.aload_n 0, 1) := by decide +kernel
theorem dX6_count_115 : decode mX6_count.2.1 115 = .ok (.getfield 30, 3) := by decide +kernel
theorem dX6_count_118 : decode mX6_count.2.1 118 = .ok (.invokevirtual 283, 3) := by decide +kernel
theorem dX6_count_121 : decode mX6_count.2.1 121 = .ok (.ireturn, 1) := by decide +kernel
theorem dX6_count_122 : decode mX6_count.2.1 122 = .ok (.aload_n 0, 1) := by decide +kernel
theorem dX6_count_123 : decode mX6_count.2.1 123 = .ok (.getfield 50, 3) := by decide +kernel
theorem dX6_count_126 : decode mX6_count.2.1 126 = .ok (.ireturn, 1) := by decide +kernel
theorem dX6_count_127 : decode mX6_count.2.1 127 = .ok (.bipush (-2), 2) := by decide +kernel
theorem dX6_count_129 : decode mX6_count.2.1 129 = .ok (.ireturn, 1) := by decide +kernel
def fn_X6_count (n : Nat) (x1 : Int32) (σ : Sg) : Option Int32 :=
  (if x1 = 0 then (some (σ 4 0))
  else (if x1 = 1 then (some (σ 1 1))
  else (if x1 = 2 then (some (σ 10 0))
  else (if x1 = 3 then (Option.bind (fn_J6_bitCount_0f7a4 (σ 3 3) σ) fun q219 =>
  (some q219))
  else (if x1 = 4 then (Option.bind (fn_J6_bitCount_0f7a4 (σ 3 4) σ) fun q220 =>
  (some q220))
  else (if x1 = 5 then (some (σ 39 0))
  else (if x1 = 6 then (Option.bind (fn_X1_elders n 4 σ) fun q221 =>
  (some q221))
  else (if x1 = 7 then (Option.bind (fn_X1_ownWords n 4 σ) fun q222 =>
  (some q222))
  else (if x1 = 8 then (some (σ 0 7))
  else (some (-2)))))))))))
set_option maxRecDepth 20000 in
set_option maxHeartbeats 4000000 in
theorem im_X6_count (n : Nat) (x1 : Int32) (σ : Sg) : Im yX6_count mX6_count 2 42 (jI σ) [.ref 0, .int x1] σ (fn_X6_count n x1 σ) := by
  refine Im.of (by decide +kernel) rfl rfl (Nat.le_of_ble_eq_true rfl) ?_
  show Ev mX6_count 2 42 (jI σ) 0 [(0, .ref 0), (1, .int x1)] [] σ (fn_X6_count n x1 σ)
  unfold fn_X6_count
  refine ev_iload_n (pc := 0) (i := 1) 1 dX6_count_0 rfl rfl ?_
  refine ev_ite (fun hc0 => ?_) (fun hc0 => ?_)
  · refine ev_tin (pc := 1) (tgt := 52) dX6_count_1 (by rw [hc0]; decide) (by rw [hc0]; decide) (by rw [hc0]; rfl) rfl ?_
    refine ev_aload_n (pc := 52) (i := 0) 0 dX6_count_52 rfl rfl ?_
    refine ev_getR (pc := 53) (t := 4) 3 ag_C6 (rfl) (by decide) (Nat.le_of_ble_eq_true rfl) rfl rfl ag_fl_X6_30 dX6_count_53 ?_
    refine ev_getI (pc := 56) 0 ag_C1 (rfl) (by decide) (Nat.le_of_ble_eq_true rfl) rfl rfl ag_fl_X6_172 dX6_count_56 ?_
    exact ev_irI rfl dX6_count_59
  · skip
    refine ev_ite (fun hc1 => ?_) (fun hc1 => ?_)
    · refine ev_tin (pc := 1) (tgt := 60) dX6_count_1 (by rw [hc1]; decide) (by rw [hc1]; decide) (by rw [hc1]; rfl) rfl ?_
      refine ev_aload_n (pc := 60) (i := 0) 0 dX6_count_60 rfl rfl ?_
      refine ev_getR (pc := 61) (t := 1) 0 ag_C6 (rfl) (by decide) (Nat.le_of_ble_eq_true rfl) rfl rfl ag_fl_X6_10 dX6_count_61 ?_
      refine ev_getI (pc := 64) 1 ag_C4 (rfl) (by decide) (Nat.le_of_ble_eq_true rfl) rfl rfl ag_fl_X6_54 dX6_count_64 ?_
      exact ev_irI rfl dX6_count_67
    · skip
      refine ev_ite (fun hc2 => ?_) (fun hc2 => ?_)
      · refine ev_tin (pc := 1) (tgt := 68) dX6_count_1 (by rw [hc2]; decide) (by rw [hc2]; decide) (by rw [hc2]; rfl) rfl ?_
        refine ev_aload_n (pc := 68) (i := 0) 0 dX6_count_68 rfl rfl ?_
        refine ev_getR (pc := 69) (t := 10) 4 ag_C6 (rfl) (by decide) (Nat.le_of_ble_eq_true rfl) rfl rfl ag_fl_X6_35 dX6_count_69 ?_
        refine ev_getI (pc := 72) 0 ag_C2 (rfl) (by decide) (Nat.le_of_ble_eq_true rfl) rfl rfl ag_fl_X6_97 dX6_count_72 ?_
        exact ev_irI rfl dX6_count_75
      · skip
        refine ev_ite (fun hc3 => ?_) (fun hc3 => ?_)
        · refine ev_tin (pc := 1) (tgt := 76) dX6_count_1 (by rw [hc3]; decide) (by rw [hc3]; decide) (by rw [hc3]; rfl) rfl ?_
          refine ev_aload_n (pc := 76) (i := 0) 0 dX6_count_76 rfl rfl ?_
          refine ev_getR (pc := 77) (t := 3) 1 ag_C6 (rfl) (by decide) (Nat.le_of_ble_eq_true rfl) rfl rfl ag_fl_X6_19 dX6_count_77 ?_
          refine ev_getI (pc := 80) 3 ag_C5 (rfl) (by decide) (Nat.le_of_ble_eq_true rfl) rfl rfl ag_fl_X6_132 dX6_count_80 ?_
          refine ev_sI (pc := 83) (as := [.int (σ 3 3)]) (rest := []) ⟨190, ms_J6_bitCount_0f7a4, ag_ml_X6_190, rfl, (Nat.le_of_ble_eq_true rfl), ⟨(Nat.le_of_ble_eq_true rfl), (Nat.le_of_ble_eq_true rfl)⟩, dX6_count_83⟩ (im_J6_bitCount_0f7a4 (σ 3 3) σ) (fun q219 => ?_)
          exact ev_irI rfl dX6_count_86
        · skip
          refine ev_ite (fun hc4 => ?_) (fun hc4 => ?_)
          · refine ev_tin (pc := 1) (tgt := 87) dX6_count_1 (by rw [hc4]; decide) (by rw [hc4]; decide) (by rw [hc4]; rfl) rfl ?_
            refine ev_aload_n (pc := 87) (i := 0) 0 dX6_count_87 rfl rfl ?_
            refine ev_getR (pc := 88) (t := 3) 1 ag_C6 (rfl) (by decide) (Nat.le_of_ble_eq_true rfl) rfl rfl ag_fl_X6_19 dX6_count_88 ?_
            refine ev_getI (pc := 91) 4 ag_C5 (rfl) (by decide) (Nat.le_of_ble_eq_true rfl) rfl rfl ag_fl_X6_150 dX6_count_91 ?_
            refine ev_sI (pc := 94) (as := [.int (σ 3 4)]) (rest := []) ⟨190, ms_J6_bitCount_0f7a4, ag_ml_X6_190, rfl, (Nat.le_of_ble_eq_true rfl), ⟨(Nat.le_of_ble_eq_true rfl), (Nat.le_of_ble_eq_true rfl)⟩, dX6_count_94⟩ (im_J6_bitCount_0f7a4 (σ 3 4) σ) (fun q220 => ?_)
            exact ev_irI rfl dX6_count_97
          · skip
            refine ev_ite (fun hc5 => ?_) (fun hc5 => ?_)
            · refine ev_tin (pc := 1) (tgt := 98) dX6_count_1 (by rw [hc5]; decide) (by rw [hc5]; decide) (by rw [hc5]; rfl) rfl ?_
              refine ev_aload_n (pc := 98) (i := 0) 0 dX6_count_98 rfl rfl ?_
              refine ev_getR (pc := 99) (t := 39) 5 ag_C6 (rfl) (by decide) (Nat.le_of_ble_eq_true rfl) rfl rfl ag_fl_X6_39 dX6_count_99 ?_
              refine ev_getI (pc := 102) 0 ag_C0 (rfl) (by decide) (Nat.le_of_ble_eq_true rfl) rfl rfl ag_fl_X6_215 dX6_count_102 ?_
              exact ev_irI rfl dX6_count_105
            · skip
              refine ev_ite (fun hc6 => ?_) (fun hc6 => ?_)
              · refine ev_tin (pc := 1) (tgt := 106) dX6_count_1 (by rw [hc6]; decide) (by rw [hc6]; decide) (by rw [hc6]; rfl) rfl ?_
                refine ev_aload_n (pc := 106) (i := 0) 0 dX6_count_106 rfl rfl ?_
                refine ev_getR (pc := 107) (t := 4) 3 ag_C6 (rfl) (by decide) (Nat.le_of_ble_eq_true rfl) rfl rfl ag_fl_X6_30 dX6_count_107 ?_
                refine ev_vI (pc := 110) (as := []) (rest := []) ⟨1, 280, 6, TX1, tyX1, ag_C1, ⟨(rfl), (by decide)⟩, mv_X1_elders, ag_ml_X6_280, rfl, (Nat.le_of_ble_eq_true rfl), ⟨(Nat.le_of_ble_eq_true rfl), (Nat.le_of_ble_eq_true rfl)⟩, dX6_count_110⟩ (im_X1_elders n 4 (Or.inl rfl) σ) (fun q221 => ?_)
                exact ev_irI rfl dX6_count_113
              · skip
                refine ev_ite (fun hc7 => ?_) (fun hc7 => ?_)
                · refine ev_tin (pc := 1) (tgt := 114) dX6_count_1 (by rw [hc7]; decide) (by rw [hc7]; decide) (by rw [hc7]; rfl) rfl ?_
                  refine ev_aload_n (pc := 114) (i := 0) 0 dX6_count_114 rfl rfl ?_
                  refine ev_getR (pc := 115) (t := 4) 3 ag_C6 (rfl) (by decide) (Nat.le_of_ble_eq_true rfl) rfl rfl ag_fl_X6_30 dX6_count_115 ?_
                  refine ev_vI (pc := 118) (as := []) (rest := []) ⟨1, 283, 6, TX1, tyX1, ag_C1, ⟨(rfl), (by decide)⟩, mv_X1_ownWords, ag_ml_X6_283, rfl, (Nat.le_of_ble_eq_true rfl), ⟨(Nat.le_of_ble_eq_true rfl), (Nat.le_of_ble_eq_true rfl)⟩, dX6_count_118⟩ (im_X1_ownWords n 4 (Or.inl rfl) σ) (fun q222 => ?_)
                  exact ev_irI rfl dX6_count_121
                · skip
                  refine ev_ite (fun hc8 => ?_) (fun hc8 => ?_)
                  · refine ev_tin (pc := 1) (tgt := 122) dX6_count_1 (by rw [hc8]; decide) (by rw [hc8]; decide) (by rw [hc8]; rfl) rfl ?_
                    refine ev_aload_n (pc := 122) (i := 0) 0 dX6_count_122 rfl rfl ?_
                    refine ev_getI (pc := 123) 7 ag_C6 (rfl) (by decide) (Nat.le_of_ble_eq_true rfl) rfl rfl ag_fl_X6_50 dX6_count_123 ?_
                    exact ev_irI rfl dX6_count_126
                  · have hn0 := lv_neT (a := 0) hc0 rfl
                    have hn1 := lv_neT (a := 1) hc1 rfl
                    have hn2 := lv_neT (a := 2) hc2 rfl
                    have hn3 := lv_neT (a := 3) hc3 rfl
                    have hn4 := lv_neT (a := 4) hc4 rfl
                    have hn5 := lv_neT (a := 5) hc5 rfl
                    have hn6 := lv_neT (a := 6) hc6 rfl
                    have hn7 := lv_neT (a := 7) hc7 rfl
                    have hn8 := lv_neT (a := 8) hc8 rfl
                    refine ev_tout (pc := 1) (tgt := 127) dX6_count_1 (by omega) rfl ?_
                    refine ev_bipush (pc := 127) (v := (-2)) dX6_count_127 (by decide) ?_
                    exact ev_irI rfl dX6_count_129
-- X6_mixPersons
def mX6_mixPersons : Md := (RX6, cX6_mixPersons, 6, some .long, none)
theorem mv_X6_mixPersons : ag_Mv yX6_mixPersons mX6_mixPersons 1 := ⟨ag_co_X6_mixPersons, ag_im_X6_mixPersons, ag_se_X6_mixPersons, ag_ini_X6, by decide +kernel⟩
theorem dX6_mixPersons_0 : decode mX6_mixPersons.2.1 0 = .ok (.lload_n 1, 1) := by decide +kernel
theorem dX6_mixPersons_1 : decode mX6_mixPersons.2.1 1 = .ok (.lstore_n 3, 1) := by decide +kernel
theorem dX6_mixPersons_2 : decode mX6_mixPersons.2.1 2 = .ok (.iconst 0, 1) := by decide +kernel
theorem dX6_mixPersons_3 : decode mX6_mixPersons.2.1 3 = .ok (.istore 5, 2) := by decide +kernel
theorem dX6_mixPersons_5 : decode mX6_mixPersons.2.1 5 = .ok (.iload 5, 2) := by decide +kernel
theorem dX6_mixPersons_7 : decode mX6_mixPersons.2.1 7 = .ok (.aload_n 0, 1) := by decide +kernel
theorem dX6_mixPersons_8 : decode mX6_mixPersons.2.1 8 = .ok (.getfield 30, 3) := by decide +kernel
theorem dX6_mixPersons_11 : decode mX6_mixPersons.2.1 11 = .ok (.getfield 172, 3) := by decide +kernel
theorem dX6_mixPersons_14 : decode mX6_mixPersons.2.1 14 = .ok (.if_icmp .ge 127, 3) := by decide +kernel
theorem dX6_mixPersons_17 : decode mX6_mixPersons.2.1 17 = .ok (.ldc2_w 288, 3) := by decide +kernel
theorem dX6_mixPersons_20 : decode mX6_mixPersons.2.1 20 = .ok (.lload_n 3, 1) := by decide +kernel
theorem dX6_mixPersons_21 : decode mX6_mixPersons.2.1 21 = .ok (.lmul, 1) := by decide +kernel
theorem dX6_mixPersons_22 : decode mX6_mixPersons.2.1 22 = .ok (.aload_n 0, 1) := by decide +kernel
theorem dX6_mixPersons_23 : decode mX6_mixPersons.2.1 23 = .ok (.getfield 30, 3) := by decide +kernel
theorem dX6_mixPersons_26 : decode mX6_mixPersons.2.1 26 = .ok (.getfield 74, 3) := by decide +kernel
theorem dX6_mixPersons_29 : decode mX6_mixPersons.2.1 29 = .ok (.iload 5, 2) := by decide +kernel
theorem dX6_mixPersons_31 : decode mX6_mixPersons.2.1 31 = .ok (.iaload, 1) := by decide +kernel
theorem dX6_mixPersons_32 : decode mX6_mixPersons.2.1 32 = .ok (.i2l, 1) := by decide +kernel
theorem dX6_mixPersons_33 : decode mX6_mixPersons.2.1 33 = .ok (.ladd, 1) := by decide +kernel
theorem dX6_mixPersons_34 : decode mX6_mixPersons.2.1 34 = .ok (.lstore_n 3, 1) := by decide +kernel
theorem dX6_mixPersons_35 : decode mX6_mixPersons.2.1 35 = .ok (.ldc2_w 288, 3) := by decide +kernel
theorem dX6_mixPersons_38 : decode mX6_mixPersons.2.1 38 = .ok (.lload_n 3, 1) := by decide +kernel
theorem dX6_mixPersons_39 : decode mX6_mixPersons.2.1 39 = .ok (.lmul, 1) := by decide +kernel
theorem dX6_mixPersons_40 : decode mX6_mixPersons.2.1 40 = .ok (.aload_n 0, 1) := by decide +kernel
theorem dX6_mixPersons_41 : decode mX6_mixPersons.2.1 41 = .ok (.getfield 30, 3) := by decide +kernel
theorem dX6_mixPersons_44 : decode mX6_mixPersons.2.1 44 = .ok (.getfield 77, 3) := by decide +kernel
theorem dX6_mixPersons_47 : decode mX6_mixPersons.2.1 47 = .ok (.iload 5, 2) := by decide +kernel
theorem dX6_mixPersons_49 : decode mX6_mixPersons.2.1 49 = .ok (.iaload, 1) := by decide +kernel
theorem dX6_mixPersons_50 : decode mX6_mixPersons.2.1 50 = .ok (.i2l, 1) := by decide +kernel
theorem dX6_mixPersons_51 : decode mX6_mixPersons.2.1 51 = .ok (.ladd, 1) := by decide +kernel
theorem dX6_mixPersons_52 : decode mX6_mixPersons.2.1 52 = .ok (.lstore_n 3, 1) := by decide +kernel
theorem dX6_mixPersons_53 : decode mX6_mixPersons.2.1 53 = .ok (.ldc2_w 288, 3) := by decide +kernel
theorem dX6_mixPersons_56 : decode mX6_mixPersons.2.1 56 = .ok (.lload_n 3, 1) := by decide +kernel
theorem dX6_mixPersons_57 : decode mX6_mixPersons.2.1 57 = .ok (.lmul, 1) := by decide +kernel
theorem dX6_mixPersons_58 : decode mX6_mixPersons.2.1 58 = .ok (.aload_n 0, 1) := by decide +kernel
theorem dX6_mixPersons_59 : decode mX6_mixPersons.2.1 59 = .ok (.getfield 30, 3) := by decide +kernel
theorem dX6_mixPersons_62 : decode mX6_mixPersons.2.1 62 = .ok (.getfield 80, 3) := by decide +kernel
theorem dX6_mixPersons_65 : decode mX6_mixPersons.2.1 65 = .ok (.iload 5, 2) := by decide +kernel
theorem dX6_mixPersons_67 : decode mX6_mixPersons.2.1 67 = .ok (.iaload, 1) := by decide +kernel
theorem dX6_mixPersons_68 : decode mX6_mixPersons.2.1 68 = .ok (.i2l, 1) := by decide +kernel
theorem dX6_mixPersons_69 : decode mX6_mixPersons.2.1 69 = .ok (.ladd, 1) := by decide +kernel
theorem dX6_mixPersons_70 : decode mX6_mixPersons.2.1 70 = .ok (.lstore_n 3, 1) := by decide +kernel
theorem dX6_mixPersons_71 : decode mX6_mixPersons.2.1 71 = .ok (.ldc2_w 288, 3) := by decide +kernel
theorem dX6_mixPersons_74 : decode mX6_mixPersons.2.1 74 = .ok (.lload_n 3, 1) := by decide +kernel
theorem dX6_mixPersons_75 : decode mX6_mixPersons.2.1 75 = .ok (.lmul, 1) := by decide +kernel
theorem dX6_mixPersons_76 : decode mX6_mixPersons.2.1 76 = .ok (.aload_n 0, 1) := by decide +kernel
theorem dX6_mixPersons_77 : decode mX6_mixPersons.2.1 77 = .ok (.bipush 50, 2) := by decide +kernel
theorem dX6_mixPersons_79 : decode mX6_mixPersons.2.1 79 = .ok (.iload 5, 2) := by decide +kernel
theorem dX6_mixPersons_81 : decode mX6_mixPersons.2.1 81 = .ok (.invokevirtual 338, 3) := by decide +kernel
theorem dX6_mixPersons_84 : decode mX6_mixPersons.2.1 84 = .ok (.i2l, 1) := by decide +kernel
theorem dX6_mixPersons_85 : decode mX6_mixPersons.2.1 85 = .ok (.ladd, 1) := by decide +kernel
theorem dX6_mixPersons_86 : decode mX6_mixPersons.2.1 86 = .ok (.lstore_n 3, 1) := by decide +kernel
theorem dX6_mixPersons_87 : decode mX6_mixPersons.2.1 87 = .ok (.ldc2_w 288, 3) := by decide +kernel
theorem dX6_mixPersons_90 : decode mX6_mixPersons.2.1 90 = .ok (.lload_n 3, 1) := by decide +kernel
theorem dX6_mixPersons_91 : decode mX6_mixPersons.2.1 91 = .ok (.lmul, 1) := by decide +kernel
theorem dX6_mixPersons_92 : decode mX6_mixPersons.2.1 92 = .ok (.aload_n 0, 1) := by decide +kernel
theorem dX6_mixPersons_93 : decode mX6_mixPersons.2.1 93 = .ok (.sipush 199, 3) := by decide +kernel
theorem dX6_mixPersons_96 : decode mX6_mixPersons.2.1 96 = .ok (.iload 5, 2) := by decide +kernel
theorem dX6_mixPersons_98 : decode mX6_mixPersons.2.1 98 = .ok (.invokevirtual 338, 3) := by decide +kernel
theorem dX6_mixPersons_101 : decode mX6_mixPersons.2.1 101 = .ok (.i2l, 1) := by decide +kernel
theorem dX6_mixPersons_102 : decode mX6_mixPersons.2.1 102 = .ok (.ladd, 1) := by decide +kernel
theorem dX6_mixPersons_103 : decode mX6_mixPersons.2.1 103 = .ok (.lstore_n 3, 1) := by decide +kernel
theorem dX6_mixPersons_104 : decode mX6_mixPersons.2.1 104 = .ok (.ldc2_w 288, 3) := by decide +kernel
theorem dX6_mixPersons_107 : decode mX6_mixPersons.2.1 107 = .ok (.lload_n 3, 1) := by decide +kernel
theorem dX6_mixPersons_108 : decode mX6_mixPersons.2.1 108 = .ok (.lmul, 1) := by decide +kernel
theorem dX6_mixPersons_109 : decode mX6_mixPersons.2.1 109 = .ok (.aload_n 0, 1) := by decide +kernel
theorem dX6_mixPersons_110 : decode mX6_mixPersons.2.1 110 = .ok (.iload 5, 2) := by decide +kernel
theorem dX6_mixPersons_112 : decode mX6_mixPersons.2.1 112 = .ok (.iconst 0, 1) := by decide +kernel
theorem dX6_mixPersons_113 : decode mX6_mixPersons.2.1 113 = .ok (.invokevirtual 341, 3) := by decide +kernel
theorem dX6_mixPersons_116 : decode mX6_mixPersons.2.1 116 = .ok (.i2l, 1) := by decide +kernel
theorem dX6_mixPersons_117 : decode mX6_mixPersons.2.1 117 = .ok (.ladd, 1) := by decide +kernel
theorem dX6_mixPersons_118 : decode mX6_mixPersons.2.1 118 = .ok (.lstore_n 3, 1) := by decide +kernel
theorem dX6_mixPersons_119 : decode mX6_mixPersons.2.1 119 = .ok (.ldc2_w 288, 3) := by decide +kernel
theorem dX6_mixPersons_122 : decode mX6_mixPersons.2.1 122 = .ok (.lload_n 3, 1) := by decide +kernel
theorem dX6_mixPersons_123 : decode mX6_mixPersons.2.1 123 = .ok (.lmul, 1) := by decide +kernel
theorem dX6_mixPersons_124 : decode mX6_mixPersons.2.1 124 = .ok (.aload_n 0, 1) := by decide +kernel
theorem dX6_mixPersons_125 : decode mX6_mixPersons.2.1 125 = .ok (.iload 5, 2) := by decide +kernel
theorem dX6_mixPersons_127 : decode mX6_mixPersons.2.1 127 = .ok (.bipush 40, 2) := by decide +kernel
theorem dX6_mixPersons_129 : decode mX6_mixPersons.2.1 129 = .ok (.invokevirtual 344, 3) := by decide +kernel
theorem dX6_mixPersons_132 : decode mX6_mixPersons.2.1 132 = .ok (.i2l, 1) := by decide +kernel
theorem dX6_mixPersons_133 : decode mX6_mixPersons.2.1 133 = .ok (.ladd, 1) := by decide +kernel
theorem dX6_mixPersons_134 : decode mX6_mixPersons.2.1 134 = .ok (.lstore_n 3, 1) := by decide +kernel
theorem dX6_mixPersons_135 : decode mX6_mixPersons.2.1 135 = .ok (.iinc 5 1, 3) := by decide +kernel
theorem dX6_mixPersons_138 : decode mX6_mixPersons.2.1 138 = .ok (.goto (-133), 3) := by decide +kernel
theorem dX6_mixPersons_141 : decode mX6_mixPersons.2.1 141 = .ok (.lload_n 3, 1) := by decide +kernel
theorem dX6_mixPersons_142 : decode mX6_mixPersons.2.1 142 = .ok (.lreturn, 1) := by decide +kernel
def fn_X6_mixPersons_b5 (n : Nat) (x1 : Int64) (σ : Sg)  : Nat → Int64 → Int32 → Option Int64
  | 0 => fun _ _ => none
  | i + 1 => fun v3 v5 =>
  (if (σ 4 0) ≤ v5 then (some v3)
  else (if ag_ib v5 10 = true then (if ag_ib v5 10 = true then (if ag_ib v5 10 = true then (Option.bind (fn_X6_known n 50 v5 σ) fun q223 =>
  (Option.bind (fn_X6_known n 199 v5 σ) fun q224 =>
  (Option.bind (fn_X6_learned v5 0 σ) fun q225 =>
  (Option.bind (fn_X6_age v5 40 σ) fun q226 =>
  ((fn_X6_mixPersons_b5 n x1 σ i) ((31 * ((31 * ((31 * ((31 * ((31 * ((31 * ((31 * v3) + (σ 5 v5.toNatClampNeg).toInt64)) + (σ 6 v5.toNatClampNeg).toInt64)) + (σ 7 v5.toNatClampNeg).toInt64)) + q223.toInt64)) + q224.toInt64)) + q225.toInt64)) + q226.toInt64) (v5 + 1)))))) else none) else none) else none))
theorem fn_X6_mixPersons_b5_s (n : Nat) (x1 : Int64) (σ : Sg)  (i : Nat) (v3 : Int64) (v5 : Int32) : fn_X6_mixPersons_b5 n x1 σ (i + 1) v3 v5 =
  (if (σ 4 0) ≤ v5 then (some v3)
  else (if ag_ib v5 10 = true then (if ag_ib v5 10 = true then (if ag_ib v5 10 = true then (Option.bind (fn_X6_known n 50 v5 σ) fun q223 =>
  (Option.bind (fn_X6_known n 199 v5 σ) fun q224 =>
  (Option.bind (fn_X6_learned v5 0 σ) fun q225 =>
  (Option.bind (fn_X6_age v5 40 σ) fun q226 =>
  ((fn_X6_mixPersons_b5 n x1 σ i) ((31 * ((31 * ((31 * ((31 * ((31 * ((31 * ((31 * v3) + (σ 5 v5.toNatClampNeg).toInt64)) + (σ 6 v5.toNatClampNeg).toInt64)) + (σ 7 v5.toNatClampNeg).toInt64)) + q223.toInt64)) + q224.toInt64)) + q225.toInt64)) + q226.toInt64) (v5 + 1)))))) else none) else none) else none)) := rfl
set_option maxRecDepth 20000 in
set_option maxHeartbeats 4000000 in
theorem ev_X6_mixPersons_b5 (n : Nat) (x1 : Int64) (σ : Sg)  : ∀ (i : Nat) (v3 : Int64) (v5 : Int32), Ev mX6_mixPersons 4 92 (jL σ) 5 [(0, .ref 0), (1, .long x1), (3, .long v3), (5, .int v5)] [] σ (fn_X6_mixPersons_b5 n x1 σ i v3 v5) := by
  intro i
  induction i with
  | zero =>
    intro v3 v5
    exact ev_none
  | succ i ih =>
    intro v3 v5
    rw [fn_X6_mixPersons_b5_s]
    refine ev_iload (pc := 5) 3 dX6_mixPersons_5 rfl ?_
    refine ev_aload_n (pc := 7) (i := 0) 0 dX6_mixPersons_7 rfl rfl ?_
    refine ev_getR (pc := 8) (t := 4) 3 ag_C6 (rfl) (by decide) (Nat.le_of_ble_eq_true rfl) rfl rfl ag_fl_X6_30 dX6_mixPersons_8 ?_
    refine ev_getI (pc := 11) 0 ag_C1 (rfl) (by decide) (Nat.le_of_ble_eq_true rfl) rfl rfl ag_fl_X6_172 dX6_mixPersons_11 ?_
    refine ev_icmp_ge (pc := 14) (tgt := 141) dX6_mixPersons_14 rfl ?_ ?_
    · refine ev_lload_n (pc := 141) (i := 3) 2 dX6_mixPersons_141 rfl rfl ?_
      exact ev_lrL rfl dX6_mixPersons_142
    · refine ev_ldc2 (pc := 17) (v := 31) dX6_mixPersons_17 ag_kl_X6_288 ?_
      refine ev_lload_n (pc := 20) (i := 3) 2 dX6_mixPersons_20 rfl rfl ?_
      refine ev_lmul (pc := 21) dX6_mixPersons_21 ?_
      refine ev_aload_n (pc := 22) (i := 0) 0 dX6_mixPersons_22 rfl rfl ?_
      refine ev_getR (pc := 23) (t := 4) 3 ag_C6 (rfl) (by decide) (Nat.le_of_ble_eq_true rfl) rfl rfl ag_fl_X6_30 dX6_mixPersons_23 ?_
      refine ev_getR (pc := 26) (t := 5) 1 ag_C1 (rfl) (by decide) (Nat.le_of_ble_eq_true rfl) rfl rfl ag_fl_X6_74 dX6_mixPersons_26 ?_
      refine ev_iload (pc := 29) 3 dX6_mixPersons_29 rfl ?_
      refine ev_iald (pc := 31) (rfl) (by decide) dX6_mixPersons_31 ?_
      refine ev_i2l (pc := 32) dX6_mixPersons_32 ?_
      refine ev_ladd (pc := 33) dX6_mixPersons_33 ?_
      refine ev_lstore_n (pc := 34) (i := 3) (lv' := [(3, .long ((31 * v3) + (σ 5 v5.toNatClampNeg).toInt64)), (0, .ref 0), (1, .long x1), (5, .int v5)]) dX6_mixPersons_34 rfl (Nat.le_of_ble_eq_true rfl) rfl ?_
      refine ev_ldc2 (pc := 35) (v := 31) dX6_mixPersons_35 ag_kl_X6_288 ?_
      refine ev_lload_n (pc := 38) (i := 3) 0 dX6_mixPersons_38 rfl rfl ?_
      refine ev_lmul (pc := 39) dX6_mixPersons_39 ?_
      refine ev_aload_n (pc := 40) (i := 0) 1 dX6_mixPersons_40 rfl rfl ?_
      refine ev_getR (pc := 41) (t := 4) 3 ag_C6 (rfl) (by decide) (Nat.le_of_ble_eq_true rfl) rfl rfl ag_fl_X6_30 dX6_mixPersons_41 ?_
      refine ev_getR (pc := 44) (t := 6) 2 ag_C1 (rfl) (by decide) (Nat.le_of_ble_eq_true rfl) rfl rfl ag_fl_X6_77 dX6_mixPersons_44 ?_
      refine ev_iload (pc := 47) 3 dX6_mixPersons_47 rfl ?_
      refine ev_iald (pc := 49) (rfl) (by decide) dX6_mixPersons_49 ?_
      refine ev_i2l (pc := 50) dX6_mixPersons_50 ?_
      refine ev_ladd (pc := 51) dX6_mixPersons_51 ?_
      refine ev_lstore_n (pc := 52) (i := 3) (lv' := [(3, .long ((31 * ((31 * v3) + (σ 5 v5.toNatClampNeg).toInt64)) + (σ 6 v5.toNatClampNeg).toInt64)), (0, .ref 0), (1, .long x1), (5, .int v5)]) dX6_mixPersons_52 rfl (Nat.le_of_ble_eq_true rfl) rfl ?_
      refine ev_ldc2 (pc := 53) (v := 31) dX6_mixPersons_53 ag_kl_X6_288 ?_
      refine ev_lload_n (pc := 56) (i := 3) 0 dX6_mixPersons_56 rfl rfl ?_
      refine ev_lmul (pc := 57) dX6_mixPersons_57 ?_
      refine ev_aload_n (pc := 58) (i := 0) 1 dX6_mixPersons_58 rfl rfl ?_
      refine ev_getR (pc := 59) (t := 4) 3 ag_C6 (rfl) (by decide) (Nat.le_of_ble_eq_true rfl) rfl rfl ag_fl_X6_30 dX6_mixPersons_59 ?_
      refine ev_getR (pc := 62) (t := 7) 3 ag_C1 (rfl) (by decide) (Nat.le_of_ble_eq_true rfl) rfl rfl ag_fl_X6_80 dX6_mixPersons_62 ?_
      refine ev_iload (pc := 65) 3 dX6_mixPersons_65 rfl ?_
      refine ev_iald (pc := 67) (rfl) (by decide) dX6_mixPersons_67 ?_
      refine ev_i2l (pc := 68) dX6_mixPersons_68 ?_
      refine ev_ladd (pc := 69) dX6_mixPersons_69 ?_
      refine ev_lstore_n (pc := 70) (i := 3) (lv' := [(3, .long ((31 * ((31 * ((31 * v3) + (σ 5 v5.toNatClampNeg).toInt64)) + (σ 6 v5.toNatClampNeg).toInt64)) + (σ 7 v5.toNatClampNeg).toInt64)), (0, .ref 0), (1, .long x1), (5, .int v5)]) dX6_mixPersons_70 rfl (Nat.le_of_ble_eq_true rfl) rfl ?_
      refine ev_ldc2 (pc := 71) (v := 31) dX6_mixPersons_71 ag_kl_X6_288 ?_
      refine ev_lload_n (pc := 74) (i := 3) 0 dX6_mixPersons_74 rfl rfl ?_
      refine ev_lmul (pc := 75) dX6_mixPersons_75 ?_
      refine ev_aload_n (pc := 76) (i := 0) 1 dX6_mixPersons_76 rfl rfl ?_
      refine ev_bipush (pc := 77) (v := 50) dX6_mixPersons_77 (by decide) ?_
      refine ev_iload (pc := 79) 3 dX6_mixPersons_79 rfl ?_
      refine ev_vI (pc := 81) (as := [.int 50, .int v5]) (rest := [.long (31 * ((31 * ((31 * ((31 * v3) + (σ 5 v5.toNatClampNeg).toInt64)) + (σ 6 v5.toNatClampNeg).toInt64)) + (σ 7 v5.toNatClampNeg).toInt64))]) ⟨6, 338, 8, TX6, tyX6, ag_C6, ⟨(rfl), (by decide)⟩, mv_X6_known, ag_ml_X6_338, rfl, (Nat.le_of_ble_eq_true rfl), ⟨(Nat.le_of_ble_eq_true rfl), (Nat.le_of_ble_eq_true rfl)⟩, dX6_mixPersons_81⟩ (im_X6_known n 50 v5 σ) (fun q223 => ?_)
      refine ev_i2l (pc := 84) dX6_mixPersons_84 ?_
      refine ev_ladd (pc := 85) dX6_mixPersons_85 ?_
      refine ev_lstore_n (pc := 86) (i := 3) (lv' := [(3, .long ((31 * ((31 * ((31 * ((31 * v3) + (σ 5 v5.toNatClampNeg).toInt64)) + (σ 6 v5.toNatClampNeg).toInt64)) + (σ 7 v5.toNatClampNeg).toInt64)) + q223.toInt64)), (0, .ref 0), (1, .long x1), (5, .int v5)]) dX6_mixPersons_86 rfl (Nat.le_of_ble_eq_true rfl) rfl ?_
      refine ev_ldc2 (pc := 87) (v := 31) dX6_mixPersons_87 ag_kl_X6_288 ?_
      refine ev_lload_n (pc := 90) (i := 3) 0 dX6_mixPersons_90 rfl rfl ?_
      refine ev_lmul (pc := 91) dX6_mixPersons_91 ?_
      refine ev_aload_n (pc := 92) (i := 0) 1 dX6_mixPersons_92 rfl rfl ?_
      refine ev_sipush (pc := 93) (v := 199) dX6_mixPersons_93 (by decide) ?_
      refine ev_iload (pc := 96) 3 dX6_mixPersons_96 rfl ?_
      refine ev_vI (pc := 98) (as := [.int 199, .int v5]) (rest := [.long (31 * ((31 * ((31 * ((31 * ((31 * v3) + (σ 5 v5.toNatClampNeg).toInt64)) + (σ 6 v5.toNatClampNeg).toInt64)) + (σ 7 v5.toNatClampNeg).toInt64)) + q223.toInt64))]) ⟨6, 338, 8, TX6, tyX6, ag_C6, ⟨(rfl), (by decide)⟩, mv_X6_known, ag_ml_X6_338, rfl, (Nat.le_of_ble_eq_true rfl), ⟨(Nat.le_of_ble_eq_true rfl), (Nat.le_of_ble_eq_true rfl)⟩, dX6_mixPersons_98⟩ (im_X6_known n 199 v5 σ) (fun q224 => ?_)
      refine ev_i2l (pc := 101) dX6_mixPersons_101 ?_
      refine ev_ladd (pc := 102) dX6_mixPersons_102 ?_
      refine ev_lstore_n (pc := 103) (i := 3) (lv' := [(3, .long ((31 * ((31 * ((31 * ((31 * ((31 * v3) + (σ 5 v5.toNatClampNeg).toInt64)) + (σ 6 v5.toNatClampNeg).toInt64)) + (σ 7 v5.toNatClampNeg).toInt64)) + q223.toInt64)) + q224.toInt64)), (0, .ref 0), (1, .long x1), (5, .int v5)]) dX6_mixPersons_103 rfl (Nat.le_of_ble_eq_true rfl) rfl ?_
      refine ev_ldc2 (pc := 104) (v := 31) dX6_mixPersons_104 ag_kl_X6_288 ?_
      refine ev_lload_n (pc := 107) (i := 3) 0 dX6_mixPersons_107 rfl rfl ?_
      refine ev_lmul (pc := 108) dX6_mixPersons_108 ?_
      refine ev_aload_n (pc := 109) (i := 0) 1 dX6_mixPersons_109 rfl rfl ?_
      refine ev_iload (pc := 110) 3 dX6_mixPersons_110 rfl ?_
      refine ev_iconst (pc := 112) (v := 0) dX6_mixPersons_112 (by decide) ?_
      refine ev_vI (pc := 113) (as := [.int v5, .int 0]) (rest := [.long (31 * ((31 * ((31 * ((31 * ((31 * ((31 * v3) + (σ 5 v5.toNatClampNeg).toInt64)) + (σ 6 v5.toNatClampNeg).toInt64)) + (σ 7 v5.toNatClampNeg).toInt64)) + q223.toInt64)) + q224.toInt64))]) ⟨6, 341, 8, TX6, tyX6, ag_C6, ⟨(rfl), (by decide)⟩, mv_X6_learned, ag_ml_X6_341, rfl, (Nat.le_of_ble_eq_true rfl), ⟨(Nat.le_of_ble_eq_true rfl), (Nat.le_of_ble_eq_true rfl)⟩, dX6_mixPersons_113⟩ (im_X6_learned v5 0 σ) (fun q225 => ?_)
      refine ev_i2l (pc := 116) dX6_mixPersons_116 ?_
      refine ev_ladd (pc := 117) dX6_mixPersons_117 ?_
      refine ev_lstore_n (pc := 118) (i := 3) (lv' := [(3, .long ((31 * ((31 * ((31 * ((31 * ((31 * ((31 * v3) + (σ 5 v5.toNatClampNeg).toInt64)) + (σ 6 v5.toNatClampNeg).toInt64)) + (σ 7 v5.toNatClampNeg).toInt64)) + q223.toInt64)) + q224.toInt64)) + q225.toInt64)), (0, .ref 0), (1, .long x1), (5, .int v5)]) dX6_mixPersons_118 rfl (Nat.le_of_ble_eq_true rfl) rfl ?_
      refine ev_ldc2 (pc := 119) (v := 31) dX6_mixPersons_119 ag_kl_X6_288 ?_
      refine ev_lload_n (pc := 122) (i := 3) 0 dX6_mixPersons_122 rfl rfl ?_
      refine ev_lmul (pc := 123) dX6_mixPersons_123 ?_
      refine ev_aload_n (pc := 124) (i := 0) 1 dX6_mixPersons_124 rfl rfl ?_
      refine ev_iload (pc := 125) 3 dX6_mixPersons_125 rfl ?_
      refine ev_bipush (pc := 127) (v := 40) dX6_mixPersons_127 (by decide) ?_
      refine ev_vI (pc := 129) (as := [.int v5, .int 40]) (rest := [.long (31 * ((31 * ((31 * ((31 * ((31 * ((31 * ((31 * v3) + (σ 5 v5.toNatClampNeg).toInt64)) + (σ 6 v5.toNatClampNeg).toInt64)) + (σ 7 v5.toNatClampNeg).toInt64)) + q223.toInt64)) + q224.toInt64)) + q225.toInt64))]) ⟨6, 344, 8, TX6, tyX6, ag_C6, ⟨(rfl), (by decide)⟩, mv_X6_age, ag_ml_X6_344, rfl, (Nat.le_of_ble_eq_true rfl), ⟨(Nat.le_of_ble_eq_true rfl), (Nat.le_of_ble_eq_true rfl)⟩, dX6_mixPersons_129⟩ (im_X6_age v5 40 σ) (fun q226 => ?_)
      refine ev_i2l (pc := 132) dX6_mixPersons_132 ?_
      refine ev_ladd (pc := 133) dX6_mixPersons_133 ?_
      refine ev_lstore_n (pc := 134) (i := 3) (lv' := [(3, .long ((31 * ((31 * ((31 * ((31 * ((31 * ((31 * ((31 * v3) + (σ 5 v5.toNatClampNeg).toInt64)) + (σ 6 v5.toNatClampNeg).toInt64)) + (σ 7 v5.toNatClampNeg).toInt64)) + q223.toInt64)) + q224.toInt64)) + q225.toInt64)) + q226.toInt64)), (0, .ref 0), (1, .long x1), (5, .int v5)]) dX6_mixPersons_134 rfl (Nat.le_of_ble_eq_true rfl) rfl ?_
      refine ev_iinc (pc := 135) (v := (v5 + 1)) (lv' := [(5, .int (v5 + 1)), (3, .long ((31 * ((31 * ((31 * ((31 * ((31 * ((31 * ((31 * v3) + (σ 5 v5.toNatClampNeg).toInt64)) + (σ 6 v5.toNatClampNeg).toInt64)) + (σ 7 v5.toNatClampNeg).toInt64)) + q223.toInt64)) + q224.toInt64)) + q225.toInt64)) + q226.toInt64)), (0, .ref 0), (1, .long x1)]) 3 dX6_mixPersons_135 rfl rfl (Nat.le_of_ble_eq_true rfl) rfl ?_
      refine ev_goto (pc := 138) (tgt := 5) dX6_mixPersons_138 rfl ?_
      refine ev_sub [2, 3, 1, 0] rfl ?_
      exact ih ((31 * ((31 * ((31 * ((31 * ((31 * ((31 * ((31 * v3) + (σ 5 v5.toNatClampNeg).toInt64)) + (σ 6 v5.toNatClampNeg).toInt64)) + (σ 7 v5.toNatClampNeg).toInt64)) + q223.toInt64)) + q224.toInt64)) + q225.toInt64)) + q226.toInt64) (v5 + 1)
def fn_X6_mixPersons (n : Nat) (x1 : Int64) (σ : Sg) : Option Int64 :=
  (fn_X6_mixPersons_b5 n x1 σ n x1 0)
set_option maxRecDepth 20000 in
set_option maxHeartbeats 4000000 in
theorem im_X6_mixPersons (n : Nat) (x1 : Int64) (σ : Sg) : Im yX6_mixPersons mX6_mixPersons 4 92 (jL σ) [.ref 0, .long x1] σ (fn_X6_mixPersons n x1 σ) := by
  refine Im.of (by decide +kernel) rfl rfl (Nat.le_of_ble_eq_true rfl) ?_
  show Ev mX6_mixPersons 4 92 (jL σ) 0 [(0, .ref 0), (1, .long x1)] [] σ (fn_X6_mixPersons n x1 σ)
  unfold fn_X6_mixPersons
  refine ev_lload_n (pc := 0) (i := 1) 1 dX6_mixPersons_0 rfl rfl ?_
  refine ev_lstore_n (pc := 1) (i := 3) (lv' := [(3, .long x1), (0, .ref 0), (1, .long x1)]) dX6_mixPersons_1 rfl (Nat.le_of_ble_eq_true rfl) rfl ?_
  refine ev_iconst (pc := 2) (v := 0) dX6_mixPersons_2 (by decide) ?_
  refine ev_istore (pc := 3) (lv' := [(5, .int 0), (3, .long x1), (0, .ref 0), (1, .long x1)]) dX6_mixPersons_3 (Nat.le_of_ble_eq_true rfl) rfl ?_
  refine ev_sub [2, 3, 1, 0] rfl ?_
  exact ev_X6_mixPersons_b5 n x1 σ n x1 0
-- X6_digest
def mX6_digest : Md := (RX6, cX6_digest, 4, some .long, none)
theorem mv_X6_digest : ag_Mv yX6_digest mX6_digest 0 := ⟨ag_co_X6_digest, ag_im_X6_digest, ag_se_X6_digest, ag_ini_X6, by decide +kernel⟩
theorem dX6_digest_0 : decode mX6_digest.2.1 0 = .ok (.ldc2_w 286, 3) := by decide +kernel
theorem dX6_digest_3 : decode mX6_digest.2.1 3 = .ok (.lstore_n 1, 1) := by decide +kernel
theorem dX6_digest_4 : decode mX6_digest.2.1 4 = .ok (.iconst 0, 1) := by decide +kernel
theorem dX6_digest_5 : decode mX6_digest.2.1 5 = .ok (.istore_n 3, 1) := by decide +kernel
theorem dX6_digest_6 : decode mX6_digest.2.1 6 = .ok (.iload_n 3, 1) := by decide +kernel
theorem dX6_digest_7 : decode mX6_digest.2.1 7 = .ok (.bipush 8, 2) := by decide +kernel
theorem dX6_digest_9 : decode mX6_digest.2.1 9 = .ok (.if_icmp .ge 22, 3) := by decide +kernel
theorem dX6_digest_12 : decode mX6_digest.2.1 12 = .ok (.ldc2_w 288, 3) := by decide +kernel
theorem dX6_digest_15 : decode mX6_digest.2.1 15 = .ok (.lload_n 1, 1) := by decide +kernel
theorem dX6_digest_16 : decode mX6_digest.2.1 16 = .ok (.lmul, 1) := by decide +kernel
theorem dX6_digest_17 : decode mX6_digest.2.1 17 = .ok (.aload_n 0, 1) := by decide +kernel
theorem dX6_digest_18 : decode mX6_digest.2.1 18 = .ok (.iload_n 3, 1) := by decide +kernel
theorem dX6_digest_19 : decode mX6_digest.2.1 19 = .ok (.invokevirtual 290, 3) := by decide +kernel
theorem dX6_digest_22 : decode mX6_digest.2.1 22 = .ok (.i2l, 1) := by decide +kernel
theorem dX6_digest_23 : decode mX6_digest.2.1 23 = .ok (.ladd, 1) := by decide +kernel
theorem dX6_digest_24 : decode mX6_digest.2.1 24 = .ok (.lstore_n 1, 1) := by decide +kernel
theorem dX6_digest_25 : decode mX6_digest.2.1 25 = .ok (.iinc 3 1, 3) := by decide +kernel
theorem dX6_digest_28 : decode mX6_digest.2.1 28 = .ok (.goto (-22), 3) := by decide +kernel
theorem dX6_digest_31 : decode mX6_digest.2.1 31 = .ok (.ldc2_w 288, 3) := by decide +kernel
theorem dX6_digest_34 : decode mX6_digest.2.1 34 = .ok (.lload_n 1, 1) := by decide +kernel
theorem dX6_digest_35 : decode mX6_digest.2.1 35 = .ok (.lmul, 1) := by decide +kernel
theorem dX6_digest_36 : decode mX6_digest.2.1 36 = .ok (.aload_n 0, 1) := by decide +kernel
theorem dX6_digest_37 : decode mX6_digest.2.1 37 = .ok (.invokevirtual 292, 3) := by decide +kernel
theorem dX6_digest_40 : decode mX6_digest.2.1 40 = .ok (.i2l, 1) := by decide +kernel
theorem dX6_digest_41 : decode mX6_digest.2.1 41 = .ok (.ladd, 1) := by decide +kernel
theorem dX6_digest_42 : decode mX6_digest.2.1 42 = .ok (.lstore_n 1, 1) := by decide +kernel
theorem dX6_digest_43 : decode mX6_digest.2.1 43 = .ok (.aload_n 0, 1) := by decide +kernel
theorem dX6_digest_44 : decode mX6_digest.2.1 44 = .ok (.lload_n 1, 1) := by decide +kernel
theorem dX6_digest_45 : decode mX6_digest.2.1 45 = .ok (.invokevirtual 295, 3) := by decide +kernel
theorem dX6_digest_48 : decode mX6_digest.2.1 48 = .ok (.lstore_n 1, 1) := by decide +kernel
theorem dX6_digest_49 : decode mX6_digest.2.1 49 = .ok (.iconst 0, 1) := by decide +kernel
theorem dX6_digest_50 : decode mX6_digest.2.1 50 = .ok (.istore_n 3, 1) := by decide +kernel
theorem dX6_digest_51 : decode mX6_digest.2.1 51 = .ok (.iload_n 3, 1) := by decide +kernel
theorem dX6_digest_52 : decode mX6_digest.2.1 52 = .ok (.aload_n 0, 1) := by decide +kernel
theorem dX6_digest_53 : decode mX6_digest.2.1 53 = .ok (.getfield 35, 3) := by decide +kernel
theorem dX6_digest_56 : decode mX6_digest.2.1 56 = .ok (.getfield 97, 3) := by decide +kernel
theorem dX6_digest_59 : decode mX6_digest.2.1 59 = .ok (.if_icmp .ge 48, 3) := by decide +kernel
theorem dX6_digest_62 : decode mX6_digest.2.1 62 = .ok (.ldc2_w 288, 3) := by decide +kernel
theorem dX6_digest_65 : decode mX6_digest.2.1 65 = .ok (.lload_n 1, 1) := by decide +kernel
theorem dX6_digest_66 : decode mX6_digest.2.1 66 = .ok (.lmul, 1) := by decide +kernel
theorem dX6_digest_67 : decode mX6_digest.2.1 67 = .ok (.aload_n 0, 1) := by decide +kernel
theorem dX6_digest_68 : decode mX6_digest.2.1 68 = .ok (.iload_n 3, 1) := by decide +kernel
theorem dX6_digest_69 : decode mX6_digest.2.1 69 = .ok (.invokevirtual 299, 3) := by decide +kernel
theorem dX6_digest_72 : decode mX6_digest.2.1 72 = .ok (.i2l, 1) := by decide +kernel
theorem dX6_digest_73 : decode mX6_digest.2.1 73 = .ok (.ladd, 1) := by decide +kernel
theorem dX6_digest_74 : decode mX6_digest.2.1 74 = .ok (.lstore_n 1, 1) := by decide +kernel
theorem dX6_digest_75 : decode mX6_digest.2.1 75 = .ok (.ldc2_w 288, 3) := by decide +kernel
theorem dX6_digest_78 : decode mX6_digest.2.1 78 = .ok (.lload_n 1, 1) := by decide +kernel
theorem dX6_digest_79 : decode mX6_digest.2.1 79 = .ok (.lmul, 1) := by decide +kernel
theorem dX6_digest_80 : decode mX6_digest.2.1 80 = .ok (.aload_n 0, 1) := by decide +kernel
theorem dX6_digest_81 : decode mX6_digest.2.1 81 = .ok (.iload_n 3, 1) := by decide +kernel
theorem dX6_digest_82 : decode mX6_digest.2.1 82 = .ok (.invokevirtual 302, 3) := by decide +kernel
theorem dX6_digest_85 : decode mX6_digest.2.1 85 = .ok (.i2l, 1) := by decide +kernel
theorem dX6_digest_86 : decode mX6_digest.2.1 86 = .ok (.ladd, 1) := by decide +kernel
theorem dX6_digest_87 : decode mX6_digest.2.1 87 = .ok (.lstore_n 1, 1) := by decide +kernel
theorem dX6_digest_88 : decode mX6_digest.2.1 88 = .ok (.ldc2_w 288, 3) := by decide +kernel
theorem dX6_digest_91 : decode mX6_digest.2.1 91 = .ok (.lload_n 1, 1) := by decide +kernel
theorem dX6_digest_92 : decode mX6_digest.2.1 92 = .ok (.lmul, 1) := by decide +kernel
theorem dX6_digest_93 : decode mX6_digest.2.1 93 = .ok (.aload_n 0, 1) := by decide +kernel
theorem dX6_digest_94 : decode mX6_digest.2.1 94 = .ok (.iload_n 3, 1) := by decide +kernel
theorem dX6_digest_95 : decode mX6_digest.2.1 95 = .ok (.invokevirtual 305, 3) := by decide +kernel
theorem dX6_digest_98 : decode mX6_digest.2.1 98 = .ok (.i2l, 1) := by decide +kernel
theorem dX6_digest_99 : decode mX6_digest.2.1 99 = .ok (.ladd, 1) := by decide +kernel
theorem dX6_digest_100 : decode mX6_digest.2.1 100 = .ok (.lstore_n 1, 1) := by decide +kernel
theorem dX6_digest_101 : decode mX6_digest.2.1 101 = .ok (.iinc 3 1, 3) := by decide +kernel
theorem dX6_digest_104 : decode mX6_digest.2.1 104 = .ok (.goto (-53), 3) := by decide +kernel
theorem dX6_digest_107 : decode mX6_digest.2.1 107 = .ok (.ldc2_w 288, 3) := by decide +kernel
theorem dX6_digest_110 : decode mX6_digest.2.1 110 = .ok (.lload_n 1, 1) := by decide +kernel
theorem dX6_digest_111 : decode mX6_digest.2.1 111 = .ok (.lmul, 1) := by decide +kernel
theorem dX6_digest_112 : decode mX6_digest.2.1 112 = .ok (.aload_n 0, 1) := by decide +kernel
theorem dX6_digest_113 : decode mX6_digest.2.1 113 = .ok (.invokevirtual 308, 3) := by decide +kernel
theorem dX6_digest_116 : decode mX6_digest.2.1 116 = .ok (.i2l, 1) := by decide +kernel
theorem dX6_digest_117 : decode mX6_digest.2.1 117 = .ok (.ladd, 1) := by decide +kernel
theorem dX6_digest_118 : decode mX6_digest.2.1 118 = .ok (.lstore_n 1, 1) := by decide +kernel
theorem dX6_digest_119 : decode mX6_digest.2.1 119 = .ok (.ldc2_w 288, 3) := by decide +kernel
theorem dX6_digest_122 : decode mX6_digest.2.1 122 = .ok (.lload_n 1, 1) := by decide +kernel
theorem dX6_digest_123 : decode mX6_digest.2.1 123 = .ok (.lmul, 1) := by decide +kernel
theorem dX6_digest_124 : decode mX6_digest.2.1 124 = .ok (.aload_n 0, 1) := by decide +kernel
theorem dX6_digest_125 : decode mX6_digest.2.1 125 = .ok (.iconst 0, 1) := by decide +kernel
theorem dX6_digest_126 : decode mX6_digest.2.1 126 = .ok (.invokevirtual 311, 3) := by decide +kernel
theorem dX6_digest_129 : decode mX6_digest.2.1 129 = .ok (.i2l, 1) := by decide +kernel
theorem dX6_digest_130 : decode mX6_digest.2.1 130 = .ok (.ladd, 1) := by decide +kernel
theorem dX6_digest_131 : decode mX6_digest.2.1 131 = .ok (.lstore_n 1, 1) := by decide +kernel
theorem dX6_digest_132 : decode mX6_digest.2.1 132 = .ok (.ldc2_w 288, 3) := by decide +kernel
theorem dX6_digest_135 : decode mX6_digest.2.1 135 = .ok (.lload_n 1, 1) := by decide +kernel
theorem dX6_digest_136 : decode mX6_digest.2.1 136 = .ok (.lmul, 1) := by decide +kernel
theorem dX6_digest_137 : decode mX6_digest.2.1 137 = .ok (.aload_n 0, 1) := by decide +kernel
theorem dX6_digest_138 : decode mX6_digest.2.1 138 = .ok (.iconst 1, 1) := by decide +kernel
theorem dX6_digest_139 : decode mX6_digest.2.1 139 = .ok (.invokevirtual 311, 3) := by decide +kernel
theorem dX6_digest_142 : decode mX6_digest.2.1 142 = .ok (.i2l, 1) := by decide +kernel
theorem dX6_digest_143 : decode mX6_digest.2.1 143 = .ok (.ladd, 1) := by decide +kernel
theorem dX6_digest_144 : decode mX6_digest.2.1 144 = .ok (.lstore_n 1, 1) := by decide +kernel
theorem dX6_digest_145 : decode mX6_digest.2.1 145 = .ok (.ldc2_w 288, 3) := by decide +kernel
theorem dX6_digest_148 : decode mX6_digest.2.1 148 = .ok (.lload_n 1, 1) := by decide +kernel
theorem dX6_digest_149 : decode mX6_digest.2.1 149 = .ok (.lmul, 1) := by decide +kernel
theorem dX6_digest_150 : decode mX6_digest.2.1 150 = .ok (.aload_n 0, 1) := by decide +kernel
theorem dX6_digest_151 : decode mX6_digest.2.1 151 = .ok (.invokevirtual 314, 3) := by decide +kernel
theorem dX6_digest_154 : decode mX6_digest.2.1 154 = .ok (.i2l, 1) := by decide +kernel
theorem dX6_digest_155 : decode mX6_digest.2.1 155 = .ok (.ladd, 1) := by decide +kernel
theorem dX6_digest_156 : decode mX6_digest.2.1 156 = .ok (.lstore_n 1, 1) := by decide +kernel
theorem dX6_digest_157 : decode mX6_digest.2.1 157 = .ok (.ldc2_w 288, 3) := by decide +kernel
theorem dX6_digest_160 : decode mX6_digest.2.1 160 = .ok (.lload_n 1, 1) := by decide +kernel
theorem dX6_digest_161 : decode mX6_digest.2.1 161 = .ok (.lmul, 1) := by decide +kernel
theorem dX6_digest_162 : decode mX6_digest.2.1 162 = .ok (.aload_n 0, 1) := by decide +kernel
theorem dX6_digest_163 : decode mX6_digest.2.1 163 = .ok (.bipush 60, 2) := by decide +kernel
theorem dX6_digest_165 : decode mX6_digest.2.1 165 = .ok (.iconst 0, 1) := by decide +kernel
theorem dX6_digest_166 : decode mX6_digest.2.1 166 = .ok (.invokevirtual 317, 3) := by decide +kernel
theorem dX6_digest_169 : decode mX6_digest.2.1 169 = .ok (.i2l, 1) := by decide +kernel
theorem dX6_digest_170 : decode mX6_digest.2.1 170 = .ok (.ladd, 1) := by decide +kernel
theorem dX6_digest_171 : decode mX6_digest.2.1 171 = .ok (.lstore_n 1, 1) := by decide +kernel
theorem dX6_digest_172 : decode mX6_digest.2.1 172 = .ok (.ldc2_w 288, 3) := by decide +kernel
theorem dX6_digest_175 : decode mX6_digest.2.1 175 = .ok (.lload_n 1, 1) := by decide +kernel
theorem dX6_digest_176 : decode mX6_digest.2.1 176 = .ok (.lmul, 1) := by decide +kernel
theorem dX6_digest_177 : decode mX6_digest.2.1 177 = .ok (.aload_n 0, 1) := by decide +kernel
theorem dX6_digest_178 : decode mX6_digest.2.1 178 = .ok (.bipush 60, 2) := by decide +kernel
theorem dX6_digest_180 : decode mX6_digest.2.1 180 = .ok (.iconst 1, 1) := by decide +kernel
theorem dX6_digest_181 : decode mX6_digest.2.1 181 = .ok (.invokevirtual 317, 3) := by decide +kernel
theorem dX6_digest_184 : decode mX6_digest.2.1 184 = .ok (.i2l, 1) := by decide +kernel
theorem dX6_digest_185 : decode mX6_digest.2.1 185 = .ok (.ladd, 1) := by decide +kernel
theorem dX6_digest_186 : decode mX6_digest.2.1 186 = .ok (.lstore_n 1, 1) := by decide +kernel
theorem dX6_digest_187 : decode mX6_digest.2.1 187 = .ok (.iconst 0, 1) := by decide +kernel
theorem dX6_digest_188 : decode mX6_digest.2.1 188 = .ok (.istore_n 3, 1) := by decide +kernel
theorem dX6_digest_189 : decode mX6_digest.2.1 189 = .ok (.iload_n 3, 1) := by decide +kernel
theorem dX6_digest_190 : decode mX6_digest.2.1 190 = .ok (.iconst 3, 1) := by decide +kernel
theorem dX6_digest_191 : decode mX6_digest.2.1 191 = .ok (.if_icmp .ge 24, 3) := by decide +kernel
theorem dX6_digest_194 : decode mX6_digest.2.1 194 = .ok (.ldc2_w 288, 3) := by decide +kernel
theorem dX6_digest_197 : decode mX6_digest.2.1 197 = .ok (.lload_n 1, 1) := by decide +kernel
theorem dX6_digest_198 : decode mX6_digest.2.1 198 = .ok (.lmul, 1) := by decide +kernel
theorem dX6_digest_199 : decode mX6_digest.2.1 199 = .ok (.aload_n 0, 1) := by decide +kernel
theorem dX6_digest_200 : decode mX6_digest.2.1 200 = .ok (.iconst 0, 1) := by decide +kernel
theorem dX6_digest_201 : decode mX6_digest.2.1 201 = .ok (.iconst 0, 1) := by decide +kernel
theorem dX6_digest_202 : decode mX6_digest.2.1 202 = .ok (.iload_n 3, 1) := by decide +kernel
theorem dX6_digest_203 : decode mX6_digest.2.1 203 = .ok (.invokevirtual 320, 3) := by decide +kernel
theorem dX6_digest_206 : decode mX6_digest.2.1 206 = .ok (.i2l, 1) := by decide +kernel
theorem dX6_digest_207 : decode mX6_digest.2.1 207 = .ok (.ladd, 1) := by decide +kernel
theorem dX6_digest_208 : decode mX6_digest.2.1 208 = .ok (.lstore_n 1, 1) := by decide +kernel
theorem dX6_digest_209 : decode mX6_digest.2.1 209 = .ok (.iinc 3 1, 3) := by decide +kernel
theorem dX6_digest_212 : decode mX6_digest.2.1 212 = .ok (.goto (-23), 3) := by decide +kernel
theorem dX6_digest_215 : decode mX6_digest.2.1 215 = .ok (.ldc2_w 288, 3) := by decide +kernel
theorem dX6_digest_218 : decode mX6_digest.2.1 218 = .ok (.lload_n 1, 1) := by decide +kernel
theorem dX6_digest_219 : decode mX6_digest.2.1 219 = .ok (.lmul, 1) := by decide +kernel
theorem dX6_digest_220 : decode mX6_digest.2.1 220 = .ok (.aload_n 0, 1) := by decide +kernel
theorem dX6_digest_221 : decode mX6_digest.2.1 221 = .ok (.iconst 0, 1) := by decide +kernel
theorem dX6_digest_222 : decode mX6_digest.2.1 222 = .ok (.iconst 0, 1) := by decide +kernel
theorem dX6_digest_223 : decode mX6_digest.2.1 223 = .ok (.invokevirtual 323, 3) := by decide +kernel
theorem dX6_digest_226 : decode mX6_digest.2.1 226 = .ok (.i2l, 1) := by decide +kernel
theorem dX6_digest_227 : decode mX6_digest.2.1 227 = .ok (.ladd, 1) := by decide +kernel
theorem dX6_digest_228 : decode mX6_digest.2.1 228 = .ok (.lstore_n 1, 1) := by decide +kernel
theorem dX6_digest_229 : decode mX6_digest.2.1 229 = .ok (.ldc2_w 288, 3) := by decide +kernel
theorem dX6_digest_232 : decode mX6_digest.2.1 232 = .ok (.lload_n 1, 1) := by decide +kernel
theorem dX6_digest_233 : decode mX6_digest.2.1 233 = .ok (.lmul, 1) := by decide +kernel
theorem dX6_digest_234 : decode mX6_digest.2.1 234 = .ok (.aload_n 0, 1) := by decide +kernel
theorem dX6_digest_235 : decode mX6_digest.2.1 235 = .ok (.iconst 0, 1) := by decide +kernel
theorem dX6_digest_236 : decode mX6_digest.2.1 236 = .ok (.iconst 1, 1) := by decide +kernel
theorem dX6_digest_237 : decode mX6_digest.2.1 237 = .ok (.bipush 30, 2) := by decide +kernel
theorem dX6_digest_239 : decode mX6_digest.2.1 239 = .ok (.invokevirtual 326, 3) := by decide +kernel
theorem dX6_digest_242 : decode mX6_digest.2.1 242 = .ok (.i2l, 1) := by decide +kernel
theorem dX6_digest_243 : decode mX6_digest.2.1 243 = .ok (.ladd, 1) := by decide +kernel
theorem dX6_digest_244 : decode mX6_digest.2.1 244 = .ok (.lstore_n 1, 1) := by decide +kernel
theorem dX6_digest_245 : decode mX6_digest.2.1 245 = .ok (.ldc2_w 288, 3) := by decide +kernel
theorem dX6_digest_248 : decode mX6_digest.2.1 248 = .ok (.lload_n 1, 1) := by decide +kernel
theorem dX6_digest_249 : decode mX6_digest.2.1 249 = .ok (.lmul, 1) := by decide +kernel
theorem dX6_digest_250 : decode mX6_digest.2.1 250 = .ok (.aload_n 0, 1) := by decide +kernel
theorem dX6_digest_251 : decode mX6_digest.2.1 251 = .ok (.invokevirtual 329, 3) := by decide +kernel
theorem dX6_digest_254 : decode mX6_digest.2.1 254 = .ok (.i2l, 1) := by decide +kernel
theorem dX6_digest_255 : decode mX6_digest.2.1 255 = .ok (.ladd, 1) := by decide +kernel
theorem dX6_digest_256 : decode mX6_digest.2.1 256 = .ok (.lstore_n 1, 1) := by decide +kernel
theorem dX6_digest_257 : decode mX6_digest.2.1 257 = .ok (.ldc2_w 288, 3) := by decide +kernel
theorem dX6_digest_260 : decode mX6_digest.2.1 260 = .ok (.lload_n 1, 1) := by decide +kernel
theorem dX6_digest_261 : decode mX6_digest.2.1 261 = .ok (.lmul, 1) := by decide +kernel
theorem dX6_digest_262 : decode mX6_digest.2.1 262 = .ok (.aload_n 0, 1) := by decide +kernel
theorem dX6_digest_263 : decode mX6_digest.2.1 263 = .ok (.iconst 4, 1) := by decide +kernel
theorem dX6_digest_264 : decode mX6_digest.2.1 264 = .ok (.iconst 0, 1) := by decide +kernel
theorem dX6_digest_265 : decode mX6_digest.2.1 265 = .ok (.iconst 0, 1) := by decide +kernel
theorem dX6_digest_266 : decode mX6_digest.2.1 266 = .ok (.iconst 0, 1) := by decide +kernel
theorem dX6_digest_267 : decode mX6_digest.2.1 267 = .ok (.invokevirtual 332, 3) := by decide +kernel
theorem dX6_digest_270 : decode mX6_digest.2.1 270 = .ok (.ladd, 1) := by decide +kernel
theorem dX6_digest_271 : decode mX6_digest.2.1 271 = .ok (.lstore_n 1, 1) := by decide +kernel
theorem dX6_digest_272 : decode mX6_digest.2.1 272 = .ok (.ldc2_w 288, 3) := by decide +kernel
theorem dX6_digest_275 : decode mX6_digest.2.1 275 = .ok (.lload_n 1, 1) := by decide +kernel
theorem dX6_digest_276 : decode mX6_digest.2.1 276 = .ok (.lmul, 1) := by decide +kernel
theorem dX6_digest_277 : decode mX6_digest.2.1 277 = .ok (.aload_n 0, 1) := by decide +kernel
theorem dX6_digest_278 : decode mX6_digest.2.1 278 = .ok (.iconst 4, 1) := by decide +kernel
theorem dX6_digest_279 : decode mX6_digest.2.1 279 = .ok (.iconst 0, 1) := by decide +kernel
theorem dX6_digest_280 : decode mX6_digest.2.1 280 = .ok (.iconst 0, 1) := by decide +kernel
theorem dX6_digest_281 : decode mX6_digest.2.1 281 = .ok (.iconst 1, 1) := by decide +kernel
theorem dX6_digest_282 : decode mX6_digest.2.1 282 = .ok (.invokevirtual 332, 3) := by decide +kernel
theorem dX6_digest_285 : decode mX6_digest.2.1 285 = .ok (.ladd, 1) := by decide +kernel
theorem dX6_digest_286 : decode mX6_digest.2.1 286 = .ok (.lstore_n 1, 1) := by decide +kernel
theorem dX6_digest_287 : decode mX6_digest.2.1 287 = .ok (.ldc2_w 288, 3) := by decide +kernel
theorem dX6_digest_290 : decode mX6_digest.2.1 290 = .ok (.lload_n 1, 1) := by decide +kernel
theorem dX6_digest_291 : decode mX6_digest.2.1 291 = .ok (.lmul, 1) := by decide +kernel
theorem dX6_digest_292 : decode mX6_digest.2.1 292 = .ok (.aload_n 0, 1) := by decide +kernel
theorem dX6_digest_293 : decode mX6_digest.2.1 293 = .ok (.bipush 7, 2) := by decide +kernel
theorem dX6_digest_295 : decode mX6_digest.2.1 295 = .ok (.iconst 4, 1) := by decide +kernel
theorem dX6_digest_296 : decode mX6_digest.2.1 296 = .ok (.invokevirtual 335, 3) := by decide +kernel
theorem dX6_digest_299 : decode mX6_digest.2.1 299 = .ok (.i2l, 1) := by decide +kernel
theorem dX6_digest_300 : decode mX6_digest.2.1 300 = .ok (.ladd, 1) := by decide +kernel
theorem dX6_digest_301 : decode mX6_digest.2.1 301 = .ok (.lreturn, 1) := by decide +kernel
def fn_X6_digest_b189 (n : Nat)   : Nat → Int64 → Int32 → Sg → Option (Int64 × Sg)
  | 0 => fun _ _ _ => none
  | i + 1 => fun v1 v3 σ =>
  (if 3 ≤ v3 then (Option.bind (fn_X6_trust n 0 0 σ) fun q227 =>
  (Option.bind (fn_X6_teach n 0 1 30 q227.2) fun q228 =>
  (Option.bind (fn_X6_forged n q228.2) fun q229 =>
  (Option.bind (fn_X6_chance n 4 0 0 0 q229.2) fun q230 =>
  (Option.bind (fn_X6_chance n 4 0 0 1 q230.2) fun q231 =>
  (Option.bind (fn_X6_drawn n 7 4 q231.2) fun q232 =>
  (some (((31 * ((31 * ((31 * ((31 * ((31 * ((31 * v1) + q227.1.toInt64)) + q228.1.toInt64)) + q229.1.toInt64)) + q230.1)) + q231.1)) + q232.1.toInt64), q232.2))))))))
  else (Option.bind (fn_X6_send n 0 0 v3 σ) fun q233 =>
  ((fn_X6_digest_b189 n i) ((31 * v1) + q233.1.toInt64) (v3 + 1) q233.2)))
theorem fn_X6_digest_b189_s (n : Nat)   (i : Nat) (v1 : Int64) (v3 : Int32) (σ : Sg) : fn_X6_digest_b189 n (i + 1) v1 v3 σ =
  (if 3 ≤ v3 then (Option.bind (fn_X6_trust n 0 0 σ) fun q227 =>
  (Option.bind (fn_X6_teach n 0 1 30 q227.2) fun q228 =>
  (Option.bind (fn_X6_forged n q228.2) fun q229 =>
  (Option.bind (fn_X6_chance n 4 0 0 0 q229.2) fun q230 =>
  (Option.bind (fn_X6_chance n 4 0 0 1 q230.2) fun q231 =>
  (Option.bind (fn_X6_drawn n 7 4 q231.2) fun q232 =>
  (some (((31 * ((31 * ((31 * ((31 * ((31 * ((31 * v1) + q227.1.toInt64)) + q228.1.toInt64)) + q229.1.toInt64)) + q230.1)) + q231.1)) + q232.1.toInt64), q232.2))))))))
  else (Option.bind (fn_X6_send n 0 0 v3 σ) fun q233 =>
  ((fn_X6_digest_b189 n i) ((31 * v1) + q233.1.toInt64) (v3 + 1) q233.2))) := rfl
set_option maxRecDepth 20000 in
set_option maxHeartbeats 4000000 in
theorem ev_X6_digest_b189 (n : Nat)   : ∀ (i : Nat) (v1 : Int64) (v3 : Int32) (σ : Sg), Ev mX6_digest 7 178 jM 189 [(0, .ref 0), (1, .long v1), (3, .int v3)] [] σ (fn_X6_digest_b189 n i v1 v3 σ) := by
  intro i
  induction i with
  | zero =>
    intro v1 v3 σ
    exact ev_none
  | succ i ih =>
    intro v1 v3 σ
    rw [fn_X6_digest_b189_s]
    refine ev_iload_n (pc := 189) (i := 3) 2 dX6_digest_189 rfl rfl ?_
    refine ev_iconst (pc := 190) (v := 3) dX6_digest_190 (by decide) ?_
    refine ev_icmp_ge (pc := 191) (tgt := 215) dX6_digest_191 rfl ?_ ?_
    · refine ev_ldc2 (pc := 215) (v := 31) dX6_digest_215 ag_kl_X6_288 ?_
      refine ev_lload_n (pc := 218) (i := 1) 1 dX6_digest_218 rfl rfl ?_
      refine ev_lmul (pc := 219) dX6_digest_219 ?_
      refine ev_aload_n (pc := 220) (i := 0) 0 dX6_digest_220 rfl rfl ?_
      refine ev_iconst (pc := 221) (v := 0) dX6_digest_221 (by decide) ?_
      refine ev_iconst (pc := 222) (v := 0) dX6_digest_222 (by decide) ?_
      refine ev_vW (pc := 223) (as := [.int 0, .int 0]) (rest := [.long (31 * v1)]) ⟨6, 323, 8, TX6, tyX6, ag_C6, ⟨(rfl), (by decide)⟩, mv_X6_trust, ag_ml_X6_323, rfl, (Nat.le_of_ble_eq_true rfl), ⟨(Nat.le_of_ble_eq_true rfl), (Nat.le_of_ble_eq_true rfl)⟩, dX6_digest_223⟩ (im_X6_trust n 0 0 σ) (fun q227 => ?_)
      refine ev_i2l (pc := 226) dX6_digest_226 ?_
      refine ev_ladd (pc := 227) dX6_digest_227 ?_
      refine ev_lstore_n (pc := 228) (i := 1) (lv' := [(1, .long ((31 * v1) + q227.1.toInt64)), (0, .ref 0), (3, .int v3)]) dX6_digest_228 rfl (Nat.le_of_ble_eq_true rfl) rfl ?_
      refine ev_ldc2 (pc := 229) (v := 31) dX6_digest_229 ag_kl_X6_288 ?_
      refine ev_lload_n (pc := 232) (i := 1) 0 dX6_digest_232 rfl rfl ?_
      refine ev_lmul (pc := 233) dX6_digest_233 ?_
      refine ev_aload_n (pc := 234) (i := 0) 1 dX6_digest_234 rfl rfl ?_
      refine ev_iconst (pc := 235) (v := 0) dX6_digest_235 (by decide) ?_
      refine ev_iconst (pc := 236) (v := 1) dX6_digest_236 (by decide) ?_
      refine ev_bipush (pc := 237) (v := 30) dX6_digest_237 (by decide) ?_
      refine ev_vW (pc := 239) (as := [.int 0, .int 1, .int 30]) (rest := [.long (31 * ((31 * v1) + q227.1.toInt64))]) ⟨6, 326, 8, TX6, tyX6, ag_C6, ⟨(rfl), (by decide)⟩, mv_X6_teach, ag_ml_X6_326, rfl, (Nat.le_of_ble_eq_true rfl), ⟨(Nat.le_of_ble_eq_true rfl), (Nat.le_of_ble_eq_true rfl)⟩, dX6_digest_239⟩ (im_X6_teach n 0 1 30 q227.2) (fun q228 => ?_)
      refine ev_i2l (pc := 242) dX6_digest_242 ?_
      refine ev_ladd (pc := 243) dX6_digest_243 ?_
      refine ev_lstore_n (pc := 244) (i := 1) (lv' := [(1, .long ((31 * ((31 * v1) + q227.1.toInt64)) + q228.1.toInt64)), (0, .ref 0), (3, .int v3)]) dX6_digest_244 rfl (Nat.le_of_ble_eq_true rfl) rfl ?_
      refine ev_ldc2 (pc := 245) (v := 31) dX6_digest_245 ag_kl_X6_288 ?_
      refine ev_lload_n (pc := 248) (i := 1) 0 dX6_digest_248 rfl rfl ?_
      refine ev_lmul (pc := 249) dX6_digest_249 ?_
      refine ev_aload_n (pc := 250) (i := 0) 1 dX6_digest_250 rfl rfl ?_
      refine ev_vW (pc := 251) (as := []) (rest := [.long (31 * ((31 * ((31 * v1) + q227.1.toInt64)) + q228.1.toInt64))]) ⟨6, 329, 8, TX6, tyX6, ag_C6, ⟨(rfl), (by decide)⟩, mv_X6_forged, ag_ml_X6_329, rfl, (Nat.le_of_ble_eq_true rfl), ⟨(Nat.le_of_ble_eq_true rfl), (Nat.le_of_ble_eq_true rfl)⟩, dX6_digest_251⟩ (im_X6_forged n q228.2) (fun q229 => ?_)
      refine ev_i2l (pc := 254) dX6_digest_254 ?_
      refine ev_ladd (pc := 255) dX6_digest_255 ?_
      refine ev_lstore_n (pc := 256) (i := 1) (lv' := [(1, .long ((31 * ((31 * ((31 * v1) + q227.1.toInt64)) + q228.1.toInt64)) + q229.1.toInt64)), (0, .ref 0), (3, .int v3)]) dX6_digest_256 rfl (Nat.le_of_ble_eq_true rfl) rfl ?_
      refine ev_ldc2 (pc := 257) (v := 31) dX6_digest_257 ag_kl_X6_288 ?_
      refine ev_lload_n (pc := 260) (i := 1) 0 dX6_digest_260 rfl rfl ?_
      refine ev_lmul (pc := 261) dX6_digest_261 ?_
      refine ev_aload_n (pc := 262) (i := 0) 1 dX6_digest_262 rfl rfl ?_
      refine ev_iconst (pc := 263) (v := 4) dX6_digest_263 (by decide) ?_
      refine ev_iconst (pc := 264) (v := 0) dX6_digest_264 (by decide) ?_
      refine ev_iconst (pc := 265) (v := 0) dX6_digest_265 (by decide) ?_
      refine ev_iconst (pc := 266) (v := 0) dX6_digest_266 (by decide) ?_
      refine ev_vM (pc := 267) (as := [.int 4, .int 0, .int 0, .int 0]) (rest := [.long (31 * ((31 * ((31 * ((31 * v1) + q227.1.toInt64)) + q228.1.toInt64)) + q229.1.toInt64))]) ⟨6, 332, 8, TX6, tyX6, ag_C6, ⟨(rfl), (by decide)⟩, mv_X6_chance, ag_ml_X6_332, rfl, (Nat.le_of_ble_eq_true rfl), ⟨(Nat.le_of_ble_eq_true rfl), (Nat.le_of_ble_eq_true rfl)⟩, dX6_digest_267⟩ (im_X6_chance n 4 0 0 0 q229.2) (fun q230 => ?_)
      refine ev_ladd (pc := 270) dX6_digest_270 ?_
      refine ev_lstore_n (pc := 271) (i := 1) (lv' := [(1, .long ((31 * ((31 * ((31 * ((31 * v1) + q227.1.toInt64)) + q228.1.toInt64)) + q229.1.toInt64)) + q230.1)), (0, .ref 0), (3, .int v3)]) dX6_digest_271 rfl (Nat.le_of_ble_eq_true rfl) rfl ?_
      refine ev_ldc2 (pc := 272) (v := 31) dX6_digest_272 ag_kl_X6_288 ?_
      refine ev_lload_n (pc := 275) (i := 1) 0 dX6_digest_275 rfl rfl ?_
      refine ev_lmul (pc := 276) dX6_digest_276 ?_
      refine ev_aload_n (pc := 277) (i := 0) 1 dX6_digest_277 rfl rfl ?_
      refine ev_iconst (pc := 278) (v := 4) dX6_digest_278 (by decide) ?_
      refine ev_iconst (pc := 279) (v := 0) dX6_digest_279 (by decide) ?_
      refine ev_iconst (pc := 280) (v := 0) dX6_digest_280 (by decide) ?_
      refine ev_iconst (pc := 281) (v := 1) dX6_digest_281 (by decide) ?_
      refine ev_vM (pc := 282) (as := [.int 4, .int 0, .int 0, .int 1]) (rest := [.long (31 * ((31 * ((31 * ((31 * ((31 * v1) + q227.1.toInt64)) + q228.1.toInt64)) + q229.1.toInt64)) + q230.1))]) ⟨6, 332, 8, TX6, tyX6, ag_C6, ⟨(rfl), (by decide)⟩, mv_X6_chance, ag_ml_X6_332, rfl, (Nat.le_of_ble_eq_true rfl), ⟨(Nat.le_of_ble_eq_true rfl), (Nat.le_of_ble_eq_true rfl)⟩, dX6_digest_282⟩ (im_X6_chance n 4 0 0 1 q230.2) (fun q231 => ?_)
      refine ev_ladd (pc := 285) dX6_digest_285 ?_
      refine ev_lstore_n (pc := 286) (i := 1) (lv' := [(1, .long ((31 * ((31 * ((31 * ((31 * ((31 * v1) + q227.1.toInt64)) + q228.1.toInt64)) + q229.1.toInt64)) + q230.1)) + q231.1)), (0, .ref 0), (3, .int v3)]) dX6_digest_286 rfl (Nat.le_of_ble_eq_true rfl) rfl ?_
      refine ev_ldc2 (pc := 287) (v := 31) dX6_digest_287 ag_kl_X6_288 ?_
      refine ev_lload_n (pc := 290) (i := 1) 0 dX6_digest_290 rfl rfl ?_
      refine ev_lmul (pc := 291) dX6_digest_291 ?_
      refine ev_aload_n (pc := 292) (i := 0) 1 dX6_digest_292 rfl rfl ?_
      refine ev_bipush (pc := 293) (v := 7) dX6_digest_293 (by decide) ?_
      refine ev_iconst (pc := 295) (v := 4) dX6_digest_295 (by decide) ?_
      refine ev_vW (pc := 296) (as := [.int 7, .int 4]) (rest := [.long (31 * ((31 * ((31 * ((31 * ((31 * ((31 * v1) + q227.1.toInt64)) + q228.1.toInt64)) + q229.1.toInt64)) + q230.1)) + q231.1))]) ⟨6, 335, 8, TX6, tyX6, ag_C6, ⟨(rfl), (by decide)⟩, mv_X6_drawn, ag_ml_X6_335, rfl, (Nat.le_of_ble_eq_true rfl), ⟨(Nat.le_of_ble_eq_true rfl), (Nat.le_of_ble_eq_true rfl)⟩, dX6_digest_296⟩ (im_X6_drawn n 7 4 q231.2) (fun q232 => ?_)
      refine ev_i2l (pc := 299) dX6_digest_299 ?_
      refine ev_ladd (pc := 300) dX6_digest_300 ?_
      exact ev_lrM rfl dX6_digest_301
    · refine ev_ldc2 (pc := 194) (v := 31) dX6_digest_194 ag_kl_X6_288 ?_
      refine ev_lload_n (pc := 197) (i := 1) 1 dX6_digest_197 rfl rfl ?_
      refine ev_lmul (pc := 198) dX6_digest_198 ?_
      refine ev_aload_n (pc := 199) (i := 0) 0 dX6_digest_199 rfl rfl ?_
      refine ev_iconst (pc := 200) (v := 0) dX6_digest_200 (by decide) ?_
      refine ev_iconst (pc := 201) (v := 0) dX6_digest_201 (by decide) ?_
      refine ev_iload_n (pc := 202) (i := 3) 2 dX6_digest_202 rfl rfl ?_
      refine ev_vW (pc := 203) (as := [.int 0, .int 0, .int v3]) (rest := [.long (31 * v1)]) ⟨6, 320, 8, TX6, tyX6, ag_C6, ⟨(rfl), (by decide)⟩, mv_X6_send, ag_ml_X6_320, rfl, (Nat.le_of_ble_eq_true rfl), ⟨(Nat.le_of_ble_eq_true rfl), (Nat.le_of_ble_eq_true rfl)⟩, dX6_digest_203⟩ (im_X6_send n 0 0 v3 σ) (fun q233 => ?_)
      refine ev_i2l (pc := 206) dX6_digest_206 ?_
      refine ev_ladd (pc := 207) dX6_digest_207 ?_
      refine ev_lstore_n (pc := 208) (i := 1) (lv' := [(1, .long ((31 * v1) + q233.1.toInt64)), (0, .ref 0), (3, .int v3)]) dX6_digest_208 rfl (Nat.le_of_ble_eq_true rfl) rfl ?_
      refine ev_iinc (pc := 209) (v := (v3 + 1)) (lv' := [(3, .int (v3 + 1)), (1, .long ((31 * v1) + q233.1.toInt64)), (0, .ref 0)]) 2 dX6_digest_209 rfl rfl (Nat.le_of_ble_eq_true rfl) rfl ?_
      refine ev_goto (pc := 212) (tgt := 189) dX6_digest_212 rfl ?_
      refine ev_sub [2, 1, 0] rfl ?_
      exact ih ((31 * v1) + q233.1.toInt64) (v3 + 1) q233.2
def fn_X6_digest_b51 (n : Nat)   : Nat → Int64 → Int32 → Sg → Option (Int64 × Sg)
  | 0 => fun _ _ _ => none
  | i + 1 => fun v1 v3 σ =>
  (if (σ 10 0) ≤ v3 then (Option.bind (fn_X6_sealed σ) fun q234 =>
  (Option.bind (fn_X6_loud n 0 σ) fun q235 =>
  (Option.bind (fn_X6_loud n 1 σ) fun q236 =>
  (Option.bind (fn_X6_tooSoon n σ) fun q237 =>
  (Option.bind (fn_X6_waits n 60 0 q237.2) fun q238 =>
  (Option.bind (fn_X6_waits n 60 1 q237.2) fun q239 =>
  (fn_X6_digest_b189 n n ((31 * ((31 * ((31 * ((31 * ((31 * ((31 * v1) + q234.toInt64)) + q235.toInt64)) + q236.toInt64)) + q237.1.toInt64)) + q238.toInt64)) + q239.toInt64) 0 q237.2)))))))
  else (Option.bind (fn_X6_opened v3 σ) fun q240 =>
  (Option.bind (fn_X6_written v3 σ) fun q241 =>
  (Option.bind (fn_X6_said n v3 σ) fun q242 =>
  ((fn_X6_digest_b51 n i) ((31 * ((31 * ((31 * v1) + q240.toInt64)) + q241.toInt64)) + q242.1.toInt64) (v3 + 1) q242.2)))))
theorem fn_X6_digest_b51_s (n : Nat)   (i : Nat) (v1 : Int64) (v3 : Int32) (σ : Sg) : fn_X6_digest_b51 n (i + 1) v1 v3 σ =
  (if (σ 10 0) ≤ v3 then (Option.bind (fn_X6_sealed σ) fun q234 =>
  (Option.bind (fn_X6_loud n 0 σ) fun q235 =>
  (Option.bind (fn_X6_loud n 1 σ) fun q236 =>
  (Option.bind (fn_X6_tooSoon n σ) fun q237 =>
  (Option.bind (fn_X6_waits n 60 0 q237.2) fun q238 =>
  (Option.bind (fn_X6_waits n 60 1 q237.2) fun q239 =>
  (fn_X6_digest_b189 n n ((31 * ((31 * ((31 * ((31 * ((31 * ((31 * v1) + q234.toInt64)) + q235.toInt64)) + q236.toInt64)) + q237.1.toInt64)) + q238.toInt64)) + q239.toInt64) 0 q237.2)))))))
  else (Option.bind (fn_X6_opened v3 σ) fun q240 =>
  (Option.bind (fn_X6_written v3 σ) fun q241 =>
  (Option.bind (fn_X6_said n v3 σ) fun q242 =>
  ((fn_X6_digest_b51 n i) ((31 * ((31 * ((31 * v1) + q240.toInt64)) + q241.toInt64)) + q242.1.toInt64) (v3 + 1) q242.2))))) := rfl
set_option maxRecDepth 20000 in
set_option maxHeartbeats 4000000 in
theorem ev_X6_digest_b51 (n : Nat)   : ∀ (i : Nat) (v1 : Int64) (v3 : Int32) (σ : Sg), Ev mX6_digest 7 178 jM 51 [(0, .ref 0), (1, .long v1), (3, .int v3)] [] σ (fn_X6_digest_b51 n i v1 v3 σ) := by
  intro i
  induction i with
  | zero =>
    intro v1 v3 σ
    exact ev_none
  | succ i ih =>
    intro v1 v3 σ
    rw [fn_X6_digest_b51_s]
    refine ev_iload_n (pc := 51) (i := 3) 2 dX6_digest_51 rfl rfl ?_
    refine ev_aload_n (pc := 52) (i := 0) 0 dX6_digest_52 rfl rfl ?_
    refine ev_getR (pc := 53) (t := 10) 4 ag_C6 (rfl) (by decide) (Nat.le_of_ble_eq_true rfl) rfl rfl ag_fl_X6_35 dX6_digest_53 ?_
    refine ev_getI (pc := 56) 0 ag_C2 (rfl) (by decide) (Nat.le_of_ble_eq_true rfl) rfl rfl ag_fl_X6_97 dX6_digest_56 ?_
    refine ev_icmp_ge (pc := 59) (tgt := 107) dX6_digest_59 rfl ?_ ?_
    · refine ev_ldc2 (pc := 107) (v := 31) dX6_digest_107 ag_kl_X6_288 ?_
      refine ev_lload_n (pc := 110) (i := 1) 1 dX6_digest_110 rfl rfl ?_
      refine ev_lmul (pc := 111) dX6_digest_111 ?_
      refine ev_aload_n (pc := 112) (i := 0) 0 dX6_digest_112 rfl rfl ?_
      refine ev_vI (pc := 113) (as := []) (rest := [.long (31 * v1)]) ⟨6, 308, 8, TX6, tyX6, ag_C6, ⟨(rfl), (by decide)⟩, mv_X6_sealed, ag_ml_X6_308, rfl, (Nat.le_of_ble_eq_true rfl), ⟨(Nat.le_of_ble_eq_true rfl), (Nat.le_of_ble_eq_true rfl)⟩, dX6_digest_113⟩ (im_X6_sealed σ) (fun q234 => ?_)
      refine ev_i2l (pc := 116) dX6_digest_116 ?_
      refine ev_ladd (pc := 117) dX6_digest_117 ?_
      refine ev_lstore_n (pc := 118) (i := 1) (lv' := [(1, .long ((31 * v1) + q234.toInt64)), (0, .ref 0), (3, .int v3)]) dX6_digest_118 rfl (Nat.le_of_ble_eq_true rfl) rfl ?_
      refine ev_ldc2 (pc := 119) (v := 31) dX6_digest_119 ag_kl_X6_288 ?_
      refine ev_lload_n (pc := 122) (i := 1) 0 dX6_digest_122 rfl rfl ?_
      refine ev_lmul (pc := 123) dX6_digest_123 ?_
      refine ev_aload_n (pc := 124) (i := 0) 1 dX6_digest_124 rfl rfl ?_
      refine ev_iconst (pc := 125) (v := 0) dX6_digest_125 (by decide) ?_
      refine ev_vI (pc := 126) (as := [.int 0]) (rest := [.long (31 * ((31 * v1) + q234.toInt64))]) ⟨6, 311, 8, TX6, tyX6, ag_C6, ⟨(rfl), (by decide)⟩, mv_X6_loud, ag_ml_X6_311, rfl, (Nat.le_of_ble_eq_true rfl), ⟨(Nat.le_of_ble_eq_true rfl), (Nat.le_of_ble_eq_true rfl)⟩, dX6_digest_126⟩ (im_X6_loud n 0 σ) (fun q235 => ?_)
      refine ev_i2l (pc := 129) dX6_digest_129 ?_
      refine ev_ladd (pc := 130) dX6_digest_130 ?_
      refine ev_lstore_n (pc := 131) (i := 1) (lv' := [(1, .long ((31 * ((31 * v1) + q234.toInt64)) + q235.toInt64)), (0, .ref 0), (3, .int v3)]) dX6_digest_131 rfl (Nat.le_of_ble_eq_true rfl) rfl ?_
      refine ev_ldc2 (pc := 132) (v := 31) dX6_digest_132 ag_kl_X6_288 ?_
      refine ev_lload_n (pc := 135) (i := 1) 0 dX6_digest_135 rfl rfl ?_
      refine ev_lmul (pc := 136) dX6_digest_136 ?_
      refine ev_aload_n (pc := 137) (i := 0) 1 dX6_digest_137 rfl rfl ?_
      refine ev_iconst (pc := 138) (v := 1) dX6_digest_138 (by decide) ?_
      refine ev_vI (pc := 139) (as := [.int 1]) (rest := [.long (31 * ((31 * ((31 * v1) + q234.toInt64)) + q235.toInt64))]) ⟨6, 311, 8, TX6, tyX6, ag_C6, ⟨(rfl), (by decide)⟩, mv_X6_loud, ag_ml_X6_311, rfl, (Nat.le_of_ble_eq_true rfl), ⟨(Nat.le_of_ble_eq_true rfl), (Nat.le_of_ble_eq_true rfl)⟩, dX6_digest_139⟩ (im_X6_loud n 1 σ) (fun q236 => ?_)
      refine ev_i2l (pc := 142) dX6_digest_142 ?_
      refine ev_ladd (pc := 143) dX6_digest_143 ?_
      refine ev_lstore_n (pc := 144) (i := 1) (lv' := [(1, .long ((31 * ((31 * ((31 * v1) + q234.toInt64)) + q235.toInt64)) + q236.toInt64)), (0, .ref 0), (3, .int v3)]) dX6_digest_144 rfl (Nat.le_of_ble_eq_true rfl) rfl ?_
      refine ev_ldc2 (pc := 145) (v := 31) dX6_digest_145 ag_kl_X6_288 ?_
      refine ev_lload_n (pc := 148) (i := 1) 0 dX6_digest_148 rfl rfl ?_
      refine ev_lmul (pc := 149) dX6_digest_149 ?_
      refine ev_aload_n (pc := 150) (i := 0) 1 dX6_digest_150 rfl rfl ?_
      refine ev_vW (pc := 151) (as := []) (rest := [.long (31 * ((31 * ((31 * ((31 * v1) + q234.toInt64)) + q235.toInt64)) + q236.toInt64))]) ⟨6, 314, 8, TX6, tyX6, ag_C6, ⟨(rfl), (by decide)⟩, mv_X6_tooSoon, ag_ml_X6_314, rfl, (Nat.le_of_ble_eq_true rfl), ⟨(Nat.le_of_ble_eq_true rfl), (Nat.le_of_ble_eq_true rfl)⟩, dX6_digest_151⟩ (im_X6_tooSoon n σ) (fun q237 => ?_)
      refine ev_i2l (pc := 154) dX6_digest_154 ?_
      refine ev_ladd (pc := 155) dX6_digest_155 ?_
      refine ev_lstore_n (pc := 156) (i := 1) (lv' := [(1, .long ((31 * ((31 * ((31 * ((31 * v1) + q234.toInt64)) + q235.toInt64)) + q236.toInt64)) + q237.1.toInt64)), (0, .ref 0), (3, .int v3)]) dX6_digest_156 rfl (Nat.le_of_ble_eq_true rfl) rfl ?_
      refine ev_ldc2 (pc := 157) (v := 31) dX6_digest_157 ag_kl_X6_288 ?_
      refine ev_lload_n (pc := 160) (i := 1) 0 dX6_digest_160 rfl rfl ?_
      refine ev_lmul (pc := 161) dX6_digest_161 ?_
      refine ev_aload_n (pc := 162) (i := 0) 1 dX6_digest_162 rfl rfl ?_
      refine ev_bipush (pc := 163) (v := 60) dX6_digest_163 (by decide) ?_
      refine ev_iconst (pc := 165) (v := 0) dX6_digest_165 (by decide) ?_
      refine ev_vI (pc := 166) (as := [.int 60, .int 0]) (rest := [.long (31 * ((31 * ((31 * ((31 * ((31 * v1) + q234.toInt64)) + q235.toInt64)) + q236.toInt64)) + q237.1.toInt64))]) ⟨6, 317, 8, TX6, tyX6, ag_C6, ⟨(rfl), (by decide)⟩, mv_X6_waits, ag_ml_X6_317, rfl, (Nat.le_of_ble_eq_true rfl), ⟨(Nat.le_of_ble_eq_true rfl), (Nat.le_of_ble_eq_true rfl)⟩, dX6_digest_166⟩ (im_X6_waits n 60 0 q237.2) (fun q238 => ?_)
      refine ev_i2l (pc := 169) dX6_digest_169 ?_
      refine ev_ladd (pc := 170) dX6_digest_170 ?_
      refine ev_lstore_n (pc := 171) (i := 1) (lv' := [(1, .long ((31 * ((31 * ((31 * ((31 * ((31 * v1) + q234.toInt64)) + q235.toInt64)) + q236.toInt64)) + q237.1.toInt64)) + q238.toInt64)), (0, .ref 0), (3, .int v3)]) dX6_digest_171 rfl (Nat.le_of_ble_eq_true rfl) rfl ?_
      refine ev_ldc2 (pc := 172) (v := 31) dX6_digest_172 ag_kl_X6_288 ?_
      refine ev_lload_n (pc := 175) (i := 1) 0 dX6_digest_175 rfl rfl ?_
      refine ev_lmul (pc := 176) dX6_digest_176 ?_
      refine ev_aload_n (pc := 177) (i := 0) 1 dX6_digest_177 rfl rfl ?_
      refine ev_bipush (pc := 178) (v := 60) dX6_digest_178 (by decide) ?_
      refine ev_iconst (pc := 180) (v := 1) dX6_digest_180 (by decide) ?_
      refine ev_vI (pc := 181) (as := [.int 60, .int 1]) (rest := [.long (31 * ((31 * ((31 * ((31 * ((31 * ((31 * v1) + q234.toInt64)) + q235.toInt64)) + q236.toInt64)) + q237.1.toInt64)) + q238.toInt64))]) ⟨6, 317, 8, TX6, tyX6, ag_C6, ⟨(rfl), (by decide)⟩, mv_X6_waits, ag_ml_X6_317, rfl, (Nat.le_of_ble_eq_true rfl), ⟨(Nat.le_of_ble_eq_true rfl), (Nat.le_of_ble_eq_true rfl)⟩, dX6_digest_181⟩ (im_X6_waits n 60 1 q237.2) (fun q239 => ?_)
      refine ev_i2l (pc := 184) dX6_digest_184 ?_
      refine ev_ladd (pc := 185) dX6_digest_185 ?_
      refine ev_lstore_n (pc := 186) (i := 1) (lv' := [(1, .long ((31 * ((31 * ((31 * ((31 * ((31 * ((31 * v1) + q234.toInt64)) + q235.toInt64)) + q236.toInt64)) + q237.1.toInt64)) + q238.toInt64)) + q239.toInt64)), (0, .ref 0), (3, .int v3)]) dX6_digest_186 rfl (Nat.le_of_ble_eq_true rfl) rfl ?_
      refine ev_iconst (pc := 187) (v := 0) dX6_digest_187 (by decide) ?_
      refine ev_istore_n (pc := 188) (i := 3) (lv' := [(3, .int 0), (1, .long ((31 * ((31 * ((31 * ((31 * ((31 * ((31 * v1) + q234.toInt64)) + q235.toInt64)) + q236.toInt64)) + q237.1.toInt64)) + q238.toInt64)) + q239.toInt64)), (0, .ref 0)]) dX6_digest_188 rfl (Nat.le_of_ble_eq_true rfl) rfl ?_
      refine ev_sub [2, 1, 0] rfl ?_
      exact ev_X6_digest_b189 n n ((31 * ((31 * ((31 * ((31 * ((31 * ((31 * v1) + q234.toInt64)) + q235.toInt64)) + q236.toInt64)) + q237.1.toInt64)) + q238.toInt64)) + q239.toInt64) 0 q237.2
    · refine ev_ldc2 (pc := 62) (v := 31) dX6_digest_62 ag_kl_X6_288 ?_
      refine ev_lload_n (pc := 65) (i := 1) 1 dX6_digest_65 rfl rfl ?_
      refine ev_lmul (pc := 66) dX6_digest_66 ?_
      refine ev_aload_n (pc := 67) (i := 0) 0 dX6_digest_67 rfl rfl ?_
      refine ev_iload_n (pc := 68) (i := 3) 2 dX6_digest_68 rfl rfl ?_
      refine ev_vI (pc := 69) (as := [.int v3]) (rest := [.long (31 * v1)]) ⟨6, 299, 8, TX6, tyX6, ag_C6, ⟨(rfl), (by decide)⟩, mv_X6_opened, ag_ml_X6_299, rfl, (Nat.le_of_ble_eq_true rfl), ⟨(Nat.le_of_ble_eq_true rfl), (Nat.le_of_ble_eq_true rfl)⟩, dX6_digest_69⟩ (im_X6_opened v3 σ) (fun q240 => ?_)
      refine ev_i2l (pc := 72) dX6_digest_72 ?_
      refine ev_ladd (pc := 73) dX6_digest_73 ?_
      refine ev_lstore_n (pc := 74) (i := 1) (lv' := [(1, .long ((31 * v1) + q240.toInt64)), (0, .ref 0), (3, .int v3)]) dX6_digest_74 rfl (Nat.le_of_ble_eq_true rfl) rfl ?_
      refine ev_ldc2 (pc := 75) (v := 31) dX6_digest_75 ag_kl_X6_288 ?_
      refine ev_lload_n (pc := 78) (i := 1) 0 dX6_digest_78 rfl rfl ?_
      refine ev_lmul (pc := 79) dX6_digest_79 ?_
      refine ev_aload_n (pc := 80) (i := 0) 1 dX6_digest_80 rfl rfl ?_
      refine ev_iload_n (pc := 81) (i := 3) 2 dX6_digest_81 rfl rfl ?_
      refine ev_vI (pc := 82) (as := [.int v3]) (rest := [.long (31 * ((31 * v1) + q240.toInt64))]) ⟨6, 302, 8, TX6, tyX6, ag_C6, ⟨(rfl), (by decide)⟩, mv_X6_written, ag_ml_X6_302, rfl, (Nat.le_of_ble_eq_true rfl), ⟨(Nat.le_of_ble_eq_true rfl), (Nat.le_of_ble_eq_true rfl)⟩, dX6_digest_82⟩ (im_X6_written v3 σ) (fun q241 => ?_)
      refine ev_i2l (pc := 85) dX6_digest_85 ?_
      refine ev_ladd (pc := 86) dX6_digest_86 ?_
      refine ev_lstore_n (pc := 87) (i := 1) (lv' := [(1, .long ((31 * ((31 * v1) + q240.toInt64)) + q241.toInt64)), (0, .ref 0), (3, .int v3)]) dX6_digest_87 rfl (Nat.le_of_ble_eq_true rfl) rfl ?_
      refine ev_ldc2 (pc := 88) (v := 31) dX6_digest_88 ag_kl_X6_288 ?_
      refine ev_lload_n (pc := 91) (i := 1) 0 dX6_digest_91 rfl rfl ?_
      refine ev_lmul (pc := 92) dX6_digest_92 ?_
      refine ev_aload_n (pc := 93) (i := 0) 1 dX6_digest_93 rfl rfl ?_
      refine ev_iload_n (pc := 94) (i := 3) 2 dX6_digest_94 rfl rfl ?_
      refine ev_vW (pc := 95) (as := [.int v3]) (rest := [.long (31 * ((31 * ((31 * v1) + q240.toInt64)) + q241.toInt64))]) ⟨6, 305, 8, TX6, tyX6, ag_C6, ⟨(rfl), (by decide)⟩, mv_X6_said, ag_ml_X6_305, rfl, (Nat.le_of_ble_eq_true rfl), ⟨(Nat.le_of_ble_eq_true rfl), (Nat.le_of_ble_eq_true rfl)⟩, dX6_digest_95⟩ (im_X6_said n v3 σ) (fun q242 => ?_)
      refine ev_i2l (pc := 98) dX6_digest_98 ?_
      refine ev_ladd (pc := 99) dX6_digest_99 ?_
      refine ev_lstore_n (pc := 100) (i := 1) (lv' := [(1, .long ((31 * ((31 * ((31 * v1) + q240.toInt64)) + q241.toInt64)) + q242.1.toInt64)), (0, .ref 0), (3, .int v3)]) dX6_digest_100 rfl (Nat.le_of_ble_eq_true rfl) rfl ?_
      refine ev_iinc (pc := 101) (v := (v3 + 1)) (lv' := [(3, .int (v3 + 1)), (1, .long ((31 * ((31 * ((31 * v1) + q240.toInt64)) + q241.toInt64)) + q242.1.toInt64)), (0, .ref 0)]) 2 dX6_digest_101 rfl rfl (Nat.le_of_ble_eq_true rfl) rfl ?_
      refine ev_goto (pc := 104) (tgt := 51) dX6_digest_104 rfl ?_
      refine ev_sub [2, 1, 0] rfl ?_
      exact ih ((31 * ((31 * ((31 * v1) + q240.toInt64)) + q241.toInt64)) + q242.1.toInt64) (v3 + 1) q242.2
def fn_X6_digest_b6 (n : Nat)   : Nat → Int64 → Int32 → Sg → Option (Int64 × Sg)
  | 0 => fun _ _ _ => none
  | i + 1 => fun v1 v3 σ =>
  (if 8 ≤ v3 then (Option.bind (fn_X6_fault n σ) fun q243 =>
  (Option.bind (fn_X6_mixPersons n ((31 * v1) + q243.toInt64) σ) fun q244 =>
  (fn_X6_digest_b51 n n q244 0 σ)))
  else (Option.bind (fn_X6_count n v3 σ) fun q245 =>
  ((fn_X6_digest_b6 n i) ((31 * v1) + q245.toInt64) (v3 + 1) σ)))
theorem fn_X6_digest_b6_s (n : Nat)   (i : Nat) (v1 : Int64) (v3 : Int32) (σ : Sg) : fn_X6_digest_b6 n (i + 1) v1 v3 σ =
  (if 8 ≤ v3 then (Option.bind (fn_X6_fault n σ) fun q243 =>
  (Option.bind (fn_X6_mixPersons n ((31 * v1) + q243.toInt64) σ) fun q244 =>
  (fn_X6_digest_b51 n n q244 0 σ)))
  else (Option.bind (fn_X6_count n v3 σ) fun q245 =>
  ((fn_X6_digest_b6 n i) ((31 * v1) + q245.toInt64) (v3 + 1) σ))) := rfl
set_option maxRecDepth 20000 in
set_option maxHeartbeats 4000000 in
theorem ev_X6_digest_b6 (n : Nat)   : ∀ (i : Nat) (v1 : Int64) (v3 : Int32) (σ : Sg), Ev mX6_digest 7 178 jM 6 [(0, .ref 0), (1, .long v1), (3, .int v3)] [] σ (fn_X6_digest_b6 n i v1 v3 σ) := by
  intro i
  induction i with
  | zero =>
    intro v1 v3 σ
    exact ev_none
  | succ i ih =>
    intro v1 v3 σ
    rw [fn_X6_digest_b6_s]
    refine ev_iload_n (pc := 6) (i := 3) 2 dX6_digest_6 rfl rfl ?_
    refine ev_bipush (pc := 7) (v := 8) dX6_digest_7 (by decide) ?_
    refine ev_icmp_ge (pc := 9) (tgt := 31) dX6_digest_9 rfl ?_ ?_
    · refine ev_ldc2 (pc := 31) (v := 31) dX6_digest_31 ag_kl_X6_288 ?_
      refine ev_lload_n (pc := 34) (i := 1) 1 dX6_digest_34 rfl rfl ?_
      refine ev_lmul (pc := 35) dX6_digest_35 ?_
      refine ev_aload_n (pc := 36) (i := 0) 0 dX6_digest_36 rfl rfl ?_
      refine ev_vI (pc := 37) (as := []) (rest := [.long (31 * v1)]) ⟨6, 292, 8, TX6, tyX6, ag_C6, ⟨(rfl), (by decide)⟩, mv_X6_fault, ag_ml_X6_292, rfl, (Nat.le_of_ble_eq_true rfl), ⟨(Nat.le_of_ble_eq_true rfl), (Nat.le_of_ble_eq_true rfl)⟩, dX6_digest_37⟩ (im_X6_fault n σ) (fun q243 => ?_)
      refine ev_i2l (pc := 40) dX6_digest_40 ?_
      refine ev_ladd (pc := 41) dX6_digest_41 ?_
      refine ev_lstore_n (pc := 42) (i := 1) (lv' := [(1, .long ((31 * v1) + q243.toInt64)), (0, .ref 0), (3, .int v3)]) dX6_digest_42 rfl (Nat.le_of_ble_eq_true rfl) rfl ?_
      refine ev_aload_n (pc := 43) (i := 0) 1 dX6_digest_43 rfl rfl ?_
      refine ev_lload_n (pc := 44) (i := 1) 0 dX6_digest_44 rfl rfl ?_
      refine ev_vL (pc := 45) (as := [.long ((31 * v1) + q243.toInt64)]) (rest := []) ⟨6, 295, 8, TX6, tyX6, ag_C6, ⟨(rfl), (by decide)⟩, mv_X6_mixPersons, ag_ml_X6_295, rfl, (Nat.le_of_ble_eq_true rfl), ⟨(Nat.le_of_ble_eq_true rfl), (Nat.le_of_ble_eq_true rfl)⟩, dX6_digest_45⟩ (im_X6_mixPersons n ((31 * v1) + q243.toInt64) σ) (fun q244 => ?_)
      refine ev_lstore_n (pc := 48) (i := 1) (lv' := [(1, .long q244), (0, .ref 0), (3, .int v3)]) dX6_digest_48 rfl (Nat.le_of_ble_eq_true rfl) rfl ?_
      refine ev_iconst (pc := 49) (v := 0) dX6_digest_49 (by decide) ?_
      refine ev_istore_n (pc := 50) (i := 3) (lv' := [(3, .int 0), (1, .long q244), (0, .ref 0)]) dX6_digest_50 rfl (Nat.le_of_ble_eq_true rfl) rfl ?_
      refine ev_sub [2, 1, 0] rfl ?_
      exact ev_X6_digest_b51 n n q244 0 σ
    · refine ev_ldc2 (pc := 12) (v := 31) dX6_digest_12 ag_kl_X6_288 ?_
      refine ev_lload_n (pc := 15) (i := 1) 1 dX6_digest_15 rfl rfl ?_
      refine ev_lmul (pc := 16) dX6_digest_16 ?_
      refine ev_aload_n (pc := 17) (i := 0) 0 dX6_digest_17 rfl rfl ?_
      refine ev_iload_n (pc := 18) (i := 3) 2 dX6_digest_18 rfl rfl ?_
      refine ev_vI (pc := 19) (as := [.int v3]) (rest := [.long (31 * v1)]) ⟨6, 290, 8, TX6, tyX6, ag_C6, ⟨(rfl), (by decide)⟩, mv_X6_count, ag_ml_X6_290, rfl, (Nat.le_of_ble_eq_true rfl), ⟨(Nat.le_of_ble_eq_true rfl), (Nat.le_of_ble_eq_true rfl)⟩, dX6_digest_19⟩ (im_X6_count n v3 σ) (fun q245 => ?_)
      refine ev_i2l (pc := 22) dX6_digest_22 ?_
      refine ev_ladd (pc := 23) dX6_digest_23 ?_
      refine ev_lstore_n (pc := 24) (i := 1) (lv' := [(1, .long ((31 * v1) + q245.toInt64)), (0, .ref 0), (3, .int v3)]) dX6_digest_24 rfl (Nat.le_of_ble_eq_true rfl) rfl ?_
      refine ev_iinc (pc := 25) (v := (v3 + 1)) (lv' := [(3, .int (v3 + 1)), (1, .long ((31 * v1) + q245.toInt64)), (0, .ref 0)]) 2 dX6_digest_25 rfl rfl (Nat.le_of_ble_eq_true rfl) rfl ?_
      refine ev_goto (pc := 28) (tgt := 6) dX6_digest_28 rfl ?_
      refine ev_sub [2, 1, 0] rfl ?_
      exact ih ((31 * v1) + q245.toInt64) (v3 + 1) σ
def fn_X6_digest (n : Nat)  (σ : Sg) : Option (Int64 × Sg) :=
  (fn_X6_digest_b6 n n 17 0 σ)
set_option maxRecDepth 20000 in
set_option maxHeartbeats 4000000 in
theorem im_X6_digest (n : Nat)  (σ : Sg) : Im yX6_digest mX6_digest 7 178 jM [.ref 0] σ (fn_X6_digest n  σ) := by
  refine Im.of (by decide +kernel) rfl rfl (Nat.le_of_ble_eq_true rfl) ?_
  show Ev mX6_digest 7 178 jM 0 [(0, .ref 0)] [] σ (fn_X6_digest n  σ)
  unfold fn_X6_digest
  refine ev_ldc2 (pc := 0) (v := 17) dX6_digest_0 ag_kl_X6_286 ?_
  refine ev_lstore_n (pc := 3) (i := 1) (lv' := [(1, .long 17), (0, .ref 0)]) dX6_digest_3 rfl (Nat.le_of_ble_eq_true rfl) rfl ?_
  refine ev_iconst (pc := 4) (v := 0) dX6_digest_4 (by decide) ?_
  refine ev_istore_n (pc := 5) (i := 3) (lv' := [(3, .int 0), (1, .long 17), (0, .ref 0)]) dX6_digest_5 rfl (Nat.le_of_ble_eq_true rfl) rfl ?_
  refine ev_sub [2, 1, 0] rfl ?_
  exact ev_X6_digest_b6 n n 17 0 σ
