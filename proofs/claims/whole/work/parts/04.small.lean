-- by program (wip/whole/emit.py): each method as a function, and its walk
-- X0_addOne
def mX0_addOne : Md := (RX0, cX0_addOne, 5, none, none)
theorem mv_X0_addOne : ag_Mv yX0_addOne mX0_addOne 4 := ⟨ag_co_X0_addOne, ag_im_X0_addOne, ag_se_X0_addOne, ag_ini_X0, by decide +kernel⟩
theorem dX0_addOne_0 : decode mX0_addOne.2.1 0 = .ok (.aload_n 0, 1) := by decide +kernel
theorem dX0_addOne_1 : decode mX0_addOne.2.1 1 = .ok (.getfield 9, 3) := by decide +kernel
theorem dX0_addOne_4 : decode mX0_addOne.2.1 4 = .ok (.bipush 8, 2) := by decide +kernel
theorem dX0_addOne_6 : decode mX0_addOne.2.1 6 = .ok (.if_icmp .lt 4, 3) := by decide +kernel
theorem dX0_addOne_9 : decode mX0_addOne.2.1 9 = .ok (.return_, 1) := by decide +kernel
theorem dX0_addOne_10 : decode mX0_addOne.2.1 10 = .ok (.aload_n 0, 1) := by decide +kernel
theorem dX0_addOne_11 : decode mX0_addOne.2.1 11 = .ok (.getfield 15, 3) := by decide +kernel
theorem dX0_addOne_14 : decode mX0_addOne.2.1 14 = .ok (.aload_n 0, 1) := by decide +kernel
theorem dX0_addOne_15 : decode mX0_addOne.2.1 15 = .ok (.getfield 9, 3) := by decide +kernel
theorem dX0_addOne_18 : decode mX0_addOne.2.1 18 = .ok (.iload_n 1, 1) := by decide +kernel
theorem dX0_addOne_19 : decode mX0_addOne.2.1 19 = .ok (.iastore, 1) := by decide +kernel
theorem dX0_addOne_20 : decode mX0_addOne.2.1 20 = .ok (.aload_n 0, 1) := by decide +kernel
theorem dX0_addOne_21 : decode mX0_addOne.2.1 21 = .ok (.getfield 19, 3) := by decide +kernel
theorem dX0_addOne_24 : decode mX0_addOne.2.1 24 = .ok (.aload_n 0, 1) := by decide +kernel
theorem dX0_addOne_25 : decode mX0_addOne.2.1 25 = .ok (.getfield 9, 3) := by decide +kernel
theorem dX0_addOne_28 : decode mX0_addOne.2.1 28 = .ok (.iload_n 2, 1) := by decide +kernel
theorem dX0_addOne_29 : decode mX0_addOne.2.1 29 = .ok (.iastore, 1) := by decide +kernel
theorem dX0_addOne_30 : decode mX0_addOne.2.1 30 = .ok (.aload_n 0, 1) := by decide +kernel
theorem dX0_addOne_31 : decode mX0_addOne.2.1 31 = .ok (.getfield 22, 3) := by decide +kernel
theorem dX0_addOne_34 : decode mX0_addOne.2.1 34 = .ok (.aload_n 0, 1) := by decide +kernel
theorem dX0_addOne_35 : decode mX0_addOne.2.1 35 = .ok (.getfield 9, 3) := by decide +kernel
theorem dX0_addOne_38 : decode mX0_addOne.2.1 38 = .ok (.iload_n 3, 1) := by decide +kernel
theorem dX0_addOne_39 : decode mX0_addOne.2.1 39 = .ok (.iastore, 1) := by decide +kernel
theorem dX0_addOne_40 : decode mX0_addOne.2.1 40 = .ok (.aload_n 0, 1) := by decide +kernel
theorem dX0_addOne_41 : decode mX0_addOne.2.1 41 = .ok (.getfield 25, 3) := by decide +kernel
theorem dX0_addOne_44 : decode mX0_addOne.2.1 44 = .ok (.aload_n 0, 1) := by decide +kernel
theorem dX0_addOne_45 : decode mX0_addOne.2.1 45 = .ok (.getfield 9, 3) := by decide +kernel
theorem dX0_addOne_48 : decode mX0_addOne.2.1 48 = .ok (.iload 4, 2) := by decide +kernel
theorem dX0_addOne_50 : decode mX0_addOne.2.1 50 = .ok (.iastore, 1) := by decide +kernel
theorem dX0_addOne_51 : decode mX0_addOne.2.1 51 = .ok (.aload_n 0, 1) := by decide +kernel
theorem dX0_addOne_52 : decode mX0_addOne.2.1 52 = .ok (.dup, 1) := by decide +kernel
theorem dX0_addOne_53 : decode mX0_addOne.2.1 53 = .ok (.getfield 9, 3) := by decide +kernel
theorem dX0_addOne_56 : decode mX0_addOne.2.1 56 = .ok (.iconst 1, 1) := by decide +kernel
theorem dX0_addOne_57 : decode mX0_addOne.2.1 57 = .ok (.iadd, 1) := by decide +kernel
theorem dX0_addOne_58 : decode mX0_addOne.2.1 58 = .ok (.putfield 9, 3) := by decide +kernel
theorem dX0_addOne_61 : decode mX0_addOne.2.1 61 = .ok (.return_, 1) := by decide +kernel
def fn_X0_addOne (x1 : Int32) (x2 : Int32) (x3 : Int32) (x4 : Int32) (σ : Sg) : Option Sg :=
  (if (σ 39 0) < 8 then (if ag_ib (σ 39 0) 8 = true then (if ag_ib ((ag_up σ 40 (σ 39 0).toNatClampNeg x1) 39 0) 8 = true then (ag_sg (ag_up (ag_up σ 40 (σ 39 0).toNatClampNeg x1) 41 ((ag_up σ 40 (σ 39 0).toNatClampNeg x1) 39 0).toNatClampNeg x2) fun t1 =>
  (if ag_ib (t1 39 0) 8 = true then (if ag_ib ((ag_up t1 42 (t1 39 0).toNatClampNeg x3) 39 0) 8 = true then (ag_sg (ag_up (ag_up t1 42 (t1 39 0).toNatClampNeg x3) 43 ((ag_up t1 42 (t1 39 0).toNatClampNeg x3) 39 0).toNatClampNeg x4) fun t2 =>
  (some (ag_up t2 39 0 ((t2 39 0) + 1)))) else none) else none)) else none) else none)
  else (some σ))
set_option maxRecDepth 20000 in
set_option maxHeartbeats 4000000 in
theorem im_X0_addOne (x1 : Int32) (x2 : Int32) (x3 : Int32) (x4 : Int32) (σ : Sg) : Im yX0_addOne mX0_addOne 0 0 jV [.ref 39, .int x1, .int x2, .int x3, .int x4] σ (fn_X0_addOne x1 x2 x3 x4 σ) := by
  refine Im.of (by decide +kernel) rfl rfl (Nat.le_of_ble_eq_true rfl) ?_
  show Ev mX0_addOne 0 0 jV 0 [(0, .ref 39), (1, .int x1), (2, .int x2), (3, .int x3), (4, .int x4)] [] σ (fn_X0_addOne x1 x2 x3 x4 σ)
  unfold fn_X0_addOne
  refine ev_aload_n (pc := 0) (i := 0) 0 dX0_addOne_0 rfl rfl ?_
  refine ev_getI (pc := 1) 0 ag_C0 (rfl) (by decide) (Nat.le_of_ble_eq_true rfl) rfl rfl ag_fl_X0_9 dX0_addOne_1 ?_
  refine ev_bipush (pc := 4) (v := 8) dX0_addOne_4 (by decide) ?_
  refine ev_icmp_lt (pc := 6) (tgt := 10) dX0_addOne_6 rfl ?_ ?_
  · refine ev_aload_n (pc := 10) (i := 0) 0 dX0_addOne_10 rfl rfl ?_
    refine ev_getR (pc := 11) (t := 40) 1 ag_C0 (rfl) (by decide) (Nat.le_of_ble_eq_true rfl) rfl rfl ag_fl_X0_15 dX0_addOne_11 ?_
    refine ev_aload_n (pc := 14) (i := 0) 0 dX0_addOne_14 rfl rfl ?_
    refine ev_getI (pc := 15) 0 ag_C0 (rfl) (by decide) (Nat.le_of_ble_eq_true rfl) rfl rfl ag_fl_X0_9 dX0_addOne_15 ?_
    refine ev_iload_n (pc := 18) (i := 1) 1 dX0_addOne_18 rfl rfl ?_
    refine ev_iast (pc := 19) (rfl) (by decide) dX0_addOne_19 ?_
    refine ev_aload_n (pc := 20) (i := 0) 0 dX0_addOne_20 rfl rfl ?_
    refine ev_getR (pc := 21) (t := 41) 2 ag_C0 (rfl) (by decide) (Nat.le_of_ble_eq_true rfl) rfl rfl ag_fl_X0_19 dX0_addOne_21 ?_
    refine ev_aload_n (pc := 24) (i := 0) 0 dX0_addOne_24 rfl rfl ?_
    refine ev_getI (pc := 25) 0 ag_C0 (rfl) (by decide) (Nat.le_of_ble_eq_true rfl) rfl rfl ag_fl_X0_9 dX0_addOne_25 ?_
    refine ev_iload_n (pc := 28) (i := 2) 2 dX0_addOne_28 rfl rfl ?_
    refine ev_iast (pc := 29) (rfl) (by decide) dX0_addOne_29 ?_
    refine ev_sg (fun t1 => ?_)
    refine ev_aload_n (pc := 30) (i := 0) 0 dX0_addOne_30 rfl rfl ?_
    refine ev_getR (pc := 31) (t := 42) 3 ag_C0 (rfl) (by decide) (Nat.le_of_ble_eq_true rfl) rfl rfl ag_fl_X0_22 dX0_addOne_31 ?_
    refine ev_aload_n (pc := 34) (i := 0) 0 dX0_addOne_34 rfl rfl ?_
    refine ev_getI (pc := 35) 0 ag_C0 (rfl) (by decide) (Nat.le_of_ble_eq_true rfl) rfl rfl ag_fl_X0_9 dX0_addOne_35 ?_
    refine ev_iload_n (pc := 38) (i := 3) 3 dX0_addOne_38 rfl rfl ?_
    refine ev_iast (pc := 39) (rfl) (by decide) dX0_addOne_39 ?_
    refine ev_aload_n (pc := 40) (i := 0) 0 dX0_addOne_40 rfl rfl ?_
    refine ev_getR (pc := 41) (t := 43) 4 ag_C0 (rfl) (by decide) (Nat.le_of_ble_eq_true rfl) rfl rfl ag_fl_X0_25 dX0_addOne_41 ?_
    refine ev_aload_n (pc := 44) (i := 0) 0 dX0_addOne_44 rfl rfl ?_
    refine ev_getI (pc := 45) 0 ag_C0 (rfl) (by decide) (Nat.le_of_ble_eq_true rfl) rfl rfl ag_fl_X0_9 dX0_addOne_45 ?_
    refine ev_iload (pc := 48) 4 dX0_addOne_48 rfl ?_
    refine ev_iast (pc := 50) (rfl) (by decide) dX0_addOne_50 ?_
    refine ev_sg (fun t2 => ?_)
    refine ev_aload_n (pc := 51) (i := 0) 0 dX0_addOne_51 rfl rfl ?_
    refine ev_dup (pc := 52) dX0_addOne_52 rfl ?_
    refine ev_getI (pc := 53) 0 ag_C0 (rfl) (by decide) (Nat.le_of_ble_eq_true rfl) rfl rfl ag_fl_X0_9 dX0_addOne_53 ?_
    refine ev_iconst (pc := 56) (v := 1) dX0_addOne_56 (by decide) ?_
    refine ev_iadd (pc := 57) dX0_addOne_57 ?_
    refine ev_put (pc := 58) 0 ag_C0 (rfl) (by decide) (Nat.le_of_ble_eq_true rfl) rfl rfl ag_fl_X0_9 rfl rfl rfl dX0_addOne_58 ?_
    exact ev_rV rfl dX0_addOne_61
  · exact ev_rV rfl dX0_addOne_9
-- X1_isThere
def mX1_isThere : Md := (RX1, cX1_isThere, 2, some .boolean, none)
theorem mv_X1_isThere : ag_Mv yX1_isThere mX1_isThere 1 := ⟨ag_co_X1_isThere, ag_im_X1_isThere, ag_se_X1_isThere, ag_ini_X1, by decide +kernel⟩
theorem dX1_isThere_0 : decode mX1_isThere.2.1 0 = .ok (.iload_n 1, 1) := by decide +kernel
theorem dX1_isThere_1 : decode mX1_isThere.2.1 1 = .ok (.ifCond .lt 15, 3) := by decide +kernel
theorem dX1_isThere_4 : decode mX1_isThere.2.1 4 = .ok (.iload_n 1, 1) := by decide +kernel
theorem dX1_isThere_5 : decode mX1_isThere.2.1 5 = .ok (.aload_n 0, 1) := by decide +kernel
theorem dX1_isThere_6 : decode mX1_isThere.2.1 6 = .ok (.getfield 9, 3) := by decide +kernel
theorem dX1_isThere_9 : decode mX1_isThere.2.1 9 = .ok (.if_icmp .ge 7, 3) := by decide +kernel
theorem dX1_isThere_12 : decode mX1_isThere.2.1 12 = .ok (.iconst 1, 1) := by decide +kernel
theorem dX1_isThere_13 : decode mX1_isThere.2.1 13 = .ok (.goto 4, 3) := by decide +kernel
theorem dX1_isThere_16 : decode mX1_isThere.2.1 16 = .ok (.iconst 0, 1) := by decide +kernel
theorem dX1_isThere_17 : decode mX1_isThere.2.1 17 = .ok (.ireturn, 1) := by decide +kernel
def fn_X1_isThere (b : Nat) (x1 : Int32) (σ : Sg) : Option Int32 :=
  (if x1 < 0 then (some 0)
  else (if (σ b 0) ≤ x1 then (some 0)
  else (some 1)))
set_option maxRecDepth 20000 in
set_option maxHeartbeats 4000000 in
theorem im_X1_isThere (b : Nat) (hb : ag_F b) (x1 : Int32) (σ : Sg) : Im yX1_isThere mX1_isThere 0 0 (jI σ) [.ref b, .int x1] σ (fn_X1_isThere b x1 σ) := by
  refine Im.of (by decide +kernel) rfl rfl (Nat.le_of_ble_eq_true rfl) ?_
  show Ev mX1_isThere 0 0 (jI σ) 0 [(0, .ref b), (1, .int x1)] [] σ (fn_X1_isThere b x1 σ)
  unfold fn_X1_isThere
  refine ev_iload_n (pc := 0) (i := 1) 1 dX1_isThere_0 rfl rfl ?_
  refine ev_if_lt (pc := 1) (tgt := 16) dX1_isThere_1 rfl ?_ ?_
  · refine ev_iconst (pc := 16) (v := 0) dX1_isThere_16 (by decide) ?_
    exact ev_brI rfl rfl dX1_isThere_17
  · refine ev_iload_n (pc := 4) (i := 1) 1 dX1_isThere_4 rfl rfl ?_
    refine ev_aload_n (pc := 5) (i := 0) 0 dX1_isThere_5 rfl rfl ?_
    refine ev_getI (pc := 6) 0 ag_C1 (ag_Fk hb).1 (ag_Fk hb).2 (Nat.le_of_ble_eq_true rfl) (ag_Ft0 hb) rfl ag_fl_X1_9 dX1_isThere_6 ?_
    refine ev_icmp_ge (pc := 9) (tgt := 16) dX1_isThere_9 rfl ?_ ?_
    · refine ev_iconst (pc := 16) (v := 0) dX1_isThere_16 (by decide) ?_
      exact ev_brI rfl rfl dX1_isThere_17
    · refine ev_iconst (pc := 12) (v := 1) dX1_isThere_12 (by decide) ?_
      refine ev_goto (pc := 13) (tgt := 17) dX1_isThere_13 rfl ?_
      exact ev_brI rfl rfl dX1_isThere_17
-- X1_lives
def mX1_lives : Md := (RX1, cX1_lives, 3, some .boolean, none)
theorem mv_X1_lives : ag_Mv yX1_lives mX1_lives 2 := ⟨ag_co_X1_lives, ag_im_X1_lives, ag_se_X1_lives, ag_ini_X1, by decide +kernel⟩
theorem dX1_lives_0 : decode mX1_lives.2.1 0 = .ok (.iload_n 1, 1) := by decide +kernel
theorem dX1_lives_1 : decode mX1_lives.2.1 1 = .ok (.ifCond .lt 42, 3) := by decide +kernel
theorem dX1_lives_4 : decode mX1_lives.2.1 4 = .ok (.iload_n 1, 1) := by decide +kernel
theorem dX1_lives_5 : decode mX1_lives.2.1 5 = .ok (.aload_n 0, 1) := by decide +kernel
theorem dX1_lives_6 : decode mX1_lives.2.1 6 = .ok (.getfield 9, 3) := by decide +kernel
theorem dX1_lives_9 : decode mX1_lives.2.1 9 = .ok (.if_icmp .ge 34, 3) := by decide +kernel
theorem dX1_lives_12 : decode mX1_lives.2.1 12 = .ok (.iload_n 2, 1) := by decide +kernel
theorem dX1_lives_13 : decode mX1_lives.2.1 13 = .ok (.aload_n 0, 1) := by decide +kernel
theorem dX1_lives_14 : decode mX1_lives.2.1 14 = .ok (.getfield 15, 3) := by decide +kernel
theorem dX1_lives_17 : decode mX1_lives.2.1 17 = .ok (.iload_n 1, 1) := by decide +kernel
theorem dX1_lives_18 : decode mX1_lives.2.1 18 = .ok (.iaload, 1) := by decide +kernel
theorem dX1_lives_19 : decode mX1_lives.2.1 19 = .ok (.if_icmp .lt 24, 3) := by decide +kernel
theorem dX1_lives_22 : decode mX1_lives.2.1 22 = .ok (.iload_n 2, 1) := by decide +kernel
theorem dX1_lives_23 : decode mX1_lives.2.1 23 = .ok (.aload_n 0, 1) := by decide +kernel
theorem dX1_lives_24 : decode mX1_lives.2.1 24 = .ok (.getfield 15, 3) := by decide +kernel
theorem dX1_lives_27 : decode mX1_lives.2.1 27 = .ok (.iload_n 1, 1) := by decide +kernel
theorem dX1_lives_28 : decode mX1_lives.2.1 28 = .ok (.iaload, 1) := by decide +kernel
theorem dX1_lives_29 : decode mX1_lives.2.1 29 = .ok (.aload_n 0, 1) := by decide +kernel
theorem dX1_lives_30 : decode mX1_lives.2.1 30 = .ok (.getfield 19, 3) := by decide +kernel
theorem dX1_lives_33 : decode mX1_lives.2.1 33 = .ok (.iload_n 1, 1) := by decide +kernel
theorem dX1_lives_34 : decode mX1_lives.2.1 34 = .ok (.iaload, 1) := by decide +kernel
theorem dX1_lives_35 : decode mX1_lives.2.1 35 = .ok (.iadd, 1) := by decide +kernel
theorem dX1_lives_36 : decode mX1_lives.2.1 36 = .ok (.if_icmp .gt 7, 3) := by decide +kernel
theorem dX1_lives_39 : decode mX1_lives.2.1 39 = .ok (.iconst 1, 1) := by decide +kernel
theorem dX1_lives_40 : decode mX1_lives.2.1 40 = .ok (.goto 4, 3) := by decide +kernel
theorem dX1_lives_43 : decode mX1_lives.2.1 43 = .ok (.iconst 0, 1) := by decide +kernel
theorem dX1_lives_44 : decode mX1_lives.2.1 44 = .ok (.ireturn, 1) := by decide +kernel
def fn_X1_lives (b : Nat) (x1 : Int32) (x2 : Int32) (σ : Sg) : Option Int32 :=
  (if x1 < 0 then (some 0)
  else (if (σ b 0) ≤ x1 then (some 0)
  else (if ag_ib x1 10 = true then (if x2 < (σ (b + 1) x1.toNatClampNeg) then (some 0)
  else (if ag_ib x1 10 = true then (if ag_ib x1 10 = true then (if ((σ (b + 1) x1.toNatClampNeg) + (σ (b + 2) x1.toNatClampNeg)) < x2 then (some 0)
  else (some 1)) else none) else none)) else none)))
set_option maxRecDepth 20000 in
set_option maxHeartbeats 4000000 in
theorem im_X1_lives (b : Nat) (hb : ag_F b) (x1 : Int32) (x2 : Int32) (σ : Sg) : Im yX1_lives mX1_lives 0 0 (jI σ) [.ref b, .int x1, .int x2] σ (fn_X1_lives b x1 x2 σ) := by
  refine Im.of (by decide +kernel) rfl rfl (Nat.le_of_ble_eq_true rfl) ?_
  show Ev mX1_lives 0 0 (jI σ) 0 [(0, .ref b), (1, .int x1), (2, .int x2)] [] σ (fn_X1_lives b x1 x2 σ)
  unfold fn_X1_lives
  refine ev_iload_n (pc := 0) (i := 1) 1 dX1_lives_0 rfl rfl ?_
  refine ev_if_lt (pc := 1) (tgt := 43) dX1_lives_1 rfl ?_ ?_
  · refine ev_iconst (pc := 43) (v := 0) dX1_lives_43 (by decide) ?_
    exact ev_brI rfl rfl dX1_lives_44
  · refine ev_iload_n (pc := 4) (i := 1) 1 dX1_lives_4 rfl rfl ?_
    refine ev_aload_n (pc := 5) (i := 0) 0 dX1_lives_5 rfl rfl ?_
    refine ev_getI (pc := 6) 0 ag_C1 (ag_Fk hb).1 (ag_Fk hb).2 (Nat.le_of_ble_eq_true rfl) (ag_Ft0 hb) rfl ag_fl_X1_9 dX1_lives_6 ?_
    refine ev_icmp_ge (pc := 9) (tgt := 43) dX1_lives_9 rfl ?_ ?_
    · refine ev_iconst (pc := 43) (v := 0) dX1_lives_43 (by decide) ?_
      exact ev_brI rfl rfl dX1_lives_44
    · refine ev_iload_n (pc := 12) (i := 2) 2 dX1_lives_12 rfl rfl ?_
      refine ev_aload_n (pc := 13) (i := 0) 0 dX1_lives_13 rfl rfl ?_
      refine ev_getR (pc := 14) (t := (b + 1)) 1 ag_C1 (ag_Fk hb).1 (ag_Fk hb).2 (Nat.le_of_ble_eq_true rfl) (ag_Ft1 hb) rfl ag_fl_X1_15 dX1_lives_14 ?_
      refine ev_iload_n (pc := 17) (i := 1) 1 dX1_lives_17 rfl rfl ?_
      refine ev_iald (pc := 18) (ag_Fa1 hb).1 (ag_Fa1 hb).2 dX1_lives_18 ?_
      refine ev_icmp_lt (pc := 19) (tgt := 43) dX1_lives_19 rfl ?_ ?_
      · refine ev_iconst (pc := 43) (v := 0) dX1_lives_43 (by decide) ?_
        exact ev_brI rfl rfl dX1_lives_44
      · refine ev_iload_n (pc := 22) (i := 2) 2 dX1_lives_22 rfl rfl ?_
        refine ev_aload_n (pc := 23) (i := 0) 0 dX1_lives_23 rfl rfl ?_
        refine ev_getR (pc := 24) (t := (b + 1)) 1 ag_C1 (ag_Fk hb).1 (ag_Fk hb).2 (Nat.le_of_ble_eq_true rfl) (ag_Ft1 hb) rfl ag_fl_X1_15 dX1_lives_24 ?_
        refine ev_iload_n (pc := 27) (i := 1) 1 dX1_lives_27 rfl rfl ?_
        refine ev_iald (pc := 28) (ag_Fa1 hb).1 (ag_Fa1 hb).2 dX1_lives_28 ?_
        refine ev_aload_n (pc := 29) (i := 0) 0 dX1_lives_29 rfl rfl ?_
        refine ev_getR (pc := 30) (t := (b + 2)) 2 ag_C1 (ag_Fk hb).1 (ag_Fk hb).2 (Nat.le_of_ble_eq_true rfl) (ag_Ft2 hb) rfl ag_fl_X1_19 dX1_lives_30 ?_
        refine ev_iload_n (pc := 33) (i := 1) 1 dX1_lives_33 rfl rfl ?_
        refine ev_iald (pc := 34) (ag_Fa2 hb).1 (ag_Fa2 hb).2 dX1_lives_34 ?_
        refine ev_iadd (pc := 35) dX1_lives_35 ?_
        refine ev_icmp_gt (pc := 36) (tgt := 43) dX1_lives_36 rfl ?_ ?_
        · refine ev_iconst (pc := 43) (v := 0) dX1_lives_43 (by decide) ?_
          exact ev_brI rfl rfl dX1_lives_44
        · refine ev_iconst (pc := 39) (v := 1) dX1_lives_39 (by decide) ?_
          refine ev_goto (pc := 40) (tgt := 44) dX1_lives_40 rfl ?_
          exact ev_brI rfl rfl dX1_lives_44
-- X1_toldAge
def mX1_toldAge : Md := (RX1, cX1_toldAge, 3, some .int, none)
theorem mv_X1_toldAge : ag_Mv yX1_toldAge mX1_toldAge 2 := ⟨ag_co_X1_toldAge, ag_im_X1_toldAge, ag_se_X1_toldAge, ag_ini_X1, by decide +kernel⟩
theorem dX1_toldAge_0 : decode mX1_toldAge.2.1 0 = .ok (.iload_n 2, 1) := by decide +kernel
theorem dX1_toldAge_1 : decode mX1_toldAge.2.1 1 = .ok (.aload_n 0, 1) := by decide +kernel
theorem dX1_toldAge_2 : decode mX1_toldAge.2.1 2 = .ok (.getfield 15, 3) := by decide +kernel
theorem dX1_toldAge_5 : decode mX1_toldAge.2.1 5 = .ok (.iload_n 1, 1) := by decide +kernel
theorem dX1_toldAge_6 : decode mX1_toldAge.2.1 6 = .ok (.iaload, 1) := by decide +kernel
theorem dX1_toldAge_7 : decode mX1_toldAge.2.1 7 = .ok (.isub, 1) := by decide +kernel
theorem dX1_toldAge_8 : decode mX1_toldAge.2.1 8 = .ok (.aload_n 0, 1) := by decide +kernel
theorem dX1_toldAge_9 : decode mX1_toldAge.2.1 9 = .ok (.getfield 25, 3) := by decide +kernel
theorem dX1_toldAge_12 : decode mX1_toldAge.2.1 12 = .ok (.iload_n 1, 1) := by decide +kernel
theorem dX1_toldAge_13 : decode mX1_toldAge.2.1 13 = .ok (.iaload, 1) := by decide +kernel
theorem dX1_toldAge_14 : decode mX1_toldAge.2.1 14 = .ok (.iadd, 1) := by decide +kernel
theorem dX1_toldAge_15 : decode mX1_toldAge.2.1 15 = .ok (.ireturn, 1) := by decide +kernel
def fn_X1_toldAge (b : Nat) (x1 : Int32) (x2 : Int32) (σ : Sg) : Option Int32 :=
  (if ag_ib x1 10 = true then (if ag_ib x1 10 = true then (some ((x2 - (σ (b + 1) x1.toNatClampNeg)) + (σ (b + 4) x1.toNatClampNeg))) else none) else none)
set_option maxRecDepth 20000 in
set_option maxHeartbeats 4000000 in
theorem im_X1_toldAge (b : Nat) (hb : ag_F b) (x1 : Int32) (x2 : Int32) (σ : Sg) : Im yX1_toldAge mX1_toldAge 0 0 (jI σ) [.ref b, .int x1, .int x2] σ (fn_X1_toldAge b x1 x2 σ) := by
  refine Im.of (by decide +kernel) rfl rfl (Nat.le_of_ble_eq_true rfl) ?_
  show Ev mX1_toldAge 0 0 (jI σ) 0 [(0, .ref b), (1, .int x1), (2, .int x2)] [] σ (fn_X1_toldAge b x1 x2 σ)
  unfold fn_X1_toldAge
  refine ev_iload_n (pc := 0) (i := 2) 2 dX1_toldAge_0 rfl rfl ?_
  refine ev_aload_n (pc := 1) (i := 0) 0 dX1_toldAge_1 rfl rfl ?_
  refine ev_getR (pc := 2) (t := (b + 1)) 1 ag_C1 (ag_Fk hb).1 (ag_Fk hb).2 (Nat.le_of_ble_eq_true rfl) (ag_Ft1 hb) rfl ag_fl_X1_15 dX1_toldAge_2 ?_
  refine ev_iload_n (pc := 5) (i := 1) 1 dX1_toldAge_5 rfl rfl ?_
  refine ev_iald (pc := 6) (ag_Fa1 hb).1 (ag_Fa1 hb).2 dX1_toldAge_6 ?_
  refine ev_isub (pc := 7) dX1_toldAge_7 ?_
  refine ev_aload_n (pc := 8) (i := 0) 0 dX1_toldAge_8 rfl rfl ?_
  refine ev_getR (pc := 9) (t := (b + 4)) 4 ag_C1 (ag_Fk hb).1 (ag_Fk hb).2 (Nat.le_of_ble_eq_true rfl) (ag_Ft4 hb) rfl ag_fl_X1_25 dX1_toldAge_9 ?_
  refine ev_iload_n (pc := 12) (i := 1) 1 dX1_toldAge_12 rfl rfl ?_
  refine ev_iald (pc := 13) (ag_Fa4 hb).1 (ag_Fa4 hb).2 dX1_toldAge_13 ?_
  refine ev_iadd (pc := 14) dX1_toldAge_14 ?_
  exact ev_irI rfl dX1_toldAge_15
-- X1_elders
def mX1_elders : Md := (RX1, cX1_elders, 3, some .int, none)
theorem mv_X1_elders : ag_Mv yX1_elders mX1_elders 0 := ⟨ag_co_X1_elders, ag_im_X1_elders, ag_se_X1_elders, ag_ini_X1, by decide +kernel⟩
theorem dX1_elders_0 : decode mX1_elders.2.1 0 = .ok (.iconst 0, 1) := by decide +kernel
theorem dX1_elders_1 : decode mX1_elders.2.1 1 = .ok (.istore_n 1, 1) := by decide +kernel
theorem dX1_elders_2 : decode mX1_elders.2.1 2 = .ok (.iconst 0, 1) := by decide +kernel
theorem dX1_elders_3 : decode mX1_elders.2.1 3 = .ok (.istore_n 2, 1) := by decide +kernel
theorem dX1_elders_4 : decode mX1_elders.2.1 4 = .ok (.iload_n 2, 1) := by decide +kernel
theorem dX1_elders_5 : decode mX1_elders.2.1 5 = .ok (.aload_n 0, 1) := by decide +kernel
theorem dX1_elders_6 : decode mX1_elders.2.1 6 = .ok (.getfield 9, 3) := by decide +kernel
theorem dX1_elders_9 : decode mX1_elders.2.1 9 = .ok (.if_icmp .ge 27, 3) := by decide +kernel
theorem dX1_elders_12 : decode mX1_elders.2.1 12 = .ok (.iload_n 1, 1) := by decide +kernel
theorem dX1_elders_13 : decode mX1_elders.2.1 13 = .ok (.aload_n 0, 1) := by decide +kernel
theorem dX1_elders_14 : decode mX1_elders.2.1 14 = .ok (.getfield 22, 3) := by decide +kernel
theorem dX1_elders_17 : decode mX1_elders.2.1 17 = .ok (.iload_n 2, 1) := by decide +kernel
theorem dX1_elders_18 : decode mX1_elders.2.1 18 = .ok (.iaload, 1) := by decide +kernel
theorem dX1_elders_19 : decode mX1_elders.2.1 19 = .ok (.iconst 1, 1) := by decide +kernel
theorem dX1_elders_20 : decode mX1_elders.2.1 20 = .ok (.if_icmp .ne 7, 3) := by decide +kernel
theorem dX1_elders_23 : decode mX1_elders.2.1 23 = .ok (.iconst 1, 1) := by decide +kernel
theorem dX1_elders_24 : decode mX1_elders.2.1 24 = .ok (.goto 4, 3) := by decide +kernel
theorem dX1_elders_27 : decode mX1_elders.2.1 27 = .ok (.iconst 0, 1) := by decide +kernel
theorem dX1_elders_28 : decode mX1_elders.2.1 28 = .ok (.iadd, 1) := by decide +kernel
theorem dX1_elders_29 : decode mX1_elders.2.1 29 = .ok (.istore_n 1, 1) := by decide +kernel
theorem dX1_elders_30 : decode mX1_elders.2.1 30 = .ok (.iinc 2 1, 3) := by decide +kernel
theorem dX1_elders_33 : decode mX1_elders.2.1 33 = .ok (.goto (-29), 3) := by decide +kernel
theorem dX1_elders_36 : decode mX1_elders.2.1 36 = .ok (.iload_n 1, 1) := by decide +kernel
theorem dX1_elders_37 : decode mX1_elders.2.1 37 = .ok (.ireturn, 1) := by decide +kernel
def fn_X1_elders_b28 (n : Nat) (b : Nat) (σ : Sg) (k4 : Int32 → Int32 → Option Int32) (v2 : Int32) (s0 : Int32) (s1 : Int32) : Option Int32 :=
  (k4 (s0 + s1) (v2 + 1))
set_option maxRecDepth 20000 in
set_option maxHeartbeats 4000000 in
theorem ev_X1_elders_b28 (n : Nat) (b : Nat) (hb : ag_F b) (σ : Sg) (k4 : Int32 → Int32 → Option Int32) (hk4 : ∀ (v1 : Int32) (v2 : Int32), Ev mX1_elders 0 0 (jI σ) 4 [(0, .ref b), (1, .int v1), (2, .int v2)] [] σ (k4 v1 v2)) (v2 : Int32) (s0 : Int32) (s1 : Int32) : Ev mX1_elders 0 0 (jI σ) 28 [(0, .ref b), (2, .int v2)] [.int s1, .int s0] σ (fn_X1_elders_b28 n b σ k4 v2 s0 s1) := by
  unfold fn_X1_elders_b28
  refine ev_iadd (pc := 28) dX1_elders_28 ?_
  refine ev_istore_n (pc := 29) (i := 1) (lv' := [(1, .int (s0 + s1)), (0, .ref b), (2, .int v2)]) dX1_elders_29 rfl (Nat.le_of_ble_eq_true rfl) rfl ?_
  refine ev_iinc (pc := 30) (v := (v2 + 1)) (lv' := [(2, .int (v2 + 1)), (1, .int (s0 + s1)), (0, .ref b)]) 2 dX1_elders_30 rfl rfl (Nat.le_of_ble_eq_true rfl) rfl ?_
  refine ev_goto (pc := 33) (tgt := 4) dX1_elders_33 rfl ?_
  refine ev_sub [2, 1, 0] rfl ?_
  exact hk4 (s0 + s1) (v2 + 1)
def fn_X1_elders_b4 (n : Nat) (b : Nat) (σ : Sg)  : Nat → Int32 → Int32 → Option Int32
  | 0 => fun _ _ => none
  | i + 1 => fun v1 v2 =>
  (if (σ b 0) ≤ v2 then (some v1)
  else (if ag_ib v2 10 = true then (if (σ (b + 3) v2.toNatClampNeg) = 1 then (fn_X1_elders_b28 n b σ (fn_X1_elders_b4 n b σ i) v2 v1 1)
  else (fn_X1_elders_b28 n b σ (fn_X1_elders_b4 n b σ i) v2 v1 0)) else none))
theorem fn_X1_elders_b4_s (n : Nat) (b : Nat) (σ : Sg)  (i : Nat) (v1 : Int32) (v2 : Int32) : fn_X1_elders_b4 n b σ (i + 1) v1 v2 =
  (if (σ b 0) ≤ v2 then (some v1)
  else (if ag_ib v2 10 = true then (if (σ (b + 3) v2.toNatClampNeg) = 1 then (fn_X1_elders_b28 n b σ (fn_X1_elders_b4 n b σ i) v2 v1 1)
  else (fn_X1_elders_b28 n b σ (fn_X1_elders_b4 n b σ i) v2 v1 0)) else none)) := rfl
set_option maxRecDepth 20000 in
set_option maxHeartbeats 4000000 in
theorem ev_X1_elders_b4 (n : Nat) (b : Nat) (hb : ag_F b) (σ : Sg)  : ∀ (i : Nat) (v1 : Int32) (v2 : Int32), Ev mX1_elders 0 0 (jI σ) 4 [(0, .ref b), (1, .int v1), (2, .int v2)] [] σ (fn_X1_elders_b4 n b σ i v1 v2) := by
  intro i
  induction i with
  | zero =>
    intro v1 v2
    exact ev_none
  | succ i ih =>
    intro v1 v2
    rw [fn_X1_elders_b4_s]
    refine ev_iload_n (pc := 4) (i := 2) 2 dX1_elders_4 rfl rfl ?_
    refine ev_aload_n (pc := 5) (i := 0) 0 dX1_elders_5 rfl rfl ?_
    refine ev_getI (pc := 6) 0 ag_C1 (ag_Fk hb).1 (ag_Fk hb).2 (Nat.le_of_ble_eq_true rfl) (ag_Ft0 hb) rfl ag_fl_X1_9 dX1_elders_6 ?_
    refine ev_icmp_ge (pc := 9) (tgt := 36) dX1_elders_9 rfl ?_ ?_
    · refine ev_iload_n (pc := 36) (i := 1) 1 dX1_elders_36 rfl rfl ?_
      exact ev_irI rfl dX1_elders_37
    · refine ev_iload_n (pc := 12) (i := 1) 1 dX1_elders_12 rfl rfl ?_
      refine ev_aload_n (pc := 13) (i := 0) 0 dX1_elders_13 rfl rfl ?_
      refine ev_getR (pc := 14) (t := (b + 3)) 3 ag_C1 (ag_Fk hb).1 (ag_Fk hb).2 (Nat.le_of_ble_eq_true rfl) (ag_Ft3 hb) rfl ag_fl_X1_22 dX1_elders_14 ?_
      refine ev_iload_n (pc := 17) (i := 2) 2 dX1_elders_17 rfl rfl ?_
      refine ev_iald (pc := 18) (ag_Fa3 hb).1 (ag_Fa3 hb).2 dX1_elders_18 ?_
      refine ev_iconst (pc := 19) (v := 1) dX1_elders_19 (by decide) ?_
      refine ev_icmp_ne (pc := 20) (tgt := 27) dX1_elders_20 rfl ?_ ?_
      · refine ev_iconst (pc := 23) (v := 1) dX1_elders_23 (by decide) ?_
        refine ev_goto (pc := 24) (tgt := 28) dX1_elders_24 rfl ?_
        refine ev_sub [0, 2] rfl ?_
        exact ev_X1_elders_b28 n b hb σ (fn_X1_elders_b4 n b σ i) ih v2 v1 1
      · refine ev_iconst (pc := 27) (v := 0) dX1_elders_27 (by decide) ?_
        refine ev_sub [0, 2] rfl ?_
        exact ev_X1_elders_b28 n b hb σ (fn_X1_elders_b4 n b σ i) ih v2 v1 0
def fn_X1_elders (n : Nat) (b : Nat) (σ : Sg) : Option Int32 :=
  (fn_X1_elders_b4 n b σ n 0 0)
set_option maxRecDepth 20000 in
set_option maxHeartbeats 4000000 in
theorem im_X1_elders (n : Nat) (b : Nat) (hb : ag_F b) (σ : Sg) : Im yX1_elders mX1_elders 0 0 (jI σ) [.ref b] σ (fn_X1_elders n b σ) := by
  refine Im.of (by decide +kernel) rfl rfl (Nat.le_of_ble_eq_true rfl) ?_
  show Ev mX1_elders 0 0 (jI σ) 0 [(0, .ref b)] [] σ (fn_X1_elders n b σ)
  unfold fn_X1_elders
  refine ev_iconst (pc := 0) (v := 0) dX1_elders_0 (by decide) ?_
  refine ev_istore_n (pc := 1) (i := 1) (lv' := [(1, .int 0), (0, .ref b)]) dX1_elders_1 rfl (Nat.le_of_ble_eq_true rfl) rfl ?_
  refine ev_iconst (pc := 2) (v := 0) dX1_elders_2 (by decide) ?_
  refine ev_istore_n (pc := 3) (i := 2) (lv' := [(2, .int 0), (1, .int 0), (0, .ref b)]) dX1_elders_3 rfl (Nat.le_of_ble_eq_true rfl) rfl ?_
  refine ev_sub [2, 1, 0] rfl ?_
  exact ev_X1_elders_b4 n b hb σ n 0 0
-- J6_bitCount_0f7a4
def mJ6_bitCount_0f7a4 : Md := (RJ6, cJ6_bitCount_0f7a4, 1, some .int, none)
theorem ms_J6_bitCount_0f7a4 : ag_Ms yJ6_bitCount_0f7a4 mJ6_bitCount_0f7a4 1 := ⟨ag_co_J6_bitCount_0f7a4, ag_st_J6_bitCount_0f7a4, ag_ini_J6, by decide +kernel⟩
theorem dJ6_bitCount_0f7a4_0 : decode mJ6_bitCount_0f7a4.2.1 0 = .ok (.iload_n 0, 1) := by decide +kernel
theorem dJ6_bitCount_0f7a4_1 : decode mJ6_bitCount_0f7a4.2.1 1 = .ok (.iload_n 0, 1) := by decide +kernel
theorem dJ6_bitCount_0f7a4_2 : decode mJ6_bitCount_0f7a4.2.1 2 = .ok (.iconst 1, 1) := by decide +kernel
theorem dJ6_bitCount_0f7a4_3 : decode mJ6_bitCount_0f7a4.2.1 3 = .ok (.iushr, 1) := by decide +kernel
theorem dJ6_bitCount_0f7a4_4 : decode mJ6_bitCount_0f7a4.2.1 4 = .ok (.ldc_w 265, 3) := by decide +kernel
theorem dJ6_bitCount_0f7a4_7 : decode mJ6_bitCount_0f7a4.2.1 7 = .ok (.iand, 1) := by decide +kernel
theorem dJ6_bitCount_0f7a4_8 : decode mJ6_bitCount_0f7a4.2.1 8 = .ok (.isub, 1) := by decide +kernel
theorem dJ6_bitCount_0f7a4_9 : decode mJ6_bitCount_0f7a4.2.1 9 = .ok (.istore_n 0, 1) := by decide +kernel
theorem dJ6_bitCount_0f7a4_10 : decode mJ6_bitCount_0f7a4.2.1 10 = .ok (.iload_n 0, 1) := by decide +kernel
theorem dJ6_bitCount_0f7a4_11 : decode mJ6_bitCount_0f7a4.2.1 11 = .ok (.ldc_w 266, 3) := by decide +kernel
theorem dJ6_bitCount_0f7a4_14 : decode mJ6_bitCount_0f7a4.2.1 14 = .ok (.iand, 1) := by decide +kernel
theorem dJ6_bitCount_0f7a4_15 : decode mJ6_bitCount_0f7a4.2.1 15 = .ok (.iload_n 0, 1) := by decide +kernel
theorem dJ6_bitCount_0f7a4_16 : decode mJ6_bitCount_0f7a4.2.1 16 = .ok (.iconst 2, 1) := by decide +kernel
theorem dJ6_bitCount_0f7a4_17 : decode mJ6_bitCount_0f7a4.2.1 17 = .ok (.iushr, 1) := by decide +kernel
theorem dJ6_bitCount_0f7a4_18 : decode mJ6_bitCount_0f7a4.2.1 18 = .ok (.ldc_w 266, 3) := by decide +kernel
theorem dJ6_bitCount_0f7a4_21 : decode mJ6_bitCount_0f7a4.2.1 21 = .ok (.iand, 1) := by decide +kernel
theorem dJ6_bitCount_0f7a4_22 : decode mJ6_bitCount_0f7a4.2.1 22 = .ok (.iadd, 1) := by decide +kernel
theorem dJ6_bitCount_0f7a4_23 : decode mJ6_bitCount_0f7a4.2.1 23 = .ok (.istore_n 0, 1) := by decide +kernel
theorem dJ6_bitCount_0f7a4_24 : decode mJ6_bitCount_0f7a4.2.1 24 = .ok (.iload_n 0, 1) := by decide +kernel
theorem dJ6_bitCount_0f7a4_25 : decode mJ6_bitCount_0f7a4.2.1 25 = .ok (.iload_n 0, 1) := by decide +kernel
theorem dJ6_bitCount_0f7a4_26 : decode mJ6_bitCount_0f7a4.2.1 26 = .ok (.iconst 4, 1) := by decide +kernel
theorem dJ6_bitCount_0f7a4_27 : decode mJ6_bitCount_0f7a4.2.1 27 = .ok (.iushr, 1) := by decide +kernel
theorem dJ6_bitCount_0f7a4_28 : decode mJ6_bitCount_0f7a4.2.1 28 = .ok (.iadd, 1) := by decide +kernel
theorem dJ6_bitCount_0f7a4_29 : decode mJ6_bitCount_0f7a4.2.1 29 = .ok (.ldc_w 267, 3) := by decide +kernel
theorem dJ6_bitCount_0f7a4_32 : decode mJ6_bitCount_0f7a4.2.1 32 = .ok (.iand, 1) := by decide +kernel
theorem dJ6_bitCount_0f7a4_33 : decode mJ6_bitCount_0f7a4.2.1 33 = .ok (.istore_n 0, 1) := by decide +kernel
theorem dJ6_bitCount_0f7a4_34 : decode mJ6_bitCount_0f7a4.2.1 34 = .ok (.iload_n 0, 1) := by decide +kernel
theorem dJ6_bitCount_0f7a4_35 : decode mJ6_bitCount_0f7a4.2.1 35 = .ok (.iload_n 0, 1) := by decide +kernel
theorem dJ6_bitCount_0f7a4_36 : decode mJ6_bitCount_0f7a4.2.1 36 = .ok (.bipush 8, 2) := by decide +kernel
theorem dJ6_bitCount_0f7a4_38 : decode mJ6_bitCount_0f7a4.2.1 38 = .ok (.iushr, 1) := by decide +kernel
theorem dJ6_bitCount_0f7a4_39 : decode mJ6_bitCount_0f7a4.2.1 39 = .ok (.iadd, 1) := by decide +kernel
theorem dJ6_bitCount_0f7a4_40 : decode mJ6_bitCount_0f7a4.2.1 40 = .ok (.istore_n 0, 1) := by decide +kernel
theorem dJ6_bitCount_0f7a4_41 : decode mJ6_bitCount_0f7a4.2.1 41 = .ok (.iload_n 0, 1) := by decide +kernel
theorem dJ6_bitCount_0f7a4_42 : decode mJ6_bitCount_0f7a4.2.1 42 = .ok (.iload_n 0, 1) := by decide +kernel
theorem dJ6_bitCount_0f7a4_43 : decode mJ6_bitCount_0f7a4.2.1 43 = .ok (.bipush 16, 2) := by decide +kernel
theorem dJ6_bitCount_0f7a4_45 : decode mJ6_bitCount_0f7a4.2.1 45 = .ok (.iushr, 1) := by decide +kernel
theorem dJ6_bitCount_0f7a4_46 : decode mJ6_bitCount_0f7a4.2.1 46 = .ok (.iadd, 1) := by decide +kernel
theorem dJ6_bitCount_0f7a4_47 : decode mJ6_bitCount_0f7a4.2.1 47 = .ok (.istore_n 0, 1) := by decide +kernel
theorem dJ6_bitCount_0f7a4_48 : decode mJ6_bitCount_0f7a4.2.1 48 = .ok (.iload_n 0, 1) := by decide +kernel
theorem dJ6_bitCount_0f7a4_49 : decode mJ6_bitCount_0f7a4.2.1 49 = .ok (.bipush 63, 2) := by decide +kernel
theorem dJ6_bitCount_0f7a4_51 : decode mJ6_bitCount_0f7a4.2.1 51 = .ok (.iand, 1) := by decide +kernel
theorem dJ6_bitCount_0f7a4_52 : decode mJ6_bitCount_0f7a4.2.1 52 = .ok (.ireturn, 1) := by decide +kernel
def fn_J6_bitCount_0f7a4 (x0 : Int32) (σ : Sg) : Option Int32 :=
  (some ((((((((x0 - ((ag_ushr x0 1) &&& 1431655765)) &&& 858993459) + ((ag_ushr (x0 - ((ag_ushr x0 1) &&& 1431655765)) 2) &&& 858993459)) + (ag_ushr (((x0 - ((ag_ushr x0 1) &&& 1431655765)) &&& 858993459) + ((ag_ushr (x0 - ((ag_ushr x0 1) &&& 1431655765)) 2) &&& 858993459)) 4)) &&& 252645135) + (ag_ushr (((((x0 - ((ag_ushr x0 1) &&& 1431655765)) &&& 858993459) + ((ag_ushr (x0 - ((ag_ushr x0 1) &&& 1431655765)) 2) &&& 858993459)) + (ag_ushr (((x0 - ((ag_ushr x0 1) &&& 1431655765)) &&& 858993459) + ((ag_ushr (x0 - ((ag_ushr x0 1) &&& 1431655765)) 2) &&& 858993459)) 4)) &&& 252645135) 8)) + (ag_ushr ((((((x0 - ((ag_ushr x0 1) &&& 1431655765)) &&& 858993459) + ((ag_ushr (x0 - ((ag_ushr x0 1) &&& 1431655765)) 2) &&& 858993459)) + (ag_ushr (((x0 - ((ag_ushr x0 1) &&& 1431655765)) &&& 858993459) + ((ag_ushr (x0 - ((ag_ushr x0 1) &&& 1431655765)) 2) &&& 858993459)) 4)) &&& 252645135) + (ag_ushr (((((x0 - ((ag_ushr x0 1) &&& 1431655765)) &&& 858993459) + ((ag_ushr (x0 - ((ag_ushr x0 1) &&& 1431655765)) 2) &&& 858993459)) + (ag_ushr (((x0 - ((ag_ushr x0 1) &&& 1431655765)) &&& 858993459) + ((ag_ushr (x0 - ((ag_ushr x0 1) &&& 1431655765)) 2) &&& 858993459)) 4)) &&& 252645135) 8)) 16)) &&& 63))
set_option maxRecDepth 20000 in
set_option maxHeartbeats 4000000 in
theorem im_J6_bitCount_0f7a4 (x0 : Int32) (σ : Sg) : Im yJ6_bitCount_0f7a4 mJ6_bitCount_0f7a4 0 0 (jI σ) [.int x0] σ (fn_J6_bitCount_0f7a4 x0 σ) := by
  refine Im.of (by decide +kernel) rfl rfl (Nat.le_of_ble_eq_true rfl) ?_
  show Ev mJ6_bitCount_0f7a4 0 0 (jI σ) 0 [(0, .int x0)] [] σ (fn_J6_bitCount_0f7a4 x0 σ)
  unfold fn_J6_bitCount_0f7a4
  refine ev_iload_n (pc := 0) (i := 0) 0 dJ6_bitCount_0f7a4_0 rfl rfl ?_
  refine ev_iload_n (pc := 1) (i := 0) 0 dJ6_bitCount_0f7a4_1 rfl rfl ?_
  refine ev_iconst (pc := 2) (v := 1) dJ6_bitCount_0f7a4_2 (by decide) ?_
  refine ev_iushr (pc := 3) dJ6_bitCount_0f7a4_3 ?_
  refine ev_ldcw (pc := 4) (v := 1431655765) dJ6_bitCount_0f7a4_4 ag_kc_J6_265 ?_
  refine ev_iand (pc := 7) dJ6_bitCount_0f7a4_7 ?_
  refine ev_isub (pc := 8) dJ6_bitCount_0f7a4_8 ?_
  refine ev_istore_n (pc := 9) (i := 0) (lv' := [(0, .int (x0 - ((ag_ushr x0 1) &&& 1431655765)))]) dJ6_bitCount_0f7a4_9 rfl (Nat.le_of_ble_eq_true rfl) rfl ?_
  refine ev_iload_n (pc := 10) (i := 0) 0 dJ6_bitCount_0f7a4_10 rfl rfl ?_
  refine ev_ldcw (pc := 11) (v := 858993459) dJ6_bitCount_0f7a4_11 ag_kc_J6_266 ?_
  refine ev_iand (pc := 14) dJ6_bitCount_0f7a4_14 ?_
  refine ev_iload_n (pc := 15) (i := 0) 0 dJ6_bitCount_0f7a4_15 rfl rfl ?_
  refine ev_iconst (pc := 16) (v := 2) dJ6_bitCount_0f7a4_16 (by decide) ?_
  refine ev_iushr (pc := 17) dJ6_bitCount_0f7a4_17 ?_
  refine ev_ldcw (pc := 18) (v := 858993459) dJ6_bitCount_0f7a4_18 ag_kc_J6_266 ?_
  refine ev_iand (pc := 21) dJ6_bitCount_0f7a4_21 ?_
  refine ev_iadd (pc := 22) dJ6_bitCount_0f7a4_22 ?_
  refine ev_istore_n (pc := 23) (i := 0) (lv' := [(0, .int (((x0 - ((ag_ushr x0 1) &&& 1431655765)) &&& 858993459) + ((ag_ushr (x0 - ((ag_ushr x0 1) &&& 1431655765)) 2) &&& 858993459)))]) dJ6_bitCount_0f7a4_23 rfl (Nat.le_of_ble_eq_true rfl) rfl ?_
  refine ev_iload_n (pc := 24) (i := 0) 0 dJ6_bitCount_0f7a4_24 rfl rfl ?_
  refine ev_iload_n (pc := 25) (i := 0) 0 dJ6_bitCount_0f7a4_25 rfl rfl ?_
  refine ev_iconst (pc := 26) (v := 4) dJ6_bitCount_0f7a4_26 (by decide) ?_
  refine ev_iushr (pc := 27) dJ6_bitCount_0f7a4_27 ?_
  refine ev_iadd (pc := 28) dJ6_bitCount_0f7a4_28 ?_
  refine ev_ldcw (pc := 29) (v := 252645135) dJ6_bitCount_0f7a4_29 ag_kc_J6_267 ?_
  refine ev_iand (pc := 32) dJ6_bitCount_0f7a4_32 ?_
  refine ev_istore_n (pc := 33) (i := 0) (lv' := [(0, .int (((((x0 - ((ag_ushr x0 1) &&& 1431655765)) &&& 858993459) + ((ag_ushr (x0 - ((ag_ushr x0 1) &&& 1431655765)) 2) &&& 858993459)) + (ag_ushr (((x0 - ((ag_ushr x0 1) &&& 1431655765)) &&& 858993459) + ((ag_ushr (x0 - ((ag_ushr x0 1) &&& 1431655765)) 2) &&& 858993459)) 4)) &&& 252645135))]) dJ6_bitCount_0f7a4_33 rfl (Nat.le_of_ble_eq_true rfl) rfl ?_
  refine ev_iload_n (pc := 34) (i := 0) 0 dJ6_bitCount_0f7a4_34 rfl rfl ?_
  refine ev_iload_n (pc := 35) (i := 0) 0 dJ6_bitCount_0f7a4_35 rfl rfl ?_
  refine ev_bipush (pc := 36) (v := 8) dJ6_bitCount_0f7a4_36 (by decide) ?_
  refine ev_iushr (pc := 38) dJ6_bitCount_0f7a4_38 ?_
  refine ev_iadd (pc := 39) dJ6_bitCount_0f7a4_39 ?_
  refine ev_istore_n (pc := 40) (i := 0) (lv' := [(0, .int ((((((x0 - ((ag_ushr x0 1) &&& 1431655765)) &&& 858993459) + ((ag_ushr (x0 - ((ag_ushr x0 1) &&& 1431655765)) 2) &&& 858993459)) + (ag_ushr (((x0 - ((ag_ushr x0 1) &&& 1431655765)) &&& 858993459) + ((ag_ushr (x0 - ((ag_ushr x0 1) &&& 1431655765)) 2) &&& 858993459)) 4)) &&& 252645135) + (ag_ushr (((((x0 - ((ag_ushr x0 1) &&& 1431655765)) &&& 858993459) + ((ag_ushr (x0 - ((ag_ushr x0 1) &&& 1431655765)) 2) &&& 858993459)) + (ag_ushr (((x0 - ((ag_ushr x0 1) &&& 1431655765)) &&& 858993459) + ((ag_ushr (x0 - ((ag_ushr x0 1) &&& 1431655765)) 2) &&& 858993459)) 4)) &&& 252645135) 8)))]) dJ6_bitCount_0f7a4_40 rfl (Nat.le_of_ble_eq_true rfl) rfl ?_
  refine ev_iload_n (pc := 41) (i := 0) 0 dJ6_bitCount_0f7a4_41 rfl rfl ?_
  refine ev_iload_n (pc := 42) (i := 0) 0 dJ6_bitCount_0f7a4_42 rfl rfl ?_
  refine ev_bipush (pc := 43) (v := 16) dJ6_bitCount_0f7a4_43 (by decide) ?_
  refine ev_iushr (pc := 45) dJ6_bitCount_0f7a4_45 ?_
  refine ev_iadd (pc := 46) dJ6_bitCount_0f7a4_46 ?_
  refine ev_istore_n (pc := 47) (i := 0) (lv' := [(0, .int (((((((x0 - ((ag_ushr x0 1) &&& 1431655765)) &&& 858993459) + ((ag_ushr (x0 - ((ag_ushr x0 1) &&& 1431655765)) 2) &&& 858993459)) + (ag_ushr (((x0 - ((ag_ushr x0 1) &&& 1431655765)) &&& 858993459) + ((ag_ushr (x0 - ((ag_ushr x0 1) &&& 1431655765)) 2) &&& 858993459)) 4)) &&& 252645135) + (ag_ushr (((((x0 - ((ag_ushr x0 1) &&& 1431655765)) &&& 858993459) + ((ag_ushr (x0 - ((ag_ushr x0 1) &&& 1431655765)) 2) &&& 858993459)) + (ag_ushr (((x0 - ((ag_ushr x0 1) &&& 1431655765)) &&& 858993459) + ((ag_ushr (x0 - ((ag_ushr x0 1) &&& 1431655765)) 2) &&& 858993459)) 4)) &&& 252645135) 8)) + (ag_ushr ((((((x0 - ((ag_ushr x0 1) &&& 1431655765)) &&& 858993459) + ((ag_ushr (x0 - ((ag_ushr x0 1) &&& 1431655765)) 2) &&& 858993459)) + (ag_ushr (((x0 - ((ag_ushr x0 1) &&& 1431655765)) &&& 858993459) + ((ag_ushr (x0 - ((ag_ushr x0 1) &&& 1431655765)) 2) &&& 858993459)) 4)) &&& 252645135) + (ag_ushr (((((x0 - ((ag_ushr x0 1) &&& 1431655765)) &&& 858993459) + ((ag_ushr (x0 - ((ag_ushr x0 1) &&& 1431655765)) 2) &&& 858993459)) + (ag_ushr (((x0 - ((ag_ushr x0 1) &&& 1431655765)) &&& 858993459) + ((ag_ushr (x0 - ((ag_ushr x0 1) &&& 1431655765)) 2) &&& 858993459)) 4)) &&& 252645135) 8)) 16)))]) dJ6_bitCount_0f7a4_47 rfl (Nat.le_of_ble_eq_true rfl) rfl ?_
  refine ev_iload_n (pc := 48) (i := 0) 0 dJ6_bitCount_0f7a4_48 rfl rfl ?_
  refine ev_bipush (pc := 49) (v := 63) dJ6_bitCount_0f7a4_49 (by decide) ?_
  refine ev_iand (pc := 51) dJ6_bitCount_0f7a4_51 ?_
  exact ev_irI rfl dJ6_bitCount_0f7a4_52
-- X1_ownWords
def mX1_ownWords : Md := (RX1, cX1_ownWords, 3, some .int, none)
theorem mv_X1_ownWords : ag_Mv yX1_ownWords mX1_ownWords 0 := ⟨ag_co_X1_ownWords, ag_im_X1_ownWords, ag_se_X1_ownWords, ag_ini_X1, by decide +kernel⟩
theorem dX1_ownWords_0 : decode mX1_ownWords.2.1 0 = .ok (.iconst 0, 1) := by decide +kernel
theorem dX1_ownWords_1 : decode mX1_ownWords.2.1 1 = .ok (.istore_n 1, 1) := by decide +kernel
theorem dX1_ownWords_2 : decode mX1_ownWords.2.1 2 = .ok (.iconst 0, 1) := by decide +kernel
theorem dX1_ownWords_3 : decode mX1_ownWords.2.1 3 = .ok (.istore_n 2, 1) := by decide +kernel
theorem dX1_ownWords_4 : decode mX1_ownWords.2.1 4 = .ok (.iload_n 2, 1) := by decide +kernel
theorem dX1_ownWords_5 : decode mX1_ownWords.2.1 5 = .ok (.aload_n 0, 1) := by decide +kernel
theorem dX1_ownWords_6 : decode mX1_ownWords.2.1 6 = .ok (.getfield 9, 3) := by decide +kernel
theorem dX1_ownWords_9 : decode mX1_ownWords.2.1 9 = .ok (.if_icmp .ge 21, 3) := by decide +kernel
theorem dX1_ownWords_12 : decode mX1_ownWords.2.1 12 = .ok (.iload_n 1, 1) := by decide +kernel
theorem dX1_ownWords_13 : decode mX1_ownWords.2.1 13 = .ok (.aload_n 0, 1) := by decide +kernel
theorem dX1_ownWords_14 : decode mX1_ownWords.2.1 14 = .ok (.getfield 28, 3) := by decide +kernel
theorem dX1_ownWords_17 : decode mX1_ownWords.2.1 17 = .ok (.iload_n 2, 1) := by decide +kernel
theorem dX1_ownWords_18 : decode mX1_ownWords.2.1 18 = .ok (.iaload, 1) := by decide +kernel
theorem dX1_ownWords_19 : decode mX1_ownWords.2.1 19 = .ok (.invokestatic 31, 3) := by decide +kernel
theorem dX1_ownWords_22 : decode mX1_ownWords.2.1 22 = .ok (.iadd, 1) := by decide +kernel
theorem dX1_ownWords_23 : decode mX1_ownWords.2.1 23 = .ok (.istore_n 1, 1) := by decide +kernel
theorem dX1_ownWords_24 : decode mX1_ownWords.2.1 24 = .ok (.iinc 2 1, 3) := by decide +kernel
theorem dX1_ownWords_27 : decode mX1_ownWords.2.1 27 = .ok (.goto (-23), 3) := by decide +kernel
theorem dX1_ownWords_30 : decode mX1_ownWords.2.1 30 = .ok (.iload_n 1, 1) := by decide +kernel
theorem dX1_ownWords_31 : decode mX1_ownWords.2.1 31 = .ok (.ireturn, 1) := by decide +kernel
def fn_X1_ownWords_b4 (n : Nat) (b : Nat) (σ : Sg)  : Nat → Int32 → Int32 → Option Int32
  | 0 => fun _ _ => none
  | i + 1 => fun v1 v2 =>
  (if (σ b 0) ≤ v2 then (some v1)
  else (if ag_ib v2 10 = true then (Option.bind (fn_J6_bitCount_0f7a4 (σ (b + 5) v2.toNatClampNeg) σ) fun q3 =>
  ((fn_X1_ownWords_b4 n b σ i) (v1 + q3) (v2 + 1))) else none))
theorem fn_X1_ownWords_b4_s (n : Nat) (b : Nat) (σ : Sg)  (i : Nat) (v1 : Int32) (v2 : Int32) : fn_X1_ownWords_b4 n b σ (i + 1) v1 v2 =
  (if (σ b 0) ≤ v2 then (some v1)
  else (if ag_ib v2 10 = true then (Option.bind (fn_J6_bitCount_0f7a4 (σ (b + 5) v2.toNatClampNeg) σ) fun q3 =>
  ((fn_X1_ownWords_b4 n b σ i) (v1 + q3) (v2 + 1))) else none)) := rfl
set_option maxRecDepth 20000 in
set_option maxHeartbeats 4000000 in
theorem ev_X1_ownWords_b4 (n : Nat) (b : Nat) (hb : ag_F b) (σ : Sg)  : ∀ (i : Nat) (v1 : Int32) (v2 : Int32), Ev mX1_ownWords 1 20 (jI σ) 4 [(0, .ref b), (1, .int v1), (2, .int v2)] [] σ (fn_X1_ownWords_b4 n b σ i v1 v2) := by
  intro i
  induction i with
  | zero =>
    intro v1 v2
    exact ev_none
  | succ i ih =>
    intro v1 v2
    rw [fn_X1_ownWords_b4_s]
    refine ev_iload_n (pc := 4) (i := 2) 2 dX1_ownWords_4 rfl rfl ?_
    refine ev_aload_n (pc := 5) (i := 0) 0 dX1_ownWords_5 rfl rfl ?_
    refine ev_getI (pc := 6) 0 ag_C1 (ag_Fk hb).1 (ag_Fk hb).2 (Nat.le_of_ble_eq_true rfl) (ag_Ft0 hb) rfl ag_fl_X1_9 dX1_ownWords_6 ?_
    refine ev_icmp_ge (pc := 9) (tgt := 30) dX1_ownWords_9 rfl ?_ ?_
    · refine ev_iload_n (pc := 30) (i := 1) 1 dX1_ownWords_30 rfl rfl ?_
      exact ev_irI rfl dX1_ownWords_31
    · refine ev_iload_n (pc := 12) (i := 1) 1 dX1_ownWords_12 rfl rfl ?_
      refine ev_aload_n (pc := 13) (i := 0) 0 dX1_ownWords_13 rfl rfl ?_
      refine ev_getR (pc := 14) (t := (b + 5)) 5 ag_C1 (ag_Fk hb).1 (ag_Fk hb).2 (Nat.le_of_ble_eq_true rfl) (ag_Ft5 hb) rfl ag_fl_X1_28 dX1_ownWords_14 ?_
      refine ev_iload_n (pc := 17) (i := 2) 2 dX1_ownWords_17 rfl rfl ?_
      refine ev_iald (pc := 18) (ag_Fa5 hb).1 (ag_Fa5 hb).2 dX1_ownWords_18 ?_
      refine ev_sI (pc := 19) (as := [.int (σ (b + 5) v2.toNatClampNeg)]) (rest := [.int v1]) ⟨31, ms_J6_bitCount_0f7a4, ag_ml_X1_31, rfl, (Nat.le_of_ble_eq_true rfl), ⟨(Nat.le_of_ble_eq_true rfl), (Nat.le_of_ble_eq_true rfl)⟩, dX1_ownWords_19⟩ (im_J6_bitCount_0f7a4 (σ (b + 5) v2.toNatClampNeg) σ) (fun q3 => ?_)
      refine ev_iadd (pc := 22) dX1_ownWords_22 ?_
      refine ev_istore_n (pc := 23) (i := 1) (lv' := [(1, .int (v1 + q3)), (0, .ref b), (2, .int v2)]) dX1_ownWords_23 rfl (Nat.le_of_ble_eq_true rfl) rfl ?_
      refine ev_iinc (pc := 24) (v := (v2 + 1)) (lv' := [(2, .int (v2 + 1)), (1, .int (v1 + q3)), (0, .ref b)]) 2 dX1_ownWords_24 rfl rfl (Nat.le_of_ble_eq_true rfl) rfl ?_
      refine ev_goto (pc := 27) (tgt := 4) dX1_ownWords_27 rfl ?_
      refine ev_sub [2, 1, 0] rfl ?_
      exact ih (v1 + q3) (v2 + 1)
def fn_X1_ownWords (n : Nat) (b : Nat) (σ : Sg) : Option Int32 :=
  (fn_X1_ownWords_b4 n b σ n 0 0)
set_option maxRecDepth 20000 in
set_option maxHeartbeats 4000000 in
theorem im_X1_ownWords (n : Nat) (b : Nat) (hb : ag_F b) (σ : Sg) : Im yX1_ownWords mX1_ownWords 1 20 (jI σ) [.ref b] σ (fn_X1_ownWords n b σ) := by
  refine Im.of (by decide +kernel) rfl rfl (Nat.le_of_ble_eq_true rfl) ?_
  show Ev mX1_ownWords 1 20 (jI σ) 0 [(0, .ref b)] [] σ (fn_X1_ownWords n b σ)
  unfold fn_X1_ownWords
  refine ev_iconst (pc := 0) (v := 0) dX1_ownWords_0 (by decide) ?_
  refine ev_istore_n (pc := 1) (i := 1) (lv' := [(1, .int 0), (0, .ref b)]) dX1_ownWords_1 rfl (Nat.le_of_ble_eq_true rfl) rfl ?_
  refine ev_iconst (pc := 2) (v := 0) dX1_ownWords_2 (by decide) ?_
  refine ev_istore_n (pc := 3) (i := 2) (lv' := [(2, .int 0), (1, .int 0), (0, .ref b)]) dX1_ownWords_3 rfl (Nat.le_of_ble_eq_true rfl) rfl ?_
  refine ev_sub [2, 1, 0] rfl ?_
  exact ev_X1_ownWords_b4 n b hb σ n 0 0
-- X1_shorten
def mX1_shorten : Md := (RX1, cX1_shorten, 5, none, none)
theorem mv_X1_shorten : ag_Mv yX1_shorten mX1_shorten 2 := ⟨ag_co_X1_shorten, ag_im_X1_shorten, ag_se_X1_shorten, ag_ini_X1, by decide +kernel⟩
theorem dX1_shorten_0 : decode mX1_shorten.2.1 0 = .ok (.iconst 0, 1) := by decide +kernel
theorem dX1_shorten_1 : decode mX1_shorten.2.1 1 = .ok (.istore_n 3, 1) := by decide +kernel
theorem dX1_shorten_2 : decode mX1_shorten.2.1 2 = .ok (.iload_n 3, 1) := by decide +kernel
theorem dX1_shorten_3 : decode mX1_shorten.2.1 3 = .ok (.aload_n 0, 1) := by decide +kernel
theorem dX1_shorten_4 : decode mX1_shorten.2.1 4 = .ok (.getfield 9, 3) := by decide +kernel
theorem dX1_shorten_7 : decode mX1_shorten.2.1 7 = .ok (.if_icmp .ge 58, 3) := by decide +kernel
theorem dX1_shorten_10 : decode mX1_shorten.2.1 10 = .ok (.iload_n 2, 1) := by decide +kernel
theorem dX1_shorten_11 : decode mX1_shorten.2.1 11 = .ok (.iload_n 3, 1) := by decide +kernel
theorem dX1_shorten_12 : decode mX1_shorten.2.1 12 = .ok (.ishr, 1) := by decide +kernel
theorem dX1_shorten_13 : decode mX1_shorten.2.1 13 = .ok (.iconst 1, 1) := by decide +kernel
theorem dX1_shorten_14 : decode mX1_shorten.2.1 14 = .ok (.iand, 1) := by decide +kernel
theorem dX1_shorten_15 : decode mX1_shorten.2.1 15 = .ok (.iconst 1, 1) := by decide +kernel
theorem dX1_shorten_16 : decode mX1_shorten.2.1 16 = .ok (.if_icmp .ne 7, 3) := by decide +kernel
theorem dX1_shorten_19 : decode mX1_shorten.2.1 19 = .ok (.iconst 1, 1) := by decide +kernel
theorem dX1_shorten_20 : decode mX1_shorten.2.1 20 = .ok (.goto 4, 3) := by decide +kernel
theorem dX1_shorten_23 : decode mX1_shorten.2.1 23 = .ok (.iconst 0, 1) := by decide +kernel
theorem dX1_shorten_24 : decode mX1_shorten.2.1 24 = .ok (.istore 4, 2) := by decide +kernel
theorem dX1_shorten_26 : decode mX1_shorten.2.1 26 = .ok (.aload_n 0, 1) := by decide +kernel
theorem dX1_shorten_27 : decode mX1_shorten.2.1 27 = .ok (.getfield 19, 3) := by decide +kernel
theorem dX1_shorten_30 : decode mX1_shorten.2.1 30 = .ok (.iload_n 3, 1) := by decide +kernel
theorem dX1_shorten_31 : decode mX1_shorten.2.1 31 = .ok (.iload 4, 2) := by decide +kernel
theorem dX1_shorten_33 : decode mX1_shorten.2.1 33 = .ok (.ifCond .eq 19, 3) := by decide +kernel
theorem dX1_shorten_36 : decode mX1_shorten.2.1 36 = .ok (.iconst 1, 1) := by decide +kernel
theorem dX1_shorten_37 : decode mX1_shorten.2.1 37 = .ok (.aload_n 1, 1) := by decide +kernel
theorem dX1_shorten_38 : decode mX1_shorten.2.1 38 = .ok (.getfield 19, 3) := by decide +kernel
theorem dX1_shorten_41 : decode mX1_shorten.2.1 41 = .ok (.iload_n 3, 1) := by decide +kernel
theorem dX1_shorten_42 : decode mX1_shorten.2.1 42 = .ok (.iaload, 1) := by decide +kernel
theorem dX1_shorten_43 : decode mX1_shorten.2.1 43 = .ok (.bipush 10, 2) := by decide +kernel
theorem dX1_shorten_45 : decode mX1_shorten.2.1 45 = .ok (.isub, 1) := by decide +kernel
theorem dX1_shorten_46 : decode mX1_shorten.2.1 46 = .ok (.invokestatic 37, 3) := by decide +kernel
theorem dX1_shorten_49 : decode mX1_shorten.2.1 49 = .ok (.goto 9, 3) := by decide +kernel
theorem dX1_shorten_52 : decode mX1_shorten.2.1 52 = .ok (.aload_n 1, 1) := by decide +kernel
theorem dX1_shorten_53 : decode mX1_shorten.2.1 53 = .ok (.getfield 19, 3) := by decide +kernel
theorem dX1_shorten_56 : decode mX1_shorten.2.1 56 = .ok (.iload_n 3, 1) := by decide +kernel
theorem dX1_shorten_57 : decode mX1_shorten.2.1 57 = .ok (.iaload, 1) := by decide +kernel
theorem dX1_shorten_58 : decode mX1_shorten.2.1 58 = .ok (.iastore, 1) := by decide +kernel
theorem dX1_shorten_59 : decode mX1_shorten.2.1 59 = .ok (.iinc 3 1, 3) := by decide +kernel
theorem dX1_shorten_62 : decode mX1_shorten.2.1 62 = .ok (.goto (-60), 3) := by decide +kernel
theorem dX1_shorten_65 : decode mX1_shorten.2.1 65 = .ok (.return_, 1) := by decide +kernel
def fn_X1_shorten_b58 (n : Nat) (b : Nat) (b1 : Nat) (x2 : Int32) (k2 : Int32 → Sg → Option Sg) (v3 : Int32) (s1 : Int32) (s2 : Int32) (σ : Sg) : Option Sg :=
  (if ag_ib s1 10 = true then (k2 (v3 + 1) (ag_up σ (b + 2) s1.toNatClampNeg s2)) else none)
set_option maxRecDepth 20000 in
set_option maxHeartbeats 4000000 in
theorem ev_X1_shorten_b58 (n : Nat) (b : Nat) (hb : ag_F b) (b1 : Nat) (hb1 : ag_F b1) (x2 : Int32) (k2 : Int32 → Sg → Option Sg) (hk2 : ∀ (v3 : Int32) (σ : Sg), Ev mX1_shorten 1 21 jV 2 [(0, .ref b), (1, .ref b1), (2, .int x2), (3, .int v3)] [] σ (k2 v3 σ)) (v3 : Int32) (s1 : Int32) (s2 : Int32) (σ : Sg) : Ev mX1_shorten 1 21 jV 58 [(0, .ref b), (1, .ref b1), (2, .int x2), (3, .int v3)] [.int s2, .int s1, .ref (b + 2)] σ (fn_X1_shorten_b58 n b b1 x2 k2 v3 s1 s2 σ) := by
  unfold fn_X1_shorten_b58
  refine ev_iast (pc := 58) (ag_Fa2 hb).1 (ag_Fa2 hb).2 dX1_shorten_58 ?_
  refine ev_iinc (pc := 59) (v := (v3 + 1)) (lv' := [(3, .int (v3 + 1)), (0, .ref b), (1, .ref b1), (2, .int x2)]) 3 dX1_shorten_59 rfl rfl (Nat.le_of_ble_eq_true rfl) rfl ?_
  refine ev_goto (pc := 62) (tgt := 2) dX1_shorten_62 rfl ?_
  refine ev_sub [1, 2, 3, 0] rfl ?_
  exact hk2 (v3 + 1) (ag_up σ (b + 2) s1.toNatClampNeg s2)
def fn_X1_shorten_b24 (n : Nat) (b : Nat) (b1 : Nat) (x2 : Int32) (k2 : Int32 → Sg → Option Sg) (v3 : Int32) (s0 : Int32) (σ : Sg) : Option Sg :=
  (if s0 = 0 then (if ag_ib v3 10 = true then (fn_X1_shorten_b58 n b b1 x2 k2 v3 v3 (σ (b1 + 2) v3.toNatClampNeg) σ) else none)
  else (if ag_ib v3 10 = true then (fn_X1_shorten_b58 n b b1 x2 k2 v3 v3 (ag_max 1 ((σ (b1 + 2) v3.toNatClampNeg) - 10)) σ) else none))
set_option maxRecDepth 20000 in
set_option maxHeartbeats 4000000 in
theorem ev_X1_shorten_b24 (n : Nat) (b : Nat) (hb : ag_F b) (b1 : Nat) (hb1 : ag_F b1) (x2 : Int32) (k2 : Int32 → Sg → Option Sg) (hk2 : ∀ (v3 : Int32) (σ : Sg), Ev mX1_shorten 1 21 jV 2 [(0, .ref b), (1, .ref b1), (2, .int x2), (3, .int v3)] [] σ (k2 v3 σ)) (v3 : Int32) (s0 : Int32) (σ : Sg) : Ev mX1_shorten 1 21 jV 24 [(0, .ref b), (1, .ref b1), (2, .int x2), (3, .int v3)] [.int s0] σ (fn_X1_shorten_b24 n b b1 x2 k2 v3 s0 σ) := by
  unfold fn_X1_shorten_b24
  refine ev_istore (pc := 24) (lv' := [(4, .int s0), (0, .ref b), (1, .ref b1), (2, .int x2), (3, .int v3)]) dX1_shorten_24 (Nat.le_of_ble_eq_true rfl) rfl ?_
  refine ev_aload_n (pc := 26) (i := 0) 1 dX1_shorten_26 rfl rfl ?_
  refine ev_getR (pc := 27) (t := (b + 2)) 2 ag_C1 (ag_Fk hb).1 (ag_Fk hb).2 (Nat.le_of_ble_eq_true rfl) (ag_Ft2 hb) rfl ag_fl_X1_19 dX1_shorten_27 ?_
  refine ev_iload_n (pc := 30) (i := 3) 4 dX1_shorten_30 rfl rfl ?_
  refine ev_iload (pc := 31) 0 dX1_shorten_31 rfl ?_
  refine ev_if_eq (pc := 33) (tgt := 52) dX1_shorten_33 rfl ?_ ?_
  · refine ev_aload_n (pc := 52) (i := 1) 2 dX1_shorten_52 rfl rfl ?_
    refine ev_getR (pc := 53) (t := (b1 + 2)) 2 ag_C1 (ag_Fk hb1).1 (ag_Fk hb1).2 (Nat.le_of_ble_eq_true rfl) (ag_Ft2 hb1) rfl ag_fl_X1_19 dX1_shorten_53 ?_
    refine ev_iload_n (pc := 56) (i := 3) 4 dX1_shorten_56 rfl rfl ?_
    refine ev_iald (pc := 57) (ag_Fa2 hb1).1 (ag_Fa2 hb1).2 dX1_shorten_57 ?_
    refine ev_sub [1, 2, 3, 4] rfl ?_
    exact ev_X1_shorten_b58 n b hb b1 hb1 x2 k2 hk2 v3 v3 (σ (b1 + 2) v3.toNatClampNeg) σ
  · refine ev_iconst (pc := 36) (v := 1) dX1_shorten_36 (by decide) ?_
    refine ev_aload_n (pc := 37) (i := 1) 2 dX1_shorten_37 rfl rfl ?_
    refine ev_getR (pc := 38) (t := (b1 + 2)) 2 ag_C1 (ag_Fk hb1).1 (ag_Fk hb1).2 (Nat.le_of_ble_eq_true rfl) (ag_Ft2 hb1) rfl ag_fl_X1_19 dX1_shorten_38 ?_
    refine ev_iload_n (pc := 41) (i := 3) 4 dX1_shorten_41 rfl rfl ?_
    refine ev_iald (pc := 42) (ag_Fa2 hb1).1 (ag_Fa2 hb1).2 dX1_shorten_42 ?_
    refine ev_bipush (pc := 43) (v := 10) dX1_shorten_43 (by decide) ?_
    refine ev_isub (pc := 45) dX1_shorten_45 ?_
    refine ev_mmax (pc := 46) ag_ml_X1_37 ⟨(Nat.le_of_ble_eq_true rfl), (Nat.le_of_ble_eq_true rfl)⟩ dX1_shorten_46 ?_
    refine ev_goto (pc := 49) (tgt := 58) dX1_shorten_49 rfl ?_
    refine ev_sub [1, 2, 3, 4] rfl ?_
    exact ev_X1_shorten_b58 n b hb b1 hb1 x2 k2 hk2 v3 v3 (ag_max 1 ((σ (b1 + 2) v3.toNatClampNeg) - 10)) σ
def fn_X1_shorten_b2 (n : Nat) (b : Nat) (b1 : Nat) (x2 : Int32)  : Nat → Int32 → Sg → Option Sg
  | 0 => fun _ _ => none
  | i + 1 => fun v3 σ =>
  (if (σ b 0) ≤ v3 then (some σ)
  else (if ((x2 >>> (v3 &&& 31)) &&& 1) = 1 then (fn_X1_shorten_b24 n b b1 x2 (fn_X1_shorten_b2 n b b1 x2 i) v3 1 σ)
  else (fn_X1_shorten_b24 n b b1 x2 (fn_X1_shorten_b2 n b b1 x2 i) v3 0 σ)))
theorem fn_X1_shorten_b2_s (n : Nat) (b : Nat) (b1 : Nat) (x2 : Int32)  (i : Nat) (v3 : Int32) (σ : Sg) : fn_X1_shorten_b2 n b b1 x2 (i + 1) v3 σ =
  (if (σ b 0) ≤ v3 then (some σ)
  else (if ((x2 >>> (v3 &&& 31)) &&& 1) = 1 then (fn_X1_shorten_b24 n b b1 x2 (fn_X1_shorten_b2 n b b1 x2 i) v3 1 σ)
  else (fn_X1_shorten_b24 n b b1 x2 (fn_X1_shorten_b2 n b b1 x2 i) v3 0 σ))) := rfl
set_option maxRecDepth 20000 in
set_option maxHeartbeats 4000000 in
theorem ev_X1_shorten_b2 (n : Nat) (b : Nat) (hb : ag_F b) (b1 : Nat) (hb1 : ag_F b1) (x2 : Int32)  : ∀ (i : Nat) (v3 : Int32) (σ : Sg), Ev mX1_shorten 1 21 jV 2 [(0, .ref b), (1, .ref b1), (2, .int x2), (3, .int v3)] [] σ (fn_X1_shorten_b2 n b b1 x2 i v3 σ) := by
  intro i
  induction i with
  | zero =>
    intro v3 σ
    exact ev_none
  | succ i ih =>
    intro v3 σ
    rw [fn_X1_shorten_b2_s]
    refine ev_iload_n (pc := 2) (i := 3) 3 dX1_shorten_2 rfl rfl ?_
    refine ev_aload_n (pc := 3) (i := 0) 0 dX1_shorten_3 rfl rfl ?_
    refine ev_getI (pc := 4) 0 ag_C1 (ag_Fk hb).1 (ag_Fk hb).2 (Nat.le_of_ble_eq_true rfl) (ag_Ft0 hb) rfl ag_fl_X1_9 dX1_shorten_4 ?_
    refine ev_icmp_ge (pc := 7) (tgt := 65) dX1_shorten_7 rfl ?_ ?_
    · exact ev_rV rfl dX1_shorten_65
    · refine ev_iload_n (pc := 10) (i := 2) 2 dX1_shorten_10 rfl rfl ?_
      refine ev_iload_n (pc := 11) (i := 3) 3 dX1_shorten_11 rfl rfl ?_
      refine ev_ishr (pc := 12) dX1_shorten_12 ?_
      refine ev_iconst (pc := 13) (v := 1) dX1_shorten_13 (by decide) ?_
      refine ev_iand (pc := 14) dX1_shorten_14 ?_
      refine ev_iconst (pc := 15) (v := 1) dX1_shorten_15 (by decide) ?_
      refine ev_icmp_ne (pc := 16) (tgt := 23) dX1_shorten_16 rfl ?_ ?_
      · refine ev_iconst (pc := 19) (v := 1) dX1_shorten_19 (by decide) ?_
        refine ev_goto (pc := 20) (tgt := 24) dX1_shorten_20 rfl ?_
        exact ev_X1_shorten_b24 n b hb b1 hb1 x2 (fn_X1_shorten_b2 n b b1 x2 i) ih v3 1 σ
      · refine ev_iconst (pc := 23) (v := 0) dX1_shorten_23 (by decide) ?_
        exact ev_X1_shorten_b24 n b hb b1 hb1 x2 (fn_X1_shorten_b2 n b b1 x2 i) ih v3 0 σ
def fn_X1_shorten (n : Nat) (b : Nat) (b1 : Nat) (x2 : Int32) (σ : Sg) : Option Sg :=
  (fn_X1_shorten_b2 n b b1 x2 n 0 σ)
set_option maxRecDepth 20000 in
set_option maxHeartbeats 4000000 in
theorem im_X1_shorten (n : Nat) (b : Nat) (hb : ag_F b) (b1 : Nat) (hb1 : ag_F b1) (x2 : Int32) (σ : Sg) : Im yX1_shorten mX1_shorten 1 21 jV [.ref b, .ref b1, .int x2] σ (fn_X1_shorten n b b1 x2 σ) := by
  refine Im.of (by decide +kernel) rfl rfl (Nat.le_of_ble_eq_true rfl) ?_
  show Ev mX1_shorten 1 21 jV 0 [(0, .ref b), (1, .ref b1), (2, .int x2)] [] σ (fn_X1_shorten n b b1 x2 σ)
  unfold fn_X1_shorten
  refine ev_iconst (pc := 0) (v := 0) dX1_shorten_0 (by decide) ?_
  refine ev_istore_n (pc := 1) (i := 3) (lv' := [(3, .int 0), (0, .ref b), (1, .ref b1), (2, .int x2)]) dX1_shorten_1 rfl (Nat.le_of_ble_eq_true rfl) rfl ?_
  refine ev_sub [1, 2, 3, 0] rfl ?_
  exact ev_X1_shorten_b2 n b hb b1 hb1 x2 n 0 σ
-- X1_takeFrom
def mX1_takeFrom : Md := (RX1, cX1_takeFrom, 2, none, none)
theorem mv_X1_takeFrom : ag_Mv yX1_takeFrom mX1_takeFrom 1 := ⟨ag_co_X1_takeFrom, ag_im_X1_takeFrom, ag_se_X1_takeFrom, ag_ini_X1, by decide +kernel⟩
theorem dX1_takeFrom_0 : decode mX1_takeFrom.2.1 0 = .ok (.aload_n 0, 1) := by decide +kernel
theorem dX1_takeFrom_1 : decode mX1_takeFrom.2.1 1 = .ok (.aload_n 1, 1) := by decide +kernel
theorem dX1_takeFrom_2 : decode mX1_takeFrom.2.1 2 = .ok (.getfield 9, 3) := by decide +kernel
theorem dX1_takeFrom_5 : decode mX1_takeFrom.2.1 5 = .ok (.putfield 9, 3) := by decide +kernel
theorem dX1_takeFrom_8 : decode mX1_takeFrom.2.1 8 = .ok (.aload_n 1, 1) := by decide +kernel
theorem dX1_takeFrom_9 : decode mX1_takeFrom.2.1 9 = .ok (.getfield 15, 3) := by decide +kernel
theorem dX1_takeFrom_12 : decode mX1_takeFrom.2.1 12 = .ok (.iconst 0, 1) := by decide +kernel
theorem dX1_takeFrom_13 : decode mX1_takeFrom.2.1 13 = .ok (.aload_n 0, 1) := by decide +kernel
theorem dX1_takeFrom_14 : decode mX1_takeFrom.2.1 14 = .ok (.getfield 15, 3) := by decide +kernel
theorem dX1_takeFrom_17 : decode mX1_takeFrom.2.1 17 = .ok (.iconst 0, 1) := by decide +kernel
theorem dX1_takeFrom_18 : decode mX1_takeFrom.2.1 18 = .ok (.bipush 10, 2) := by decide +kernel
theorem dX1_takeFrom_20 : decode mX1_takeFrom.2.1 20 = .ok (.invokestatic 43, 3) := by decide +kernel
theorem dX1_takeFrom_23 : decode mX1_takeFrom.2.1 23 = .ok (.aload_n 1, 1) := by decide +kernel
theorem dX1_takeFrom_24 : decode mX1_takeFrom.2.1 24 = .ok (.getfield 19, 3) := by decide +kernel
theorem dX1_takeFrom_27 : decode mX1_takeFrom.2.1 27 = .ok (.iconst 0, 1) := by decide +kernel
theorem dX1_takeFrom_28 : decode mX1_takeFrom.2.1 28 = .ok (.aload_n 0, 1) := by decide +kernel
theorem dX1_takeFrom_29 : decode mX1_takeFrom.2.1 29 = .ok (.getfield 19, 3) := by decide +kernel
theorem dX1_takeFrom_32 : decode mX1_takeFrom.2.1 32 = .ok (.iconst 0, 1) := by decide +kernel
theorem dX1_takeFrom_33 : decode mX1_takeFrom.2.1 33 = .ok (.bipush 10, 2) := by decide +kernel
theorem dX1_takeFrom_35 : decode mX1_takeFrom.2.1 35 = .ok (.invokestatic 43, 3) := by decide +kernel
theorem dX1_takeFrom_38 : decode mX1_takeFrom.2.1 38 = .ok (.aload_n 1, 1) := by decide +kernel
theorem dX1_takeFrom_39 : decode mX1_takeFrom.2.1 39 = .ok (.getfield 22, 3) := by decide +kernel
theorem dX1_takeFrom_42 : decode mX1_takeFrom.2.1 42 = .ok (.iconst 0, 1) := by decide +kernel
theorem dX1_takeFrom_43 : decode mX1_takeFrom.2.1 43 = .ok (.aload_n 0, 1) := by decide +kernel
theorem dX1_takeFrom_44 : decode mX1_takeFrom.2.1 44 = .ok (.getfield 22, 3) := by decide +kernel
theorem dX1_takeFrom_47 : decode mX1_takeFrom.2.1 47 = .ok (.iconst 0, 1) := by decide +kernel
theorem dX1_takeFrom_48 : decode mX1_takeFrom.2.1 48 = .ok (.bipush 10, 2) := by decide +kernel
theorem dX1_takeFrom_50 : decode mX1_takeFrom.2.1 50 = .ok (.invokestatic 43, 3) := by decide +kernel
theorem dX1_takeFrom_53 : decode mX1_takeFrom.2.1 53 = .ok (.aload_n 1, 1) := by decide +kernel
theorem dX1_takeFrom_54 : decode mX1_takeFrom.2.1 54 = .ok (.getfield 25, 3) := by decide +kernel
theorem dX1_takeFrom_57 : decode mX1_takeFrom.2.1 57 = .ok (.iconst 0, 1) := by decide +kernel
theorem dX1_takeFrom_58 : decode mX1_takeFrom.2.1 58 = .ok (.aload_n 0, 1) := by decide +kernel
theorem dX1_takeFrom_59 : decode mX1_takeFrom.2.1 59 = .ok (.getfield 25, 3) := by decide +kernel
theorem dX1_takeFrom_62 : decode mX1_takeFrom.2.1 62 = .ok (.iconst 0, 1) := by decide +kernel
theorem dX1_takeFrom_63 : decode mX1_takeFrom.2.1 63 = .ok (.bipush 10, 2) := by decide +kernel
theorem dX1_takeFrom_65 : decode mX1_takeFrom.2.1 65 = .ok (.invokestatic 43, 3) := by decide +kernel
theorem dX1_takeFrom_68 : decode mX1_takeFrom.2.1 68 = .ok (.aload_n 1, 1) := by decide +kernel
theorem dX1_takeFrom_69 : decode mX1_takeFrom.2.1 69 = .ok (.getfield 28, 3) := by decide +kernel
theorem dX1_takeFrom_72 : decode mX1_takeFrom.2.1 72 = .ok (.iconst 0, 1) := by decide +kernel
theorem dX1_takeFrom_73 : decode mX1_takeFrom.2.1 73 = .ok (.aload_n 0, 1) := by decide +kernel
theorem dX1_takeFrom_74 : decode mX1_takeFrom.2.1 74 = .ok (.getfield 28, 3) := by decide +kernel
theorem dX1_takeFrom_77 : decode mX1_takeFrom.2.1 77 = .ok (.iconst 0, 1) := by decide +kernel
theorem dX1_takeFrom_78 : decode mX1_takeFrom.2.1 78 = .ok (.bipush 10, 2) := by decide +kernel
theorem dX1_takeFrom_80 : decode mX1_takeFrom.2.1 80 = .ok (.invokestatic 43, 3) := by decide +kernel
theorem dX1_takeFrom_83 : decode mX1_takeFrom.2.1 83 = .ok (.return_, 1) := by decide +kernel
def fn_X1_takeFrom (b : Nat) (b1 : Nat) (σ : Sg) : Option Sg :=
  (if ag_cpok 0 0 10 10 10 = true then (ag_sg (ag_ar (ag_up σ b 0 (σ b1 0)) (b + 1) (va_cpy ((ag_up σ b 0 (σ b1 0)) (b1 + 1)) ((ag_up σ b 0 (σ b1 0)) (b + 1)) (0 : Int32).toNatClampNeg (0 : Int32).toNatClampNeg (10 : Int32).toNatClampNeg)) fun t4 =>
  (if ag_cpok 0 0 10 10 10 = true then (ag_sg (ag_ar t4 (b + 2) (va_cpy (t4 (b1 + 2)) (t4 (b + 2)) (0 : Int32).toNatClampNeg (0 : Int32).toNatClampNeg (10 : Int32).toNatClampNeg)) fun t5 =>
  (if ag_cpok 0 0 10 10 10 = true then (ag_sg (ag_ar t5 (b + 3) (va_cpy (t5 (b1 + 3)) (t5 (b + 3)) (0 : Int32).toNatClampNeg (0 : Int32).toNatClampNeg (10 : Int32).toNatClampNeg)) fun t6 =>
  (if ag_cpok 0 0 10 10 10 = true then (ag_sg (ag_ar t6 (b + 4) (va_cpy (t6 (b1 + 4)) (t6 (b + 4)) (0 : Int32).toNatClampNeg (0 : Int32).toNatClampNeg (10 : Int32).toNatClampNeg)) fun t7 =>
  (if ag_cpok 0 0 10 10 10 = true then (ag_sg (ag_ar t7 (b + 5) (va_cpy (t7 (b1 + 5)) (t7 (b + 5)) (0 : Int32).toNatClampNeg (0 : Int32).toNatClampNeg (10 : Int32).toNatClampNeg)) fun t8 =>
  (some t8)) else none)) else none)) else none)) else none)) else none)
set_option maxRecDepth 20000 in
set_option maxHeartbeats 4000000 in
theorem im_X1_takeFrom (b : Nat) (hb : ag_F b) (b1 : Nat) (hb1 : ag_F b1) (σ : Sg) : Im yX1_takeFrom mX1_takeFrom 1 60 jV [.ref b, .ref b1] σ (fn_X1_takeFrom b b1 σ) := by
  refine Im.of (by decide +kernel) rfl rfl (Nat.le_of_ble_eq_true rfl) ?_
  show Ev mX1_takeFrom 1 60 jV 0 [(0, .ref b), (1, .ref b1)] [] σ (fn_X1_takeFrom b b1 σ)
  unfold fn_X1_takeFrom
  refine ev_aload_n (pc := 0) (i := 0) 0 dX1_takeFrom_0 rfl rfl ?_
  refine ev_aload_n (pc := 1) (i := 1) 1 dX1_takeFrom_1 rfl rfl ?_
  refine ev_getI (pc := 2) 0 ag_C1 (ag_Fk hb1).1 (ag_Fk hb1).2 (Nat.le_of_ble_eq_true rfl) (ag_Ft0 hb1) rfl ag_fl_X1_9 dX1_takeFrom_2 ?_
  refine ev_put (pc := 5) 0 ag_C1 (ag_Fk hb).1 (ag_Fk hb).2 (Nat.le_of_ble_eq_true rfl) (ag_Ft0 hb) rfl ag_fl_X1_9 rfl rfl rfl dX1_takeFrom_5 ?_
  refine ev_aload_n (pc := 8) (i := 1) 1 dX1_takeFrom_8 rfl rfl ?_
  refine ev_getR (pc := 9) (t := (b1 + 1)) 1 ag_C1 (ag_Fk hb1).1 (ag_Fk hb1).2 (Nat.le_of_ble_eq_true rfl) (ag_Ft1 hb1) rfl ag_fl_X1_15 dX1_takeFrom_9 ?_
  refine ev_iconst (pc := 12) (v := 0) dX1_takeFrom_12 (by decide) ?_
  refine ev_aload_n (pc := 13) (i := 0) 0 dX1_takeFrom_13 rfl rfl ?_
  refine ev_getR (pc := 14) (t := (b + 1)) 1 ag_C1 (ag_Fk hb).1 (ag_Fk hb).2 (Nat.le_of_ble_eq_true rfl) (ag_Ft1 hb) rfl ag_fl_X1_15 dX1_takeFrom_14 ?_
  refine ev_iconst (pc := 17) (v := 0) dX1_takeFrom_17 (by decide) ?_
  refine ev_bipush (pc := 18) (v := 10) dX1_takeFrom_18 (by decide) ?_
  refine ev_copy (pc := 20) (ag_Fa1 hb1).1 (ag_Fa1 hb1).2 (ag_Fa1 hb).1 (ag_Fa1 hb).2 ag_ml_X1_43 ⟨(Nat.le_of_ble_eq_true rfl), (by decide)⟩ dX1_takeFrom_20 ?_
  refine ev_sg (fun t4 => ?_)
  refine ev_aload_n (pc := 23) (i := 1) 1 dX1_takeFrom_23 rfl rfl ?_
  refine ev_getR (pc := 24) (t := (b1 + 2)) 2 ag_C1 (ag_Fk hb1).1 (ag_Fk hb1).2 (Nat.le_of_ble_eq_true rfl) (ag_Ft2 hb1) rfl ag_fl_X1_19 dX1_takeFrom_24 ?_
  refine ev_iconst (pc := 27) (v := 0) dX1_takeFrom_27 (by decide) ?_
  refine ev_aload_n (pc := 28) (i := 0) 0 dX1_takeFrom_28 rfl rfl ?_
  refine ev_getR (pc := 29) (t := (b + 2)) 2 ag_C1 (ag_Fk hb).1 (ag_Fk hb).2 (Nat.le_of_ble_eq_true rfl) (ag_Ft2 hb) rfl ag_fl_X1_19 dX1_takeFrom_29 ?_
  refine ev_iconst (pc := 32) (v := 0) dX1_takeFrom_32 (by decide) ?_
  refine ev_bipush (pc := 33) (v := 10) dX1_takeFrom_33 (by decide) ?_
  refine ev_copy (pc := 35) (ag_Fa2 hb1).1 (ag_Fa2 hb1).2 (ag_Fa2 hb).1 (ag_Fa2 hb).2 ag_ml_X1_43 ⟨(Nat.le_of_ble_eq_true rfl), (by decide)⟩ dX1_takeFrom_35 ?_
  refine ev_sg (fun t5 => ?_)
  refine ev_aload_n (pc := 38) (i := 1) 1 dX1_takeFrom_38 rfl rfl ?_
  refine ev_getR (pc := 39) (t := (b1 + 3)) 3 ag_C1 (ag_Fk hb1).1 (ag_Fk hb1).2 (Nat.le_of_ble_eq_true rfl) (ag_Ft3 hb1) rfl ag_fl_X1_22 dX1_takeFrom_39 ?_
  refine ev_iconst (pc := 42) (v := 0) dX1_takeFrom_42 (by decide) ?_
  refine ev_aload_n (pc := 43) (i := 0) 0 dX1_takeFrom_43 rfl rfl ?_
  refine ev_getR (pc := 44) (t := (b + 3)) 3 ag_C1 (ag_Fk hb).1 (ag_Fk hb).2 (Nat.le_of_ble_eq_true rfl) (ag_Ft3 hb) rfl ag_fl_X1_22 dX1_takeFrom_44 ?_
  refine ev_iconst (pc := 47) (v := 0) dX1_takeFrom_47 (by decide) ?_
  refine ev_bipush (pc := 48) (v := 10) dX1_takeFrom_48 (by decide) ?_
  refine ev_copy (pc := 50) (ag_Fa3 hb1).1 (ag_Fa3 hb1).2 (ag_Fa3 hb).1 (ag_Fa3 hb).2 ag_ml_X1_43 ⟨(Nat.le_of_ble_eq_true rfl), (by decide)⟩ dX1_takeFrom_50 ?_
  refine ev_sg (fun t6 => ?_)
  refine ev_aload_n (pc := 53) (i := 1) 1 dX1_takeFrom_53 rfl rfl ?_
  refine ev_getR (pc := 54) (t := (b1 + 4)) 4 ag_C1 (ag_Fk hb1).1 (ag_Fk hb1).2 (Nat.le_of_ble_eq_true rfl) (ag_Ft4 hb1) rfl ag_fl_X1_25 dX1_takeFrom_54 ?_
  refine ev_iconst (pc := 57) (v := 0) dX1_takeFrom_57 (by decide) ?_
  refine ev_aload_n (pc := 58) (i := 0) 0 dX1_takeFrom_58 rfl rfl ?_
  refine ev_getR (pc := 59) (t := (b + 4)) 4 ag_C1 (ag_Fk hb).1 (ag_Fk hb).2 (Nat.le_of_ble_eq_true rfl) (ag_Ft4 hb) rfl ag_fl_X1_25 dX1_takeFrom_59 ?_
  refine ev_iconst (pc := 62) (v := 0) dX1_takeFrom_62 (by decide) ?_
  refine ev_bipush (pc := 63) (v := 10) dX1_takeFrom_63 (by decide) ?_
  refine ev_copy (pc := 65) (ag_Fa4 hb1).1 (ag_Fa4 hb1).2 (ag_Fa4 hb).1 (ag_Fa4 hb).2 ag_ml_X1_43 ⟨(Nat.le_of_ble_eq_true rfl), (by decide)⟩ dX1_takeFrom_65 ?_
  refine ev_sg (fun t7 => ?_)
  refine ev_aload_n (pc := 68) (i := 1) 1 dX1_takeFrom_68 rfl rfl ?_
  refine ev_getR (pc := 69) (t := (b1 + 5)) 5 ag_C1 (ag_Fk hb1).1 (ag_Fk hb1).2 (Nat.le_of_ble_eq_true rfl) (ag_Ft5 hb1) rfl ag_fl_X1_28 dX1_takeFrom_69 ?_
  refine ev_iconst (pc := 72) (v := 0) dX1_takeFrom_72 (by decide) ?_
  refine ev_aload_n (pc := 73) (i := 0) 0 dX1_takeFrom_73 rfl rfl ?_
  refine ev_getR (pc := 74) (t := (b + 5)) 5 ag_C1 (ag_Fk hb).1 (ag_Fk hb).2 (Nat.le_of_ble_eq_true rfl) (ag_Ft5 hb) rfl ag_fl_X1_28 dX1_takeFrom_74 ?_
  refine ev_iconst (pc := 77) (v := 0) dX1_takeFrom_77 (by decide) ?_
  refine ev_bipush (pc := 78) (v := 10) dX1_takeFrom_78 (by decide) ?_
  refine ev_copy (pc := 80) (ag_Fa5 hb1).1 (ag_Fa5 hb1).2 (ag_Fa5 hb).1 (ag_Fa5 hb).2 ag_ml_X1_43 ⟨(Nat.le_of_ble_eq_true rfl), (by decide)⟩ dX1_takeFrom_80 ?_
  refine ev_sg (fun t8 => ?_)
  exact ev_rV rfl dX1_takeFrom_83
-- X2_setLast
def mX2_setLast : Md := (RX2, cX2_setLast, 7, none, none)
theorem mv_X2_setLast : ag_Mv yX2_setLast mX2_setLast 5 := ⟨ag_co_X2_setLast, ag_im_X2_setLast, ag_se_X2_setLast, ag_ini_X2, by decide +kernel⟩
theorem dX2_setLast_0 : decode mX2_setLast.2.1 0 = .ok (.aload_n 0, 1) := by decide +kernel
theorem dX2_setLast_1 : decode mX2_setLast.2.1 1 = .ok (.getfield 9, 3) := by decide +kernel
theorem dX2_setLast_4 : decode mX2_setLast.2.1 4 = .ok (.iconst 1, 1) := by decide +kernel
theorem dX2_setLast_5 : decode mX2_setLast.2.1 5 = .ok (.isub, 1) := by decide +kernel
theorem dX2_setLast_6 : decode mX2_setLast.2.1 6 = .ok (.istore 6, 2) := by decide +kernel
theorem dX2_setLast_8 : decode mX2_setLast.2.1 8 = .ok (.iload 6, 2) := by decide +kernel
theorem dX2_setLast_10 : decode mX2_setLast.2.1 10 = .ok (.ifCond .lt 10, 3) := by decide +kernel
theorem dX2_setLast_13 : decode mX2_setLast.2.1 13 = .ok (.iload 6, 2) := by decide +kernel
theorem dX2_setLast_15 : decode mX2_setLast.2.1 15 = .ok (.bipush 13, 2) := by decide +kernel
theorem dX2_setLast_17 : decode mX2_setLast.2.1 17 = .ok (.if_icmp .lt 4, 3) := by decide +kernel
theorem dX2_setLast_20 : decode mX2_setLast.2.1 20 = .ok (.return_, 1) := by decide +kernel
theorem dX2_setLast_21 : decode mX2_setLast.2.1 21 = .ok (.aload_n 0, 1) := by decide +kernel
theorem dX2_setLast_22 : decode mX2_setLast.2.1 22 = .ok (.getfield 15, 3) := by decide +kernel
theorem dX2_setLast_25 : decode mX2_setLast.2.1 25 = .ok (.iload 6, 2) := by decide +kernel
theorem dX2_setLast_27 : decode mX2_setLast.2.1 27 = .ok (.iload_n 1, 1) := by decide +kernel
theorem dX2_setLast_28 : decode mX2_setLast.2.1 28 = .ok (.iastore, 1) := by decide +kernel
theorem dX2_setLast_29 : decode mX2_setLast.2.1 29 = .ok (.aload_n 0, 1) := by decide +kernel
theorem dX2_setLast_30 : decode mX2_setLast.2.1 30 = .ok (.getfield 19, 3) := by decide +kernel
theorem dX2_setLast_33 : decode mX2_setLast.2.1 33 = .ok (.iload 6, 2) := by decide +kernel
theorem dX2_setLast_35 : decode mX2_setLast.2.1 35 = .ok (.iload_n 2, 1) := by decide +kernel
theorem dX2_setLast_36 : decode mX2_setLast.2.1 36 = .ok (.iastore, 1) := by decide +kernel
theorem dX2_setLast_37 : decode mX2_setLast.2.1 37 = .ok (.aload_n 0, 1) := by decide +kernel
theorem dX2_setLast_38 : decode mX2_setLast.2.1 38 = .ok (.getfield 22, 3) := by decide +kernel
theorem dX2_setLast_41 : decode mX2_setLast.2.1 41 = .ok (.iload 6, 2) := by decide +kernel
theorem dX2_setLast_43 : decode mX2_setLast.2.1 43 = .ok (.iload_n 3, 1) := by decide +kernel
theorem dX2_setLast_44 : decode mX2_setLast.2.1 44 = .ok (.iastore, 1) := by decide +kernel
theorem dX2_setLast_45 : decode mX2_setLast.2.1 45 = .ok (.aload_n 0, 1) := by decide +kernel
theorem dX2_setLast_46 : decode mX2_setLast.2.1 46 = .ok (.getfield 25, 3) := by decide +kernel
theorem dX2_setLast_49 : decode mX2_setLast.2.1 49 = .ok (.iload 6, 2) := by decide +kernel
theorem dX2_setLast_51 : decode mX2_setLast.2.1 51 = .ok (.iload 4, 2) := by decide +kernel
theorem dX2_setLast_53 : decode mX2_setLast.2.1 53 = .ok (.iastore, 1) := by decide +kernel
theorem dX2_setLast_54 : decode mX2_setLast.2.1 54 = .ok (.aload_n 0, 1) := by decide +kernel
theorem dX2_setLast_55 : decode mX2_setLast.2.1 55 = .ok (.getfield 28, 3) := by decide +kernel
theorem dX2_setLast_58 : decode mX2_setLast.2.1 58 = .ok (.iload 6, 2) := by decide +kernel
theorem dX2_setLast_60 : decode mX2_setLast.2.1 60 = .ok (.iload 5, 2) := by decide +kernel
theorem dX2_setLast_62 : decode mX2_setLast.2.1 62 = .ok (.iastore, 1) := by decide +kernel
theorem dX2_setLast_63 : decode mX2_setLast.2.1 63 = .ok (.return_, 1) := by decide +kernel
def fn_X2_setLast (b : Nat) (x1 : Int32) (x2 : Int32) (x3 : Int32) (x4 : Int32) (x5 : Int32) (σ : Sg) : Option Sg :=
  (if ((σ b 0) - 1) < 0 then (some σ)
  else (if ((σ b 0) - 1) < 13 then (if ag_ib ((σ b 0) - 1) 13 = true then (if ag_ib ((σ b 0) - 1) 13 = true then (ag_sg (ag_up (ag_up σ (b + 1) ((σ b 0) - 1).toNatClampNeg x1) (b + 2) ((σ b 0) - 1).toNatClampNeg x2) fun t9 =>
  (if ag_ib ((σ b 0) - 1) 13 = true then (if ag_ib ((σ b 0) - 1) 13 = true then (ag_sg (ag_up (ag_up t9 (b + 3) ((σ b 0) - 1).toNatClampNeg x3) (b + 4) ((σ b 0) - 1).toNatClampNeg x4) fun t10 =>
  (if ag_ib ((σ b 0) - 1) 13 = true then (some (ag_up t10 (b + 5) ((σ b 0) - 1).toNatClampNeg x5)) else none)) else none) else none)) else none) else none)
  else (some σ)))
set_option maxRecDepth 20000 in
set_option maxHeartbeats 4000000 in
theorem im_X2_setLast (b : Nat) (hb : ag_P b) (x1 : Int32) (x2 : Int32) (x3 : Int32) (x4 : Int32) (x5 : Int32) (σ : Sg) : Im yX2_setLast mX2_setLast 0 0 jV [.ref b, .int x1, .int x2, .int x3, .int x4, .int x5] σ (fn_X2_setLast b x1 x2 x3 x4 x5 σ) := by
  refine Im.of (by decide +kernel) rfl rfl (Nat.le_of_ble_eq_true rfl) ?_
  show Ev mX2_setLast 0 0 jV 0 [(0, .ref b), (1, .int x1), (2, .int x2), (3, .int x3), (4, .int x4), (5, .int x5)] [] σ (fn_X2_setLast b x1 x2 x3 x4 x5 σ)
  unfold fn_X2_setLast
  refine ev_aload_n (pc := 0) (i := 0) 0 dX2_setLast_0 rfl rfl ?_
  refine ev_getI (pc := 1) 0 ag_C2 (ag_Pk hb).1 (ag_Pk hb).2 (Nat.le_of_ble_eq_true rfl) (ag_Pt0 hb) rfl ag_fl_X2_9 dX2_setLast_1 ?_
  refine ev_iconst (pc := 4) (v := 1) dX2_setLast_4 (by decide) ?_
  refine ev_isub (pc := 5) dX2_setLast_5 ?_
  refine ev_istore (pc := 6) (lv' := [(6, .int ((σ b 0) - 1)), (0, .ref b), (1, .int x1), (2, .int x2), (3, .int x3), (4, .int x4), (5, .int x5)]) dX2_setLast_6 (Nat.le_of_ble_eq_true rfl) rfl ?_
  refine ev_iload (pc := 8) 0 dX2_setLast_8 rfl ?_
  refine ev_if_lt (pc := 10) (tgt := 20) dX2_setLast_10 rfl ?_ ?_
  · exact ev_rV rfl dX2_setLast_20
  · refine ev_iload (pc := 13) 0 dX2_setLast_13 rfl ?_
    refine ev_bipush (pc := 15) (v := 13) dX2_setLast_15 (by decide) ?_
    refine ev_icmp_lt (pc := 17) (tgt := 21) dX2_setLast_17 rfl ?_ ?_
    · refine ev_aload_n (pc := 21) (i := 0) 1 dX2_setLast_21 rfl rfl ?_
      refine ev_getR (pc := 22) (t := (b + 1)) 1 ag_C2 (ag_Pk hb).1 (ag_Pk hb).2 (Nat.le_of_ble_eq_true rfl) (ag_Pt1 hb) rfl ag_fl_X2_15 dX2_setLast_22 ?_
      refine ev_iload (pc := 25) 0 dX2_setLast_25 rfl ?_
      refine ev_iload_n (pc := 27) (i := 1) 2 dX2_setLast_27 rfl rfl ?_
      refine ev_iast (pc := 28) (ag_Pa1 hb).1 (ag_Pa1 hb).2 dX2_setLast_28 ?_
      refine ev_aload_n (pc := 29) (i := 0) 1 dX2_setLast_29 rfl rfl ?_
      refine ev_getR (pc := 30) (t := (b + 2)) 2 ag_C2 (ag_Pk hb).1 (ag_Pk hb).2 (Nat.le_of_ble_eq_true rfl) (ag_Pt2 hb) rfl ag_fl_X2_19 dX2_setLast_30 ?_
      refine ev_iload (pc := 33) 0 dX2_setLast_33 rfl ?_
      refine ev_iload_n (pc := 35) (i := 2) 3 dX2_setLast_35 rfl rfl ?_
      refine ev_iast (pc := 36) (ag_Pa2 hb).1 (ag_Pa2 hb).2 dX2_setLast_36 ?_
      refine ev_sg (fun t9 => ?_)
      refine ev_aload_n (pc := 37) (i := 0) 1 dX2_setLast_37 rfl rfl ?_
      refine ev_getR (pc := 38) (t := (b + 3)) 3 ag_C2 (ag_Pk hb).1 (ag_Pk hb).2 (Nat.le_of_ble_eq_true rfl) (ag_Pt3 hb) rfl ag_fl_X2_22 dX2_setLast_38 ?_
      refine ev_iload (pc := 41) 0 dX2_setLast_41 rfl ?_
      refine ev_iload_n (pc := 43) (i := 3) 4 dX2_setLast_43 rfl rfl ?_
      refine ev_iast (pc := 44) (ag_Pa3 hb).1 (ag_Pa3 hb).2 dX2_setLast_44 ?_
      refine ev_aload_n (pc := 45) (i := 0) 1 dX2_setLast_45 rfl rfl ?_
      refine ev_getR (pc := 46) (t := (b + 4)) 4 ag_C2 (ag_Pk hb).1 (ag_Pk hb).2 (Nat.le_of_ble_eq_true rfl) (ag_Pt4 hb) rfl ag_fl_X2_25 dX2_setLast_46 ?_
      refine ev_iload (pc := 49) 0 dX2_setLast_49 rfl ?_
      refine ev_iload (pc := 51) 5 dX2_setLast_51 rfl ?_
      refine ev_iast (pc := 53) (ag_Pa4 hb).1 (ag_Pa4 hb).2 dX2_setLast_53 ?_
      refine ev_sg (fun t10 => ?_)
      refine ev_aload_n (pc := 54) (i := 0) 1 dX2_setLast_54 rfl rfl ?_
      refine ev_getR (pc := 55) (t := (b + 5)) 5 ag_C2 (ag_Pk hb).1 (ag_Pk hb).2 (Nat.le_of_ble_eq_true rfl) (ag_Pt5 hb) rfl ag_fl_X2_28 dX2_setLast_55 ?_
      refine ev_iload (pc := 58) 0 dX2_setLast_58 rfl ?_
      refine ev_iload (pc := 60) 6 dX2_setLast_60 rfl ?_
      refine ev_iast (pc := 62) (ag_Pa5 hb).1 (ag_Pa5 hb).2 dX2_setLast_62 ?_
      exact ev_rV rfl dX2_setLast_63
    · exact ev_rV rfl dX2_setLast_20
-- X2_takeFrom
def mX2_takeFrom : Md := (RX2, cX2_takeFrom, 2, none, none)
theorem mv_X2_takeFrom : ag_Mv yX2_takeFrom mX2_takeFrom 1 := ⟨ag_co_X2_takeFrom, ag_im_X2_takeFrom, ag_se_X2_takeFrom, ag_ini_X2, by decide +kernel⟩
theorem dX2_takeFrom_0 : decode mX2_takeFrom.2.1 0 = .ok (.aload_n 0, 1) := by decide +kernel
theorem dX2_takeFrom_1 : decode mX2_takeFrom.2.1 1 = .ok (.aload_n 1, 1) := by decide +kernel
theorem dX2_takeFrom_2 : decode mX2_takeFrom.2.1 2 = .ok (.getfield 9, 3) := by decide +kernel
theorem dX2_takeFrom_5 : decode mX2_takeFrom.2.1 5 = .ok (.putfield 9, 3) := by decide +kernel
theorem dX2_takeFrom_8 : decode mX2_takeFrom.2.1 8 = .ok (.aload_n 1, 1) := by decide +kernel
theorem dX2_takeFrom_9 : decode mX2_takeFrom.2.1 9 = .ok (.getfield 15, 3) := by decide +kernel
theorem dX2_takeFrom_12 : decode mX2_takeFrom.2.1 12 = .ok (.iconst 0, 1) := by decide +kernel
theorem dX2_takeFrom_13 : decode mX2_takeFrom.2.1 13 = .ok (.aload_n 0, 1) := by decide +kernel
theorem dX2_takeFrom_14 : decode mX2_takeFrom.2.1 14 = .ok (.getfield 15, 3) := by decide +kernel
theorem dX2_takeFrom_17 : decode mX2_takeFrom.2.1 17 = .ok (.iconst 0, 1) := by decide +kernel
theorem dX2_takeFrom_18 : decode mX2_takeFrom.2.1 18 = .ok (.bipush 13, 2) := by decide +kernel
theorem dX2_takeFrom_20 : decode mX2_takeFrom.2.1 20 = .ok (.invokestatic 31, 3) := by decide +kernel
theorem dX2_takeFrom_23 : decode mX2_takeFrom.2.1 23 = .ok (.aload_n 1, 1) := by decide +kernel
theorem dX2_takeFrom_24 : decode mX2_takeFrom.2.1 24 = .ok (.getfield 19, 3) := by decide +kernel
theorem dX2_takeFrom_27 : decode mX2_takeFrom.2.1 27 = .ok (.iconst 0, 1) := by decide +kernel
theorem dX2_takeFrom_28 : decode mX2_takeFrom.2.1 28 = .ok (.aload_n 0, 1) := by decide +kernel
theorem dX2_takeFrom_29 : decode mX2_takeFrom.2.1 29 = .ok (.getfield 19, 3) := by decide +kernel
theorem dX2_takeFrom_32 : decode mX2_takeFrom.2.1 32 = .ok (.iconst 0, 1) := by decide +kernel
theorem dX2_takeFrom_33 : decode mX2_takeFrom.2.1 33 = .ok (.bipush 13, 2) := by decide +kernel
theorem dX2_takeFrom_35 : decode mX2_takeFrom.2.1 35 = .ok (.invokestatic 31, 3) := by decide +kernel
theorem dX2_takeFrom_38 : decode mX2_takeFrom.2.1 38 = .ok (.aload_n 1, 1) := by decide +kernel
theorem dX2_takeFrom_39 : decode mX2_takeFrom.2.1 39 = .ok (.getfield 22, 3) := by decide +kernel
theorem dX2_takeFrom_42 : decode mX2_takeFrom.2.1 42 = .ok (.iconst 0, 1) := by decide +kernel
theorem dX2_takeFrom_43 : decode mX2_takeFrom.2.1 43 = .ok (.aload_n 0, 1) := by decide +kernel
theorem dX2_takeFrom_44 : decode mX2_takeFrom.2.1 44 = .ok (.getfield 22, 3) := by decide +kernel
theorem dX2_takeFrom_47 : decode mX2_takeFrom.2.1 47 = .ok (.iconst 0, 1) := by decide +kernel
theorem dX2_takeFrom_48 : decode mX2_takeFrom.2.1 48 = .ok (.bipush 13, 2) := by decide +kernel
theorem dX2_takeFrom_50 : decode mX2_takeFrom.2.1 50 = .ok (.invokestatic 31, 3) := by decide +kernel
theorem dX2_takeFrom_53 : decode mX2_takeFrom.2.1 53 = .ok (.aload_n 1, 1) := by decide +kernel
theorem dX2_takeFrom_54 : decode mX2_takeFrom.2.1 54 = .ok (.getfield 25, 3) := by decide +kernel
theorem dX2_takeFrom_57 : decode mX2_takeFrom.2.1 57 = .ok (.iconst 0, 1) := by decide +kernel
theorem dX2_takeFrom_58 : decode mX2_takeFrom.2.1 58 = .ok (.aload_n 0, 1) := by decide +kernel
theorem dX2_takeFrom_59 : decode mX2_takeFrom.2.1 59 = .ok (.getfield 25, 3) := by decide +kernel
theorem dX2_takeFrom_62 : decode mX2_takeFrom.2.1 62 = .ok (.iconst 0, 1) := by decide +kernel
theorem dX2_takeFrom_63 : decode mX2_takeFrom.2.1 63 = .ok (.bipush 13, 2) := by decide +kernel
theorem dX2_takeFrom_65 : decode mX2_takeFrom.2.1 65 = .ok (.invokestatic 31, 3) := by decide +kernel
theorem dX2_takeFrom_68 : decode mX2_takeFrom.2.1 68 = .ok (.aload_n 1, 1) := by decide +kernel
theorem dX2_takeFrom_69 : decode mX2_takeFrom.2.1 69 = .ok (.getfield 28, 3) := by decide +kernel
theorem dX2_takeFrom_72 : decode mX2_takeFrom.2.1 72 = .ok (.iconst 0, 1) := by decide +kernel
theorem dX2_takeFrom_73 : decode mX2_takeFrom.2.1 73 = .ok (.aload_n 0, 1) := by decide +kernel
theorem dX2_takeFrom_74 : decode mX2_takeFrom.2.1 74 = .ok (.getfield 28, 3) := by decide +kernel
theorem dX2_takeFrom_77 : decode mX2_takeFrom.2.1 77 = .ok (.iconst 0, 1) := by decide +kernel
theorem dX2_takeFrom_78 : decode mX2_takeFrom.2.1 78 = .ok (.bipush 13, 2) := by decide +kernel
theorem dX2_takeFrom_80 : decode mX2_takeFrom.2.1 80 = .ok (.invokestatic 31, 3) := by decide +kernel
theorem dX2_takeFrom_83 : decode mX2_takeFrom.2.1 83 = .ok (.return_, 1) := by decide +kernel
def fn_X2_takeFrom (b : Nat) (b1 : Nat) (σ : Sg) : Option Sg :=
  (if ag_cpok 0 0 13 13 13 = true then (ag_sg (ag_ar (ag_up σ b 0 (σ b1 0)) (b + 1) (va_cpy ((ag_up σ b 0 (σ b1 0)) (b1 + 1)) ((ag_up σ b 0 (σ b1 0)) (b + 1)) (0 : Int32).toNatClampNeg (0 : Int32).toNatClampNeg (13 : Int32).toNatClampNeg)) fun t11 =>
  (if ag_cpok 0 0 13 13 13 = true then (ag_sg (ag_ar t11 (b + 2) (va_cpy (t11 (b1 + 2)) (t11 (b + 2)) (0 : Int32).toNatClampNeg (0 : Int32).toNatClampNeg (13 : Int32).toNatClampNeg)) fun t12 =>
  (if ag_cpok 0 0 13 13 13 = true then (ag_sg (ag_ar t12 (b + 3) (va_cpy (t12 (b1 + 3)) (t12 (b + 3)) (0 : Int32).toNatClampNeg (0 : Int32).toNatClampNeg (13 : Int32).toNatClampNeg)) fun t13 =>
  (if ag_cpok 0 0 13 13 13 = true then (ag_sg (ag_ar t13 (b + 4) (va_cpy (t13 (b1 + 4)) (t13 (b + 4)) (0 : Int32).toNatClampNeg (0 : Int32).toNatClampNeg (13 : Int32).toNatClampNeg)) fun t14 =>
  (if ag_cpok 0 0 13 13 13 = true then (ag_sg (ag_ar t14 (b + 5) (va_cpy (t14 (b1 + 5)) (t14 (b + 5)) (0 : Int32).toNatClampNeg (0 : Int32).toNatClampNeg (13 : Int32).toNatClampNeg)) fun t15 =>
  (some t15)) else none)) else none)) else none)) else none)) else none)
set_option maxRecDepth 20000 in
set_option maxHeartbeats 4000000 in
theorem im_X2_takeFrom (b : Nat) (hb : ag_P b) (b1 : Nat) (hb1 : ag_P b1) (σ : Sg) : Im yX2_takeFrom mX2_takeFrom 1 60 jV [.ref b, .ref b1] σ (fn_X2_takeFrom b b1 σ) := by
  refine Im.of (by decide +kernel) rfl rfl (Nat.le_of_ble_eq_true rfl) ?_
  show Ev mX2_takeFrom 1 60 jV 0 [(0, .ref b), (1, .ref b1)] [] σ (fn_X2_takeFrom b b1 σ)
  unfold fn_X2_takeFrom
  refine ev_aload_n (pc := 0) (i := 0) 0 dX2_takeFrom_0 rfl rfl ?_
  refine ev_aload_n (pc := 1) (i := 1) 1 dX2_takeFrom_1 rfl rfl ?_
  refine ev_getI (pc := 2) 0 ag_C2 (ag_Pk hb1).1 (ag_Pk hb1).2 (Nat.le_of_ble_eq_true rfl) (ag_Pt0 hb1) rfl ag_fl_X2_9 dX2_takeFrom_2 ?_
  refine ev_put (pc := 5) 0 ag_C2 (ag_Pk hb).1 (ag_Pk hb).2 (Nat.le_of_ble_eq_true rfl) (ag_Pt0 hb) rfl ag_fl_X2_9 rfl rfl rfl dX2_takeFrom_5 ?_
  refine ev_aload_n (pc := 8) (i := 1) 1 dX2_takeFrom_8 rfl rfl ?_
  refine ev_getR (pc := 9) (t := (b1 + 1)) 1 ag_C2 (ag_Pk hb1).1 (ag_Pk hb1).2 (Nat.le_of_ble_eq_true rfl) (ag_Pt1 hb1) rfl ag_fl_X2_15 dX2_takeFrom_9 ?_
  refine ev_iconst (pc := 12) (v := 0) dX2_takeFrom_12 (by decide) ?_
  refine ev_aload_n (pc := 13) (i := 0) 0 dX2_takeFrom_13 rfl rfl ?_
  refine ev_getR (pc := 14) (t := (b + 1)) 1 ag_C2 (ag_Pk hb).1 (ag_Pk hb).2 (Nat.le_of_ble_eq_true rfl) (ag_Pt1 hb) rfl ag_fl_X2_15 dX2_takeFrom_14 ?_
  refine ev_iconst (pc := 17) (v := 0) dX2_takeFrom_17 (by decide) ?_
  refine ev_bipush (pc := 18) (v := 13) dX2_takeFrom_18 (by decide) ?_
  refine ev_copy (pc := 20) (ag_Pa1 hb1).1 (ag_Pa1 hb1).2 (ag_Pa1 hb).1 (ag_Pa1 hb).2 ag_ml_X2_31 ⟨(Nat.le_of_ble_eq_true rfl), (by decide)⟩ dX2_takeFrom_20 ?_
  refine ev_sg (fun t11 => ?_)
  refine ev_aload_n (pc := 23) (i := 1) 1 dX2_takeFrom_23 rfl rfl ?_
  refine ev_getR (pc := 24) (t := (b1 + 2)) 2 ag_C2 (ag_Pk hb1).1 (ag_Pk hb1).2 (Nat.le_of_ble_eq_true rfl) (ag_Pt2 hb1) rfl ag_fl_X2_19 dX2_takeFrom_24 ?_
  refine ev_iconst (pc := 27) (v := 0) dX2_takeFrom_27 (by decide) ?_
  refine ev_aload_n (pc := 28) (i := 0) 0 dX2_takeFrom_28 rfl rfl ?_
  refine ev_getR (pc := 29) (t := (b + 2)) 2 ag_C2 (ag_Pk hb).1 (ag_Pk hb).2 (Nat.le_of_ble_eq_true rfl) (ag_Pt2 hb) rfl ag_fl_X2_19 dX2_takeFrom_29 ?_
  refine ev_iconst (pc := 32) (v := 0) dX2_takeFrom_32 (by decide) ?_
  refine ev_bipush (pc := 33) (v := 13) dX2_takeFrom_33 (by decide) ?_
  refine ev_copy (pc := 35) (ag_Pa2 hb1).1 (ag_Pa2 hb1).2 (ag_Pa2 hb).1 (ag_Pa2 hb).2 ag_ml_X2_31 ⟨(Nat.le_of_ble_eq_true rfl), (by decide)⟩ dX2_takeFrom_35 ?_
  refine ev_sg (fun t12 => ?_)
  refine ev_aload_n (pc := 38) (i := 1) 1 dX2_takeFrom_38 rfl rfl ?_
  refine ev_getR (pc := 39) (t := (b1 + 3)) 3 ag_C2 (ag_Pk hb1).1 (ag_Pk hb1).2 (Nat.le_of_ble_eq_true rfl) (ag_Pt3 hb1) rfl ag_fl_X2_22 dX2_takeFrom_39 ?_
  refine ev_iconst (pc := 42) (v := 0) dX2_takeFrom_42 (by decide) ?_
  refine ev_aload_n (pc := 43) (i := 0) 0 dX2_takeFrom_43 rfl rfl ?_
  refine ev_getR (pc := 44) (t := (b + 3)) 3 ag_C2 (ag_Pk hb).1 (ag_Pk hb).2 (Nat.le_of_ble_eq_true rfl) (ag_Pt3 hb) rfl ag_fl_X2_22 dX2_takeFrom_44 ?_
  refine ev_iconst (pc := 47) (v := 0) dX2_takeFrom_47 (by decide) ?_
  refine ev_bipush (pc := 48) (v := 13) dX2_takeFrom_48 (by decide) ?_
  refine ev_copy (pc := 50) (ag_Pa3 hb1).1 (ag_Pa3 hb1).2 (ag_Pa3 hb).1 (ag_Pa3 hb).2 ag_ml_X2_31 ⟨(Nat.le_of_ble_eq_true rfl), (by decide)⟩ dX2_takeFrom_50 ?_
  refine ev_sg (fun t13 => ?_)
  refine ev_aload_n (pc := 53) (i := 1) 1 dX2_takeFrom_53 rfl rfl ?_
  refine ev_getR (pc := 54) (t := (b1 + 4)) 4 ag_C2 (ag_Pk hb1).1 (ag_Pk hb1).2 (Nat.le_of_ble_eq_true rfl) (ag_Pt4 hb1) rfl ag_fl_X2_25 dX2_takeFrom_54 ?_
  refine ev_iconst (pc := 57) (v := 0) dX2_takeFrom_57 (by decide) ?_
  refine ev_aload_n (pc := 58) (i := 0) 0 dX2_takeFrom_58 rfl rfl ?_
  refine ev_getR (pc := 59) (t := (b + 4)) 4 ag_C2 (ag_Pk hb).1 (ag_Pk hb).2 (Nat.le_of_ble_eq_true rfl) (ag_Pt4 hb) rfl ag_fl_X2_25 dX2_takeFrom_59 ?_
  refine ev_iconst (pc := 62) (v := 0) dX2_takeFrom_62 (by decide) ?_
  refine ev_bipush (pc := 63) (v := 13) dX2_takeFrom_63 (by decide) ?_
  refine ev_copy (pc := 65) (ag_Pa4 hb1).1 (ag_Pa4 hb1).2 (ag_Pa4 hb).1 (ag_Pa4 hb).2 ag_ml_X2_31 ⟨(Nat.le_of_ble_eq_true rfl), (by decide)⟩ dX2_takeFrom_65 ?_
  refine ev_sg (fun t14 => ?_)
  refine ev_aload_n (pc := 68) (i := 1) 1 dX2_takeFrom_68 rfl rfl ?_
  refine ev_getR (pc := 69) (t := (b1 + 5)) 5 ag_C2 (ag_Pk hb1).1 (ag_Pk hb1).2 (Nat.le_of_ble_eq_true rfl) (ag_Pt5 hb1) rfl ag_fl_X2_28 dX2_takeFrom_69 ?_
  refine ev_iconst (pc := 72) (v := 0) dX2_takeFrom_72 (by decide) ?_
  refine ev_aload_n (pc := 73) (i := 0) 0 dX2_takeFrom_73 rfl rfl ?_
  refine ev_getR (pc := 74) (t := (b + 5)) 5 ag_C2 (ag_Pk hb).1 (ag_Pk hb).2 (Nat.le_of_ble_eq_true rfl) (ag_Pt5 hb) rfl ag_fl_X2_28 dX2_takeFrom_74 ?_
  refine ev_iconst (pc := 77) (v := 0) dX2_takeFrom_77 (by decide) ?_
  refine ev_bipush (pc := 78) (v := 13) dX2_takeFrom_78 (by decide) ?_
  refine ev_copy (pc := 80) (ag_Pa5 hb1).1 (ag_Pa5 hb1).2 (ag_Pa5 hb).1 (ag_Pa5 hb).2 ag_ml_X2_31 ⟨(Nat.le_of_ble_eq_true rfl), (by decide)⟩ dX2_takeFrom_80 ?_
  refine ev_sg (fun t15 => ?_)
  exact ev_rV rfl dX2_takeFrom_83
-- J7_fill_53178
def mJ7_fill_53178 : Md := (RJ7, cJ7_fill_53178, 4, none, none)
theorem ms_J7_fill_53178 : ag_Ms yJ7_fill_53178 mJ7_fill_53178 2 := ⟨ag_co_J7_fill_53178, ag_st_J7_fill_53178, ag_ini_J7, by decide +kernel⟩
theorem dJ7_fill_53178_0 : decode mJ7_fill_53178.2.1 0 = .ok (.iconst 0, 1) := by decide +kernel
theorem dJ7_fill_53178_1 : decode mJ7_fill_53178.2.1 1 = .ok (.istore_n 2, 1) := by decide +kernel
theorem dJ7_fill_53178_2 : decode mJ7_fill_53178.2.1 2 = .ok (.aload_n 0, 1) := by decide +kernel
theorem dJ7_fill_53178_3 : decode mJ7_fill_53178.2.1 3 = .ok (.arraylength, 1) := by decide +kernel
theorem dJ7_fill_53178_4 : decode mJ7_fill_53178.2.1 4 = .ok (.istore_n 3, 1) := by decide +kernel
theorem dJ7_fill_53178_5 : decode mJ7_fill_53178.2.1 5 = .ok (.iload_n 2, 1) := by decide +kernel
theorem dJ7_fill_53178_6 : decode mJ7_fill_53178.2.1 6 = .ok (.iload_n 3, 1) := by decide +kernel
theorem dJ7_fill_53178_7 : decode mJ7_fill_53178.2.1 7 = .ok (.if_icmp .ge 13, 3) := by decide +kernel
theorem dJ7_fill_53178_10 : decode mJ7_fill_53178.2.1 10 = .ok (.aload_n 0, 1) := by decide +kernel
theorem dJ7_fill_53178_11 : decode mJ7_fill_53178.2.1 11 = .ok (.iload_n 2, 1) := by decide +kernel
theorem dJ7_fill_53178_12 : decode mJ7_fill_53178.2.1 12 = .ok (.iload_n 1, 1) := by decide +kernel
theorem dJ7_fill_53178_13 : decode mJ7_fill_53178.2.1 13 = .ok (.iastore, 1) := by decide +kernel
theorem dJ7_fill_53178_14 : decode mJ7_fill_53178.2.1 14 = .ok (.iinc 2 1, 3) := by decide +kernel
theorem dJ7_fill_53178_17 : decode mJ7_fill_53178.2.1 17 = .ok (.goto (-12), 3) := by decide +kernel
theorem dJ7_fill_53178_20 : decode mJ7_fill_53178.2.1 20 = .ok (.return_, 1) := by decide +kernel
def fn_J7_fill_53178_b5 (n : Nat) (a0 a0_n : Nat) (x1 : Int32)  : Nat → Int32 → Int32 → Sg → Option Sg
  | 0 => fun _ _ _ => none
  | i + 1 => fun v2 v3 σ =>
  (if v3 ≤ v2 then (some σ)
  else (if ag_ib v2 a0_n = true then ((fn_J7_fill_53178_b5 n a0 a0_n x1 i) (v2 + 1) v3 (ag_up σ a0 v2.toNatClampNeg x1)) else none))
theorem fn_J7_fill_53178_b5_s (n : Nat) (a0 a0_n : Nat) (x1 : Int32)  (i : Nat) (v2 : Int32) (v3 : Int32) (σ : Sg) : fn_J7_fill_53178_b5 n a0 a0_n x1 (i + 1) v2 v3 σ =
  (if v3 ≤ v2 then (some σ)
  else (if ag_ib v2 a0_n = true then ((fn_J7_fill_53178_b5 n a0 a0_n x1 i) (v2 + 1) v3 (ag_up σ a0 v2.toNatClampNeg x1)) else none)) := rfl
set_option maxRecDepth 20000 in
set_option maxHeartbeats 4000000 in
theorem ev_J7_fill_53178_b5 (n : Nat) (a0 a0_n : Nat) (ha0 : ag_kd a0 = (8, a0_n) ∧ a0 < 77) (x1 : Int32)  : ∀ (i : Nat) (v2 : Int32) (v3 : Int32) (σ : Sg), Ev mJ7_fill_53178 0 0 jV 5 [(0, .ref a0), (1, .int x1), (2, .int v2), (3, .int v3)] [] σ (fn_J7_fill_53178_b5 n a0 a0_n x1 i v2 v3 σ) := by
  intro i
  induction i with
  | zero =>
    intro v2 v3 σ
    exact ev_none
  | succ i ih =>
    intro v2 v3 σ
    rw [fn_J7_fill_53178_b5_s]
    refine ev_iload_n (pc := 5) (i := 2) 2 dJ7_fill_53178_5 rfl rfl ?_
    refine ev_iload_n (pc := 6) (i := 3) 3 dJ7_fill_53178_6 rfl rfl ?_
    refine ev_icmp_ge (pc := 7) (tgt := 20) dJ7_fill_53178_7 rfl ?_ ?_
    · exact ev_rV rfl dJ7_fill_53178_20
    · refine ev_aload_n (pc := 10) (i := 0) 0 dJ7_fill_53178_10 rfl rfl ?_
      refine ev_iload_n (pc := 11) (i := 2) 2 dJ7_fill_53178_11 rfl rfl ?_
      refine ev_iload_n (pc := 12) (i := 1) 1 dJ7_fill_53178_12 rfl rfl ?_
      refine ev_iast (pc := 13) ha0.1 ha0.2 dJ7_fill_53178_13 ?_
      refine ev_iinc (pc := 14) (v := (v2 + 1)) (lv' := [(2, .int (v2 + 1)), (0, .ref a0), (1, .int x1), (3, .int v3)]) 2 dJ7_fill_53178_14 rfl rfl (Nat.le_of_ble_eq_true rfl) rfl ?_
      refine ev_goto (pc := 17) (tgt := 5) dJ7_fill_53178_17 rfl ?_
      refine ev_sub [1, 2, 0, 3] rfl ?_
      exact ih (v2 + 1) v3 (ag_up σ a0 v2.toNatClampNeg x1)
def fn_J7_fill_53178 (n : Nat) (a0 a0_n : Nat) (x1 : Int32) (σ : Sg) : Option Sg :=
  (fn_J7_fill_53178_b5 n a0 a0_n x1 n 0 (Int32.ofNat a0_n) σ)
set_option maxRecDepth 20000 in
set_option maxHeartbeats 4000000 in
theorem im_J7_fill_53178 (n : Nat) (a0 a0_n : Nat) (ha0 : ag_kd a0 = (8, a0_n) ∧ a0 < 77) (x1 : Int32) (σ : Sg) : Im yJ7_fill_53178 mJ7_fill_53178 0 0 jV [.ref a0, .int x1] σ (fn_J7_fill_53178 n a0 a0_n x1 σ) := by
  refine Im.of (by decide +kernel) rfl rfl (Nat.le_of_ble_eq_true rfl) ?_
  show Ev mJ7_fill_53178 0 0 jV 0 [(0, .ref a0), (1, .int x1)] [] σ (fn_J7_fill_53178 n a0 a0_n x1 σ)
  unfold fn_J7_fill_53178
  refine ev_iconst (pc := 0) (v := 0) dJ7_fill_53178_0 (by decide) ?_
  refine ev_istore_n (pc := 1) (i := 2) (lv' := [(2, .int 0), (0, .ref a0), (1, .int x1)]) dJ7_fill_53178_1 rfl (Nat.le_of_ble_eq_true rfl) rfl ?_
  refine ev_aload_n (pc := 2) (i := 0) 1 dJ7_fill_53178_2 rfl rfl ?_
  refine ev_alen (pc := 3) (v := (Int32.ofNat a0_n)) ha0.1 ha0.2 rfl dJ7_fill_53178_3 ?_
  refine ev_istore_n (pc := 4) (i := 3) (lv' := [(3, .int (Int32.ofNat a0_n)), (2, .int 0), (0, .ref a0), (1, .int x1)]) dJ7_fill_53178_4 rfl (Nat.le_of_ble_eq_true rfl) rfl ?_
  refine ev_sub [2, 3, 1, 0] rfl ?_
  exact ev_J7_fill_53178_b5 n a0 a0_n ha0 x1 n 0 (Int32.ofNat a0_n) σ
-- X3_begin
def mX3_begin : Md := (RX3, cX3_begin, 3, none, none)
theorem mv_X3_begin : ag_Mv yX3_begin mX3_begin 2 := ⟨ag_co_X3_begin, ag_im_X3_begin, ag_se_X3_begin, ag_ini_X3, by decide +kernel⟩
theorem dX3_begin_0 : decode mX3_begin.2.1 0 = .ok (.aload_n 0, 1) := by decide +kernel
theorem dX3_begin_1 : decode mX3_begin.2.1 1 = .ok (.iconst 0, 1) := by decide +kernel
theorem dX3_begin_2 : decode mX3_begin.2.1 2 = .ok (.putfield 9, 3) := by decide +kernel
theorem dX3_begin_5 : decode mX3_begin.2.1 5 = .ok (.aload_n 0, 1) := by decide +kernel
theorem dX3_begin_6 : decode mX3_begin.2.1 6 = .ok (.iload_n 1, 1) := by decide +kernel
theorem dX3_begin_7 : decode mX3_begin.2.1 7 = .ok (.putfield 15, 3) := by decide +kernel
theorem dX3_begin_10 : decode mX3_begin.2.1 10 = .ok (.aload_n 0, 1) := by decide +kernel
theorem dX3_begin_11 : decode mX3_begin.2.1 11 = .ok (.iload_n 2, 1) := by decide +kernel
theorem dX3_begin_12 : decode mX3_begin.2.1 12 = .ok (.putfield 19, 3) := by decide +kernel
theorem dX3_begin_15 : decode mX3_begin.2.1 15 = .ok (.aload_n 0, 1) := by decide +kernel
theorem dX3_begin_16 : decode mX3_begin.2.1 16 = .ok (.getfield 22, 3) := by decide +kernel
theorem dX3_begin_19 : decode mX3_begin.2.1 19 = .ok (.iconst 0, 1) := by decide +kernel
theorem dX3_begin_20 : decode mX3_begin.2.1 20 = .ok (.invokestatic 26, 3) := by decide +kernel
theorem dX3_begin_23 : decode mX3_begin.2.1 23 = .ok (.return_, 1) := by decide +kernel
def fn_X3_begin (n : Nat) (b : Nat) (x1 : Int32) (x2 : Int32) (σ : Sg) : Option Sg :=
  (ag_sg (ag_up (ag_up σ b 0 0) b 1 x1) fun t16 =>
  (Option.bind (fn_J7_fill_53178 n (b + 1) 48 0 (ag_up t16 b 2 x2)) fun q17 =>
  (some q17)))
set_option maxRecDepth 20000 in
set_option maxHeartbeats 4000000 in
theorem im_X3_begin (n : Nat) (b : Nat) (hb : ag_R b) (x1 : Int32) (x2 : Int32) (σ : Sg) : Im yX3_begin mX3_begin 1 23 jV [.ref b, .int x1, .int x2] σ (fn_X3_begin n b x1 x2 σ) := by
  refine Im.of (by decide +kernel) rfl rfl (Nat.le_of_ble_eq_true rfl) ?_
  show Ev mX3_begin 1 23 jV 0 [(0, .ref b), (1, .int x1), (2, .int x2)] [] σ (fn_X3_begin n b x1 x2 σ)
  unfold fn_X3_begin
  refine ev_aload_n (pc := 0) (i := 0) 0 dX3_begin_0 rfl rfl ?_
  refine ev_iconst (pc := 1) (v := 0) dX3_begin_1 (by decide) ?_
  refine ev_put (pc := 2) 0 ag_C3 (ag_Rk hb).1 (ag_Rk hb).2 (Nat.le_of_ble_eq_true rfl) (ag_Rt0 hb) rfl ag_fl_X3_9 rfl rfl rfl dX3_begin_2 ?_
  refine ev_aload_n (pc := 5) (i := 0) 0 dX3_begin_5 rfl rfl ?_
  refine ev_iload_n (pc := 6) (i := 1) 1 dX3_begin_6 rfl rfl ?_
  refine ev_put (pc := 7) 1 ag_C3 (ag_Rk hb).1 (ag_Rk hb).2 (Nat.le_of_ble_eq_true rfl) (ag_Rt1 hb) rfl ag_fl_X3_15 rfl rfl rfl dX3_begin_7 ?_
  refine ev_sg (fun t16 => ?_)
  refine ev_aload_n (pc := 10) (i := 0) 0 dX3_begin_10 rfl rfl ?_
  refine ev_iload_n (pc := 11) (i := 2) 2 dX3_begin_11 rfl rfl ?_
  refine ev_put (pc := 12) 2 ag_C3 (ag_Rk hb).1 (ag_Rk hb).2 (Nat.le_of_ble_eq_true rfl) (ag_Rt2 hb) rfl ag_fl_X3_19 rfl rfl rfl dX3_begin_12 ?_
  refine ev_aload_n (pc := 15) (i := 0) 0 dX3_begin_15 rfl rfl ?_
  refine ev_getR (pc := 16) (t := (b + 1)) 3 ag_C3 (ag_Rk hb).1 (ag_Rk hb).2 (Nat.le_of_ble_eq_true rfl) (ag_Rt3 hb) rfl ag_fl_X3_22 dX3_begin_16 ?_
  refine ev_iconst (pc := 19) (v := 0) dX3_begin_19 (by decide) ?_
  refine ev_sV (pc := 20) (as := [.ref (b + 1), .int 0]) (rest := []) ⟨26, ms_J7_fill_53178, ag_ml_X3_26, rfl, (Nat.le_of_ble_eq_true rfl), ⟨(Nat.le_of_ble_eq_true rfl), (Nat.le_of_ble_eq_true rfl)⟩, dX3_begin_20⟩ (im_J7_fill_53178 n (b + 1) 48 ⟨(ag_Ra1 hb).1, (ag_Ra1 hb).2⟩ 0 (ag_up t16 b 2 x2)) (fun q17 => ?_)
  exact ev_rV rfl dX3_begin_23
-- X6_isBelow
def mX6_isBelow : Md := (RX6, cX6_isBelow, 2, some .boolean, none)
theorem ms_X6_isBelow : ag_Ms yX6_isBelow mX6_isBelow 2 := ⟨ag_co_X6_isBelow, ag_st_X6_isBelow, ag_ini_X6, by decide +kernel⟩
theorem dX6_isBelow_0 : decode mX6_isBelow.2.1 0 = .ok (.iload_n 0, 1) := by decide +kernel
theorem dX6_isBelow_1 : decode mX6_isBelow.2.1 1 = .ok (.ifCond .lt 12, 3) := by decide +kernel
theorem dX6_isBelow_4 : decode mX6_isBelow.2.1 4 = .ok (.iload_n 0, 1) := by decide +kernel
theorem dX6_isBelow_5 : decode mX6_isBelow.2.1 5 = .ok (.iload_n 1, 1) := by decide +kernel
theorem dX6_isBelow_6 : decode mX6_isBelow.2.1 6 = .ok (.if_icmp .ge 7, 3) := by decide +kernel
theorem dX6_isBelow_9 : decode mX6_isBelow.2.1 9 = .ok (.iconst 1, 1) := by decide +kernel
theorem dX6_isBelow_10 : decode mX6_isBelow.2.1 10 = .ok (.goto 4, 3) := by decide +kernel
theorem dX6_isBelow_13 : decode mX6_isBelow.2.1 13 = .ok (.iconst 0, 1) := by decide +kernel
theorem dX6_isBelow_14 : decode mX6_isBelow.2.1 14 = .ok (.ireturn, 1) := by decide +kernel
def fn_X6_isBelow (x0 : Int32) (x1 : Int32) (σ : Sg) : Option Int32 :=
  (if x0 < 0 then (some 0)
  else (if x1 ≤ x0 then (some 0)
  else (some 1)))
set_option maxRecDepth 20000 in
set_option maxHeartbeats 4000000 in
theorem im_X6_isBelow (x0 : Int32) (x1 : Int32) (σ : Sg) : Im yX6_isBelow mX6_isBelow 0 0 (jI σ) [.int x0, .int x1] σ (fn_X6_isBelow x0 x1 σ) := by
  refine Im.of (by decide +kernel) rfl rfl (Nat.le_of_ble_eq_true rfl) ?_
  show Ev mX6_isBelow 0 0 (jI σ) 0 [(0, .int x0), (1, .int x1)] [] σ (fn_X6_isBelow x0 x1 σ)
  unfold fn_X6_isBelow
  refine ev_iload_n (pc := 0) (i := 0) 0 dX6_isBelow_0 rfl rfl ?_
  refine ev_if_lt (pc := 1) (tgt := 13) dX6_isBelow_1 rfl ?_ ?_
  · refine ev_iconst (pc := 13) (v := 0) dX6_isBelow_13 (by decide) ?_
    exact ev_brI rfl rfl dX6_isBelow_14
  · refine ev_iload_n (pc := 4) (i := 0) 0 dX6_isBelow_4 rfl rfl ?_
    refine ev_iload_n (pc := 5) (i := 1) 1 dX6_isBelow_5 rfl rfl ?_
    refine ev_icmp_ge (pc := 6) (tgt := 13) dX6_isBelow_6 rfl ?_ ?_
    · refine ev_iconst (pc := 13) (v := 0) dX6_isBelow_13 (by decide) ?_
      exact ev_brI rfl rfl dX6_isBelow_14
    · refine ev_iconst (pc := 9) (v := 1) dX6_isBelow_9 (by decide) ?_
      refine ev_goto (pc := 10) (tgt := 14) dX6_isBelow_10 rfl ?_
      exact ev_brI rfl rfl dX6_isBelow_14
-- X3_findingAt
def mX3_findingAt : Md := (RX3, cX3_findingAt, 3, some .int, none)
theorem mv_X3_findingAt : ag_Mv yX3_findingAt mX3_findingAt 2 := ⟨ag_co_X3_findingAt, ag_im_X3_findingAt, ag_se_X3_findingAt, ag_ini_X3, by decide +kernel⟩
theorem dX3_findingAt_0 : decode mX3_findingAt.2.1 0 = .ok (.aload_n 0, 1) := by decide +kernel
theorem dX3_findingAt_1 : decode mX3_findingAt.2.1 1 = .ok (.getfield 9, 3) := by decide +kernel
theorem dX3_findingAt_4 : decode mX3_findingAt.2.1 4 = .ok (.ifCond .eq 5, 3) := by decide +kernel
theorem dX3_findingAt_7 : decode mX3_findingAt.2.1 7 = .ok (.iconst 1, 1) := by decide +kernel
theorem dX3_findingAt_8 : decode mX3_findingAt.2.1 8 = .ok (.ireturn, 1) := by decide +kernel
theorem dX3_findingAt_9 : decode mX3_findingAt.2.1 9 = .ok (.iload_n 1, 1) := by decide +kernel
theorem dX3_findingAt_10 : decode mX3_findingAt.2.1 10 = .ok (.aload_n 0, 1) := by decide +kernel
theorem dX3_findingAt_11 : decode mX3_findingAt.2.1 11 = .ok (.getfield 15, 3) := by decide +kernel
theorem dX3_findingAt_14 : decode mX3_findingAt.2.1 14 = .ok (.if_icmp .eq 5, 3) := by decide +kernel
theorem dX3_findingAt_17 : decode mX3_findingAt.2.1 17 = .ok (.iconst 3, 1) := by decide +kernel
theorem dX3_findingAt_18 : decode mX3_findingAt.2.1 18 = .ok (.ireturn, 1) := by decide +kernel
theorem dX3_findingAt_19 : decode mX3_findingAt.2.1 19 = .ok (.iload_n 2, 1) := by decide +kernel
theorem dX3_findingAt_20 : decode mX3_findingAt.2.1 20 = .ok (.aload_n 0, 1) := by decide +kernel
theorem dX3_findingAt_21 : decode mX3_findingAt.2.1 21 = .ok (.getfield 19, 3) := by decide +kernel
theorem dX3_findingAt_24 : decode mX3_findingAt.2.1 24 = .ok (.invokestatic 32, 3) := by decide +kernel
theorem dX3_findingAt_27 : decode mX3_findingAt.2.1 27 = .ok (.ifCond .eq 7, 3) := by decide +kernel
theorem dX3_findingAt_30 : decode mX3_findingAt.2.1 30 = .ok (.iconst 0, 1) := by decide +kernel
theorem dX3_findingAt_31 : decode mX3_findingAt.2.1 31 = .ok (.goto 4, 3) := by decide +kernel
theorem dX3_findingAt_34 : decode mX3_findingAt.2.1 34 = .ok (.iconst 2, 1) := by decide +kernel
theorem dX3_findingAt_35 : decode mX3_findingAt.2.1 35 = .ok (.ireturn, 1) := by decide +kernel
def fn_X3_findingAt (b : Nat) (x1 : Int32) (x2 : Int32) (σ : Sg) : Option Int32 :=
  (if (σ b 0) = 0 then (if x1 = (σ b 1) then (Option.bind (fn_X6_isBelow x2 (σ b 2) σ) fun q18 =>
  (if q18 = 0 then (some 2)
  else (some 0)))
  else (some 3))
  else (some 1))
set_option maxRecDepth 20000 in
set_option maxHeartbeats 4000000 in
theorem im_X3_findingAt (b : Nat) (hb : ag_R b) (x1 : Int32) (x2 : Int32) (σ : Sg) : Im yX3_findingAt mX3_findingAt 1 21 (jI σ) [.ref b, .int x1, .int x2] σ (fn_X3_findingAt b x1 x2 σ) := by
  refine Im.of (by decide +kernel) rfl rfl (Nat.le_of_ble_eq_true rfl) ?_
  show Ev mX3_findingAt 1 21 (jI σ) 0 [(0, .ref b), (1, .int x1), (2, .int x2)] [] σ (fn_X3_findingAt b x1 x2 σ)
  unfold fn_X3_findingAt
  refine ev_aload_n (pc := 0) (i := 0) 0 dX3_findingAt_0 rfl rfl ?_
  refine ev_getI (pc := 1) 0 ag_C3 (ag_Rk hb).1 (ag_Rk hb).2 (Nat.le_of_ble_eq_true rfl) (ag_Rt0 hb) rfl ag_fl_X3_9 dX3_findingAt_1 ?_
  refine ev_if_eq (pc := 4) (tgt := 9) dX3_findingAt_4 rfl ?_ ?_
  · refine ev_iload_n (pc := 9) (i := 1) 1 dX3_findingAt_9 rfl rfl ?_
    refine ev_aload_n (pc := 10) (i := 0) 0 dX3_findingAt_10 rfl rfl ?_
    refine ev_getI (pc := 11) 1 ag_C3 (ag_Rk hb).1 (ag_Rk hb).2 (Nat.le_of_ble_eq_true rfl) (ag_Rt1 hb) rfl ag_fl_X3_15 dX3_findingAt_11 ?_
    refine ev_icmp_eq (pc := 14) (tgt := 19) dX3_findingAt_14 rfl ?_ ?_
    · refine ev_iload_n (pc := 19) (i := 2) 2 dX3_findingAt_19 rfl rfl ?_
      refine ev_aload_n (pc := 20) (i := 0) 0 dX3_findingAt_20 rfl rfl ?_
      refine ev_getI (pc := 21) 2 ag_C3 (ag_Rk hb).1 (ag_Rk hb).2 (Nat.le_of_ble_eq_true rfl) (ag_Rt2 hb) rfl ag_fl_X3_19 dX3_findingAt_21 ?_
      refine ev_nI (pc := 24) (as := [.int x2, .int (σ b 2)]) (rest := []) rfl ms_X6_isBelow rfl (Nat.le_of_ble_eq_true rfl) ⟨(Nat.le_of_ble_eq_true rfl), (Nat.le_of_ble_eq_true rfl)⟩ dX3_findingAt_24 (im_X6_isBelow x2 (σ b 2) σ) (fun q18 => ?_)
      refine ev_if_eq (pc := 27) (tgt := 34) dX3_findingAt_27 rfl ?_ ?_
      · refine ev_iconst (pc := 34) (v := 2) dX3_findingAt_34 (by decide) ?_
        exact ev_irI rfl dX3_findingAt_35
      · refine ev_iconst (pc := 30) (v := 0) dX3_findingAt_30 (by decide) ?_
        refine ev_goto (pc := 31) (tgt := 35) dX3_findingAt_31 rfl ?_
        exact ev_irI rfl dX3_findingAt_35
    · refine ev_iconst (pc := 17) (v := 3) dX3_findingAt_17 (by decide) ?_
      exact ev_irI rfl dX3_findingAt_18
  · refine ev_iconst (pc := 7) (v := 1) dX3_findingAt_7 (by decide) ?_
    exact ev_irI rfl dX3_findingAt_8
-- X3_hasStretch
def mX3_hasStretch : Md := (RX3, cX3_hasStretch, 3, some .boolean, none)
theorem mv_X3_hasStretch : ag_Mv yX3_hasStretch mX3_hasStretch 2 := ⟨ag_co_X3_hasStretch, ag_im_X3_hasStretch, ag_se_X3_hasStretch, ag_ini_X3, by decide +kernel⟩
theorem dX3_hasStretch_0 : decode mX3_hasStretch.2.1 0 = .ok (.iload_n 1, 1) := by decide +kernel
theorem dX3_hasStretch_1 : decode mX3_hasStretch.2.1 1 = .ok (.ifCond .lt 29, 3) := by decide +kernel
theorem dX3_hasStretch_4 : decode mX3_hasStretch.2.1 4 = .ok (.iload_n 2, 1) := by decide +kernel
theorem dX3_hasStretch_5 : decode mX3_hasStretch.2.1 5 = .ok (.ifCond .lt 25, 3) := by decide +kernel
theorem dX3_hasStretch_8 : decode mX3_hasStretch.2.1 8 = .ok (.iload_n 1, 1) := by decide +kernel
theorem dX3_hasStretch_9 : decode mX3_hasStretch.2.1 9 = .ok (.aload_n 0, 1) := by decide +kernel
theorem dX3_hasStretch_10 : decode mX3_hasStretch.2.1 10 = .ok (.getfield 19, 3) := by decide +kernel
theorem dX3_hasStretch_13 : decode mX3_hasStretch.2.1 13 = .ok (.if_icmp .gt 17, 3) := by decide +kernel
theorem dX3_hasStretch_16 : decode mX3_hasStretch.2.1 16 = .ok (.iload_n 2, 1) := by decide +kernel
theorem dX3_hasStretch_17 : decode mX3_hasStretch.2.1 17 = .ok (.aload_n 0, 1) := by decide +kernel
theorem dX3_hasStretch_18 : decode mX3_hasStretch.2.1 18 = .ok (.getfield 19, 3) := by decide +kernel
theorem dX3_hasStretch_21 : decode mX3_hasStretch.2.1 21 = .ok (.iload_n 1, 1) := by decide +kernel
theorem dX3_hasStretch_22 : decode mX3_hasStretch.2.1 22 = .ok (.isub, 1) := by decide +kernel
theorem dX3_hasStretch_23 : decode mX3_hasStretch.2.1 23 = .ok (.if_icmp .gt 7, 3) := by decide +kernel
theorem dX3_hasStretch_26 : decode mX3_hasStretch.2.1 26 = .ok (.iconst 1, 1) := by decide +kernel
theorem dX3_hasStretch_27 : decode mX3_hasStretch.2.1 27 = .ok (.goto 4, 3) := by decide +kernel
theorem dX3_hasStretch_30 : decode mX3_hasStretch.2.1 30 = .ok (.iconst 0, 1) := by decide +kernel
theorem dX3_hasStretch_31 : decode mX3_hasStretch.2.1 31 = .ok (.ireturn, 1) := by decide +kernel
def fn_X3_hasStretch (b : Nat) (x1 : Int32) (x2 : Int32) (σ : Sg) : Option Int32 :=
  (if x1 < 0 then (some 0)
  else (if x2 < 0 then (some 0)
  else (if (σ b 2) < x1 then (some 0)
  else (if ((σ b 2) - x1) < x2 then (some 0)
  else (some 1)))))
set_option maxRecDepth 20000 in
set_option maxHeartbeats 4000000 in
theorem im_X3_hasStretch (b : Nat) (hb : ag_R b) (x1 : Int32) (x2 : Int32) (σ : Sg) : Im yX3_hasStretch mX3_hasStretch 0 0 (jI σ) [.ref b, .int x1, .int x2] σ (fn_X3_hasStretch b x1 x2 σ) := by
  refine Im.of (by decide +kernel) rfl rfl (Nat.le_of_ble_eq_true rfl) ?_
  show Ev mX3_hasStretch 0 0 (jI σ) 0 [(0, .ref b), (1, .int x1), (2, .int x2)] [] σ (fn_X3_hasStretch b x1 x2 σ)
  unfold fn_X3_hasStretch
  refine ev_iload_n (pc := 0) (i := 1) 1 dX3_hasStretch_0 rfl rfl ?_
  refine ev_if_lt (pc := 1) (tgt := 30) dX3_hasStretch_1 rfl ?_ ?_
  · refine ev_iconst (pc := 30) (v := 0) dX3_hasStretch_30 (by decide) ?_
    exact ev_brI rfl rfl dX3_hasStretch_31
  · refine ev_iload_n (pc := 4) (i := 2) 2 dX3_hasStretch_4 rfl rfl ?_
    refine ev_if_lt (pc := 5) (tgt := 30) dX3_hasStretch_5 rfl ?_ ?_
    · refine ev_iconst (pc := 30) (v := 0) dX3_hasStretch_30 (by decide) ?_
      exact ev_brI rfl rfl dX3_hasStretch_31
    · refine ev_iload_n (pc := 8) (i := 1) 1 dX3_hasStretch_8 rfl rfl ?_
      refine ev_aload_n (pc := 9) (i := 0) 0 dX3_hasStretch_9 rfl rfl ?_
      refine ev_getI (pc := 10) 2 ag_C3 (ag_Rk hb).1 (ag_Rk hb).2 (Nat.le_of_ble_eq_true rfl) (ag_Rt2 hb) rfl ag_fl_X3_19 dX3_hasStretch_10 ?_
      refine ev_icmp_gt (pc := 13) (tgt := 30) dX3_hasStretch_13 rfl ?_ ?_
      · refine ev_iconst (pc := 30) (v := 0) dX3_hasStretch_30 (by decide) ?_
        exact ev_brI rfl rfl dX3_hasStretch_31
      · refine ev_iload_n (pc := 16) (i := 2) 2 dX3_hasStretch_16 rfl rfl ?_
        refine ev_aload_n (pc := 17) (i := 0) 0 dX3_hasStretch_17 rfl rfl ?_
        refine ev_getI (pc := 18) 2 ag_C3 (ag_Rk hb).1 (ag_Rk hb).2 (Nat.le_of_ble_eq_true rfl) (ag_Rt2 hb) rfl ag_fl_X3_19 dX3_hasStretch_18 ?_
        refine ev_iload_n (pc := 21) (i := 1) 1 dX3_hasStretch_21 rfl rfl ?_
        refine ev_isub (pc := 22) dX3_hasStretch_22 ?_
        refine ev_icmp_gt (pc := 23) (tgt := 30) dX3_hasStretch_23 rfl ?_ ?_
        · refine ev_iconst (pc := 30) (v := 0) dX3_hasStretch_30 (by decide) ?_
          exact ev_brI rfl rfl dX3_hasStretch_31
        · refine ev_iconst (pc := 26) (v := 1) dX3_hasStretch_26 (by decide) ?_
          refine ev_goto (pc := 27) (tgt := 31) dX3_hasStretch_27 rfl ?_
          exact ev_brI rfl rfl dX3_hasStretch_31
-- X3_setItem
def mX3_setItem : Md := (RX3, cX3_setItem, 3, none, none)
theorem mv_X3_setItem : ag_Mv yX3_setItem mX3_setItem 2 := ⟨ag_co_X3_setItem, ag_im_X3_setItem, ag_se_X3_setItem, ag_ini_X3, by decide +kernel⟩
theorem dX3_setItem_0 : decode mX3_setItem.2.1 0 = .ok (.iload_n 1, 1) := by decide +kernel
theorem dX3_setItem_1 : decode mX3_setItem.2.1 1 = .ok (.aload_n 0, 1) := by decide +kernel
theorem dX3_setItem_2 : decode mX3_setItem.2.1 2 = .ok (.getfield 19, 3) := by decide +kernel
theorem dX3_setItem_5 : decode mX3_setItem.2.1 5 = .ok (.invokestatic 32, 3) := by decide +kernel
theorem dX3_setItem_8 : decode mX3_setItem.2.1 8 = .ok (.ifCond .ne 4, 3) := by decide +kernel
theorem dX3_setItem_11 : decode mX3_setItem.2.1 11 = .ok (.return_, 1) := by decide +kernel
theorem dX3_setItem_12 : decode mX3_setItem.2.1 12 = .ok (.aload_n 0, 1) := by decide +kernel
theorem dX3_setItem_13 : decode mX3_setItem.2.1 13 = .ok (.getfield 22, 3) := by decide +kernel
theorem dX3_setItem_16 : decode mX3_setItem.2.1 16 = .ok (.iload_n 1, 1) := by decide +kernel
theorem dX3_setItem_17 : decode mX3_setItem.2.1 17 = .ok (.aload_n 0, 1) := by decide +kernel
theorem dX3_setItem_18 : decode mX3_setItem.2.1 18 = .ok (.getfield 15, 3) := by decide +kernel
theorem dX3_setItem_21 : decode mX3_setItem.2.1 21 = .ok (.ifCond .ne 8, 3) := by decide +kernel
theorem dX3_setItem_24 : decode mX3_setItem.2.1 24 = .ok (.iload_n 2, 1) := by decide +kernel
theorem dX3_setItem_25 : decode mX3_setItem.2.1 25 = .ok (.i2b, 1) := by decide +kernel
theorem dX3_setItem_26 : decode mX3_setItem.2.1 26 = .ok (.goto 17, 3) := by decide +kernel
theorem dX3_setItem_29 : decode mX3_setItem.2.1 29 = .ok (.aload_n 0, 1) := by decide +kernel
theorem dX3_setItem_30 : decode mX3_setItem.2.1 30 = .ok (.getfield 15, 3) := by decide +kernel
theorem dX3_setItem_33 : decode mX3_setItem.2.1 33 = .ok (.iconst 1, 1) := by decide +kernel
theorem dX3_setItem_34 : decode mX3_setItem.2.1 34 = .ok (.if_icmp .ne 8, 3) := by decide +kernel
theorem dX3_setItem_37 : decode mX3_setItem.2.1 37 = .ok (.iload_n 2, 1) := by decide +kernel
theorem dX3_setItem_38 : decode mX3_setItem.2.1 38 = .ok (.i2s, 1) := by decide +kernel
theorem dX3_setItem_39 : decode mX3_setItem.2.1 39 = .ok (.goto 4, 3) := by decide +kernel
theorem dX3_setItem_42 : decode mX3_setItem.2.1 42 = .ok (.iload_n 2, 1) := by decide +kernel
theorem dX3_setItem_43 : decode mX3_setItem.2.1 43 = .ok (.iastore, 1) := by decide +kernel
theorem dX3_setItem_44 : decode mX3_setItem.2.1 44 = .ok (.return_, 1) := by decide +kernel
def fn_X3_setItem_b43 (b : Nat) (x1 : Int32) (x2 : Int32)  (s1 : Int32) (s2 : Int32) (σ : Sg) : Option Sg :=
  (if ag_ib s1 48 = true then (some (ag_up σ (b + 1) s1.toNatClampNeg s2)) else none)
set_option maxRecDepth 20000 in
set_option maxHeartbeats 4000000 in
theorem ev_X3_setItem_b43 (b : Nat) (hb : ag_R b) (x1 : Int32) (x2 : Int32)  (s1 : Int32) (s2 : Int32) (σ : Sg) : Ev mX3_setItem 1 21 jV 43 [(0, .ref b), (1, .int x1), (2, .int x2)] [.int s2, .int s1, .ref (b + 1)] σ (fn_X3_setItem_b43 b x1 x2 s1 s2 σ) := by
  unfold fn_X3_setItem_b43
  refine ev_iast (pc := 43) (ag_Ra1 hb).1 (ag_Ra1 hb).2 dX3_setItem_43 ?_
  exact ev_rV rfl dX3_setItem_44
def fn_X3_setItem (b : Nat) (x1 : Int32) (x2 : Int32) (σ : Sg) : Option Sg :=
  (Option.bind (fn_X6_isBelow x1 (σ b 2) σ) fun q19 =>
  (if q19 = 0 then (some σ)
  else (if (σ b 1) = 0 then (fn_X3_setItem_b43 b x1 x2 x1 x2.toInt8.toInt32 σ)
  else (if (σ b 1) = 1 then (fn_X3_setItem_b43 b x1 x2 x1 x2.toInt16.toInt32 σ)
  else (fn_X3_setItem_b43 b x1 x2 x1 x2 σ)))))
set_option maxRecDepth 20000 in
set_option maxHeartbeats 4000000 in
theorem im_X3_setItem (b : Nat) (hb : ag_R b) (x1 : Int32) (x2 : Int32) (σ : Sg) : Im yX3_setItem mX3_setItem 1 21 jV [.ref b, .int x1, .int x2] σ (fn_X3_setItem b x1 x2 σ) := by
  refine Im.of (by decide +kernel) rfl rfl (Nat.le_of_ble_eq_true rfl) ?_
  show Ev mX3_setItem 1 21 jV 0 [(0, .ref b), (1, .int x1), (2, .int x2)] [] σ (fn_X3_setItem b x1 x2 σ)
  unfold fn_X3_setItem
  refine ev_iload_n (pc := 0) (i := 1) 1 dX3_setItem_0 rfl rfl ?_
  refine ev_aload_n (pc := 1) (i := 0) 0 dX3_setItem_1 rfl rfl ?_
  refine ev_getI (pc := 2) 2 ag_C3 (ag_Rk hb).1 (ag_Rk hb).2 (Nat.le_of_ble_eq_true rfl) (ag_Rt2 hb) rfl ag_fl_X3_19 dX3_setItem_2 ?_
  refine ev_nI (pc := 5) (as := [.int x1, .int (σ b 2)]) (rest := []) rfl ms_X6_isBelow rfl (Nat.le_of_ble_eq_true rfl) ⟨(Nat.le_of_ble_eq_true rfl), (Nat.le_of_ble_eq_true rfl)⟩ dX3_setItem_5 (im_X6_isBelow x1 (σ b 2) σ) (fun q19 => ?_)
  refine ev_if_ne (pc := 8) (tgt := 12) dX3_setItem_8 rfl ?_ ?_
  · exact ev_rV rfl dX3_setItem_11
  · refine ev_aload_n (pc := 12) (i := 0) 0 dX3_setItem_12 rfl rfl ?_
    refine ev_getR (pc := 13) (t := (b + 1)) 3 ag_C3 (ag_Rk hb).1 (ag_Rk hb).2 (Nat.le_of_ble_eq_true rfl) (ag_Rt3 hb) rfl ag_fl_X3_22 dX3_setItem_13 ?_
    refine ev_iload_n (pc := 16) (i := 1) 1 dX3_setItem_16 rfl rfl ?_
    refine ev_aload_n (pc := 17) (i := 0) 0 dX3_setItem_17 rfl rfl ?_
    refine ev_getI (pc := 18) 1 ag_C3 (ag_Rk hb).1 (ag_Rk hb).2 (Nat.le_of_ble_eq_true rfl) (ag_Rt1 hb) rfl ag_fl_X3_15 dX3_setItem_18 ?_
    refine ev_if_ne (pc := 21) (tgt := 29) dX3_setItem_21 rfl ?_ ?_
    · refine ev_iload_n (pc := 24) (i := 2) 2 dX3_setItem_24 rfl rfl ?_
      refine ev_i2b (pc := 25) dX3_setItem_25 ?_
      refine ev_goto (pc := 26) (tgt := 43) dX3_setItem_26 rfl ?_
      exact ev_X3_setItem_b43 b hb x1 x2 x1 x2.toInt8.toInt32 σ
    · refine ev_aload_n (pc := 29) (i := 0) 0 dX3_setItem_29 rfl rfl ?_
      refine ev_getI (pc := 30) 1 ag_C3 (ag_Rk hb).1 (ag_Rk hb).2 (Nat.le_of_ble_eq_true rfl) (ag_Rt1 hb) rfl ag_fl_X3_15 dX3_setItem_30 ?_
      refine ev_iconst (pc := 33) (v := 1) dX3_setItem_33 (by decide) ?_
      refine ev_icmp_ne (pc := 34) (tgt := 42) dX3_setItem_34 rfl ?_ ?_
      · refine ev_iload_n (pc := 37) (i := 2) 2 dX3_setItem_37 rfl rfl ?_
        refine ev_i2s (pc := 38) dX3_setItem_38 ?_
        refine ev_goto (pc := 39) (tgt := 43) dX3_setItem_39 rfl ?_
        exact ev_X3_setItem_b43 b hb x1 x2 x1 x2.toInt16.toInt32 σ
      · refine ev_iload_n (pc := 42) (i := 2) 2 dX3_setItem_42 rfl rfl ?_
        exact ev_X3_setItem_b43 b hb x1 x2 x1 x2 σ
-- X4_isFigure
def mX4_isFigure : Md := (RX4, cX4_isFigure, 1, some .boolean, none)
theorem ms_X4_isFigure : ag_Ms yX4_isFigure mX4_isFigure 1 := ⟨ag_co_X4_isFigure, ag_st_X4_isFigure, ag_ini_X4, by decide +kernel⟩
theorem dX4_isFigure_0 : decode mX4_isFigure.2.1 0 = .ok (.iload_n 0, 1) := by decide +kernel
theorem dX4_isFigure_1 : decode mX4_isFigure.2.1 1 = .ok (.bipush 48, 2) := by decide +kernel
theorem dX4_isFigure_3 : decode mX4_isFigure.2.1 3 = .ok (.if_icmp .lt 13, 3) := by decide +kernel
theorem dX4_isFigure_6 : decode mX4_isFigure.2.1 6 = .ok (.iload_n 0, 1) := by decide +kernel
theorem dX4_isFigure_7 : decode mX4_isFigure.2.1 7 = .ok (.bipush 57, 2) := by decide +kernel
theorem dX4_isFigure_9 : decode mX4_isFigure.2.1 9 = .ok (.if_icmp .gt 7, 3) := by decide +kernel
theorem dX4_isFigure_12 : decode mX4_isFigure.2.1 12 = .ok (.iconst 1, 1) := by decide +kernel
theorem dX4_isFigure_13 : decode mX4_isFigure.2.1 13 = .ok (.goto 4, 3) := by decide +kernel
theorem dX4_isFigure_16 : decode mX4_isFigure.2.1 16 = .ok (.iconst 0, 1) := by decide +kernel
theorem dX4_isFigure_17 : decode mX4_isFigure.2.1 17 = .ok (.ireturn, 1) := by decide +kernel
def fn_X4_isFigure (x0 : Int32) (σ : Sg) : Option Int32 :=
  (if x0 < 48 then (some 0)
  else (if 57 < x0 then (some 0)
  else (some 1)))
set_option maxRecDepth 20000 in
set_option maxHeartbeats 4000000 in
theorem im_X4_isFigure (x0 : Int32) (σ : Sg) : Im yX4_isFigure mX4_isFigure 0 0 (jI σ) [.int x0] σ (fn_X4_isFigure x0 σ) := by
  refine Im.of (by decide +kernel) rfl rfl (Nat.le_of_ble_eq_true rfl) ?_
  show Ev mX4_isFigure 0 0 (jI σ) 0 [(0, .int x0)] [] σ (fn_X4_isFigure x0 σ)
  unfold fn_X4_isFigure
  refine ev_iload_n (pc := 0) (i := 0) 0 dX4_isFigure_0 rfl rfl ?_
  refine ev_bipush (pc := 1) (v := 48) dX4_isFigure_1 (by decide) ?_
  refine ev_icmp_lt (pc := 3) (tgt := 16) dX4_isFigure_3 rfl ?_ ?_
  · refine ev_iconst (pc := 16) (v := 0) dX4_isFigure_16 (by decide) ?_
    exact ev_brI rfl rfl dX4_isFigure_17
  · refine ev_iload_n (pc := 6) (i := 0) 0 dX4_isFigure_6 rfl rfl ?_
    refine ev_bipush (pc := 7) (v := 57) dX4_isFigure_7 (by decide) ?_
    refine ev_icmp_gt (pc := 9) (tgt := 16) dX4_isFigure_9 rfl ?_ ?_
    · refine ev_iconst (pc := 16) (v := 0) dX4_isFigure_16 (by decide) ?_
      exact ev_brI rfl rfl dX4_isFigure_17
    · refine ev_iconst (pc := 12) (v := 1) dX4_isFigure_12 (by decide) ?_
      refine ev_goto (pc := 13) (tgt := 17) dX4_isFigure_13 rfl ?_
      exact ev_brI rfl rfl dX4_isFigure_17
-- X4_goesOn
def mX4_goesOn : Md := (RX4, cX4_goesOn, 3, some .boolean, none)
theorem mv_X4_goesOn : ag_Mv yX4_goesOn mX4_goesOn 1 := ⟨ag_co_X4_goesOn, ag_im_X4_goesOn, ag_se_X4_goesOn, ag_ini_X4, by decide +kernel⟩
theorem dX4_goesOn_0 : decode mX4_goesOn.2.1 0 = .ok (.aload_n 0, 1) := by decide +kernel
theorem dX4_goesOn_1 : decode mX4_goesOn.2.1 1 = .ok (.getfield 11, 3) := by decide +kernel
theorem dX4_goesOn_4 : decode mX4_goesOn.2.1 4 = .ok (.iload_n 1, 1) := by decide +kernel
theorem dX4_goesOn_5 : decode mX4_goesOn.2.1 5 = .ok (.iaload, 1) := by decide +kernel
theorem dX4_goesOn_6 : decode mX4_goesOn.2.1 6 = .ok (.istore_n 2, 1) := by decide +kernel
theorem dX4_goesOn_7 : decode mX4_goesOn.2.1 7 = .ok (.iload_n 1, 1) := by decide +kernel
theorem dX4_goesOn_8 : decode mX4_goesOn.2.1 8 = .ok (.bipush 6, 2) := by decide +kernel
theorem dX4_goesOn_10 : decode mX4_goesOn.2.1 10 = .ok (.irem, 1) := by decide +kernel
theorem dX4_goesOn_11 : decode mX4_goesOn.2.1 11 = .ok (.tableswitch 93 3 5 #[25, 57, 81], 25) := by decide +kernel
theorem dX4_goesOn_36 : decode mX4_goesOn.2.1 36 = .ok (.iload_n 2, 1) := by decide +kernel
theorem dX4_goesOn_37 : decode mX4_goesOn.2.1 37 = .ok (.invokestatic 23, 3) := by decide +kernel
theorem dX4_goesOn_40 : decode mX4_goesOn.2.1 40 = .ok (.ifCond .eq 26, 3) := by decide +kernel
theorem dX4_goesOn_43 : decode mX4_goesOn.2.1 43 = .ok (.iload_n 2, 1) := by decide +kernel
theorem dX4_goesOn_44 : decode mX4_goesOn.2.1 44 = .ok (.bipush 48, 2) := by decide +kernel
theorem dX4_goesOn_46 : decode mX4_goesOn.2.1 46 = .ok (.if_icmp .ne 16, 3) := by decide +kernel
theorem dX4_goesOn_49 : decode mX4_goesOn.2.1 49 = .ok (.aload_n 0, 1) := by decide +kernel
theorem dX4_goesOn_50 : decode mX4_goesOn.2.1 50 = .ok (.getfield 11, 3) := by decide +kernel
theorem dX4_goesOn_53 : decode mX4_goesOn.2.1 53 = .ok (.iload_n 1, 1) := by decide +kernel
theorem dX4_goesOn_54 : decode mX4_goesOn.2.1 54 = .ok (.iconst 1, 1) := by decide +kernel
theorem dX4_goesOn_55 : decode mX4_goesOn.2.1 55 = .ok (.isub, 1) := by decide +kernel
theorem dX4_goesOn_56 : decode mX4_goesOn.2.1 56 = .ok (.iaload, 1) := by decide +kernel
theorem dX4_goesOn_57 : decode mX4_goesOn.2.1 57 = .ok (.bipush 48, 2) := by decide +kernel
theorem dX4_goesOn_59 : decode mX4_goesOn.2.1 59 = .ok (.if_icmp .eq 7, 3) := by decide +kernel
theorem dX4_goesOn_62 : decode mX4_goesOn.2.1 62 = .ok (.iconst 1, 1) := by decide +kernel
theorem dX4_goesOn_63 : decode mX4_goesOn.2.1 63 = .ok (.goto 4, 3) := by decide +kernel
theorem dX4_goesOn_66 : decode mX4_goesOn.2.1 66 = .ok (.iconst 0, 1) := by decide +kernel
theorem dX4_goesOn_67 : decode mX4_goesOn.2.1 67 = .ok (.ireturn, 1) := by decide +kernel
theorem dX4_goesOn_68 : decode mX4_goesOn.2.1 68 = .ok (.iload_n 2, 1) := by decide +kernel
theorem dX4_goesOn_69 : decode mX4_goesOn.2.1 69 = .ok (.bipush 111, 2) := by decide +kernel
theorem dX4_goesOn_71 : decode mX4_goesOn.2.1 71 = .ok (.if_icmp .eq 15, 3) := by decide +kernel
theorem dX4_goesOn_74 : decode mX4_goesOn.2.1 74 = .ok (.iload_n 2, 1) := by decide +kernel
theorem dX4_goesOn_75 : decode mX4_goesOn.2.1 75 = .ok (.bipush 101, 2) := by decide +kernel
theorem dX4_goesOn_77 : decode mX4_goesOn.2.1 77 = .ok (.if_icmp .eq 9, 3) := by decide +kernel
theorem dX4_goesOn_80 : decode mX4_goesOn.2.1 80 = .ok (.iload_n 2, 1) := by decide +kernel
theorem dX4_goesOn_81 : decode mX4_goesOn.2.1 81 = .ok (.bipush 102, 2) := by decide +kernel
theorem dX4_goesOn_83 : decode mX4_goesOn.2.1 83 = .ok (.if_icmp .ne 7, 3) := by decide +kernel
theorem dX4_goesOn_86 : decode mX4_goesOn.2.1 86 = .ok (.iconst 1, 1) := by decide +kernel
theorem dX4_goesOn_87 : decode mX4_goesOn.2.1 87 = .ok (.goto 4, 3) := by decide +kernel
theorem dX4_goesOn_90 : decode mX4_goesOn.2.1 90 = .ok (.iconst 0, 1) := by decide +kernel
theorem dX4_goesOn_91 : decode mX4_goesOn.2.1 91 = .ok (.ireturn, 1) := by decide +kernel
theorem dX4_goesOn_92 : decode mX4_goesOn.2.1 92 = .ok (.iload_n 2, 1) := by decide +kernel
theorem dX4_goesOn_93 : decode mX4_goesOn.2.1 93 = .ok (.bipush 59, 2) := by decide +kernel
theorem dX4_goesOn_95 : decode mX4_goesOn.2.1 95 = .ok (.if_icmp .ne 7, 3) := by decide +kernel
theorem dX4_goesOn_98 : decode mX4_goesOn.2.1 98 = .ok (.iconst 1, 1) := by decide +kernel
theorem dX4_goesOn_99 : decode mX4_goesOn.2.1 99 = .ok (.goto 4, 3) := by decide +kernel
theorem dX4_goesOn_102 : decode mX4_goesOn.2.1 102 = .ok (.iconst 0, 1) := by decide +kernel
theorem dX4_goesOn_103 : decode mX4_goesOn.2.1 103 = .ok (.ireturn, 1) := by decide +kernel
theorem dX4_goesOn_104 : decode mX4_goesOn.2.1 104 = .ok (.iload_n 2, 1) := by decide +kernel
theorem dX4_goesOn_105 : decode mX4_goesOn.2.1 105 = .ok (.invokestatic 23, 3) := by decide +kernel
theorem dX4_goesOn_108 : decode mX4_goesOn.2.1 108 = .ok (.ireturn, 1) := by decide +kernel
def fn_X4_goesOn_b86 (x1 : Int32) (σ : Sg)   : Option Int32 :=
  (some 1)
set_option maxRecDepth 20000 in
set_option maxHeartbeats 4000000 in
theorem ev_X4_goesOn_b86 (x1 : Int32) (σ : Sg)   : Ev mX4_goesOn 1 20 (jI σ) 86 [(0, .ref 1), (1, .int x1)] [] σ (fn_X4_goesOn_b86 x1 σ ) := by
  unfold fn_X4_goesOn_b86
  refine ev_iconst (pc := 86) (v := 1) dX4_goesOn_86 (by decide) ?_
  refine ev_goto (pc := 87) (tgt := 91) dX4_goesOn_87 rfl ?_
  exact ev_brI rfl rfl dX4_goesOn_91
def fn_X4_goesOn_b62 (x1 : Int32) (σ : Sg)   : Option Int32 :=
  (some 1)
set_option maxRecDepth 20000 in
set_option maxHeartbeats 4000000 in
theorem ev_X4_goesOn_b62 (x1 : Int32) (σ : Sg)   : Ev mX4_goesOn 1 20 (jI σ) 62 [(0, .ref 1), (1, .int x1)] [] σ (fn_X4_goesOn_b62 x1 σ ) := by
  unfold fn_X4_goesOn_b62
  refine ev_iconst (pc := 62) (v := 1) dX4_goesOn_62 (by decide) ?_
  refine ev_goto (pc := 63) (tgt := 67) dX4_goesOn_63 rfl ?_
  exact ev_brI rfl rfl dX4_goesOn_67
def fn_X4_goesOn (x1 : Int32) (σ : Sg) : Option Int32 :=
  (if ag_ib x1 59 = true then (if (x1 - x1 / 6 * 6) = 3 then (Option.bind (fn_X4_isFigure (σ 2 x1.toNatClampNeg) σ) fun q20 =>
  (if q20 = 0 then (some 0)
  else (if (σ 2 x1.toNatClampNeg) = 48 then (if ag_ib (x1 - 1) 59 = true then (if (σ 2 (x1 - 1).toNatClampNeg) = 48 then (some 0)
  else (fn_X4_goesOn_b62 x1 σ )) else none)
  else (fn_X4_goesOn_b62 x1 σ ))))
  else (if (x1 - x1 / 6 * 6) = 4 then (if (σ 2 x1.toNatClampNeg) = 111 then (fn_X4_goesOn_b86 x1 σ )
  else (if (σ 2 x1.toNatClampNeg) = 101 then (fn_X4_goesOn_b86 x1 σ )
  else (if (σ 2 x1.toNatClampNeg) = 102 then (fn_X4_goesOn_b86 x1 σ )
  else (some 0))))
  else (if (x1 - x1 / 6 * 6) = 5 then (if (σ 2 x1.toNatClampNeg) = 59 then (some 1)
  else (some 0))
  else (Option.bind (fn_X4_isFigure (σ 2 x1.toNatClampNeg) σ) fun q21 =>
  (if ag_bl q21 = true then (some q21) else none))))) else none)
set_option maxRecDepth 20000 in
set_option maxHeartbeats 4000000 in
theorem im_X4_goesOn (x1 : Int32) (σ : Sg) : Im yX4_goesOn mX4_goesOn 1 20 (jI σ) [.ref 1, .int x1] σ (fn_X4_goesOn x1 σ) := by
  refine Im.of (by decide +kernel) rfl rfl (Nat.le_of_ble_eq_true rfl) ?_
  show Ev mX4_goesOn 1 20 (jI σ) 0 [(0, .ref 1), (1, .int x1)] [] σ (fn_X4_goesOn x1 σ)
  unfold fn_X4_goesOn
  refine ev_aload_n (pc := 0) (i := 0) 0 dX4_goesOn_0 rfl rfl ?_
  refine ev_getR (pc := 1) (t := 2) 0 ag_C4 (rfl) (by decide) (Nat.le_of_ble_eq_true rfl) rfl rfl ag_fl_X4_11 dX4_goesOn_1 ?_
  refine ev_iload_n (pc := 4) (i := 1) 1 dX4_goesOn_4 rfl rfl ?_
  refine ev_iald (pc := 5) (rfl) (by decide) dX4_goesOn_5 ?_
  refine ev_istore_n (pc := 6) (i := 2) (lv' := [(2, .int (σ 2 x1.toNatClampNeg)), (0, .ref 1), (1, .int x1)]) dX4_goesOn_6 rfl (Nat.le_of_ble_eq_true rfl) rfl ?_
  refine ev_iload_n (pc := 7) (i := 1) 2 dX4_goesOn_7 rfl rfl ?_
  refine ev_bipush (pc := 8) (v := 6) dX4_goesOn_8 (by decide) ?_
  refine ev_irem (pc := 10) dX4_goesOn_10 (by decide) ?_
  refine ev_ite (fun hc0 => ?_) (fun hc0 => ?_)
  · refine ev_tin (pc := 11) (tgt := 36) dX4_goesOn_11 (by rw [hc0]; decide) (by rw [hc0]; decide) (by rw [hc0]; rfl) rfl ?_
    refine ev_iload_n (pc := 36) (i := 2) 0 dX4_goesOn_36 rfl rfl ?_
    refine ev_sI (pc := 37) (as := [.int (σ 2 x1.toNatClampNeg)]) (rest := []) ⟨23, ms_X4_isFigure, ag_ml_X4_23, rfl, (Nat.le_of_ble_eq_true rfl), ⟨(Nat.le_of_ble_eq_true rfl), (Nat.le_of_ble_eq_true rfl)⟩, dX4_goesOn_37⟩ (im_X4_isFigure (σ 2 x1.toNatClampNeg) σ) (fun q20 => ?_)
    refine ev_if_eq (pc := 40) (tgt := 66) dX4_goesOn_40 rfl ?_ ?_
    · refine ev_iconst (pc := 66) (v := 0) dX4_goesOn_66 (by decide) ?_
      exact ev_brI rfl rfl dX4_goesOn_67
    · refine ev_iload_n (pc := 43) (i := 2) 0 dX4_goesOn_43 rfl rfl ?_
      refine ev_bipush (pc := 44) (v := 48) dX4_goesOn_44 (by decide) ?_
      refine ev_icmp_ne (pc := 46) (tgt := 62) dX4_goesOn_46 rfl ?_ ?_
      · refine ev_aload_n (pc := 49) (i := 0) 1 dX4_goesOn_49 rfl rfl ?_
        refine ev_getR (pc := 50) (t := 2) 0 ag_C4 (rfl) (by decide) (Nat.le_of_ble_eq_true rfl) rfl rfl ag_fl_X4_11 dX4_goesOn_50 ?_
        refine ev_iload_n (pc := 53) (i := 1) 2 dX4_goesOn_53 rfl rfl ?_
        refine ev_iconst (pc := 54) (v := 1) dX4_goesOn_54 (by decide) ?_
        refine ev_isub (pc := 55) dX4_goesOn_55 ?_
        refine ev_iald (pc := 56) (rfl) (by decide) dX4_goesOn_56 ?_
        refine ev_bipush (pc := 57) (v := 48) dX4_goesOn_57 (by decide) ?_
        refine ev_icmp_eq (pc := 59) (tgt := 66) dX4_goesOn_59 rfl ?_ ?_
        · refine ev_iconst (pc := 66) (v := 0) dX4_goesOn_66 (by decide) ?_
          exact ev_brI rfl rfl dX4_goesOn_67
        · refine ev_sub [1, 2] rfl ?_
          exact ev_X4_goesOn_b62 x1 σ 
      · refine ev_sub [1, 2] rfl ?_
        exact ev_X4_goesOn_b62 x1 σ 
  · skip
    refine ev_ite (fun hc1 => ?_) (fun hc1 => ?_)
    · refine ev_tin (pc := 11) (tgt := 68) dX4_goesOn_11 (by rw [hc1]; decide) (by rw [hc1]; decide) (by rw [hc1]; rfl) rfl ?_
      refine ev_iload_n (pc := 68) (i := 2) 0 dX4_goesOn_68 rfl rfl ?_
      refine ev_bipush (pc := 69) (v := 111) dX4_goesOn_69 (by decide) ?_
      refine ev_icmp_eq (pc := 71) (tgt := 86) dX4_goesOn_71 rfl ?_ ?_
      · refine ev_sub [1, 2] rfl ?_
        exact ev_X4_goesOn_b86 x1 σ 
      · refine ev_iload_n (pc := 74) (i := 2) 0 dX4_goesOn_74 rfl rfl ?_
        refine ev_bipush (pc := 75) (v := 101) dX4_goesOn_75 (by decide) ?_
        refine ev_icmp_eq (pc := 77) (tgt := 86) dX4_goesOn_77 rfl ?_ ?_
        · refine ev_sub [1, 2] rfl ?_
          exact ev_X4_goesOn_b86 x1 σ 
        · refine ev_iload_n (pc := 80) (i := 2) 0 dX4_goesOn_80 rfl rfl ?_
          refine ev_bipush (pc := 81) (v := 102) dX4_goesOn_81 (by decide) ?_
          refine ev_icmp_ne (pc := 83) (tgt := 90) dX4_goesOn_83 rfl ?_ ?_
          · refine ev_sub [1, 2] rfl ?_
            exact ev_X4_goesOn_b86 x1 σ 
          · refine ev_iconst (pc := 90) (v := 0) dX4_goesOn_90 (by decide) ?_
            exact ev_brI rfl rfl dX4_goesOn_91
    · skip
      refine ev_ite (fun hc2 => ?_) (fun hc2 => ?_)
      · refine ev_tin (pc := 11) (tgt := 92) dX4_goesOn_11 (by rw [hc2]; decide) (by rw [hc2]; decide) (by rw [hc2]; rfl) rfl ?_
        refine ev_iload_n (pc := 92) (i := 2) 0 dX4_goesOn_92 rfl rfl ?_
        refine ev_bipush (pc := 93) (v := 59) dX4_goesOn_93 (by decide) ?_
        refine ev_icmp_ne (pc := 95) (tgt := 102) dX4_goesOn_95 rfl ?_ ?_
        · refine ev_iconst (pc := 98) (v := 1) dX4_goesOn_98 (by decide) ?_
          refine ev_goto (pc := 99) (tgt := 103) dX4_goesOn_99 rfl ?_
          exact ev_brI rfl rfl dX4_goesOn_103
        · refine ev_iconst (pc := 102) (v := 0) dX4_goesOn_102 (by decide) ?_
          exact ev_brI rfl rfl dX4_goesOn_103
      · have hn0 := lv_neT (a := 3) hc0 rfl
        have hn1 := lv_neT (a := 4) hc1 rfl
        have hn2 := lv_neT (a := 5) hc2 rfl
        refine ev_tout (pc := 11) (tgt := 104) dX4_goesOn_11 (by omega) rfl ?_
        refine ev_iload_n (pc := 104) (i := 2) 0 dX4_goesOn_104 rfl rfl ?_
        refine ev_sI (pc := 105) (as := [.int (σ 2 x1.toNatClampNeg)]) (rest := []) ⟨23, ms_X4_isFigure, ag_ml_X4_23, rfl, (Nat.le_of_ble_eq_true rfl), ⟨(Nat.le_of_ble_eq_true rfl), (Nat.le_of_ble_eq_true rfl)⟩, dX4_goesOn_105⟩ (im_X4_isFigure (σ 2 x1.toNatClampNeg) σ) (fun q21 => ?_)
        exact ev_zrI rfl dX4_goesOn_108
-- X4_firstFault
def mX4_firstFault : Md := (RX4, cX4_firstFault, 2, some .int, none)
theorem mv_X4_firstFault : ag_Mv yX4_firstFault mX4_firstFault 0 := ⟨ag_co_X4_firstFault, ag_im_X4_firstFault, ag_se_X4_firstFault, ag_ini_X4, by decide +kernel⟩
theorem dX4_firstFault_0 : decode mX4_firstFault.2.1 0 = .ok (.iconst 0, 1) := by decide +kernel
theorem dX4_firstFault_1 : decode mX4_firstFault.2.1 1 = .ok (.istore_n 1, 1) := by decide +kernel
theorem dX4_firstFault_2 : decode mX4_firstFault.2.1 2 = .ok (.iload_n 1, 1) := by decide +kernel
theorem dX4_firstFault_3 : decode mX4_firstFault.2.1 3 = .ok (.aload_n 0, 1) := by decide +kernel
theorem dX4_firstFault_4 : decode mX4_firstFault.2.1 4 = .ok (.getfield 15, 3) := by decide +kernel
theorem dX4_firstFault_7 : decode mX4_firstFault.2.1 7 = .ok (.if_icmp .ge 19, 3) := by decide +kernel
theorem dX4_firstFault_10 : decode mX4_firstFault.2.1 10 = .ok (.aload_n 0, 1) := by decide +kernel
theorem dX4_firstFault_11 : decode mX4_firstFault.2.1 11 = .ok (.iload_n 1, 1) := by decide +kernel
theorem dX4_firstFault_12 : decode mX4_firstFault.2.1 12 = .ok (.invokevirtual 19, 3) := by decide +kernel
theorem dX4_firstFault_15 : decode mX4_firstFault.2.1 15 = .ok (.ifCond .ne 5, 3) := by decide +kernel
theorem dX4_firstFault_18 : decode mX4_firstFault.2.1 18 = .ok (.iload_n 1, 1) := by decide +kernel
theorem dX4_firstFault_19 : decode mX4_firstFault.2.1 19 = .ok (.ireturn, 1) := by decide +kernel
theorem dX4_firstFault_20 : decode mX4_firstFault.2.1 20 = .ok (.iinc 1 1, 3) := by decide +kernel
theorem dX4_firstFault_23 : decode mX4_firstFault.2.1 23 = .ok (.goto (-21), 3) := by decide +kernel
theorem dX4_firstFault_26 : decode mX4_firstFault.2.1 26 = .ok (.aload_n 0, 1) := by decide +kernel
theorem dX4_firstFault_27 : decode mX4_firstFault.2.1 27 = .ok (.getfield 15, 3) := by decide +kernel
theorem dX4_firstFault_30 : decode mX4_firstFault.2.1 30 = .ok (.ifCond .eq 14, 3) := by decide +kernel
theorem dX4_firstFault_33 : decode mX4_firstFault.2.1 33 = .ok (.aload_n 0, 1) := by decide +kernel
theorem dX4_firstFault_34 : decode mX4_firstFault.2.1 34 = .ok (.getfield 15, 3) := by decide +kernel
theorem dX4_firstFault_37 : decode mX4_firstFault.2.1 37 = .ok (.bipush 6, 2) := by decide +kernel
theorem dX4_firstFault_39 : decode mX4_firstFault.2.1 39 = .ok (.irem, 1) := by decide +kernel
theorem dX4_firstFault_40 : decode mX4_firstFault.2.1 40 = .ok (.iconst 5, 1) := by decide +kernel
theorem dX4_firstFault_41 : decode mX4_firstFault.2.1 41 = .ok (.if_icmp .ne 7, 3) := by decide +kernel
theorem dX4_firstFault_44 : decode mX4_firstFault.2.1 44 = .ok (.iconst (-1), 1) := by decide +kernel
theorem dX4_firstFault_45 : decode mX4_firstFault.2.1 45 = .ok (.goto 7, 3) := by decide +kernel
theorem dX4_firstFault_48 : decode mX4_firstFault.2.1 48 = .ok (.aload_n 0, 1) := by decide +kernel
theorem dX4_firstFault_49 : decode mX4_firstFault.2.1 49 = .ok (.getfield 15, 3) := by decide +kernel
theorem dX4_firstFault_52 : decode mX4_firstFault.2.1 52 = .ok (.ireturn, 1) := by decide +kernel
def fn_X4_firstFault_b44 (n : Nat)  (σ : Sg)   : Option Int32 :=
  (some (-1))
set_option maxRecDepth 20000 in
set_option maxHeartbeats 4000000 in
theorem ev_X4_firstFault_b44 (n : Nat)  (σ : Sg)   : Ev mX4_firstFault 2 42 (jI σ) 44 [(0, .ref 1)] [] σ (fn_X4_firstFault_b44 n σ ) := by
  unfold fn_X4_firstFault_b44
  refine ev_iconst (pc := 44) (v := (-1)) dX4_firstFault_44 (by decide) ?_
  refine ev_goto (pc := 45) (tgt := 52) dX4_firstFault_45 rfl ?_
  exact ev_irI rfl dX4_firstFault_52
def fn_X4_firstFault_b2 (n : Nat)  (σ : Sg)  : Nat → Int32 → Option Int32
  | 0 => fun _ => none
  | i + 1 => fun v1 =>
  (if (σ 1 1) ≤ v1 then (if (σ 1 1) = 0 then (fn_X4_firstFault_b44 n σ )
  else (if ((σ 1 1) - (σ 1 1) / 6 * 6) = 5 then (fn_X4_firstFault_b44 n σ )
  else (some (σ 1 1))))
  else (Option.bind (fn_X4_goesOn v1 σ) fun q22 =>
  (if q22 = 0 then (some v1)
  else ((fn_X4_firstFault_b2 n σ i) (v1 + 1)))))
theorem fn_X4_firstFault_b2_s (n : Nat)  (σ : Sg)  (i : Nat) (v1 : Int32) : fn_X4_firstFault_b2 n σ (i + 1) v1 =
  (if (σ 1 1) ≤ v1 then (if (σ 1 1) = 0 then (fn_X4_firstFault_b44 n σ )
  else (if ((σ 1 1) - (σ 1 1) / 6 * 6) = 5 then (fn_X4_firstFault_b44 n σ )
  else (some (σ 1 1))))
  else (Option.bind (fn_X4_goesOn v1 σ) fun q22 =>
  (if q22 = 0 then (some v1)
  else ((fn_X4_firstFault_b2 n σ i) (v1 + 1))))) := rfl
set_option maxRecDepth 20000 in
set_option maxHeartbeats 4000000 in
theorem ev_X4_firstFault_b2 (n : Nat)  (σ : Sg)  : ∀ (i : Nat) (v1 : Int32), Ev mX4_firstFault 2 42 (jI σ) 2 [(0, .ref 1), (1, .int v1)] [] σ (fn_X4_firstFault_b2 n σ i v1) := by
  intro i
  induction i with
  | zero =>
    intro v1
    exact ev_none
  | succ i ih =>
    intro v1
    rw [fn_X4_firstFault_b2_s]
    refine ev_iload_n (pc := 2) (i := 1) 1 dX4_firstFault_2 rfl rfl ?_
    refine ev_aload_n (pc := 3) (i := 0) 0 dX4_firstFault_3 rfl rfl ?_
    refine ev_getI (pc := 4) 1 ag_C4 (rfl) (by decide) (Nat.le_of_ble_eq_true rfl) rfl rfl ag_fl_X4_15 dX4_firstFault_4 ?_
    refine ev_icmp_ge (pc := 7) (tgt := 26) dX4_firstFault_7 rfl ?_ ?_
    · refine ev_aload_n (pc := 26) (i := 0) 0 dX4_firstFault_26 rfl rfl ?_
      refine ev_getI (pc := 27) 1 ag_C4 (rfl) (by decide) (Nat.le_of_ble_eq_true rfl) rfl rfl ag_fl_X4_15 dX4_firstFault_27 ?_
      refine ev_if_eq (pc := 30) (tgt := 44) dX4_firstFault_30 rfl ?_ ?_
      · refine ev_sub [0] rfl ?_
        exact ev_X4_firstFault_b44 n σ 
      · refine ev_aload_n (pc := 33) (i := 0) 0 dX4_firstFault_33 rfl rfl ?_
        refine ev_getI (pc := 34) 1 ag_C4 (rfl) (by decide) (Nat.le_of_ble_eq_true rfl) rfl rfl ag_fl_X4_15 dX4_firstFault_34 ?_
        refine ev_bipush (pc := 37) (v := 6) dX4_firstFault_37 (by decide) ?_
        refine ev_irem (pc := 39) dX4_firstFault_39 (by decide) ?_
        refine ev_iconst (pc := 40) (v := 5) dX4_firstFault_40 (by decide) ?_
        refine ev_icmp_ne (pc := 41) (tgt := 48) dX4_firstFault_41 rfl ?_ ?_
        · refine ev_sub [0] rfl ?_
          exact ev_X4_firstFault_b44 n σ 
        · refine ev_aload_n (pc := 48) (i := 0) 0 dX4_firstFault_48 rfl rfl ?_
          refine ev_getI (pc := 49) 1 ag_C4 (rfl) (by decide) (Nat.le_of_ble_eq_true rfl) rfl rfl ag_fl_X4_15 dX4_firstFault_49 ?_
          exact ev_irI rfl dX4_firstFault_52
    · refine ev_aload_n (pc := 10) (i := 0) 0 dX4_firstFault_10 rfl rfl ?_
      refine ev_iload_n (pc := 11) (i := 1) 1 dX4_firstFault_11 rfl rfl ?_
      refine ev_vI (pc := 12) (as := [.int v1]) (rest := []) ⟨4, 19, 2, TX4, tyX4, ag_C4, ⟨(rfl), (by decide)⟩, mv_X4_goesOn, ag_ml_X4_19, rfl, (Nat.le_of_ble_eq_true rfl), ⟨(Nat.le_of_ble_eq_true rfl), (Nat.le_of_ble_eq_true rfl)⟩, dX4_firstFault_12⟩ (im_X4_goesOn v1 σ) (fun q22 => ?_)
      refine ev_if_ne (pc := 15) (tgt := 20) dX4_firstFault_15 rfl ?_ ?_
      · refine ev_iload_n (pc := 18) (i := 1) 1 dX4_firstFault_18 rfl rfl ?_
        exact ev_irI rfl dX4_firstFault_19
      · refine ev_iinc (pc := 20) (v := (v1 + 1)) (lv' := [(1, .int (v1 + 1)), (0, .ref 1)]) 1 dX4_firstFault_20 rfl rfl (Nat.le_of_ble_eq_true rfl) rfl ?_
        refine ev_goto (pc := 23) (tgt := 2) dX4_firstFault_23 rfl ?_
        refine ev_sub [1, 0] rfl ?_
        exact ih (v1 + 1)
def fn_X4_firstFault (n : Nat)  (σ : Sg) : Option Int32 :=
  (fn_X4_firstFault_b2 n σ n 0)
set_option maxRecDepth 20000 in
set_option maxHeartbeats 4000000 in
theorem im_X4_firstFault (n : Nat)  (σ : Sg) : Im yX4_firstFault mX4_firstFault 2 42 (jI σ) [.ref 1] σ (fn_X4_firstFault n  σ) := by
  refine Im.of (by decide +kernel) rfl rfl (Nat.le_of_ble_eq_true rfl) ?_
  show Ev mX4_firstFault 2 42 (jI σ) 0 [(0, .ref 1)] [] σ (fn_X4_firstFault n  σ)
  unfold fn_X4_firstFault
  refine ev_iconst (pc := 0) (v := 0) dX4_firstFault_0 (by decide) ?_
  refine ev_istore_n (pc := 1) (i := 1) (lv' := [(1, .int 0), (0, .ref 1)]) dX4_firstFault_1 rfl (Nat.le_of_ble_eq_true rfl) rfl ?_
  refine ev_sub [1, 0] rfl ?_
  exact ev_X4_firstFault_b2 n σ n 0
-- X4_twoFigures
def mX4_twoFigures : Md := (RX4, cX4_twoFigures, 2, some .int, none)
theorem mv_X4_twoFigures : ag_Mv yX4_twoFigures mX4_twoFigures 1 := ⟨ag_co_X4_twoFigures, ag_im_X4_twoFigures, ag_se_X4_twoFigures, ag_ini_X4, by decide +kernel⟩
theorem dX4_twoFigures_0 : decode mX4_twoFigures.2.1 0 = .ok (.aload_n 0, 1) := by decide +kernel
theorem dX4_twoFigures_1 : decode mX4_twoFigures.2.1 1 = .ok (.getfield 11, 3) := by decide +kernel
theorem dX4_twoFigures_4 : decode mX4_twoFigures.2.1 4 = .ok (.iload_n 1, 1) := by decide +kernel
theorem dX4_twoFigures_5 : decode mX4_twoFigures.2.1 5 = .ok (.iaload, 1) := by decide +kernel
theorem dX4_twoFigures_6 : decode mX4_twoFigures.2.1 6 = .ok (.bipush 48, 2) := by decide +kernel
theorem dX4_twoFigures_8 : decode mX4_twoFigures.2.1 8 = .ok (.isub, 1) := by decide +kernel
theorem dX4_twoFigures_9 : decode mX4_twoFigures.2.1 9 = .ok (.bipush 10, 2) := by decide +kernel
theorem dX4_twoFigures_11 : decode mX4_twoFigures.2.1 11 = .ok (.imul, 1) := by decide +kernel
theorem dX4_twoFigures_12 : decode mX4_twoFigures.2.1 12 = .ok (.aload_n 0, 1) := by decide +kernel
theorem dX4_twoFigures_13 : decode mX4_twoFigures.2.1 13 = .ok (.getfield 11, 3) := by decide +kernel
theorem dX4_twoFigures_16 : decode mX4_twoFigures.2.1 16 = .ok (.iload_n 1, 1) := by decide +kernel
theorem dX4_twoFigures_17 : decode mX4_twoFigures.2.1 17 = .ok (.iconst 1, 1) := by decide +kernel
theorem dX4_twoFigures_18 : decode mX4_twoFigures.2.1 18 = .ok (.iadd, 1) := by decide +kernel
theorem dX4_twoFigures_19 : decode mX4_twoFigures.2.1 19 = .ok (.iaload, 1) := by decide +kernel
theorem dX4_twoFigures_20 : decode mX4_twoFigures.2.1 20 = .ok (.iadd, 1) := by decide +kernel
theorem dX4_twoFigures_21 : decode mX4_twoFigures.2.1 21 = .ok (.bipush 48, 2) := by decide +kernel
theorem dX4_twoFigures_23 : decode mX4_twoFigures.2.1 23 = .ok (.isub, 1) := by decide +kernel
theorem dX4_twoFigures_24 : decode mX4_twoFigures.2.1 24 = .ok (.ireturn, 1) := by decide +kernel
def fn_X4_twoFigures (x1 : Int32) (σ : Sg) : Option Int32 :=
  (if ag_ib x1 59 = true then (if ag_ib (x1 + 1) 59 = true then (some (((((σ 2 x1.toNatClampNeg) - 48) * 10) + (σ 2 (x1 + 1).toNatClampNeg)) - 48)) else none) else none)
set_option maxRecDepth 20000 in
set_option maxHeartbeats 4000000 in
theorem im_X4_twoFigures (x1 : Int32) (σ : Sg) : Im yX4_twoFigures mX4_twoFigures 0 0 (jI σ) [.ref 1, .int x1] σ (fn_X4_twoFigures x1 σ) := by
  refine Im.of (by decide +kernel) rfl rfl (Nat.le_of_ble_eq_true rfl) ?_
  show Ev mX4_twoFigures 0 0 (jI σ) 0 [(0, .ref 1), (1, .int x1)] [] σ (fn_X4_twoFigures x1 σ)
  unfold fn_X4_twoFigures
  refine ev_aload_n (pc := 0) (i := 0) 0 dX4_twoFigures_0 rfl rfl ?_
  refine ev_getR (pc := 1) (t := 2) 0 ag_C4 (rfl) (by decide) (Nat.le_of_ble_eq_true rfl) rfl rfl ag_fl_X4_11 dX4_twoFigures_1 ?_
  refine ev_iload_n (pc := 4) (i := 1) 1 dX4_twoFigures_4 rfl rfl ?_
  refine ev_iald (pc := 5) (rfl) (by decide) dX4_twoFigures_5 ?_
  refine ev_bipush (pc := 6) (v := 48) dX4_twoFigures_6 (by decide) ?_
  refine ev_isub (pc := 8) dX4_twoFigures_8 ?_
  refine ev_bipush (pc := 9) (v := 10) dX4_twoFigures_9 (by decide) ?_
  refine ev_imul (pc := 11) dX4_twoFigures_11 ?_
  refine ev_aload_n (pc := 12) (i := 0) 0 dX4_twoFigures_12 rfl rfl ?_
  refine ev_getR (pc := 13) (t := 2) 0 ag_C4 (rfl) (by decide) (Nat.le_of_ble_eq_true rfl) rfl rfl ag_fl_X4_11 dX4_twoFigures_13 ?_
  refine ev_iload_n (pc := 16) (i := 1) 1 dX4_twoFigures_16 rfl rfl ?_
  refine ev_iconst (pc := 17) (v := 1) dX4_twoFigures_17 (by decide) ?_
  refine ev_iadd (pc := 18) dX4_twoFigures_18 ?_
  refine ev_iald (pc := 19) (rfl) (by decide) dX4_twoFigures_19 ?_
  refine ev_iadd (pc := 20) dX4_twoFigures_20 ?_
  refine ev_bipush (pc := 21) (v := 48) dX4_twoFigures_21 (by decide) ?_
  refine ev_isub (pc := 23) dX4_twoFigures_23 ?_
  exact ev_irI rfl dX4_twoFigures_24
-- X4_tellPeople
def mX4_tellPeople : Md := (RX4, cX4_tellPeople, 5, none, none)
theorem mv_X4_tellPeople : ag_Mv yX4_tellPeople mX4_tellPeople 1 := ⟨ag_co_X4_tellPeople, ag_im_X4_tellPeople, ag_se_X4_tellPeople, ag_ini_X4, by decide +kernel⟩
theorem dX4_tellPeople_0 : decode mX4_tellPeople.2.1 0 = .ok (.aload_n 1, 1) := by decide +kernel
theorem dX4_tellPeople_1 : decode mX4_tellPeople.2.1 1 = .ok (.aload_n 0, 1) := by decide +kernel
theorem dX4_tellPeople_2 : decode mX4_tellPeople.2.1 2 = .ok (.invokevirtual 26, 3) := by decide +kernel
theorem dX4_tellPeople_5 : decode mX4_tellPeople.2.1 5 = .ok (.iconst (-1), 1) := by decide +kernel
theorem dX4_tellPeople_6 : decode mX4_tellPeople.2.1 6 = .ok (.if_icmp .ne 15, 3) := by decide +kernel
theorem dX4_tellPeople_9 : decode mX4_tellPeople.2.1 9 = .ok (.aload_n 0, 1) := by decide +kernel
theorem dX4_tellPeople_10 : decode mX4_tellPeople.2.1 10 = .ok (.getfield 15, 3) := by decide +kernel
theorem dX4_tellPeople_13 : decode mX4_tellPeople.2.1 13 = .ok (.iconst 1, 1) := by decide +kernel
theorem dX4_tellPeople_14 : decode mX4_tellPeople.2.1 14 = .ok (.iadd, 1) := by decide +kernel
theorem dX4_tellPeople_15 : decode mX4_tellPeople.2.1 15 = .ok (.bipush 6, 2) := by decide +kernel
theorem dX4_tellPeople_17 : decode mX4_tellPeople.2.1 17 = .ok (.idiv, 1) := by decide +kernel
theorem dX4_tellPeople_18 : decode mX4_tellPeople.2.1 18 = .ok (.goto 4, 3) := by decide +kernel
theorem dX4_tellPeople_21 : decode mX4_tellPeople.2.1 21 = .ok (.iconst 0, 1) := by decide +kernel
theorem dX4_tellPeople_22 : decode mX4_tellPeople.2.1 22 = .ok (.putfield 30, 3) := by decide +kernel
theorem dX4_tellPeople_25 : decode mX4_tellPeople.2.1 25 = .ok (.iconst 0, 1) := by decide +kernel
theorem dX4_tellPeople_26 : decode mX4_tellPeople.2.1 26 = .ok (.istore_n 2, 1) := by decide +kernel
theorem dX4_tellPeople_27 : decode mX4_tellPeople.2.1 27 = .ok (.iload_n 2, 1) := by decide +kernel
theorem dX4_tellPeople_28 : decode mX4_tellPeople.2.1 28 = .ok (.aload_n 1, 1) := by decide +kernel
theorem dX4_tellPeople_29 : decode mX4_tellPeople.2.1 29 = .ok (.getfield 30, 3) := by decide +kernel
theorem dX4_tellPeople_32 : decode mX4_tellPeople.2.1 32 = .ok (.if_icmp .ge 95, 3) := by decide +kernel
theorem dX4_tellPeople_35 : decode mX4_tellPeople.2.1 35 = .ok (.iload_n 2, 1) := by decide +kernel
theorem dX4_tellPeople_36 : decode mX4_tellPeople.2.1 36 = .ok (.bipush 6, 2) := by decide +kernel
theorem dX4_tellPeople_38 : decode mX4_tellPeople.2.1 38 = .ok (.imul, 1) := by decide +kernel
theorem dX4_tellPeople_39 : decode mX4_tellPeople.2.1 39 = .ok (.istore_n 3, 1) := by decide +kernel
theorem dX4_tellPeople_40 : decode mX4_tellPeople.2.1 40 = .ok (.aload_n 0, 1) := by decide +kernel
theorem dX4_tellPeople_41 : decode mX4_tellPeople.2.1 41 = .ok (.getfield 11, 3) := by decide +kernel
theorem dX4_tellPeople_44 : decode mX4_tellPeople.2.1 44 = .ok (.iload_n 3, 1) := by decide +kernel
theorem dX4_tellPeople_45 : decode mX4_tellPeople.2.1 45 = .ok (.iconst 4, 1) := by decide +kernel
theorem dX4_tellPeople_46 : decode mX4_tellPeople.2.1 46 = .ok (.iadd, 1) := by decide +kernel
theorem dX4_tellPeople_47 : decode mX4_tellPeople.2.1 47 = .ok (.iaload, 1) := by decide +kernel
theorem dX4_tellPeople_48 : decode mX4_tellPeople.2.1 48 = .ok (.istore 4, 2) := by decide +kernel
theorem dX4_tellPeople_50 : decode mX4_tellPeople.2.1 50 = .ok (.aload_n 1, 1) := by decide +kernel
theorem dX4_tellPeople_51 : decode mX4_tellPeople.2.1 51 = .ok (.getfield 35, 3) := by decide +kernel
theorem dX4_tellPeople_54 : decode mX4_tellPeople.2.1 54 = .ok (.iload_n 2, 1) := by decide +kernel
theorem dX4_tellPeople_55 : decode mX4_tellPeople.2.1 55 = .ok (.aload_n 0, 1) := by decide +kernel
theorem dX4_tellPeople_56 : decode mX4_tellPeople.2.1 56 = .ok (.iload_n 3, 1) := by decide +kernel
theorem dX4_tellPeople_57 : decode mX4_tellPeople.2.1 57 = .ok (.invokevirtual 38, 3) := by decide +kernel
theorem dX4_tellPeople_60 : decode mX4_tellPeople.2.1 60 = .ok (.iastore, 1) := by decide +kernel
theorem dX4_tellPeople_61 : decode mX4_tellPeople.2.1 61 = .ok (.aload_n 1, 1) := by decide +kernel
theorem dX4_tellPeople_62 : decode mX4_tellPeople.2.1 62 = .ok (.getfield 42, 3) := by decide +kernel
theorem dX4_tellPeople_65 : decode mX4_tellPeople.2.1 65 = .ok (.iload_n 2, 1) := by decide +kernel
theorem dX4_tellPeople_66 : decode mX4_tellPeople.2.1 66 = .ok (.aload_n 0, 1) := by decide +kernel
theorem dX4_tellPeople_67 : decode mX4_tellPeople.2.1 67 = .ok (.iload_n 3, 1) := by decide +kernel
theorem dX4_tellPeople_68 : decode mX4_tellPeople.2.1 68 = .ok (.iconst 2, 1) := by decide +kernel
theorem dX4_tellPeople_69 : decode mX4_tellPeople.2.1 69 = .ok (.iadd, 1) := by decide +kernel
theorem dX4_tellPeople_70 : decode mX4_tellPeople.2.1 70 = .ok (.invokevirtual 38, 3) := by decide +kernel
theorem dX4_tellPeople_73 : decode mX4_tellPeople.2.1 73 = .ok (.iastore, 1) := by decide +kernel
theorem dX4_tellPeople_74 : decode mX4_tellPeople.2.1 74 = .ok (.aload_n 1, 1) := by decide +kernel
theorem dX4_tellPeople_75 : decode mX4_tellPeople.2.1 75 = .ok (.getfield 45, 3) := by decide +kernel
theorem dX4_tellPeople_78 : decode mX4_tellPeople.2.1 78 = .ok (.iload_n 2, 1) := by decide +kernel
theorem dX4_tellPeople_79 : decode mX4_tellPeople.2.1 79 = .ok (.iload 4, 2) := by decide +kernel
theorem dX4_tellPeople_81 : decode mX4_tellPeople.2.1 81 = .ok (.bipush 101, 2) := by decide +kernel
theorem dX4_tellPeople_83 : decode mX4_tellPeople.2.1 83 = .ok (.if_icmp .ne 7, 3) := by decide +kernel
theorem dX4_tellPeople_86 : decode mX4_tellPeople.2.1 86 = .ok (.iconst 1, 1) := by decide +kernel
theorem dX4_tellPeople_87 : decode mX4_tellPeople.2.1 87 = .ok (.goto 15, 3) := by decide +kernel
theorem dX4_tellPeople_90 : decode mX4_tellPeople.2.1 90 = .ok (.iload 4, 2) := by decide +kernel
theorem dX4_tellPeople_92 : decode mX4_tellPeople.2.1 92 = .ok (.bipush 102, 2) := by decide +kernel
theorem dX4_tellPeople_94 : decode mX4_tellPeople.2.1 94 = .ok (.if_icmp .ne 7, 3) := by decide +kernel
theorem dX4_tellPeople_97 : decode mX4_tellPeople.2.1 97 = .ok (.iconst 2, 1) := by decide +kernel
theorem dX4_tellPeople_98 : decode mX4_tellPeople.2.1 98 = .ok (.goto 4, 3) := by decide +kernel
theorem dX4_tellPeople_101 : decode mX4_tellPeople.2.1 101 = .ok (.iconst 0, 1) := by decide +kernel
theorem dX4_tellPeople_102 : decode mX4_tellPeople.2.1 102 = .ok (.iastore, 1) := by decide +kernel
theorem dX4_tellPeople_103 : decode mX4_tellPeople.2.1 103 = .ok (.aload_n 1, 1) := by decide +kernel
theorem dX4_tellPeople_104 : decode mX4_tellPeople.2.1 104 = .ok (.getfield 48, 3) := by decide +kernel
theorem dX4_tellPeople_107 : decode mX4_tellPeople.2.1 107 = .ok (.iload_n 2, 1) := by decide +kernel
theorem dX4_tellPeople_108 : decode mX4_tellPeople.2.1 108 = .ok (.iload 4, 2) := by decide +kernel
theorem dX4_tellPeople_110 : decode mX4_tellPeople.2.1 110 = .ok (.bipush 102, 2) := by decide +kernel
theorem dX4_tellPeople_112 : decode mX4_tellPeople.2.1 112 = .ok (.if_icmp .ne 7, 3) := by decide +kernel
theorem dX4_tellPeople_115 : decode mX4_tellPeople.2.1 115 = .ok (.iconst 5, 1) := by decide +kernel
theorem dX4_tellPeople_116 : decode mX4_tellPeople.2.1 116 = .ok (.goto 4, 3) := by decide +kernel
theorem dX4_tellPeople_119 : decode mX4_tellPeople.2.1 119 = .ok (.iconst 0, 1) := by decide +kernel
theorem dX4_tellPeople_120 : decode mX4_tellPeople.2.1 120 = .ok (.iastore, 1) := by decide +kernel
theorem dX4_tellPeople_121 : decode mX4_tellPeople.2.1 121 = .ok (.iinc 2 1, 3) := by decide +kernel
theorem dX4_tellPeople_124 : decode mX4_tellPeople.2.1 124 = .ok (.goto (-97), 3) := by decide +kernel
theorem dX4_tellPeople_127 : decode mX4_tellPeople.2.1 127 = .ok (.return_, 1) := by decide +kernel
def fn_X4_tellPeople_b120 (n : Nat) (b1 : Nat) (k27 : Int32 → Sg → Option Sg) (v2 : Int32) (s1 : Int32) (s2 : Int32) (σ : Sg) : Option Sg :=
  (if ag_ib s1 10 = true then (k27 (v2 + 1) (ag_up σ (b1 + 4) s1.toNatClampNeg s2)) else none)
set_option maxRecDepth 20000 in
set_option maxHeartbeats 4000000 in
theorem ev_X4_tellPeople_b120 (n : Nat) (b1 : Nat) (hb1 : ag_F b1) (k27 : Int32 → Sg → Option Sg) (hk27 : ∀ (v2 : Int32) (σ : Sg), Ev mX4_tellPeople 3 63 jV 27 [(0, .ref 1), (1, .ref b1), (2, .int v2)] [] σ (k27 v2 σ)) (v2 : Int32) (s1 : Int32) (s2 : Int32) (σ : Sg) : Ev mX4_tellPeople 3 63 jV 120 [(0, .ref 1), (1, .ref b1), (2, .int v2)] [.int s2, .int s1, .ref (b1 + 4)] σ (fn_X4_tellPeople_b120 n b1 k27 v2 s1 s2 σ) := by
  unfold fn_X4_tellPeople_b120
  refine ev_iast (pc := 120) (ag_Fa4 hb1).1 (ag_Fa4 hb1).2 dX4_tellPeople_120 ?_
  refine ev_iinc (pc := 121) (v := (v2 + 1)) (lv' := [(2, .int (v2 + 1)), (0, .ref 1), (1, .ref b1)]) 2 dX4_tellPeople_121 rfl rfl (Nat.le_of_ble_eq_true rfl) rfl ?_
  refine ev_goto (pc := 124) (tgt := 27) dX4_tellPeople_124 rfl ?_
  refine ev_sub [1, 2, 0] rfl ?_
  exact hk27 (v2 + 1) (ag_up σ (b1 + 4) s1.toNatClampNeg s2)
def fn_X4_tellPeople_b102 (n : Nat) (b1 : Nat) (k27 : Int32 → Sg → Option Sg) (v2 : Int32) (v4 : Int32) (s1 : Int32) (s2 : Int32) (σ : Sg) : Option Sg :=
  (if ag_ib s1 10 = true then (if v4 = 102 then (fn_X4_tellPeople_b120 n b1 k27 v2 v2 5 (ag_up σ (b1 + 3) s1.toNatClampNeg s2))
  else (fn_X4_tellPeople_b120 n b1 k27 v2 v2 0 (ag_up σ (b1 + 3) s1.toNatClampNeg s2))) else none)
set_option maxRecDepth 20000 in
set_option maxHeartbeats 4000000 in
theorem ev_X4_tellPeople_b102 (n : Nat) (b1 : Nat) (hb1 : ag_F b1) (k27 : Int32 → Sg → Option Sg) (hk27 : ∀ (v2 : Int32) (σ : Sg), Ev mX4_tellPeople 3 63 jV 27 [(0, .ref 1), (1, .ref b1), (2, .int v2)] [] σ (k27 v2 σ)) (v2 : Int32) (v4 : Int32) (s1 : Int32) (s2 : Int32) (σ : Sg) : Ev mX4_tellPeople 3 63 jV 102 [(0, .ref 1), (1, .ref b1), (2, .int v2), (4, .int v4)] [.int s2, .int s1, .ref (b1 + 3)] σ (fn_X4_tellPeople_b102 n b1 k27 v2 v4 s1 s2 σ) := by
  unfold fn_X4_tellPeople_b102
  refine ev_iast (pc := 102) (ag_Fa3 hb1).1 (ag_Fa3 hb1).2 dX4_tellPeople_102 ?_
  refine ev_aload_n (pc := 103) (i := 1) 1 dX4_tellPeople_103 rfl rfl ?_
  refine ev_getR (pc := 104) (t := (b1 + 4)) 4 ag_C1 (ag_Fk hb1).1 (ag_Fk hb1).2 (Nat.le_of_ble_eq_true rfl) (ag_Ft4 hb1) rfl ag_fl_X4_48 dX4_tellPeople_104 ?_
  refine ev_iload_n (pc := 107) (i := 2) 2 dX4_tellPeople_107 rfl rfl ?_
  refine ev_iload (pc := 108) 3 dX4_tellPeople_108 rfl ?_
  refine ev_bipush (pc := 110) (v := 102) dX4_tellPeople_110 (by decide) ?_
  refine ev_icmp_ne (pc := 112) (tgt := 119) dX4_tellPeople_112 rfl ?_ ?_
  · refine ev_iconst (pc := 115) (v := 5) dX4_tellPeople_115 (by decide) ?_
    refine ev_goto (pc := 116) (tgt := 120) dX4_tellPeople_116 rfl ?_
    refine ev_sub [0, 1, 2] rfl ?_
    exact ev_X4_tellPeople_b120 n b1 hb1 k27 hk27 v2 v2 5 (ag_up σ (b1 + 3) s1.toNatClampNeg s2)
  · refine ev_iconst (pc := 119) (v := 0) dX4_tellPeople_119 (by decide) ?_
    refine ev_sub [0, 1, 2] rfl ?_
    exact ev_X4_tellPeople_b120 n b1 hb1 k27 hk27 v2 v2 0 (ag_up σ (b1 + 3) s1.toNatClampNeg s2)
def fn_X4_tellPeople_b27 (n : Nat) (b1 : Nat)  : Nat → Int32 → Sg → Option Sg
  | 0 => fun _ _ => none
  | i + 1 => fun v2 σ =>
  (if (σ b1 0) ≤ v2 then (some σ)
  else (if ag_ib ((v2 * 6) + 4) 59 = true then (Option.bind (fn_X4_twoFigures (v2 * 6) σ) fun q23 =>
  (if ag_ib v2 10 = true then (Option.bind (fn_X4_twoFigures ((v2 * 6) + 2) (ag_up σ (b1 + 1) v2.toNatClampNeg q23)) fun q24 =>
  (if ag_ib v2 10 = true then (ag_sg (ag_up (ag_up σ (b1 + 1) v2.toNatClampNeg q23) (b1 + 2) v2.toNatClampNeg q24) fun t25 =>
  (if (σ 2 ((v2 * 6) + 4).toNatClampNeg) = 101 then (fn_X4_tellPeople_b102 n b1 (fn_X4_tellPeople_b27 n b1 i) v2 (σ 2 ((v2 * 6) + 4).toNatClampNeg) v2 1 t25)
  else (if (σ 2 ((v2 * 6) + 4).toNatClampNeg) = 102 then (fn_X4_tellPeople_b102 n b1 (fn_X4_tellPeople_b27 n b1 i) v2 (σ 2 ((v2 * 6) + 4).toNatClampNeg) v2 2 t25)
  else (fn_X4_tellPeople_b102 n b1 (fn_X4_tellPeople_b27 n b1 i) v2 (σ 2 ((v2 * 6) + 4).toNatClampNeg) v2 0 t25)))) else none)) else none)) else none))
theorem fn_X4_tellPeople_b27_s (n : Nat) (b1 : Nat)  (i : Nat) (v2 : Int32) (σ : Sg) : fn_X4_tellPeople_b27 n b1 (i + 1) v2 σ =
  (if (σ b1 0) ≤ v2 then (some σ)
  else (if ag_ib ((v2 * 6) + 4) 59 = true then (Option.bind (fn_X4_twoFigures (v2 * 6) σ) fun q23 =>
  (if ag_ib v2 10 = true then (Option.bind (fn_X4_twoFigures ((v2 * 6) + 2) (ag_up σ (b1 + 1) v2.toNatClampNeg q23)) fun q24 =>
  (if ag_ib v2 10 = true then (ag_sg (ag_up (ag_up σ (b1 + 1) v2.toNatClampNeg q23) (b1 + 2) v2.toNatClampNeg q24) fun t25 =>
  (if (σ 2 ((v2 * 6) + 4).toNatClampNeg) = 101 then (fn_X4_tellPeople_b102 n b1 (fn_X4_tellPeople_b27 n b1 i) v2 (σ 2 ((v2 * 6) + 4).toNatClampNeg) v2 1 t25)
  else (if (σ 2 ((v2 * 6) + 4).toNatClampNeg) = 102 then (fn_X4_tellPeople_b102 n b1 (fn_X4_tellPeople_b27 n b1 i) v2 (σ 2 ((v2 * 6) + 4).toNatClampNeg) v2 2 t25)
  else (fn_X4_tellPeople_b102 n b1 (fn_X4_tellPeople_b27 n b1 i) v2 (σ 2 ((v2 * 6) + 4).toNatClampNeg) v2 0 t25)))) else none)) else none)) else none)) := rfl
set_option maxRecDepth 20000 in
set_option maxHeartbeats 4000000 in
theorem ev_X4_tellPeople_b27 (n : Nat) (b1 : Nat) (hb1 : ag_F b1)  : ∀ (i : Nat) (v2 : Int32) (σ : Sg), Ev mX4_tellPeople 3 63 jV 27 [(0, .ref 1), (1, .ref b1), (2, .int v2)] [] σ (fn_X4_tellPeople_b27 n b1 i v2 σ) := by
  intro i
  induction i with
  | zero =>
    intro v2 σ
    exact ev_none
  | succ i ih =>
    intro v2 σ
    rw [fn_X4_tellPeople_b27_s]
    refine ev_iload_n (pc := 27) (i := 2) 2 dX4_tellPeople_27 rfl rfl ?_
    refine ev_aload_n (pc := 28) (i := 1) 1 dX4_tellPeople_28 rfl rfl ?_
    refine ev_getI (pc := 29) 0 ag_C1 (ag_Fk hb1).1 (ag_Fk hb1).2 (Nat.le_of_ble_eq_true rfl) (ag_Ft0 hb1) rfl ag_fl_X4_30 dX4_tellPeople_29 ?_
    refine ev_icmp_ge (pc := 32) (tgt := 127) dX4_tellPeople_32 rfl ?_ ?_
    · exact ev_rV rfl dX4_tellPeople_127
    · refine ev_iload_n (pc := 35) (i := 2) 2 dX4_tellPeople_35 rfl rfl ?_
      refine ev_bipush (pc := 36) (v := 6) dX4_tellPeople_36 (by decide) ?_
      refine ev_imul (pc := 38) dX4_tellPeople_38 ?_
      refine ev_istore_n (pc := 39) (i := 3) (lv' := [(3, .int (v2 * 6)), (0, .ref 1), (1, .ref b1), (2, .int v2)]) dX4_tellPeople_39 rfl (Nat.le_of_ble_eq_true rfl) rfl ?_
      refine ev_aload_n (pc := 40) (i := 0) 1 dX4_tellPeople_40 rfl rfl ?_
      refine ev_getR (pc := 41) (t := 2) 0 ag_C4 (rfl) (by decide) (Nat.le_of_ble_eq_true rfl) rfl rfl ag_fl_X4_11 dX4_tellPeople_41 ?_
      refine ev_iload_n (pc := 44) (i := 3) 0 dX4_tellPeople_44 rfl rfl ?_
      refine ev_iconst (pc := 45) (v := 4) dX4_tellPeople_45 (by decide) ?_
      refine ev_iadd (pc := 46) dX4_tellPeople_46 ?_
      refine ev_iald (pc := 47) (rfl) (by decide) dX4_tellPeople_47 ?_
      refine ev_istore (pc := 48) (lv' := [(4, .int (σ 2 ((v2 * 6) + 4).toNatClampNeg)), (3, .int (v2 * 6)), (0, .ref 1), (1, .ref b1), (2, .int v2)]) dX4_tellPeople_48 (Nat.le_of_ble_eq_true rfl) rfl ?_
      refine ev_aload_n (pc := 50) (i := 1) 3 dX4_tellPeople_50 rfl rfl ?_
      refine ev_getR (pc := 51) (t := (b1 + 1)) 1 ag_C1 (ag_Fk hb1).1 (ag_Fk hb1).2 (Nat.le_of_ble_eq_true rfl) (ag_Ft1 hb1) rfl ag_fl_X4_35 dX4_tellPeople_51 ?_
      refine ev_iload_n (pc := 54) (i := 2) 4 dX4_tellPeople_54 rfl rfl ?_
      refine ev_aload_n (pc := 55) (i := 0) 2 dX4_tellPeople_55 rfl rfl ?_
      refine ev_iload_n (pc := 56) (i := 3) 1 dX4_tellPeople_56 rfl rfl ?_
      refine ev_vI (pc := 57) (as := [.int (v2 * 6)]) (rest := [.int v2, .ref (b1 + 1)]) ⟨4, 38, 2, TX4, tyX4, ag_C4, ⟨(rfl), (by decide)⟩, mv_X4_twoFigures, ag_ml_X4_38, rfl, (Nat.le_of_ble_eq_true rfl), ⟨(Nat.le_of_ble_eq_true rfl), (Nat.le_of_ble_eq_true rfl)⟩, dX4_tellPeople_57⟩ (im_X4_twoFigures (v2 * 6) σ) (fun q23 => ?_)
      refine ev_iast (pc := 60) (ag_Fa1 hb1).1 (ag_Fa1 hb1).2 dX4_tellPeople_60 ?_
      refine ev_aload_n (pc := 61) (i := 1) 3 dX4_tellPeople_61 rfl rfl ?_
      refine ev_getR (pc := 62) (t := (b1 + 2)) 2 ag_C1 (ag_Fk hb1).1 (ag_Fk hb1).2 (Nat.le_of_ble_eq_true rfl) (ag_Ft2 hb1) rfl ag_fl_X4_42 dX4_tellPeople_62 ?_
      refine ev_iload_n (pc := 65) (i := 2) 4 dX4_tellPeople_65 rfl rfl ?_
      refine ev_aload_n (pc := 66) (i := 0) 2 dX4_tellPeople_66 rfl rfl ?_
      refine ev_iload_n (pc := 67) (i := 3) 1 dX4_tellPeople_67 rfl rfl ?_
      refine ev_iconst (pc := 68) (v := 2) dX4_tellPeople_68 (by decide) ?_
      refine ev_iadd (pc := 69) dX4_tellPeople_69 ?_
      refine ev_vI (pc := 70) (as := [.int ((v2 * 6) + 2)]) (rest := [.int v2, .ref (b1 + 2)]) ⟨4, 38, 2, TX4, tyX4, ag_C4, ⟨(rfl), (by decide)⟩, mv_X4_twoFigures, ag_ml_X4_38, rfl, (Nat.le_of_ble_eq_true rfl), ⟨(Nat.le_of_ble_eq_true rfl), (Nat.le_of_ble_eq_true rfl)⟩, dX4_tellPeople_70⟩ (im_X4_twoFigures ((v2 * 6) + 2) (ag_up σ (b1 + 1) v2.toNatClampNeg q23)) (fun q24 => ?_)
      refine ev_iast (pc := 73) (ag_Fa2 hb1).1 (ag_Fa2 hb1).2 dX4_tellPeople_73 ?_
      refine ev_sg (fun t25 => ?_)
      refine ev_aload_n (pc := 74) (i := 1) 3 dX4_tellPeople_74 rfl rfl ?_
      refine ev_getR (pc := 75) (t := (b1 + 3)) 3 ag_C1 (ag_Fk hb1).1 (ag_Fk hb1).2 (Nat.le_of_ble_eq_true rfl) (ag_Ft3 hb1) rfl ag_fl_X4_45 dX4_tellPeople_75 ?_
      refine ev_iload_n (pc := 78) (i := 2) 4 dX4_tellPeople_78 rfl rfl ?_
      refine ev_iload (pc := 79) 0 dX4_tellPeople_79 rfl ?_
      refine ev_bipush (pc := 81) (v := 101) dX4_tellPeople_81 (by decide) ?_
      refine ev_icmp_ne (pc := 83) (tgt := 90) dX4_tellPeople_83 rfl ?_ ?_
      · refine ev_iconst (pc := 86) (v := 1) dX4_tellPeople_86 (by decide) ?_
        refine ev_goto (pc := 87) (tgt := 102) dX4_tellPeople_87 rfl ?_
        refine ev_sub [2, 3, 4, 0] rfl ?_
        exact ev_X4_tellPeople_b102 n b1 hb1 (fn_X4_tellPeople_b27 n b1 i) ih v2 (σ 2 ((v2 * 6) + 4).toNatClampNeg) v2 1 t25
      · refine ev_iload (pc := 90) 0 dX4_tellPeople_90 rfl ?_
        refine ev_bipush (pc := 92) (v := 102) dX4_tellPeople_92 (by decide) ?_
        refine ev_icmp_ne (pc := 94) (tgt := 101) dX4_tellPeople_94 rfl ?_ ?_
        · refine ev_iconst (pc := 97) (v := 2) dX4_tellPeople_97 (by decide) ?_
          refine ev_goto (pc := 98) (tgt := 102) dX4_tellPeople_98 rfl ?_
          refine ev_sub [2, 3, 4, 0] rfl ?_
          exact ev_X4_tellPeople_b102 n b1 hb1 (fn_X4_tellPeople_b27 n b1 i) ih v2 (σ 2 ((v2 * 6) + 4).toNatClampNeg) v2 2 t25
        · refine ev_iconst (pc := 101) (v := 0) dX4_tellPeople_101 (by decide) ?_
          refine ev_sub [2, 3, 4, 0] rfl ?_
          exact ev_X4_tellPeople_b102 n b1 hb1 (fn_X4_tellPeople_b27 n b1 i) ih v2 (σ 2 ((v2 * 6) + 4).toNatClampNeg) v2 0 t25
def fn_X4_tellPeople_b22 (n : Nat) (b1 : Nat)  (s1 : Int32) (σ : Sg) : Option Sg :=
  (fn_X4_tellPeople_b27 n b1 n 0 (ag_up σ b1 0 s1))
set_option maxRecDepth 20000 in
set_option maxHeartbeats 4000000 in
theorem ev_X4_tellPeople_b22 (n : Nat) (b1 : Nat) (hb1 : ag_F b1)  (s1 : Int32) (σ : Sg) : Ev mX4_tellPeople 3 63 jV 22 [(0, .ref 1), (1, .ref b1)] [.int s1, .ref b1] σ (fn_X4_tellPeople_b22 n b1 s1 σ) := by
  unfold fn_X4_tellPeople_b22
  refine ev_put (pc := 22) 0 ag_C1 (ag_Fk hb1).1 (ag_Fk hb1).2 (Nat.le_of_ble_eq_true rfl) (ag_Ft0 hb1) rfl ag_fl_X4_30 rfl rfl rfl dX4_tellPeople_22 ?_
  refine ev_iconst (pc := 25) (v := 0) dX4_tellPeople_25 (by decide) ?_
  refine ev_istore_n (pc := 26) (i := 2) (lv' := [(2, .int 0), (0, .ref 1), (1, .ref b1)]) dX4_tellPeople_26 rfl (Nat.le_of_ble_eq_true rfl) rfl ?_
  refine ev_sub [1, 2, 0] rfl ?_
  exact ev_X4_tellPeople_b27 n b1 hb1 n 0 (ag_up σ b1 0 s1)
def fn_X4_tellPeople (n : Nat) (b1 : Nat) (σ : Sg) : Option Sg :=
  (Option.bind (fn_X4_firstFault n σ) fun q26 =>
  (if q26 = (-1) then (fn_X4_tellPeople_b22 n b1 (((σ 1 1) + 1) / 6) σ)
  else (fn_X4_tellPeople_b22 n b1 0 σ)))
set_option maxRecDepth 20000 in
set_option maxHeartbeats 4000000 in
theorem im_X4_tellPeople (n : Nat) (b1 : Nat) (hb1 : ag_F b1) (σ : Sg) : Im yX4_tellPeople mX4_tellPeople 3 63 jV [.ref 1, .ref b1] σ (fn_X4_tellPeople n b1 σ) := by
  refine Im.of (by decide +kernel) rfl rfl (Nat.le_of_ble_eq_true rfl) ?_
  show Ev mX4_tellPeople 3 63 jV 0 [(0, .ref 1), (1, .ref b1)] [] σ (fn_X4_tellPeople n b1 σ)
  unfold fn_X4_tellPeople
  refine ev_aload_n (pc := 0) (i := 1) 1 dX4_tellPeople_0 rfl rfl ?_
  refine ev_aload_n (pc := 1) (i := 0) 0 dX4_tellPeople_1 rfl rfl ?_
  refine ev_vI (pc := 2) (as := []) (rest := [.ref b1]) ⟨4, 26, 2, TX4, tyX4, ag_C4, ⟨(rfl), (by decide)⟩, mv_X4_firstFault, ag_ml_X4_26, rfl, (Nat.le_of_ble_eq_true rfl), ⟨(Nat.le_of_ble_eq_true rfl), (Nat.le_of_ble_eq_true rfl)⟩, dX4_tellPeople_2⟩ (im_X4_firstFault n σ) (fun q26 => ?_)
  refine ev_iconst (pc := 5) (v := (-1)) dX4_tellPeople_5 (by decide) ?_
  refine ev_icmp_ne (pc := 6) (tgt := 21) dX4_tellPeople_6 rfl ?_ ?_
  · refine ev_aload_n (pc := 9) (i := 0) 0 dX4_tellPeople_9 rfl rfl ?_
    refine ev_getI (pc := 10) 1 ag_C4 (rfl) (by decide) (Nat.le_of_ble_eq_true rfl) rfl rfl ag_fl_X4_15 dX4_tellPeople_10 ?_
    refine ev_iconst (pc := 13) (v := 1) dX4_tellPeople_13 (by decide) ?_
    refine ev_iadd (pc := 14) dX4_tellPeople_14 ?_
    refine ev_bipush (pc := 15) (v := 6) dX4_tellPeople_15 (by decide) ?_
    refine ev_idiv (pc := 17) dX4_tellPeople_17 (by decide) ?_
    refine ev_goto (pc := 18) (tgt := 22) dX4_tellPeople_18 rfl ?_
    exact ev_X4_tellPeople_b22 n b1 hb1 (((σ 1 1) + 1) / 6) σ
  · refine ev_iconst (pc := 21) (v := 0) dX4_tellPeople_21 (by decide) ?_
    exact ev_X4_tellPeople_b22 n b1 hb1 0 σ
