-- by program (wip/whole/emit.py): each method as a function, and its walk
-- X5_learningYear
def mX5_learningYear : Md := (RX5, cX5_learningYear, 3, some .int, none)
theorem mv_X5_learningYear : ag_Mv yX5_learningYear mX5_learningYear 2 := ⟨ag_co_X5_learningYear, ag_im_X5_learningYear, ag_se_X5_learningYear, ag_ini_X5, by decide +kernel⟩
theorem dX5_learningYear_0 : decode mX5_learningYear.2.1 0 = .ok (.aload_n 0, 1) := by decide +kernel
theorem dX5_learningYear_1 : decode mX5_learningYear.2.1 1 = .ok (.getfield 42, 3) := by decide +kernel
theorem dX5_learningYear_4 : decode mX5_learningYear.2.1 4 = .ok (.iload_n 1, 1) := by decide +kernel
theorem dX5_learningYear_5 : decode mX5_learningYear.2.1 5 = .ok (.iaload, 1) := by decide +kernel
theorem dX5_learningYear_6 : decode mX5_learningYear.2.1 6 = .ok (.iload_n 2, 1) := by decide +kernel
theorem dX5_learningYear_7 : decode mX5_learningYear.2.1 7 = .ok (.ishr, 1) := by decide +kernel
theorem dX5_learningYear_8 : decode mX5_learningYear.2.1 8 = .ok (.iconst 1, 1) := by decide +kernel
theorem dX5_learningYear_9 : decode mX5_learningYear.2.1 9 = .ok (.iand, 1) := by decide +kernel
theorem dX5_learningYear_10 : decode mX5_learningYear.2.1 10 = .ok (.ifCond .ne 5, 3) := by decide +kernel
theorem dX5_learningYear_13 : decode mX5_learningYear.2.1 13 = .ok (.iconst (-1), 1) := by decide +kernel
theorem dX5_learningYear_14 : decode mX5_learningYear.2.1 14 = .ok (.ireturn, 1) := by decide +kernel
theorem dX5_learningYear_15 : decode mX5_learningYear.2.1 15 = .ok (.aload_n 0, 1) := by decide +kernel
theorem dX5_learningYear_16 : decode mX5_learningYear.2.1 16 = .ok (.getfield 12, 3) := by decide +kernel
theorem dX5_learningYear_19 : decode mX5_learningYear.2.1 19 = .ok (.getfield 58, 3) := by decide +kernel
theorem dX5_learningYear_22 : decode mX5_learningYear.2.1 22 = .ok (.iload_n 1, 1) := by decide +kernel
theorem dX5_learningYear_23 : decode mX5_learningYear.2.1 23 = .ok (.iaload, 1) := by decide +kernel
theorem dX5_learningYear_24 : decode mX5_learningYear.2.1 24 = .ok (.iload_n 2, 1) := by decide +kernel
theorem dX5_learningYear_25 : decode mX5_learningYear.2.1 25 = .ok (.ishr, 1) := by decide +kernel
theorem dX5_learningYear_26 : decode mX5_learningYear.2.1 26 = .ok (.iconst 1, 1) := by decide +kernel
theorem dX5_learningYear_27 : decode mX5_learningYear.2.1 27 = .ok (.iand, 1) := by decide +kernel
theorem dX5_learningYear_28 : decode mX5_learningYear.2.1 28 = .ok (.iconst 1, 1) := by decide +kernel
theorem dX5_learningYear_29 : decode mX5_learningYear.2.1 29 = .ok (.if_icmp .ne 7, 3) := by decide +kernel
theorem dX5_learningYear_32 : decode mX5_learningYear.2.1 32 = .ok (.iconst 0, 1) := by decide +kernel
theorem dX5_learningYear_33 : decode mX5_learningYear.2.1 33 = .ok (.goto 14, 3) := by decide +kernel
theorem dX5_learningYear_36 : decode mX5_learningYear.2.1 36 = .ok (.aload_n 0, 1) := by decide +kernel
theorem dX5_learningYear_37 : decode mX5_learningYear.2.1 37 = .ok (.getfield 45, 3) := by decide +kernel
theorem dX5_learningYear_40 : decode mX5_learningYear.2.1 40 = .ok (.iload_n 1, 1) := by decide +kernel
theorem dX5_learningYear_41 : decode mX5_learningYear.2.1 41 = .ok (.bipush 8, 2) := by decide +kernel
theorem dX5_learningYear_43 : decode mX5_learningYear.2.1 43 = .ok (.imul, 1) := by decide +kernel
theorem dX5_learningYear_44 : decode mX5_learningYear.2.1 44 = .ok (.iload_n 2, 1) := by decide +kernel
theorem dX5_learningYear_45 : decode mX5_learningYear.2.1 45 = .ok (.iadd, 1) := by decide +kernel
theorem dX5_learningYear_46 : decode mX5_learningYear.2.1 46 = .ok (.iaload, 1) := by decide +kernel
theorem dX5_learningYear_47 : decode mX5_learningYear.2.1 47 = .ok (.ireturn, 1) := by decide +kernel
def fn_X5_learningYear (b : Nat) (x1 : Int32) (x2 : Int32) (σ : Sg) : Option Int32 :=
  (if ag_ib x1 10 = true then (if (((σ (b + 15) x1.toNatClampNeg) >>> (x2 &&& 31)) &&& 1) = 0 then (some (-1))
  else (if ag_ib x1 10 = true then (if (((σ (b + 6) x1.toNatClampNeg) >>> (x2 &&& 31)) &&& 1) = 1 then (some 0)
  else (if ag_ib ((x1 * 8) + x2) 80 = true then (some (σ (b + 16) ((x1 * 8) + x2).toNatClampNeg)) else none)) else none)) else none)
set_option maxRecDepth 20000 in
set_option maxHeartbeats 4000000 in
theorem im_X5_learningYear (b : Nat) (hb : ag_Y b) (x1 : Int32) (x2 : Int32) (σ : Sg) : Im yX5_learningYear mX5_learningYear 0 0 (jI σ) [.ref b, .int x1, .int x2] σ (fn_X5_learningYear b x1 x2 σ) := by
  refine Im.of (by decide +kernel) rfl rfl (Nat.le_of_ble_eq_true rfl) ?_
  show Ev mX5_learningYear 0 0 (jI σ) 0 [(0, .ref b), (1, .int x1), (2, .int x2)] [] σ (fn_X5_learningYear b x1 x2 σ)
  unfold fn_X5_learningYear
  refine ev_aload_n (pc := 0) (i := 0) 0 dX5_learningYear_0 rfl rfl ?_
  refine ev_getR (pc := 1) (t := (b + 15)) 7 ag_C5 (ag_Yk hb).1 (ag_Yk hb).2 (Nat.le_of_ble_eq_true rfl) (ag_Yt7 hb) rfl ag_fl_X5_42 dX5_learningYear_1 ?_
  refine ev_iload_n (pc := 4) (i := 1) 1 dX5_learningYear_4 rfl rfl ?_
  refine ev_iald (pc := 5) (ag_Ya15 hb).1 (ag_Ya15 hb).2 dX5_learningYear_5 ?_
  refine ev_iload_n (pc := 6) (i := 2) 2 dX5_learningYear_6 rfl rfl ?_
  refine ev_ishr (pc := 7) dX5_learningYear_7 ?_
  refine ev_iconst (pc := 8) (v := 1) dX5_learningYear_8 (by decide) ?_
  refine ev_iand (pc := 9) dX5_learningYear_9 ?_
  refine ev_if_ne (pc := 10) (tgt := 15) dX5_learningYear_10 rfl ?_ ?_
  · refine ev_iconst (pc := 13) (v := (-1)) dX5_learningYear_13 (by decide) ?_
    exact ev_irI rfl dX5_learningYear_14
  · refine ev_aload_n (pc := 15) (i := 0) 0 dX5_learningYear_15 rfl rfl ?_
    refine ev_getR (pc := 16) (t := (b + 1)) 0 ag_C5 (ag_Yk hb).1 (ag_Yk hb).2 (Nat.le_of_ble_eq_true rfl) (ag_Yt0 hb) rfl ag_fl_X5_12 dX5_learningYear_16 ?_
    refine ev_getR (pc := 19) (t := (b + 6)) 5 ag_C1 (ag_Fk (ag_YF hb)).1 (ag_Fk (ag_YF hb)).2 (Nat.le_of_ble_eq_true rfl) (ag_Ft5 (ag_YF hb)) rfl ag_fl_X5_58 dX5_learningYear_19 ?_
    refine ev_iload_n (pc := 22) (i := 1) 1 dX5_learningYear_22 rfl rfl ?_
    refine ev_iald (pc := 23) (ag_Fa5 (ag_YF hb)).1 (ag_Fa5 (ag_YF hb)).2 dX5_learningYear_23 ?_
    refine ev_iload_n (pc := 24) (i := 2) 2 dX5_learningYear_24 rfl rfl ?_
    refine ev_ishr (pc := 25) dX5_learningYear_25 ?_
    refine ev_iconst (pc := 26) (v := 1) dX5_learningYear_26 (by decide) ?_
    refine ev_iand (pc := 27) dX5_learningYear_27 ?_
    refine ev_iconst (pc := 28) (v := 1) dX5_learningYear_28 (by decide) ?_
    refine ev_icmp_ne (pc := 29) (tgt := 36) dX5_learningYear_29 rfl ?_ ?_
    · refine ev_iconst (pc := 32) (v := 0) dX5_learningYear_32 (by decide) ?_
      refine ev_goto (pc := 33) (tgt := 47) dX5_learningYear_33 rfl ?_
      exact ev_irI rfl dX5_learningYear_47
    · refine ev_aload_n (pc := 36) (i := 0) 0 dX5_learningYear_36 rfl rfl ?_
      refine ev_getR (pc := 37) (t := (b + 16)) 8 ag_C5 (ag_Yk hb).1 (ag_Yk hb).2 (Nat.le_of_ble_eq_true rfl) (ag_Yt8 hb) rfl ag_fl_X5_45 dX5_learningYear_37 ?_
      refine ev_iload_n (pc := 40) (i := 1) 1 dX5_learningYear_40 rfl rfl ?_
      refine ev_bipush (pc := 41) (v := 8) dX5_learningYear_41 (by decide) ?_
      refine ev_imul (pc := 43) dX5_learningYear_43 ?_
      refine ev_iload_n (pc := 44) (i := 2) 2 dX5_learningYear_44 rfl rfl ?_
      refine ev_iadd (pc := 45) dX5_learningYear_45 ?_
      refine ev_iald (pc := 46) (ag_Ya16 hb).1 (ag_Ya16 hb).2 dX5_learningYear_46 ?_
      exact ev_irI rfl dX5_learningYear_47
-- X5_knew
def mX5_knew : Md := (RX5, cX5_knew, 5, some .boolean, none)
theorem mv_X5_knew : ag_Mv yX5_knew mX5_knew 3 := ⟨ag_co_X5_knew, ag_im_X5_knew, ag_se_X5_knew, ag_ini_X5, by decide +kernel⟩
theorem dX5_knew_0 : decode mX5_knew.2.1 0 = .ok (.aload_n 0, 1) := by decide +kernel
theorem dX5_knew_1 : decode mX5_knew.2.1 1 = .ok (.getfield 12, 3) := by decide +kernel
theorem dX5_knew_4 : decode mX5_knew.2.1 4 = .ok (.iload_n 1, 1) := by decide +kernel
theorem dX5_knew_5 : decode mX5_knew.2.1 5 = .ok (.invokevirtual 130, 3) := by decide +kernel
theorem dX5_knew_8 : decode mX5_knew.2.1 8 = .ok (.ifCond .ne 5, 3) := by decide +kernel
theorem dX5_knew_11 : decode mX5_knew.2.1 11 = .ok (.iconst 0, 1) := by decide +kernel
theorem dX5_knew_12 : decode mX5_knew.2.1 12 = .ok (.ireturn, 1) := by decide +kernel
theorem dX5_knew_13 : decode mX5_knew.2.1 13 = .ok (.aload_n 0, 1) := by decide +kernel
theorem dX5_knew_14 : decode mX5_knew.2.1 14 = .ok (.iload_n 1, 1) := by decide +kernel
theorem dX5_knew_15 : decode mX5_knew.2.1 15 = .ok (.iload_n 2, 1) := by decide +kernel
theorem dX5_knew_16 : decode mX5_knew.2.1 16 = .ok (.invokevirtual 157, 3) := by decide +kernel
theorem dX5_knew_19 : decode mX5_knew.2.1 19 = .ok (.istore 4, 2) := by decide +kernel
theorem dX5_knew_21 : decode mX5_knew.2.1 21 = .ok (.iload 4, 2) := by decide +kernel
theorem dX5_knew_23 : decode mX5_knew.2.1 23 = .ok (.iconst (-1), 1) := by decide +kernel
theorem dX5_knew_24 : decode mX5_knew.2.1 24 = .ok (.if_icmp .eq 13, 3) := by decide +kernel
theorem dX5_knew_27 : decode mX5_knew.2.1 27 = .ok (.iload 4, 2) := by decide +kernel
theorem dX5_knew_29 : decode mX5_knew.2.1 29 = .ok (.iload_n 3, 1) := by decide +kernel
theorem dX5_knew_30 : decode mX5_knew.2.1 30 = .ok (.if_icmp .gt 7, 3) := by decide +kernel
theorem dX5_knew_33 : decode mX5_knew.2.1 33 = .ok (.iconst 1, 1) := by decide +kernel
theorem dX5_knew_34 : decode mX5_knew.2.1 34 = .ok (.goto 4, 3) := by decide +kernel
theorem dX5_knew_37 : decode mX5_knew.2.1 37 = .ok (.iconst 0, 1) := by decide +kernel
theorem dX5_knew_38 : decode mX5_knew.2.1 38 = .ok (.ireturn, 1) := by decide +kernel
def fn_X5_knew (b : Nat) (x1 : Int32) (x2 : Int32) (x3 : Int32) (σ : Sg) : Option Int32 :=
  (Option.bind (fn_X1_isThere (b + 1) x1 σ) fun q27 =>
  (if q27 = 0 then (some 0)
  else (Option.bind (fn_X5_learningYear b x1 x2 σ) fun q28 =>
  (if q28 = (-1) then (some 0)
  else (if x3 < q28 then (some 0)
  else (some 1))))))
set_option maxRecDepth 20000 in
set_option maxHeartbeats 4000000 in
theorem im_X5_knew (b : Nat) (hb : ag_Y b) (x1 : Int32) (x2 : Int32) (x3 : Int32) (σ : Sg) : Im yX5_knew mX5_knew 1 22 (jI σ) [.ref b, .int x1, .int x2, .int x3] σ (fn_X5_knew b x1 x2 x3 σ) := by
  refine Im.of (by decide +kernel) rfl rfl (Nat.le_of_ble_eq_true rfl) ?_
  show Ev mX5_knew 1 22 (jI σ) 0 [(0, .ref b), (1, .int x1), (2, .int x2), (3, .int x3)] [] σ (fn_X5_knew b x1 x2 x3 σ)
  unfold fn_X5_knew
  refine ev_aload_n (pc := 0) (i := 0) 0 dX5_knew_0 rfl rfl ?_
  refine ev_getR (pc := 1) (t := (b + 1)) 0 ag_C5 (ag_Yk hb).1 (ag_Yk hb).2 (Nat.le_of_ble_eq_true rfl) (ag_Yt0 hb) rfl ag_fl_X5_12 dX5_knew_1 ?_
  refine ev_iload_n (pc := 4) (i := 1) 1 dX5_knew_4 rfl rfl ?_
  refine ev_vI (pc := 5) (as := [.int x1]) (rest := []) ⟨1, 130, 6, TX1, tyX1, ag_C1, ⟨(ag_Fk (ag_YF hb)).1, (ag_Fk (ag_YF hb)).2⟩, mv_X1_isThere, ag_ml_X5_130, rfl, (Nat.le_of_ble_eq_true rfl), ⟨(Nat.le_of_ble_eq_true rfl), (Nat.le_of_ble_eq_true rfl)⟩, dX5_knew_5⟩ (im_X1_isThere (b + 1) (ag_YF hb) x1 σ) (fun q27 => ?_)
  refine ev_if_ne (pc := 8) (tgt := 13) dX5_knew_8 rfl ?_ ?_
  · refine ev_iconst (pc := 11) (v := 0) dX5_knew_11 (by decide) ?_
    exact ev_brI rfl rfl dX5_knew_12
  · refine ev_aload_n (pc := 13) (i := 0) 0 dX5_knew_13 rfl rfl ?_
    refine ev_iload_n (pc := 14) (i := 1) 1 dX5_knew_14 rfl rfl ?_
    refine ev_iload_n (pc := 15) (i := 2) 2 dX5_knew_15 rfl rfl ?_
    refine ev_vI (pc := 16) (as := [.int x1, .int x2]) (rest := []) ⟨5, 157, 10, TX5, tyX5, ag_C5, ⟨(ag_Yk hb).1, (ag_Yk hb).2⟩, mv_X5_learningYear, ag_ml_X5_157, rfl, (Nat.le_of_ble_eq_true rfl), ⟨(Nat.le_of_ble_eq_true rfl), (Nat.le_of_ble_eq_true rfl)⟩, dX5_knew_16⟩ (im_X5_learningYear b hb x1 x2 σ) (fun q28 => ?_)
    refine ev_istore (pc := 19) (lv' := [(4, .int q28), (0, .ref b), (1, .int x1), (2, .int x2), (3, .int x3)]) dX5_knew_19 (Nat.le_of_ble_eq_true rfl) rfl ?_
    refine ev_iload (pc := 21) 0 dX5_knew_21 rfl ?_
    refine ev_iconst (pc := 23) (v := (-1)) dX5_knew_23 (by decide) ?_
    refine ev_icmp_eq (pc := 24) (tgt := 37) dX5_knew_24 rfl ?_ ?_
    · refine ev_iconst (pc := 37) (v := 0) dX5_knew_37 (by decide) ?_
      exact ev_brI rfl rfl dX5_knew_38
    · refine ev_iload (pc := 27) 0 dX5_knew_27 rfl ?_
      refine ev_iload_n (pc := 29) (i := 3) 4 dX5_knew_29 rfl rfl ?_
      refine ev_icmp_gt (pc := 30) (tgt := 37) dX5_knew_30 rfl ?_ ?_
      · refine ev_iconst (pc := 37) (v := 0) dX5_knew_37 (by decide) ?_
        exact ev_brI rfl rfl dX5_knew_38
      · refine ev_iconst (pc := 33) (v := 1) dX5_knew_33 (by decide) ?_
        refine ev_goto (pc := 34) (tgt := 38) dX5_knew_34 rfl ?_
        exact ev_brI rfl rfl dX5_knew_38
-- X0_cameOutIn
def mX0_cameOutIn : Md := (RX0, cX0_cameOutIn, 3, some .boolean, none)
theorem mv_X0_cameOutIn : ag_Mv yX0_cameOutIn mX0_cameOutIn 1 := ⟨ag_co_X0_cameOutIn, ag_im_X0_cameOutIn, ag_se_X0_cameOutIn, ag_ini_X0, by decide +kernel⟩
theorem dX0_cameOutIn_0 : decode mX0_cameOutIn.2.1 0 = .ok (.iconst 0, 1) := by decide +kernel
theorem dX0_cameOutIn_1 : decode mX0_cameOutIn.2.1 1 = .ok (.istore_n 2, 1) := by decide +kernel
theorem dX0_cameOutIn_2 : decode mX0_cameOutIn.2.1 2 = .ok (.iload_n 2, 1) := by decide +kernel
theorem dX0_cameOutIn_3 : decode mX0_cameOutIn.2.1 3 = .ok (.aload_n 0, 1) := by decide +kernel
theorem dX0_cameOutIn_4 : decode mX0_cameOutIn.2.1 4 = .ok (.getfield 9, 3) := by decide +kernel
theorem dX0_cameOutIn_7 : decode mX0_cameOutIn.2.1 7 = .ok (.if_icmp .ge 51, 3) := by decide +kernel
theorem dX0_cameOutIn_10 : decode mX0_cameOutIn.2.1 10 = .ok (.aload_n 1, 1) := by decide +kernel
theorem dX0_cameOutIn_11 : decode mX0_cameOutIn.2.1 11 = .ok (.aload_n 0, 1) := by decide +kernel
theorem dX0_cameOutIn_12 : decode mX0_cameOutIn.2.1 12 = .ok (.getfield 19, 3) := by decide +kernel
theorem dX0_cameOutIn_15 : decode mX0_cameOutIn.2.1 15 = .ok (.iload_n 2, 1) := by decide +kernel
theorem dX0_cameOutIn_16 : decode mX0_cameOutIn.2.1 16 = .ok (.iaload, 1) := by decide +kernel
theorem dX0_cameOutIn_17 : decode mX0_cameOutIn.2.1 17 = .ok (.aload_n 0, 1) := by decide +kernel
theorem dX0_cameOutIn_18 : decode mX0_cameOutIn.2.1 18 = .ok (.getfield 22, 3) := by decide +kernel
theorem dX0_cameOutIn_21 : decode mX0_cameOutIn.2.1 21 = .ok (.iload_n 2, 1) := by decide +kernel
theorem dX0_cameOutIn_22 : decode mX0_cameOutIn.2.1 22 = .ok (.iaload, 1) := by decide +kernel
theorem dX0_cameOutIn_23 : decode mX0_cameOutIn.2.1 23 = .ok (.aload_n 0, 1) := by decide +kernel
theorem dX0_cameOutIn_24 : decode mX0_cameOutIn.2.1 24 = .ok (.getfield 15, 3) := by decide +kernel
theorem dX0_cameOutIn_27 : decode mX0_cameOutIn.2.1 27 = .ok (.iload_n 2, 1) := by decide +kernel
theorem dX0_cameOutIn_28 : decode mX0_cameOutIn.2.1 28 = .ok (.iaload, 1) := by decide +kernel
theorem dX0_cameOutIn_29 : decode mX0_cameOutIn.2.1 29 = .ok (.invokevirtual 28, 3) := by decide +kernel
theorem dX0_cameOutIn_32 : decode mX0_cameOutIn.2.1 32 = .ok (.aload_n 0, 1) := by decide +kernel
theorem dX0_cameOutIn_33 : decode mX0_cameOutIn.2.1 33 = .ok (.getfield 25, 3) := by decide +kernel
theorem dX0_cameOutIn_36 : decode mX0_cameOutIn.2.1 36 = .ok (.iload_n 2, 1) := by decide +kernel
theorem dX0_cameOutIn_37 : decode mX0_cameOutIn.2.1 37 = .ok (.iaload, 1) := by decide +kernel
theorem dX0_cameOutIn_38 : decode mX0_cameOutIn.2.1 38 = .ok (.iconst 1, 1) := by decide +kernel
theorem dX0_cameOutIn_39 : decode mX0_cameOutIn.2.1 39 = .ok (.if_icmp .ne 7, 3) := by decide +kernel
theorem dX0_cameOutIn_42 : decode mX0_cameOutIn.2.1 42 = .ok (.iconst 1, 1) := by decide +kernel
theorem dX0_cameOutIn_43 : decode mX0_cameOutIn.2.1 43 = .ok (.goto 4, 3) := by decide +kernel
theorem dX0_cameOutIn_46 : decode mX0_cameOutIn.2.1 46 = .ok (.iconst 0, 1) := by decide +kernel
theorem dX0_cameOutIn_47 : decode mX0_cameOutIn.2.1 47 = .ok (.if_icmp .eq 5, 3) := by decide +kernel
theorem dX0_cameOutIn_50 : decode mX0_cameOutIn.2.1 50 = .ok (.iconst 0, 1) := by decide +kernel
theorem dX0_cameOutIn_51 : decode mX0_cameOutIn.2.1 51 = .ok (.ireturn, 1) := by decide +kernel
theorem dX0_cameOutIn_52 : decode mX0_cameOutIn.2.1 52 = .ok (.iinc 2 1, 3) := by decide +kernel
theorem dX0_cameOutIn_55 : decode mX0_cameOutIn.2.1 55 = .ok (.goto (-53), 3) := by decide +kernel
theorem dX0_cameOutIn_58 : decode mX0_cameOutIn.2.1 58 = .ok (.iconst 1, 1) := by decide +kernel
theorem dX0_cameOutIn_59 : decode mX0_cameOutIn.2.1 59 = .ok (.ireturn, 1) := by decide +kernel
def fn_X0_cameOutIn_b47 (n : Nat) (b1 : Nat) (σ : Sg) (k2 : Int32 → Option Int32) (v2 : Int32) (s0 : Int32) (s1 : Int32) : Option Int32 :=
  (if s0 = s1 then (k2 (v2 + 1))
  else (some 0))
set_option maxRecDepth 20000 in
set_option maxHeartbeats 4000000 in
theorem ev_X0_cameOutIn_b47 (n : Nat) (b1 : Nat) (hb1 : ag_Y b1) (σ : Sg) (k2 : Int32 → Option Int32) (hk2 : ∀ (v2 : Int32), Ev mX0_cameOutIn 2 46 (jI σ) 2 [(0, .ref 39), (1, .ref b1), (2, .int v2)] [] σ (k2 v2)) (v2 : Int32) (s0 : Int32) (s1 : Int32) : Ev mX0_cameOutIn 2 46 (jI σ) 47 [(0, .ref 39), (1, .ref b1), (2, .int v2)] [.int s1, .int s0] σ (fn_X0_cameOutIn_b47 n b1 σ k2 v2 s0 s1) := by
  unfold fn_X0_cameOutIn_b47
  refine ev_icmp_eq (pc := 47) (tgt := 52) dX0_cameOutIn_47 rfl ?_ ?_
  · refine ev_iinc (pc := 52) (v := (v2 + 1)) (lv' := [(2, .int (v2 + 1)), (0, .ref 39), (1, .ref b1)]) 2 dX0_cameOutIn_52 rfl rfl (Nat.le_of_ble_eq_true rfl) rfl ?_
    refine ev_goto (pc := 55) (tgt := 2) dX0_cameOutIn_55 rfl ?_
    refine ev_sub [1, 2, 0] rfl ?_
    exact hk2 (v2 + 1)
  · refine ev_iconst (pc := 50) (v := 0) dX0_cameOutIn_50 (by decide) ?_
    exact ev_brI rfl rfl dX0_cameOutIn_51
def fn_X0_cameOutIn_b2 (n : Nat) (b1 : Nat) (σ : Sg)  : Nat → Int32 → Option Int32
  | 0 => fun _ => none
  | i + 1 => fun v2 =>
  (if (σ 39 0) ≤ v2 then (some 1)
  else (if ag_ib v2 8 = true then (if ag_ib v2 8 = true then (if ag_ib v2 8 = true then (Option.bind (fn_X5_knew b1 (σ 41 v2.toNatClampNeg) (σ 42 v2.toNatClampNeg) (σ 40 v2.toNatClampNeg) σ) fun q29 =>
  (if ag_ib v2 8 = true then (if (σ 43 v2.toNatClampNeg) = 1 then (fn_X0_cameOutIn_b47 n b1 σ (fn_X0_cameOutIn_b2 n b1 σ i) v2 q29 1)
  else (fn_X0_cameOutIn_b47 n b1 σ (fn_X0_cameOutIn_b2 n b1 σ i) v2 q29 0)) else none)) else none) else none) else none))
theorem fn_X0_cameOutIn_b2_s (n : Nat) (b1 : Nat) (σ : Sg)  (i : Nat) (v2 : Int32) : fn_X0_cameOutIn_b2 n b1 σ (i + 1) v2 =
  (if (σ 39 0) ≤ v2 then (some 1)
  else (if ag_ib v2 8 = true then (if ag_ib v2 8 = true then (if ag_ib v2 8 = true then (Option.bind (fn_X5_knew b1 (σ 41 v2.toNatClampNeg) (σ 42 v2.toNatClampNeg) (σ 40 v2.toNatClampNeg) σ) fun q29 =>
  (if ag_ib v2 8 = true then (if (σ 43 v2.toNatClampNeg) = 1 then (fn_X0_cameOutIn_b47 n b1 σ (fn_X0_cameOutIn_b2 n b1 σ i) v2 q29 1)
  else (fn_X0_cameOutIn_b47 n b1 σ (fn_X0_cameOutIn_b2 n b1 σ i) v2 q29 0)) else none)) else none) else none) else none)) := rfl
set_option maxRecDepth 20000 in
set_option maxHeartbeats 4000000 in
theorem ev_X0_cameOutIn_b2 (n : Nat) (b1 : Nat) (hb1 : ag_Y b1) (σ : Sg)  : ∀ (i : Nat) (v2 : Int32), Ev mX0_cameOutIn 2 46 (jI σ) 2 [(0, .ref 39), (1, .ref b1), (2, .int v2)] [] σ (fn_X0_cameOutIn_b2 n b1 σ i v2) := by
  intro i
  induction i with
  | zero =>
    intro v2
    exact ev_none
  | succ i ih =>
    intro v2
    rw [fn_X0_cameOutIn_b2_s]
    refine ev_iload_n (pc := 2) (i := 2) 2 dX0_cameOutIn_2 rfl rfl ?_
    refine ev_aload_n (pc := 3) (i := 0) 0 dX0_cameOutIn_3 rfl rfl ?_
    refine ev_getI (pc := 4) 0 ag_C0 (rfl) (by decide) (Nat.le_of_ble_eq_true rfl) rfl rfl ag_fl_X0_9 dX0_cameOutIn_4 ?_
    refine ev_icmp_ge (pc := 7) (tgt := 58) dX0_cameOutIn_7 rfl ?_ ?_
    · refine ev_iconst (pc := 58) (v := 1) dX0_cameOutIn_58 (by decide) ?_
      exact ev_brI rfl rfl dX0_cameOutIn_59
    · refine ev_aload_n (pc := 10) (i := 1) 1 dX0_cameOutIn_10 rfl rfl ?_
      refine ev_aload_n (pc := 11) (i := 0) 0 dX0_cameOutIn_11 rfl rfl ?_
      refine ev_getR (pc := 12) (t := 41) 2 ag_C0 (rfl) (by decide) (Nat.le_of_ble_eq_true rfl) rfl rfl ag_fl_X0_19 dX0_cameOutIn_12 ?_
      refine ev_iload_n (pc := 15) (i := 2) 2 dX0_cameOutIn_15 rfl rfl ?_
      refine ev_iald (pc := 16) (rfl) (by decide) dX0_cameOutIn_16 ?_
      refine ev_aload_n (pc := 17) (i := 0) 0 dX0_cameOutIn_17 rfl rfl ?_
      refine ev_getR (pc := 18) (t := 42) 3 ag_C0 (rfl) (by decide) (Nat.le_of_ble_eq_true rfl) rfl rfl ag_fl_X0_22 dX0_cameOutIn_18 ?_
      refine ev_iload_n (pc := 21) (i := 2) 2 dX0_cameOutIn_21 rfl rfl ?_
      refine ev_iald (pc := 22) (rfl) (by decide) dX0_cameOutIn_22 ?_
      refine ev_aload_n (pc := 23) (i := 0) 0 dX0_cameOutIn_23 rfl rfl ?_
      refine ev_getR (pc := 24) (t := 40) 1 ag_C0 (rfl) (by decide) (Nat.le_of_ble_eq_true rfl) rfl rfl ag_fl_X0_15 dX0_cameOutIn_24 ?_
      refine ev_iload_n (pc := 27) (i := 2) 2 dX0_cameOutIn_27 rfl rfl ?_
      refine ev_iald (pc := 28) (rfl) (by decide) dX0_cameOutIn_28 ?_
      refine ev_vI (pc := 29) (as := [.int (σ 41 v2.toNatClampNeg), .int (σ 42 v2.toNatClampNeg), .int (σ 40 v2.toNatClampNeg)]) (rest := []) ⟨5, 28, 10, TX5, tyX5, ag_C5, ⟨(ag_Yk hb1).1, (ag_Yk hb1).2⟩, mv_X5_knew, ag_ml_X0_28, rfl, (Nat.le_of_ble_eq_true rfl), ⟨(Nat.le_of_ble_eq_true rfl), (Nat.le_of_ble_eq_true rfl)⟩, dX0_cameOutIn_29⟩ (im_X5_knew b1 hb1 (σ 41 v2.toNatClampNeg) (σ 42 v2.toNatClampNeg) (σ 40 v2.toNatClampNeg) σ) (fun q29 => ?_)
      refine ev_aload_n (pc := 32) (i := 0) 0 dX0_cameOutIn_32 rfl rfl ?_
      refine ev_getR (pc := 33) (t := 43) 4 ag_C0 (rfl) (by decide) (Nat.le_of_ble_eq_true rfl) rfl rfl ag_fl_X0_25 dX0_cameOutIn_33 ?_
      refine ev_iload_n (pc := 36) (i := 2) 2 dX0_cameOutIn_36 rfl rfl ?_
      refine ev_iald (pc := 37) (rfl) (by decide) dX0_cameOutIn_37 ?_
      refine ev_iconst (pc := 38) (v := 1) dX0_cameOutIn_38 (by decide) ?_
      refine ev_icmp_ne (pc := 39) (tgt := 46) dX0_cameOutIn_39 rfl ?_ ?_
      · refine ev_iconst (pc := 42) (v := 1) dX0_cameOutIn_42 (by decide) ?_
        refine ev_goto (pc := 43) (tgt := 47) dX0_cameOutIn_43 rfl ?_
        exact ev_X0_cameOutIn_b47 n b1 hb1 σ (fn_X0_cameOutIn_b2 n b1 σ i) ih v2 q29 1
      · refine ev_iconst (pc := 46) (v := 0) dX0_cameOutIn_46 (by decide) ?_
        exact ev_X0_cameOutIn_b47 n b1 hb1 σ (fn_X0_cameOutIn_b2 n b1 σ i) ih v2 q29 0
def fn_X0_cameOutIn (n : Nat) (b1 : Nat) (σ : Sg) : Option Int32 :=
  (fn_X0_cameOutIn_b2 n b1 σ n 0)
set_option maxRecDepth 20000 in
set_option maxHeartbeats 4000000 in
theorem im_X0_cameOutIn (n : Nat) (b1 : Nat) (hb1 : ag_Y b1) (σ : Sg) : Im yX0_cameOutIn mX0_cameOutIn 2 46 (jI σ) [.ref 39, .ref b1] σ (fn_X0_cameOutIn n b1 σ) := by
  refine Im.of (by decide +kernel) rfl rfl (Nat.le_of_ble_eq_true rfl) ?_
  show Ev mX0_cameOutIn 2 46 (jI σ) 0 [(0, .ref 39), (1, .ref b1)] [] σ (fn_X0_cameOutIn n b1 σ)
  unfold fn_X0_cameOutIn
  refine ev_iconst (pc := 0) (v := 0) dX0_cameOutIn_0 (by decide) ?_
  refine ev_istore_n (pc := 1) (i := 2) (lv' := [(2, .int 0), (0, .ref 39), (1, .ref b1)]) dX0_cameOutIn_1 rfl (Nat.le_of_ble_eq_true rfl) rfl ?_
  refine ev_sub [1, 2, 0] rfl ?_
  exact ev_X0_cameOutIn_b2 n b1 hb1 σ n 0
-- X5_takeFrom
def mX5_takeFrom : Md := (RX5, cX5_takeFrom, 2, none, none)
theorem mv_X5_takeFrom : ag_Mv yX5_takeFrom mX5_takeFrom 1 := ⟨ag_co_X5_takeFrom, ag_im_X5_takeFrom, ag_se_X5_takeFrom, ag_ini_X5, by decide +kernel⟩
theorem dX5_takeFrom_0 : decode mX5_takeFrom.2.1 0 = .ok (.aload_n 0, 1) := by decide +kernel
theorem dX5_takeFrom_1 : decode mX5_takeFrom.2.1 1 = .ok (.getfield 12, 3) := by decide +kernel
theorem dX5_takeFrom_4 : decode mX5_takeFrom.2.1 4 = .ok (.aload_n 1, 1) := by decide +kernel
theorem dX5_takeFrom_5 : decode mX5_takeFrom.2.1 5 = .ok (.getfield 12, 3) := by decide +kernel
theorem dX5_takeFrom_8 : decode mX5_takeFrom.2.1 8 = .ok (.invokevirtual 51, 3) := by decide +kernel
theorem dX5_takeFrom_11 : decode mX5_takeFrom.2.1 11 = .ok (.aload_n 0, 1) := by decide +kernel
theorem dX5_takeFrom_12 : decode mX5_takeFrom.2.1 12 = .ok (.getfield 21, 3) := by decide +kernel
theorem dX5_takeFrom_15 : decode mX5_takeFrom.2.1 15 = .ok (.aload_n 1, 1) := by decide +kernel
theorem dX5_takeFrom_16 : decode mX5_takeFrom.2.1 16 = .ok (.getfield 21, 3) := by decide +kernel
theorem dX5_takeFrom_19 : decode mX5_takeFrom.2.1 19 = .ok (.invokevirtual 55, 3) := by decide +kernel
theorem dX5_takeFrom_22 : decode mX5_takeFrom.2.1 22 = .ok (.aload_n 0, 1) := by decide +kernel
theorem dX5_takeFrom_23 : decode mX5_takeFrom.2.1 23 = .ok (.aload_n 1, 1) := by decide +kernel
theorem dX5_takeFrom_24 : decode mX5_takeFrom.2.1 24 = .ok (.getfield 25, 3) := by decide +kernel
theorem dX5_takeFrom_27 : decode mX5_takeFrom.2.1 27 = .ok (.putfield 25, 3) := by decide +kernel
theorem dX5_takeFrom_30 : decode mX5_takeFrom.2.1 30 = .ok (.return_, 1) := by decide +kernel
def fn_X5_takeFrom (b : Nat) (b1 : Nat) (σ : Sg) : Option Sg :=
  (Option.bind (fn_X1_takeFrom (b + 1) (b1 + 1) σ) fun q30 =>
  (Option.bind (fn_X2_takeFrom (b + 7) (b1 + 7) q30) fun q31 =>
  (some (ag_up q31 b 2 (q31 b1 2)))))
set_option maxRecDepth 20000 in
set_option maxHeartbeats 4000000 in
theorem im_X5_takeFrom (b : Nat) (hb : ag_Y b) (b1 : Nat) (hb1 : ag_Y b1) (σ : Sg) : Im yX5_takeFrom mX5_takeFrom 2 81 jV [.ref b, .ref b1] σ (fn_X5_takeFrom b b1 σ) := by
  refine Im.of (by decide +kernel) rfl rfl (Nat.le_of_ble_eq_true rfl) ?_
  show Ev mX5_takeFrom 2 81 jV 0 [(0, .ref b), (1, .ref b1)] [] σ (fn_X5_takeFrom b b1 σ)
  unfold fn_X5_takeFrom
  refine ev_aload_n (pc := 0) (i := 0) 0 dX5_takeFrom_0 rfl rfl ?_
  refine ev_getR (pc := 1) (t := (b + 1)) 0 ag_C5 (ag_Yk hb).1 (ag_Yk hb).2 (Nat.le_of_ble_eq_true rfl) (ag_Yt0 hb) rfl ag_fl_X5_12 dX5_takeFrom_1 ?_
  refine ev_aload_n (pc := 4) (i := 1) 1 dX5_takeFrom_4 rfl rfl ?_
  refine ev_getR (pc := 5) (t := (b1 + 1)) 0 ag_C5 (ag_Yk hb1).1 (ag_Yk hb1).2 (Nat.le_of_ble_eq_true rfl) (ag_Yt0 hb1) rfl ag_fl_X5_12 dX5_takeFrom_5 ?_
  refine ev_vV (pc := 8) (as := [.ref (b1 + 1)]) (rest := []) ⟨1, 51, 6, TX1, tyX1, ag_C1, ⟨(ag_Fk (ag_YF hb)).1, (ag_Fk (ag_YF hb)).2⟩, mv_X1_takeFrom, ag_ml_X5_51, rfl, (Nat.le_of_ble_eq_true rfl), ⟨(Nat.le_of_ble_eq_true rfl), (Nat.le_of_ble_eq_true rfl)⟩, dX5_takeFrom_8⟩ (im_X1_takeFrom (b + 1) (ag_YF hb) (b1 + 1) (ag_YF hb1) σ) (fun q30 => ?_)
  refine ev_aload_n (pc := 11) (i := 0) 0 dX5_takeFrom_11 rfl rfl ?_
  refine ev_getR (pc := 12) (t := (b + 7)) 1 ag_C5 (ag_Yk hb).1 (ag_Yk hb).2 (Nat.le_of_ble_eq_true rfl) (ag_Yt1 hb) rfl ag_fl_X5_21 dX5_takeFrom_12 ?_
  refine ev_aload_n (pc := 15) (i := 1) 1 dX5_takeFrom_15 rfl rfl ?_
  refine ev_getR (pc := 16) (t := (b1 + 7)) 1 ag_C5 (ag_Yk hb1).1 (ag_Yk hb1).2 (Nat.le_of_ble_eq_true rfl) (ag_Yt1 hb1) rfl ag_fl_X5_21 dX5_takeFrom_16 ?_
  refine ev_vV (pc := 19) (as := [.ref (b1 + 7)]) (rest := []) ⟨2, 55, 6, TX2, tyX2, ag_C2, ⟨(ag_Pk (ag_YP hb)).1, (ag_Pk (ag_YP hb)).2⟩, mv_X2_takeFrom, ag_ml_X5_55, rfl, (Nat.le_of_ble_eq_true rfl), ⟨(Nat.le_of_ble_eq_true rfl), (Nat.le_of_ble_eq_true rfl)⟩, dX5_takeFrom_19⟩ (im_X2_takeFrom (b + 7) (ag_YP hb) (b1 + 7) (ag_YP hb1) q30) (fun q31 => ?_)
  refine ev_aload_n (pc := 22) (i := 0) 0 dX5_takeFrom_22 rfl rfl ?_
  refine ev_aload_n (pc := 23) (i := 1) 1 dX5_takeFrom_23 rfl rfl ?_
  refine ev_getI (pc := 24) 2 ag_C5 (ag_Yk hb1).1 (ag_Yk hb1).2 (Nat.le_of_ble_eq_true rfl) (ag_Yt2 hb1) rfl ag_fl_X5_25 dX5_takeFrom_24 ?_
  refine ev_put (pc := 27) 2 ag_C5 (ag_Yk hb).1 (ag_Yk hb).2 (Nat.le_of_ble_eq_true rfl) (ag_Yt2 hb) rfl ag_fl_X5_25 rfl rfl rfl dX5_takeFrom_27 ?_
  exact ev_rV rfl dX5_takeFrom_30
-- X5_dueYear
def mX5_dueYear : Md := (RX5, cX5_dueYear, 7, some .int, none)
theorem mv_X5_dueYear : ag_Mv yX5_dueYear mX5_dueYear 1 := ⟨ag_co_X5_dueYear, ag_im_X5_dueYear, ag_se_X5_dueYear, ag_ini_X5, by decide +kernel⟩
theorem dX5_dueYear_0 : decode mX5_dueYear.2.1 0 = .ok (.aload_n 0, 1) := by decide +kernel
theorem dX5_dueYear_1 : decode mX5_dueYear.2.1 1 = .ok (.getfield 21, 3) := by decide +kernel
theorem dX5_dueYear_4 : decode mX5_dueYear.2.1 4 = .ok (.getfield 81, 3) := by decide +kernel
theorem dX5_dueYear_7 : decode mX5_dueYear.2.1 7 = .ok (.iload_n 1, 1) := by decide +kernel
theorem dX5_dueYear_8 : decode mX5_dueYear.2.1 8 = .ok (.iaload, 1) := by decide +kernel
theorem dX5_dueYear_9 : decode mX5_dueYear.2.1 9 = .ok (.istore_n 2, 1) := by decide +kernel
theorem dX5_dueYear_10 : decode mX5_dueYear.2.1 10 = .ok (.aload_n 0, 1) := by decide +kernel
theorem dX5_dueYear_11 : decode mX5_dueYear.2.1 11 = .ok (.getfield 21, 3) := by decide +kernel
theorem dX5_dueYear_14 : decode mX5_dueYear.2.1 14 = .ok (.getfield 84, 3) := by decide +kernel
theorem dX5_dueYear_17 : decode mX5_dueYear.2.1 17 = .ok (.iload_n 1, 1) := by decide +kernel
theorem dX5_dueYear_18 : decode mX5_dueYear.2.1 18 = .ok (.iaload, 1) := by decide +kernel
theorem dX5_dueYear_19 : decode mX5_dueYear.2.1 19 = .ok (.istore_n 3, 1) := by decide +kernel
theorem dX5_dueYear_20 : decode mX5_dueYear.2.1 20 = .ok (.aload_n 0, 1) := by decide +kernel
theorem dX5_dueYear_21 : decode mX5_dueYear.2.1 21 = .ok (.getfield 21, 3) := by decide +kernel
theorem dX5_dueYear_24 : decode mX5_dueYear.2.1 24 = .ok (.getfield 101, 3) := by decide +kernel
theorem dX5_dueYear_27 : decode mX5_dueYear.2.1 27 = .ok (.iload_n 1, 1) := by decide +kernel
theorem dX5_dueYear_28 : decode mX5_dueYear.2.1 28 = .ok (.iaload, 1) := by decide +kernel
theorem dX5_dueYear_29 : decode mX5_dueYear.2.1 29 = .ok (.istore 4, 2) := by decide +kernel
theorem dX5_dueYear_31 : decode mX5_dueYear.2.1 31 = .ok (.aload_n 0, 1) := by decide +kernel
theorem dX5_dueYear_32 : decode mX5_dueYear.2.1 32 = .ok (.getfield 12, 3) := by decide +kernel
theorem dX5_dueYear_35 : decode mX5_dueYear.2.1 35 = .ok (.iload_n 3, 1) := by decide +kernel
theorem dX5_dueYear_36 : decode mX5_dueYear.2.1 36 = .ok (.iload_n 2, 1) := by decide +kernel
theorem dX5_dueYear_37 : decode mX5_dueYear.2.1 37 = .ok (.invokevirtual 87, 3) := by decide +kernel
theorem dX5_dueYear_40 : decode mX5_dueYear.2.1 40 = .ok (.ifCond .eq 15, 3) := by decide +kernel
theorem dX5_dueYear_43 : decode mX5_dueYear.2.1 43 = .ok (.aload_n 0, 1) := by decide +kernel
theorem dX5_dueYear_44 : decode mX5_dueYear.2.1 44 = .ok (.getfield 12, 3) := by decide +kernel
theorem dX5_dueYear_47 : decode mX5_dueYear.2.1 47 = .ok (.iload 4, 2) := by decide +kernel
theorem dX5_dueYear_49 : decode mX5_dueYear.2.1 49 = .ok (.invokevirtual 130, 3) := by decide +kernel
theorem dX5_dueYear_52 : decode mX5_dueYear.2.1 52 = .ok (.ifCond .ne 7, 3) := by decide +kernel
theorem dX5_dueYear_55 : decode mX5_dueYear.2.1 55 = .ok (.sipush 200, 3) := by decide +kernel
theorem dX5_dueYear_58 : decode mX5_dueYear.2.1 58 = .ok (.ireturn, 1) := by decide +kernel
theorem dX5_dueYear_59 : decode mX5_dueYear.2.1 59 = .ok (.iconst 0, 1) := by decide +kernel
theorem dX5_dueYear_60 : decode mX5_dueYear.2.1 60 = .ok (.aload_n 0, 1) := by decide +kernel
theorem dX5_dueYear_61 : decode mX5_dueYear.2.1 61 = .ok (.getfield 12, 3) := by decide +kernel
theorem dX5_dueYear_64 : decode mX5_dueYear.2.1 64 = .ok (.iload_n 3, 1) := by decide +kernel
theorem dX5_dueYear_65 : decode mX5_dueYear.2.1 65 = .ok (.iload_n 2, 1) := by decide +kernel
theorem dX5_dueYear_66 : decode mX5_dueYear.2.1 66 = .ok (.invokevirtual 133, 3) := by decide +kernel
theorem dX5_dueYear_69 : decode mX5_dueYear.2.1 69 = .ok (.aload_n 0, 1) := by decide +kernel
theorem dX5_dueYear_70 : decode mX5_dueYear.2.1 70 = .ok (.getfield 12, 3) := by decide +kernel
theorem dX5_dueYear_73 : decode mX5_dueYear.2.1 73 = .ok (.getfield 136, 3) := by decide +kernel
theorem dX5_dueYear_76 : decode mX5_dueYear.2.1 76 = .ok (.iload 4, 2) := by decide +kernel
theorem dX5_dueYear_78 : decode mX5_dueYear.2.1 78 = .ok (.iaload, 1) := by decide +kernel
theorem dX5_dueYear_79 : decode mX5_dueYear.2.1 79 = .ok (.isub, 1) := by decide +kernel
theorem dX5_dueYear_80 : decode mX5_dueYear.2.1 80 = .ok (.invokestatic 139, 3) := by decide +kernel
theorem dX5_dueYear_83 : decode mX5_dueYear.2.1 83 = .ok (.istore 5, 2) := by decide +kernel
theorem dX5_dueYear_85 : decode mX5_dueYear.2.1 85 = .ok (.iload_n 2, 1) := by decide +kernel
theorem dX5_dueYear_86 : decode mX5_dueYear.2.1 86 = .ok (.aload_n 0, 1) := by decide +kernel
theorem dX5_dueYear_87 : decode mX5_dueYear.2.1 87 = .ok (.getfield 12, 3) := by decide +kernel
theorem dX5_dueYear_90 : decode mX5_dueYear.2.1 90 = .ok (.getfield 142, 3) := by decide +kernel
theorem dX5_dueYear_93 : decode mX5_dueYear.2.1 93 = .ok (.iload 4, 2) := by decide +kernel
theorem dX5_dueYear_95 : decode mX5_dueYear.2.1 95 = .ok (.iaload, 1) := by decide +kernel
theorem dX5_dueYear_96 : decode mX5_dueYear.2.1 96 = .ok (.iload 5, 2) := by decide +kernel
theorem dX5_dueYear_98 : decode mX5_dueYear.2.1 98 = .ok (.iadd, 1) := by decide +kernel
theorem dX5_dueYear_99 : decode mX5_dueYear.2.1 99 = .ok (.invokestatic 139, 3) := by decide +kernel
theorem dX5_dueYear_102 : decode mX5_dueYear.2.1 102 = .ok (.istore 6, 2) := by decide +kernel
theorem dX5_dueYear_104 : decode mX5_dueYear.2.1 104 = .ok (.aload_n 0, 1) := by decide +kernel
theorem dX5_dueYear_105 : decode mX5_dueYear.2.1 105 = .ok (.getfield 12, 3) := by decide +kernel
theorem dX5_dueYear_108 : decode mX5_dueYear.2.1 108 = .ok (.iload 4, 2) := by decide +kernel
theorem dX5_dueYear_110 : decode mX5_dueYear.2.1 110 = .ok (.iload 6, 2) := by decide +kernel
theorem dX5_dueYear_112 : decode mX5_dueYear.2.1 112 = .ok (.invokevirtual 87, 3) := by decide +kernel
theorem dX5_dueYear_115 : decode mX5_dueYear.2.1 115 = .ok (.ifCond .eq 8, 3) := by decide +kernel
theorem dX5_dueYear_118 : decode mX5_dueYear.2.1 118 = .ok (.iload 6, 2) := by decide +kernel
theorem dX5_dueYear_120 : decode mX5_dueYear.2.1 120 = .ok (.goto 6, 3) := by decide +kernel
theorem dX5_dueYear_123 : decode mX5_dueYear.2.1 123 = .ok (.sipush 200, 3) := by decide +kernel
theorem dX5_dueYear_126 : decode mX5_dueYear.2.1 126 = .ok (.ireturn, 1) := by decide +kernel
def fn_X5_dueYear (b : Nat) (x1 : Int32) (σ : Sg) : Option Int32 :=
  (if ag_ib x1 13 = true then (if ag_ib x1 13 = true then (if ag_ib x1 13 = true then (Option.bind (fn_X1_lives (b + 1) (σ (b + 8) x1.toNatClampNeg) (σ (b + 10) x1.toNatClampNeg) σ) fun q32 =>
  (if q32 = 0 then (some 200)
  else (Option.bind (fn_X1_isThere (b + 1) (σ (b + 9) x1.toNatClampNeg) σ) fun q33 =>
  (if q33 = 0 then (some 200)
  else (Option.bind (fn_X1_toldAge (b + 1) (σ (b + 8) x1.toNatClampNeg) (σ (b + 10) x1.toNatClampNeg) σ) fun q34 =>
  (if ag_ib (σ (b + 9) x1.toNatClampNeg) 10 = true then (if ag_ib (σ (b + 9) x1.toNatClampNeg) 10 = true then (Option.bind (fn_X1_lives (b + 1) (σ (b + 9) x1.toNatClampNeg) (ag_max (σ (b + 10) x1.toNatClampNeg) ((σ (b + 2) (σ (b + 9) x1.toNatClampNeg).toNatClampNeg) + (ag_max 0 (q34 - (σ (b + 5) (σ (b + 9) x1.toNatClampNeg).toNatClampNeg))))) σ) fun q35 =>
  (if q35 = 0 then (some 200)
  else (some (ag_max (σ (b + 10) x1.toNatClampNeg) ((σ (b + 2) (σ (b + 9) x1.toNatClampNeg).toNatClampNeg) + (ag_max 0 (q34 - (σ (b + 5) (σ (b + 9) x1.toNatClampNeg).toNatClampNeg)))))))) else none) else none)))))) else none) else none) else none)
set_option maxRecDepth 20000 in
set_option maxHeartbeats 4000000 in
theorem im_X5_dueYear (b : Nat) (hb : ag_Y b) (x1 : Int32) (σ : Sg) : Im yX5_dueYear mX5_dueYear 1 22 (jI σ) [.ref b, .int x1] σ (fn_X5_dueYear b x1 σ) := by
  refine Im.of (by decide +kernel) rfl rfl (Nat.le_of_ble_eq_true rfl) ?_
  show Ev mX5_dueYear 1 22 (jI σ) 0 [(0, .ref b), (1, .int x1)] [] σ (fn_X5_dueYear b x1 σ)
  unfold fn_X5_dueYear
  refine ev_aload_n (pc := 0) (i := 0) 0 dX5_dueYear_0 rfl rfl ?_
  refine ev_getR (pc := 1) (t := (b + 7)) 1 ag_C5 (ag_Yk hb).1 (ag_Yk hb).2 (Nat.le_of_ble_eq_true rfl) (ag_Yt1 hb) rfl ag_fl_X5_21 dX5_dueYear_1 ?_
  refine ev_getR (pc := 4) (t := (b + 10)) 3 ag_C2 (ag_Pk (ag_YP hb)).1 (ag_Pk (ag_YP hb)).2 (Nat.le_of_ble_eq_true rfl) (ag_Pt3 (ag_YP hb)) rfl ag_fl_X5_81 dX5_dueYear_4 ?_
  refine ev_iload_n (pc := 7) (i := 1) 1 dX5_dueYear_7 rfl rfl ?_
  refine ev_iald (pc := 8) (ag_Pa3 (ag_YP hb)).1 (ag_Pa3 (ag_YP hb)).2 dX5_dueYear_8 ?_
  refine ev_istore_n (pc := 9) (i := 2) (lv' := [(2, .int (σ (b + 10) x1.toNatClampNeg)), (0, .ref b), (1, .int x1)]) dX5_dueYear_9 rfl (Nat.le_of_ble_eq_true rfl) rfl ?_
  refine ev_aload_n (pc := 10) (i := 0) 1 dX5_dueYear_10 rfl rfl ?_
  refine ev_getR (pc := 11) (t := (b + 7)) 1 ag_C5 (ag_Yk hb).1 (ag_Yk hb).2 (Nat.le_of_ble_eq_true rfl) (ag_Yt1 hb) rfl ag_fl_X5_21 dX5_dueYear_11 ?_
  refine ev_getR (pc := 14) (t := (b + 8)) 1 ag_C2 (ag_Pk (ag_YP hb)).1 (ag_Pk (ag_YP hb)).2 (Nat.le_of_ble_eq_true rfl) (ag_Pt1 (ag_YP hb)) rfl ag_fl_X5_84 dX5_dueYear_14 ?_
  refine ev_iload_n (pc := 17) (i := 1) 2 dX5_dueYear_17 rfl rfl ?_
  refine ev_iald (pc := 18) (ag_Pa1 (ag_YP hb)).1 (ag_Pa1 (ag_YP hb)).2 dX5_dueYear_18 ?_
  refine ev_istore_n (pc := 19) (i := 3) (lv' := [(3, .int (σ (b + 8) x1.toNatClampNeg)), (2, .int (σ (b + 10) x1.toNatClampNeg)), (0, .ref b), (1, .int x1)]) dX5_dueYear_19 rfl (Nat.le_of_ble_eq_true rfl) rfl ?_
  refine ev_aload_n (pc := 20) (i := 0) 2 dX5_dueYear_20 rfl rfl ?_
  refine ev_getR (pc := 21) (t := (b + 7)) 1 ag_C5 (ag_Yk hb).1 (ag_Yk hb).2 (Nat.le_of_ble_eq_true rfl) (ag_Yt1 hb) rfl ag_fl_X5_21 dX5_dueYear_21 ?_
  refine ev_getR (pc := 24) (t := (b + 9)) 2 ag_C2 (ag_Pk (ag_YP hb)).1 (ag_Pk (ag_YP hb)).2 (Nat.le_of_ble_eq_true rfl) (ag_Pt2 (ag_YP hb)) rfl ag_fl_X5_101 dX5_dueYear_24 ?_
  refine ev_iload_n (pc := 27) (i := 1) 3 dX5_dueYear_27 rfl rfl ?_
  refine ev_iald (pc := 28) (ag_Pa2 (ag_YP hb)).1 (ag_Pa2 (ag_YP hb)).2 dX5_dueYear_28 ?_
  refine ev_istore (pc := 29) (lv' := [(4, .int (σ (b + 9) x1.toNatClampNeg)), (3, .int (σ (b + 8) x1.toNatClampNeg)), (2, .int (σ (b + 10) x1.toNatClampNeg)), (0, .ref b), (1, .int x1)]) dX5_dueYear_29 (Nat.le_of_ble_eq_true rfl) rfl ?_
  refine ev_aload_n (pc := 31) (i := 0) 3 dX5_dueYear_31 rfl rfl ?_
  refine ev_getR (pc := 32) (t := (b + 1)) 0 ag_C5 (ag_Yk hb).1 (ag_Yk hb).2 (Nat.le_of_ble_eq_true rfl) (ag_Yt0 hb) rfl ag_fl_X5_12 dX5_dueYear_32 ?_
  refine ev_iload_n (pc := 35) (i := 3) 1 dX5_dueYear_35 rfl rfl ?_
  refine ev_iload_n (pc := 36) (i := 2) 2 dX5_dueYear_36 rfl rfl ?_
  refine ev_vI (pc := 37) (as := [.int (σ (b + 8) x1.toNatClampNeg), .int (σ (b + 10) x1.toNatClampNeg)]) (rest := []) ⟨1, 87, 6, TX1, tyX1, ag_C1, ⟨(ag_Fk (ag_YF hb)).1, (ag_Fk (ag_YF hb)).2⟩, mv_X1_lives, ag_ml_X5_87, rfl, (Nat.le_of_ble_eq_true rfl), ⟨(Nat.le_of_ble_eq_true rfl), (Nat.le_of_ble_eq_true rfl)⟩, dX5_dueYear_37⟩ (im_X1_lives (b + 1) (ag_YF hb) (σ (b + 8) x1.toNatClampNeg) (σ (b + 10) x1.toNatClampNeg) σ) (fun q32 => ?_)
  refine ev_if_eq (pc := 40) (tgt := 55) dX5_dueYear_40 rfl ?_ ?_
  · refine ev_sipush (pc := 55) (v := 200) dX5_dueYear_55 (by decide) ?_
    exact ev_irI rfl dX5_dueYear_58
  · refine ev_aload_n (pc := 43) (i := 0) 3 dX5_dueYear_43 rfl rfl ?_
    refine ev_getR (pc := 44) (t := (b + 1)) 0 ag_C5 (ag_Yk hb).1 (ag_Yk hb).2 (Nat.le_of_ble_eq_true rfl) (ag_Yt0 hb) rfl ag_fl_X5_12 dX5_dueYear_44 ?_
    refine ev_iload (pc := 47) 0 dX5_dueYear_47 rfl ?_
    refine ev_vI (pc := 49) (as := [.int (σ (b + 9) x1.toNatClampNeg)]) (rest := []) ⟨1, 130, 6, TX1, tyX1, ag_C1, ⟨(ag_Fk (ag_YF hb)).1, (ag_Fk (ag_YF hb)).2⟩, mv_X1_isThere, ag_ml_X5_130, rfl, (Nat.le_of_ble_eq_true rfl), ⟨(Nat.le_of_ble_eq_true rfl), (Nat.le_of_ble_eq_true rfl)⟩, dX5_dueYear_49⟩ (im_X1_isThere (b + 1) (ag_YF hb) (σ (b + 9) x1.toNatClampNeg) σ) (fun q33 => ?_)
    refine ev_if_ne (pc := 52) (tgt := 59) dX5_dueYear_52 rfl ?_ ?_
    · refine ev_sipush (pc := 55) (v := 200) dX5_dueYear_55 (by decide) ?_
      exact ev_irI rfl dX5_dueYear_58
    · refine ev_iconst (pc := 59) (v := 0) dX5_dueYear_59 (by decide) ?_
      refine ev_aload_n (pc := 60) (i := 0) 3 dX5_dueYear_60 rfl rfl ?_
      refine ev_getR (pc := 61) (t := (b + 1)) 0 ag_C5 (ag_Yk hb).1 (ag_Yk hb).2 (Nat.le_of_ble_eq_true rfl) (ag_Yt0 hb) rfl ag_fl_X5_12 dX5_dueYear_61 ?_
      refine ev_iload_n (pc := 64) (i := 3) 1 dX5_dueYear_64 rfl rfl ?_
      refine ev_iload_n (pc := 65) (i := 2) 2 dX5_dueYear_65 rfl rfl ?_
      refine ev_vI (pc := 66) (as := [.int (σ (b + 8) x1.toNatClampNeg), .int (σ (b + 10) x1.toNatClampNeg)]) (rest := [.int 0]) ⟨1, 133, 6, TX1, tyX1, ag_C1, ⟨(ag_Fk (ag_YF hb)).1, (ag_Fk (ag_YF hb)).2⟩, mv_X1_toldAge, ag_ml_X5_133, rfl, (Nat.le_of_ble_eq_true rfl), ⟨(Nat.le_of_ble_eq_true rfl), (Nat.le_of_ble_eq_true rfl)⟩, dX5_dueYear_66⟩ (im_X1_toldAge (b + 1) (ag_YF hb) (σ (b + 8) x1.toNatClampNeg) (σ (b + 10) x1.toNatClampNeg) σ) (fun q34 => ?_)
      refine ev_aload_n (pc := 69) (i := 0) 3 dX5_dueYear_69 rfl rfl ?_
      refine ev_getR (pc := 70) (t := (b + 1)) 0 ag_C5 (ag_Yk hb).1 (ag_Yk hb).2 (Nat.le_of_ble_eq_true rfl) (ag_Yt0 hb) rfl ag_fl_X5_12 dX5_dueYear_70 ?_
      refine ev_getR (pc := 73) (t := (b + 5)) 4 ag_C1 (ag_Fk (ag_YF hb)).1 (ag_Fk (ag_YF hb)).2 (Nat.le_of_ble_eq_true rfl) (ag_Ft4 (ag_YF hb)) rfl ag_fl_X5_136 dX5_dueYear_73 ?_
      refine ev_iload (pc := 76) 0 dX5_dueYear_76 rfl ?_
      refine ev_iald (pc := 78) (ag_Fa4 (ag_YF hb)).1 (ag_Fa4 (ag_YF hb)).2 dX5_dueYear_78 ?_
      refine ev_isub (pc := 79) dX5_dueYear_79 ?_
      refine ev_mmax (pc := 80) ag_ml_X5_139 ⟨(Nat.le_of_ble_eq_true rfl), (Nat.le_of_ble_eq_true rfl)⟩ dX5_dueYear_80 ?_
      refine ev_istore (pc := 83) (lv' := [(5, .int (ag_max 0 (q34 - (σ (b + 5) (σ (b + 9) x1.toNatClampNeg).toNatClampNeg)))), (4, .int (σ (b + 9) x1.toNatClampNeg)), (3, .int (σ (b + 8) x1.toNatClampNeg)), (2, .int (σ (b + 10) x1.toNatClampNeg)), (0, .ref b), (1, .int x1)]) dX5_dueYear_83 (Nat.le_of_ble_eq_true rfl) rfl ?_
      refine ev_iload_n (pc := 85) (i := 2) 3 dX5_dueYear_85 rfl rfl ?_
      refine ev_aload_n (pc := 86) (i := 0) 4 dX5_dueYear_86 rfl rfl ?_
      refine ev_getR (pc := 87) (t := (b + 1)) 0 ag_C5 (ag_Yk hb).1 (ag_Yk hb).2 (Nat.le_of_ble_eq_true rfl) (ag_Yt0 hb) rfl ag_fl_X5_12 dX5_dueYear_87 ?_
      refine ev_getR (pc := 90) (t := (b + 2)) 1 ag_C1 (ag_Fk (ag_YF hb)).1 (ag_Fk (ag_YF hb)).2 (Nat.le_of_ble_eq_true rfl) (ag_Ft1 (ag_YF hb)) rfl ag_fl_X5_142 dX5_dueYear_90 ?_
      refine ev_iload (pc := 93) 1 dX5_dueYear_93 rfl ?_
      refine ev_iald (pc := 95) (ag_Fa1 (ag_YF hb)).1 (ag_Fa1 (ag_YF hb)).2 dX5_dueYear_95 ?_
      refine ev_iload (pc := 96) 0 dX5_dueYear_96 rfl ?_
      refine ev_iadd (pc := 98) dX5_dueYear_98 ?_
      refine ev_mmax (pc := 99) ag_ml_X5_139 ⟨(Nat.le_of_ble_eq_true rfl), (Nat.le_of_ble_eq_true rfl)⟩ dX5_dueYear_99 ?_
      refine ev_istore (pc := 102) (lv' := [(6, .int (ag_max (σ (b + 10) x1.toNatClampNeg) ((σ (b + 2) (σ (b + 9) x1.toNatClampNeg).toNatClampNeg) + (ag_max 0 (q34 - (σ (b + 5) (σ (b + 9) x1.toNatClampNeg).toNatClampNeg)))))), (5, .int (ag_max 0 (q34 - (σ (b + 5) (σ (b + 9) x1.toNatClampNeg).toNatClampNeg)))), (4, .int (σ (b + 9) x1.toNatClampNeg)), (3, .int (σ (b + 8) x1.toNatClampNeg)), (2, .int (σ (b + 10) x1.toNatClampNeg)), (0, .ref b), (1, .int x1)]) dX5_dueYear_102 (Nat.le_of_ble_eq_true rfl) rfl ?_
      refine ev_aload_n (pc := 104) (i := 0) 5 dX5_dueYear_104 rfl rfl ?_
      refine ev_getR (pc := 105) (t := (b + 1)) 0 ag_C5 (ag_Yk hb).1 (ag_Yk hb).2 (Nat.le_of_ble_eq_true rfl) (ag_Yt0 hb) rfl ag_fl_X5_12 dX5_dueYear_105 ?_
      refine ev_iload (pc := 108) 2 dX5_dueYear_108 rfl ?_
      refine ev_iload (pc := 110) 0 dX5_dueYear_110 rfl ?_
      refine ev_vI (pc := 112) (as := [.int (σ (b + 9) x1.toNatClampNeg), .int (ag_max (σ (b + 10) x1.toNatClampNeg) ((σ (b + 2) (σ (b + 9) x1.toNatClampNeg).toNatClampNeg) + (ag_max 0 (q34 - (σ (b + 5) (σ (b + 9) x1.toNatClampNeg).toNatClampNeg)))))]) (rest := []) ⟨1, 87, 6, TX1, tyX1, ag_C1, ⟨(ag_Fk (ag_YF hb)).1, (ag_Fk (ag_YF hb)).2⟩, mv_X1_lives, ag_ml_X5_87, rfl, (Nat.le_of_ble_eq_true rfl), ⟨(Nat.le_of_ble_eq_true rfl), (Nat.le_of_ble_eq_true rfl)⟩, dX5_dueYear_112⟩ (im_X1_lives (b + 1) (ag_YF hb) (σ (b + 9) x1.toNatClampNeg) (ag_max (σ (b + 10) x1.toNatClampNeg) ((σ (b + 2) (σ (b + 9) x1.toNatClampNeg).toNatClampNeg) + (ag_max 0 (q34 - (σ (b + 5) (σ (b + 9) x1.toNatClampNeg).toNatClampNeg))))) σ) (fun q35 => ?_)
      refine ev_if_eq (pc := 115) (tgt := 123) dX5_dueYear_115 rfl ?_ ?_
      · refine ev_sipush (pc := 123) (v := 200) dX5_dueYear_123 (by decide) ?_
        exact ev_irI rfl dX5_dueYear_126
      · refine ev_iload (pc := 118) 0 dX5_dueYear_118 rfl ?_
        refine ev_goto (pc := 120) (tgt := 126) dX5_dueYear_120 rfl ?_
        exact ev_irI rfl dX5_dueYear_126
-- X5_writeThoseOf
def mX5_writeThoseOf : Md := (RX5, cX5_writeThoseOf, 3, none, none)
theorem mv_X5_writeThoseOf : ag_Mv yX5_writeThoseOf mX5_writeThoseOf 1 := ⟨ag_co_X5_writeThoseOf, ag_im_X5_writeThoseOf, ag_se_X5_writeThoseOf, ag_ini_X5, by decide +kernel⟩
theorem dX5_writeThoseOf_0 : decode mX5_writeThoseOf.2.1 0 = .ok (.iconst 0, 1) := by decide +kernel
theorem dX5_writeThoseOf_1 : decode mX5_writeThoseOf.2.1 1 = .ok (.istore_n 2, 1) := by decide +kernel
theorem dX5_writeThoseOf_2 : decode mX5_writeThoseOf.2.1 2 = .ok (.iload_n 2, 1) := by decide +kernel
theorem dX5_writeThoseOf_3 : decode mX5_writeThoseOf.2.1 3 = .ok (.aload_n 0, 1) := by decide +kernel
theorem dX5_writeThoseOf_4 : decode mX5_writeThoseOf.2.1 4 = .ok (.getfield 21, 3) := by decide +kernel
theorem dX5_writeThoseOf_7 : decode mX5_writeThoseOf.2.1 7 = .ok (.getfield 78, 3) := by decide +kernel
theorem dX5_writeThoseOf_10 : decode mX5_writeThoseOf.2.1 10 = .ok (.if_icmp .ge 106, 3) := by decide +kernel
theorem dX5_writeThoseOf_13 : decode mX5_writeThoseOf.2.1 13 = .ok (.aload_n 0, 1) := by decide +kernel
theorem dX5_writeThoseOf_14 : decode mX5_writeThoseOf.2.1 14 = .ok (.getfield 21, 3) := by decide +kernel
theorem dX5_writeThoseOf_17 : decode mX5_writeThoseOf.2.1 17 = .ok (.getfield 81, 3) := by decide +kernel
theorem dX5_writeThoseOf_20 : decode mX5_writeThoseOf.2.1 20 = .ok (.iload_n 2, 1) := by decide +kernel
theorem dX5_writeThoseOf_21 : decode mX5_writeThoseOf.2.1 21 = .ok (.iaload, 1) := by decide +kernel
theorem dX5_writeThoseOf_22 : decode mX5_writeThoseOf.2.1 22 = .ok (.iload_n 1, 1) := by decide +kernel
theorem dX5_writeThoseOf_23 : decode mX5_writeThoseOf.2.1 23 = .ok (.if_icmp .ne 87, 3) := by decide +kernel
theorem dX5_writeThoseOf_26 : decode mX5_writeThoseOf.2.1 26 = .ok (.aload_n 0, 1) := by decide +kernel
theorem dX5_writeThoseOf_27 : decode mX5_writeThoseOf.2.1 27 = .ok (.getfield 25, 3) := by decide +kernel
theorem dX5_writeThoseOf_30 : decode mX5_writeThoseOf.2.1 30 = .ok (.iload_n 2, 1) := by decide +kernel
theorem dX5_writeThoseOf_31 : decode mX5_writeThoseOf.2.1 31 = .ok (.ishr, 1) := by decide +kernel
theorem dX5_writeThoseOf_32 : decode mX5_writeThoseOf.2.1 32 = .ok (.iconst 1, 1) := by decide +kernel
theorem dX5_writeThoseOf_33 : decode mX5_writeThoseOf.2.1 33 = .ok (.iand, 1) := by decide +kernel
theorem dX5_writeThoseOf_34 : decode mX5_writeThoseOf.2.1 34 = .ok (.ifCond .ne 76, 3) := by decide +kernel
theorem dX5_writeThoseOf_37 : decode mX5_writeThoseOf.2.1 37 = .ok (.aload_n 0, 1) := by decide +kernel
theorem dX5_writeThoseOf_38 : decode mX5_writeThoseOf.2.1 38 = .ok (.getfield 12, 3) := by decide +kernel
theorem dX5_writeThoseOf_41 : decode mX5_writeThoseOf.2.1 41 = .ok (.aload_n 0, 1) := by decide +kernel
theorem dX5_writeThoseOf_42 : decode mX5_writeThoseOf.2.1 42 = .ok (.getfield 21, 3) := by decide +kernel
theorem dX5_writeThoseOf_45 : decode mX5_writeThoseOf.2.1 45 = .ok (.getfield 84, 3) := by decide +kernel
theorem dX5_writeThoseOf_48 : decode mX5_writeThoseOf.2.1 48 = .ok (.iload_n 2, 1) := by decide +kernel
theorem dX5_writeThoseOf_49 : decode mX5_writeThoseOf.2.1 49 = .ok (.iaload, 1) := by decide +kernel
theorem dX5_writeThoseOf_50 : decode mX5_writeThoseOf.2.1 50 = .ok (.iload_n 1, 1) := by decide +kernel
theorem dX5_writeThoseOf_51 : decode mX5_writeThoseOf.2.1 51 = .ok (.invokevirtual 87, 3) := by decide +kernel
theorem dX5_writeThoseOf_54 : decode mX5_writeThoseOf.2.1 54 = .ok (.ifCond .eq 56, 3) := by decide +kernel
theorem dX5_writeThoseOf_57 : decode mX5_writeThoseOf.2.1 57 = .ok (.aload_n 0, 1) := by decide +kernel
theorem dX5_writeThoseOf_58 : decode mX5_writeThoseOf.2.1 58 = .ok (.getfield 42, 3) := by decide +kernel
theorem dX5_writeThoseOf_61 : decode mX5_writeThoseOf.2.1 61 = .ok (.aload_n 0, 1) := by decide +kernel
theorem dX5_writeThoseOf_62 : decode mX5_writeThoseOf.2.1 62 = .ok (.getfield 21, 3) := by decide +kernel
theorem dX5_writeThoseOf_65 : decode mX5_writeThoseOf.2.1 65 = .ok (.getfield 84, 3) := by decide +kernel
theorem dX5_writeThoseOf_68 : decode mX5_writeThoseOf.2.1 68 = .ok (.iload_n 2, 1) := by decide +kernel
theorem dX5_writeThoseOf_69 : decode mX5_writeThoseOf.2.1 69 = .ok (.iaload, 1) := by decide +kernel
theorem dX5_writeThoseOf_70 : decode mX5_writeThoseOf.2.1 70 = .ok (.iaload, 1) := by decide +kernel
theorem dX5_writeThoseOf_71 : decode mX5_writeThoseOf.2.1 71 = .ok (.aload_n 0, 1) := by decide +kernel
theorem dX5_writeThoseOf_72 : decode mX5_writeThoseOf.2.1 72 = .ok (.getfield 21, 3) := by decide +kernel
theorem dX5_writeThoseOf_75 : decode mX5_writeThoseOf.2.1 75 = .ok (.getfield 91, 3) := by decide +kernel
theorem dX5_writeThoseOf_78 : decode mX5_writeThoseOf.2.1 78 = .ok (.iload_n 2, 1) := by decide +kernel
theorem dX5_writeThoseOf_79 : decode mX5_writeThoseOf.2.1 79 = .ok (.iaload, 1) := by decide +kernel
theorem dX5_writeThoseOf_80 : decode mX5_writeThoseOf.2.1 80 = .ok (.ishr, 1) := by decide +kernel
theorem dX5_writeThoseOf_81 : decode mX5_writeThoseOf.2.1 81 = .ok (.iconst 1, 1) := by decide +kernel
theorem dX5_writeThoseOf_82 : decode mX5_writeThoseOf.2.1 82 = .ok (.iand, 1) := by decide +kernel
theorem dX5_writeThoseOf_83 : decode mX5_writeThoseOf.2.1 83 = .ok (.iconst 1, 1) := by decide +kernel
theorem dX5_writeThoseOf_84 : decode mX5_writeThoseOf.2.1 84 = .ok (.if_icmp .ne 26, 3) := by decide +kernel
theorem dX5_writeThoseOf_87 : decode mX5_writeThoseOf.2.1 87 = .ok (.aload_n 0, 1) := by decide +kernel
theorem dX5_writeThoseOf_88 : decode mX5_writeThoseOf.2.1 88 = .ok (.dup, 1) := by decide +kernel
theorem dX5_writeThoseOf_89 : decode mX5_writeThoseOf.2.1 89 = .ok (.getfield 29, 3) := by decide +kernel
theorem dX5_writeThoseOf_92 : decode mX5_writeThoseOf.2.1 92 = .ok (.iconst 1, 1) := by decide +kernel
theorem dX5_writeThoseOf_93 : decode mX5_writeThoseOf.2.1 93 = .ok (.iload_n 2, 1) := by decide +kernel
theorem dX5_writeThoseOf_94 : decode mX5_writeThoseOf.2.1 94 = .ok (.ishl, 1) := by decide +kernel
theorem dX5_writeThoseOf_95 : decode mX5_writeThoseOf.2.1 95 = .ok (.ior, 1) := by decide +kernel
theorem dX5_writeThoseOf_96 : decode mX5_writeThoseOf.2.1 96 = .ok (.putfield 29, 3) := by decide +kernel
theorem dX5_writeThoseOf_99 : decode mX5_writeThoseOf.2.1 99 = .ok (.aload_n 0, 1) := by decide +kernel
theorem dX5_writeThoseOf_100 : decode mX5_writeThoseOf.2.1 100 = .ok (.getfield 39, 3) := by decide +kernel
theorem dX5_writeThoseOf_103 : decode mX5_writeThoseOf.2.1 103 = .ok (.iload_n 2, 1) := by decide +kernel
theorem dX5_writeThoseOf_104 : decode mX5_writeThoseOf.2.1 104 = .ok (.aload_n 0, 1) := by decide +kernel
theorem dX5_writeThoseOf_105 : decode mX5_writeThoseOf.2.1 105 = .ok (.iload_n 2, 1) := by decide +kernel
theorem dX5_writeThoseOf_106 : decode mX5_writeThoseOf.2.1 106 = .ok (.invokevirtual 94, 3) := by decide +kernel
theorem dX5_writeThoseOf_109 : decode mX5_writeThoseOf.2.1 109 = .ok (.iastore, 1) := by decide +kernel
theorem dX5_writeThoseOf_110 : decode mX5_writeThoseOf.2.1 110 = .ok (.iinc 2 1, 3) := by decide +kernel
theorem dX5_writeThoseOf_113 : decode mX5_writeThoseOf.2.1 113 = .ok (.goto (-111), 3) := by decide +kernel
theorem dX5_writeThoseOf_116 : decode mX5_writeThoseOf.2.1 116 = .ok (.return_, 1) := by decide +kernel
def fn_X5_writeThoseOf_b110 (n : Nat) (b : Nat) (x1 : Int32) (k2 : Int32 → Sg → Option Sg) (v2 : Int32) (σ : Sg) : Option Sg :=
  (k2 (v2 + 1) σ)
set_option maxRecDepth 20000 in
set_option maxHeartbeats 4000000 in
theorem ev_X5_writeThoseOf_b110 (n : Nat) (b : Nat) (hb : ag_Y b) (x1 : Int32) (k2 : Int32 → Sg → Option Sg) (hk2 : ∀ (v2 : Int32) (σ : Sg), Ev mX5_writeThoseOf 2 48 jV 2 [(0, .ref b), (1, .int x1), (2, .int v2)] [] σ (k2 v2 σ)) (v2 : Int32) (σ : Sg) : Ev mX5_writeThoseOf 2 48 jV 110 [(0, .ref b), (1, .int x1), (2, .int v2)] [] σ (fn_X5_writeThoseOf_b110 n b x1 k2 v2 σ) := by
  unfold fn_X5_writeThoseOf_b110
  refine ev_iinc (pc := 110) (v := (v2 + 1)) (lv' := [(2, .int (v2 + 1)), (0, .ref b), (1, .int x1)]) 2 dX5_writeThoseOf_110 rfl rfl (Nat.le_of_ble_eq_true rfl) rfl ?_
  refine ev_goto (pc := 113) (tgt := 2) dX5_writeThoseOf_113 rfl ?_
  refine ev_sub [1, 2, 0] rfl ?_
  exact hk2 (v2 + 1) σ
def fn_X5_writeThoseOf_b2 (n : Nat) (b : Nat) (x1 : Int32)  : Nat → Int32 → Sg → Option Sg
  | 0 => fun _ _ => none
  | i + 1 => fun v2 σ =>
  (if (σ (b + 7) 0) ≤ v2 then (some σ)
  else (if ag_ib v2 13 = true then (if (σ (b + 10) v2.toNatClampNeg) = x1 then (if (((σ b 2) >>> (v2 &&& 31)) &&& 1) = 0 then (if ag_ib v2 13 = true then (Option.bind (fn_X1_lives (b + 1) (σ (b + 8) v2.toNatClampNeg) x1 σ) fun q36 =>
  (if q36 = 0 then (fn_X5_writeThoseOf_b110 n b x1 (fn_X5_writeThoseOf_b2 n b x1 i) v2 σ)
  else (if ag_ib v2 13 = true then (if ag_ib (σ (b + 8) v2.toNatClampNeg) 10 = true then (if ag_ib v2 13 = true then (if (((σ (b + 15) (σ (b + 8) v2.toNatClampNeg).toNatClampNeg) >>> ((σ (b + 11) v2.toNatClampNeg) &&& 31)) &&& 1) = 1 then (Option.bind (fn_X5_dueYear b v2 (ag_up σ b 3 ((σ b 3) ||| (1 <<< (v2 &&& 31))))) fun q37 =>
  (if ag_ib v2 13 = true then (ag_sg (ag_up (ag_up σ b 3 ((σ b 3) ||| (1 <<< (v2 &&& 31)))) (b + 14) v2.toNatClampNeg q37) fun t38 =>
  (fn_X5_writeThoseOf_b110 n b x1 (fn_X5_writeThoseOf_b2 n b x1 i) v2 t38)) else none))
  else (fn_X5_writeThoseOf_b110 n b x1 (fn_X5_writeThoseOf_b2 n b x1 i) v2 σ)) else none) else none) else none))) else none)
  else (fn_X5_writeThoseOf_b110 n b x1 (fn_X5_writeThoseOf_b2 n b x1 i) v2 σ))
  else (fn_X5_writeThoseOf_b110 n b x1 (fn_X5_writeThoseOf_b2 n b x1 i) v2 σ)) else none))
theorem fn_X5_writeThoseOf_b2_s (n : Nat) (b : Nat) (x1 : Int32)  (i : Nat) (v2 : Int32) (σ : Sg) : fn_X5_writeThoseOf_b2 n b x1 (i + 1) v2 σ =
  (if (σ (b + 7) 0) ≤ v2 then (some σ)
  else (if ag_ib v2 13 = true then (if (σ (b + 10) v2.toNatClampNeg) = x1 then (if (((σ b 2) >>> (v2 &&& 31)) &&& 1) = 0 then (if ag_ib v2 13 = true then (Option.bind (fn_X1_lives (b + 1) (σ (b + 8) v2.toNatClampNeg) x1 σ) fun q36 =>
  (if q36 = 0 then (fn_X5_writeThoseOf_b110 n b x1 (fn_X5_writeThoseOf_b2 n b x1 i) v2 σ)
  else (if ag_ib v2 13 = true then (if ag_ib (σ (b + 8) v2.toNatClampNeg) 10 = true then (if ag_ib v2 13 = true then (if (((σ (b + 15) (σ (b + 8) v2.toNatClampNeg).toNatClampNeg) >>> ((σ (b + 11) v2.toNatClampNeg) &&& 31)) &&& 1) = 1 then (Option.bind (fn_X5_dueYear b v2 (ag_up σ b 3 ((σ b 3) ||| (1 <<< (v2 &&& 31))))) fun q37 =>
  (if ag_ib v2 13 = true then (ag_sg (ag_up (ag_up σ b 3 ((σ b 3) ||| (1 <<< (v2 &&& 31)))) (b + 14) v2.toNatClampNeg q37) fun t38 =>
  (fn_X5_writeThoseOf_b110 n b x1 (fn_X5_writeThoseOf_b2 n b x1 i) v2 t38)) else none))
  else (fn_X5_writeThoseOf_b110 n b x1 (fn_X5_writeThoseOf_b2 n b x1 i) v2 σ)) else none) else none) else none))) else none)
  else (fn_X5_writeThoseOf_b110 n b x1 (fn_X5_writeThoseOf_b2 n b x1 i) v2 σ))
  else (fn_X5_writeThoseOf_b110 n b x1 (fn_X5_writeThoseOf_b2 n b x1 i) v2 σ)) else none)) := rfl
set_option maxRecDepth 20000 in
set_option maxHeartbeats 4000000 in
theorem ev_X5_writeThoseOf_b2 (n : Nat) (b : Nat) (hb : ag_Y b) (x1 : Int32)  : ∀ (i : Nat) (v2 : Int32) (σ : Sg), Ev mX5_writeThoseOf 2 48 jV 2 [(0, .ref b), (1, .int x1), (2, .int v2)] [] σ (fn_X5_writeThoseOf_b2 n b x1 i v2 σ) := by
  intro i
  induction i with
  | zero =>
    intro v2 σ
    exact ev_none
  | succ i ih =>
    intro v2 σ
    rw [fn_X5_writeThoseOf_b2_s]
    refine ev_iload_n (pc := 2) (i := 2) 2 dX5_writeThoseOf_2 rfl rfl ?_
    refine ev_aload_n (pc := 3) (i := 0) 0 dX5_writeThoseOf_3 rfl rfl ?_
    refine ev_getR (pc := 4) (t := (b + 7)) 1 ag_C5 (ag_Yk hb).1 (ag_Yk hb).2 (Nat.le_of_ble_eq_true rfl) (ag_Yt1 hb) rfl ag_fl_X5_21 dX5_writeThoseOf_4 ?_
    refine ev_getI (pc := 7) 0 ag_C2 (ag_Pk (ag_YP hb)).1 (ag_Pk (ag_YP hb)).2 (Nat.le_of_ble_eq_true rfl) (ag_Pt0 (ag_YP hb)) rfl ag_fl_X5_78 dX5_writeThoseOf_7 ?_
    refine ev_icmp_ge (pc := 10) (tgt := 116) dX5_writeThoseOf_10 rfl ?_ ?_
    · exact ev_rV rfl dX5_writeThoseOf_116
    · refine ev_aload_n (pc := 13) (i := 0) 0 dX5_writeThoseOf_13 rfl rfl ?_
      refine ev_getR (pc := 14) (t := (b + 7)) 1 ag_C5 (ag_Yk hb).1 (ag_Yk hb).2 (Nat.le_of_ble_eq_true rfl) (ag_Yt1 hb) rfl ag_fl_X5_21 dX5_writeThoseOf_14 ?_
      refine ev_getR (pc := 17) (t := (b + 10)) 3 ag_C2 (ag_Pk (ag_YP hb)).1 (ag_Pk (ag_YP hb)).2 (Nat.le_of_ble_eq_true rfl) (ag_Pt3 (ag_YP hb)) rfl ag_fl_X5_81 dX5_writeThoseOf_17 ?_
      refine ev_iload_n (pc := 20) (i := 2) 2 dX5_writeThoseOf_20 rfl rfl ?_
      refine ev_iald (pc := 21) (ag_Pa3 (ag_YP hb)).1 (ag_Pa3 (ag_YP hb)).2 dX5_writeThoseOf_21 ?_
      refine ev_iload_n (pc := 22) (i := 1) 1 dX5_writeThoseOf_22 rfl rfl ?_
      refine ev_icmp_ne (pc := 23) (tgt := 110) dX5_writeThoseOf_23 rfl ?_ ?_
      · refine ev_aload_n (pc := 26) (i := 0) 0 dX5_writeThoseOf_26 rfl rfl ?_
        refine ev_getI (pc := 27) 2 ag_C5 (ag_Yk hb).1 (ag_Yk hb).2 (Nat.le_of_ble_eq_true rfl) (ag_Yt2 hb) rfl ag_fl_X5_25 dX5_writeThoseOf_27 ?_
        refine ev_iload_n (pc := 30) (i := 2) 2 dX5_writeThoseOf_30 rfl rfl ?_
        refine ev_ishr (pc := 31) dX5_writeThoseOf_31 ?_
        refine ev_iconst (pc := 32) (v := 1) dX5_writeThoseOf_32 (by decide) ?_
        refine ev_iand (pc := 33) dX5_writeThoseOf_33 ?_
        refine ev_if_ne (pc := 34) (tgt := 110) dX5_writeThoseOf_34 rfl ?_ ?_
        · refine ev_aload_n (pc := 37) (i := 0) 0 dX5_writeThoseOf_37 rfl rfl ?_
          refine ev_getR (pc := 38) (t := (b + 1)) 0 ag_C5 (ag_Yk hb).1 (ag_Yk hb).2 (Nat.le_of_ble_eq_true rfl) (ag_Yt0 hb) rfl ag_fl_X5_12 dX5_writeThoseOf_38 ?_
          refine ev_aload_n (pc := 41) (i := 0) 0 dX5_writeThoseOf_41 rfl rfl ?_
          refine ev_getR (pc := 42) (t := (b + 7)) 1 ag_C5 (ag_Yk hb).1 (ag_Yk hb).2 (Nat.le_of_ble_eq_true rfl) (ag_Yt1 hb) rfl ag_fl_X5_21 dX5_writeThoseOf_42 ?_
          refine ev_getR (pc := 45) (t := (b + 8)) 1 ag_C2 (ag_Pk (ag_YP hb)).1 (ag_Pk (ag_YP hb)).2 (Nat.le_of_ble_eq_true rfl) (ag_Pt1 (ag_YP hb)) rfl ag_fl_X5_84 dX5_writeThoseOf_45 ?_
          refine ev_iload_n (pc := 48) (i := 2) 2 dX5_writeThoseOf_48 rfl rfl ?_
          refine ev_iald (pc := 49) (ag_Pa1 (ag_YP hb)).1 (ag_Pa1 (ag_YP hb)).2 dX5_writeThoseOf_49 ?_
          refine ev_iload_n (pc := 50) (i := 1) 1 dX5_writeThoseOf_50 rfl rfl ?_
          refine ev_vI (pc := 51) (as := [.int (σ (b + 8) v2.toNatClampNeg), .int x1]) (rest := []) ⟨1, 87, 6, TX1, tyX1, ag_C1, ⟨(ag_Fk (ag_YF hb)).1, (ag_Fk (ag_YF hb)).2⟩, mv_X1_lives, ag_ml_X5_87, rfl, (Nat.le_of_ble_eq_true rfl), ⟨(Nat.le_of_ble_eq_true rfl), (Nat.le_of_ble_eq_true rfl)⟩, dX5_writeThoseOf_51⟩ (im_X1_lives (b + 1) (ag_YF hb) (σ (b + 8) v2.toNatClampNeg) x1 σ) (fun q36 => ?_)
          refine ev_if_eq (pc := 54) (tgt := 110) dX5_writeThoseOf_54 rfl ?_ ?_
          · exact ev_X5_writeThoseOf_b110 n b hb x1 (fn_X5_writeThoseOf_b2 n b x1 i) ih v2 σ
          · refine ev_aload_n (pc := 57) (i := 0) 0 dX5_writeThoseOf_57 rfl rfl ?_
            refine ev_getR (pc := 58) (t := (b + 15)) 7 ag_C5 (ag_Yk hb).1 (ag_Yk hb).2 (Nat.le_of_ble_eq_true rfl) (ag_Yt7 hb) rfl ag_fl_X5_42 dX5_writeThoseOf_58 ?_
            refine ev_aload_n (pc := 61) (i := 0) 0 dX5_writeThoseOf_61 rfl rfl ?_
            refine ev_getR (pc := 62) (t := (b + 7)) 1 ag_C5 (ag_Yk hb).1 (ag_Yk hb).2 (Nat.le_of_ble_eq_true rfl) (ag_Yt1 hb) rfl ag_fl_X5_21 dX5_writeThoseOf_62 ?_
            refine ev_getR (pc := 65) (t := (b + 8)) 1 ag_C2 (ag_Pk (ag_YP hb)).1 (ag_Pk (ag_YP hb)).2 (Nat.le_of_ble_eq_true rfl) (ag_Pt1 (ag_YP hb)) rfl ag_fl_X5_84 dX5_writeThoseOf_65 ?_
            refine ev_iload_n (pc := 68) (i := 2) 2 dX5_writeThoseOf_68 rfl rfl ?_
            refine ev_iald (pc := 69) (ag_Pa1 (ag_YP hb)).1 (ag_Pa1 (ag_YP hb)).2 dX5_writeThoseOf_69 ?_
            refine ev_iald (pc := 70) (ag_Ya15 hb).1 (ag_Ya15 hb).2 dX5_writeThoseOf_70 ?_
            refine ev_aload_n (pc := 71) (i := 0) 0 dX5_writeThoseOf_71 rfl rfl ?_
            refine ev_getR (pc := 72) (t := (b + 7)) 1 ag_C5 (ag_Yk hb).1 (ag_Yk hb).2 (Nat.le_of_ble_eq_true rfl) (ag_Yt1 hb) rfl ag_fl_X5_21 dX5_writeThoseOf_72 ?_
            refine ev_getR (pc := 75) (t := (b + 11)) 4 ag_C2 (ag_Pk (ag_YP hb)).1 (ag_Pk (ag_YP hb)).2 (Nat.le_of_ble_eq_true rfl) (ag_Pt4 (ag_YP hb)) rfl ag_fl_X5_91 dX5_writeThoseOf_75 ?_
            refine ev_iload_n (pc := 78) (i := 2) 2 dX5_writeThoseOf_78 rfl rfl ?_
            refine ev_iald (pc := 79) (ag_Pa4 (ag_YP hb)).1 (ag_Pa4 (ag_YP hb)).2 dX5_writeThoseOf_79 ?_
            refine ev_ishr (pc := 80) dX5_writeThoseOf_80 ?_
            refine ev_iconst (pc := 81) (v := 1) dX5_writeThoseOf_81 (by decide) ?_
            refine ev_iand (pc := 82) dX5_writeThoseOf_82 ?_
            refine ev_iconst (pc := 83) (v := 1) dX5_writeThoseOf_83 (by decide) ?_
            refine ev_icmp_ne (pc := 84) (tgt := 110) dX5_writeThoseOf_84 rfl ?_ ?_
            · refine ev_aload_n (pc := 87) (i := 0) 0 dX5_writeThoseOf_87 rfl rfl ?_
              refine ev_dup (pc := 88) dX5_writeThoseOf_88 rfl ?_
              refine ev_getI (pc := 89) 3 ag_C5 (ag_Yk hb).1 (ag_Yk hb).2 (Nat.le_of_ble_eq_true rfl) (ag_Yt3 hb) rfl ag_fl_X5_29 dX5_writeThoseOf_89 ?_
              refine ev_iconst (pc := 92) (v := 1) dX5_writeThoseOf_92 (by decide) ?_
              refine ev_iload_n (pc := 93) (i := 2) 2 dX5_writeThoseOf_93 rfl rfl ?_
              refine ev_ishl (pc := 94) dX5_writeThoseOf_94 ?_
              refine ev_ior (pc := 95) dX5_writeThoseOf_95 ?_
              refine ev_put (pc := 96) 3 ag_C5 (ag_Yk hb).1 (ag_Yk hb).2 (Nat.le_of_ble_eq_true rfl) (ag_Yt3 hb) rfl ag_fl_X5_29 rfl rfl rfl dX5_writeThoseOf_96 ?_
              refine ev_aload_n (pc := 99) (i := 0) 0 dX5_writeThoseOf_99 rfl rfl ?_
              refine ev_getR (pc := 100) (t := (b + 14)) 6 ag_C5 (ag_Yk hb).1 (ag_Yk hb).2 (Nat.le_of_ble_eq_true rfl) (ag_Yt6 hb) rfl ag_fl_X5_39 dX5_writeThoseOf_100 ?_
              refine ev_iload_n (pc := 103) (i := 2) 2 dX5_writeThoseOf_103 rfl rfl ?_
              refine ev_aload_n (pc := 104) (i := 0) 0 dX5_writeThoseOf_104 rfl rfl ?_
              refine ev_iload_n (pc := 105) (i := 2) 2 dX5_writeThoseOf_105 rfl rfl ?_
              refine ev_vI (pc := 106) (as := [.int v2]) (rest := [.int v2, .ref (b + 14)]) ⟨5, 94, 10, TX5, tyX5, ag_C5, ⟨(ag_Yk hb).1, (ag_Yk hb).2⟩, mv_X5_dueYear, ag_ml_X5_94, rfl, (Nat.le_of_ble_eq_true rfl), ⟨(Nat.le_of_ble_eq_true rfl), (Nat.le_of_ble_eq_true rfl)⟩, dX5_writeThoseOf_106⟩ (im_X5_dueYear b hb v2 (ag_up σ b 3 ((σ b 3) ||| (1 <<< (v2 &&& 31))))) (fun q37 => ?_)
              refine ev_iast (pc := 109) (ag_Ya14 hb).1 (ag_Ya14 hb).2 dX5_writeThoseOf_109 ?_
              refine ev_sg (fun t38 => ?_)
              exact ev_X5_writeThoseOf_b110 n b hb x1 (fn_X5_writeThoseOf_b2 n b x1 i) ih v2 t38
            · exact ev_X5_writeThoseOf_b110 n b hb x1 (fn_X5_writeThoseOf_b2 n b x1 i) ih v2 σ
        · exact ev_X5_writeThoseOf_b110 n b hb x1 (fn_X5_writeThoseOf_b2 n b x1 i) ih v2 σ
      · exact ev_X5_writeThoseOf_b110 n b hb x1 (fn_X5_writeThoseOf_b2 n b x1 i) ih v2 σ
def fn_X5_writeThoseOf (n : Nat) (b : Nat) (x1 : Int32) (σ : Sg) : Option Sg :=
  (fn_X5_writeThoseOf_b2 n b x1 n 0 σ)
set_option maxRecDepth 20000 in
set_option maxHeartbeats 4000000 in
theorem im_X5_writeThoseOf (n : Nat) (b : Nat) (hb : ag_Y b) (x1 : Int32) (σ : Sg) : Im yX5_writeThoseOf mX5_writeThoseOf 2 48 jV [.ref b, .int x1] σ (fn_X5_writeThoseOf n b x1 σ) := by
  refine Im.of (by decide +kernel) rfl rfl (Nat.le_of_ble_eq_true rfl) ?_
  show Ev mX5_writeThoseOf 2 48 jV 0 [(0, .ref b), (1, .int x1)] [] σ (fn_X5_writeThoseOf n b x1 σ)
  unfold fn_X5_writeThoseOf
  refine ev_iconst (pc := 0) (v := 0) dX5_writeThoseOf_0 (by decide) ?_
  refine ev_istore_n (pc := 1) (i := 2) (lv' := [(2, .int 0), (0, .ref b), (1, .int x1)]) dX5_writeThoseOf_1 rfl (Nat.le_of_ble_eq_true rfl) rfl ?_
  refine ev_sub [1, 2, 0] rfl ?_
  exact ev_X5_writeThoseOf_b2 n b hb x1 n 0 σ
-- X5_isWaiting
def mX5_isWaiting : Md := (RX5, cX5_isWaiting, 2, some .boolean, none)
theorem mv_X5_isWaiting : ag_Mv yX5_isWaiting mX5_isWaiting 1 := ⟨ag_co_X5_isWaiting, ag_im_X5_isWaiting, ag_se_X5_isWaiting, ag_ini_X5, by decide +kernel⟩
theorem dX5_isWaiting_0 : decode mX5_isWaiting.2.1 0 = .ok (.aload_n 0, 1) := by decide +kernel
theorem dX5_isWaiting_1 : decode mX5_isWaiting.2.1 1 = .ok (.getfield 29, 3) := by decide +kernel
theorem dX5_isWaiting_4 : decode mX5_isWaiting.2.1 4 = .ok (.aload_n 0, 1) := by decide +kernel
theorem dX5_isWaiting_5 : decode mX5_isWaiting.2.1 5 = .ok (.getfield 32, 3) := by decide +kernel
theorem dX5_isWaiting_8 : decode mX5_isWaiting.2.1 8 = .ok (.iconst (-1), 1) := by decide +kernel
theorem dX5_isWaiting_9 : decode mX5_isWaiting.2.1 9 = .ok (.ixor, 1) := by decide +kernel
theorem dX5_isWaiting_10 : decode mX5_isWaiting.2.1 10 = .ok (.iand, 1) := by decide +kernel
theorem dX5_isWaiting_11 : decode mX5_isWaiting.2.1 11 = .ok (.iload_n 1, 1) := by decide +kernel
theorem dX5_isWaiting_12 : decode mX5_isWaiting.2.1 12 = .ok (.ishr, 1) := by decide +kernel
theorem dX5_isWaiting_13 : decode mX5_isWaiting.2.1 13 = .ok (.iconst 1, 1) := by decide +kernel
theorem dX5_isWaiting_14 : decode mX5_isWaiting.2.1 14 = .ok (.iand, 1) := by decide +kernel
theorem dX5_isWaiting_15 : decode mX5_isWaiting.2.1 15 = .ok (.iconst 1, 1) := by decide +kernel
theorem dX5_isWaiting_16 : decode mX5_isWaiting.2.1 16 = .ok (.if_icmp .ne 7, 3) := by decide +kernel
theorem dX5_isWaiting_19 : decode mX5_isWaiting.2.1 19 = .ok (.iconst 1, 1) := by decide +kernel
theorem dX5_isWaiting_20 : decode mX5_isWaiting.2.1 20 = .ok (.goto 4, 3) := by decide +kernel
theorem dX5_isWaiting_23 : decode mX5_isWaiting.2.1 23 = .ok (.iconst 0, 1) := by decide +kernel
theorem dX5_isWaiting_24 : decode mX5_isWaiting.2.1 24 = .ok (.ireturn, 1) := by decide +kernel
def fn_X5_isWaiting (b : Nat) (x1 : Int32) (σ : Sg) : Option Int32 :=
  (if ((((σ b 3) &&& ((σ b 4) ^^^ (-1))) >>> (x1 &&& 31)) &&& 1) = 1 then (some 1)
  else (some 0))
set_option maxRecDepth 20000 in
set_option maxHeartbeats 4000000 in
theorem im_X5_isWaiting (b : Nat) (hb : ag_Y b) (x1 : Int32) (σ : Sg) : Im yX5_isWaiting mX5_isWaiting 0 0 (jI σ) [.ref b, .int x1] σ (fn_X5_isWaiting b x1 σ) := by
  refine Im.of (by decide +kernel) rfl rfl (Nat.le_of_ble_eq_true rfl) ?_
  show Ev mX5_isWaiting 0 0 (jI σ) 0 [(0, .ref b), (1, .int x1)] [] σ (fn_X5_isWaiting b x1 σ)
  unfold fn_X5_isWaiting
  refine ev_aload_n (pc := 0) (i := 0) 0 dX5_isWaiting_0 rfl rfl ?_
  refine ev_getI (pc := 1) 3 ag_C5 (ag_Yk hb).1 (ag_Yk hb).2 (Nat.le_of_ble_eq_true rfl) (ag_Yt3 hb) rfl ag_fl_X5_29 dX5_isWaiting_1 ?_
  refine ev_aload_n (pc := 4) (i := 0) 0 dX5_isWaiting_4 rfl rfl ?_
  refine ev_getI (pc := 5) 4 ag_C5 (ag_Yk hb).1 (ag_Yk hb).2 (Nat.le_of_ble_eq_true rfl) (ag_Yt4 hb) rfl ag_fl_X5_32 dX5_isWaiting_5 ?_
  refine ev_iconst (pc := 8) (v := (-1)) dX5_isWaiting_8 (by decide) ?_
  refine ev_ixor (pc := 9) dX5_isWaiting_9 ?_
  refine ev_iand (pc := 10) dX5_isWaiting_10 ?_
  refine ev_iload_n (pc := 11) (i := 1) 1 dX5_isWaiting_11 rfl rfl ?_
  refine ev_ishr (pc := 12) dX5_isWaiting_12 ?_
  refine ev_iconst (pc := 13) (v := 1) dX5_isWaiting_13 (by decide) ?_
  refine ev_iand (pc := 14) dX5_isWaiting_14 ?_
  refine ev_iconst (pc := 15) (v := 1) dX5_isWaiting_15 (by decide) ?_
  refine ev_icmp_ne (pc := 16) (tgt := 23) dX5_isWaiting_16 rfl ?_ ?_
  · refine ev_iconst (pc := 19) (v := 1) dX5_isWaiting_19 (by decide) ?_
    refine ev_goto (pc := 20) (tgt := 24) dX5_isWaiting_20 rfl ?_
    exact ev_brI rfl rfl dX5_isWaiting_24
  · refine ev_iconst (pc := 23) (v := 0) dX5_isWaiting_23 (by decide) ?_
    exact ev_brI rfl rfl dX5_isWaiting_24
-- X5_hasNeeded
def mX5_hasNeeded : Md := (RX5, cX5_hasNeeded, 3, some .boolean, none)
theorem mv_X5_hasNeeded : ag_Mv yX5_hasNeeded mX5_hasNeeded 1 := ⟨ag_co_X5_hasNeeded, ag_im_X5_hasNeeded, ag_se_X5_hasNeeded, ag_ini_X5, by decide +kernel⟩
theorem dX5_hasNeeded_0 : decode mX5_hasNeeded.2.1 0 = .ok (.aload_n 0, 1) := by decide +kernel
theorem dX5_hasNeeded_1 : decode mX5_hasNeeded.2.1 1 = .ok (.getfield 21, 3) := by decide +kernel
theorem dX5_hasNeeded_4 : decode mX5_hasNeeded.2.1 4 = .ok (.getfield 121, 3) := by decide +kernel
theorem dX5_hasNeeded_7 : decode mX5_hasNeeded.2.1 7 = .ok (.iload_n 1, 1) := by decide +kernel
theorem dX5_hasNeeded_8 : decode mX5_hasNeeded.2.1 8 = .ok (.iaload, 1) := by decide +kernel
theorem dX5_hasNeeded_9 : decode mX5_hasNeeded.2.1 9 = .ok (.istore_n 2, 1) := by decide +kernel
theorem dX5_hasNeeded_10 : decode mX5_hasNeeded.2.1 10 = .ok (.iload_n 2, 1) := by decide +kernel
theorem dX5_hasNeeded_11 : decode mX5_hasNeeded.2.1 11 = .ok (.iconst (-1), 1) := by decide +kernel
theorem dX5_hasNeeded_12 : decode mX5_hasNeeded.2.1 12 = .ok (.if_icmp .eq 25, 3) := by decide +kernel
theorem dX5_hasNeeded_15 : decode mX5_hasNeeded.2.1 15 = .ok (.aload_n 0, 1) := by decide +kernel
theorem dX5_hasNeeded_16 : decode mX5_hasNeeded.2.1 16 = .ok (.getfield 42, 3) := by decide +kernel
theorem dX5_hasNeeded_19 : decode mX5_hasNeeded.2.1 19 = .ok (.aload_n 0, 1) := by decide +kernel
theorem dX5_hasNeeded_20 : decode mX5_hasNeeded.2.1 20 = .ok (.getfield 21, 3) := by decide +kernel
theorem dX5_hasNeeded_23 : decode mX5_hasNeeded.2.1 23 = .ok (.getfield 101, 3) := by decide +kernel
theorem dX5_hasNeeded_26 : decode mX5_hasNeeded.2.1 26 = .ok (.iload_n 1, 1) := by decide +kernel
theorem dX5_hasNeeded_27 : decode mX5_hasNeeded.2.1 27 = .ok (.iaload, 1) := by decide +kernel
theorem dX5_hasNeeded_28 : decode mX5_hasNeeded.2.1 28 = .ok (.iaload, 1) := by decide +kernel
theorem dX5_hasNeeded_29 : decode mX5_hasNeeded.2.1 29 = .ok (.iload_n 2, 1) := by decide +kernel
theorem dX5_hasNeeded_30 : decode mX5_hasNeeded.2.1 30 = .ok (.ishr, 1) := by decide +kernel
theorem dX5_hasNeeded_31 : decode mX5_hasNeeded.2.1 31 = .ok (.iconst 1, 1) := by decide +kernel
theorem dX5_hasNeeded_32 : decode mX5_hasNeeded.2.1 32 = .ok (.iand, 1) := by decide +kernel
theorem dX5_hasNeeded_33 : decode mX5_hasNeeded.2.1 33 = .ok (.iconst 1, 1) := by decide +kernel
theorem dX5_hasNeeded_34 : decode mX5_hasNeeded.2.1 34 = .ok (.if_icmp .ne 7, 3) := by decide +kernel
theorem dX5_hasNeeded_37 : decode mX5_hasNeeded.2.1 37 = .ok (.iconst 1, 1) := by decide +kernel
theorem dX5_hasNeeded_38 : decode mX5_hasNeeded.2.1 38 = .ok (.goto 4, 3) := by decide +kernel
theorem dX5_hasNeeded_41 : decode mX5_hasNeeded.2.1 41 = .ok (.iconst 0, 1) := by decide +kernel
theorem dX5_hasNeeded_42 : decode mX5_hasNeeded.2.1 42 = .ok (.ireturn, 1) := by decide +kernel
def fn_X5_hasNeeded_b37 (b : Nat) (x1 : Int32) (σ : Sg)   : Option Int32 :=
  (some 1)
set_option maxRecDepth 20000 in
set_option maxHeartbeats 4000000 in
theorem ev_X5_hasNeeded_b37 (b : Nat) (hb : ag_Y b) (x1 : Int32) (σ : Sg)   : Ev mX5_hasNeeded 0 0 (jI σ) 37 [(0, .ref b), (1, .int x1)] [] σ (fn_X5_hasNeeded_b37 b x1 σ ) := by
  unfold fn_X5_hasNeeded_b37
  refine ev_iconst (pc := 37) (v := 1) dX5_hasNeeded_37 (by decide) ?_
  refine ev_goto (pc := 38) (tgt := 42) dX5_hasNeeded_38 rfl ?_
  exact ev_brI rfl rfl dX5_hasNeeded_42
def fn_X5_hasNeeded (b : Nat) (x1 : Int32) (σ : Sg) : Option Int32 :=
  (if ag_ib x1 13 = true then (if (σ (b + 12) x1.toNatClampNeg) = (-1) then (fn_X5_hasNeeded_b37 b x1 σ )
  else (if ag_ib x1 13 = true then (if ag_ib (σ (b + 9) x1.toNatClampNeg) 10 = true then (if (((σ (b + 15) (σ (b + 9) x1.toNatClampNeg).toNatClampNeg) >>> ((σ (b + 12) x1.toNatClampNeg) &&& 31)) &&& 1) = 1 then (fn_X5_hasNeeded_b37 b x1 σ )
  else (some 0)) else none) else none)) else none)
set_option maxRecDepth 20000 in
set_option maxHeartbeats 4000000 in
theorem im_X5_hasNeeded (b : Nat) (hb : ag_Y b) (x1 : Int32) (σ : Sg) : Im yX5_hasNeeded mX5_hasNeeded 0 0 (jI σ) [.ref b, .int x1] σ (fn_X5_hasNeeded b x1 σ) := by
  refine Im.of (by decide +kernel) rfl rfl (Nat.le_of_ble_eq_true rfl) ?_
  show Ev mX5_hasNeeded 0 0 (jI σ) 0 [(0, .ref b), (1, .int x1)] [] σ (fn_X5_hasNeeded b x1 σ)
  unfold fn_X5_hasNeeded
  refine ev_aload_n (pc := 0) (i := 0) 0 dX5_hasNeeded_0 rfl rfl ?_
  refine ev_getR (pc := 1) (t := (b + 7)) 1 ag_C5 (ag_Yk hb).1 (ag_Yk hb).2 (Nat.le_of_ble_eq_true rfl) (ag_Yt1 hb) rfl ag_fl_X5_21 dX5_hasNeeded_1 ?_
  refine ev_getR (pc := 4) (t := (b + 12)) 5 ag_C2 (ag_Pk (ag_YP hb)).1 (ag_Pk (ag_YP hb)).2 (Nat.le_of_ble_eq_true rfl) (ag_Pt5 (ag_YP hb)) rfl ag_fl_X5_121 dX5_hasNeeded_4 ?_
  refine ev_iload_n (pc := 7) (i := 1) 1 dX5_hasNeeded_7 rfl rfl ?_
  refine ev_iald (pc := 8) (ag_Pa5 (ag_YP hb)).1 (ag_Pa5 (ag_YP hb)).2 dX5_hasNeeded_8 ?_
  refine ev_istore_n (pc := 9) (i := 2) (lv' := [(2, .int (σ (b + 12) x1.toNatClampNeg)), (0, .ref b), (1, .int x1)]) dX5_hasNeeded_9 rfl (Nat.le_of_ble_eq_true rfl) rfl ?_
  refine ev_iload_n (pc := 10) (i := 2) 0 dX5_hasNeeded_10 rfl rfl ?_
  refine ev_iconst (pc := 11) (v := (-1)) dX5_hasNeeded_11 (by decide) ?_
  refine ev_icmp_eq (pc := 12) (tgt := 37) dX5_hasNeeded_12 rfl ?_ ?_
  · refine ev_sub [1, 2] rfl ?_
    exact ev_X5_hasNeeded_b37 b hb x1 σ 
  · refine ev_aload_n (pc := 15) (i := 0) 1 dX5_hasNeeded_15 rfl rfl ?_
    refine ev_getR (pc := 16) (t := (b + 15)) 7 ag_C5 (ag_Yk hb).1 (ag_Yk hb).2 (Nat.le_of_ble_eq_true rfl) (ag_Yt7 hb) rfl ag_fl_X5_42 dX5_hasNeeded_16 ?_
    refine ev_aload_n (pc := 19) (i := 0) 1 dX5_hasNeeded_19 rfl rfl ?_
    refine ev_getR (pc := 20) (t := (b + 7)) 1 ag_C5 (ag_Yk hb).1 (ag_Yk hb).2 (Nat.le_of_ble_eq_true rfl) (ag_Yt1 hb) rfl ag_fl_X5_21 dX5_hasNeeded_20 ?_
    refine ev_getR (pc := 23) (t := (b + 9)) 2 ag_C2 (ag_Pk (ag_YP hb)).1 (ag_Pk (ag_YP hb)).2 (Nat.le_of_ble_eq_true rfl) (ag_Pt2 (ag_YP hb)) rfl ag_fl_X5_101 dX5_hasNeeded_23 ?_
    refine ev_iload_n (pc := 26) (i := 1) 2 dX5_hasNeeded_26 rfl rfl ?_
    refine ev_iald (pc := 27) (ag_Pa2 (ag_YP hb)).1 (ag_Pa2 (ag_YP hb)).2 dX5_hasNeeded_27 ?_
    refine ev_iald (pc := 28) (ag_Ya15 hb).1 (ag_Ya15 hb).2 dX5_hasNeeded_28 ?_
    refine ev_iload_n (pc := 29) (i := 2) 0 dX5_hasNeeded_29 rfl rfl ?_
    refine ev_ishr (pc := 30) dX5_hasNeeded_30 ?_
    refine ev_iconst (pc := 31) (v := 1) dX5_hasNeeded_31 (by decide) ?_
    refine ev_iand (pc := 32) dX5_hasNeeded_32 ?_
    refine ev_iconst (pc := 33) (v := 1) dX5_hasNeeded_33 (by decide) ?_
    refine ev_icmp_ne (pc := 34) (tgt := 41) dX5_hasNeeded_34 rfl ?_ ?_
    · refine ev_sub [1, 2] rfl ?_
      exact ev_X5_hasNeeded_b37 b hb x1 σ 
    · refine ev_iconst (pc := 41) (v := 0) dX5_hasNeeded_41 (by decide) ?_
      exact ev_brI rfl rfl dX5_hasNeeded_42
-- X5_grant
def mX5_grant : Md := (RX5, cX5_grant, 4, none, none)
theorem mv_X5_grant : ag_Mv yX5_grant mX5_grant 3 := ⟨ag_co_X5_grant, ag_im_X5_grant, ag_se_X5_grant, ag_ini_X5, by decide +kernel⟩
theorem dX5_grant_0 : decode mX5_grant.2.1 0 = .ok (.aload_n 0, 1) := by decide +kernel
theorem dX5_grant_1 : decode mX5_grant.2.1 1 = .ok (.getfield 42, 3) := by decide +kernel
theorem dX5_grant_4 : decode mX5_grant.2.1 4 = .ok (.iload_n 1, 1) := by decide +kernel
theorem dX5_grant_5 : decode mX5_grant.2.1 5 = .ok (.iaload, 1) := by decide +kernel
theorem dX5_grant_6 : decode mX5_grant.2.1 6 = .ok (.iload_n 2, 1) := by decide +kernel
theorem dX5_grant_7 : decode mX5_grant.2.1 7 = .ok (.ishr, 1) := by decide +kernel
theorem dX5_grant_8 : decode mX5_grant.2.1 8 = .ok (.iconst 1, 1) := by decide +kernel
theorem dX5_grant_9 : decode mX5_grant.2.1 9 = .ok (.iand, 1) := by decide +kernel
theorem dX5_grant_10 : decode mX5_grant.2.1 10 = .ok (.ifCond .ne 27, 3) := by decide +kernel
theorem dX5_grant_13 : decode mX5_grant.2.1 13 = .ok (.aload_n 0, 1) := by decide +kernel
theorem dX5_grant_14 : decode mX5_grant.2.1 14 = .ok (.getfield 42, 3) := by decide +kernel
theorem dX5_grant_17 : decode mX5_grant.2.1 17 = .ok (.iload_n 1, 1) := by decide +kernel
theorem dX5_grant_18 : decode mX5_grant.2.1 18 = .ok (.dup2, 1) := by decide +kernel
theorem dX5_grant_19 : decode mX5_grant.2.1 19 = .ok (.iaload, 1) := by decide +kernel
theorem dX5_grant_20 : decode mX5_grant.2.1 20 = .ok (.iconst 1, 1) := by decide +kernel
theorem dX5_grant_21 : decode mX5_grant.2.1 21 = .ok (.iload_n 2, 1) := by decide +kernel
theorem dX5_grant_22 : decode mX5_grant.2.1 22 = .ok (.ishl, 1) := by decide +kernel
theorem dX5_grant_23 : decode mX5_grant.2.1 23 = .ok (.ior, 1) := by decide +kernel
theorem dX5_grant_24 : decode mX5_grant.2.1 24 = .ok (.iastore, 1) := by decide +kernel
theorem dX5_grant_25 : decode mX5_grant.2.1 25 = .ok (.aload_n 0, 1) := by decide +kernel
theorem dX5_grant_26 : decode mX5_grant.2.1 26 = .ok (.getfield 45, 3) := by decide +kernel
theorem dX5_grant_29 : decode mX5_grant.2.1 29 = .ok (.iload_n 1, 1) := by decide +kernel
theorem dX5_grant_30 : decode mX5_grant.2.1 30 = .ok (.bipush 8, 2) := by decide +kernel
theorem dX5_grant_32 : decode mX5_grant.2.1 32 = .ok (.imul, 1) := by decide +kernel
theorem dX5_grant_33 : decode mX5_grant.2.1 33 = .ok (.iload_n 2, 1) := by decide +kernel
theorem dX5_grant_34 : decode mX5_grant.2.1 34 = .ok (.iadd, 1) := by decide +kernel
theorem dX5_grant_35 : decode mX5_grant.2.1 35 = .ok (.iload_n 3, 1) := by decide +kernel
theorem dX5_grant_36 : decode mX5_grant.2.1 36 = .ok (.iastore, 1) := by decide +kernel
theorem dX5_grant_37 : decode mX5_grant.2.1 37 = .ok (.return_, 1) := by decide +kernel
def fn_X5_grant (b : Nat) (x1 : Int32) (x2 : Int32) (x3 : Int32) (σ : Sg) : Option Sg :=
  (if ag_ib x1 10 = true then (if (((σ (b + 15) x1.toNatClampNeg) >>> (x2 &&& 31)) &&& 1) = 0 then (if ag_ib x1 10 = true then (if ag_ib x1 10 = true then (if ag_ib ((x1 * 8) + x2) 80 = true then (ag_sg (ag_up (ag_up σ (b + 15) x1.toNatClampNeg ((σ (b + 15) x1.toNatClampNeg) ||| (1 <<< (x2 &&& 31)))) (b + 16) ((x1 * 8) + x2).toNatClampNeg x3) fun t39 =>
  (some t39)) else none) else none) else none)
  else (some σ)) else none)
set_option maxRecDepth 20000 in
set_option maxHeartbeats 4000000 in
theorem im_X5_grant (b : Nat) (hb : ag_Y b) (x1 : Int32) (x2 : Int32) (x3 : Int32) (σ : Sg) : Im yX5_grant mX5_grant 0 0 jV [.ref b, .int x1, .int x2, .int x3] σ (fn_X5_grant b x1 x2 x3 σ) := by
  refine Im.of (by decide +kernel) rfl rfl (Nat.le_of_ble_eq_true rfl) ?_
  show Ev mX5_grant 0 0 jV 0 [(0, .ref b), (1, .int x1), (2, .int x2), (3, .int x3)] [] σ (fn_X5_grant b x1 x2 x3 σ)
  unfold fn_X5_grant
  refine ev_aload_n (pc := 0) (i := 0) 0 dX5_grant_0 rfl rfl ?_
  refine ev_getR (pc := 1) (t := (b + 15)) 7 ag_C5 (ag_Yk hb).1 (ag_Yk hb).2 (Nat.le_of_ble_eq_true rfl) (ag_Yt7 hb) rfl ag_fl_X5_42 dX5_grant_1 ?_
  refine ev_iload_n (pc := 4) (i := 1) 1 dX5_grant_4 rfl rfl ?_
  refine ev_iald (pc := 5) (ag_Ya15 hb).1 (ag_Ya15 hb).2 dX5_grant_5 ?_
  refine ev_iload_n (pc := 6) (i := 2) 2 dX5_grant_6 rfl rfl ?_
  refine ev_ishr (pc := 7) dX5_grant_7 ?_
  refine ev_iconst (pc := 8) (v := 1) dX5_grant_8 (by decide) ?_
  refine ev_iand (pc := 9) dX5_grant_9 ?_
  refine ev_if_ne (pc := 10) (tgt := 37) dX5_grant_10 rfl ?_ ?_
  · refine ev_aload_n (pc := 13) (i := 0) 0 dX5_grant_13 rfl rfl ?_
    refine ev_getR (pc := 14) (t := (b + 15)) 7 ag_C5 (ag_Yk hb).1 (ag_Yk hb).2 (Nat.le_of_ble_eq_true rfl) (ag_Yt7 hb) rfl ag_fl_X5_42 dX5_grant_14 ?_
    refine ev_iload_n (pc := 17) (i := 1) 1 dX5_grant_17 rfl rfl ?_
    refine ev_dup2 (pc := 18) dX5_grant_18 rfl rfl ?_
    refine ev_iald (pc := 19) (ag_Ya15 hb).1 (ag_Ya15 hb).2 dX5_grant_19 ?_
    refine ev_iconst (pc := 20) (v := 1) dX5_grant_20 (by decide) ?_
    refine ev_iload_n (pc := 21) (i := 2) 2 dX5_grant_21 rfl rfl ?_
    refine ev_ishl (pc := 22) dX5_grant_22 ?_
    refine ev_ior (pc := 23) dX5_grant_23 ?_
    refine ev_iast (pc := 24) (ag_Ya15 hb).1 (ag_Ya15 hb).2 dX5_grant_24 ?_
    refine ev_aload_n (pc := 25) (i := 0) 0 dX5_grant_25 rfl rfl ?_
    refine ev_getR (pc := 26) (t := (b + 16)) 8 ag_C5 (ag_Yk hb).1 (ag_Yk hb).2 (Nat.le_of_ble_eq_true rfl) (ag_Yt8 hb) rfl ag_fl_X5_45 dX5_grant_26 ?_
    refine ev_iload_n (pc := 29) (i := 1) 1 dX5_grant_29 rfl rfl ?_
    refine ev_bipush (pc := 30) (v := 8) dX5_grant_30 (by decide) ?_
    refine ev_imul (pc := 32) dX5_grant_32 ?_
    refine ev_iload_n (pc := 33) (i := 2) 2 dX5_grant_33 rfl rfl ?_
    refine ev_iadd (pc := 34) dX5_grant_34 ?_
    refine ev_iload_n (pc := 35) (i := 3) 3 dX5_grant_35 rfl rfl ?_
    refine ev_iast (pc := 36) (ag_Ya16 hb).1 (ag_Ya16 hb).2 dX5_grant_36 ?_
    refine ev_sg (fun t39 => ?_)
    exact ev_rV rfl dX5_grant_37
  · exact ev_rV rfl dX5_grant_37
-- X5_openOne
def mX5_openOne : Md := (RX5, cX5_openOne, 5, none, none)
theorem mv_X5_openOne : ag_Mv yX5_openOne mX5_openOne 2 := ⟨ag_co_X5_openOne, ag_im_X5_openOne, ag_se_X5_openOne, ag_ini_X5, by decide +kernel⟩
theorem dX5_openOne_0 : decode mX5_openOne.2.1 0 = .ok (.aload_n 0, 1) := by decide +kernel
theorem dX5_openOne_1 : decode mX5_openOne.2.1 1 = .ok (.getfield 21, 3) := by decide +kernel
theorem dX5_openOne_4 : decode mX5_openOne.2.1 4 = .ok (.getfield 101, 3) := by decide +kernel
theorem dX5_openOne_7 : decode mX5_openOne.2.1 7 = .ok (.iload_n 1, 1) := by decide +kernel
theorem dX5_openOne_8 : decode mX5_openOne.2.1 8 = .ok (.iaload, 1) := by decide +kernel
theorem dX5_openOne_9 : decode mX5_openOne.2.1 9 = .ok (.istore_n 3, 1) := by decide +kernel
theorem dX5_openOne_10 : decode mX5_openOne.2.1 10 = .ok (.aload_n 0, 1) := by decide +kernel
theorem dX5_openOne_11 : decode mX5_openOne.2.1 11 = .ok (.dup, 1) := by decide +kernel
theorem dX5_openOne_12 : decode mX5_openOne.2.1 12 = .ok (.getfield 32, 3) := by decide +kernel
theorem dX5_openOne_15 : decode mX5_openOne.2.1 15 = .ok (.iconst 1, 1) := by decide +kernel
theorem dX5_openOne_16 : decode mX5_openOne.2.1 16 = .ok (.iload_n 1, 1) := by decide +kernel
theorem dX5_openOne_17 : decode mX5_openOne.2.1 17 = .ok (.ishl, 1) := by decide +kernel
theorem dX5_openOne_18 : decode mX5_openOne.2.1 18 = .ok (.ior, 1) := by decide +kernel
theorem dX5_openOne_19 : decode mX5_openOne.2.1 19 = .ok (.putfield 32, 3) := by decide +kernel
theorem dX5_openOne_22 : decode mX5_openOne.2.1 22 = .ok (.aload_n 0, 1) := by decide +kernel
theorem dX5_openOne_23 : decode mX5_openOne.2.1 23 = .ok (.getfield 35, 3) := by decide +kernel
theorem dX5_openOne_26 : decode mX5_openOne.2.1 26 = .ok (.iload_n 1, 1) := by decide +kernel
theorem dX5_openOne_27 : decode mX5_openOne.2.1 27 = .ok (.iload_n 2, 1) := by decide +kernel
theorem dX5_openOne_28 : decode mX5_openOne.2.1 28 = .ok (.iastore, 1) := by decide +kernel
theorem dX5_openOne_29 : decode mX5_openOne.2.1 29 = .ok (.aload_n 0, 1) := by decide +kernel
theorem dX5_openOne_30 : decode mX5_openOne.2.1 30 = .ok (.getfield 12, 3) := by decide +kernel
theorem dX5_openOne_33 : decode mX5_openOne.2.1 33 = .ok (.getfield 111, 3) := by decide +kernel
theorem dX5_openOne_36 : decode mX5_openOne.2.1 36 = .ok (.iload_n 3, 1) := by decide +kernel
theorem dX5_openOne_37 : decode mX5_openOne.2.1 37 = .ok (.iaload, 1) := by decide +kernel
theorem dX5_openOne_38 : decode mX5_openOne.2.1 38 = .ok (.iconst 1, 1) := by decide +kernel
theorem dX5_openOne_39 : decode mX5_openOne.2.1 39 = .ok (.if_icmp .eq 19, 3) := by decide +kernel
theorem dX5_openOne_42 : decode mX5_openOne.2.1 42 = .ok (.aload_n 0, 1) := by decide +kernel
theorem dX5_openOne_43 : decode mX5_openOne.2.1 43 = .ok (.iload_n 3, 1) := by decide +kernel
theorem dX5_openOne_44 : decode mX5_openOne.2.1 44 = .ok (.aload_n 0, 1) := by decide +kernel
theorem dX5_openOne_45 : decode mX5_openOne.2.1 45 = .ok (.getfield 21, 3) := by decide +kernel
theorem dX5_openOne_48 : decode mX5_openOne.2.1 48 = .ok (.getfield 91, 3) := by decide +kernel
theorem dX5_openOne_51 : decode mX5_openOne.2.1 51 = .ok (.iload_n 1, 1) := by decide +kernel
theorem dX5_openOne_52 : decode mX5_openOne.2.1 52 = .ok (.iaload, 1) := by decide +kernel
theorem dX5_openOne_53 : decode mX5_openOne.2.1 53 = .ok (.iload_n 2, 1) := by decide +kernel
theorem dX5_openOne_54 : decode mX5_openOne.2.1 54 = .ok (.invokevirtual 114, 3) := by decide +kernel
theorem dX5_openOne_57 : decode mX5_openOne.2.1 57 = .ok (.return_, 1) := by decide +kernel
theorem dX5_openOne_58 : decode mX5_openOne.2.1 58 = .ok (.iconst 0, 1) := by decide +kernel
theorem dX5_openOne_59 : decode mX5_openOne.2.1 59 = .ok (.istore 4, 2) := by decide +kernel
theorem dX5_openOne_61 : decode mX5_openOne.2.1 61 = .ok (.iload 4, 2) := by decide +kernel
theorem dX5_openOne_63 : decode mX5_openOne.2.1 63 = .ok (.aload_n 0, 1) := by decide +kernel
theorem dX5_openOne_64 : decode mX5_openOne.2.1 64 = .ok (.getfield 12, 3) := by decide +kernel
theorem dX5_openOne_67 : decode mX5_openOne.2.1 67 = .ok (.getfield 118, 3) := by decide +kernel
theorem dX5_openOne_70 : decode mX5_openOne.2.1 70 = .ok (.if_icmp .ge 44, 3) := by decide +kernel
theorem dX5_openOne_73 : decode mX5_openOne.2.1 73 = .ok (.iload 4, 2) := by decide +kernel
theorem dX5_openOne_75 : decode mX5_openOne.2.1 75 = .ok (.iload_n 3, 1) := by decide +kernel
theorem dX5_openOne_76 : decode mX5_openOne.2.1 76 = .ok (.if_icmp .eq 32, 3) := by decide +kernel
theorem dX5_openOne_79 : decode mX5_openOne.2.1 79 = .ok (.aload_n 0, 1) := by decide +kernel
theorem dX5_openOne_80 : decode mX5_openOne.2.1 80 = .ok (.getfield 12, 3) := by decide +kernel
theorem dX5_openOne_83 : decode mX5_openOne.2.1 83 = .ok (.iload 4, 2) := by decide +kernel
theorem dX5_openOne_85 : decode mX5_openOne.2.1 85 = .ok (.iload_n 2, 1) := by decide +kernel
theorem dX5_openOne_86 : decode mX5_openOne.2.1 86 = .ok (.invokevirtual 87, 3) := by decide +kernel
theorem dX5_openOne_89 : decode mX5_openOne.2.1 89 = .ok (.ifCond .eq 19, 3) := by decide +kernel
theorem dX5_openOne_92 : decode mX5_openOne.2.1 92 = .ok (.aload_n 0, 1) := by decide +kernel
theorem dX5_openOne_93 : decode mX5_openOne.2.1 93 = .ok (.iload 4, 2) := by decide +kernel
theorem dX5_openOne_95 : decode mX5_openOne.2.1 95 = .ok (.aload_n 0, 1) := by decide +kernel
theorem dX5_openOne_96 : decode mX5_openOne.2.1 96 = .ok (.getfield 21, 3) := by decide +kernel
theorem dX5_openOne_99 : decode mX5_openOne.2.1 99 = .ok (.getfield 91, 3) := by decide +kernel
theorem dX5_openOne_102 : decode mX5_openOne.2.1 102 = .ok (.iload_n 1, 1) := by decide +kernel
theorem dX5_openOne_103 : decode mX5_openOne.2.1 103 = .ok (.iaload, 1) := by decide +kernel
theorem dX5_openOne_104 : decode mX5_openOne.2.1 104 = .ok (.iload_n 2, 1) := by decide +kernel
theorem dX5_openOne_105 : decode mX5_openOne.2.1 105 = .ok (.invokevirtual 114, 3) := by decide +kernel
theorem dX5_openOne_108 : decode mX5_openOne.2.1 108 = .ok (.iinc 4 1, 3) := by decide +kernel
theorem dX5_openOne_111 : decode mX5_openOne.2.1 111 = .ok (.goto (-50), 3) := by decide +kernel
theorem dX5_openOne_114 : decode mX5_openOne.2.1 114 = .ok (.return_, 1) := by decide +kernel
def fn_X5_openOne_b108 (n : Nat) (b : Nat) (x1 : Int32) (x2 : Int32) (k61 : Int32 → Int32 → Sg → Option Sg) (v3 : Int32) (v4 : Int32) (σ : Sg) : Option Sg :=
  (k61 v3 (v4 + 1) σ)
set_option maxRecDepth 20000 in
set_option maxHeartbeats 4000000 in
theorem ev_X5_openOne_b108 (n : Nat) (b : Nat) (hb : ag_Y b) (x1 : Int32) (x2 : Int32) (k61 : Int32 → Int32 → Sg → Option Sg) (hk61 : ∀ (v3 : Int32) (v4 : Int32) (σ : Sg), Ev mX5_openOne 1 23 jV 61 [(0, .ref b), (1, .int x1), (2, .int x2), (3, .int v3), (4, .int v4)] [] σ (k61 v3 v4 σ)) (v3 : Int32) (v4 : Int32) (σ : Sg) : Ev mX5_openOne 1 23 jV 108 [(0, .ref b), (1, .int x1), (2, .int x2), (3, .int v3), (4, .int v4)] [] σ (fn_X5_openOne_b108 n b x1 x2 k61 v3 v4 σ) := by
  unfold fn_X5_openOne_b108
  refine ev_iinc (pc := 108) (v := (v4 + 1)) (lv' := [(4, .int (v4 + 1)), (0, .ref b), (1, .int x1), (2, .int x2), (3, .int v3)]) 4 dX5_openOne_108 rfl rfl (Nat.le_of_ble_eq_true rfl) rfl ?_
  refine ev_goto (pc := 111) (tgt := 61) dX5_openOne_111 rfl ?_
  refine ev_sub [1, 2, 3, 4, 0] rfl ?_
  exact hk61 v3 (v4 + 1) σ
def fn_X5_openOne_b61 (n : Nat) (b : Nat) (x1 : Int32) (x2 : Int32)  : Nat → Int32 → Int32 → Sg → Option Sg
  | 0 => fun _ _ _ => none
  | i + 1 => fun v3 v4 σ =>
  (if (σ (b + 1) 0) ≤ v4 then (some σ)
  else (if v4 = v3 then (fn_X5_openOne_b108 n b x1 x2 (fn_X5_openOne_b61 n b x1 x2 i) v3 v4 σ)
  else (Option.bind (fn_X1_lives (b + 1) v4 x2 σ) fun q40 =>
  (if q40 = 0 then (fn_X5_openOne_b108 n b x1 x2 (fn_X5_openOne_b61 n b x1 x2 i) v3 v4 σ)
  else (if ag_ib x1 13 = true then (Option.bind (fn_X5_grant b v4 (σ (b + 11) x1.toNatClampNeg) x2 σ) fun q41 =>
  (fn_X5_openOne_b108 n b x1 x2 (fn_X5_openOne_b61 n b x1 x2 i) v3 v4 q41)) else none)))))
theorem fn_X5_openOne_b61_s (n : Nat) (b : Nat) (x1 : Int32) (x2 : Int32)  (i : Nat) (v3 : Int32) (v4 : Int32) (σ : Sg) : fn_X5_openOne_b61 n b x1 x2 (i + 1) v3 v4 σ =
  (if (σ (b + 1) 0) ≤ v4 then (some σ)
  else (if v4 = v3 then (fn_X5_openOne_b108 n b x1 x2 (fn_X5_openOne_b61 n b x1 x2 i) v3 v4 σ)
  else (Option.bind (fn_X1_lives (b + 1) v4 x2 σ) fun q40 =>
  (if q40 = 0 then (fn_X5_openOne_b108 n b x1 x2 (fn_X5_openOne_b61 n b x1 x2 i) v3 v4 σ)
  else (if ag_ib x1 13 = true then (Option.bind (fn_X5_grant b v4 (σ (b + 11) x1.toNatClampNeg) x2 σ) fun q41 =>
  (fn_X5_openOne_b108 n b x1 x2 (fn_X5_openOne_b61 n b x1 x2 i) v3 v4 q41)) else none))))) := rfl
set_option maxRecDepth 20000 in
set_option maxHeartbeats 4000000 in
theorem ev_X5_openOne_b61 (n : Nat) (b : Nat) (hb : ag_Y b) (x1 : Int32) (x2 : Int32)  : ∀ (i : Nat) (v3 : Int32) (v4 : Int32) (σ : Sg), Ev mX5_openOne 1 23 jV 61 [(0, .ref b), (1, .int x1), (2, .int x2), (3, .int v3), (4, .int v4)] [] σ (fn_X5_openOne_b61 n b x1 x2 i v3 v4 σ) := by
  intro i
  induction i with
  | zero =>
    intro v3 v4 σ
    exact ev_none
  | succ i ih =>
    intro v3 v4 σ
    rw [fn_X5_openOne_b61_s]
    refine ev_iload (pc := 61) 4 dX5_openOne_61 rfl ?_
    refine ev_aload_n (pc := 63) (i := 0) 0 dX5_openOne_63 rfl rfl ?_
    refine ev_getR (pc := 64) (t := (b + 1)) 0 ag_C5 (ag_Yk hb).1 (ag_Yk hb).2 (Nat.le_of_ble_eq_true rfl) (ag_Yt0 hb) rfl ag_fl_X5_12 dX5_openOne_64 ?_
    refine ev_getI (pc := 67) 0 ag_C1 (ag_Fk (ag_YF hb)).1 (ag_Fk (ag_YF hb)).2 (Nat.le_of_ble_eq_true rfl) (ag_Ft0 (ag_YF hb)) rfl ag_fl_X5_118 dX5_openOne_67 ?_
    refine ev_icmp_ge (pc := 70) (tgt := 114) dX5_openOne_70 rfl ?_ ?_
    · exact ev_rV rfl dX5_openOne_114
    · refine ev_iload (pc := 73) 4 dX5_openOne_73 rfl ?_
      refine ev_iload_n (pc := 75) (i := 3) 3 dX5_openOne_75 rfl rfl ?_
      refine ev_icmp_eq (pc := 76) (tgt := 108) dX5_openOne_76 rfl ?_ ?_
      · exact ev_X5_openOne_b108 n b hb x1 x2 (fn_X5_openOne_b61 n b x1 x2 i) ih v3 v4 σ
      · refine ev_aload_n (pc := 79) (i := 0) 0 dX5_openOne_79 rfl rfl ?_
        refine ev_getR (pc := 80) (t := (b + 1)) 0 ag_C5 (ag_Yk hb).1 (ag_Yk hb).2 (Nat.le_of_ble_eq_true rfl) (ag_Yt0 hb) rfl ag_fl_X5_12 dX5_openOne_80 ?_
        refine ev_iload (pc := 83) 4 dX5_openOne_83 rfl ?_
        refine ev_iload_n (pc := 85) (i := 2) 2 dX5_openOne_85 rfl rfl ?_
        refine ev_vI (pc := 86) (as := [.int v4, .int x2]) (rest := []) ⟨1, 87, 6, TX1, tyX1, ag_C1, ⟨(ag_Fk (ag_YF hb)).1, (ag_Fk (ag_YF hb)).2⟩, mv_X1_lives, ag_ml_X5_87, rfl, (Nat.le_of_ble_eq_true rfl), ⟨(Nat.le_of_ble_eq_true rfl), (Nat.le_of_ble_eq_true rfl)⟩, dX5_openOne_86⟩ (im_X1_lives (b + 1) (ag_YF hb) v4 x2 σ) (fun q40 => ?_)
        refine ev_if_eq (pc := 89) (tgt := 108) dX5_openOne_89 rfl ?_ ?_
        · exact ev_X5_openOne_b108 n b hb x1 x2 (fn_X5_openOne_b61 n b x1 x2 i) ih v3 v4 σ
        · refine ev_aload_n (pc := 92) (i := 0) 0 dX5_openOne_92 rfl rfl ?_
          refine ev_iload (pc := 93) 4 dX5_openOne_93 rfl ?_
          refine ev_aload_n (pc := 95) (i := 0) 0 dX5_openOne_95 rfl rfl ?_
          refine ev_getR (pc := 96) (t := (b + 7)) 1 ag_C5 (ag_Yk hb).1 (ag_Yk hb).2 (Nat.le_of_ble_eq_true rfl) (ag_Yt1 hb) rfl ag_fl_X5_21 dX5_openOne_96 ?_
          refine ev_getR (pc := 99) (t := (b + 11)) 4 ag_C2 (ag_Pk (ag_YP hb)).1 (ag_Pk (ag_YP hb)).2 (Nat.le_of_ble_eq_true rfl) (ag_Pt4 (ag_YP hb)) rfl ag_fl_X5_91 dX5_openOne_99 ?_
          refine ev_iload_n (pc := 102) (i := 1) 1 dX5_openOne_102 rfl rfl ?_
          refine ev_iald (pc := 103) (ag_Pa4 (ag_YP hb)).1 (ag_Pa4 (ag_YP hb)).2 dX5_openOne_103 ?_
          refine ev_iload_n (pc := 104) (i := 2) 2 dX5_openOne_104 rfl rfl ?_
          refine ev_vV (pc := 105) (as := [.int v4, .int (σ (b + 11) x1.toNatClampNeg), .int x2]) (rest := []) ⟨5, 114, 10, TX5, tyX5, ag_C5, ⟨(ag_Yk hb).1, (ag_Yk hb).2⟩, mv_X5_grant, ag_ml_X5_114, rfl, (Nat.le_of_ble_eq_true rfl), ⟨(Nat.le_of_ble_eq_true rfl), (Nat.le_of_ble_eq_true rfl)⟩, dX5_openOne_105⟩ (im_X5_grant b hb v4 (σ (b + 11) x1.toNatClampNeg) x2 σ) (fun q41 => ?_)
          exact ev_X5_openOne_b108 n b hb x1 x2 (fn_X5_openOne_b61 n b x1 x2 i) ih v3 v4 q41
def fn_X5_openOne (n : Nat) (b : Nat) (x1 : Int32) (x2 : Int32) (σ : Sg) : Option Sg :=
  (if ag_ib x1 13 = true then (if ag_ib x1 13 = true then (ag_sg (ag_up (ag_up σ b 4 ((σ b 4) ||| (1 <<< (x1 &&& 31)))) (b + 13) x1.toNatClampNeg x2) fun t42 =>
  (if ag_ib (σ (b + 9) x1.toNatClampNeg) 10 = true then (if (t42 (b + 4) (σ (b + 9) x1.toNatClampNeg).toNatClampNeg) = 1 then (fn_X5_openOne_b61 n b x1 x2 n (σ (b + 9) x1.toNatClampNeg) 0 t42)
  else (if ag_ib x1 13 = true then (Option.bind (fn_X5_grant b (σ (b + 9) x1.toNatClampNeg) (t42 (b + 11) x1.toNatClampNeg) x2 t42) fun q43 =>
  (some q43)) else none)) else none)) else none) else none)
set_option maxRecDepth 20000 in
set_option maxHeartbeats 4000000 in
theorem im_X5_openOne (n : Nat) (b : Nat) (hb : ag_Y b) (x1 : Int32) (x2 : Int32) (σ : Sg) : Im yX5_openOne mX5_openOne 1 23 jV [.ref b, .int x1, .int x2] σ (fn_X5_openOne n b x1 x2 σ) := by
  refine Im.of (by decide +kernel) rfl rfl (Nat.le_of_ble_eq_true rfl) ?_
  show Ev mX5_openOne 1 23 jV 0 [(0, .ref b), (1, .int x1), (2, .int x2)] [] σ (fn_X5_openOne n b x1 x2 σ)
  unfold fn_X5_openOne
  refine ev_aload_n (pc := 0) (i := 0) 0 dX5_openOne_0 rfl rfl ?_
  refine ev_getR (pc := 1) (t := (b + 7)) 1 ag_C5 (ag_Yk hb).1 (ag_Yk hb).2 (Nat.le_of_ble_eq_true rfl) (ag_Yt1 hb) rfl ag_fl_X5_21 dX5_openOne_1 ?_
  refine ev_getR (pc := 4) (t := (b + 9)) 2 ag_C2 (ag_Pk (ag_YP hb)).1 (ag_Pk (ag_YP hb)).2 (Nat.le_of_ble_eq_true rfl) (ag_Pt2 (ag_YP hb)) rfl ag_fl_X5_101 dX5_openOne_4 ?_
  refine ev_iload_n (pc := 7) (i := 1) 1 dX5_openOne_7 rfl rfl ?_
  refine ev_iald (pc := 8) (ag_Pa2 (ag_YP hb)).1 (ag_Pa2 (ag_YP hb)).2 dX5_openOne_8 ?_
  refine ev_istore_n (pc := 9) (i := 3) (lv' := [(3, .int (σ (b + 9) x1.toNatClampNeg)), (0, .ref b), (1, .int x1), (2, .int x2)]) dX5_openOne_9 rfl (Nat.le_of_ble_eq_true rfl) rfl ?_
  refine ev_aload_n (pc := 10) (i := 0) 1 dX5_openOne_10 rfl rfl ?_
  refine ev_dup (pc := 11) dX5_openOne_11 rfl ?_
  refine ev_getI (pc := 12) 4 ag_C5 (ag_Yk hb).1 (ag_Yk hb).2 (Nat.le_of_ble_eq_true rfl) (ag_Yt4 hb) rfl ag_fl_X5_32 dX5_openOne_12 ?_
  refine ev_iconst (pc := 15) (v := 1) dX5_openOne_15 (by decide) ?_
  refine ev_iload_n (pc := 16) (i := 1) 2 dX5_openOne_16 rfl rfl ?_
  refine ev_ishl (pc := 17) dX5_openOne_17 ?_
  refine ev_ior (pc := 18) dX5_openOne_18 ?_
  refine ev_put (pc := 19) 4 ag_C5 (ag_Yk hb).1 (ag_Yk hb).2 (Nat.le_of_ble_eq_true rfl) (ag_Yt4 hb) rfl ag_fl_X5_32 rfl rfl rfl dX5_openOne_19 ?_
  refine ev_aload_n (pc := 22) (i := 0) 1 dX5_openOne_22 rfl rfl ?_
  refine ev_getR (pc := 23) (t := (b + 13)) 5 ag_C5 (ag_Yk hb).1 (ag_Yk hb).2 (Nat.le_of_ble_eq_true rfl) (ag_Yt5 hb) rfl ag_fl_X5_35 dX5_openOne_23 ?_
  refine ev_iload_n (pc := 26) (i := 1) 2 dX5_openOne_26 rfl rfl ?_
  refine ev_iload_n (pc := 27) (i := 2) 3 dX5_openOne_27 rfl rfl ?_
  refine ev_iast (pc := 28) (ag_Ya13 hb).1 (ag_Ya13 hb).2 dX5_openOne_28 ?_
  refine ev_sg (fun t42 => ?_)
  refine ev_aload_n (pc := 29) (i := 0) 1 dX5_openOne_29 rfl rfl ?_
  refine ev_getR (pc := 30) (t := (b + 1)) 0 ag_C5 (ag_Yk hb).1 (ag_Yk hb).2 (Nat.le_of_ble_eq_true rfl) (ag_Yt0 hb) rfl ag_fl_X5_12 dX5_openOne_30 ?_
  refine ev_getR (pc := 33) (t := (b + 4)) 3 ag_C1 (ag_Fk (ag_YF hb)).1 (ag_Fk (ag_YF hb)).2 (Nat.le_of_ble_eq_true rfl) (ag_Ft3 (ag_YF hb)) rfl ag_fl_X5_111 dX5_openOne_33 ?_
  refine ev_iload_n (pc := 36) (i := 3) 0 dX5_openOne_36 rfl rfl ?_
  refine ev_iald (pc := 37) (ag_Fa3 (ag_YF hb)).1 (ag_Fa3 (ag_YF hb)).2 dX5_openOne_37 ?_
  refine ev_iconst (pc := 38) (v := 1) dX5_openOne_38 (by decide) ?_
  refine ev_icmp_eq (pc := 39) (tgt := 58) dX5_openOne_39 rfl ?_ ?_
  · refine ev_iconst (pc := 58) (v := 0) dX5_openOne_58 (by decide) ?_
    refine ev_istore (pc := 59) (lv' := [(4, .int 0), (3, .int (σ (b + 9) x1.toNatClampNeg)), (0, .ref b), (1, .int x1), (2, .int x2)]) dX5_openOne_59 (Nat.le_of_ble_eq_true rfl) rfl ?_
    refine ev_sub [2, 3, 4, 1, 0] rfl ?_
    exact ev_X5_openOne_b61 n b hb x1 x2 n (σ (b + 9) x1.toNatClampNeg) 0 t42
  · refine ev_aload_n (pc := 42) (i := 0) 1 dX5_openOne_42 rfl rfl ?_
    refine ev_iload_n (pc := 43) (i := 3) 0 dX5_openOne_43 rfl rfl ?_
    refine ev_aload_n (pc := 44) (i := 0) 1 dX5_openOne_44 rfl rfl ?_
    refine ev_getR (pc := 45) (t := (b + 7)) 1 ag_C5 (ag_Yk hb).1 (ag_Yk hb).2 (Nat.le_of_ble_eq_true rfl) (ag_Yt1 hb) rfl ag_fl_X5_21 dX5_openOne_45 ?_
    refine ev_getR (pc := 48) (t := (b + 11)) 4 ag_C2 (ag_Pk (ag_YP hb)).1 (ag_Pk (ag_YP hb)).2 (Nat.le_of_ble_eq_true rfl) (ag_Pt4 (ag_YP hb)) rfl ag_fl_X5_91 dX5_openOne_48 ?_
    refine ev_iload_n (pc := 51) (i := 1) 2 dX5_openOne_51 rfl rfl ?_
    refine ev_iald (pc := 52) (ag_Pa4 (ag_YP hb)).1 (ag_Pa4 (ag_YP hb)).2 dX5_openOne_52 ?_
    refine ev_iload_n (pc := 53) (i := 2) 3 dX5_openOne_53 rfl rfl ?_
    refine ev_vV (pc := 54) (as := [.int (σ (b + 9) x1.toNatClampNeg), .int (t42 (b + 11) x1.toNatClampNeg), .int x2]) (rest := []) ⟨5, 114, 10, TX5, tyX5, ag_C5, ⟨(ag_Yk hb).1, (ag_Yk hb).2⟩, mv_X5_grant, ag_ml_X5_114, rfl, (Nat.le_of_ble_eq_true rfl), ⟨(Nat.le_of_ble_eq_true rfl), (Nat.le_of_ble_eq_true rfl)⟩, dX5_openOne_54⟩ (im_X5_grant b hb (σ (b + 9) x1.toNatClampNeg) (t42 (b + 11) x1.toNatClampNeg) x2 t42) (fun q43 => ?_)
    exact ev_rV rfl dX5_openOne_57
-- X5_openThoseDue
def mX5_openThoseDue : Md := (RX5, cX5_openThoseDue, 3, none, none)
theorem mv_X5_openThoseDue : ag_Mv yX5_openThoseDue mX5_openThoseDue 1 := ⟨ag_co_X5_openThoseDue, ag_im_X5_openThoseDue, ag_se_X5_openThoseDue, ag_ini_X5, by decide +kernel⟩
theorem dX5_openThoseDue_0 : decode mX5_openThoseDue.2.1 0 = .ok (.iconst 0, 1) := by decide +kernel
theorem dX5_openThoseDue_1 : decode mX5_openThoseDue.2.1 1 = .ok (.istore_n 2, 1) := by decide +kernel
theorem dX5_openThoseDue_2 : decode mX5_openThoseDue.2.1 2 = .ok (.iload_n 2, 1) := by decide +kernel
theorem dX5_openThoseDue_3 : decode mX5_openThoseDue.2.1 3 = .ok (.aload_n 0, 1) := by decide +kernel
theorem dX5_openThoseDue_4 : decode mX5_openThoseDue.2.1 4 = .ok (.getfield 21, 3) := by decide +kernel
theorem dX5_openThoseDue_7 : decode mX5_openThoseDue.2.1 7 = .ok (.getfield 78, 3) := by decide +kernel
theorem dX5_openThoseDue_10 : decode mX5_openThoseDue.2.1 10 = .ok (.if_icmp .ge 80, 3) := by decide +kernel
theorem dX5_openThoseDue_13 : decode mX5_openThoseDue.2.1 13 = .ok (.aload_n 0, 1) := by decide +kernel
theorem dX5_openThoseDue_14 : decode mX5_openThoseDue.2.1 14 = .ok (.getfield 29, 3) := by decide +kernel
theorem dX5_openThoseDue_17 : decode mX5_openThoseDue.2.1 17 = .ok (.aload_n 0, 1) := by decide +kernel
theorem dX5_openThoseDue_18 : decode mX5_openThoseDue.2.1 18 = .ok (.getfield 32, 3) := by decide +kernel
theorem dX5_openThoseDue_21 : decode mX5_openThoseDue.2.1 21 = .ok (.iconst (-1), 1) := by decide +kernel
theorem dX5_openThoseDue_22 : decode mX5_openThoseDue.2.1 22 = .ok (.ixor, 1) := by decide +kernel
theorem dX5_openThoseDue_23 : decode mX5_openThoseDue.2.1 23 = .ok (.iand, 1) := by decide +kernel
theorem dX5_openThoseDue_24 : decode mX5_openThoseDue.2.1 24 = .ok (.iload_n 2, 1) := by decide +kernel
theorem dX5_openThoseDue_25 : decode mX5_openThoseDue.2.1 25 = .ok (.ishr, 1) := by decide +kernel
theorem dX5_openThoseDue_26 : decode mX5_openThoseDue.2.1 26 = .ok (.ifCond .ne 6, 3) := by decide +kernel
theorem dX5_openThoseDue_29 : decode mX5_openThoseDue.2.1 29 = .ok (.goto 61, 3) := by decide +kernel
theorem dX5_openThoseDue_32 : decode mX5_openThoseDue.2.1 32 = .ok (.aload_n 0, 1) := by decide +kernel
theorem dX5_openThoseDue_33 : decode mX5_openThoseDue.2.1 33 = .ok (.iload_n 2, 1) := by decide +kernel
theorem dX5_openThoseDue_34 : decode mX5_openThoseDue.2.1 34 = .ok (.invokevirtual 97, 3) := by decide +kernel
theorem dX5_openThoseDue_37 : decode mX5_openThoseDue.2.1 37 = .ok (.ifCond .eq 47, 3) := by decide +kernel
theorem dX5_openThoseDue_40 : decode mX5_openThoseDue.2.1 40 = .ok (.aload_n 0, 1) := by decide +kernel
theorem dX5_openThoseDue_41 : decode mX5_openThoseDue.2.1 41 = .ok (.getfield 39, 3) := by decide +kernel
theorem dX5_openThoseDue_44 : decode mX5_openThoseDue.2.1 44 = .ok (.iload_n 2, 1) := by decide +kernel
theorem dX5_openThoseDue_45 : decode mX5_openThoseDue.2.1 45 = .ok (.iaload, 1) := by decide +kernel
theorem dX5_openThoseDue_46 : decode mX5_openThoseDue.2.1 46 = .ok (.iload_n 1, 1) := by decide +kernel
theorem dX5_openThoseDue_47 : decode mX5_openThoseDue.2.1 47 = .ok (.if_icmp .gt 37, 3) := by decide +kernel
theorem dX5_openThoseDue_50 : decode mX5_openThoseDue.2.1 50 = .ok (.aload_n 0, 1) := by decide +kernel
theorem dX5_openThoseDue_51 : decode mX5_openThoseDue.2.1 51 = .ok (.getfield 12, 3) := by decide +kernel
theorem dX5_openThoseDue_54 : decode mX5_openThoseDue.2.1 54 = .ok (.aload_n 0, 1) := by decide +kernel
theorem dX5_openThoseDue_55 : decode mX5_openThoseDue.2.1 55 = .ok (.getfield 21, 3) := by decide +kernel
theorem dX5_openThoseDue_58 : decode mX5_openThoseDue.2.1 58 = .ok (.getfield 101, 3) := by decide +kernel
theorem dX5_openThoseDue_61 : decode mX5_openThoseDue.2.1 61 = .ok (.iload_n 2, 1) := by decide +kernel
theorem dX5_openThoseDue_62 : decode mX5_openThoseDue.2.1 62 = .ok (.iaload, 1) := by decide +kernel
theorem dX5_openThoseDue_63 : decode mX5_openThoseDue.2.1 63 = .ok (.iload_n 1, 1) := by decide +kernel
theorem dX5_openThoseDue_64 : decode mX5_openThoseDue.2.1 64 = .ok (.invokevirtual 87, 3) := by decide +kernel
theorem dX5_openThoseDue_67 : decode mX5_openThoseDue.2.1 67 = .ok (.ifCond .eq 17, 3) := by decide +kernel
theorem dX5_openThoseDue_70 : decode mX5_openThoseDue.2.1 70 = .ok (.aload_n 0, 1) := by decide +kernel
theorem dX5_openThoseDue_71 : decode mX5_openThoseDue.2.1 71 = .ok (.iload_n 2, 1) := by decide +kernel
theorem dX5_openThoseDue_72 : decode mX5_openThoseDue.2.1 72 = .ok (.invokevirtual 104, 3) := by decide +kernel
theorem dX5_openThoseDue_75 : decode mX5_openThoseDue.2.1 75 = .ok (.ifCond .eq 9, 3) := by decide +kernel
theorem dX5_openThoseDue_78 : decode mX5_openThoseDue.2.1 78 = .ok (.aload_n 0, 1) := by decide +kernel
theorem dX5_openThoseDue_79 : decode mX5_openThoseDue.2.1 79 = .ok (.iload_n 2, 1) := by decide +kernel
theorem dX5_openThoseDue_80 : decode mX5_openThoseDue.2.1 80 = .ok (.iload_n 1, 1) := by decide +kernel
theorem dX5_openThoseDue_81 : decode mX5_openThoseDue.2.1 81 = .ok (.invokevirtual 107, 3) := by decide +kernel
theorem dX5_openThoseDue_84 : decode mX5_openThoseDue.2.1 84 = .ok (.iinc 2 1, 3) := by decide +kernel
theorem dX5_openThoseDue_87 : decode mX5_openThoseDue.2.1 87 = .ok (.goto (-85), 3) := by decide +kernel
theorem dX5_openThoseDue_90 : decode mX5_openThoseDue.2.1 90 = .ok (.return_, 1) := by decide +kernel
def fn_X5_openThoseDue_b84 (n : Nat) (b : Nat) (x1 : Int32) (k2 : Int32 → Sg → Option Sg) (v2 : Int32) (σ : Sg) : Option Sg :=
  (k2 (v2 + 1) σ)
set_option maxRecDepth 20000 in
set_option maxHeartbeats 4000000 in
theorem ev_X5_openThoseDue_b84 (n : Nat) (b : Nat) (hb : ag_Y b) (x1 : Int32) (k2 : Int32 → Sg → Option Sg) (hk2 : ∀ (v2 : Int32) (σ : Sg), Ev mX5_openThoseDue 2 47 jV 2 [(0, .ref b), (1, .int x1), (2, .int v2)] [] σ (k2 v2 σ)) (v2 : Int32) (σ : Sg) : Ev mX5_openThoseDue 2 47 jV 84 [(0, .ref b), (1, .int x1), (2, .int v2)] [] σ (fn_X5_openThoseDue_b84 n b x1 k2 v2 σ) := by
  unfold fn_X5_openThoseDue_b84
  refine ev_iinc (pc := 84) (v := (v2 + 1)) (lv' := [(2, .int (v2 + 1)), (0, .ref b), (1, .int x1)]) 2 dX5_openThoseDue_84 rfl rfl (Nat.le_of_ble_eq_true rfl) rfl ?_
  refine ev_goto (pc := 87) (tgt := 2) dX5_openThoseDue_87 rfl ?_
  refine ev_sub [1, 2, 0] rfl ?_
  exact hk2 (v2 + 1) σ
def fn_X5_openThoseDue_b2 (n : Nat) (b : Nat) (x1 : Int32)  : Nat → Int32 → Sg → Option Sg
  | 0 => fun _ _ => none
  | i + 1 => fun v2 σ =>
  (if (σ (b + 7) 0) ≤ v2 then (some σ)
  else (if (((σ b 3) &&& ((σ b 4) ^^^ (-1))) >>> (v2 &&& 31)) = 0 then (some σ)
  else (Option.bind (fn_X5_isWaiting b v2 σ) fun q44 =>
  (if q44 = 0 then (fn_X5_openThoseDue_b84 n b x1 (fn_X5_openThoseDue_b2 n b x1 i) v2 σ)
  else (if ag_ib v2 13 = true then (if x1 < (σ (b + 14) v2.toNatClampNeg) then (fn_X5_openThoseDue_b84 n b x1 (fn_X5_openThoseDue_b2 n b x1 i) v2 σ)
  else (if ag_ib v2 13 = true then (Option.bind (fn_X1_lives (b + 1) (σ (b + 9) v2.toNatClampNeg) x1 σ) fun q45 =>
  (if q45 = 0 then (fn_X5_openThoseDue_b84 n b x1 (fn_X5_openThoseDue_b2 n b x1 i) v2 σ)
  else (Option.bind (fn_X5_hasNeeded b v2 σ) fun q46 =>
  (if q46 = 0 then (fn_X5_openThoseDue_b84 n b x1 (fn_X5_openThoseDue_b2 n b x1 i) v2 σ)
  else (Option.bind (fn_X5_openOne n b v2 x1 σ) fun q47 =>
  (fn_X5_openThoseDue_b84 n b x1 (fn_X5_openThoseDue_b2 n b x1 i) v2 q47)))))) else none)) else none)))))
theorem fn_X5_openThoseDue_b2_s (n : Nat) (b : Nat) (x1 : Int32)  (i : Nat) (v2 : Int32) (σ : Sg) : fn_X5_openThoseDue_b2 n b x1 (i + 1) v2 σ =
  (if (σ (b + 7) 0) ≤ v2 then (some σ)
  else (if (((σ b 3) &&& ((σ b 4) ^^^ (-1))) >>> (v2 &&& 31)) = 0 then (some σ)
  else (Option.bind (fn_X5_isWaiting b v2 σ) fun q44 =>
  (if q44 = 0 then (fn_X5_openThoseDue_b84 n b x1 (fn_X5_openThoseDue_b2 n b x1 i) v2 σ)
  else (if ag_ib v2 13 = true then (if x1 < (σ (b + 14) v2.toNatClampNeg) then (fn_X5_openThoseDue_b84 n b x1 (fn_X5_openThoseDue_b2 n b x1 i) v2 σ)
  else (if ag_ib v2 13 = true then (Option.bind (fn_X1_lives (b + 1) (σ (b + 9) v2.toNatClampNeg) x1 σ) fun q45 =>
  (if q45 = 0 then (fn_X5_openThoseDue_b84 n b x1 (fn_X5_openThoseDue_b2 n b x1 i) v2 σ)
  else (Option.bind (fn_X5_hasNeeded b v2 σ) fun q46 =>
  (if q46 = 0 then (fn_X5_openThoseDue_b84 n b x1 (fn_X5_openThoseDue_b2 n b x1 i) v2 σ)
  else (Option.bind (fn_X5_openOne n b v2 x1 σ) fun q47 =>
  (fn_X5_openThoseDue_b84 n b x1 (fn_X5_openThoseDue_b2 n b x1 i) v2 q47)))))) else none)) else none))))) := rfl
set_option maxRecDepth 20000 in
set_option maxHeartbeats 4000000 in
theorem ev_X5_openThoseDue_b2 (n : Nat) (b : Nat) (hb : ag_Y b) (x1 : Int32)  : ∀ (i : Nat) (v2 : Int32) (σ : Sg), Ev mX5_openThoseDue 2 47 jV 2 [(0, .ref b), (1, .int x1), (2, .int v2)] [] σ (fn_X5_openThoseDue_b2 n b x1 i v2 σ) := by
  intro i
  induction i with
  | zero =>
    intro v2 σ
    exact ev_none
  | succ i ih =>
    intro v2 σ
    rw [fn_X5_openThoseDue_b2_s]
    refine ev_iload_n (pc := 2) (i := 2) 2 dX5_openThoseDue_2 rfl rfl ?_
    refine ev_aload_n (pc := 3) (i := 0) 0 dX5_openThoseDue_3 rfl rfl ?_
    refine ev_getR (pc := 4) (t := (b + 7)) 1 ag_C5 (ag_Yk hb).1 (ag_Yk hb).2 (Nat.le_of_ble_eq_true rfl) (ag_Yt1 hb) rfl ag_fl_X5_21 dX5_openThoseDue_4 ?_
    refine ev_getI (pc := 7) 0 ag_C2 (ag_Pk (ag_YP hb)).1 (ag_Pk (ag_YP hb)).2 (Nat.le_of_ble_eq_true rfl) (ag_Pt0 (ag_YP hb)) rfl ag_fl_X5_78 dX5_openThoseDue_7 ?_
    refine ev_icmp_ge (pc := 10) (tgt := 90) dX5_openThoseDue_10 rfl ?_ ?_
    · exact ev_rV rfl dX5_openThoseDue_90
    · refine ev_aload_n (pc := 13) (i := 0) 0 dX5_openThoseDue_13 rfl rfl ?_
      refine ev_getI (pc := 14) 3 ag_C5 (ag_Yk hb).1 (ag_Yk hb).2 (Nat.le_of_ble_eq_true rfl) (ag_Yt3 hb) rfl ag_fl_X5_29 dX5_openThoseDue_14 ?_
      refine ev_aload_n (pc := 17) (i := 0) 0 dX5_openThoseDue_17 rfl rfl ?_
      refine ev_getI (pc := 18) 4 ag_C5 (ag_Yk hb).1 (ag_Yk hb).2 (Nat.le_of_ble_eq_true rfl) (ag_Yt4 hb) rfl ag_fl_X5_32 dX5_openThoseDue_18 ?_
      refine ev_iconst (pc := 21) (v := (-1)) dX5_openThoseDue_21 (by decide) ?_
      refine ev_ixor (pc := 22) dX5_openThoseDue_22 ?_
      refine ev_iand (pc := 23) dX5_openThoseDue_23 ?_
      refine ev_iload_n (pc := 24) (i := 2) 2 dX5_openThoseDue_24 rfl rfl ?_
      refine ev_ishr (pc := 25) dX5_openThoseDue_25 ?_
      refine ev_if_ne (pc := 26) (tgt := 32) dX5_openThoseDue_26 rfl ?_ ?_
      · refine ev_goto (pc := 29) (tgt := 90) dX5_openThoseDue_29 rfl ?_
        exact ev_rV rfl dX5_openThoseDue_90
      · refine ev_aload_n (pc := 32) (i := 0) 0 dX5_openThoseDue_32 rfl rfl ?_
        refine ev_iload_n (pc := 33) (i := 2) 2 dX5_openThoseDue_33 rfl rfl ?_
        refine ev_vI (pc := 34) (as := [.int v2]) (rest := []) ⟨5, 97, 10, TX5, tyX5, ag_C5, ⟨(ag_Yk hb).1, (ag_Yk hb).2⟩, mv_X5_isWaiting, ag_ml_X5_97, rfl, (Nat.le_of_ble_eq_true rfl), ⟨(Nat.le_of_ble_eq_true rfl), (Nat.le_of_ble_eq_true rfl)⟩, dX5_openThoseDue_34⟩ (im_X5_isWaiting b hb v2 σ) (fun q44 => ?_)
        refine ev_if_eq (pc := 37) (tgt := 84) dX5_openThoseDue_37 rfl ?_ ?_
        · exact ev_X5_openThoseDue_b84 n b hb x1 (fn_X5_openThoseDue_b2 n b x1 i) ih v2 σ
        · refine ev_aload_n (pc := 40) (i := 0) 0 dX5_openThoseDue_40 rfl rfl ?_
          refine ev_getR (pc := 41) (t := (b + 14)) 6 ag_C5 (ag_Yk hb).1 (ag_Yk hb).2 (Nat.le_of_ble_eq_true rfl) (ag_Yt6 hb) rfl ag_fl_X5_39 dX5_openThoseDue_41 ?_
          refine ev_iload_n (pc := 44) (i := 2) 2 dX5_openThoseDue_44 rfl rfl ?_
          refine ev_iald (pc := 45) (ag_Ya14 hb).1 (ag_Ya14 hb).2 dX5_openThoseDue_45 ?_
          refine ev_iload_n (pc := 46) (i := 1) 1 dX5_openThoseDue_46 rfl rfl ?_
          refine ev_icmp_gt (pc := 47) (tgt := 84) dX5_openThoseDue_47 rfl ?_ ?_
          · exact ev_X5_openThoseDue_b84 n b hb x1 (fn_X5_openThoseDue_b2 n b x1 i) ih v2 σ
          · refine ev_aload_n (pc := 50) (i := 0) 0 dX5_openThoseDue_50 rfl rfl ?_
            refine ev_getR (pc := 51) (t := (b + 1)) 0 ag_C5 (ag_Yk hb).1 (ag_Yk hb).2 (Nat.le_of_ble_eq_true rfl) (ag_Yt0 hb) rfl ag_fl_X5_12 dX5_openThoseDue_51 ?_
            refine ev_aload_n (pc := 54) (i := 0) 0 dX5_openThoseDue_54 rfl rfl ?_
            refine ev_getR (pc := 55) (t := (b + 7)) 1 ag_C5 (ag_Yk hb).1 (ag_Yk hb).2 (Nat.le_of_ble_eq_true rfl) (ag_Yt1 hb) rfl ag_fl_X5_21 dX5_openThoseDue_55 ?_
            refine ev_getR (pc := 58) (t := (b + 9)) 2 ag_C2 (ag_Pk (ag_YP hb)).1 (ag_Pk (ag_YP hb)).2 (Nat.le_of_ble_eq_true rfl) (ag_Pt2 (ag_YP hb)) rfl ag_fl_X5_101 dX5_openThoseDue_58 ?_
            refine ev_iload_n (pc := 61) (i := 2) 2 dX5_openThoseDue_61 rfl rfl ?_
            refine ev_iald (pc := 62) (ag_Pa2 (ag_YP hb)).1 (ag_Pa2 (ag_YP hb)).2 dX5_openThoseDue_62 ?_
            refine ev_iload_n (pc := 63) (i := 1) 1 dX5_openThoseDue_63 rfl rfl ?_
            refine ev_vI (pc := 64) (as := [.int (σ (b + 9) v2.toNatClampNeg), .int x1]) (rest := []) ⟨1, 87, 6, TX1, tyX1, ag_C1, ⟨(ag_Fk (ag_YF hb)).1, (ag_Fk (ag_YF hb)).2⟩, mv_X1_lives, ag_ml_X5_87, rfl, (Nat.le_of_ble_eq_true rfl), ⟨(Nat.le_of_ble_eq_true rfl), (Nat.le_of_ble_eq_true rfl)⟩, dX5_openThoseDue_64⟩ (im_X1_lives (b + 1) (ag_YF hb) (σ (b + 9) v2.toNatClampNeg) x1 σ) (fun q45 => ?_)
            refine ev_if_eq (pc := 67) (tgt := 84) dX5_openThoseDue_67 rfl ?_ ?_
            · exact ev_X5_openThoseDue_b84 n b hb x1 (fn_X5_openThoseDue_b2 n b x1 i) ih v2 σ
            · refine ev_aload_n (pc := 70) (i := 0) 0 dX5_openThoseDue_70 rfl rfl ?_
              refine ev_iload_n (pc := 71) (i := 2) 2 dX5_openThoseDue_71 rfl rfl ?_
              refine ev_vI (pc := 72) (as := [.int v2]) (rest := []) ⟨5, 104, 10, TX5, tyX5, ag_C5, ⟨(ag_Yk hb).1, (ag_Yk hb).2⟩, mv_X5_hasNeeded, ag_ml_X5_104, rfl, (Nat.le_of_ble_eq_true rfl), ⟨(Nat.le_of_ble_eq_true rfl), (Nat.le_of_ble_eq_true rfl)⟩, dX5_openThoseDue_72⟩ (im_X5_hasNeeded b hb v2 σ) (fun q46 => ?_)
              refine ev_if_eq (pc := 75) (tgt := 84) dX5_openThoseDue_75 rfl ?_ ?_
              · exact ev_X5_openThoseDue_b84 n b hb x1 (fn_X5_openThoseDue_b2 n b x1 i) ih v2 σ
              · refine ev_aload_n (pc := 78) (i := 0) 0 dX5_openThoseDue_78 rfl rfl ?_
                refine ev_iload_n (pc := 79) (i := 2) 2 dX5_openThoseDue_79 rfl rfl ?_
                refine ev_iload_n (pc := 80) (i := 1) 1 dX5_openThoseDue_80 rfl rfl ?_
                refine ev_vV (pc := 81) (as := [.int v2, .int x1]) (rest := []) ⟨5, 107, 10, TX5, tyX5, ag_C5, ⟨(ag_Yk hb).1, (ag_Yk hb).2⟩, mv_X5_openOne, ag_ml_X5_107, rfl, (Nat.le_of_ble_eq_true rfl), ⟨(Nat.le_of_ble_eq_true rfl), (Nat.le_of_ble_eq_true rfl)⟩, dX5_openThoseDue_81⟩ (im_X5_openOne n b hb v2 x1 σ) (fun q47 => ?_)
                exact ev_X5_openThoseDue_b84 n b hb x1 (fn_X5_openThoseDue_b2 n b x1 i) ih v2 q47
def fn_X5_openThoseDue (n : Nat) (b : Nat) (x1 : Int32) (σ : Sg) : Option Sg :=
  (fn_X5_openThoseDue_b2 n b x1 n 0 σ)
set_option maxRecDepth 20000 in
set_option maxHeartbeats 4000000 in
theorem im_X5_openThoseDue (n : Nat) (b : Nat) (hb : ag_Y b) (x1 : Int32) (σ : Sg) : Im yX5_openThoseDue mX5_openThoseDue 2 47 jV [.ref b, .int x1] σ (fn_X5_openThoseDue n b x1 σ) := by
  refine Im.of (by decide +kernel) rfl rfl (Nat.le_of_ble_eq_true rfl) ?_
  show Ev mX5_openThoseDue 2 47 jV 0 [(0, .ref b), (1, .int x1)] [] σ (fn_X5_openThoseDue n b x1 σ)
  unfold fn_X5_openThoseDue
  refine ev_iconst (pc := 0) (v := 0) dX5_openThoseDue_0 (by decide) ?_
  refine ev_istore_n (pc := 1) (i := 2) (lv' := [(2, .int 0), (0, .ref b), (1, .int x1)]) dX5_openThoseDue_1 rfl (Nat.le_of_ble_eq_true rfl) rfl ?_
  refine ev_sub [1, 2, 0] rfl ?_
  exact ev_X5_openThoseDue_b2 n b hb x1 n 0 σ
-- X5_nextStir
def mX5_nextStir : Md := (RX5, cX5_nextStir, 4, some .int, none)
theorem mv_X5_nextStir : ag_Mv yX5_nextStir mX5_nextStir 1 := ⟨ag_co_X5_nextStir, ag_im_X5_nextStir, ag_se_X5_nextStir, ag_ini_X5, by decide +kernel⟩
theorem dX5_nextStir_0 : decode mX5_nextStir.2.1 0 = .ok (.sipush 200, 3) := by decide +kernel
theorem dX5_nextStir_3 : decode mX5_nextStir.2.1 3 = .ok (.istore_n 2, 1) := by decide +kernel
theorem dX5_nextStir_4 : decode mX5_nextStir.2.1 4 = .ok (.iconst 0, 1) := by decide +kernel
theorem dX5_nextStir_5 : decode mX5_nextStir.2.1 5 = .ok (.istore_n 3, 1) := by decide +kernel
theorem dX5_nextStir_6 : decode mX5_nextStir.2.1 6 = .ok (.iload_n 3, 1) := by decide +kernel
theorem dX5_nextStir_7 : decode mX5_nextStir.2.1 7 = .ok (.aload_n 0, 1) := by decide +kernel
theorem dX5_nextStir_8 : decode mX5_nextStir.2.1 8 = .ok (.getfield 21, 3) := by decide +kernel
theorem dX5_nextStir_11 : decode mX5_nextStir.2.1 11 = .ok (.getfield 78, 3) := by decide +kernel
theorem dX5_nextStir_14 : decode mX5_nextStir.2.1 14 = .ok (.if_icmp .ge 68, 3) := by decide +kernel
theorem dX5_nextStir_17 : decode mX5_nextStir.2.1 17 = .ok (.aload_n 0, 1) := by decide +kernel
theorem dX5_nextStir_18 : decode mX5_nextStir.2.1 18 = .ok (.getfield 21, 3) := by decide +kernel
theorem dX5_nextStir_21 : decode mX5_nextStir.2.1 21 = .ok (.getfield 81, 3) := by decide +kernel
theorem dX5_nextStir_24 : decode mX5_nextStir.2.1 24 = .ok (.iload_n 3, 1) := by decide +kernel
theorem dX5_nextStir_25 : decode mX5_nextStir.2.1 25 = .ok (.iaload, 1) := by decide +kernel
theorem dX5_nextStir_26 : decode mX5_nextStir.2.1 26 = .ok (.iload_n 1, 1) := by decide +kernel
theorem dX5_nextStir_27 : decode mX5_nextStir.2.1 27 = .ok (.if_icmp .le 20, 3) := by decide +kernel
theorem dX5_nextStir_30 : decode mX5_nextStir.2.1 30 = .ok (.iload_n 2, 1) := by decide +kernel
theorem dX5_nextStir_31 : decode mX5_nextStir.2.1 31 = .ok (.aload_n 0, 1) := by decide +kernel
theorem dX5_nextStir_32 : decode mX5_nextStir.2.1 32 = .ok (.getfield 21, 3) := by decide +kernel
theorem dX5_nextStir_35 : decode mX5_nextStir.2.1 35 = .ok (.getfield 81, 3) := by decide +kernel
theorem dX5_nextStir_38 : decode mX5_nextStir.2.1 38 = .ok (.iload_n 3, 1) := by decide +kernel
theorem dX5_nextStir_39 : decode mX5_nextStir.2.1 39 = .ok (.iaload, 1) := by decide +kernel
theorem dX5_nextStir_40 : decode mX5_nextStir.2.1 40 = .ok (.invokestatic 124, 3) := by decide +kernel
theorem dX5_nextStir_43 : decode mX5_nextStir.2.1 43 = .ok (.istore_n 2, 1) := by decide +kernel
theorem dX5_nextStir_44 : decode mX5_nextStir.2.1 44 = .ok (.goto 32, 3) := by decide +kernel
theorem dX5_nextStir_47 : decode mX5_nextStir.2.1 47 = .ok (.aload_n 0, 1) := by decide +kernel
theorem dX5_nextStir_48 : decode mX5_nextStir.2.1 48 = .ok (.iload_n 3, 1) := by decide +kernel
theorem dX5_nextStir_49 : decode mX5_nextStir.2.1 49 = .ok (.invokevirtual 97, 3) := by decide +kernel
theorem dX5_nextStir_52 : decode mX5_nextStir.2.1 52 = .ok (.ifCond .eq 24, 3) := by decide +kernel
theorem dX5_nextStir_55 : decode mX5_nextStir.2.1 55 = .ok (.aload_n 0, 1) := by decide +kernel
theorem dX5_nextStir_56 : decode mX5_nextStir.2.1 56 = .ok (.getfield 39, 3) := by decide +kernel
theorem dX5_nextStir_59 : decode mX5_nextStir.2.1 59 = .ok (.iload_n 3, 1) := by decide +kernel
theorem dX5_nextStir_60 : decode mX5_nextStir.2.1 60 = .ok (.iaload, 1) := by decide +kernel
theorem dX5_nextStir_61 : decode mX5_nextStir.2.1 61 = .ok (.iload_n 1, 1) := by decide +kernel
theorem dX5_nextStir_62 : decode mX5_nextStir.2.1 62 = .ok (.if_icmp .le 14, 3) := by decide +kernel
theorem dX5_nextStir_65 : decode mX5_nextStir.2.1 65 = .ok (.iload_n 2, 1) := by decide +kernel
theorem dX5_nextStir_66 : decode mX5_nextStir.2.1 66 = .ok (.aload_n 0, 1) := by decide +kernel
theorem dX5_nextStir_67 : decode mX5_nextStir.2.1 67 = .ok (.getfield 39, 3) := by decide +kernel
theorem dX5_nextStir_70 : decode mX5_nextStir.2.1 70 = .ok (.iload_n 3, 1) := by decide +kernel
theorem dX5_nextStir_71 : decode mX5_nextStir.2.1 71 = .ok (.iaload, 1) := by decide +kernel
theorem dX5_nextStir_72 : decode mX5_nextStir.2.1 72 = .ok (.invokestatic 124, 3) := by decide +kernel
theorem dX5_nextStir_75 : decode mX5_nextStir.2.1 75 = .ok (.istore_n 2, 1) := by decide +kernel
theorem dX5_nextStir_76 : decode mX5_nextStir.2.1 76 = .ok (.iinc 3 1, 3) := by decide +kernel
theorem dX5_nextStir_79 : decode mX5_nextStir.2.1 79 = .ok (.goto (-73), 3) := by decide +kernel
theorem dX5_nextStir_82 : decode mX5_nextStir.2.1 82 = .ok (.iload_n 2, 1) := by decide +kernel
theorem dX5_nextStir_83 : decode mX5_nextStir.2.1 83 = .ok (.ireturn, 1) := by decide +kernel
def fn_X5_nextStir_b76 (n : Nat) (b : Nat) (x1 : Int32) (σ : Sg) (k6 : Int32 → Int32 → Option Int32) (v2 : Int32) (v3 : Int32) : Option Int32 :=
  (k6 v2 (v3 + 1))
set_option maxRecDepth 20000 in
set_option maxHeartbeats 4000000 in
theorem ev_X5_nextStir_b76 (n : Nat) (b : Nat) (hb : ag_Y b) (x1 : Int32) (σ : Sg) (k6 : Int32 → Int32 → Option Int32) (hk6 : ∀ (v2 : Int32) (v3 : Int32), Ev mX5_nextStir 1 21 (jI σ) 6 [(0, .ref b), (1, .int x1), (2, .int v2), (3, .int v3)] [] σ (k6 v2 v3)) (v2 : Int32) (v3 : Int32) : Ev mX5_nextStir 1 21 (jI σ) 76 [(0, .ref b), (1, .int x1), (2, .int v2), (3, .int v3)] [] σ (fn_X5_nextStir_b76 n b x1 σ k6 v2 v3) := by
  unfold fn_X5_nextStir_b76
  refine ev_iinc (pc := 76) (v := (v3 + 1)) (lv' := [(3, .int (v3 + 1)), (0, .ref b), (1, .int x1), (2, .int v2)]) 3 dX5_nextStir_76 rfl rfl (Nat.le_of_ble_eq_true rfl) rfl ?_
  refine ev_goto (pc := 79) (tgt := 6) dX5_nextStir_79 rfl ?_
  refine ev_sub [1, 2, 3, 0] rfl ?_
  exact hk6 v2 (v3 + 1)
def fn_X5_nextStir_b6 (n : Nat) (b : Nat) (x1 : Int32) (σ : Sg)  : Nat → Int32 → Int32 → Option Int32
  | 0 => fun _ _ => none
  | i + 1 => fun v2 v3 =>
  (if (σ (b + 7) 0) ≤ v3 then (some v2)
  else (if ag_ib v3 13 = true then (if (σ (b + 10) v3.toNatClampNeg) ≤ x1 then (Option.bind (fn_X5_isWaiting b v3 σ) fun q48 =>
  (if q48 = 0 then (fn_X5_nextStir_b76 n b x1 σ (fn_X5_nextStir_b6 n b x1 σ i) v2 v3)
  else (if ag_ib v3 13 = true then (if (σ (b + 14) v3.toNatClampNeg) ≤ x1 then (fn_X5_nextStir_b76 n b x1 σ (fn_X5_nextStir_b6 n b x1 σ i) v2 v3)
  else (if ag_ib v3 13 = true then (fn_X5_nextStir_b76 n b x1 σ (fn_X5_nextStir_b6 n b x1 σ i) (ag_min v2 (σ (b + 14) v3.toNatClampNeg)) v3) else none)) else none)))
  else (if ag_ib v3 13 = true then (fn_X5_nextStir_b76 n b x1 σ (fn_X5_nextStir_b6 n b x1 σ i) (ag_min v2 (σ (b + 10) v3.toNatClampNeg)) v3) else none)) else none))
theorem fn_X5_nextStir_b6_s (n : Nat) (b : Nat) (x1 : Int32) (σ : Sg)  (i : Nat) (v2 : Int32) (v3 : Int32) : fn_X5_nextStir_b6 n b x1 σ (i + 1) v2 v3 =
  (if (σ (b + 7) 0) ≤ v3 then (some v2)
  else (if ag_ib v3 13 = true then (if (σ (b + 10) v3.toNatClampNeg) ≤ x1 then (Option.bind (fn_X5_isWaiting b v3 σ) fun q48 =>
  (if q48 = 0 then (fn_X5_nextStir_b76 n b x1 σ (fn_X5_nextStir_b6 n b x1 σ i) v2 v3)
  else (if ag_ib v3 13 = true then (if (σ (b + 14) v3.toNatClampNeg) ≤ x1 then (fn_X5_nextStir_b76 n b x1 σ (fn_X5_nextStir_b6 n b x1 σ i) v2 v3)
  else (if ag_ib v3 13 = true then (fn_X5_nextStir_b76 n b x1 σ (fn_X5_nextStir_b6 n b x1 σ i) (ag_min v2 (σ (b + 14) v3.toNatClampNeg)) v3) else none)) else none)))
  else (if ag_ib v3 13 = true then (fn_X5_nextStir_b76 n b x1 σ (fn_X5_nextStir_b6 n b x1 σ i) (ag_min v2 (σ (b + 10) v3.toNatClampNeg)) v3) else none)) else none)) := rfl
set_option maxRecDepth 20000 in
set_option maxHeartbeats 4000000 in
theorem ev_X5_nextStir_b6 (n : Nat) (b : Nat) (hb : ag_Y b) (x1 : Int32) (σ : Sg)  : ∀ (i : Nat) (v2 : Int32) (v3 : Int32), Ev mX5_nextStir 1 21 (jI σ) 6 [(0, .ref b), (1, .int x1), (2, .int v2), (3, .int v3)] [] σ (fn_X5_nextStir_b6 n b x1 σ i v2 v3) := by
  intro i
  induction i with
  | zero =>
    intro v2 v3
    exact ev_none
  | succ i ih =>
    intro v2 v3
    rw [fn_X5_nextStir_b6_s]
    refine ev_iload_n (pc := 6) (i := 3) 3 dX5_nextStir_6 rfl rfl ?_
    refine ev_aload_n (pc := 7) (i := 0) 0 dX5_nextStir_7 rfl rfl ?_
    refine ev_getR (pc := 8) (t := (b + 7)) 1 ag_C5 (ag_Yk hb).1 (ag_Yk hb).2 (Nat.le_of_ble_eq_true rfl) (ag_Yt1 hb) rfl ag_fl_X5_21 dX5_nextStir_8 ?_
    refine ev_getI (pc := 11) 0 ag_C2 (ag_Pk (ag_YP hb)).1 (ag_Pk (ag_YP hb)).2 (Nat.le_of_ble_eq_true rfl) (ag_Pt0 (ag_YP hb)) rfl ag_fl_X5_78 dX5_nextStir_11 ?_
    refine ev_icmp_ge (pc := 14) (tgt := 82) dX5_nextStir_14 rfl ?_ ?_
    · refine ev_iload_n (pc := 82) (i := 2) 2 dX5_nextStir_82 rfl rfl ?_
      exact ev_irI rfl dX5_nextStir_83
    · refine ev_aload_n (pc := 17) (i := 0) 0 dX5_nextStir_17 rfl rfl ?_
      refine ev_getR (pc := 18) (t := (b + 7)) 1 ag_C5 (ag_Yk hb).1 (ag_Yk hb).2 (Nat.le_of_ble_eq_true rfl) (ag_Yt1 hb) rfl ag_fl_X5_21 dX5_nextStir_18 ?_
      refine ev_getR (pc := 21) (t := (b + 10)) 3 ag_C2 (ag_Pk (ag_YP hb)).1 (ag_Pk (ag_YP hb)).2 (Nat.le_of_ble_eq_true rfl) (ag_Pt3 (ag_YP hb)) rfl ag_fl_X5_81 dX5_nextStir_21 ?_
      refine ev_iload_n (pc := 24) (i := 3) 3 dX5_nextStir_24 rfl rfl ?_
      refine ev_iald (pc := 25) (ag_Pa3 (ag_YP hb)).1 (ag_Pa3 (ag_YP hb)).2 dX5_nextStir_25 ?_
      refine ev_iload_n (pc := 26) (i := 1) 1 dX5_nextStir_26 rfl rfl ?_
      refine ev_icmp_le (pc := 27) (tgt := 47) dX5_nextStir_27 rfl ?_ ?_
      · refine ev_aload_n (pc := 47) (i := 0) 0 dX5_nextStir_47 rfl rfl ?_
        refine ev_iload_n (pc := 48) (i := 3) 3 dX5_nextStir_48 rfl rfl ?_
        refine ev_vI (pc := 49) (as := [.int v3]) (rest := []) ⟨5, 97, 10, TX5, tyX5, ag_C5, ⟨(ag_Yk hb).1, (ag_Yk hb).2⟩, mv_X5_isWaiting, ag_ml_X5_97, rfl, (Nat.le_of_ble_eq_true rfl), ⟨(Nat.le_of_ble_eq_true rfl), (Nat.le_of_ble_eq_true rfl)⟩, dX5_nextStir_49⟩ (im_X5_isWaiting b hb v3 σ) (fun q48 => ?_)
        refine ev_if_eq (pc := 52) (tgt := 76) dX5_nextStir_52 rfl ?_ ?_
        · exact ev_X5_nextStir_b76 n b hb x1 σ (fn_X5_nextStir_b6 n b x1 σ i) ih v2 v3
        · refine ev_aload_n (pc := 55) (i := 0) 0 dX5_nextStir_55 rfl rfl ?_
          refine ev_getR (pc := 56) (t := (b + 14)) 6 ag_C5 (ag_Yk hb).1 (ag_Yk hb).2 (Nat.le_of_ble_eq_true rfl) (ag_Yt6 hb) rfl ag_fl_X5_39 dX5_nextStir_56 ?_
          refine ev_iload_n (pc := 59) (i := 3) 3 dX5_nextStir_59 rfl rfl ?_
          refine ev_iald (pc := 60) (ag_Ya14 hb).1 (ag_Ya14 hb).2 dX5_nextStir_60 ?_
          refine ev_iload_n (pc := 61) (i := 1) 1 dX5_nextStir_61 rfl rfl ?_
          refine ev_icmp_le (pc := 62) (tgt := 76) dX5_nextStir_62 rfl ?_ ?_
          · exact ev_X5_nextStir_b76 n b hb x1 σ (fn_X5_nextStir_b6 n b x1 σ i) ih v2 v3
          · refine ev_iload_n (pc := 65) (i := 2) 2 dX5_nextStir_65 rfl rfl ?_
            refine ev_aload_n (pc := 66) (i := 0) 0 dX5_nextStir_66 rfl rfl ?_
            refine ev_getR (pc := 67) (t := (b + 14)) 6 ag_C5 (ag_Yk hb).1 (ag_Yk hb).2 (Nat.le_of_ble_eq_true rfl) (ag_Yt6 hb) rfl ag_fl_X5_39 dX5_nextStir_67 ?_
            refine ev_iload_n (pc := 70) (i := 3) 3 dX5_nextStir_70 rfl rfl ?_
            refine ev_iald (pc := 71) (ag_Ya14 hb).1 (ag_Ya14 hb).2 dX5_nextStir_71 ?_
            refine ev_mmin (pc := 72) ag_ml_X5_124 ⟨(Nat.le_of_ble_eq_true rfl), (Nat.le_of_ble_eq_true rfl)⟩ dX5_nextStir_72 ?_
            refine ev_istore_n (pc := 75) (i := 2) (lv' := [(2, .int (ag_min v2 (σ (b + 14) v3.toNatClampNeg))), (0, .ref b), (1, .int x1), (3, .int v3)]) dX5_nextStir_75 rfl (Nat.le_of_ble_eq_true rfl) rfl ?_
            refine ev_sub [1, 2, 0, 3] rfl ?_
            exact ev_X5_nextStir_b76 n b hb x1 σ (fn_X5_nextStir_b6 n b x1 σ i) ih (ag_min v2 (σ (b + 14) v3.toNatClampNeg)) v3
      · refine ev_iload_n (pc := 30) (i := 2) 2 dX5_nextStir_30 rfl rfl ?_
        refine ev_aload_n (pc := 31) (i := 0) 0 dX5_nextStir_31 rfl rfl ?_
        refine ev_getR (pc := 32) (t := (b + 7)) 1 ag_C5 (ag_Yk hb).1 (ag_Yk hb).2 (Nat.le_of_ble_eq_true rfl) (ag_Yt1 hb) rfl ag_fl_X5_21 dX5_nextStir_32 ?_
        refine ev_getR (pc := 35) (t := (b + 10)) 3 ag_C2 (ag_Pk (ag_YP hb)).1 (ag_Pk (ag_YP hb)).2 (Nat.le_of_ble_eq_true rfl) (ag_Pt3 (ag_YP hb)) rfl ag_fl_X5_81 dX5_nextStir_35 ?_
        refine ev_iload_n (pc := 38) (i := 3) 3 dX5_nextStir_38 rfl rfl ?_
        refine ev_iald (pc := 39) (ag_Pa3 (ag_YP hb)).1 (ag_Pa3 (ag_YP hb)).2 dX5_nextStir_39 ?_
        refine ev_mmin (pc := 40) ag_ml_X5_124 ⟨(Nat.le_of_ble_eq_true rfl), (Nat.le_of_ble_eq_true rfl)⟩ dX5_nextStir_40 ?_
        refine ev_istore_n (pc := 43) (i := 2) (lv' := [(2, .int (ag_min v2 (σ (b + 10) v3.toNatClampNeg))), (0, .ref b), (1, .int x1), (3, .int v3)]) dX5_nextStir_43 rfl (Nat.le_of_ble_eq_true rfl) rfl ?_
        refine ev_goto (pc := 44) (tgt := 76) dX5_nextStir_44 rfl ?_
        refine ev_sub [1, 2, 0, 3] rfl ?_
        exact ev_X5_nextStir_b76 n b hb x1 σ (fn_X5_nextStir_b6 n b x1 σ i) ih (ag_min v2 (σ (b + 10) v3.toNatClampNeg)) v3
def fn_X5_nextStir (n : Nat) (b : Nat) (x1 : Int32) (σ : Sg) : Option Int32 :=
  (fn_X5_nextStir_b6 n b x1 σ n 200 0)
set_option maxRecDepth 20000 in
set_option maxHeartbeats 4000000 in
theorem im_X5_nextStir (n : Nat) (b : Nat) (hb : ag_Y b) (x1 : Int32) (σ : Sg) : Im yX5_nextStir mX5_nextStir 1 21 (jI σ) [.ref b, .int x1] σ (fn_X5_nextStir n b x1 σ) := by
  refine Im.of (by decide +kernel) rfl rfl (Nat.le_of_ble_eq_true rfl) ?_
  show Ev mX5_nextStir 1 21 (jI σ) 0 [(0, .ref b), (1, .int x1)] [] σ (fn_X5_nextStir n b x1 σ)
  unfold fn_X5_nextStir
  refine ev_sipush (pc := 0) (v := 200) dX5_nextStir_0 (by decide) ?_
  refine ev_istore_n (pc := 3) (i := 2) (lv' := [(2, .int 200), (0, .ref b), (1, .int x1)]) dX5_nextStir_3 rfl (Nat.le_of_ble_eq_true rfl) rfl ?_
  refine ev_iconst (pc := 4) (v := 0) dX5_nextStir_4 (by decide) ?_
  refine ev_istore_n (pc := 5) (i := 3) (lv' := [(3, .int 0), (2, .int 200), (0, .ref b), (1, .int x1)]) dX5_nextStir_5 rfl (Nat.le_of_ble_eq_true rfl) rfl ?_
  refine ev_sub [2, 3, 1, 0] rfl ?_
  exact ev_X5_nextStir_b6 n b hb x1 σ n 200 0
-- X5_live
def mX5_live : Md := (RX5, cX5_live, 4, none, none)
theorem mv_X5_live : ag_Mv yX5_live mX5_live 0 := ⟨ag_co_X5_live, ag_im_X5_live, ag_se_X5_live, ag_ini_X5, by decide +kernel⟩
theorem dX5_live_0 : decode mX5_live.2.1 0 = .ok (.aload_n 0, 1) := by decide +kernel
theorem dX5_live_1 : decode mX5_live.2.1 1 = .ok (.iconst 0, 1) := by decide +kernel
theorem dX5_live_2 : decode mX5_live.2.1 2 = .ok (.putfield 29, 3) := by decide +kernel
theorem dX5_live_5 : decode mX5_live.2.1 5 = .ok (.aload_n 0, 1) := by decide +kernel
theorem dX5_live_6 : decode mX5_live.2.1 6 = .ok (.iconst 0, 1) := by decide +kernel
theorem dX5_live_7 : decode mX5_live.2.1 7 = .ok (.putfield 32, 3) := by decide +kernel
theorem dX5_live_10 : decode mX5_live.2.1 10 = .ok (.aload_n 0, 1) := by decide +kernel
theorem dX5_live_11 : decode mX5_live.2.1 11 = .ok (.getfield 12, 3) := by decide +kernel
theorem dX5_live_14 : decode mX5_live.2.1 14 = .ok (.getfield 58, 3) := by decide +kernel
theorem dX5_live_17 : decode mX5_live.2.1 17 = .ok (.iconst 0, 1) := by decide +kernel
theorem dX5_live_18 : decode mX5_live.2.1 18 = .ok (.aload_n 0, 1) := by decide +kernel
theorem dX5_live_19 : decode mX5_live.2.1 19 = .ok (.getfield 42, 3) := by decide +kernel
theorem dX5_live_22 : decode mX5_live.2.1 22 = .ok (.iconst 0, 1) := by decide +kernel
theorem dX5_live_23 : decode mX5_live.2.1 23 = .ok (.bipush 10, 2) := by decide +kernel
theorem dX5_live_25 : decode mX5_live.2.1 25 = .ok (.invokestatic 61, 3) := by decide +kernel
theorem dX5_live_28 : decode mX5_live.2.1 28 = .ok (.iconst 0, 1) := by decide +kernel
theorem dX5_live_29 : decode mX5_live.2.1 29 = .ok (.istore_n 1, 1) := by decide +kernel
theorem dX5_live_30 : decode mX5_live.2.1 30 = .ok (.iconst 0, 1) := by decide +kernel
theorem dX5_live_31 : decode mX5_live.2.1 31 = .ok (.istore_n 2, 1) := by decide +kernel
theorem dX5_live_32 : decode mX5_live.2.1 32 = .ok (.iload_n 2, 1) := by decide +kernel
theorem dX5_live_33 : decode mX5_live.2.1 33 = .ok (.sipush 200, 3) := by decide +kernel
theorem dX5_live_36 : decode mX5_live.2.1 36 = .ok (.if_icmp .ge 51, 3) := by decide +kernel
theorem dX5_live_39 : decode mX5_live.2.1 39 = .ok (.iload_n 1, 1) := by decide +kernel
theorem dX5_live_40 : decode mX5_live.2.1 40 = .ok (.sipush 200, 3) := by decide +kernel
theorem dX5_live_43 : decode mX5_live.2.1 43 = .ok (.if_icmp .ge 44, 3) := by decide +kernel
theorem dX5_live_46 : decode mX5_live.2.1 46 = .ok (.aload_n 0, 1) := by decide +kernel
theorem dX5_live_47 : decode mX5_live.2.1 47 = .ok (.getfield 32, 3) := by decide +kernel
theorem dX5_live_50 : decode mX5_live.2.1 50 = .ok (.istore_n 3, 1) := by decide +kernel
theorem dX5_live_51 : decode mX5_live.2.1 51 = .ok (.aload_n 0, 1) := by decide +kernel
theorem dX5_live_52 : decode mX5_live.2.1 52 = .ok (.iload_n 1, 1) := by decide +kernel
theorem dX5_live_53 : decode mX5_live.2.1 53 = .ok (.invokevirtual 67, 3) := by decide +kernel
theorem dX5_live_56 : decode mX5_live.2.1 56 = .ok (.aload_n 0, 1) := by decide +kernel
theorem dX5_live_57 : decode mX5_live.2.1 57 = .ok (.iload_n 1, 1) := by decide +kernel
theorem dX5_live_58 : decode mX5_live.2.1 58 = .ok (.invokevirtual 71, 3) := by decide +kernel
theorem dX5_live_61 : decode mX5_live.2.1 61 = .ok (.aload_n 0, 1) := by decide +kernel
theorem dX5_live_62 : decode mX5_live.2.1 62 = .ok (.getfield 32, 3) := by decide +kernel
theorem dX5_live_65 : decode mX5_live.2.1 65 = .ok (.iload_n 3, 1) := by decide +kernel
theorem dX5_live_66 : decode mX5_live.2.1 66 = .ok (.if_icmp .eq 9, 3) := by decide +kernel
theorem dX5_live_69 : decode mX5_live.2.1 69 = .ok (.iload_n 1, 1) := by decide +kernel
theorem dX5_live_70 : decode mX5_live.2.1 70 = .ok (.iconst 1, 1) := by decide +kernel
theorem dX5_live_71 : decode mX5_live.2.1 71 = .ok (.iadd, 1) := by decide +kernel
theorem dX5_live_72 : decode mX5_live.2.1 72 = .ok (.goto 8, 3) := by decide +kernel
theorem dX5_live_75 : decode mX5_live.2.1 75 = .ok (.aload_n 0, 1) := by decide +kernel
theorem dX5_live_76 : decode mX5_live.2.1 76 = .ok (.iload_n 1, 1) := by decide +kernel
theorem dX5_live_77 : decode mX5_live.2.1 77 = .ok (.invokevirtual 74, 3) := by decide +kernel
theorem dX5_live_80 : decode mX5_live.2.1 80 = .ok (.istore_n 1, 1) := by decide +kernel
theorem dX5_live_81 : decode mX5_live.2.1 81 = .ok (.iinc 2 1, 3) := by decide +kernel
theorem dX5_live_84 : decode mX5_live.2.1 84 = .ok (.goto (-52), 3) := by decide +kernel
theorem dX5_live_87 : decode mX5_live.2.1 87 = .ok (.return_, 1) := by decide +kernel
def fn_X5_live_b80 (n : Nat) (b : Nat) (k32 : Int32 → Int32 → Sg → Option Sg) (v2 : Int32) (s0 : Int32) (σ : Sg) : Option Sg :=
  (k32 s0 (v2 + 1) σ)
set_option maxRecDepth 20000 in
set_option maxHeartbeats 4000000 in
theorem ev_X5_live_b80 (n : Nat) (b : Nat) (hb : ag_Y b) (k32 : Int32 → Int32 → Sg → Option Sg) (hk32 : ∀ (v1 : Int32) (v2 : Int32) (σ : Sg), Ev mX5_live 3 70 jV 32 [(0, .ref b), (1, .int v1), (2, .int v2)] [] σ (k32 v1 v2 σ)) (v2 : Int32) (s0 : Int32) (σ : Sg) : Ev mX5_live 3 70 jV 80 [(0, .ref b), (2, .int v2)] [.int s0] σ (fn_X5_live_b80 n b k32 v2 s0 σ) := by
  unfold fn_X5_live_b80
  refine ev_istore_n (pc := 80) (i := 1) (lv' := [(1, .int s0), (0, .ref b), (2, .int v2)]) dX5_live_80 rfl (Nat.le_of_ble_eq_true rfl) rfl ?_
  refine ev_iinc (pc := 81) (v := (v2 + 1)) (lv' := [(2, .int (v2 + 1)), (1, .int s0), (0, .ref b)]) 2 dX5_live_81 rfl rfl (Nat.le_of_ble_eq_true rfl) rfl ?_
  refine ev_goto (pc := 84) (tgt := 32) dX5_live_84 rfl ?_
  refine ev_sub [2, 1, 0] rfl ?_
  exact hk32 s0 (v2 + 1) σ
def fn_X5_live_b32 (n : Nat) (b : Nat)  : Nat → Int32 → Int32 → Sg → Option Sg
  | 0 => fun _ _ _ => none
  | i + 1 => fun v1 v2 σ =>
  (if 200 ≤ v2 then (some σ)
  else (if 200 ≤ v1 then (some σ)
  else (Option.bind (fn_X5_writeThoseOf n b v1 σ) fun q49 =>
  (Option.bind (fn_X5_openThoseDue n b v1 q49) fun q50 =>
  (if (q50 b 4) = (σ b 4) then (Option.bind (fn_X5_nextStir n b v1 q50) fun q51 =>
  (fn_X5_live_b80 n b (fn_X5_live_b32 n b i) v2 q51 q50))
  else (fn_X5_live_b80 n b (fn_X5_live_b32 n b i) v2 (v1 + 1) q50))))))
theorem fn_X5_live_b32_s (n : Nat) (b : Nat)  (i : Nat) (v1 : Int32) (v2 : Int32) (σ : Sg) : fn_X5_live_b32 n b (i + 1) v1 v2 σ =
  (if 200 ≤ v2 then (some σ)
  else (if 200 ≤ v1 then (some σ)
  else (Option.bind (fn_X5_writeThoseOf n b v1 σ) fun q49 =>
  (Option.bind (fn_X5_openThoseDue n b v1 q49) fun q50 =>
  (if (q50 b 4) = (σ b 4) then (Option.bind (fn_X5_nextStir n b v1 q50) fun q51 =>
  (fn_X5_live_b80 n b (fn_X5_live_b32 n b i) v2 q51 q50))
  else (fn_X5_live_b80 n b (fn_X5_live_b32 n b i) v2 (v1 + 1) q50)))))) := rfl
set_option maxRecDepth 20000 in
set_option maxHeartbeats 4000000 in
theorem ev_X5_live_b32 (n : Nat) (b : Nat) (hb : ag_Y b)  : ∀ (i : Nat) (v1 : Int32) (v2 : Int32) (σ : Sg), Ev mX5_live 3 70 jV 32 [(0, .ref b), (1, .int v1), (2, .int v2)] [] σ (fn_X5_live_b32 n b i v1 v2 σ) := by
  intro i
  induction i with
  | zero =>
    intro v1 v2 σ
    exact ev_none
  | succ i ih =>
    intro v1 v2 σ
    rw [fn_X5_live_b32_s]
    refine ev_iload_n (pc := 32) (i := 2) 2 dX5_live_32 rfl rfl ?_
    refine ev_sipush (pc := 33) (v := 200) dX5_live_33 (by decide) ?_
    refine ev_icmp_ge (pc := 36) (tgt := 87) dX5_live_36 rfl ?_ ?_
    · exact ev_rV rfl dX5_live_87
    · refine ev_iload_n (pc := 39) (i := 1) 1 dX5_live_39 rfl rfl ?_
      refine ev_sipush (pc := 40) (v := 200) dX5_live_40 (by decide) ?_
      refine ev_icmp_ge (pc := 43) (tgt := 87) dX5_live_43 rfl ?_ ?_
      · exact ev_rV rfl dX5_live_87
      · refine ev_aload_n (pc := 46) (i := 0) 0 dX5_live_46 rfl rfl ?_
        refine ev_getI (pc := 47) 4 ag_C5 (ag_Yk hb).1 (ag_Yk hb).2 (Nat.le_of_ble_eq_true rfl) (ag_Yt4 hb) rfl ag_fl_X5_32 dX5_live_47 ?_
        refine ev_istore_n (pc := 50) (i := 3) (lv' := [(3, .int (σ b 4)), (0, .ref b), (1, .int v1), (2, .int v2)]) dX5_live_50 rfl (Nat.le_of_ble_eq_true rfl) rfl ?_
        refine ev_aload_n (pc := 51) (i := 0) 1 dX5_live_51 rfl rfl ?_
        refine ev_iload_n (pc := 52) (i := 1) 2 dX5_live_52 rfl rfl ?_
        refine ev_vV (pc := 53) (as := [.int v1]) (rest := []) ⟨5, 67, 10, TX5, tyX5, ag_C5, ⟨(ag_Yk hb).1, (ag_Yk hb).2⟩, mv_X5_writeThoseOf, ag_ml_X5_67, rfl, (Nat.le_of_ble_eq_true rfl), ⟨(Nat.le_of_ble_eq_true rfl), (Nat.le_of_ble_eq_true rfl)⟩, dX5_live_53⟩ (im_X5_writeThoseOf n b hb v1 σ) (fun q49 => ?_)
        refine ev_aload_n (pc := 56) (i := 0) 1 dX5_live_56 rfl rfl ?_
        refine ev_iload_n (pc := 57) (i := 1) 2 dX5_live_57 rfl rfl ?_
        refine ev_vV (pc := 58) (as := [.int v1]) (rest := []) ⟨5, 71, 10, TX5, tyX5, ag_C5, ⟨(ag_Yk hb).1, (ag_Yk hb).2⟩, mv_X5_openThoseDue, ag_ml_X5_71, rfl, (Nat.le_of_ble_eq_true rfl), ⟨(Nat.le_of_ble_eq_true rfl), (Nat.le_of_ble_eq_true rfl)⟩, dX5_live_58⟩ (im_X5_openThoseDue n b hb v1 q49) (fun q50 => ?_)
        refine ev_aload_n (pc := 61) (i := 0) 1 dX5_live_61 rfl rfl ?_
        refine ev_getI (pc := 62) 4 ag_C5 (ag_Yk hb).1 (ag_Yk hb).2 (Nat.le_of_ble_eq_true rfl) (ag_Yt4 hb) rfl ag_fl_X5_32 dX5_live_62 ?_
        refine ev_iload_n (pc := 65) (i := 3) 0 dX5_live_65 rfl rfl ?_
        refine ev_icmp_eq (pc := 66) (tgt := 75) dX5_live_66 rfl ?_ ?_
        · refine ev_aload_n (pc := 75) (i := 0) 1 dX5_live_75 rfl rfl ?_
          refine ev_iload_n (pc := 76) (i := 1) 2 dX5_live_76 rfl rfl ?_
          refine ev_vI (pc := 77) (as := [.int v1]) (rest := []) ⟨5, 74, 10, TX5, tyX5, ag_C5, ⟨(ag_Yk hb).1, (ag_Yk hb).2⟩, mv_X5_nextStir, ag_ml_X5_74, rfl, (Nat.le_of_ble_eq_true rfl), ⟨(Nat.le_of_ble_eq_true rfl), (Nat.le_of_ble_eq_true rfl)⟩, dX5_live_77⟩ (im_X5_nextStir n b hb v1 q50) (fun q51 => ?_)
          refine ev_sub [1, 3] rfl ?_
          exact ev_X5_live_b80 n b hb (fn_X5_live_b32 n b i) ih v2 q51 q50
        · refine ev_iload_n (pc := 69) (i := 1) 2 dX5_live_69 rfl rfl ?_
          refine ev_iconst (pc := 70) (v := 1) dX5_live_70 (by decide) ?_
          refine ev_iadd (pc := 71) dX5_live_71 ?_
          refine ev_goto (pc := 72) (tgt := 80) dX5_live_72 rfl ?_
          refine ev_sub [1, 3] rfl ?_
          exact ev_X5_live_b80 n b hb (fn_X5_live_b32 n b i) ih v2 (v1 + 1) q50
def fn_X5_live (n : Nat) (b : Nat) (σ : Sg) : Option Sg :=
  (ag_sg (ag_up (ag_up σ b 3 0) b 4 0) fun t52 =>
  (if ag_cpok 0 0 10 10 10 = true then (ag_sg (ag_ar t52 (b + 15) (va_cpy (t52 (b + 6)) (t52 (b + 15)) (0 : Int32).toNatClampNeg (0 : Int32).toNatClampNeg (10 : Int32).toNatClampNeg)) fun t53 =>
  (fn_X5_live_b32 n b n 0 0 t53)) else none))
set_option maxRecDepth 20000 in
set_option maxHeartbeats 4000000 in
theorem im_X5_live (n : Nat) (b : Nat) (hb : ag_Y b) (σ : Sg) : Im yX5_live mX5_live 3 70 jV [.ref b] σ (fn_X5_live n b σ) := by
  refine Im.of (by decide +kernel) rfl rfl (Nat.le_of_ble_eq_true rfl) ?_
  show Ev mX5_live 3 70 jV 0 [(0, .ref b)] [] σ (fn_X5_live n b σ)
  unfold fn_X5_live
  refine ev_aload_n (pc := 0) (i := 0) 0 dX5_live_0 rfl rfl ?_
  refine ev_iconst (pc := 1) (v := 0) dX5_live_1 (by decide) ?_
  refine ev_put (pc := 2) 3 ag_C5 (ag_Yk hb).1 (ag_Yk hb).2 (Nat.le_of_ble_eq_true rfl) (ag_Yt3 hb) rfl ag_fl_X5_29 rfl rfl rfl dX5_live_2 ?_
  refine ev_aload_n (pc := 5) (i := 0) 0 dX5_live_5 rfl rfl ?_
  refine ev_iconst (pc := 6) (v := 0) dX5_live_6 (by decide) ?_
  refine ev_put (pc := 7) 4 ag_C5 (ag_Yk hb).1 (ag_Yk hb).2 (Nat.le_of_ble_eq_true rfl) (ag_Yt4 hb) rfl ag_fl_X5_32 rfl rfl rfl dX5_live_7 ?_
  refine ev_sg (fun t52 => ?_)
  refine ev_aload_n (pc := 10) (i := 0) 0 dX5_live_10 rfl rfl ?_
  refine ev_getR (pc := 11) (t := (b + 1)) 0 ag_C5 (ag_Yk hb).1 (ag_Yk hb).2 (Nat.le_of_ble_eq_true rfl) (ag_Yt0 hb) rfl ag_fl_X5_12 dX5_live_11 ?_
  refine ev_getR (pc := 14) (t := (b + 6)) 5 ag_C1 (ag_Fk (ag_YF hb)).1 (ag_Fk (ag_YF hb)).2 (Nat.le_of_ble_eq_true rfl) (ag_Ft5 (ag_YF hb)) rfl ag_fl_X5_58 dX5_live_14 ?_
  refine ev_iconst (pc := 17) (v := 0) dX5_live_17 (by decide) ?_
  refine ev_aload_n (pc := 18) (i := 0) 0 dX5_live_18 rfl rfl ?_
  refine ev_getR (pc := 19) (t := (b + 15)) 7 ag_C5 (ag_Yk hb).1 (ag_Yk hb).2 (Nat.le_of_ble_eq_true rfl) (ag_Yt7 hb) rfl ag_fl_X5_42 dX5_live_19 ?_
  refine ev_iconst (pc := 22) (v := 0) dX5_live_22 (by decide) ?_
  refine ev_bipush (pc := 23) (v := 10) dX5_live_23 (by decide) ?_
  refine ev_copy (pc := 25) (ag_Fa5 (ag_YF hb)).1 (ag_Fa5 (ag_YF hb)).2 (ag_Ya15 hb).1 (ag_Ya15 hb).2 ag_ml_X5_61 ⟨(Nat.le_of_ble_eq_true rfl), (by decide)⟩ dX5_live_25 ?_
  refine ev_sg (fun t53 => ?_)
  refine ev_iconst (pc := 28) (v := 0) dX5_live_28 (by decide) ?_
  refine ev_istore_n (pc := 29) (i := 1) (lv' := [(1, .int 0), (0, .ref b)]) dX5_live_29 rfl (Nat.le_of_ble_eq_true rfl) rfl ?_
  refine ev_iconst (pc := 30) (v := 0) dX5_live_30 (by decide) ?_
  refine ev_istore_n (pc := 31) (i := 2) (lv' := [(2, .int 0), (1, .int 0), (0, .ref b)]) dX5_live_31 rfl (Nat.le_of_ble_eq_true rfl) rfl ?_
  refine ev_sub [2, 1, 0] rfl ?_
  exact ev_X5_live_b32 n b hb n 0 0 t53
-- X5_bringsWanted
def mX5_bringsWanted : Md := (RX5, cX5_bringsWanted, 6, some .boolean, none)
theorem mv_X5_bringsWanted : ag_Mv yX5_bringsWanted mX5_bringsWanted 1 := ⟨ag_co_X5_bringsWanted, ag_im_X5_bringsWanted, ag_se_X5_bringsWanted, ag_ini_X5, by decide +kernel⟩
theorem dX5_bringsWanted_0 : decode mX5_bringsWanted.2.1 0 = .ok (.aload_n 0, 1) := by decide +kernel
theorem dX5_bringsWanted_1 : decode mX5_bringsWanted.2.1 1 = .ok (.getfield 21, 3) := by decide +kernel
theorem dX5_bringsWanted_4 : decode mX5_bringsWanted.2.1 4 = .ok (.getfield 101, 3) := by decide +kernel
theorem dX5_bringsWanted_7 : decode mX5_bringsWanted.2.1 7 = .ok (.iload_n 1, 1) := by decide +kernel
theorem dX5_bringsWanted_8 : decode mX5_bringsWanted.2.1 8 = .ok (.iaload, 1) := by decide +kernel
theorem dX5_bringsWanted_9 : decode mX5_bringsWanted.2.1 9 = .ok (.istore_n 2, 1) := by decide +kernel
theorem dX5_bringsWanted_10 : decode mX5_bringsWanted.2.1 10 = .ok (.aload_n 0, 1) := by decide +kernel
theorem dX5_bringsWanted_11 : decode mX5_bringsWanted.2.1 11 = .ok (.getfield 12, 3) := by decide +kernel
theorem dX5_bringsWanted_14 : decode mX5_bringsWanted.2.1 14 = .ok (.getfield 111, 3) := by decide +kernel
theorem dX5_bringsWanted_17 : decode mX5_bringsWanted.2.1 17 = .ok (.iload_n 2, 1) := by decide +kernel
theorem dX5_bringsWanted_18 : decode mX5_bringsWanted.2.1 18 = .ok (.iaload, 1) := by decide +kernel
theorem dX5_bringsWanted_19 : decode mX5_bringsWanted.2.1 19 = .ok (.iconst 1, 1) := by decide +kernel
theorem dX5_bringsWanted_20 : decode mX5_bringsWanted.2.1 20 = .ok (.if_icmp .ne 7, 3) := by decide +kernel
theorem dX5_bringsWanted_23 : decode mX5_bringsWanted.2.1 23 = .ok (.iconst 1, 1) := by decide +kernel
theorem dX5_bringsWanted_24 : decode mX5_bringsWanted.2.1 24 = .ok (.goto 4, 3) := by decide +kernel
theorem dX5_bringsWanted_27 : decode mX5_bringsWanted.2.1 27 = .ok (.iconst 0, 1) := by decide +kernel
theorem dX5_bringsWanted_28 : decode mX5_bringsWanted.2.1 28 = .ok (.istore_n 3, 1) := by decide +kernel
theorem dX5_bringsWanted_29 : decode mX5_bringsWanted.2.1 29 = .ok (.iconst 0, 1) := by decide +kernel
theorem dX5_bringsWanted_30 : decode mX5_bringsWanted.2.1 30 = .ok (.istore 4, 2) := by decide +kernel
theorem dX5_bringsWanted_32 : decode mX5_bringsWanted.2.1 32 = .ok (.iload 4, 2) := by decide +kernel
theorem dX5_bringsWanted_34 : decode mX5_bringsWanted.2.1 34 = .ok (.aload_n 0, 1) := by decide +kernel
theorem dX5_bringsWanted_35 : decode mX5_bringsWanted.2.1 35 = .ok (.getfield 12, 3) := by decide +kernel
theorem dX5_bringsWanted_38 : decode mX5_bringsWanted.2.1 38 = .ok (.getfield 118, 3) := by decide +kernel
theorem dX5_bringsWanted_41 : decode mX5_bringsWanted.2.1 41 = .ok (.if_icmp .ge 70, 3) := by decide +kernel
theorem dX5_bringsWanted_44 : decode mX5_bringsWanted.2.1 44 = .ok (.iload_n 3, 1) := by decide +kernel
theorem dX5_bringsWanted_45 : decode mX5_bringsWanted.2.1 45 = .ok (.ifCond .eq 17, 3) := by decide +kernel
theorem dX5_bringsWanted_48 : decode mX5_bringsWanted.2.1 48 = .ok (.iload 4, 2) := by decide +kernel
theorem dX5_bringsWanted_50 : decode mX5_bringsWanted.2.1 50 = .ok (.iload_n 2, 1) := by decide +kernel
theorem dX5_bringsWanted_51 : decode mX5_bringsWanted.2.1 51 = .ok (.if_icmp .eq 7, 3) := by decide +kernel
theorem dX5_bringsWanted_54 : decode mX5_bringsWanted.2.1 54 = .ok (.iconst 1, 1) := by decide +kernel
theorem dX5_bringsWanted_55 : decode mX5_bringsWanted.2.1 55 = .ok (.goto 18, 3) := by decide +kernel
theorem dX5_bringsWanted_58 : decode mX5_bringsWanted.2.1 58 = .ok (.iconst 0, 1) := by decide +kernel
theorem dX5_bringsWanted_59 : decode mX5_bringsWanted.2.1 59 = .ok (.goto 14, 3) := by decide +kernel
theorem dX5_bringsWanted_62 : decode mX5_bringsWanted.2.1 62 = .ok (.iload 4, 2) := by decide +kernel
theorem dX5_bringsWanted_64 : decode mX5_bringsWanted.2.1 64 = .ok (.iload_n 2, 1) := by decide +kernel
theorem dX5_bringsWanted_65 : decode mX5_bringsWanted.2.1 65 = .ok (.if_icmp .ne 7, 3) := by decide +kernel
theorem dX5_bringsWanted_68 : decode mX5_bringsWanted.2.1 68 = .ok (.iconst 1, 1) := by decide +kernel
theorem dX5_bringsWanted_69 : decode mX5_bringsWanted.2.1 69 = .ok (.goto 4, 3) := by decide +kernel
theorem dX5_bringsWanted_72 : decode mX5_bringsWanted.2.1 72 = .ok (.iconst 0, 1) := by decide +kernel
theorem dX5_bringsWanted_73 : decode mX5_bringsWanted.2.1 73 = .ok (.istore 5, 2) := by decide +kernel
theorem dX5_bringsWanted_75 : decode mX5_bringsWanted.2.1 75 = .ok (.iload 5, 2) := by decide +kernel
theorem dX5_bringsWanted_77 : decode mX5_bringsWanted.2.1 77 = .ok (.ifCond .eq 28, 3) := by decide +kernel
theorem dX5_bringsWanted_80 : decode mX5_bringsWanted.2.1 80 = .ok (.aload_n 0, 1) := by decide +kernel
theorem dX5_bringsWanted_81 : decode mX5_bringsWanted.2.1 81 = .ok (.getfield 48, 3) := by decide +kernel
theorem dX5_bringsWanted_84 : decode mX5_bringsWanted.2.1 84 = .ok (.iload 4, 2) := by decide +kernel
theorem dX5_bringsWanted_86 : decode mX5_bringsWanted.2.1 86 = .ok (.iaload, 1) := by decide +kernel
theorem dX5_bringsWanted_87 : decode mX5_bringsWanted.2.1 87 = .ok (.aload_n 0, 1) := by decide +kernel
theorem dX5_bringsWanted_88 : decode mX5_bringsWanted.2.1 88 = .ok (.getfield 21, 3) := by decide +kernel
theorem dX5_bringsWanted_91 : decode mX5_bringsWanted.2.1 91 = .ok (.getfield 91, 3) := by decide +kernel
theorem dX5_bringsWanted_94 : decode mX5_bringsWanted.2.1 94 = .ok (.iload_n 1, 1) := by decide +kernel
theorem dX5_bringsWanted_95 : decode mX5_bringsWanted.2.1 95 = .ok (.iaload, 1) := by decide +kernel
theorem dX5_bringsWanted_96 : decode mX5_bringsWanted.2.1 96 = .ok (.ishr, 1) := by decide +kernel
theorem dX5_bringsWanted_97 : decode mX5_bringsWanted.2.1 97 = .ok (.iconst 1, 1) := by decide +kernel
theorem dX5_bringsWanted_98 : decode mX5_bringsWanted.2.1 98 = .ok (.iand, 1) := by decide +kernel
theorem dX5_bringsWanted_99 : decode mX5_bringsWanted.2.1 99 = .ok (.iconst 1, 1) := by decide +kernel
theorem dX5_bringsWanted_100 : decode mX5_bringsWanted.2.1 100 = .ok (.if_icmp .ne 5, 3) := by decide +kernel
theorem dX5_bringsWanted_103 : decode mX5_bringsWanted.2.1 103 = .ok (.iconst 1, 1) := by decide +kernel
theorem dX5_bringsWanted_104 : decode mX5_bringsWanted.2.1 104 = .ok (.ireturn, 1) := by decide +kernel
theorem dX5_bringsWanted_105 : decode mX5_bringsWanted.2.1 105 = .ok (.iinc 4 1, 3) := by decide +kernel
theorem dX5_bringsWanted_108 : decode mX5_bringsWanted.2.1 108 = .ok (.goto (-76), 3) := by decide +kernel
theorem dX5_bringsWanted_111 : decode mX5_bringsWanted.2.1 111 = .ok (.iconst 0, 1) := by decide +kernel
theorem dX5_bringsWanted_112 : decode mX5_bringsWanted.2.1 112 = .ok (.ireturn, 1) := by decide +kernel
def fn_X5_bringsWanted_b105 (n : Nat) (b : Nat) (x1 : Int32) (σ : Sg) (k32 : Int32 → Int32 → Int32 → Option Int32) (v2 : Int32) (v3 : Int32) (v4 : Int32) : Option Int32 :=
  (k32 v2 v3 (v4 + 1))
set_option maxRecDepth 20000 in
set_option maxHeartbeats 4000000 in
theorem ev_X5_bringsWanted_b105 (n : Nat) (b : Nat) (hb : ag_Y b) (x1 : Int32) (σ : Sg) (k32 : Int32 → Int32 → Int32 → Option Int32) (hk32 : ∀ (v2 : Int32) (v3 : Int32) (v4 : Int32), Ev mX5_bringsWanted 0 0 (jI σ) 32 [(0, .ref b), (1, .int x1), (2, .int v2), (3, .int v3), (4, .int v4)] [] σ (k32 v2 v3 v4)) (v2 : Int32) (v3 : Int32) (v4 : Int32) : Ev mX5_bringsWanted 0 0 (jI σ) 105 [(0, .ref b), (1, .int x1), (2, .int v2), (3, .int v3), (4, .int v4)] [] σ (fn_X5_bringsWanted_b105 n b x1 σ k32 v2 v3 v4) := by
  unfold fn_X5_bringsWanted_b105
  refine ev_iinc (pc := 105) (v := (v4 + 1)) (lv' := [(4, .int (v4 + 1)), (0, .ref b), (1, .int x1), (2, .int v2), (3, .int v3)]) 4 dX5_bringsWanted_105 rfl rfl (Nat.le_of_ble_eq_true rfl) rfl ?_
  refine ev_goto (pc := 108) (tgt := 32) dX5_bringsWanted_108 rfl ?_
  refine ev_sub [1, 2, 3, 4, 0] rfl ?_
  exact hk32 v2 v3 (v4 + 1)
def fn_X5_bringsWanted_b73 (n : Nat) (b : Nat) (x1 : Int32) (σ : Sg) (k32 : Int32 → Int32 → Int32 → Option Int32) (v2 : Int32) (v3 : Int32) (v4 : Int32) (s0 : Int32) : Option Int32 :=
  (if s0 = 0 then (fn_X5_bringsWanted_b105 n b x1 σ k32 v2 v3 v4)
  else (if ag_ib v4 10 = true then (if ag_ib x1 13 = true then (if (((σ (b + 17) v4.toNatClampNeg) >>> ((σ (b + 11) x1.toNatClampNeg) &&& 31)) &&& 1) = 1 then (some 1)
  else (fn_X5_bringsWanted_b105 n b x1 σ k32 v2 v3 v4)) else none) else none))
set_option maxRecDepth 20000 in
set_option maxHeartbeats 4000000 in
theorem ev_X5_bringsWanted_b73 (n : Nat) (b : Nat) (hb : ag_Y b) (x1 : Int32) (σ : Sg) (k32 : Int32 → Int32 → Int32 → Option Int32) (hk32 : ∀ (v2 : Int32) (v3 : Int32) (v4 : Int32), Ev mX5_bringsWanted 0 0 (jI σ) 32 [(0, .ref b), (1, .int x1), (2, .int v2), (3, .int v3), (4, .int v4)] [] σ (k32 v2 v3 v4)) (v2 : Int32) (v3 : Int32) (v4 : Int32) (s0 : Int32) : Ev mX5_bringsWanted 0 0 (jI σ) 73 [(0, .ref b), (1, .int x1), (2, .int v2), (3, .int v3), (4, .int v4)] [.int s0] σ (fn_X5_bringsWanted_b73 n b x1 σ k32 v2 v3 v4 s0) := by
  unfold fn_X5_bringsWanted_b73
  refine ev_istore (pc := 73) (lv' := [(5, .int s0), (0, .ref b), (1, .int x1), (2, .int v2), (3, .int v3), (4, .int v4)]) dX5_bringsWanted_73 (Nat.le_of_ble_eq_true rfl) rfl ?_
  refine ev_iload (pc := 75) 0 dX5_bringsWanted_75 rfl ?_
  refine ev_if_eq (pc := 77) (tgt := 105) dX5_bringsWanted_77 rfl ?_ ?_
  · refine ev_sub [1, 2, 3, 4, 5] rfl ?_
    exact ev_X5_bringsWanted_b105 n b hb x1 σ k32 hk32 v2 v3 v4
  · refine ev_aload_n (pc := 80) (i := 0) 1 dX5_bringsWanted_80 rfl rfl ?_
    refine ev_getR (pc := 81) (t := (b + 17)) 9 ag_C5 (ag_Yk hb).1 (ag_Yk hb).2 (Nat.le_of_ble_eq_true rfl) (ag_Yt9 hb) rfl ag_fl_X5_48 dX5_bringsWanted_81 ?_
    refine ev_iload (pc := 84) 5 dX5_bringsWanted_84 rfl ?_
    refine ev_iald (pc := 86) (ag_Ya17 hb).1 (ag_Ya17 hb).2 dX5_bringsWanted_86 ?_
    refine ev_aload_n (pc := 87) (i := 0) 1 dX5_bringsWanted_87 rfl rfl ?_
    refine ev_getR (pc := 88) (t := (b + 7)) 1 ag_C5 (ag_Yk hb).1 (ag_Yk hb).2 (Nat.le_of_ble_eq_true rfl) (ag_Yt1 hb) rfl ag_fl_X5_21 dX5_bringsWanted_88 ?_
    refine ev_getR (pc := 91) (t := (b + 11)) 4 ag_C2 (ag_Pk (ag_YP hb)).1 (ag_Pk (ag_YP hb)).2 (Nat.le_of_ble_eq_true rfl) (ag_Pt4 (ag_YP hb)) rfl ag_fl_X5_91 dX5_bringsWanted_91 ?_
    refine ev_iload_n (pc := 94) (i := 1) 2 dX5_bringsWanted_94 rfl rfl ?_
    refine ev_iald (pc := 95) (ag_Pa4 (ag_YP hb)).1 (ag_Pa4 (ag_YP hb)).2 dX5_bringsWanted_95 ?_
    refine ev_ishr (pc := 96) dX5_bringsWanted_96 ?_
    refine ev_iconst (pc := 97) (v := 1) dX5_bringsWanted_97 (by decide) ?_
    refine ev_iand (pc := 98) dX5_bringsWanted_98 ?_
    refine ev_iconst (pc := 99) (v := 1) dX5_bringsWanted_99 (by decide) ?_
    refine ev_icmp_ne (pc := 100) (tgt := 105) dX5_bringsWanted_100 rfl ?_ ?_
    · refine ev_iconst (pc := 103) (v := 1) dX5_bringsWanted_103 (by decide) ?_
      exact ev_brI rfl rfl dX5_bringsWanted_104
    · refine ev_sub [1, 2, 3, 4, 5] rfl ?_
      exact ev_X5_bringsWanted_b105 n b hb x1 σ k32 hk32 v2 v3 v4
def fn_X5_bringsWanted_b32 (n : Nat) (b : Nat) (x1 : Int32) (σ : Sg)  : Nat → Int32 → Int32 → Int32 → Option Int32
  | 0 => fun _ _ _ => none
  | i + 1 => fun v2 v3 v4 =>
  (if (σ (b + 1) 0) ≤ v4 then (some 0)
  else (if v3 = 0 then (if v4 = v2 then (fn_X5_bringsWanted_b73 n b x1 σ (fn_X5_bringsWanted_b32 n b x1 σ i) v2 v3 v4 1)
  else (fn_X5_bringsWanted_b73 n b x1 σ (fn_X5_bringsWanted_b32 n b x1 σ i) v2 v3 v4 0))
  else (if v4 = v2 then (fn_X5_bringsWanted_b73 n b x1 σ (fn_X5_bringsWanted_b32 n b x1 σ i) v2 v3 v4 0)
  else (fn_X5_bringsWanted_b73 n b x1 σ (fn_X5_bringsWanted_b32 n b x1 σ i) v2 v3 v4 1))))
theorem fn_X5_bringsWanted_b32_s (n : Nat) (b : Nat) (x1 : Int32) (σ : Sg)  (i : Nat) (v2 : Int32) (v3 : Int32) (v4 : Int32) : fn_X5_bringsWanted_b32 n b x1 σ (i + 1) v2 v3 v4 =
  (if (σ (b + 1) 0) ≤ v4 then (some 0)
  else (if v3 = 0 then (if v4 = v2 then (fn_X5_bringsWanted_b73 n b x1 σ (fn_X5_bringsWanted_b32 n b x1 σ i) v2 v3 v4 1)
  else (fn_X5_bringsWanted_b73 n b x1 σ (fn_X5_bringsWanted_b32 n b x1 σ i) v2 v3 v4 0))
  else (if v4 = v2 then (fn_X5_bringsWanted_b73 n b x1 σ (fn_X5_bringsWanted_b32 n b x1 σ i) v2 v3 v4 0)
  else (fn_X5_bringsWanted_b73 n b x1 σ (fn_X5_bringsWanted_b32 n b x1 σ i) v2 v3 v4 1)))) := rfl
set_option maxRecDepth 20000 in
set_option maxHeartbeats 4000000 in
theorem ev_X5_bringsWanted_b32 (n : Nat) (b : Nat) (hb : ag_Y b) (x1 : Int32) (σ : Sg)  : ∀ (i : Nat) (v2 : Int32) (v3 : Int32) (v4 : Int32), Ev mX5_bringsWanted 0 0 (jI σ) 32 [(0, .ref b), (1, .int x1), (2, .int v2), (3, .int v3), (4, .int v4)] [] σ (fn_X5_bringsWanted_b32 n b x1 σ i v2 v3 v4) := by
  intro i
  induction i with
  | zero =>
    intro v2 v3 v4
    exact ev_none
  | succ i ih =>
    intro v2 v3 v4
    rw [fn_X5_bringsWanted_b32_s]
    refine ev_iload (pc := 32) 4 dX5_bringsWanted_32 rfl ?_
    refine ev_aload_n (pc := 34) (i := 0) 0 dX5_bringsWanted_34 rfl rfl ?_
    refine ev_getR (pc := 35) (t := (b + 1)) 0 ag_C5 (ag_Yk hb).1 (ag_Yk hb).2 (Nat.le_of_ble_eq_true rfl) (ag_Yt0 hb) rfl ag_fl_X5_12 dX5_bringsWanted_35 ?_
    refine ev_getI (pc := 38) 0 ag_C1 (ag_Fk (ag_YF hb)).1 (ag_Fk (ag_YF hb)).2 (Nat.le_of_ble_eq_true rfl) (ag_Ft0 (ag_YF hb)) rfl ag_fl_X5_118 dX5_bringsWanted_38 ?_
    refine ev_icmp_ge (pc := 41) (tgt := 111) dX5_bringsWanted_41 rfl ?_ ?_
    · refine ev_iconst (pc := 111) (v := 0) dX5_bringsWanted_111 (by decide) ?_
      exact ev_brI rfl rfl dX5_bringsWanted_112
    · refine ev_iload_n (pc := 44) (i := 3) 3 dX5_bringsWanted_44 rfl rfl ?_
      refine ev_if_eq (pc := 45) (tgt := 62) dX5_bringsWanted_45 rfl ?_ ?_
      · refine ev_iload (pc := 62) 4 dX5_bringsWanted_62 rfl ?_
        refine ev_iload_n (pc := 64) (i := 2) 2 dX5_bringsWanted_64 rfl rfl ?_
        refine ev_icmp_ne (pc := 65) (tgt := 72) dX5_bringsWanted_65 rfl ?_ ?_
        · refine ev_iconst (pc := 68) (v := 1) dX5_bringsWanted_68 (by decide) ?_
          refine ev_goto (pc := 69) (tgt := 73) dX5_bringsWanted_69 rfl ?_
          exact ev_X5_bringsWanted_b73 n b hb x1 σ (fn_X5_bringsWanted_b32 n b x1 σ i) ih v2 v3 v4 1
        · refine ev_iconst (pc := 72) (v := 0) dX5_bringsWanted_72 (by decide) ?_
          exact ev_X5_bringsWanted_b73 n b hb x1 σ (fn_X5_bringsWanted_b32 n b x1 σ i) ih v2 v3 v4 0
      · refine ev_iload (pc := 48) 4 dX5_bringsWanted_48 rfl ?_
        refine ev_iload_n (pc := 50) (i := 2) 2 dX5_bringsWanted_50 rfl rfl ?_
        refine ev_icmp_eq (pc := 51) (tgt := 58) dX5_bringsWanted_51 rfl ?_ ?_
        · refine ev_iconst (pc := 58) (v := 0) dX5_bringsWanted_58 (by decide) ?_
          refine ev_goto (pc := 59) (tgt := 73) dX5_bringsWanted_59 rfl ?_
          exact ev_X5_bringsWanted_b73 n b hb x1 σ (fn_X5_bringsWanted_b32 n b x1 σ i) ih v2 v3 v4 0
        · refine ev_iconst (pc := 54) (v := 1) dX5_bringsWanted_54 (by decide) ?_
          refine ev_goto (pc := 55) (tgt := 73) dX5_bringsWanted_55 rfl ?_
          exact ev_X5_bringsWanted_b73 n b hb x1 σ (fn_X5_bringsWanted_b32 n b x1 σ i) ih v2 v3 v4 1
def fn_X5_bringsWanted_b28 (n : Nat) (b : Nat) (x1 : Int32) (σ : Sg)  (v2 : Int32) (s0 : Int32) : Option Int32 :=
  (fn_X5_bringsWanted_b32 n b x1 σ n v2 s0 0)
set_option maxRecDepth 20000 in
set_option maxHeartbeats 4000000 in
theorem ev_X5_bringsWanted_b28 (n : Nat) (b : Nat) (hb : ag_Y b) (x1 : Int32) (σ : Sg)  (v2 : Int32) (s0 : Int32) : Ev mX5_bringsWanted 0 0 (jI σ) 28 [(0, .ref b), (1, .int x1), (2, .int v2)] [.int s0] σ (fn_X5_bringsWanted_b28 n b x1 σ v2 s0) := by
  unfold fn_X5_bringsWanted_b28
  refine ev_istore_n (pc := 28) (i := 3) (lv' := [(3, .int s0), (0, .ref b), (1, .int x1), (2, .int v2)]) dX5_bringsWanted_28 rfl (Nat.le_of_ble_eq_true rfl) rfl ?_
  refine ev_iconst (pc := 29) (v := 0) dX5_bringsWanted_29 (by decide) ?_
  refine ev_istore (pc := 30) (lv' := [(4, .int 0), (3, .int s0), (0, .ref b), (1, .int x1), (2, .int v2)]) dX5_bringsWanted_30 (Nat.le_of_ble_eq_true rfl) rfl ?_
  refine ev_sub [2, 3, 4, 1, 0] rfl ?_
  exact ev_X5_bringsWanted_b32 n b hb x1 σ n v2 s0 0
def fn_X5_bringsWanted (n : Nat) (b : Nat) (x1 : Int32) (σ : Sg) : Option Int32 :=
  (if ag_ib x1 13 = true then (if ag_ib (σ (b + 9) x1.toNatClampNeg) 10 = true then (if (σ (b + 4) (σ (b + 9) x1.toNatClampNeg).toNatClampNeg) = 1 then (fn_X5_bringsWanted_b28 n b x1 σ (σ (b + 9) x1.toNatClampNeg) 1)
  else (fn_X5_bringsWanted_b28 n b x1 σ (σ (b + 9) x1.toNatClampNeg) 0)) else none) else none)
set_option maxRecDepth 20000 in
set_option maxHeartbeats 4000000 in
theorem im_X5_bringsWanted (n : Nat) (b : Nat) (hb : ag_Y b) (x1 : Int32) (σ : Sg) : Im yX5_bringsWanted mX5_bringsWanted 0 0 (jI σ) [.ref b, .int x1] σ (fn_X5_bringsWanted n b x1 σ) := by
  refine Im.of (by decide +kernel) rfl rfl (Nat.le_of_ble_eq_true rfl) ?_
  show Ev mX5_bringsWanted 0 0 (jI σ) 0 [(0, .ref b), (1, .int x1)] [] σ (fn_X5_bringsWanted n b x1 σ)
  unfold fn_X5_bringsWanted
  refine ev_aload_n (pc := 0) (i := 0) 0 dX5_bringsWanted_0 rfl rfl ?_
  refine ev_getR (pc := 1) (t := (b + 7)) 1 ag_C5 (ag_Yk hb).1 (ag_Yk hb).2 (Nat.le_of_ble_eq_true rfl) (ag_Yt1 hb) rfl ag_fl_X5_21 dX5_bringsWanted_1 ?_
  refine ev_getR (pc := 4) (t := (b + 9)) 2 ag_C2 (ag_Pk (ag_YP hb)).1 (ag_Pk (ag_YP hb)).2 (Nat.le_of_ble_eq_true rfl) (ag_Pt2 (ag_YP hb)) rfl ag_fl_X5_101 dX5_bringsWanted_4 ?_
  refine ev_iload_n (pc := 7) (i := 1) 1 dX5_bringsWanted_7 rfl rfl ?_
  refine ev_iald (pc := 8) (ag_Pa2 (ag_YP hb)).1 (ag_Pa2 (ag_YP hb)).2 dX5_bringsWanted_8 ?_
  refine ev_istore_n (pc := 9) (i := 2) (lv' := [(2, .int (σ (b + 9) x1.toNatClampNeg)), (0, .ref b), (1, .int x1)]) dX5_bringsWanted_9 rfl (Nat.le_of_ble_eq_true rfl) rfl ?_
  refine ev_aload_n (pc := 10) (i := 0) 1 dX5_bringsWanted_10 rfl rfl ?_
  refine ev_getR (pc := 11) (t := (b + 1)) 0 ag_C5 (ag_Yk hb).1 (ag_Yk hb).2 (Nat.le_of_ble_eq_true rfl) (ag_Yt0 hb) rfl ag_fl_X5_12 dX5_bringsWanted_11 ?_
  refine ev_getR (pc := 14) (t := (b + 4)) 3 ag_C1 (ag_Fk (ag_YF hb)).1 (ag_Fk (ag_YF hb)).2 (Nat.le_of_ble_eq_true rfl) (ag_Ft3 (ag_YF hb)) rfl ag_fl_X5_111 dX5_bringsWanted_14 ?_
  refine ev_iload_n (pc := 17) (i := 2) 0 dX5_bringsWanted_17 rfl rfl ?_
  refine ev_iald (pc := 18) (ag_Fa3 (ag_YF hb)).1 (ag_Fa3 (ag_YF hb)).2 dX5_bringsWanted_18 ?_
  refine ev_iconst (pc := 19) (v := 1) dX5_bringsWanted_19 (by decide) ?_
  refine ev_icmp_ne (pc := 20) (tgt := 27) dX5_bringsWanted_20 rfl ?_ ?_
  · refine ev_iconst (pc := 23) (v := 1) dX5_bringsWanted_23 (by decide) ?_
    refine ev_goto (pc := 24) (tgt := 28) dX5_bringsWanted_24 rfl ?_
    refine ev_sub [1, 2, 0] rfl ?_
    exact ev_X5_bringsWanted_b28 n b hb x1 σ (σ (b + 9) x1.toNatClampNeg) 1
  · refine ev_iconst (pc := 27) (v := 0) dX5_bringsWanted_27 (by decide) ?_
    refine ev_sub [1, 2, 0] rfl ?_
    exact ev_X5_bringsWanted_b28 n b hb x1 σ (σ (b + 9) x1.toNatClampNeg) 0
-- X5_want
def mX5_want : Md := (RX5, cX5_want, 3, none, none)
theorem mv_X5_want : ag_Mv yX5_want mX5_want 2 := ⟨ag_co_X5_want, ag_im_X5_want, ag_se_X5_want, ag_ini_X5, by decide +kernel⟩
theorem dX5_want_0 : decode mX5_want.2.1 0 = .ok (.iload_n 2, 1) := by decide +kernel
theorem dX5_want_1 : decode mX5_want.2.1 1 = .ok (.iconst (-1), 1) := by decide +kernel
theorem dX5_want_2 : decode mX5_want.2.1 2 = .ok (.if_icmp .eq 27, 3) := by decide +kernel
theorem dX5_want_5 : decode mX5_want.2.1 5 = .ok (.aload_n 0, 1) := by decide +kernel
theorem dX5_want_6 : decode mX5_want.2.1 6 = .ok (.getfield 48, 3) := by decide +kernel
theorem dX5_want_9 : decode mX5_want.2.1 9 = .ok (.iload_n 1, 1) := by decide +kernel
theorem dX5_want_10 : decode mX5_want.2.1 10 = .ok (.dup2, 1) := by decide +kernel
theorem dX5_want_11 : decode mX5_want.2.1 11 = .ok (.iaload, 1) := by decide +kernel
theorem dX5_want_12 : decode mX5_want.2.1 12 = .ok (.iconst 1, 1) := by decide +kernel
theorem dX5_want_13 : decode mX5_want.2.1 13 = .ok (.iload_n 2, 1) := by decide +kernel
theorem dX5_want_14 : decode mX5_want.2.1 14 = .ok (.ishl, 1) := by decide +kernel
theorem dX5_want_15 : decode mX5_want.2.1 15 = .ok (.aload_n 0, 1) := by decide +kernel
theorem dX5_want_16 : decode mX5_want.2.1 16 = .ok (.getfield 12, 3) := by decide +kernel
theorem dX5_want_19 : decode mX5_want.2.1 19 = .ok (.getfield 58, 3) := by decide +kernel
theorem dX5_want_22 : decode mX5_want.2.1 22 = .ok (.iload_n 1, 1) := by decide +kernel
theorem dX5_want_23 : decode mX5_want.2.1 23 = .ok (.iaload, 1) := by decide +kernel
theorem dX5_want_24 : decode mX5_want.2.1 24 = .ok (.iconst (-1), 1) := by decide +kernel
theorem dX5_want_25 : decode mX5_want.2.1 25 = .ok (.ixor, 1) := by decide +kernel
theorem dX5_want_26 : decode mX5_want.2.1 26 = .ok (.iand, 1) := by decide +kernel
theorem dX5_want_27 : decode mX5_want.2.1 27 = .ok (.ior, 1) := by decide +kernel
theorem dX5_want_28 : decode mX5_want.2.1 28 = .ok (.iastore, 1) := by decide +kernel
theorem dX5_want_29 : decode mX5_want.2.1 29 = .ok (.return_, 1) := by decide +kernel
def fn_X5_want (b : Nat) (x1 : Int32) (x2 : Int32) (σ : Sg) : Option Sg :=
  (if x2 = (-1) then (some σ)
  else (if ag_ib x1 10 = true then (if ag_ib x1 10 = true then (if ag_ib x1 10 = true then (some (ag_up σ (b + 17) x1.toNatClampNeg ((σ (b + 17) x1.toNatClampNeg) ||| ((1 <<< (x2 &&& 31)) &&& ((σ (b + 6) x1.toNatClampNeg) ^^^ (-1)))))) else none) else none) else none))
set_option maxRecDepth 20000 in
set_option maxHeartbeats 4000000 in
theorem im_X5_want (b : Nat) (hb : ag_Y b) (x1 : Int32) (x2 : Int32) (σ : Sg) : Im yX5_want mX5_want 0 0 jV [.ref b, .int x1, .int x2] σ (fn_X5_want b x1 x2 σ) := by
  refine Im.of (by decide +kernel) rfl rfl (Nat.le_of_ble_eq_true rfl) ?_
  show Ev mX5_want 0 0 jV 0 [(0, .ref b), (1, .int x1), (2, .int x2)] [] σ (fn_X5_want b x1 x2 σ)
  unfold fn_X5_want
  refine ev_iload_n (pc := 0) (i := 2) 2 dX5_want_0 rfl rfl ?_
  refine ev_iconst (pc := 1) (v := (-1)) dX5_want_1 (by decide) ?_
  refine ev_icmp_eq (pc := 2) (tgt := 29) dX5_want_2 rfl ?_ ?_
  · exact ev_rV rfl dX5_want_29
  · refine ev_aload_n (pc := 5) (i := 0) 0 dX5_want_5 rfl rfl ?_
    refine ev_getR (pc := 6) (t := (b + 17)) 9 ag_C5 (ag_Yk hb).1 (ag_Yk hb).2 (Nat.le_of_ble_eq_true rfl) (ag_Yt9 hb) rfl ag_fl_X5_48 dX5_want_6 ?_
    refine ev_iload_n (pc := 9) (i := 1) 1 dX5_want_9 rfl rfl ?_
    refine ev_dup2 (pc := 10) dX5_want_10 rfl rfl ?_
    refine ev_iald (pc := 11) (ag_Ya17 hb).1 (ag_Ya17 hb).2 dX5_want_11 ?_
    refine ev_iconst (pc := 12) (v := 1) dX5_want_12 (by decide) ?_
    refine ev_iload_n (pc := 13) (i := 2) 2 dX5_want_13 rfl rfl ?_
    refine ev_ishl (pc := 14) dX5_want_14 ?_
    refine ev_aload_n (pc := 15) (i := 0) 0 dX5_want_15 rfl rfl ?_
    refine ev_getR (pc := 16) (t := (b + 1)) 0 ag_C5 (ag_Yk hb).1 (ag_Yk hb).2 (Nat.le_of_ble_eq_true rfl) (ag_Yt0 hb) rfl ag_fl_X5_12 dX5_want_16 ?_
    refine ev_getR (pc := 19) (t := (b + 6)) 5 ag_C1 (ag_Fk (ag_YF hb)).1 (ag_Fk (ag_YF hb)).2 (Nat.le_of_ble_eq_true rfl) (ag_Ft5 (ag_YF hb)) rfl ag_fl_X5_58 dX5_want_19 ?_
    refine ev_iload_n (pc := 22) (i := 1) 1 dX5_want_22 rfl rfl ?_
    refine ev_iald (pc := 23) (ag_Fa5 (ag_YF hb)).1 (ag_Fa5 (ag_YF hb)).2 dX5_want_23 ?_
    refine ev_iconst (pc := 24) (v := (-1)) dX5_want_24 (by decide) ?_
    refine ev_ixor (pc := 25) dX5_want_25 ?_
    refine ev_iand (pc := 26) dX5_want_26 ?_
    refine ev_ior (pc := 27) dX5_want_27 ?_
    refine ev_iast (pc := 28) (ag_Ya17 hb).1 (ag_Ya17 hb).2 dX5_want_28 ?_
    exact ev_rV rfl dX5_want_29
-- X5_helpfulFor
def mX5_helpfulFor : Md := (RX5, cX5_helpfulFor, 7, some .int, none)
theorem mv_X5_helpfulFor : ag_Mv yX5_helpfulFor mX5_helpfulFor 3 := ⟨ag_co_X5_helpfulFor, ag_im_X5_helpfulFor, ag_se_X5_helpfulFor, ag_ini_X5, by decide +kernel⟩
theorem dX5_helpfulFor_0 : decode mX5_helpfulFor.2.1 0 = .ok (.iconst 0, 1) := by decide +kernel
theorem dX5_helpfulFor_1 : decode mX5_helpfulFor.2.1 1 = .ok (.istore 4, 2) := by decide +kernel
theorem dX5_helpfulFor_3 : decode mX5_helpfulFor.2.1 3 = .ok (.aload_n 0, 1) := by decide +kernel
theorem dX5_helpfulFor_4 : decode mX5_helpfulFor.2.1 4 = .ok (.getfield 48, 3) := by decide +kernel
theorem dX5_helpfulFor_7 : decode mX5_helpfulFor.2.1 7 = .ok (.iconst 0, 1) := by decide +kernel
theorem dX5_helpfulFor_8 : decode mX5_helpfulFor.2.1 8 = .ok (.invokestatic 145, 3) := by decide +kernel
theorem dX5_helpfulFor_11 : decode mX5_helpfulFor.2.1 11 = .ok (.aload_n 0, 1) := by decide +kernel
theorem dX5_helpfulFor_12 : decode mX5_helpfulFor.2.1 12 = .ok (.getfield 48, 3) := by decide +kernel
theorem dX5_helpfulFor_15 : decode mX5_helpfulFor.2.1 15 = .ok (.iload_n 1, 1) := by decide +kernel
theorem dX5_helpfulFor_16 : decode mX5_helpfulFor.2.1 16 = .ok (.iload_n 2, 1) := by decide +kernel
theorem dX5_helpfulFor_17 : decode mX5_helpfulFor.2.1 17 = .ok (.aload_n 0, 1) := by decide +kernel
theorem dX5_helpfulFor_18 : decode mX5_helpfulFor.2.1 18 = .ok (.getfield 12, 3) := by decide +kernel
theorem dX5_helpfulFor_21 : decode mX5_helpfulFor.2.1 21 = .ok (.getfield 58, 3) := by decide +kernel
theorem dX5_helpfulFor_24 : decode mX5_helpfulFor.2.1 24 = .ok (.iload_n 1, 1) := by decide +kernel
theorem dX5_helpfulFor_25 : decode mX5_helpfulFor.2.1 25 = .ok (.iaload, 1) := by decide +kernel
theorem dX5_helpfulFor_26 : decode mX5_helpfulFor.2.1 26 = .ok (.iconst (-1), 1) := by decide +kernel
theorem dX5_helpfulFor_27 : decode mX5_helpfulFor.2.1 27 = .ok (.ixor, 1) := by decide +kernel
theorem dX5_helpfulFor_28 : decode mX5_helpfulFor.2.1 28 = .ok (.iand, 1) := by decide +kernel
theorem dX5_helpfulFor_29 : decode mX5_helpfulFor.2.1 29 = .ok (.iastore, 1) := by decide +kernel
theorem dX5_helpfulFor_30 : decode mX5_helpfulFor.2.1 30 = .ok (.iconst 0, 1) := by decide +kernel
theorem dX5_helpfulFor_31 : decode mX5_helpfulFor.2.1 31 = .ok (.istore 5, 2) := by decide +kernel
theorem dX5_helpfulFor_33 : decode mX5_helpfulFor.2.1 33 = .ok (.iload 5, 2) := by decide +kernel
theorem dX5_helpfulFor_35 : decode mX5_helpfulFor.2.1 35 = .ok (.aload_n 0, 1) := by decide +kernel
theorem dX5_helpfulFor_36 : decode mX5_helpfulFor.2.1 36 = .ok (.getfield 21, 3) := by decide +kernel
theorem dX5_helpfulFor_39 : decode mX5_helpfulFor.2.1 39 = .ok (.getfield 78, 3) := by decide +kernel
theorem dX5_helpfulFor_42 : decode mX5_helpfulFor.2.1 42 = .ok (.if_icmp .ge 116, 3) := by decide +kernel
theorem dX5_helpfulFor_45 : decode mX5_helpfulFor.2.1 45 = .ok (.iconst 0, 1) := by decide +kernel
theorem dX5_helpfulFor_46 : decode mX5_helpfulFor.2.1 46 = .ok (.istore 6, 2) := by decide +kernel
theorem dX5_helpfulFor_48 : decode mX5_helpfulFor.2.1 48 = .ok (.iload 6, 2) := by decide +kernel
theorem dX5_helpfulFor_50 : decode mX5_helpfulFor.2.1 50 = .ok (.aload_n 0, 1) := by decide +kernel
theorem dX5_helpfulFor_51 : decode mX5_helpfulFor.2.1 51 = .ok (.getfield 21, 3) := by decide +kernel
theorem dX5_helpfulFor_54 : decode mX5_helpfulFor.2.1 54 = .ok (.getfield 78, 3) := by decide +kernel
theorem dX5_helpfulFor_57 : decode mX5_helpfulFor.2.1 57 = .ok (.if_icmp .ge 95, 3) := by decide +kernel
theorem dX5_helpfulFor_60 : decode mX5_helpfulFor.2.1 60 = .ok (.iload 4, 2) := by decide +kernel
theorem dX5_helpfulFor_62 : decode mX5_helpfulFor.2.1 62 = .ok (.iload 6, 2) := by decide +kernel
theorem dX5_helpfulFor_64 : decode mX5_helpfulFor.2.1 64 = .ok (.ishr, 1) := by decide +kernel
theorem dX5_helpfulFor_65 : decode mX5_helpfulFor.2.1 65 = .ok (.iconst 1, 1) := by decide +kernel
theorem dX5_helpfulFor_66 : decode mX5_helpfulFor.2.1 66 = .ok (.iand, 1) := by decide +kernel
theorem dX5_helpfulFor_67 : decode mX5_helpfulFor.2.1 67 = .ok (.ifCond .ne 79, 3) := by decide +kernel
theorem dX5_helpfulFor_70 : decode mX5_helpfulFor.2.1 70 = .ok (.aload_n 0, 1) := by decide +kernel
theorem dX5_helpfulFor_71 : decode mX5_helpfulFor.2.1 71 = .ok (.iload 6, 2) := by decide +kernel
theorem dX5_helpfulFor_73 : decode mX5_helpfulFor.2.1 73 = .ok (.invokevirtual 94, 3) := by decide +kernel
theorem dX5_helpfulFor_76 : decode mX5_helpfulFor.2.1 76 = .ok (.iload_n 3, 1) := by decide +kernel
theorem dX5_helpfulFor_77 : decode mX5_helpfulFor.2.1 77 = .ok (.if_icmp .gt 69, 3) := by decide +kernel
theorem dX5_helpfulFor_80 : decode mX5_helpfulFor.2.1 80 = .ok (.aload_n 0, 1) := by decide +kernel
theorem dX5_helpfulFor_81 : decode mX5_helpfulFor.2.1 81 = .ok (.iload 6, 2) := by decide +kernel
theorem dX5_helpfulFor_83 : decode mX5_helpfulFor.2.1 83 = .ok (.invokevirtual 151, 3) := by decide +kernel
theorem dX5_helpfulFor_86 : decode mX5_helpfulFor.2.1 86 = .ok (.ifCond .eq 60, 3) := by decide +kernel
theorem dX5_helpfulFor_89 : decode mX5_helpfulFor.2.1 89 = .ok (.iload 4, 2) := by decide +kernel
theorem dX5_helpfulFor_91 : decode mX5_helpfulFor.2.1 91 = .ok (.iconst 1, 1) := by decide +kernel
theorem dX5_helpfulFor_92 : decode mX5_helpfulFor.2.1 92 = .ok (.iload 6, 2) := by decide +kernel
theorem dX5_helpfulFor_94 : decode mX5_helpfulFor.2.1 94 = .ok (.ishl, 1) := by decide +kernel
theorem dX5_helpfulFor_95 : decode mX5_helpfulFor.2.1 95 = .ok (.ior, 1) := by decide +kernel
theorem dX5_helpfulFor_96 : decode mX5_helpfulFor.2.1 96 = .ok (.istore 4, 2) := by decide +kernel
theorem dX5_helpfulFor_98 : decode mX5_helpfulFor.2.1 98 = .ok (.aload_n 0, 1) := by decide +kernel
theorem dX5_helpfulFor_99 : decode mX5_helpfulFor.2.1 99 = .ok (.aload_n 0, 1) := by decide +kernel
theorem dX5_helpfulFor_100 : decode mX5_helpfulFor.2.1 100 = .ok (.getfield 21, 3) := by decide +kernel
theorem dX5_helpfulFor_103 : decode mX5_helpfulFor.2.1 103 = .ok (.getfield 84, 3) := by decide +kernel
theorem dX5_helpfulFor_106 : decode mX5_helpfulFor.2.1 106 = .ok (.iload 6, 2) := by decide +kernel
theorem dX5_helpfulFor_108 : decode mX5_helpfulFor.2.1 108 = .ok (.iaload, 1) := by decide +kernel
theorem dX5_helpfulFor_109 : decode mX5_helpfulFor.2.1 109 = .ok (.aload_n 0, 1) := by decide +kernel
theorem dX5_helpfulFor_110 : decode mX5_helpfulFor.2.1 110 = .ok (.getfield 21, 3) := by decide +kernel
theorem dX5_helpfulFor_113 : decode mX5_helpfulFor.2.1 113 = .ok (.getfield 91, 3) := by decide +kernel
theorem dX5_helpfulFor_116 : decode mX5_helpfulFor.2.1 116 = .ok (.iload 6, 2) := by decide +kernel
theorem dX5_helpfulFor_118 : decode mX5_helpfulFor.2.1 118 = .ok (.iaload, 1) := by decide +kernel
theorem dX5_helpfulFor_119 : decode mX5_helpfulFor.2.1 119 = .ok (.invokevirtual 154, 3) := by decide +kernel
theorem dX5_helpfulFor_122 : decode mX5_helpfulFor.2.1 122 = .ok (.aload_n 0, 1) := by decide +kernel
theorem dX5_helpfulFor_123 : decode mX5_helpfulFor.2.1 123 = .ok (.aload_n 0, 1) := by decide +kernel
theorem dX5_helpfulFor_124 : decode mX5_helpfulFor.2.1 124 = .ok (.getfield 21, 3) := by decide +kernel
theorem dX5_helpfulFor_127 : decode mX5_helpfulFor.2.1 127 = .ok (.getfield 101, 3) := by decide +kernel
theorem dX5_helpfulFor_130 : decode mX5_helpfulFor.2.1 130 = .ok (.iload 6, 2) := by decide +kernel
theorem dX5_helpfulFor_132 : decode mX5_helpfulFor.2.1 132 = .ok (.iaload, 1) := by decide +kernel
theorem dX5_helpfulFor_133 : decode mX5_helpfulFor.2.1 133 = .ok (.aload_n 0, 1) := by decide +kernel
theorem dX5_helpfulFor_134 : decode mX5_helpfulFor.2.1 134 = .ok (.getfield 21, 3) := by decide +kernel
theorem dX5_helpfulFor_137 : decode mX5_helpfulFor.2.1 137 = .ok (.getfield 121, 3) := by decide +kernel
theorem dX5_helpfulFor_140 : decode mX5_helpfulFor.2.1 140 = .ok (.iload 6, 2) := by decide +kernel
theorem dX5_helpfulFor_142 : decode mX5_helpfulFor.2.1 142 = .ok (.iaload, 1) := by decide +kernel
theorem dX5_helpfulFor_143 : decode mX5_helpfulFor.2.1 143 = .ok (.invokevirtual 154, 3) := by decide +kernel
theorem dX5_helpfulFor_146 : decode mX5_helpfulFor.2.1 146 = .ok (.iinc 6 1, 3) := by decide +kernel
theorem dX5_helpfulFor_149 : decode mX5_helpfulFor.2.1 149 = .ok (.goto (-101), 3) := by decide +kernel
theorem dX5_helpfulFor_152 : decode mX5_helpfulFor.2.1 152 = .ok (.iinc 5 1, 3) := by decide +kernel
theorem dX5_helpfulFor_155 : decode mX5_helpfulFor.2.1 155 = .ok (.goto (-122), 3) := by decide +kernel
theorem dX5_helpfulFor_158 : decode mX5_helpfulFor.2.1 158 = .ok (.iload 4, 2) := by decide +kernel
theorem dX5_helpfulFor_160 : decode mX5_helpfulFor.2.1 160 = .ok (.ireturn, 1) := by decide +kernel
def fn_X5_helpfulFor_b146 (n : Nat) (b : Nat) (x1 : Int32) (x2 : Int32) (x3 : Int32) (k33 : Int32 → Int32 → Sg → Option (Int32 × Sg)) (k48 : Int32 → Int32 → Int32 → Sg → Option (Int32 × Sg)) (v4 : Int32) (v5 : Int32) (v6 : Int32) (σ : Sg) : Option (Int32 × Sg) :=
  (k48 v4 v5 (v6 + 1) σ)
set_option maxRecDepth 20000 in
set_option maxHeartbeats 4000000 in
theorem ev_X5_helpfulFor_b146 (n : Nat) (b : Nat) (hb : ag_Y b) (x1 : Int32) (x2 : Int32) (x3 : Int32) (k33 : Int32 → Int32 → Sg → Option (Int32 × Sg)) (hk33 : ∀ (v4 : Int32) (v5 : Int32) (σ : Sg), Ev mX5_helpfulFor 2 48 jW 33 [(0, .ref b), (1, .int x1), (2, .int x2), (3, .int x3), (4, .int v4), (5, .int v5)] [] σ (k33 v4 v5 σ)) (k48 : Int32 → Int32 → Int32 → Sg → Option (Int32 × Sg)) (hk48 : ∀ (v4 : Int32) (v5 : Int32) (v6 : Int32) (σ : Sg), Ev mX5_helpfulFor 2 48 jW 48 [(0, .ref b), (1, .int x1), (2, .int x2), (3, .int x3), (4, .int v4), (5, .int v5), (6, .int v6)] [] σ (k48 v4 v5 v6 σ)) (v4 : Int32) (v5 : Int32) (v6 : Int32) (σ : Sg) : Ev mX5_helpfulFor 2 48 jW 146 [(0, .ref b), (1, .int x1), (2, .int x2), (3, .int x3), (4, .int v4), (5, .int v5), (6, .int v6)] [] σ (fn_X5_helpfulFor_b146 n b x1 x2 x3 k33 k48 v4 v5 v6 σ) := by
  unfold fn_X5_helpfulFor_b146
  refine ev_iinc (pc := 146) (v := (v6 + 1)) (lv' := [(6, .int (v6 + 1)), (0, .ref b), (1, .int x1), (2, .int x2), (3, .int x3), (4, .int v4), (5, .int v5)]) 6 dX5_helpfulFor_146 rfl rfl (Nat.le_of_ble_eq_true rfl) rfl ?_
  refine ev_goto (pc := 149) (tgt := 48) dX5_helpfulFor_149 rfl ?_
  refine ev_sub [1, 2, 3, 4, 5, 6, 0] rfl ?_
  exact hk48 v4 v5 (v6 + 1) σ
def fn_X5_helpfulFor_b48 (n : Nat) (b : Nat) (x1 : Int32) (x2 : Int32) (x3 : Int32) (k33 : Int32 → Int32 → Sg → Option (Int32 × Sg)) : Nat → Int32 → Int32 → Int32 → Sg → Option (Int32 × Sg)
  | 0 => fun _ _ _ _ => none
  | i + 1 => fun v4 v5 v6 σ =>
  (if (σ (b + 7) 0) ≤ v6 then (k33 v4 (v5 + 1) σ)
  else (if ((v4 >>> (v6 &&& 31)) &&& 1) = 0 then (Option.bind (fn_X5_dueYear b v6 σ) fun q54 =>
  (if x3 < q54 then (fn_X5_helpfulFor_b146 n b x1 x2 x3 k33 (fn_X5_helpfulFor_b48 n b x1 x2 x3 k33 i) v4 v5 v6 σ)
  else (Option.bind (fn_X5_bringsWanted n b v6 σ) fun q55 =>
  (if q55 = 0 then (fn_X5_helpfulFor_b146 n b x1 x2 x3 k33 (fn_X5_helpfulFor_b48 n b x1 x2 x3 k33 i) v4 v5 v6 σ)
  else (if ag_ib v6 13 = true then (if ag_ib v6 13 = true then (Option.bind (fn_X5_want b (σ (b + 8) v6.toNatClampNeg) (σ (b + 11) v6.toNatClampNeg) σ) fun q56 =>
  (if ag_ib v6 13 = true then (if ag_ib v6 13 = true then (Option.bind (fn_X5_want b (q56 (b + 9) v6.toNatClampNeg) (q56 (b + 12) v6.toNatClampNeg) q56) fun q57 =>
  (fn_X5_helpfulFor_b146 n b x1 x2 x3 k33 (fn_X5_helpfulFor_b48 n b x1 x2 x3 k33 i) (v4 ||| (1 <<< (v6 &&& 31))) v5 v6 q57)) else none) else none)) else none) else none)))))
  else (fn_X5_helpfulFor_b146 n b x1 x2 x3 k33 (fn_X5_helpfulFor_b48 n b x1 x2 x3 k33 i) v4 v5 v6 σ)))
theorem fn_X5_helpfulFor_b48_s (n : Nat) (b : Nat) (x1 : Int32) (x2 : Int32) (x3 : Int32) (k33 : Int32 → Int32 → Sg → Option (Int32 × Sg)) (i : Nat) (v4 : Int32) (v5 : Int32) (v6 : Int32) (σ : Sg) : fn_X5_helpfulFor_b48 n b x1 x2 x3 k33 (i + 1) v4 v5 v6 σ =
  (if (σ (b + 7) 0) ≤ v6 then (k33 v4 (v5 + 1) σ)
  else (if ((v4 >>> (v6 &&& 31)) &&& 1) = 0 then (Option.bind (fn_X5_dueYear b v6 σ) fun q54 =>
  (if x3 < q54 then (fn_X5_helpfulFor_b146 n b x1 x2 x3 k33 (fn_X5_helpfulFor_b48 n b x1 x2 x3 k33 i) v4 v5 v6 σ)
  else (Option.bind (fn_X5_bringsWanted n b v6 σ) fun q55 =>
  (if q55 = 0 then (fn_X5_helpfulFor_b146 n b x1 x2 x3 k33 (fn_X5_helpfulFor_b48 n b x1 x2 x3 k33 i) v4 v5 v6 σ)
  else (if ag_ib v6 13 = true then (if ag_ib v6 13 = true then (Option.bind (fn_X5_want b (σ (b + 8) v6.toNatClampNeg) (σ (b + 11) v6.toNatClampNeg) σ) fun q56 =>
  (if ag_ib v6 13 = true then (if ag_ib v6 13 = true then (Option.bind (fn_X5_want b (q56 (b + 9) v6.toNatClampNeg) (q56 (b + 12) v6.toNatClampNeg) q56) fun q57 =>
  (fn_X5_helpfulFor_b146 n b x1 x2 x3 k33 (fn_X5_helpfulFor_b48 n b x1 x2 x3 k33 i) (v4 ||| (1 <<< (v6 &&& 31))) v5 v6 q57)) else none) else none)) else none) else none)))))
  else (fn_X5_helpfulFor_b146 n b x1 x2 x3 k33 (fn_X5_helpfulFor_b48 n b x1 x2 x3 k33 i) v4 v5 v6 σ))) := rfl
set_option maxRecDepth 20000 in
set_option maxHeartbeats 4000000 in
theorem ev_X5_helpfulFor_b48 (n : Nat) (b : Nat) (hb : ag_Y b) (x1 : Int32) (x2 : Int32) (x3 : Int32) (k33 : Int32 → Int32 → Sg → Option (Int32 × Sg)) (hk33 : ∀ (v4 : Int32) (v5 : Int32) (σ : Sg), Ev mX5_helpfulFor 2 48 jW 33 [(0, .ref b), (1, .int x1), (2, .int x2), (3, .int x3), (4, .int v4), (5, .int v5)] [] σ (k33 v4 v5 σ)) : ∀ (i : Nat) (v4 : Int32) (v5 : Int32) (v6 : Int32) (σ : Sg), Ev mX5_helpfulFor 2 48 jW 48 [(0, .ref b), (1, .int x1), (2, .int x2), (3, .int x3), (4, .int v4), (5, .int v5), (6, .int v6)] [] σ (fn_X5_helpfulFor_b48 n b x1 x2 x3 k33 i v4 v5 v6 σ) := by
  intro i
  induction i with
  | zero =>
    intro v4 v5 v6 σ
    exact ev_none
  | succ i ih =>
    intro v4 v5 v6 σ
    rw [fn_X5_helpfulFor_b48_s]
    refine ev_iload (pc := 48) 6 dX5_helpfulFor_48 rfl ?_
    refine ev_aload_n (pc := 50) (i := 0) 0 dX5_helpfulFor_50 rfl rfl ?_
    refine ev_getR (pc := 51) (t := (b + 7)) 1 ag_C5 (ag_Yk hb).1 (ag_Yk hb).2 (Nat.le_of_ble_eq_true rfl) (ag_Yt1 hb) rfl ag_fl_X5_21 dX5_helpfulFor_51 ?_
    refine ev_getI (pc := 54) 0 ag_C2 (ag_Pk (ag_YP hb)).1 (ag_Pk (ag_YP hb)).2 (Nat.le_of_ble_eq_true rfl) (ag_Pt0 (ag_YP hb)) rfl ag_fl_X5_78 dX5_helpfulFor_54 ?_
    refine ev_icmp_ge (pc := 57) (tgt := 152) dX5_helpfulFor_57 rfl ?_ ?_
    · refine ev_iinc (pc := 152) (v := (v5 + 1)) (lv' := [(5, .int (v5 + 1)), (0, .ref b), (1, .int x1), (2, .int x2), (3, .int x3), (4, .int v4), (6, .int v6)]) 5 dX5_helpfulFor_152 rfl rfl (Nat.le_of_ble_eq_true rfl) rfl ?_
      refine ev_goto (pc := 155) (tgt := 33) dX5_helpfulFor_155 rfl ?_
      refine ev_sub [1, 2, 3, 4, 5, 0] rfl ?_
      exact hk33 v4 (v5 + 1) σ
    · refine ev_iload (pc := 60) 4 dX5_helpfulFor_60 rfl ?_
      refine ev_iload (pc := 62) 6 dX5_helpfulFor_62 rfl ?_
      refine ev_ishr (pc := 64) dX5_helpfulFor_64 ?_
      refine ev_iconst (pc := 65) (v := 1) dX5_helpfulFor_65 (by decide) ?_
      refine ev_iand (pc := 66) dX5_helpfulFor_66 ?_
      refine ev_if_ne (pc := 67) (tgt := 146) dX5_helpfulFor_67 rfl ?_ ?_
      · refine ev_aload_n (pc := 70) (i := 0) 0 dX5_helpfulFor_70 rfl rfl ?_
        refine ev_iload (pc := 71) 6 dX5_helpfulFor_71 rfl ?_
        refine ev_vI (pc := 73) (as := [.int v6]) (rest := []) ⟨5, 94, 10, TX5, tyX5, ag_C5, ⟨(ag_Yk hb).1, (ag_Yk hb).2⟩, mv_X5_dueYear, ag_ml_X5_94, rfl, (Nat.le_of_ble_eq_true rfl), ⟨(Nat.le_of_ble_eq_true rfl), (Nat.le_of_ble_eq_true rfl)⟩, dX5_helpfulFor_73⟩ (im_X5_dueYear b hb v6 σ) (fun q54 => ?_)
        refine ev_iload_n (pc := 76) (i := 3) 3 dX5_helpfulFor_76 rfl rfl ?_
        refine ev_icmp_gt (pc := 77) (tgt := 146) dX5_helpfulFor_77 rfl ?_ ?_
        · exact ev_X5_helpfulFor_b146 n b hb x1 x2 x3 k33 hk33 (fn_X5_helpfulFor_b48 n b x1 x2 x3 k33 i) ih v4 v5 v6 σ
        · refine ev_aload_n (pc := 80) (i := 0) 0 dX5_helpfulFor_80 rfl rfl ?_
          refine ev_iload (pc := 81) 6 dX5_helpfulFor_81 rfl ?_
          refine ev_vI (pc := 83) (as := [.int v6]) (rest := []) ⟨5, 151, 10, TX5, tyX5, ag_C5, ⟨(ag_Yk hb).1, (ag_Yk hb).2⟩, mv_X5_bringsWanted, ag_ml_X5_151, rfl, (Nat.le_of_ble_eq_true rfl), ⟨(Nat.le_of_ble_eq_true rfl), (Nat.le_of_ble_eq_true rfl)⟩, dX5_helpfulFor_83⟩ (im_X5_bringsWanted n b hb v6 σ) (fun q55 => ?_)
          refine ev_if_eq (pc := 86) (tgt := 146) dX5_helpfulFor_86 rfl ?_ ?_
          · exact ev_X5_helpfulFor_b146 n b hb x1 x2 x3 k33 hk33 (fn_X5_helpfulFor_b48 n b x1 x2 x3 k33 i) ih v4 v5 v6 σ
          · refine ev_iload (pc := 89) 4 dX5_helpfulFor_89 rfl ?_
            refine ev_iconst (pc := 91) (v := 1) dX5_helpfulFor_91 (by decide) ?_
            refine ev_iload (pc := 92) 6 dX5_helpfulFor_92 rfl ?_
            refine ev_ishl (pc := 94) dX5_helpfulFor_94 ?_
            refine ev_ior (pc := 95) dX5_helpfulFor_95 ?_
            refine ev_istore (pc := 96) (lv' := [(4, .int (v4 ||| (1 <<< (v6 &&& 31)))), (0, .ref b), (1, .int x1), (2, .int x2), (3, .int x3), (5, .int v5), (6, .int v6)]) dX5_helpfulFor_96 (Nat.le_of_ble_eq_true rfl) rfl ?_
            refine ev_aload_n (pc := 98) (i := 0) 1 dX5_helpfulFor_98 rfl rfl ?_
            refine ev_aload_n (pc := 99) (i := 0) 1 dX5_helpfulFor_99 rfl rfl ?_
            refine ev_getR (pc := 100) (t := (b + 7)) 1 ag_C5 (ag_Yk hb).1 (ag_Yk hb).2 (Nat.le_of_ble_eq_true rfl) (ag_Yt1 hb) rfl ag_fl_X5_21 dX5_helpfulFor_100 ?_
            refine ev_getR (pc := 103) (t := (b + 8)) 1 ag_C2 (ag_Pk (ag_YP hb)).1 (ag_Pk (ag_YP hb)).2 (Nat.le_of_ble_eq_true rfl) (ag_Pt1 (ag_YP hb)) rfl ag_fl_X5_84 dX5_helpfulFor_103 ?_
            refine ev_iload (pc := 106) 6 dX5_helpfulFor_106 rfl ?_
            refine ev_iald (pc := 108) (ag_Pa1 (ag_YP hb)).1 (ag_Pa1 (ag_YP hb)).2 dX5_helpfulFor_108 ?_
            refine ev_aload_n (pc := 109) (i := 0) 1 dX5_helpfulFor_109 rfl rfl ?_
            refine ev_getR (pc := 110) (t := (b + 7)) 1 ag_C5 (ag_Yk hb).1 (ag_Yk hb).2 (Nat.le_of_ble_eq_true rfl) (ag_Yt1 hb) rfl ag_fl_X5_21 dX5_helpfulFor_110 ?_
            refine ev_getR (pc := 113) (t := (b + 11)) 4 ag_C2 (ag_Pk (ag_YP hb)).1 (ag_Pk (ag_YP hb)).2 (Nat.le_of_ble_eq_true rfl) (ag_Pt4 (ag_YP hb)) rfl ag_fl_X5_91 dX5_helpfulFor_113 ?_
            refine ev_iload (pc := 116) 6 dX5_helpfulFor_116 rfl ?_
            refine ev_iald (pc := 118) (ag_Pa4 (ag_YP hb)).1 (ag_Pa4 (ag_YP hb)).2 dX5_helpfulFor_118 ?_
            refine ev_vV (pc := 119) (as := [.int (σ (b + 8) v6.toNatClampNeg), .int (σ (b + 11) v6.toNatClampNeg)]) (rest := []) ⟨5, 154, 10, TX5, tyX5, ag_C5, ⟨(ag_Yk hb).1, (ag_Yk hb).2⟩, mv_X5_want, ag_ml_X5_154, rfl, (Nat.le_of_ble_eq_true rfl), ⟨(Nat.le_of_ble_eq_true rfl), (Nat.le_of_ble_eq_true rfl)⟩, dX5_helpfulFor_119⟩ (im_X5_want b hb (σ (b + 8) v6.toNatClampNeg) (σ (b + 11) v6.toNatClampNeg) σ) (fun q56 => ?_)
            refine ev_aload_n (pc := 122) (i := 0) 1 dX5_helpfulFor_122 rfl rfl ?_
            refine ev_aload_n (pc := 123) (i := 0) 1 dX5_helpfulFor_123 rfl rfl ?_
            refine ev_getR (pc := 124) (t := (b + 7)) 1 ag_C5 (ag_Yk hb).1 (ag_Yk hb).2 (Nat.le_of_ble_eq_true rfl) (ag_Yt1 hb) rfl ag_fl_X5_21 dX5_helpfulFor_124 ?_
            refine ev_getR (pc := 127) (t := (b + 9)) 2 ag_C2 (ag_Pk (ag_YP hb)).1 (ag_Pk (ag_YP hb)).2 (Nat.le_of_ble_eq_true rfl) (ag_Pt2 (ag_YP hb)) rfl ag_fl_X5_101 dX5_helpfulFor_127 ?_
            refine ev_iload (pc := 130) 6 dX5_helpfulFor_130 rfl ?_
            refine ev_iald (pc := 132) (ag_Pa2 (ag_YP hb)).1 (ag_Pa2 (ag_YP hb)).2 dX5_helpfulFor_132 ?_
            refine ev_aload_n (pc := 133) (i := 0) 1 dX5_helpfulFor_133 rfl rfl ?_
            refine ev_getR (pc := 134) (t := (b + 7)) 1 ag_C5 (ag_Yk hb).1 (ag_Yk hb).2 (Nat.le_of_ble_eq_true rfl) (ag_Yt1 hb) rfl ag_fl_X5_21 dX5_helpfulFor_134 ?_
            refine ev_getR (pc := 137) (t := (b + 12)) 5 ag_C2 (ag_Pk (ag_YP hb)).1 (ag_Pk (ag_YP hb)).2 (Nat.le_of_ble_eq_true rfl) (ag_Pt5 (ag_YP hb)) rfl ag_fl_X5_121 dX5_helpfulFor_137 ?_
            refine ev_iload (pc := 140) 6 dX5_helpfulFor_140 rfl ?_
            refine ev_iald (pc := 142) (ag_Pa5 (ag_YP hb)).1 (ag_Pa5 (ag_YP hb)).2 dX5_helpfulFor_142 ?_
            refine ev_vV (pc := 143) (as := [.int (q56 (b + 9) v6.toNatClampNeg), .int (q56 (b + 12) v6.toNatClampNeg)]) (rest := []) ⟨5, 154, 10, TX5, tyX5, ag_C5, ⟨(ag_Yk hb).1, (ag_Yk hb).2⟩, mv_X5_want, ag_ml_X5_154, rfl, (Nat.le_of_ble_eq_true rfl), ⟨(Nat.le_of_ble_eq_true rfl), (Nat.le_of_ble_eq_true rfl)⟩, dX5_helpfulFor_143⟩ (im_X5_want b hb (q56 (b + 9) v6.toNatClampNeg) (q56 (b + 12) v6.toNatClampNeg) q56) (fun q57 => ?_)
            refine ev_sub [1, 2, 3, 4, 0, 5, 6] rfl ?_
            exact ev_X5_helpfulFor_b146 n b hb x1 x2 x3 k33 hk33 (fn_X5_helpfulFor_b48 n b x1 x2 x3 k33 i) ih (v4 ||| (1 <<< (v6 &&& 31))) v5 v6 q57
      · exact ev_X5_helpfulFor_b146 n b hb x1 x2 x3 k33 hk33 (fn_X5_helpfulFor_b48 n b x1 x2 x3 k33 i) ih v4 v5 v6 σ
def fn_X5_helpfulFor_b33 (n : Nat) (b : Nat) (x1 : Int32) (x2 : Int32) (x3 : Int32)  : Nat → Int32 → Int32 → Sg → Option (Int32 × Sg)
  | 0 => fun _ _ _ => none
  | i + 1 => fun v4 v5 σ =>
  (if (σ (b + 7) 0) ≤ v5 then (some (v4, σ))
  else (fn_X5_helpfulFor_b48 n b x1 x2 x3 (fn_X5_helpfulFor_b33 n b x1 x2 x3 i) n v4 v5 0 σ))
theorem fn_X5_helpfulFor_b33_s (n : Nat) (b : Nat) (x1 : Int32) (x2 : Int32) (x3 : Int32)  (i : Nat) (v4 : Int32) (v5 : Int32) (σ : Sg) : fn_X5_helpfulFor_b33 n b x1 x2 x3 (i + 1) v4 v5 σ =
  (if (σ (b + 7) 0) ≤ v5 then (some (v4, σ))
  else (fn_X5_helpfulFor_b48 n b x1 x2 x3 (fn_X5_helpfulFor_b33 n b x1 x2 x3 i) n v4 v5 0 σ)) := rfl
set_option maxRecDepth 20000 in
set_option maxHeartbeats 4000000 in
theorem ev_X5_helpfulFor_b33 (n : Nat) (b : Nat) (hb : ag_Y b) (x1 : Int32) (x2 : Int32) (x3 : Int32)  : ∀ (i : Nat) (v4 : Int32) (v5 : Int32) (σ : Sg), Ev mX5_helpfulFor 2 48 jW 33 [(0, .ref b), (1, .int x1), (2, .int x2), (3, .int x3), (4, .int v4), (5, .int v5)] [] σ (fn_X5_helpfulFor_b33 n b x1 x2 x3 i v4 v5 σ) := by
  intro i
  induction i with
  | zero =>
    intro v4 v5 σ
    exact ev_none
  | succ i ih =>
    intro v4 v5 σ
    rw [fn_X5_helpfulFor_b33_s]
    refine ev_iload (pc := 33) 5 dX5_helpfulFor_33 rfl ?_
    refine ev_aload_n (pc := 35) (i := 0) 0 dX5_helpfulFor_35 rfl rfl ?_
    refine ev_getR (pc := 36) (t := (b + 7)) 1 ag_C5 (ag_Yk hb).1 (ag_Yk hb).2 (Nat.le_of_ble_eq_true rfl) (ag_Yt1 hb) rfl ag_fl_X5_21 dX5_helpfulFor_36 ?_
    refine ev_getI (pc := 39) 0 ag_C2 (ag_Pk (ag_YP hb)).1 (ag_Pk (ag_YP hb)).2 (Nat.le_of_ble_eq_true rfl) (ag_Pt0 (ag_YP hb)) rfl ag_fl_X5_78 dX5_helpfulFor_39 ?_
    refine ev_icmp_ge (pc := 42) (tgt := 158) dX5_helpfulFor_42 rfl ?_ ?_
    · refine ev_iload (pc := 158) 4 dX5_helpfulFor_158 rfl ?_
      exact ev_irW rfl dX5_helpfulFor_160
    · refine ev_iconst (pc := 45) (v := 0) dX5_helpfulFor_45 (by decide) ?_
      refine ev_istore (pc := 46) (lv' := [(6, .int 0), (0, .ref b), (1, .int x1), (2, .int x2), (3, .int x3), (4, .int v4), (5, .int v5)]) dX5_helpfulFor_46 (Nat.le_of_ble_eq_true rfl) rfl ?_
      refine ev_sub [1, 2, 3, 4, 5, 6, 0] rfl ?_
      exact ev_X5_helpfulFor_b48 n b hb x1 x2 x3 (fn_X5_helpfulFor_b33 n b x1 x2 x3 i) ih n v4 v5 0 σ
def fn_X5_helpfulFor (n : Nat) (b : Nat) (x1 : Int32) (x2 : Int32) (x3 : Int32) (σ : Sg) : Option (Int32 × Sg) :=
  (Option.bind (fn_J7_fill_53178 n (b + 17) 10 0 σ) fun q58 =>
  (if ag_ib x1 10 = true then (if ag_ib x1 10 = true then (fn_X5_helpfulFor_b33 n b x1 x2 x3 n 0 0 (ag_up q58 (b + 17) x1.toNatClampNeg (x2 &&& ((q58 (b + 6) x1.toNatClampNeg) ^^^ (-1))))) else none) else none))
set_option maxRecDepth 20000 in
set_option maxHeartbeats 4000000 in
theorem im_X5_helpfulFor (n : Nat) (b : Nat) (hb : ag_Y b) (x1 : Int32) (x2 : Int32) (x3 : Int32) (σ : Sg) : Im yX5_helpfulFor mX5_helpfulFor 2 48 jW [.ref b, .int x1, .int x2, .int x3] σ (fn_X5_helpfulFor n b x1 x2 x3 σ) := by
  refine Im.of (by decide +kernel) rfl rfl (Nat.le_of_ble_eq_true rfl) ?_
  show Ev mX5_helpfulFor 2 48 jW 0 [(0, .ref b), (1, .int x1), (2, .int x2), (3, .int x3)] [] σ (fn_X5_helpfulFor n b x1 x2 x3 σ)
  unfold fn_X5_helpfulFor
  refine ev_iconst (pc := 0) (v := 0) dX5_helpfulFor_0 (by decide) ?_
  refine ev_istore (pc := 1) (lv' := [(4, .int 0), (0, .ref b), (1, .int x1), (2, .int x2), (3, .int x3)]) dX5_helpfulFor_1 (Nat.le_of_ble_eq_true rfl) rfl ?_
  refine ev_aload_n (pc := 3) (i := 0) 1 dX5_helpfulFor_3 rfl rfl ?_
  refine ev_getR (pc := 4) (t := (b + 17)) 9 ag_C5 (ag_Yk hb).1 (ag_Yk hb).2 (Nat.le_of_ble_eq_true rfl) (ag_Yt9 hb) rfl ag_fl_X5_48 dX5_helpfulFor_4 ?_
  refine ev_iconst (pc := 7) (v := 0) dX5_helpfulFor_7 (by decide) ?_
  refine ev_sV (pc := 8) (as := [.ref (b + 17), .int 0]) (rest := []) ⟨145, ms_J7_fill_53178, ag_ml_X5_145, rfl, (Nat.le_of_ble_eq_true rfl), ⟨(Nat.le_of_ble_eq_true rfl), (Nat.le_of_ble_eq_true rfl)⟩, dX5_helpfulFor_8⟩ (im_J7_fill_53178 n (b + 17) 10 ⟨(ag_Ya17 hb).1, (ag_Ya17 hb).2⟩ 0 σ) (fun q58 => ?_)
  refine ev_aload_n (pc := 11) (i := 0) 1 dX5_helpfulFor_11 rfl rfl ?_
  refine ev_getR (pc := 12) (t := (b + 17)) 9 ag_C5 (ag_Yk hb).1 (ag_Yk hb).2 (Nat.le_of_ble_eq_true rfl) (ag_Yt9 hb) rfl ag_fl_X5_48 dX5_helpfulFor_12 ?_
  refine ev_iload_n (pc := 15) (i := 1) 2 dX5_helpfulFor_15 rfl rfl ?_
  refine ev_iload_n (pc := 16) (i := 2) 3 dX5_helpfulFor_16 rfl rfl ?_
  refine ev_aload_n (pc := 17) (i := 0) 1 dX5_helpfulFor_17 rfl rfl ?_
  refine ev_getR (pc := 18) (t := (b + 1)) 0 ag_C5 (ag_Yk hb).1 (ag_Yk hb).2 (Nat.le_of_ble_eq_true rfl) (ag_Yt0 hb) rfl ag_fl_X5_12 dX5_helpfulFor_18 ?_
  refine ev_getR (pc := 21) (t := (b + 6)) 5 ag_C1 (ag_Fk (ag_YF hb)).1 (ag_Fk (ag_YF hb)).2 (Nat.le_of_ble_eq_true rfl) (ag_Ft5 (ag_YF hb)) rfl ag_fl_X5_58 dX5_helpfulFor_21 ?_
  refine ev_iload_n (pc := 24) (i := 1) 2 dX5_helpfulFor_24 rfl rfl ?_
  refine ev_iald (pc := 25) (ag_Fa5 (ag_YF hb)).1 (ag_Fa5 (ag_YF hb)).2 dX5_helpfulFor_25 ?_
  refine ev_iconst (pc := 26) (v := (-1)) dX5_helpfulFor_26 (by decide) ?_
  refine ev_ixor (pc := 27) dX5_helpfulFor_27 ?_
  refine ev_iand (pc := 28) dX5_helpfulFor_28 ?_
  refine ev_iast (pc := 29) (ag_Ya17 hb).1 (ag_Ya17 hb).2 dX5_helpfulFor_29 ?_
  refine ev_iconst (pc := 30) (v := 0) dX5_helpfulFor_30 (by decide) ?_
  refine ev_istore (pc := 31) (lv' := [(5, .int 0), (4, .int 0), (0, .ref b), (1, .int x1), (2, .int x2), (3, .int x3)]) dX5_helpfulFor_31 (Nat.le_of_ble_eq_true rfl) rfl ?_
  refine ev_sub [2, 3, 4, 5, 1, 0] rfl ?_
  exact ev_X5_helpfulFor_b33 n b hb x1 x2 x3 n 0 0 (ag_up q58 (b + 17) x1.toNatClampNeg (x2 &&& ((q58 (b + 6) x1.toNatClampNeg) ^^^ (-1))))
-- X5_involvedIn
def mX5_involvedIn : Md := (RX5, cX5_involvedIn, 4, some .int, none)
theorem mv_X5_involvedIn : ag_Mv yX5_involvedIn mX5_involvedIn 1 := ⟨ag_co_X5_involvedIn, ag_im_X5_involvedIn, ag_se_X5_involvedIn, ag_ini_X5, by decide +kernel⟩
theorem dX5_involvedIn_0 : decode mX5_involvedIn.2.1 0 = .ok (.iconst 0, 1) := by decide +kernel
theorem dX5_involvedIn_1 : decode mX5_involvedIn.2.1 1 = .ok (.istore_n 2, 1) := by decide +kernel
theorem dX5_involvedIn_2 : decode mX5_involvedIn.2.1 2 = .ok (.iconst 0, 1) := by decide +kernel
theorem dX5_involvedIn_3 : decode mX5_involvedIn.2.1 3 = .ok (.istore_n 3, 1) := by decide +kernel
theorem dX5_involvedIn_4 : decode mX5_involvedIn.2.1 4 = .ok (.iload_n 3, 1) := by decide +kernel
theorem dX5_involvedIn_5 : decode mX5_involvedIn.2.1 5 = .ok (.aload_n 0, 1) := by decide +kernel
theorem dX5_involvedIn_6 : decode mX5_involvedIn.2.1 6 = .ok (.getfield 21, 3) := by decide +kernel
theorem dX5_involvedIn_9 : decode mX5_involvedIn.2.1 9 = .ok (.getfield 78, 3) := by decide +kernel
theorem dX5_involvedIn_12 : decode mX5_involvedIn.2.1 12 = .ok (.if_icmp .ge 44, 3) := by decide +kernel
theorem dX5_involvedIn_15 : decode mX5_involvedIn.2.1 15 = .ok (.iload_n 1, 1) := by decide +kernel
theorem dX5_involvedIn_16 : decode mX5_involvedIn.2.1 16 = .ok (.iload_n 3, 1) := by decide +kernel
theorem dX5_involvedIn_17 : decode mX5_involvedIn.2.1 17 = .ok (.ishr, 1) := by decide +kernel
theorem dX5_involvedIn_18 : decode mX5_involvedIn.2.1 18 = .ok (.iconst 1, 1) := by decide +kernel
theorem dX5_involvedIn_19 : decode mX5_involvedIn.2.1 19 = .ok (.iand, 1) := by decide +kernel
theorem dX5_involvedIn_20 : decode mX5_involvedIn.2.1 20 = .ok (.iconst 1, 1) := by decide +kernel
theorem dX5_involvedIn_21 : decode mX5_involvedIn.2.1 21 = .ok (.if_icmp .ne 29, 3) := by decide +kernel
theorem dX5_involvedIn_24 : decode mX5_involvedIn.2.1 24 = .ok (.iload_n 2, 1) := by decide +kernel
theorem dX5_involvedIn_25 : decode mX5_involvedIn.2.1 25 = .ok (.iconst 1, 1) := by decide +kernel
theorem dX5_involvedIn_26 : decode mX5_involvedIn.2.1 26 = .ok (.aload_n 0, 1) := by decide +kernel
theorem dX5_involvedIn_27 : decode mX5_involvedIn.2.1 27 = .ok (.getfield 21, 3) := by decide +kernel
theorem dX5_involvedIn_30 : decode mX5_involvedIn.2.1 30 = .ok (.getfield 84, 3) := by decide +kernel
theorem dX5_involvedIn_33 : decode mX5_involvedIn.2.1 33 = .ok (.iload_n 3, 1) := by decide +kernel
theorem dX5_involvedIn_34 : decode mX5_involvedIn.2.1 34 = .ok (.iaload, 1) := by decide +kernel
theorem dX5_involvedIn_35 : decode mX5_involvedIn.2.1 35 = .ok (.ishl, 1) := by decide +kernel
theorem dX5_involvedIn_36 : decode mX5_involvedIn.2.1 36 = .ok (.iconst 1, 1) := by decide +kernel
theorem dX5_involvedIn_37 : decode mX5_involvedIn.2.1 37 = .ok (.aload_n 0, 1) := by decide +kernel
theorem dX5_involvedIn_38 : decode mX5_involvedIn.2.1 38 = .ok (.getfield 21, 3) := by decide +kernel
theorem dX5_involvedIn_41 : decode mX5_involvedIn.2.1 41 = .ok (.getfield 101, 3) := by decide +kernel
theorem dX5_involvedIn_44 : decode mX5_involvedIn.2.1 44 = .ok (.iload_n 3, 1) := by decide +kernel
theorem dX5_involvedIn_45 : decode mX5_involvedIn.2.1 45 = .ok (.iaload, 1) := by decide +kernel
theorem dX5_involvedIn_46 : decode mX5_involvedIn.2.1 46 = .ok (.ishl, 1) := by decide +kernel
theorem dX5_involvedIn_47 : decode mX5_involvedIn.2.1 47 = .ok (.ior, 1) := by decide +kernel
theorem dX5_involvedIn_48 : decode mX5_involvedIn.2.1 48 = .ok (.ior, 1) := by decide +kernel
theorem dX5_involvedIn_49 : decode mX5_involvedIn.2.1 49 = .ok (.istore_n 2, 1) := by decide +kernel
theorem dX5_involvedIn_50 : decode mX5_involvedIn.2.1 50 = .ok (.iinc 3 1, 3) := by decide +kernel
theorem dX5_involvedIn_53 : decode mX5_involvedIn.2.1 53 = .ok (.goto (-49), 3) := by decide +kernel
theorem dX5_involvedIn_56 : decode mX5_involvedIn.2.1 56 = .ok (.iload_n 2, 1) := by decide +kernel
theorem dX5_involvedIn_57 : decode mX5_involvedIn.2.1 57 = .ok (.ireturn, 1) := by decide +kernel
def fn_X5_involvedIn_b50 (n : Nat) (b : Nat) (x1 : Int32) (σ : Sg) (k4 : Int32 → Int32 → Option Int32) (v2 : Int32) (v3 : Int32) : Option Int32 :=
  (k4 v2 (v3 + 1))
set_option maxRecDepth 20000 in
set_option maxHeartbeats 4000000 in
theorem ev_X5_involvedIn_b50 (n : Nat) (b : Nat) (hb : ag_Y b) (x1 : Int32) (σ : Sg) (k4 : Int32 → Int32 → Option Int32) (hk4 : ∀ (v2 : Int32) (v3 : Int32), Ev mX5_involvedIn 0 0 (jI σ) 4 [(0, .ref b), (1, .int x1), (2, .int v2), (3, .int v3)] [] σ (k4 v2 v3)) (v2 : Int32) (v3 : Int32) : Ev mX5_involvedIn 0 0 (jI σ) 50 [(0, .ref b), (1, .int x1), (2, .int v2), (3, .int v3)] [] σ (fn_X5_involvedIn_b50 n b x1 σ k4 v2 v3) := by
  unfold fn_X5_involvedIn_b50
  refine ev_iinc (pc := 50) (v := (v3 + 1)) (lv' := [(3, .int (v3 + 1)), (0, .ref b), (1, .int x1), (2, .int v2)]) 3 dX5_involvedIn_50 rfl rfl (Nat.le_of_ble_eq_true rfl) rfl ?_
  refine ev_goto (pc := 53) (tgt := 4) dX5_involvedIn_53 rfl ?_
  refine ev_sub [1, 2, 3, 0] rfl ?_
  exact hk4 v2 (v3 + 1)
def fn_X5_involvedIn_b4 (n : Nat) (b : Nat) (x1 : Int32) (σ : Sg)  : Nat → Int32 → Int32 → Option Int32
  | 0 => fun _ _ => none
  | i + 1 => fun v2 v3 =>
  (if (σ (b + 7) 0) ≤ v3 then (some v2)
  else (if ((x1 >>> (v3 &&& 31)) &&& 1) = 1 then (if ag_ib v3 13 = true then (if ag_ib v3 13 = true then (fn_X5_involvedIn_b50 n b x1 σ (fn_X5_involvedIn_b4 n b x1 σ i) (v2 ||| ((1 <<< ((σ (b + 8) v3.toNatClampNeg) &&& 31)) ||| (1 <<< ((σ (b + 9) v3.toNatClampNeg) &&& 31)))) v3) else none) else none)
  else (fn_X5_involvedIn_b50 n b x1 σ (fn_X5_involvedIn_b4 n b x1 σ i) v2 v3)))
theorem fn_X5_involvedIn_b4_s (n : Nat) (b : Nat) (x1 : Int32) (σ : Sg)  (i : Nat) (v2 : Int32) (v3 : Int32) : fn_X5_involvedIn_b4 n b x1 σ (i + 1) v2 v3 =
  (if (σ (b + 7) 0) ≤ v3 then (some v2)
  else (if ((x1 >>> (v3 &&& 31)) &&& 1) = 1 then (if ag_ib v3 13 = true then (if ag_ib v3 13 = true then (fn_X5_involvedIn_b50 n b x1 σ (fn_X5_involvedIn_b4 n b x1 σ i) (v2 ||| ((1 <<< ((σ (b + 8) v3.toNatClampNeg) &&& 31)) ||| (1 <<< ((σ (b + 9) v3.toNatClampNeg) &&& 31)))) v3) else none) else none)
  else (fn_X5_involvedIn_b50 n b x1 σ (fn_X5_involvedIn_b4 n b x1 σ i) v2 v3))) := rfl
set_option maxRecDepth 20000 in
set_option maxHeartbeats 4000000 in
theorem ev_X5_involvedIn_b4 (n : Nat) (b : Nat) (hb : ag_Y b) (x1 : Int32) (σ : Sg)  : ∀ (i : Nat) (v2 : Int32) (v3 : Int32), Ev mX5_involvedIn 0 0 (jI σ) 4 [(0, .ref b), (1, .int x1), (2, .int v2), (3, .int v3)] [] σ (fn_X5_involvedIn_b4 n b x1 σ i v2 v3) := by
  intro i
  induction i with
  | zero =>
    intro v2 v3
    exact ev_none
  | succ i ih =>
    intro v2 v3
    rw [fn_X5_involvedIn_b4_s]
    refine ev_iload_n (pc := 4) (i := 3) 3 dX5_involvedIn_4 rfl rfl ?_
    refine ev_aload_n (pc := 5) (i := 0) 0 dX5_involvedIn_5 rfl rfl ?_
    refine ev_getR (pc := 6) (t := (b + 7)) 1 ag_C5 (ag_Yk hb).1 (ag_Yk hb).2 (Nat.le_of_ble_eq_true rfl) (ag_Yt1 hb) rfl ag_fl_X5_21 dX5_involvedIn_6 ?_
    refine ev_getI (pc := 9) 0 ag_C2 (ag_Pk (ag_YP hb)).1 (ag_Pk (ag_YP hb)).2 (Nat.le_of_ble_eq_true rfl) (ag_Pt0 (ag_YP hb)) rfl ag_fl_X5_78 dX5_involvedIn_9 ?_
    refine ev_icmp_ge (pc := 12) (tgt := 56) dX5_involvedIn_12 rfl ?_ ?_
    · refine ev_iload_n (pc := 56) (i := 2) 2 dX5_involvedIn_56 rfl rfl ?_
      exact ev_irI rfl dX5_involvedIn_57
    · refine ev_iload_n (pc := 15) (i := 1) 1 dX5_involvedIn_15 rfl rfl ?_
      refine ev_iload_n (pc := 16) (i := 3) 3 dX5_involvedIn_16 rfl rfl ?_
      refine ev_ishr (pc := 17) dX5_involvedIn_17 ?_
      refine ev_iconst (pc := 18) (v := 1) dX5_involvedIn_18 (by decide) ?_
      refine ev_iand (pc := 19) dX5_involvedIn_19 ?_
      refine ev_iconst (pc := 20) (v := 1) dX5_involvedIn_20 (by decide) ?_
      refine ev_icmp_ne (pc := 21) (tgt := 50) dX5_involvedIn_21 rfl ?_ ?_
      · refine ev_iload_n (pc := 24) (i := 2) 2 dX5_involvedIn_24 rfl rfl ?_
        refine ev_iconst (pc := 25) (v := 1) dX5_involvedIn_25 (by decide) ?_
        refine ev_aload_n (pc := 26) (i := 0) 0 dX5_involvedIn_26 rfl rfl ?_
        refine ev_getR (pc := 27) (t := (b + 7)) 1 ag_C5 (ag_Yk hb).1 (ag_Yk hb).2 (Nat.le_of_ble_eq_true rfl) (ag_Yt1 hb) rfl ag_fl_X5_21 dX5_involvedIn_27 ?_
        refine ev_getR (pc := 30) (t := (b + 8)) 1 ag_C2 (ag_Pk (ag_YP hb)).1 (ag_Pk (ag_YP hb)).2 (Nat.le_of_ble_eq_true rfl) (ag_Pt1 (ag_YP hb)) rfl ag_fl_X5_84 dX5_involvedIn_30 ?_
        refine ev_iload_n (pc := 33) (i := 3) 3 dX5_involvedIn_33 rfl rfl ?_
        refine ev_iald (pc := 34) (ag_Pa1 (ag_YP hb)).1 (ag_Pa1 (ag_YP hb)).2 dX5_involvedIn_34 ?_
        refine ev_ishl (pc := 35) dX5_involvedIn_35 ?_
        refine ev_iconst (pc := 36) (v := 1) dX5_involvedIn_36 (by decide) ?_
        refine ev_aload_n (pc := 37) (i := 0) 0 dX5_involvedIn_37 rfl rfl ?_
        refine ev_getR (pc := 38) (t := (b + 7)) 1 ag_C5 (ag_Yk hb).1 (ag_Yk hb).2 (Nat.le_of_ble_eq_true rfl) (ag_Yt1 hb) rfl ag_fl_X5_21 dX5_involvedIn_38 ?_
        refine ev_getR (pc := 41) (t := (b + 9)) 2 ag_C2 (ag_Pk (ag_YP hb)).1 (ag_Pk (ag_YP hb)).2 (Nat.le_of_ble_eq_true rfl) (ag_Pt2 (ag_YP hb)) rfl ag_fl_X5_101 dX5_involvedIn_41 ?_
        refine ev_iload_n (pc := 44) (i := 3) 3 dX5_involvedIn_44 rfl rfl ?_
        refine ev_iald (pc := 45) (ag_Pa2 (ag_YP hb)).1 (ag_Pa2 (ag_YP hb)).2 dX5_involvedIn_45 ?_
        refine ev_ishl (pc := 46) dX5_involvedIn_46 ?_
        refine ev_ior (pc := 47) dX5_involvedIn_47 ?_
        refine ev_ior (pc := 48) dX5_involvedIn_48 ?_
        refine ev_istore_n (pc := 49) (i := 2) (lv' := [(2, .int (v2 ||| ((1 <<< ((σ (b + 8) v3.toNatClampNeg) &&& 31)) ||| (1 <<< ((σ (b + 9) v3.toNatClampNeg) &&& 31))))), (0, .ref b), (1, .int x1), (3, .int v3)]) dX5_involvedIn_49 rfl (Nat.le_of_ble_eq_true rfl) rfl ?_
        refine ev_sub [1, 2, 0, 3] rfl ?_
        exact ev_X5_involvedIn_b50 n b hb x1 σ (fn_X5_involvedIn_b4 n b x1 σ i) ih (v2 ||| ((1 <<< ((σ (b + 8) v3.toNatClampNeg) &&& 31)) ||| (1 <<< ((σ (b + 9) v3.toNatClampNeg) &&& 31)))) v3
      · exact ev_X5_involvedIn_b50 n b hb x1 σ (fn_X5_involvedIn_b4 n b x1 σ i) ih v2 v3
def fn_X5_involvedIn (n : Nat) (b : Nat) (x1 : Int32) (σ : Sg) : Option Int32 :=
  (fn_X5_involvedIn_b4 n b x1 σ n 0 0)
set_option maxRecDepth 20000 in
set_option maxHeartbeats 4000000 in
theorem im_X5_involvedIn (n : Nat) (b : Nat) (hb : ag_Y b) (x1 : Int32) (σ : Sg) : Im yX5_involvedIn mX5_involvedIn 0 0 (jI σ) [.ref b, .int x1] σ (fn_X5_involvedIn n b x1 σ) := by
  refine Im.of (by decide +kernel) rfl rfl (Nat.le_of_ble_eq_true rfl) ?_
  show Ev mX5_involvedIn 0 0 (jI σ) 0 [(0, .ref b), (1, .int x1)] [] σ (fn_X5_involvedIn n b x1 σ)
  unfold fn_X5_involvedIn
  refine ev_iconst (pc := 0) (v := 0) dX5_involvedIn_0 (by decide) ?_
  refine ev_istore_n (pc := 1) (i := 2) (lv' := [(2, .int 0), (0, .ref b), (1, .int x1)]) dX5_involvedIn_1 rfl (Nat.le_of_ble_eq_true rfl) rfl ?_
  refine ev_iconst (pc := 2) (v := 0) dX5_involvedIn_2 (by decide) ?_
  refine ev_istore_n (pc := 3) (i := 3) (lv' := [(3, .int 0), (2, .int 0), (0, .ref b), (1, .int x1)]) dX5_involvedIn_3 rfl (Nat.le_of_ble_eq_true rfl) rfl ?_
  refine ev_sub [2, 3, 1, 0] rfl ?_
  exact ev_X5_involvedIn_b4 n b hb x1 σ n 0 0
-- X5_couldWrite
def mX5_couldWrite : Md := (RX5, cX5_couldWrite, 4, some .boolean, none)
theorem mv_X5_couldWrite : ag_Mv yX5_couldWrite mX5_couldWrite 3 := ⟨ag_co_X5_couldWrite, ag_im_X5_couldWrite, ag_se_X5_couldWrite, ag_ini_X5, by decide +kernel⟩
theorem dX5_couldWrite_0 : decode mX5_couldWrite.2.1 0 = .ok (.aload_n 0, 1) := by decide +kernel
theorem dX5_couldWrite_1 : decode mX5_couldWrite.2.1 1 = .ok (.getfield 12, 3) := by decide +kernel
theorem dX5_couldWrite_4 : decode mX5_couldWrite.2.1 4 = .ok (.iload_n 1, 1) := by decide +kernel
theorem dX5_couldWrite_5 : decode mX5_couldWrite.2.1 5 = .ok (.iload_n 3, 1) := by decide +kernel
theorem dX5_couldWrite_6 : decode mX5_couldWrite.2.1 6 = .ok (.invokevirtual 87, 3) := by decide +kernel
theorem dX5_couldWrite_9 : decode mX5_couldWrite.2.1 9 = .ok (.ifCond .eq 16, 3) := by decide +kernel
theorem dX5_couldWrite_12 : decode mX5_couldWrite.2.1 12 = .ok (.aload_n 0, 1) := by decide +kernel
theorem dX5_couldWrite_13 : decode mX5_couldWrite.2.1 13 = .ok (.getfield 42, 3) := by decide +kernel
theorem dX5_couldWrite_16 : decode mX5_couldWrite.2.1 16 = .ok (.iload_n 1, 1) := by decide +kernel
theorem dX5_couldWrite_17 : decode mX5_couldWrite.2.1 17 = .ok (.iaload, 1) := by decide +kernel
theorem dX5_couldWrite_18 : decode mX5_couldWrite.2.1 18 = .ok (.iload_n 2, 1) := by decide +kernel
theorem dX5_couldWrite_19 : decode mX5_couldWrite.2.1 19 = .ok (.ishr, 1) := by decide +kernel
theorem dX5_couldWrite_20 : decode mX5_couldWrite.2.1 20 = .ok (.iconst 1, 1) := by decide +kernel
theorem dX5_couldWrite_21 : decode mX5_couldWrite.2.1 21 = .ok (.iand, 1) := by decide +kernel
theorem dX5_couldWrite_22 : decode mX5_couldWrite.2.1 22 = .ok (.ifCond .ne 5, 3) := by decide +kernel
theorem dX5_couldWrite_25 : decode mX5_couldWrite.2.1 25 = .ok (.iconst 0, 1) := by decide +kernel
theorem dX5_couldWrite_26 : decode mX5_couldWrite.2.1 26 = .ok (.ireturn, 1) := by decide +kernel
theorem dX5_couldWrite_27 : decode mX5_couldWrite.2.1 27 = .ok (.aload_n 0, 1) := by decide +kernel
theorem dX5_couldWrite_28 : decode mX5_couldWrite.2.1 28 = .ok (.getfield 12, 3) := by decide +kernel
theorem dX5_couldWrite_31 : decode mX5_couldWrite.2.1 31 = .ok (.getfield 58, 3) := by decide +kernel
theorem dX5_couldWrite_34 : decode mX5_couldWrite.2.1 34 = .ok (.iload_n 1, 1) := by decide +kernel
theorem dX5_couldWrite_35 : decode mX5_couldWrite.2.1 35 = .ok (.iaload, 1) := by decide +kernel
theorem dX5_couldWrite_36 : decode mX5_couldWrite.2.1 36 = .ok (.iload_n 2, 1) := by decide +kernel
theorem dX5_couldWrite_37 : decode mX5_couldWrite.2.1 37 = .ok (.ishr, 1) := by decide +kernel
theorem dX5_couldWrite_38 : decode mX5_couldWrite.2.1 38 = .ok (.iconst 1, 1) := by decide +kernel
theorem dX5_couldWrite_39 : decode mX5_couldWrite.2.1 39 = .ok (.iand, 1) := by decide +kernel
theorem dX5_couldWrite_40 : decode mX5_couldWrite.2.1 40 = .ok (.iconst 1, 1) := by decide +kernel
theorem dX5_couldWrite_41 : decode mX5_couldWrite.2.1 41 = .ok (.if_icmp .eq 18, 3) := by decide +kernel
theorem dX5_couldWrite_44 : decode mX5_couldWrite.2.1 44 = .ok (.aload_n 0, 1) := by decide +kernel
theorem dX5_couldWrite_45 : decode mX5_couldWrite.2.1 45 = .ok (.getfield 45, 3) := by decide +kernel
theorem dX5_couldWrite_48 : decode mX5_couldWrite.2.1 48 = .ok (.iload_n 1, 1) := by decide +kernel
theorem dX5_couldWrite_49 : decode mX5_couldWrite.2.1 49 = .ok (.bipush 8, 2) := by decide +kernel
theorem dX5_couldWrite_51 : decode mX5_couldWrite.2.1 51 = .ok (.imul, 1) := by decide +kernel
theorem dX5_couldWrite_52 : decode mX5_couldWrite.2.1 52 = .ok (.iload_n 2, 1) := by decide +kernel
theorem dX5_couldWrite_53 : decode mX5_couldWrite.2.1 53 = .ok (.iadd, 1) := by decide +kernel
theorem dX5_couldWrite_54 : decode mX5_couldWrite.2.1 54 = .ok (.iaload, 1) := by decide +kernel
theorem dX5_couldWrite_55 : decode mX5_couldWrite.2.1 55 = .ok (.iload_n 3, 1) := by decide +kernel
theorem dX5_couldWrite_56 : decode mX5_couldWrite.2.1 56 = .ok (.if_icmp .ge 7, 3) := by decide +kernel
theorem dX5_couldWrite_59 : decode mX5_couldWrite.2.1 59 = .ok (.iconst 1, 1) := by decide +kernel
theorem dX5_couldWrite_60 : decode mX5_couldWrite.2.1 60 = .ok (.goto 4, 3) := by decide +kernel
theorem dX5_couldWrite_63 : decode mX5_couldWrite.2.1 63 = .ok (.iconst 0, 1) := by decide +kernel
theorem dX5_couldWrite_64 : decode mX5_couldWrite.2.1 64 = .ok (.ireturn, 1) := by decide +kernel
def fn_X5_couldWrite_b59 (b : Nat) (x1 : Int32) (x2 : Int32) (x3 : Int32) (σ : Sg)   : Option Int32 :=
  (some 1)
set_option maxRecDepth 20000 in
set_option maxHeartbeats 4000000 in
theorem ev_X5_couldWrite_b59 (b : Nat) (hb : ag_Y b) (x1 : Int32) (x2 : Int32) (x3 : Int32) (σ : Sg)   : Ev mX5_couldWrite 1 22 (jI σ) 59 [(0, .ref b), (1, .int x1), (2, .int x2), (3, .int x3)] [] σ (fn_X5_couldWrite_b59 b x1 x2 x3 σ ) := by
  unfold fn_X5_couldWrite_b59
  refine ev_iconst (pc := 59) (v := 1) dX5_couldWrite_59 (by decide) ?_
  refine ev_goto (pc := 60) (tgt := 64) dX5_couldWrite_60 rfl ?_
  exact ev_brI rfl rfl dX5_couldWrite_64
def fn_X5_couldWrite (b : Nat) (x1 : Int32) (x2 : Int32) (x3 : Int32) (σ : Sg) : Option Int32 :=
  (Option.bind (fn_X1_lives (b + 1) x1 x3 σ) fun q59 =>
  (if q59 = 0 then (some 0)
  else (if ag_ib x1 10 = true then (if (((σ (b + 15) x1.toNatClampNeg) >>> (x2 &&& 31)) &&& 1) = 0 then (some 0)
  else (if ag_ib x1 10 = true then (if (((σ (b + 6) x1.toNatClampNeg) >>> (x2 &&& 31)) &&& 1) = 1 then (fn_X5_couldWrite_b59 b x1 x2 x3 σ )
  else (if ag_ib ((x1 * 8) + x2) 80 = true then (if x3 ≤ (σ (b + 16) ((x1 * 8) + x2).toNatClampNeg) then (some 0)
  else (fn_X5_couldWrite_b59 b x1 x2 x3 σ )) else none)) else none)) else none)))
set_option maxRecDepth 20000 in
set_option maxHeartbeats 4000000 in
theorem im_X5_couldWrite (b : Nat) (hb : ag_Y b) (x1 : Int32) (x2 : Int32) (x3 : Int32) (σ : Sg) : Im yX5_couldWrite mX5_couldWrite 1 22 (jI σ) [.ref b, .int x1, .int x2, .int x3] σ (fn_X5_couldWrite b x1 x2 x3 σ) := by
  refine Im.of (by decide +kernel) rfl rfl (Nat.le_of_ble_eq_true rfl) ?_
  show Ev mX5_couldWrite 1 22 (jI σ) 0 [(0, .ref b), (1, .int x1), (2, .int x2), (3, .int x3)] [] σ (fn_X5_couldWrite b x1 x2 x3 σ)
  unfold fn_X5_couldWrite
  refine ev_aload_n (pc := 0) (i := 0) 0 dX5_couldWrite_0 rfl rfl ?_
  refine ev_getR (pc := 1) (t := (b + 1)) 0 ag_C5 (ag_Yk hb).1 (ag_Yk hb).2 (Nat.le_of_ble_eq_true rfl) (ag_Yt0 hb) rfl ag_fl_X5_12 dX5_couldWrite_1 ?_
  refine ev_iload_n (pc := 4) (i := 1) 1 dX5_couldWrite_4 rfl rfl ?_
  refine ev_iload_n (pc := 5) (i := 3) 3 dX5_couldWrite_5 rfl rfl ?_
  refine ev_vI (pc := 6) (as := [.int x1, .int x3]) (rest := []) ⟨1, 87, 6, TX1, tyX1, ag_C1, ⟨(ag_Fk (ag_YF hb)).1, (ag_Fk (ag_YF hb)).2⟩, mv_X1_lives, ag_ml_X5_87, rfl, (Nat.le_of_ble_eq_true rfl), ⟨(Nat.le_of_ble_eq_true rfl), (Nat.le_of_ble_eq_true rfl)⟩, dX5_couldWrite_6⟩ (im_X1_lives (b + 1) (ag_YF hb) x1 x3 σ) (fun q59 => ?_)
  refine ev_if_eq (pc := 9) (tgt := 25) dX5_couldWrite_9 rfl ?_ ?_
  · refine ev_iconst (pc := 25) (v := 0) dX5_couldWrite_25 (by decide) ?_
    exact ev_brI rfl rfl dX5_couldWrite_26
  · refine ev_aload_n (pc := 12) (i := 0) 0 dX5_couldWrite_12 rfl rfl ?_
    refine ev_getR (pc := 13) (t := (b + 15)) 7 ag_C5 (ag_Yk hb).1 (ag_Yk hb).2 (Nat.le_of_ble_eq_true rfl) (ag_Yt7 hb) rfl ag_fl_X5_42 dX5_couldWrite_13 ?_
    refine ev_iload_n (pc := 16) (i := 1) 1 dX5_couldWrite_16 rfl rfl ?_
    refine ev_iald (pc := 17) (ag_Ya15 hb).1 (ag_Ya15 hb).2 dX5_couldWrite_17 ?_
    refine ev_iload_n (pc := 18) (i := 2) 2 dX5_couldWrite_18 rfl rfl ?_
    refine ev_ishr (pc := 19) dX5_couldWrite_19 ?_
    refine ev_iconst (pc := 20) (v := 1) dX5_couldWrite_20 (by decide) ?_
    refine ev_iand (pc := 21) dX5_couldWrite_21 ?_
    refine ev_if_ne (pc := 22) (tgt := 27) dX5_couldWrite_22 rfl ?_ ?_
    · refine ev_iconst (pc := 25) (v := 0) dX5_couldWrite_25 (by decide) ?_
      exact ev_brI rfl rfl dX5_couldWrite_26
    · refine ev_aload_n (pc := 27) (i := 0) 0 dX5_couldWrite_27 rfl rfl ?_
      refine ev_getR (pc := 28) (t := (b + 1)) 0 ag_C5 (ag_Yk hb).1 (ag_Yk hb).2 (Nat.le_of_ble_eq_true rfl) (ag_Yt0 hb) rfl ag_fl_X5_12 dX5_couldWrite_28 ?_
      refine ev_getR (pc := 31) (t := (b + 6)) 5 ag_C1 (ag_Fk (ag_YF hb)).1 (ag_Fk (ag_YF hb)).2 (Nat.le_of_ble_eq_true rfl) (ag_Ft5 (ag_YF hb)) rfl ag_fl_X5_58 dX5_couldWrite_31 ?_
      refine ev_iload_n (pc := 34) (i := 1) 1 dX5_couldWrite_34 rfl rfl ?_
      refine ev_iald (pc := 35) (ag_Fa5 (ag_YF hb)).1 (ag_Fa5 (ag_YF hb)).2 dX5_couldWrite_35 ?_
      refine ev_iload_n (pc := 36) (i := 2) 2 dX5_couldWrite_36 rfl rfl ?_
      refine ev_ishr (pc := 37) dX5_couldWrite_37 ?_
      refine ev_iconst (pc := 38) (v := 1) dX5_couldWrite_38 (by decide) ?_
      refine ev_iand (pc := 39) dX5_couldWrite_39 ?_
      refine ev_iconst (pc := 40) (v := 1) dX5_couldWrite_40 (by decide) ?_
      refine ev_icmp_eq (pc := 41) (tgt := 59) dX5_couldWrite_41 rfl ?_ ?_
      · exact ev_X5_couldWrite_b59 b hb x1 x2 x3 σ 
      · refine ev_aload_n (pc := 44) (i := 0) 0 dX5_couldWrite_44 rfl rfl ?_
        refine ev_getR (pc := 45) (t := (b + 16)) 8 ag_C5 (ag_Yk hb).1 (ag_Yk hb).2 (Nat.le_of_ble_eq_true rfl) (ag_Yt8 hb) rfl ag_fl_X5_45 dX5_couldWrite_45 ?_
        refine ev_iload_n (pc := 48) (i := 1) 1 dX5_couldWrite_48 rfl rfl ?_
        refine ev_bipush (pc := 49) (v := 8) dX5_couldWrite_49 (by decide) ?_
        refine ev_imul (pc := 51) dX5_couldWrite_51 ?_
        refine ev_iload_n (pc := 52) (i := 2) 2 dX5_couldWrite_52 rfl rfl ?_
        refine ev_iadd (pc := 53) dX5_couldWrite_53 ?_
        refine ev_iald (pc := 54) (ag_Ya16 hb).1 (ag_Ya16 hb).2 dX5_couldWrite_54 ?_
        refine ev_iload_n (pc := 55) (i := 3) 3 dX5_couldWrite_55 rfl rfl ?_
        refine ev_icmp_ge (pc := 56) (tgt := 63) dX5_couldWrite_56 rfl ?_ ?_
        · refine ev_iconst (pc := 63) (v := 0) dX5_couldWrite_63 (by decide) ?_
          exact ev_brI rfl rfl dX5_couldWrite_64
        · exact ev_X5_couldWrite_b59 b hb x1 x2 x3 σ 
-- X5_openingYear
def mX5_openingYear : Md := (RX5, cX5_openingYear, 2, some .int, none)
theorem mv_X5_openingYear : ag_Mv yX5_openingYear mX5_openingYear 1 := ⟨ag_co_X5_openingYear, ag_im_X5_openingYear, ag_se_X5_openingYear, ag_ini_X5, by decide +kernel⟩
theorem dX5_openingYear_0 : decode mX5_openingYear.2.1 0 = .ok (.aload_n 0, 1) := by decide +kernel
theorem dX5_openingYear_1 : decode mX5_openingYear.2.1 1 = .ok (.getfield 32, 3) := by decide +kernel
theorem dX5_openingYear_4 : decode mX5_openingYear.2.1 4 = .ok (.iload_n 1, 1) := by decide +kernel
theorem dX5_openingYear_5 : decode mX5_openingYear.2.1 5 = .ok (.ishr, 1) := by decide +kernel
theorem dX5_openingYear_6 : decode mX5_openingYear.2.1 6 = .ok (.iconst 1, 1) := by decide +kernel
theorem dX5_openingYear_7 : decode mX5_openingYear.2.1 7 = .ok (.iand, 1) := by decide +kernel
theorem dX5_openingYear_8 : decode mX5_openingYear.2.1 8 = .ok (.iconst 1, 1) := by decide +kernel
theorem dX5_openingYear_9 : decode mX5_openingYear.2.1 9 = .ok (.if_icmp .ne 12, 3) := by decide +kernel
theorem dX5_openingYear_12 : decode mX5_openingYear.2.1 12 = .ok (.aload_n 0, 1) := by decide +kernel
theorem dX5_openingYear_13 : decode mX5_openingYear.2.1 13 = .ok (.getfield 35, 3) := by decide +kernel
theorem dX5_openingYear_16 : decode mX5_openingYear.2.1 16 = .ok (.iload_n 1, 1) := by decide +kernel
theorem dX5_openingYear_17 : decode mX5_openingYear.2.1 17 = .ok (.iaload, 1) := by decide +kernel
theorem dX5_openingYear_18 : decode mX5_openingYear.2.1 18 = .ok (.goto 4, 3) := by decide +kernel
theorem dX5_openingYear_21 : decode mX5_openingYear.2.1 21 = .ok (.iconst (-1), 1) := by decide +kernel
theorem dX5_openingYear_22 : decode mX5_openingYear.2.1 22 = .ok (.ireturn, 1) := by decide +kernel
def fn_X5_openingYear (b : Nat) (x1 : Int32) (σ : Sg) : Option Int32 :=
  (if (((σ b 4) >>> (x1 &&& 31)) &&& 1) = 1 then (if ag_ib x1 13 = true then (some (σ (b + 13) x1.toNatClampNeg)) else none)
  else (some (-1)))
set_option maxRecDepth 20000 in
set_option maxHeartbeats 4000000 in
theorem im_X5_openingYear (b : Nat) (hb : ag_Y b) (x1 : Int32) (σ : Sg) : Im yX5_openingYear mX5_openingYear 0 0 (jI σ) [.ref b, .int x1] σ (fn_X5_openingYear b x1 σ) := by
  refine Im.of (by decide +kernel) rfl rfl (Nat.le_of_ble_eq_true rfl) ?_
  show Ev mX5_openingYear 0 0 (jI σ) 0 [(0, .ref b), (1, .int x1)] [] σ (fn_X5_openingYear b x1 σ)
  unfold fn_X5_openingYear
  refine ev_aload_n (pc := 0) (i := 0) 0 dX5_openingYear_0 rfl rfl ?_
  refine ev_getI (pc := 1) 4 ag_C5 (ag_Yk hb).1 (ag_Yk hb).2 (Nat.le_of_ble_eq_true rfl) (ag_Yt4 hb) rfl ag_fl_X5_32 dX5_openingYear_1 ?_
  refine ev_iload_n (pc := 4) (i := 1) 1 dX5_openingYear_4 rfl rfl ?_
  refine ev_ishr (pc := 5) dX5_openingYear_5 ?_
  refine ev_iconst (pc := 6) (v := 1) dX5_openingYear_6 (by decide) ?_
  refine ev_iand (pc := 7) dX5_openingYear_7 ?_
  refine ev_iconst (pc := 8) (v := 1) dX5_openingYear_8 (by decide) ?_
  refine ev_icmp_ne (pc := 9) (tgt := 21) dX5_openingYear_9 rfl ?_ ?_
  · refine ev_aload_n (pc := 12) (i := 0) 0 dX5_openingYear_12 rfl rfl ?_
    refine ev_getR (pc := 13) (t := (b + 13)) 5 ag_C5 (ag_Yk hb).1 (ag_Yk hb).2 (Nat.le_of_ble_eq_true rfl) (ag_Yt5 hb) rfl ag_fl_X5_35 dX5_openingYear_13 ?_
    refine ev_iload_n (pc := 16) (i := 1) 1 dX5_openingYear_16 rfl rfl ?_
    refine ev_iald (pc := 17) (ag_Ya13 hb).1 (ag_Ya13 hb).2 dX5_openingYear_17 ?_
    refine ev_goto (pc := 18) (tgt := 22) dX5_openingYear_18 rfl ?_
    exact ev_irI rfl dX5_openingYear_22
  · refine ev_iconst (pc := 21) (v := (-1)) dX5_openingYear_21 (by decide) ?_
    exact ev_irI rfl dX5_openingYear_22
-- X5_wordsBehind
def mX5_wordsBehind : Md := (RX5, cX5_wordsBehind, 5, some .int, none)
theorem mv_X5_wordsBehind : ag_Mv yX5_wordsBehind mX5_wordsBehind 2 := ⟨ag_co_X5_wordsBehind, ag_im_X5_wordsBehind, ag_se_X5_wordsBehind, ag_ini_X5, by decide +kernel⟩
theorem dX5_wordsBehind_0 : decode mX5_wordsBehind.2.1 0 = .ok (.iconst 0, 1) := by decide +kernel
theorem dX5_wordsBehind_1 : decode mX5_wordsBehind.2.1 1 = .ok (.istore_n 3, 1) := by decide +kernel
theorem dX5_wordsBehind_2 : decode mX5_wordsBehind.2.1 2 = .ok (.iconst 0, 1) := by decide +kernel
theorem dX5_wordsBehind_3 : decode mX5_wordsBehind.2.1 3 = .ok (.istore 4, 2) := by decide +kernel
theorem dX5_wordsBehind_5 : decode mX5_wordsBehind.2.1 5 = .ok (.iload 4, 2) := by decide +kernel
theorem dX5_wordsBehind_7 : decode mX5_wordsBehind.2.1 7 = .ok (.bipush 8, 2) := by decide +kernel
theorem dX5_wordsBehind_9 : decode mX5_wordsBehind.2.1 9 = .ok (.if_icmp .ge 27, 3) := by decide +kernel
theorem dX5_wordsBehind_12 : decode mX5_wordsBehind.2.1 12 = .ok (.aload_n 0, 1) := by decide +kernel
theorem dX5_wordsBehind_13 : decode mX5_wordsBehind.2.1 13 = .ok (.iload_n 2, 1) := by decide +kernel
theorem dX5_wordsBehind_14 : decode mX5_wordsBehind.2.1 14 = .ok (.iload 4, 2) := by decide +kernel
theorem dX5_wordsBehind_16 : decode mX5_wordsBehind.2.1 16 = .ok (.iload_n 1, 1) := by decide +kernel
theorem dX5_wordsBehind_17 : decode mX5_wordsBehind.2.1 17 = .ok (.invokevirtual 160, 3) := by decide +kernel
theorem dX5_wordsBehind_20 : decode mX5_wordsBehind.2.1 20 = .ok (.ifCond .eq 10, 3) := by decide +kernel
theorem dX5_wordsBehind_23 : decode mX5_wordsBehind.2.1 23 = .ok (.iload_n 3, 1) := by decide +kernel
theorem dX5_wordsBehind_24 : decode mX5_wordsBehind.2.1 24 = .ok (.iconst 1, 1) := by decide +kernel
theorem dX5_wordsBehind_25 : decode mX5_wordsBehind.2.1 25 = .ok (.iload 4, 2) := by decide +kernel
theorem dX5_wordsBehind_27 : decode mX5_wordsBehind.2.1 27 = .ok (.ishl, 1) := by decide +kernel
theorem dX5_wordsBehind_28 : decode mX5_wordsBehind.2.1 28 = .ok (.ior, 1) := by decide +kernel
theorem dX5_wordsBehind_29 : decode mX5_wordsBehind.2.1 29 = .ok (.istore_n 3, 1) := by decide +kernel
theorem dX5_wordsBehind_30 : decode mX5_wordsBehind.2.1 30 = .ok (.iinc 4 1, 3) := by decide +kernel
theorem dX5_wordsBehind_33 : decode mX5_wordsBehind.2.1 33 = .ok (.goto (-28), 3) := by decide +kernel
theorem dX5_wordsBehind_36 : decode mX5_wordsBehind.2.1 36 = .ok (.iload_n 3, 1) := by decide +kernel
theorem dX5_wordsBehind_37 : decode mX5_wordsBehind.2.1 37 = .ok (.ireturn, 1) := by decide +kernel
def fn_X5_wordsBehind_b30 (n : Nat) (b : Nat) (x1 : Int32) (x2 : Int32) (σ : Sg) (k5 : Int32 → Int32 → Option Int32) (v3 : Int32) (v4 : Int32) : Option Int32 :=
  (k5 v3 (v4 + 1))
set_option maxRecDepth 20000 in
set_option maxHeartbeats 4000000 in
theorem ev_X5_wordsBehind_b30 (n : Nat) (b : Nat) (hb : ag_Y b) (x1 : Int32) (x2 : Int32) (σ : Sg) (k5 : Int32 → Int32 → Option Int32) (hk5 : ∀ (v3 : Int32) (v4 : Int32), Ev mX5_wordsBehind 2 46 (jI σ) 5 [(0, .ref b), (1, .int x1), (2, .int x2), (3, .int v3), (4, .int v4)] [] σ (k5 v3 v4)) (v3 : Int32) (v4 : Int32) : Ev mX5_wordsBehind 2 46 (jI σ) 30 [(0, .ref b), (1, .int x1), (2, .int x2), (3, .int v3), (4, .int v4)] [] σ (fn_X5_wordsBehind_b30 n b x1 x2 σ k5 v3 v4) := by
  unfold fn_X5_wordsBehind_b30
  refine ev_iinc (pc := 30) (v := (v4 + 1)) (lv' := [(4, .int (v4 + 1)), (0, .ref b), (1, .int x1), (2, .int x2), (3, .int v3)]) 4 dX5_wordsBehind_30 rfl rfl (Nat.le_of_ble_eq_true rfl) rfl ?_
  refine ev_goto (pc := 33) (tgt := 5) dX5_wordsBehind_33 rfl ?_
  refine ev_sub [1, 2, 3, 4, 0] rfl ?_
  exact hk5 v3 (v4 + 1)
def fn_X5_wordsBehind_b5 (n : Nat) (b : Nat) (x1 : Int32) (x2 : Int32) (σ : Sg)  : Nat → Int32 → Int32 → Option Int32
  | 0 => fun _ _ => none
  | i + 1 => fun v3 v4 =>
  (if 8 ≤ v4 then (some v3)
  else (Option.bind (fn_X5_knew b x2 v4 x1 σ) fun q60 =>
  (if q60 = 0 then (fn_X5_wordsBehind_b30 n b x1 x2 σ (fn_X5_wordsBehind_b5 n b x1 x2 σ i) v3 v4)
  else (fn_X5_wordsBehind_b30 n b x1 x2 σ (fn_X5_wordsBehind_b5 n b x1 x2 σ i) (v3 ||| (1 <<< (v4 &&& 31))) v4))))
theorem fn_X5_wordsBehind_b5_s (n : Nat) (b : Nat) (x1 : Int32) (x2 : Int32) (σ : Sg)  (i : Nat) (v3 : Int32) (v4 : Int32) : fn_X5_wordsBehind_b5 n b x1 x2 σ (i + 1) v3 v4 =
  (if 8 ≤ v4 then (some v3)
  else (Option.bind (fn_X5_knew b x2 v4 x1 σ) fun q60 =>
  (if q60 = 0 then (fn_X5_wordsBehind_b30 n b x1 x2 σ (fn_X5_wordsBehind_b5 n b x1 x2 σ i) v3 v4)
  else (fn_X5_wordsBehind_b30 n b x1 x2 σ (fn_X5_wordsBehind_b5 n b x1 x2 σ i) (v3 ||| (1 <<< (v4 &&& 31))) v4)))) := rfl
set_option maxRecDepth 20000 in
set_option maxHeartbeats 4000000 in
theorem ev_X5_wordsBehind_b5 (n : Nat) (b : Nat) (hb : ag_Y b) (x1 : Int32) (x2 : Int32) (σ : Sg)  : ∀ (i : Nat) (v3 : Int32) (v4 : Int32), Ev mX5_wordsBehind 2 46 (jI σ) 5 [(0, .ref b), (1, .int x1), (2, .int x2), (3, .int v3), (4, .int v4)] [] σ (fn_X5_wordsBehind_b5 n b x1 x2 σ i v3 v4) := by
  intro i
  induction i with
  | zero =>
    intro v3 v4
    exact ev_none
  | succ i ih =>
    intro v3 v4
    rw [fn_X5_wordsBehind_b5_s]
    refine ev_iload (pc := 5) 4 dX5_wordsBehind_5 rfl ?_
    refine ev_bipush (pc := 7) (v := 8) dX5_wordsBehind_7 (by decide) ?_
    refine ev_icmp_ge (pc := 9) (tgt := 36) dX5_wordsBehind_9 rfl ?_ ?_
    · refine ev_iload_n (pc := 36) (i := 3) 3 dX5_wordsBehind_36 rfl rfl ?_
      exact ev_irI rfl dX5_wordsBehind_37
    · refine ev_aload_n (pc := 12) (i := 0) 0 dX5_wordsBehind_12 rfl rfl ?_
      refine ev_iload_n (pc := 13) (i := 2) 2 dX5_wordsBehind_13 rfl rfl ?_
      refine ev_iload (pc := 14) 4 dX5_wordsBehind_14 rfl ?_
      refine ev_iload_n (pc := 16) (i := 1) 1 dX5_wordsBehind_16 rfl rfl ?_
      refine ev_vI (pc := 17) (as := [.int x2, .int v4, .int x1]) (rest := []) ⟨5, 160, 10, TX5, tyX5, ag_C5, ⟨(ag_Yk hb).1, (ag_Yk hb).2⟩, mv_X5_knew, ag_ml_X5_160, rfl, (Nat.le_of_ble_eq_true rfl), ⟨(Nat.le_of_ble_eq_true rfl), (Nat.le_of_ble_eq_true rfl)⟩, dX5_wordsBehind_17⟩ (im_X5_knew b hb x2 v4 x1 σ) (fun q60 => ?_)
      refine ev_if_eq (pc := 20) (tgt := 30) dX5_wordsBehind_20 rfl ?_ ?_
      · exact ev_X5_wordsBehind_b30 n b hb x1 x2 σ (fn_X5_wordsBehind_b5 n b x1 x2 σ i) ih v3 v4
      · refine ev_iload_n (pc := 23) (i := 3) 3 dX5_wordsBehind_23 rfl rfl ?_
        refine ev_iconst (pc := 24) (v := 1) dX5_wordsBehind_24 (by decide) ?_
        refine ev_iload (pc := 25) 4 dX5_wordsBehind_25 rfl ?_
        refine ev_ishl (pc := 27) dX5_wordsBehind_27 ?_
        refine ev_ior (pc := 28) dX5_wordsBehind_28 ?_
        refine ev_istore_n (pc := 29) (i := 3) (lv' := [(3, .int (v3 ||| (1 <<< (v4 &&& 31)))), (0, .ref b), (1, .int x1), (2, .int x2), (4, .int v4)]) dX5_wordsBehind_29 rfl (Nat.le_of_ble_eq_true rfl) rfl ?_
        refine ev_sub [1, 2, 3, 0, 4] rfl ?_
        exact ev_X5_wordsBehind_b30 n b hb x1 x2 σ (fn_X5_wordsBehind_b5 n b x1 x2 σ i) ih (v3 ||| (1 <<< (v4 &&& 31))) v4
def fn_X5_wordsBehind (n : Nat) (b : Nat) (x1 : Int32) (x2 : Int32) (σ : Sg) : Option Int32 :=
  (fn_X5_wordsBehind_b5 n b x1 x2 σ n 0 0)
set_option maxRecDepth 20000 in
set_option maxHeartbeats 4000000 in
theorem im_X5_wordsBehind (n : Nat) (b : Nat) (hb : ag_Y b) (x1 : Int32) (x2 : Int32) (σ : Sg) : Im yX5_wordsBehind mX5_wordsBehind 2 46 (jI σ) [.ref b, .int x1, .int x2] σ (fn_X5_wordsBehind n b x1 x2 σ) := by
  refine Im.of (by decide +kernel) rfl rfl (Nat.le_of_ble_eq_true rfl) ?_
  show Ev mX5_wordsBehind 2 46 (jI σ) 0 [(0, .ref b), (1, .int x1), (2, .int x2)] [] σ (fn_X5_wordsBehind n b x1 x2 σ)
  unfold fn_X5_wordsBehind
  refine ev_iconst (pc := 0) (v := 0) dX5_wordsBehind_0 (by decide) ?_
  refine ev_istore_n (pc := 1) (i := 3) (lv' := [(3, .int 0), (0, .ref b), (1, .int x1), (2, .int x2)]) dX5_wordsBehind_1 rfl (Nat.le_of_ble_eq_true rfl) rfl ?_
  refine ev_iconst (pc := 2) (v := 0) dX5_wordsBehind_2 (by decide) ?_
  refine ev_istore (pc := 3) (lv' := [(4, .int 0), (3, .int 0), (0, .ref b), (1, .int x1), (2, .int x2)]) dX5_wordsBehind_3 (Nat.le_of_ble_eq_true rfl) rfl ?_
  refine ev_sub [2, 3, 4, 1, 0] rfl ?_
  exact ev_X5_wordsBehind_b5 n b hb x1 x2 σ n 0 0
-- X5_openedBehind
def mX5_openedBehind : Md := (RX5, cX5_openedBehind, 4, some .int, none)
theorem mv_X5_openedBehind : ag_Mv yX5_openedBehind mX5_openedBehind 1 := ⟨ag_co_X5_openedBehind, ag_im_X5_openedBehind, ag_se_X5_openedBehind, ag_ini_X5, by decide +kernel⟩
theorem dX5_openedBehind_0 : decode mX5_openedBehind.2.1 0 = .ok (.iconst 0, 1) := by decide +kernel
theorem dX5_openedBehind_1 : decode mX5_openedBehind.2.1 1 = .ok (.istore_n 2, 1) := by decide +kernel
theorem dX5_openedBehind_2 : decode mX5_openedBehind.2.1 2 = .ok (.iconst 0, 1) := by decide +kernel
theorem dX5_openedBehind_3 : decode mX5_openedBehind.2.1 3 = .ok (.istore_n 3, 1) := by decide +kernel
theorem dX5_openedBehind_4 : decode mX5_openedBehind.2.1 4 = .ok (.iload_n 3, 1) := by decide +kernel
theorem dX5_openedBehind_5 : decode mX5_openedBehind.2.1 5 = .ok (.aload_n 0, 1) := by decide +kernel
theorem dX5_openedBehind_6 : decode mX5_openedBehind.2.1 6 = .ok (.getfield 21, 3) := by decide +kernel
theorem dX5_openedBehind_9 : decode mX5_openedBehind.2.1 9 = .ok (.getfield 78, 3) := by decide +kernel
theorem dX5_openedBehind_12 : decode mX5_openedBehind.2.1 12 = .ok (.if_icmp .ge 37, 3) := by decide +kernel
theorem dX5_openedBehind_15 : decode mX5_openedBehind.2.1 15 = .ok (.aload_n 0, 1) := by decide +kernel
theorem dX5_openedBehind_16 : decode mX5_openedBehind.2.1 16 = .ok (.getfield 32, 3) := by decide +kernel
theorem dX5_openedBehind_19 : decode mX5_openedBehind.2.1 19 = .ok (.iload_n 3, 1) := by decide +kernel
theorem dX5_openedBehind_20 : decode mX5_openedBehind.2.1 20 = .ok (.ishr, 1) := by decide +kernel
theorem dX5_openedBehind_21 : decode mX5_openedBehind.2.1 21 = .ok (.iconst 1, 1) := by decide +kernel
theorem dX5_openedBehind_22 : decode mX5_openedBehind.2.1 22 = .ok (.iand, 1) := by decide +kernel
theorem dX5_openedBehind_23 : decode mX5_openedBehind.2.1 23 = .ok (.iconst 1, 1) := by decide +kernel
theorem dX5_openedBehind_24 : decode mX5_openedBehind.2.1 24 = .ok (.if_icmp .ne 19, 3) := by decide +kernel
theorem dX5_openedBehind_27 : decode mX5_openedBehind.2.1 27 = .ok (.aload_n 0, 1) := by decide +kernel
theorem dX5_openedBehind_28 : decode mX5_openedBehind.2.1 28 = .ok (.getfield 35, 3) := by decide +kernel
theorem dX5_openedBehind_31 : decode mX5_openedBehind.2.1 31 = .ok (.iload_n 3, 1) := by decide +kernel
theorem dX5_openedBehind_32 : decode mX5_openedBehind.2.1 32 = .ok (.iaload, 1) := by decide +kernel
theorem dX5_openedBehind_33 : decode mX5_openedBehind.2.1 33 = .ok (.iload_n 1, 1) := by decide +kernel
theorem dX5_openedBehind_34 : decode mX5_openedBehind.2.1 34 = .ok (.if_icmp .gt 9, 3) := by decide +kernel
theorem dX5_openedBehind_37 : decode mX5_openedBehind.2.1 37 = .ok (.iload_n 2, 1) := by decide +kernel
theorem dX5_openedBehind_38 : decode mX5_openedBehind.2.1 38 = .ok (.iconst 1, 1) := by decide +kernel
theorem dX5_openedBehind_39 : decode mX5_openedBehind.2.1 39 = .ok (.iload_n 3, 1) := by decide +kernel
theorem dX5_openedBehind_40 : decode mX5_openedBehind.2.1 40 = .ok (.ishl, 1) := by decide +kernel
theorem dX5_openedBehind_41 : decode mX5_openedBehind.2.1 41 = .ok (.ior, 1) := by decide +kernel
theorem dX5_openedBehind_42 : decode mX5_openedBehind.2.1 42 = .ok (.istore_n 2, 1) := by decide +kernel
theorem dX5_openedBehind_43 : decode mX5_openedBehind.2.1 43 = .ok (.iinc 3 1, 3) := by decide +kernel
theorem dX5_openedBehind_46 : decode mX5_openedBehind.2.1 46 = .ok (.goto (-42), 3) := by decide +kernel
theorem dX5_openedBehind_49 : decode mX5_openedBehind.2.1 49 = .ok (.iload_n 2, 1) := by decide +kernel
theorem dX5_openedBehind_50 : decode mX5_openedBehind.2.1 50 = .ok (.ireturn, 1) := by decide +kernel
def fn_X5_openedBehind_b43 (n : Nat) (b : Nat) (x1 : Int32) (σ : Sg) (k4 : Int32 → Int32 → Option Int32) (v2 : Int32) (v3 : Int32) : Option Int32 :=
  (k4 v2 (v3 + 1))
set_option maxRecDepth 20000 in
set_option maxHeartbeats 4000000 in
theorem ev_X5_openedBehind_b43 (n : Nat) (b : Nat) (hb : ag_Y b) (x1 : Int32) (σ : Sg) (k4 : Int32 → Int32 → Option Int32) (hk4 : ∀ (v2 : Int32) (v3 : Int32), Ev mX5_openedBehind 0 0 (jI σ) 4 [(0, .ref b), (1, .int x1), (2, .int v2), (3, .int v3)] [] σ (k4 v2 v3)) (v2 : Int32) (v3 : Int32) : Ev mX5_openedBehind 0 0 (jI σ) 43 [(0, .ref b), (1, .int x1), (2, .int v2), (3, .int v3)] [] σ (fn_X5_openedBehind_b43 n b x1 σ k4 v2 v3) := by
  unfold fn_X5_openedBehind_b43
  refine ev_iinc (pc := 43) (v := (v3 + 1)) (lv' := [(3, .int (v3 + 1)), (0, .ref b), (1, .int x1), (2, .int v2)]) 3 dX5_openedBehind_43 rfl rfl (Nat.le_of_ble_eq_true rfl) rfl ?_
  refine ev_goto (pc := 46) (tgt := 4) dX5_openedBehind_46 rfl ?_
  refine ev_sub [1, 2, 3, 0] rfl ?_
  exact hk4 v2 (v3 + 1)
def fn_X5_openedBehind_b4 (n : Nat) (b : Nat) (x1 : Int32) (σ : Sg)  : Nat → Int32 → Int32 → Option Int32
  | 0 => fun _ _ => none
  | i + 1 => fun v2 v3 =>
  (if (σ (b + 7) 0) ≤ v3 then (some v2)
  else (if (((σ b 4) >>> (v3 &&& 31)) &&& 1) = 1 then (if ag_ib v3 13 = true then (if x1 < (σ (b + 13) v3.toNatClampNeg) then (fn_X5_openedBehind_b43 n b x1 σ (fn_X5_openedBehind_b4 n b x1 σ i) v2 v3)
  else (fn_X5_openedBehind_b43 n b x1 σ (fn_X5_openedBehind_b4 n b x1 σ i) (v2 ||| (1 <<< (v3 &&& 31))) v3)) else none)
  else (fn_X5_openedBehind_b43 n b x1 σ (fn_X5_openedBehind_b4 n b x1 σ i) v2 v3)))
theorem fn_X5_openedBehind_b4_s (n : Nat) (b : Nat) (x1 : Int32) (σ : Sg)  (i : Nat) (v2 : Int32) (v3 : Int32) : fn_X5_openedBehind_b4 n b x1 σ (i + 1) v2 v3 =
  (if (σ (b + 7) 0) ≤ v3 then (some v2)
  else (if (((σ b 4) >>> (v3 &&& 31)) &&& 1) = 1 then (if ag_ib v3 13 = true then (if x1 < (σ (b + 13) v3.toNatClampNeg) then (fn_X5_openedBehind_b43 n b x1 σ (fn_X5_openedBehind_b4 n b x1 σ i) v2 v3)
  else (fn_X5_openedBehind_b43 n b x1 σ (fn_X5_openedBehind_b4 n b x1 σ i) (v2 ||| (1 <<< (v3 &&& 31))) v3)) else none)
  else (fn_X5_openedBehind_b43 n b x1 σ (fn_X5_openedBehind_b4 n b x1 σ i) v2 v3))) := rfl
set_option maxRecDepth 20000 in
set_option maxHeartbeats 4000000 in
theorem ev_X5_openedBehind_b4 (n : Nat) (b : Nat) (hb : ag_Y b) (x1 : Int32) (σ : Sg)  : ∀ (i : Nat) (v2 : Int32) (v3 : Int32), Ev mX5_openedBehind 0 0 (jI σ) 4 [(0, .ref b), (1, .int x1), (2, .int v2), (3, .int v3)] [] σ (fn_X5_openedBehind_b4 n b x1 σ i v2 v3) := by
  intro i
  induction i with
  | zero =>
    intro v2 v3
    exact ev_none
  | succ i ih =>
    intro v2 v3
    rw [fn_X5_openedBehind_b4_s]
    refine ev_iload_n (pc := 4) (i := 3) 3 dX5_openedBehind_4 rfl rfl ?_
    refine ev_aload_n (pc := 5) (i := 0) 0 dX5_openedBehind_5 rfl rfl ?_
    refine ev_getR (pc := 6) (t := (b + 7)) 1 ag_C5 (ag_Yk hb).1 (ag_Yk hb).2 (Nat.le_of_ble_eq_true rfl) (ag_Yt1 hb) rfl ag_fl_X5_21 dX5_openedBehind_6 ?_
    refine ev_getI (pc := 9) 0 ag_C2 (ag_Pk (ag_YP hb)).1 (ag_Pk (ag_YP hb)).2 (Nat.le_of_ble_eq_true rfl) (ag_Pt0 (ag_YP hb)) rfl ag_fl_X5_78 dX5_openedBehind_9 ?_
    refine ev_icmp_ge (pc := 12) (tgt := 49) dX5_openedBehind_12 rfl ?_ ?_
    · refine ev_iload_n (pc := 49) (i := 2) 2 dX5_openedBehind_49 rfl rfl ?_
      exact ev_irI rfl dX5_openedBehind_50
    · refine ev_aload_n (pc := 15) (i := 0) 0 dX5_openedBehind_15 rfl rfl ?_
      refine ev_getI (pc := 16) 4 ag_C5 (ag_Yk hb).1 (ag_Yk hb).2 (Nat.le_of_ble_eq_true rfl) (ag_Yt4 hb) rfl ag_fl_X5_32 dX5_openedBehind_16 ?_
      refine ev_iload_n (pc := 19) (i := 3) 3 dX5_openedBehind_19 rfl rfl ?_
      refine ev_ishr (pc := 20) dX5_openedBehind_20 ?_
      refine ev_iconst (pc := 21) (v := 1) dX5_openedBehind_21 (by decide) ?_
      refine ev_iand (pc := 22) dX5_openedBehind_22 ?_
      refine ev_iconst (pc := 23) (v := 1) dX5_openedBehind_23 (by decide) ?_
      refine ev_icmp_ne (pc := 24) (tgt := 43) dX5_openedBehind_24 rfl ?_ ?_
      · refine ev_aload_n (pc := 27) (i := 0) 0 dX5_openedBehind_27 rfl rfl ?_
        refine ev_getR (pc := 28) (t := (b + 13)) 5 ag_C5 (ag_Yk hb).1 (ag_Yk hb).2 (Nat.le_of_ble_eq_true rfl) (ag_Yt5 hb) rfl ag_fl_X5_35 dX5_openedBehind_28 ?_
        refine ev_iload_n (pc := 31) (i := 3) 3 dX5_openedBehind_31 rfl rfl ?_
        refine ev_iald (pc := 32) (ag_Ya13 hb).1 (ag_Ya13 hb).2 dX5_openedBehind_32 ?_
        refine ev_iload_n (pc := 33) (i := 1) 1 dX5_openedBehind_33 rfl rfl ?_
        refine ev_icmp_gt (pc := 34) (tgt := 43) dX5_openedBehind_34 rfl ?_ ?_
        · exact ev_X5_openedBehind_b43 n b hb x1 σ (fn_X5_openedBehind_b4 n b x1 σ i) ih v2 v3
        · refine ev_iload_n (pc := 37) (i := 2) 2 dX5_openedBehind_37 rfl rfl ?_
          refine ev_iconst (pc := 38) (v := 1) dX5_openedBehind_38 (by decide) ?_
          refine ev_iload_n (pc := 39) (i := 3) 3 dX5_openedBehind_39 rfl rfl ?_
          refine ev_ishl (pc := 40) dX5_openedBehind_40 ?_
          refine ev_ior (pc := 41) dX5_openedBehind_41 ?_
          refine ev_istore_n (pc := 42) (i := 2) (lv' := [(2, .int (v2 ||| (1 <<< (v3 &&& 31)))), (0, .ref b), (1, .int x1), (3, .int v3)]) dX5_openedBehind_42 rfl (Nat.le_of_ble_eq_true rfl) rfl ?_
          refine ev_sub [1, 2, 0, 3] rfl ?_
          exact ev_X5_openedBehind_b43 n b hb x1 σ (fn_X5_openedBehind_b4 n b x1 σ i) ih (v2 ||| (1 <<< (v3 &&& 31))) v3
      · exact ev_X5_openedBehind_b43 n b hb x1 σ (fn_X5_openedBehind_b4 n b x1 σ i) ih v2 v3
def fn_X5_openedBehind (n : Nat) (b : Nat) (x1 : Int32) (σ : Sg) : Option Int32 :=
  (fn_X5_openedBehind_b4 n b x1 σ n 0 0)
set_option maxRecDepth 20000 in
set_option maxHeartbeats 4000000 in
theorem im_X5_openedBehind (n : Nat) (b : Nat) (hb : ag_Y b) (x1 : Int32) (σ : Sg) : Im yX5_openedBehind mX5_openedBehind 0 0 (jI σ) [.ref b, .int x1] σ (fn_X5_openedBehind n b x1 σ) := by
  refine Im.of (by decide +kernel) rfl rfl (Nat.le_of_ble_eq_true rfl) ?_
  show Ev mX5_openedBehind 0 0 (jI σ) 0 [(0, .ref b), (1, .int x1)] [] σ (fn_X5_openedBehind n b x1 σ)
  unfold fn_X5_openedBehind
  refine ev_iconst (pc := 0) (v := 0) dX5_openedBehind_0 (by decide) ?_
  refine ev_istore_n (pc := 1) (i := 2) (lv' := [(2, .int 0), (0, .ref b), (1, .int x1)]) dX5_openedBehind_1 rfl (Nat.le_of_ble_eq_true rfl) rfl ?_
  refine ev_iconst (pc := 2) (v := 0) dX5_openedBehind_2 (by decide) ?_
  refine ev_istore_n (pc := 3) (i := 3) (lv' := [(3, .int 0), (2, .int 0), (0, .ref b), (1, .int x1)]) dX5_openedBehind_3 rfl (Nat.le_of_ble_eq_true rfl) rfl ?_
  refine ev_sub [2, 3, 1, 0] rfl ?_
  exact ev_X5_openedBehind_b4 n b hb x1 σ n 0 0
-- X5_waitingBehind
def mX5_waitingBehind : Md := (RX5, cX5_waitingBehind, 4, some .int, none)
theorem mv_X5_waitingBehind : ag_Mv yX5_waitingBehind mX5_waitingBehind 1 := ⟨ag_co_X5_waitingBehind, ag_im_X5_waitingBehind, ag_se_X5_waitingBehind, ag_ini_X5, by decide +kernel⟩
theorem dX5_waitingBehind_0 : decode mX5_waitingBehind.2.1 0 = .ok (.iconst 0, 1) := by decide +kernel
theorem dX5_waitingBehind_1 : decode mX5_waitingBehind.2.1 1 = .ok (.istore_n 2, 1) := by decide +kernel
theorem dX5_waitingBehind_2 : decode mX5_waitingBehind.2.1 2 = .ok (.iconst 0, 1) := by decide +kernel
theorem dX5_waitingBehind_3 : decode mX5_waitingBehind.2.1 3 = .ok (.istore_n 3, 1) := by decide +kernel
theorem dX5_waitingBehind_4 : decode mX5_waitingBehind.2.1 4 = .ok (.iload_n 3, 1) := by decide +kernel
theorem dX5_waitingBehind_5 : decode mX5_waitingBehind.2.1 5 = .ok (.aload_n 0, 1) := by decide +kernel
theorem dX5_waitingBehind_6 : decode mX5_waitingBehind.2.1 6 = .ok (.getfield 21, 3) := by decide +kernel
theorem dX5_waitingBehind_9 : decode mX5_waitingBehind.2.1 9 = .ok (.getfield 78, 3) := by decide +kernel
theorem dX5_waitingBehind_12 : decode mX5_waitingBehind.2.1 12 = .ok (.if_icmp .ge 40, 3) := by decide +kernel
theorem dX5_waitingBehind_15 : decode mX5_waitingBehind.2.1 15 = .ok (.aload_n 0, 1) := by decide +kernel
theorem dX5_waitingBehind_16 : decode mX5_waitingBehind.2.1 16 = .ok (.getfield 29, 3) := by decide +kernel
theorem dX5_waitingBehind_19 : decode mX5_waitingBehind.2.1 19 = .ok (.iload_n 3, 1) := by decide +kernel
theorem dX5_waitingBehind_20 : decode mX5_waitingBehind.2.1 20 = .ok (.ishr, 1) := by decide +kernel
theorem dX5_waitingBehind_21 : decode mX5_waitingBehind.2.1 21 = .ok (.iconst 1, 1) := by decide +kernel
theorem dX5_waitingBehind_22 : decode mX5_waitingBehind.2.1 22 = .ok (.iand, 1) := by decide +kernel
theorem dX5_waitingBehind_23 : decode mX5_waitingBehind.2.1 23 = .ok (.iconst 1, 1) := by decide +kernel
theorem dX5_waitingBehind_24 : decode mX5_waitingBehind.2.1 24 = .ok (.if_icmp .ne 22, 3) := by decide +kernel
theorem dX5_waitingBehind_27 : decode mX5_waitingBehind.2.1 27 = .ok (.aload_n 0, 1) := by decide +kernel
theorem dX5_waitingBehind_28 : decode mX5_waitingBehind.2.1 28 = .ok (.getfield 21, 3) := by decide +kernel
theorem dX5_waitingBehind_31 : decode mX5_waitingBehind.2.1 31 = .ok (.getfield 81, 3) := by decide +kernel
theorem dX5_waitingBehind_34 : decode mX5_waitingBehind.2.1 34 = .ok (.iload_n 3, 1) := by decide +kernel
theorem dX5_waitingBehind_35 : decode mX5_waitingBehind.2.1 35 = .ok (.iaload, 1) := by decide +kernel
theorem dX5_waitingBehind_36 : decode mX5_waitingBehind.2.1 36 = .ok (.iload_n 1, 1) := by decide +kernel
theorem dX5_waitingBehind_37 : decode mX5_waitingBehind.2.1 37 = .ok (.if_icmp .gt 9, 3) := by decide +kernel
theorem dX5_waitingBehind_40 : decode mX5_waitingBehind.2.1 40 = .ok (.iload_n 2, 1) := by decide +kernel
theorem dX5_waitingBehind_41 : decode mX5_waitingBehind.2.1 41 = .ok (.iconst 1, 1) := by decide +kernel
theorem dX5_waitingBehind_42 : decode mX5_waitingBehind.2.1 42 = .ok (.iload_n 3, 1) := by decide +kernel
theorem dX5_waitingBehind_43 : decode mX5_waitingBehind.2.1 43 = .ok (.ishl, 1) := by decide +kernel
theorem dX5_waitingBehind_44 : decode mX5_waitingBehind.2.1 44 = .ok (.ior, 1) := by decide +kernel
theorem dX5_waitingBehind_45 : decode mX5_waitingBehind.2.1 45 = .ok (.istore_n 2, 1) := by decide +kernel
theorem dX5_waitingBehind_46 : decode mX5_waitingBehind.2.1 46 = .ok (.iinc 3 1, 3) := by decide +kernel
theorem dX5_waitingBehind_49 : decode mX5_waitingBehind.2.1 49 = .ok (.goto (-45), 3) := by decide +kernel
theorem dX5_waitingBehind_52 : decode mX5_waitingBehind.2.1 52 = .ok (.iload_n 2, 1) := by decide +kernel
theorem dX5_waitingBehind_53 : decode mX5_waitingBehind.2.1 53 = .ok (.aload_n 0, 1) := by decide +kernel
theorem dX5_waitingBehind_54 : decode mX5_waitingBehind.2.1 54 = .ok (.iload_n 1, 1) := by decide +kernel
theorem dX5_waitingBehind_55 : decode mX5_waitingBehind.2.1 55 = .ok (.invokevirtual 164, 3) := by decide +kernel
theorem dX5_waitingBehind_58 : decode mX5_waitingBehind.2.1 58 = .ok (.iconst (-1), 1) := by decide +kernel
theorem dX5_waitingBehind_59 : decode mX5_waitingBehind.2.1 59 = .ok (.ixor, 1) := by decide +kernel
theorem dX5_waitingBehind_60 : decode mX5_waitingBehind.2.1 60 = .ok (.iand, 1) := by decide +kernel
theorem dX5_waitingBehind_61 : decode mX5_waitingBehind.2.1 61 = .ok (.ireturn, 1) := by decide +kernel
def fn_X5_waitingBehind_b46 (n : Nat) (b : Nat) (x1 : Int32) (σ : Sg) (k4 : Int32 → Int32 → Option Int32) (v2 : Int32) (v3 : Int32) : Option Int32 :=
  (k4 v2 (v3 + 1))
set_option maxRecDepth 20000 in
set_option maxHeartbeats 4000000 in
theorem ev_X5_waitingBehind_b46 (n : Nat) (b : Nat) (hb : ag_Y b) (x1 : Int32) (σ : Sg) (k4 : Int32 → Int32 → Option Int32) (hk4 : ∀ (v2 : Int32) (v3 : Int32), Ev mX5_waitingBehind 1 23 (jI σ) 4 [(0, .ref b), (1, .int x1), (2, .int v2), (3, .int v3)] [] σ (k4 v2 v3)) (v2 : Int32) (v3 : Int32) : Ev mX5_waitingBehind 1 23 (jI σ) 46 [(0, .ref b), (1, .int x1), (2, .int v2), (3, .int v3)] [] σ (fn_X5_waitingBehind_b46 n b x1 σ k4 v2 v3) := by
  unfold fn_X5_waitingBehind_b46
  refine ev_iinc (pc := 46) (v := (v3 + 1)) (lv' := [(3, .int (v3 + 1)), (0, .ref b), (1, .int x1), (2, .int v2)]) 3 dX5_waitingBehind_46 rfl rfl (Nat.le_of_ble_eq_true rfl) rfl ?_
  refine ev_goto (pc := 49) (tgt := 4) dX5_waitingBehind_49 rfl ?_
  refine ev_sub [1, 2, 3, 0] rfl ?_
  exact hk4 v2 (v3 + 1)
def fn_X5_waitingBehind_b4 (n : Nat) (b : Nat) (x1 : Int32) (σ : Sg)  : Nat → Int32 → Int32 → Option Int32
  | 0 => fun _ _ => none
  | i + 1 => fun v2 v3 =>
  (if (σ (b + 7) 0) ≤ v3 then (Option.bind (fn_X5_openedBehind n b x1 σ) fun q61 =>
  (some (v2 &&& (q61 ^^^ (-1)))))
  else (if (((σ b 3) >>> (v3 &&& 31)) &&& 1) = 1 then (if ag_ib v3 13 = true then (if x1 < (σ (b + 10) v3.toNatClampNeg) then (fn_X5_waitingBehind_b46 n b x1 σ (fn_X5_waitingBehind_b4 n b x1 σ i) v2 v3)
  else (fn_X5_waitingBehind_b46 n b x1 σ (fn_X5_waitingBehind_b4 n b x1 σ i) (v2 ||| (1 <<< (v3 &&& 31))) v3)) else none)
  else (fn_X5_waitingBehind_b46 n b x1 σ (fn_X5_waitingBehind_b4 n b x1 σ i) v2 v3)))
theorem fn_X5_waitingBehind_b4_s (n : Nat) (b : Nat) (x1 : Int32) (σ : Sg)  (i : Nat) (v2 : Int32) (v3 : Int32) : fn_X5_waitingBehind_b4 n b x1 σ (i + 1) v2 v3 =
  (if (σ (b + 7) 0) ≤ v3 then (Option.bind (fn_X5_openedBehind n b x1 σ) fun q61 =>
  (some (v2 &&& (q61 ^^^ (-1)))))
  else (if (((σ b 3) >>> (v3 &&& 31)) &&& 1) = 1 then (if ag_ib v3 13 = true then (if x1 < (σ (b + 10) v3.toNatClampNeg) then (fn_X5_waitingBehind_b46 n b x1 σ (fn_X5_waitingBehind_b4 n b x1 σ i) v2 v3)
  else (fn_X5_waitingBehind_b46 n b x1 σ (fn_X5_waitingBehind_b4 n b x1 σ i) (v2 ||| (1 <<< (v3 &&& 31))) v3)) else none)
  else (fn_X5_waitingBehind_b46 n b x1 σ (fn_X5_waitingBehind_b4 n b x1 σ i) v2 v3))) := rfl
set_option maxRecDepth 20000 in
set_option maxHeartbeats 4000000 in
theorem ev_X5_waitingBehind_b4 (n : Nat) (b : Nat) (hb : ag_Y b) (x1 : Int32) (σ : Sg)  : ∀ (i : Nat) (v2 : Int32) (v3 : Int32), Ev mX5_waitingBehind 1 23 (jI σ) 4 [(0, .ref b), (1, .int x1), (2, .int v2), (3, .int v3)] [] σ (fn_X5_waitingBehind_b4 n b x1 σ i v2 v3) := by
  intro i
  induction i with
  | zero =>
    intro v2 v3
    exact ev_none
  | succ i ih =>
    intro v2 v3
    rw [fn_X5_waitingBehind_b4_s]
    refine ev_iload_n (pc := 4) (i := 3) 3 dX5_waitingBehind_4 rfl rfl ?_
    refine ev_aload_n (pc := 5) (i := 0) 0 dX5_waitingBehind_5 rfl rfl ?_
    refine ev_getR (pc := 6) (t := (b + 7)) 1 ag_C5 (ag_Yk hb).1 (ag_Yk hb).2 (Nat.le_of_ble_eq_true rfl) (ag_Yt1 hb) rfl ag_fl_X5_21 dX5_waitingBehind_6 ?_
    refine ev_getI (pc := 9) 0 ag_C2 (ag_Pk (ag_YP hb)).1 (ag_Pk (ag_YP hb)).2 (Nat.le_of_ble_eq_true rfl) (ag_Pt0 (ag_YP hb)) rfl ag_fl_X5_78 dX5_waitingBehind_9 ?_
    refine ev_icmp_ge (pc := 12) (tgt := 52) dX5_waitingBehind_12 rfl ?_ ?_
    · refine ev_iload_n (pc := 52) (i := 2) 2 dX5_waitingBehind_52 rfl rfl ?_
      refine ev_aload_n (pc := 53) (i := 0) 0 dX5_waitingBehind_53 rfl rfl ?_
      refine ev_iload_n (pc := 54) (i := 1) 1 dX5_waitingBehind_54 rfl rfl ?_
      refine ev_vI (pc := 55) (as := [.int x1]) (rest := [.int v2]) ⟨5, 164, 10, TX5, tyX5, ag_C5, ⟨(ag_Yk hb).1, (ag_Yk hb).2⟩, mv_X5_openedBehind, ag_ml_X5_164, rfl, (Nat.le_of_ble_eq_true rfl), ⟨(Nat.le_of_ble_eq_true rfl), (Nat.le_of_ble_eq_true rfl)⟩, dX5_waitingBehind_55⟩ (im_X5_openedBehind n b hb x1 σ) (fun q61 => ?_)
      refine ev_iconst (pc := 58) (v := (-1)) dX5_waitingBehind_58 (by decide) ?_
      refine ev_ixor (pc := 59) dX5_waitingBehind_59 ?_
      refine ev_iand (pc := 60) dX5_waitingBehind_60 ?_
      exact ev_irI rfl dX5_waitingBehind_61
    · refine ev_aload_n (pc := 15) (i := 0) 0 dX5_waitingBehind_15 rfl rfl ?_
      refine ev_getI (pc := 16) 3 ag_C5 (ag_Yk hb).1 (ag_Yk hb).2 (Nat.le_of_ble_eq_true rfl) (ag_Yt3 hb) rfl ag_fl_X5_29 dX5_waitingBehind_16 ?_
      refine ev_iload_n (pc := 19) (i := 3) 3 dX5_waitingBehind_19 rfl rfl ?_
      refine ev_ishr (pc := 20) dX5_waitingBehind_20 ?_
      refine ev_iconst (pc := 21) (v := 1) dX5_waitingBehind_21 (by decide) ?_
      refine ev_iand (pc := 22) dX5_waitingBehind_22 ?_
      refine ev_iconst (pc := 23) (v := 1) dX5_waitingBehind_23 (by decide) ?_
      refine ev_icmp_ne (pc := 24) (tgt := 46) dX5_waitingBehind_24 rfl ?_ ?_
      · refine ev_aload_n (pc := 27) (i := 0) 0 dX5_waitingBehind_27 rfl rfl ?_
        refine ev_getR (pc := 28) (t := (b + 7)) 1 ag_C5 (ag_Yk hb).1 (ag_Yk hb).2 (Nat.le_of_ble_eq_true rfl) (ag_Yt1 hb) rfl ag_fl_X5_21 dX5_waitingBehind_28 ?_
        refine ev_getR (pc := 31) (t := (b + 10)) 3 ag_C2 (ag_Pk (ag_YP hb)).1 (ag_Pk (ag_YP hb)).2 (Nat.le_of_ble_eq_true rfl) (ag_Pt3 (ag_YP hb)) rfl ag_fl_X5_81 dX5_waitingBehind_31 ?_
        refine ev_iload_n (pc := 34) (i := 3) 3 dX5_waitingBehind_34 rfl rfl ?_
        refine ev_iald (pc := 35) (ag_Pa3 (ag_YP hb)).1 (ag_Pa3 (ag_YP hb)).2 dX5_waitingBehind_35 ?_
        refine ev_iload_n (pc := 36) (i := 1) 1 dX5_waitingBehind_36 rfl rfl ?_
        refine ev_icmp_gt (pc := 37) (tgt := 46) dX5_waitingBehind_37 rfl ?_ ?_
        · exact ev_X5_waitingBehind_b46 n b hb x1 σ (fn_X5_waitingBehind_b4 n b x1 σ i) ih v2 v3
        · refine ev_iload_n (pc := 40) (i := 2) 2 dX5_waitingBehind_40 rfl rfl ?_
          refine ev_iconst (pc := 41) (v := 1) dX5_waitingBehind_41 (by decide) ?_
          refine ev_iload_n (pc := 42) (i := 3) 3 dX5_waitingBehind_42 rfl rfl ?_
          refine ev_ishl (pc := 43) dX5_waitingBehind_43 ?_
          refine ev_ior (pc := 44) dX5_waitingBehind_44 ?_
          refine ev_istore_n (pc := 45) (i := 2) (lv' := [(2, .int (v2 ||| (1 <<< (v3 &&& 31)))), (0, .ref b), (1, .int x1), (3, .int v3)]) dX5_waitingBehind_45 rfl (Nat.le_of_ble_eq_true rfl) rfl ?_
          refine ev_sub [1, 2, 0, 3] rfl ?_
          exact ev_X5_waitingBehind_b46 n b hb x1 σ (fn_X5_waitingBehind_b4 n b x1 σ i) ih (v2 ||| (1 <<< (v3 &&& 31))) v3
      · exact ev_X5_waitingBehind_b46 n b hb x1 σ (fn_X5_waitingBehind_b4 n b x1 σ i) ih v2 v3
def fn_X5_waitingBehind (n : Nat) (b : Nat) (x1 : Int32) (σ : Sg) : Option Int32 :=
  (fn_X5_waitingBehind_b4 n b x1 σ n 0 0)
set_option maxRecDepth 20000 in
set_option maxHeartbeats 4000000 in
theorem im_X5_waitingBehind (n : Nat) (b : Nat) (hb : ag_Y b) (x1 : Int32) (σ : Sg) : Im yX5_waitingBehind mX5_waitingBehind 1 23 (jI σ) [.ref b, .int x1] σ (fn_X5_waitingBehind n b x1 σ) := by
  refine Im.of (by decide +kernel) rfl rfl (Nat.le_of_ble_eq_true rfl) ?_
  show Ev mX5_waitingBehind 1 23 (jI σ) 0 [(0, .ref b), (1, .int x1)] [] σ (fn_X5_waitingBehind n b x1 σ)
  unfold fn_X5_waitingBehind
  refine ev_iconst (pc := 0) (v := 0) dX5_waitingBehind_0 (by decide) ?_
  refine ev_istore_n (pc := 1) (i := 2) (lv' := [(2, .int 0), (0, .ref b), (1, .int x1)]) dX5_waitingBehind_1 rfl (Nat.le_of_ble_eq_true rfl) rfl ?_
  refine ev_iconst (pc := 2) (v := 0) dX5_waitingBehind_2 (by decide) ?_
  refine ev_istore_n (pc := 3) (i := 3) (lv' := [(3, .int 0), (2, .int 0), (0, .ref b), (1, .int x1)]) dX5_waitingBehind_3 rfl (Nat.le_of_ble_eq_true rfl) rfl ?_
  refine ev_sub [2, 3, 1, 0] rfl ?_
  exact ev_X5_waitingBehind_b4 n b hb x1 σ n 0 0
-- X5_sealedBits
def mX5_sealedBits : Md := (RX5, cX5_sealedBits, 1, some .int, none)
theorem mv_X5_sealedBits : ag_Mv yX5_sealedBits mX5_sealedBits 0 := ⟨ag_co_X5_sealedBits, ag_im_X5_sealedBits, ag_se_X5_sealedBits, ag_ini_X5, by decide +kernel⟩
theorem dX5_sealedBits_0 : decode mX5_sealedBits.2.1 0 = .ok (.aload_n 0, 1) := by decide +kernel
theorem dX5_sealedBits_1 : decode mX5_sealedBits.2.1 1 = .ok (.getfield 29, 3) := by decide +kernel
theorem dX5_sealedBits_4 : decode mX5_sealedBits.2.1 4 = .ok (.aload_n 0, 1) := by decide +kernel
theorem dX5_sealedBits_5 : decode mX5_sealedBits.2.1 5 = .ok (.getfield 32, 3) := by decide +kernel
theorem dX5_sealedBits_8 : decode mX5_sealedBits.2.1 8 = .ok (.iconst (-1), 1) := by decide +kernel
theorem dX5_sealedBits_9 : decode mX5_sealedBits.2.1 9 = .ok (.ixor, 1) := by decide +kernel
theorem dX5_sealedBits_10 : decode mX5_sealedBits.2.1 10 = .ok (.iand, 1) := by decide +kernel
theorem dX5_sealedBits_11 : decode mX5_sealedBits.2.1 11 = .ok (.ireturn, 1) := by decide +kernel
def fn_X5_sealedBits (b : Nat) (σ : Sg) : Option Int32 :=
  (some ((σ b 3) &&& ((σ b 4) ^^^ (-1))))
set_option maxRecDepth 20000 in
set_option maxHeartbeats 4000000 in
theorem im_X5_sealedBits (b : Nat) (hb : ag_Y b) (σ : Sg) : Im yX5_sealedBits mX5_sealedBits 0 0 (jI σ) [.ref b] σ (fn_X5_sealedBits b σ) := by
  refine Im.of (by decide +kernel) rfl rfl (Nat.le_of_ble_eq_true rfl) ?_
  show Ev mX5_sealedBits 0 0 (jI σ) 0 [(0, .ref b)] [] σ (fn_X5_sealedBits b σ)
  unfold fn_X5_sealedBits
  refine ev_aload_n (pc := 0) (i := 0) 0 dX5_sealedBits_0 rfl rfl ?_
  refine ev_getI (pc := 1) 3 ag_C5 (ag_Yk hb).1 (ag_Yk hb).2 (Nat.le_of_ble_eq_true rfl) (ag_Yt3 hb) rfl ag_fl_X5_29 dX5_sealedBits_1 ?_
  refine ev_aload_n (pc := 4) (i := 0) 0 dX5_sealedBits_4 rfl rfl ?_
  refine ev_getI (pc := 5) 4 ag_C5 (ag_Yk hb).1 (ag_Yk hb).2 (Nat.le_of_ble_eq_true rfl) (ag_Yt4 hb) rfl ag_fl_X5_32 dX5_sealedBits_5 ?_
  refine ev_iconst (pc := 8) (v := (-1)) dX5_sealedBits_8 (by decide) ?_
  refine ev_ixor (pc := 9) dX5_sealedBits_9 ?_
  refine ev_iand (pc := 10) dX5_sealedBits_10 ?_
  exact ev_irI rfl dX5_sealedBits_11
-- X5_openedWithin
def mX5_openedWithin : Md := (RX5, cX5_openedWithin, 4, some .int, none)
theorem mv_X5_openedWithin : ag_Mv yX5_openedWithin mX5_openedWithin 1 := ⟨ag_co_X5_openedWithin, ag_im_X5_openedWithin, ag_se_X5_openedWithin, ag_ini_X5, by decide +kernel⟩
theorem dX5_openedWithin_0 : decode mX5_openedWithin.2.1 0 = .ok (.iconst 0, 1) := by decide +kernel
theorem dX5_openedWithin_1 : decode mX5_openedWithin.2.1 1 = .ok (.istore_n 2, 1) := by decide +kernel
theorem dX5_openedWithin_2 : decode mX5_openedWithin.2.1 2 = .ok (.iconst 0, 1) := by decide +kernel
theorem dX5_openedWithin_3 : decode mX5_openedWithin.2.1 3 = .ok (.istore_n 3, 1) := by decide +kernel
theorem dX5_openedWithin_4 : decode mX5_openedWithin.2.1 4 = .ok (.iload_n 3, 1) := by decide +kernel
theorem dX5_openedWithin_5 : decode mX5_openedWithin.2.1 5 = .ok (.aload_n 0, 1) := by decide +kernel
theorem dX5_openedWithin_6 : decode mX5_openedWithin.2.1 6 = .ok (.getfield 21, 3) := by decide +kernel
theorem dX5_openedWithin_9 : decode mX5_openedWithin.2.1 9 = .ok (.getfield 78, 3) := by decide +kernel
theorem dX5_openedWithin_12 : decode mX5_openedWithin.2.1 12 = .ok (.if_icmp .ge 26, 3) := by decide +kernel
theorem dX5_openedWithin_15 : decode mX5_openedWithin.2.1 15 = .ok (.iload_n 2, 1) := by decide +kernel
theorem dX5_openedWithin_16 : decode mX5_openedWithin.2.1 16 = .ok (.aload_n 0, 1) := by decide +kernel
theorem dX5_openedWithin_17 : decode mX5_openedWithin.2.1 17 = .ok (.iload_n 3, 1) := by decide +kernel
theorem dX5_openedWithin_18 : decode mX5_openedWithin.2.1 18 = .ok (.invokevirtual 167, 3) := by decide +kernel
theorem dX5_openedWithin_21 : decode mX5_openedWithin.2.1 21 = .ok (.iload_n 1, 1) := by decide +kernel
theorem dX5_openedWithin_22 : decode mX5_openedWithin.2.1 22 = .ok (.if_icmp .ne 7, 3) := by decide +kernel
theorem dX5_openedWithin_25 : decode mX5_openedWithin.2.1 25 = .ok (.iconst 1, 1) := by decide +kernel
theorem dX5_openedWithin_26 : decode mX5_openedWithin.2.1 26 = .ok (.goto 4, 3) := by decide +kernel
theorem dX5_openedWithin_29 : decode mX5_openedWithin.2.1 29 = .ok (.iconst 0, 1) := by decide +kernel
theorem dX5_openedWithin_30 : decode mX5_openedWithin.2.1 30 = .ok (.iadd, 1) := by decide +kernel
theorem dX5_openedWithin_31 : decode mX5_openedWithin.2.1 31 = .ok (.istore_n 2, 1) := by decide +kernel
theorem dX5_openedWithin_32 : decode mX5_openedWithin.2.1 32 = .ok (.iinc 3 1, 3) := by decide +kernel
theorem dX5_openedWithin_35 : decode mX5_openedWithin.2.1 35 = .ok (.goto (-31), 3) := by decide +kernel
theorem dX5_openedWithin_38 : decode mX5_openedWithin.2.1 38 = .ok (.iload_n 2, 1) := by decide +kernel
theorem dX5_openedWithin_39 : decode mX5_openedWithin.2.1 39 = .ok (.ireturn, 1) := by decide +kernel
def fn_X5_openedWithin_b30 (n : Nat) (b : Nat) (x1 : Int32) (σ : Sg) (k4 : Int32 → Int32 → Option Int32) (v3 : Int32) (s0 : Int32) (s1 : Int32) : Option Int32 :=
  (k4 (s0 + s1) (v3 + 1))
set_option maxRecDepth 20000 in
set_option maxHeartbeats 4000000 in
theorem ev_X5_openedWithin_b30 (n : Nat) (b : Nat) (hb : ag_Y b) (x1 : Int32) (σ : Sg) (k4 : Int32 → Int32 → Option Int32) (hk4 : ∀ (v2 : Int32) (v3 : Int32), Ev mX5_openedWithin 1 21 (jI σ) 4 [(0, .ref b), (1, .int x1), (2, .int v2), (3, .int v3)] [] σ (k4 v2 v3)) (v3 : Int32) (s0 : Int32) (s1 : Int32) : Ev mX5_openedWithin 1 21 (jI σ) 30 [(0, .ref b), (1, .int x1), (3, .int v3)] [.int s1, .int s0] σ (fn_X5_openedWithin_b30 n b x1 σ k4 v3 s0 s1) := by
  unfold fn_X5_openedWithin_b30
  refine ev_iadd (pc := 30) dX5_openedWithin_30 ?_
  refine ev_istore_n (pc := 31) (i := 2) (lv' := [(2, .int (s0 + s1)), (0, .ref b), (1, .int x1), (3, .int v3)]) dX5_openedWithin_31 rfl (Nat.le_of_ble_eq_true rfl) rfl ?_
  refine ev_iinc (pc := 32) (v := (v3 + 1)) (lv' := [(3, .int (v3 + 1)), (2, .int (s0 + s1)), (0, .ref b), (1, .int x1)]) 3 dX5_openedWithin_32 rfl rfl (Nat.le_of_ble_eq_true rfl) rfl ?_
  refine ev_goto (pc := 35) (tgt := 4) dX5_openedWithin_35 rfl ?_
  refine ev_sub [2, 3, 1, 0] rfl ?_
  exact hk4 (s0 + s1) (v3 + 1)
def fn_X5_openedWithin_b4 (n : Nat) (b : Nat) (x1 : Int32) (σ : Sg)  : Nat → Int32 → Int32 → Option Int32
  | 0 => fun _ _ => none
  | i + 1 => fun v2 v3 =>
  (if (σ (b + 7) 0) ≤ v3 then (some v2)
  else (Option.bind (fn_X5_openingYear b v3 σ) fun q62 =>
  (if q62 = x1 then (fn_X5_openedWithin_b30 n b x1 σ (fn_X5_openedWithin_b4 n b x1 σ i) v3 v2 1)
  else (fn_X5_openedWithin_b30 n b x1 σ (fn_X5_openedWithin_b4 n b x1 σ i) v3 v2 0))))
theorem fn_X5_openedWithin_b4_s (n : Nat) (b : Nat) (x1 : Int32) (σ : Sg)  (i : Nat) (v2 : Int32) (v3 : Int32) : fn_X5_openedWithin_b4 n b x1 σ (i + 1) v2 v3 =
  (if (σ (b + 7) 0) ≤ v3 then (some v2)
  else (Option.bind (fn_X5_openingYear b v3 σ) fun q62 =>
  (if q62 = x1 then (fn_X5_openedWithin_b30 n b x1 σ (fn_X5_openedWithin_b4 n b x1 σ i) v3 v2 1)
  else (fn_X5_openedWithin_b30 n b x1 σ (fn_X5_openedWithin_b4 n b x1 σ i) v3 v2 0)))) := rfl
set_option maxRecDepth 20000 in
set_option maxHeartbeats 4000000 in
theorem ev_X5_openedWithin_b4 (n : Nat) (b : Nat) (hb : ag_Y b) (x1 : Int32) (σ : Sg)  : ∀ (i : Nat) (v2 : Int32) (v3 : Int32), Ev mX5_openedWithin 1 21 (jI σ) 4 [(0, .ref b), (1, .int x1), (2, .int v2), (3, .int v3)] [] σ (fn_X5_openedWithin_b4 n b x1 σ i v2 v3) := by
  intro i
  induction i with
  | zero =>
    intro v2 v3
    exact ev_none
  | succ i ih =>
    intro v2 v3
    rw [fn_X5_openedWithin_b4_s]
    refine ev_iload_n (pc := 4) (i := 3) 3 dX5_openedWithin_4 rfl rfl ?_
    refine ev_aload_n (pc := 5) (i := 0) 0 dX5_openedWithin_5 rfl rfl ?_
    refine ev_getR (pc := 6) (t := (b + 7)) 1 ag_C5 (ag_Yk hb).1 (ag_Yk hb).2 (Nat.le_of_ble_eq_true rfl) (ag_Yt1 hb) rfl ag_fl_X5_21 dX5_openedWithin_6 ?_
    refine ev_getI (pc := 9) 0 ag_C2 (ag_Pk (ag_YP hb)).1 (ag_Pk (ag_YP hb)).2 (Nat.le_of_ble_eq_true rfl) (ag_Pt0 (ag_YP hb)) rfl ag_fl_X5_78 dX5_openedWithin_9 ?_
    refine ev_icmp_ge (pc := 12) (tgt := 38) dX5_openedWithin_12 rfl ?_ ?_
    · refine ev_iload_n (pc := 38) (i := 2) 2 dX5_openedWithin_38 rfl rfl ?_
      exact ev_irI rfl dX5_openedWithin_39
    · refine ev_iload_n (pc := 15) (i := 2) 2 dX5_openedWithin_15 rfl rfl ?_
      refine ev_aload_n (pc := 16) (i := 0) 0 dX5_openedWithin_16 rfl rfl ?_
      refine ev_iload_n (pc := 17) (i := 3) 3 dX5_openedWithin_17 rfl rfl ?_
      refine ev_vI (pc := 18) (as := [.int v3]) (rest := [.int v2]) ⟨5, 167, 10, TX5, tyX5, ag_C5, ⟨(ag_Yk hb).1, (ag_Yk hb).2⟩, mv_X5_openingYear, ag_ml_X5_167, rfl, (Nat.le_of_ble_eq_true rfl), ⟨(Nat.le_of_ble_eq_true rfl), (Nat.le_of_ble_eq_true rfl)⟩, dX5_openedWithin_18⟩ (im_X5_openingYear b hb v3 σ) (fun q62 => ?_)
      refine ev_iload_n (pc := 21) (i := 1) 1 dX5_openedWithin_21 rfl rfl ?_
      refine ev_icmp_ne (pc := 22) (tgt := 29) dX5_openedWithin_22 rfl ?_ ?_
      · refine ev_iconst (pc := 25) (v := 1) dX5_openedWithin_25 (by decide) ?_
        refine ev_goto (pc := 26) (tgt := 30) dX5_openedWithin_26 rfl ?_
        refine ev_sub [0, 1, 3] rfl ?_
        exact ev_X5_openedWithin_b30 n b hb x1 σ (fn_X5_openedWithin_b4 n b x1 σ i) ih v3 v2 1
      · refine ev_iconst (pc := 29) (v := 0) dX5_openedWithin_29 (by decide) ?_
        refine ev_sub [0, 1, 3] rfl ?_
        exact ev_X5_openedWithin_b30 n b hb x1 σ (fn_X5_openedWithin_b4 n b x1 σ i) ih v3 v2 0
def fn_X5_openedWithin (n : Nat) (b : Nat) (x1 : Int32) (σ : Sg) : Option Int32 :=
  (fn_X5_openedWithin_b4 n b x1 σ n 0 0)
set_option maxRecDepth 20000 in
set_option maxHeartbeats 4000000 in
theorem im_X5_openedWithin (n : Nat) (b : Nat) (hb : ag_Y b) (x1 : Int32) (σ : Sg) : Im yX5_openedWithin mX5_openedWithin 1 21 (jI σ) [.ref b, .int x1] σ (fn_X5_openedWithin n b x1 σ) := by
  refine Im.of (by decide +kernel) rfl rfl (Nat.le_of_ble_eq_true rfl) ?_
  show Ev mX5_openedWithin 1 21 (jI σ) 0 [(0, .ref b), (1, .int x1)] [] σ (fn_X5_openedWithin n b x1 σ)
  unfold fn_X5_openedWithin
  refine ev_iconst (pc := 0) (v := 0) dX5_openedWithin_0 (by decide) ?_
  refine ev_istore_n (pc := 1) (i := 2) (lv' := [(2, .int 0), (0, .ref b), (1, .int x1)]) dX5_openedWithin_1 rfl (Nat.le_of_ble_eq_true rfl) rfl ?_
  refine ev_iconst (pc := 2) (v := 0) dX5_openedWithin_2 (by decide) ?_
  refine ev_istore_n (pc := 3) (i := 3) (lv' := [(3, .int 0), (2, .int 0), (0, .ref b), (1, .int x1)]) dX5_openedWithin_3 rfl (Nat.le_of_ble_eq_true rfl) rfl ?_
  refine ev_sub [2, 3, 1, 0] rfl ?_
  exact ev_X5_openedWithin_b4 n b hb x1 σ n 0 0
-- X5_loudestYear
def mX5_loudestYear : Md := (RX5, cX5_loudestYear, 6, some .int, none)
theorem mv_X5_loudestYear : ag_Mv yX5_loudestYear mX5_loudestYear 0 := ⟨ag_co_X5_loudestYear, ag_im_X5_loudestYear, ag_se_X5_loudestYear, ag_ini_X5, by decide +kernel⟩
theorem dX5_loudestYear_0 : decode mX5_loudestYear.2.1 0 = .ok (.iconst (-1), 1) := by decide +kernel
theorem dX5_loudestYear_1 : decode mX5_loudestYear.2.1 1 = .ok (.istore_n 1, 1) := by decide +kernel
theorem dX5_loudestYear_2 : decode mX5_loudestYear.2.1 2 = .ok (.iconst 0, 1) := by decide +kernel
theorem dX5_loudestYear_3 : decode mX5_loudestYear.2.1 3 = .ok (.istore_n 2, 1) := by decide +kernel
theorem dX5_loudestYear_4 : decode mX5_loudestYear.2.1 4 = .ok (.iconst 0, 1) := by decide +kernel
theorem dX5_loudestYear_5 : decode mX5_loudestYear.2.1 5 = .ok (.istore_n 3, 1) := by decide +kernel
theorem dX5_loudestYear_6 : decode mX5_loudestYear.2.1 6 = .ok (.iload_n 3, 1) := by decide +kernel
theorem dX5_loudestYear_7 : decode mX5_loudestYear.2.1 7 = .ok (.aload_n 0, 1) := by decide +kernel
theorem dX5_loudestYear_8 : decode mX5_loudestYear.2.1 8 = .ok (.getfield 21, 3) := by decide +kernel
theorem dX5_loudestYear_11 : decode mX5_loudestYear.2.1 11 = .ok (.getfield 78, 3) := by decide +kernel
theorem dX5_loudestYear_14 : decode mX5_loudestYear.2.1 14 = .ok (.if_icmp .ge 63, 3) := by decide +kernel
theorem dX5_loudestYear_17 : decode mX5_loudestYear.2.1 17 = .ok (.aload_n 0, 1) := by decide +kernel
theorem dX5_loudestYear_18 : decode mX5_loudestYear.2.1 18 = .ok (.iload_n 3, 1) := by decide +kernel
theorem dX5_loudestYear_19 : decode mX5_loudestYear.2.1 19 = .ok (.invokevirtual 167, 3) := by decide +kernel
theorem dX5_loudestYear_22 : decode mX5_loudestYear.2.1 22 = .ok (.istore 4, 2) := by decide +kernel
theorem dX5_loudestYear_24 : decode mX5_loudestYear.2.1 24 = .ok (.iload 4, 2) := by decide +kernel
theorem dX5_loudestYear_26 : decode mX5_loudestYear.2.1 26 = .ok (.iconst (-1), 1) := by decide +kernel
theorem dX5_loudestYear_27 : decode mX5_loudestYear.2.1 27 = .ok (.if_icmp .ne 7, 3) := by decide +kernel
theorem dX5_loudestYear_30 : decode mX5_loudestYear.2.1 30 = .ok (.iconst 0, 1) := by decide +kernel
theorem dX5_loudestYear_31 : decode mX5_loudestYear.2.1 31 = .ok (.goto 9, 3) := by decide +kernel
theorem dX5_loudestYear_34 : decode mX5_loudestYear.2.1 34 = .ok (.aload_n 0, 1) := by decide +kernel
theorem dX5_loudestYear_35 : decode mX5_loudestYear.2.1 35 = .ok (.iload 4, 2) := by decide +kernel
theorem dX5_loudestYear_37 : decode mX5_loudestYear.2.1 37 = .ok (.invokevirtual 170, 3) := by decide +kernel
theorem dX5_loudestYear_40 : decode mX5_loudestYear.2.1 40 = .ok (.istore 5, 2) := by decide +kernel
theorem dX5_loudestYear_42 : decode mX5_loudestYear.2.1 42 = .ok (.iload 5, 2) := by decide +kernel
theorem dX5_loudestYear_44 : decode mX5_loudestYear.2.1 44 = .ok (.iload_n 2, 1) := by decide +kernel
theorem dX5_loudestYear_45 : decode mX5_loudestYear.2.1 45 = .ok (.if_icmp .gt 20, 3) := by decide +kernel
theorem dX5_loudestYear_48 : decode mX5_loudestYear.2.1 48 = .ok (.iload 5, 2) := by decide +kernel
theorem dX5_loudestYear_50 : decode mX5_loudestYear.2.1 50 = .ok (.iload_n 2, 1) := by decide +kernel
theorem dX5_loudestYear_51 : decode mX5_loudestYear.2.1 51 = .ok (.if_icmp .ne 20, 3) := by decide +kernel
theorem dX5_loudestYear_54 : decode mX5_loudestYear.2.1 54 = .ok (.iload 5, 2) := by decide +kernel
theorem dX5_loudestYear_56 : decode mX5_loudestYear.2.1 56 = .ok (.ifCond .le 15, 3) := by decide +kernel
theorem dX5_loudestYear_59 : decode mX5_loudestYear.2.1 59 = .ok (.iload 4, 2) := by decide +kernel
theorem dX5_loudestYear_61 : decode mX5_loudestYear.2.1 61 = .ok (.iload_n 1, 1) := by decide +kernel
theorem dX5_loudestYear_62 : decode mX5_loudestYear.2.1 62 = .ok (.if_icmp .ge 9, 3) := by decide +kernel
theorem dX5_loudestYear_65 : decode mX5_loudestYear.2.1 65 = .ok (.iload 4, 2) := by decide +kernel
theorem dX5_loudestYear_67 : decode mX5_loudestYear.2.1 67 = .ok (.istore_n 1, 1) := by decide +kernel
theorem dX5_loudestYear_68 : decode mX5_loudestYear.2.1 68 = .ok (.iload 5, 2) := by decide +kernel
theorem dX5_loudestYear_70 : decode mX5_loudestYear.2.1 70 = .ok (.istore_n 2, 1) := by decide +kernel
theorem dX5_loudestYear_71 : decode mX5_loudestYear.2.1 71 = .ok (.iinc 3 1, 3) := by decide +kernel
theorem dX5_loudestYear_74 : decode mX5_loudestYear.2.1 74 = .ok (.goto (-68), 3) := by decide +kernel
theorem dX5_loudestYear_77 : decode mX5_loudestYear.2.1 77 = .ok (.iload_n 1, 1) := by decide +kernel
theorem dX5_loudestYear_78 : decode mX5_loudestYear.2.1 78 = .ok (.ireturn, 1) := by decide +kernel
def fn_X5_loudestYear_b71 (n : Nat) (b : Nat) (σ : Sg) (k6 : Int32 → Int32 → Int32 → Option Int32) (v1 : Int32) (v2 : Int32) (v3 : Int32) : Option Int32 :=
  (k6 v1 v2 (v3 + 1))
set_option maxRecDepth 20000 in
set_option maxHeartbeats 4000000 in
theorem ev_X5_loudestYear_b71 (n : Nat) (b : Nat) (hb : ag_Y b) (σ : Sg) (k6 : Int32 → Int32 → Int32 → Option Int32) (hk6 : ∀ (v1 : Int32) (v2 : Int32) (v3 : Int32), Ev mX5_loudestYear 2 44 (jI σ) 6 [(0, .ref b), (1, .int v1), (2, .int v2), (3, .int v3)] [] σ (k6 v1 v2 v3)) (v1 : Int32) (v2 : Int32) (v3 : Int32) : Ev mX5_loudestYear 2 44 (jI σ) 71 [(0, .ref b), (1, .int v1), (2, .int v2), (3, .int v3)] [] σ (fn_X5_loudestYear_b71 n b σ k6 v1 v2 v3) := by
  unfold fn_X5_loudestYear_b71
  refine ev_iinc (pc := 71) (v := (v3 + 1)) (lv' := [(3, .int (v3 + 1)), (0, .ref b), (1, .int v1), (2, .int v2)]) 3 dX5_loudestYear_71 rfl rfl (Nat.le_of_ble_eq_true rfl) rfl ?_
  refine ev_goto (pc := 74) (tgt := 6) dX5_loudestYear_74 rfl ?_
  refine ev_sub [1, 2, 3, 0] rfl ?_
  exact hk6 v1 v2 (v3 + 1)
def fn_X5_loudestYear_b65 (n : Nat) (b : Nat) (σ : Sg) (k6 : Int32 → Int32 → Int32 → Option Int32) (v3 : Int32) (v4 : Int32) (v5 : Int32) : Option Int32 :=
  (fn_X5_loudestYear_b71 n b σ k6 v4 v5 v3)
set_option maxRecDepth 20000 in
set_option maxHeartbeats 4000000 in
theorem ev_X5_loudestYear_b65 (n : Nat) (b : Nat) (hb : ag_Y b) (σ : Sg) (k6 : Int32 → Int32 → Int32 → Option Int32) (hk6 : ∀ (v1 : Int32) (v2 : Int32) (v3 : Int32), Ev mX5_loudestYear 2 44 (jI σ) 6 [(0, .ref b), (1, .int v1), (2, .int v2), (3, .int v3)] [] σ (k6 v1 v2 v3)) (v3 : Int32) (v4 : Int32) (v5 : Int32) : Ev mX5_loudestYear 2 44 (jI σ) 65 [(0, .ref b), (3, .int v3), (4, .int v4), (5, .int v5)] [] σ (fn_X5_loudestYear_b65 n b σ k6 v3 v4 v5) := by
  unfold fn_X5_loudestYear_b65
  refine ev_iload (pc := 65) 2 dX5_loudestYear_65 rfl ?_
  refine ev_istore_n (pc := 67) (i := 1) (lv' := [(1, .int v4), (0, .ref b), (3, .int v3), (4, .int v4), (5, .int v5)]) dX5_loudestYear_67 rfl (Nat.le_of_ble_eq_true rfl) rfl ?_
  refine ev_iload (pc := 68) 4 dX5_loudestYear_68 rfl ?_
  refine ev_istore_n (pc := 70) (i := 2) (lv' := [(2, .int v5), (1, .int v4), (0, .ref b), (3, .int v3), (4, .int v4), (5, .int v5)]) dX5_loudestYear_70 rfl (Nat.le_of_ble_eq_true rfl) rfl ?_
  refine ev_sub [2, 1, 0, 3] rfl ?_
  exact ev_X5_loudestYear_b71 n b hb σ k6 hk6 v4 v5 v3
def fn_X5_loudestYear_b40 (n : Nat) (b : Nat) (σ : Sg) (k6 : Int32 → Int32 → Int32 → Option Int32) (v1 : Int32) (v2 : Int32) (v3 : Int32) (v4 : Int32) (s0 : Int32) : Option Int32 :=
  (if v2 < s0 then (fn_X5_loudestYear_b65 n b σ k6 v3 v4 s0)
  else (if s0 = v2 then (if s0 ≤ 0 then (fn_X5_loudestYear_b71 n b σ k6 v1 v2 v3)
  else (if v1 ≤ v4 then (fn_X5_loudestYear_b71 n b σ k6 v1 v2 v3)
  else (fn_X5_loudestYear_b65 n b σ k6 v3 v4 s0)))
  else (fn_X5_loudestYear_b71 n b σ k6 v1 v2 v3)))
set_option maxRecDepth 20000 in
set_option maxHeartbeats 4000000 in
theorem ev_X5_loudestYear_b40 (n : Nat) (b : Nat) (hb : ag_Y b) (σ : Sg) (k6 : Int32 → Int32 → Int32 → Option Int32) (hk6 : ∀ (v1 : Int32) (v2 : Int32) (v3 : Int32), Ev mX5_loudestYear 2 44 (jI σ) 6 [(0, .ref b), (1, .int v1), (2, .int v2), (3, .int v3)] [] σ (k6 v1 v2 v3)) (v1 : Int32) (v2 : Int32) (v3 : Int32) (v4 : Int32) (s0 : Int32) : Ev mX5_loudestYear 2 44 (jI σ) 40 [(0, .ref b), (1, .int v1), (2, .int v2), (3, .int v3), (4, .int v4)] [.int s0] σ (fn_X5_loudestYear_b40 n b σ k6 v1 v2 v3 v4 s0) := by
  unfold fn_X5_loudestYear_b40
  refine ev_istore (pc := 40) (lv' := [(5, .int s0), (0, .ref b), (1, .int v1), (2, .int v2), (3, .int v3), (4, .int v4)]) dX5_loudestYear_40 (Nat.le_of_ble_eq_true rfl) rfl ?_
  refine ev_iload (pc := 42) 0 dX5_loudestYear_42 rfl ?_
  refine ev_iload_n (pc := 44) (i := 2) 3 dX5_loudestYear_44 rfl rfl ?_
  refine ev_icmp_gt (pc := 45) (tgt := 65) dX5_loudestYear_45 rfl ?_ ?_
  · refine ev_sub [1, 4, 5, 0] rfl ?_
    exact ev_X5_loudestYear_b65 n b hb σ k6 hk6 v3 v4 s0
  · refine ev_iload (pc := 48) 0 dX5_loudestYear_48 rfl ?_
    refine ev_iload_n (pc := 50) (i := 2) 3 dX5_loudestYear_50 rfl rfl ?_
    refine ev_icmp_ne (pc := 51) (tgt := 71) dX5_loudestYear_51 rfl ?_ ?_
    · refine ev_iload (pc := 54) 0 dX5_loudestYear_54 rfl ?_
      refine ev_if_le (pc := 56) (tgt := 71) dX5_loudestYear_56 rfl ?_ ?_
      · refine ev_sub [1, 2, 3, 4] rfl ?_
        exact ev_X5_loudestYear_b71 n b hb σ k6 hk6 v1 v2 v3
      · refine ev_iload (pc := 59) 5 dX5_loudestYear_59 rfl ?_
        refine ev_iload_n (pc := 61) (i := 1) 2 dX5_loudestYear_61 rfl rfl ?_
        refine ev_icmp_ge (pc := 62) (tgt := 71) dX5_loudestYear_62 rfl ?_ ?_
        · refine ev_sub [1, 2, 3, 4] rfl ?_
          exact ev_X5_loudestYear_b71 n b hb σ k6 hk6 v1 v2 v3
        · refine ev_sub [1, 4, 5, 0] rfl ?_
          exact ev_X5_loudestYear_b65 n b hb σ k6 hk6 v3 v4 s0
    · refine ev_sub [1, 2, 3, 4] rfl ?_
      exact ev_X5_loudestYear_b71 n b hb σ k6 hk6 v1 v2 v3
def fn_X5_loudestYear_b6 (n : Nat) (b : Nat) (σ : Sg)  : Nat → Int32 → Int32 → Int32 → Option Int32
  | 0 => fun _ _ _ => none
  | i + 1 => fun v1 v2 v3 =>
  (if (σ (b + 7) 0) ≤ v3 then (some v1)
  else (Option.bind (fn_X5_openingYear b v3 σ) fun q63 =>
  (if q63 = (-1) then (fn_X5_loudestYear_b40 n b σ (fn_X5_loudestYear_b6 n b σ i) v1 v2 v3 q63 0)
  else (Option.bind (fn_X5_openedWithin n b q63 σ) fun q64 =>
  (fn_X5_loudestYear_b40 n b σ (fn_X5_loudestYear_b6 n b σ i) v1 v2 v3 q63 q64)))))
theorem fn_X5_loudestYear_b6_s (n : Nat) (b : Nat) (σ : Sg)  (i : Nat) (v1 : Int32) (v2 : Int32) (v3 : Int32) : fn_X5_loudestYear_b6 n b σ (i + 1) v1 v2 v3 =
  (if (σ (b + 7) 0) ≤ v3 then (some v1)
  else (Option.bind (fn_X5_openingYear b v3 σ) fun q63 =>
  (if q63 = (-1) then (fn_X5_loudestYear_b40 n b σ (fn_X5_loudestYear_b6 n b σ i) v1 v2 v3 q63 0)
  else (Option.bind (fn_X5_openedWithin n b q63 σ) fun q64 =>
  (fn_X5_loudestYear_b40 n b σ (fn_X5_loudestYear_b6 n b σ i) v1 v2 v3 q63 q64))))) := rfl
set_option maxRecDepth 20000 in
set_option maxHeartbeats 4000000 in
theorem ev_X5_loudestYear_b6 (n : Nat) (b : Nat) (hb : ag_Y b) (σ : Sg)  : ∀ (i : Nat) (v1 : Int32) (v2 : Int32) (v3 : Int32), Ev mX5_loudestYear 2 44 (jI σ) 6 [(0, .ref b), (1, .int v1), (2, .int v2), (3, .int v3)] [] σ (fn_X5_loudestYear_b6 n b σ i v1 v2 v3) := by
  intro i
  induction i with
  | zero =>
    intro v1 v2 v3
    exact ev_none
  | succ i ih =>
    intro v1 v2 v3
    rw [fn_X5_loudestYear_b6_s]
    refine ev_iload_n (pc := 6) (i := 3) 3 dX5_loudestYear_6 rfl rfl ?_
    refine ev_aload_n (pc := 7) (i := 0) 0 dX5_loudestYear_7 rfl rfl ?_
    refine ev_getR (pc := 8) (t := (b + 7)) 1 ag_C5 (ag_Yk hb).1 (ag_Yk hb).2 (Nat.le_of_ble_eq_true rfl) (ag_Yt1 hb) rfl ag_fl_X5_21 dX5_loudestYear_8 ?_
    refine ev_getI (pc := 11) 0 ag_C2 (ag_Pk (ag_YP hb)).1 (ag_Pk (ag_YP hb)).2 (Nat.le_of_ble_eq_true rfl) (ag_Pt0 (ag_YP hb)) rfl ag_fl_X5_78 dX5_loudestYear_11 ?_
    refine ev_icmp_ge (pc := 14) (tgt := 77) dX5_loudestYear_14 rfl ?_ ?_
    · refine ev_iload_n (pc := 77) (i := 1) 1 dX5_loudestYear_77 rfl rfl ?_
      exact ev_irI rfl dX5_loudestYear_78
    · refine ev_aload_n (pc := 17) (i := 0) 0 dX5_loudestYear_17 rfl rfl ?_
      refine ev_iload_n (pc := 18) (i := 3) 3 dX5_loudestYear_18 rfl rfl ?_
      refine ev_vI (pc := 19) (as := [.int v3]) (rest := []) ⟨5, 167, 10, TX5, tyX5, ag_C5, ⟨(ag_Yk hb).1, (ag_Yk hb).2⟩, mv_X5_openingYear, ag_ml_X5_167, rfl, (Nat.le_of_ble_eq_true rfl), ⟨(Nat.le_of_ble_eq_true rfl), (Nat.le_of_ble_eq_true rfl)⟩, dX5_loudestYear_19⟩ (im_X5_openingYear b hb v3 σ) (fun q63 => ?_)
      refine ev_istore (pc := 22) (lv' := [(4, .int q63), (0, .ref b), (1, .int v1), (2, .int v2), (3, .int v3)]) dX5_loudestYear_22 (Nat.le_of_ble_eq_true rfl) rfl ?_
      refine ev_iload (pc := 24) 0 dX5_loudestYear_24 rfl ?_
      refine ev_iconst (pc := 26) (v := (-1)) dX5_loudestYear_26 (by decide) ?_
      refine ev_icmp_ne (pc := 27) (tgt := 34) dX5_loudestYear_27 rfl ?_ ?_
      · refine ev_iconst (pc := 30) (v := 0) dX5_loudestYear_30 (by decide) ?_
        refine ev_goto (pc := 31) (tgt := 40) dX5_loudestYear_31 rfl ?_
        refine ev_sub [1, 2, 3, 4, 0] rfl ?_
        exact ev_X5_loudestYear_b40 n b hb σ (fn_X5_loudestYear_b6 n b σ i) ih v1 v2 v3 q63 0
      · refine ev_aload_n (pc := 34) (i := 0) 1 dX5_loudestYear_34 rfl rfl ?_
        refine ev_iload (pc := 35) 0 dX5_loudestYear_35 rfl ?_
        refine ev_vI (pc := 37) (as := [.int q63]) (rest := []) ⟨5, 170, 10, TX5, tyX5, ag_C5, ⟨(ag_Yk hb).1, (ag_Yk hb).2⟩, mv_X5_openedWithin, ag_ml_X5_170, rfl, (Nat.le_of_ble_eq_true rfl), ⟨(Nat.le_of_ble_eq_true rfl), (Nat.le_of_ble_eq_true rfl)⟩, dX5_loudestYear_37⟩ (im_X5_openedWithin n b hb q63 σ) (fun q64 => ?_)
        refine ev_sub [1, 2, 3, 4, 0] rfl ?_
        exact ev_X5_loudestYear_b40 n b hb σ (fn_X5_loudestYear_b6 n b σ i) ih v1 v2 v3 q63 q64
def fn_X5_loudestYear (n : Nat) (b : Nat) (σ : Sg) : Option Int32 :=
  (fn_X5_loudestYear_b6 n b σ n (-1) 0 0)
set_option maxRecDepth 20000 in
set_option maxHeartbeats 4000000 in
theorem im_X5_loudestYear (n : Nat) (b : Nat) (hb : ag_Y b) (σ : Sg) : Im yX5_loudestYear mX5_loudestYear 2 44 (jI σ) [.ref b] σ (fn_X5_loudestYear n b σ) := by
  refine Im.of (by decide +kernel) rfl rfl (Nat.le_of_ble_eq_true rfl) ?_
  show Ev mX5_loudestYear 2 44 (jI σ) 0 [(0, .ref b)] [] σ (fn_X5_loudestYear n b σ)
  unfold fn_X5_loudestYear
  refine ev_iconst (pc := 0) (v := (-1)) dX5_loudestYear_0 (by decide) ?_
  refine ev_istore_n (pc := 1) (i := 1) (lv' := [(1, .int (-1)), (0, .ref b)]) dX5_loudestYear_1 rfl (Nat.le_of_ble_eq_true rfl) rfl ?_
  refine ev_iconst (pc := 2) (v := 0) dX5_loudestYear_2 (by decide) ?_
  refine ev_istore_n (pc := 3) (i := 2) (lv' := [(2, .int 0), (1, .int (-1)), (0, .ref b)]) dX5_loudestYear_3 rfl (Nat.le_of_ble_eq_true rfl) rfl ?_
  refine ev_iconst (pc := 4) (v := 0) dX5_loudestYear_4 (by decide) ?_
  refine ev_istore_n (pc := 5) (i := 3) (lv' := [(3, .int 0), (2, .int 0), (1, .int (-1)), (0, .ref b)]) dX5_loudestYear_5 rfl (Nat.le_of_ble_eq_true rfl) rfl ?_
  refine ev_sub [3, 2, 1, 0] rfl ?_
  exact ev_X5_loudestYear_b6 n b hb σ n (-1) 0 0
