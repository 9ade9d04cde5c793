-- by program (wip/whole/emit.py): each method as a function, and its walk
-- X7_in
def mX7_in : Md := (RX7, cX7_in, 3, some .boolean, none)
theorem ms_X7_in : ag_Ms yX7_in mX7_in 3 := ⟨ag_co_X7_in, ag_st_X7_in, ag_ini_X7, by decide +kernel⟩
theorem dX7_in_0 : decode mX7_in.2.1 0 = .ok (.iload_n 0, 1) := by decide +kernel
theorem dX7_in_1 : decode mX7_in.2.1 1 = .ok (.iload_n 1, 1) := by decide +kernel
theorem dX7_in_2 : decode mX7_in.2.1 2 = .ok (.if_icmp .lt 12, 3) := by decide +kernel
theorem dX7_in_5 : decode mX7_in.2.1 5 = .ok (.iload_n 0, 1) := by decide +kernel
theorem dX7_in_6 : decode mX7_in.2.1 6 = .ok (.iload_n 2, 1) := by decide +kernel
theorem dX7_in_7 : decode mX7_in.2.1 7 = .ok (.if_icmp .gt 7, 3) := by decide +kernel
theorem dX7_in_10 : decode mX7_in.2.1 10 = .ok (.iconst 1, 1) := by decide +kernel
theorem dX7_in_11 : decode mX7_in.2.1 11 = .ok (.goto 4, 3) := by decide +kernel
theorem dX7_in_14 : decode mX7_in.2.1 14 = .ok (.iconst 0, 1) := by decide +kernel
theorem dX7_in_15 : decode mX7_in.2.1 15 = .ok (.ireturn, 1) := by decide +kernel
def fn_X7_in (x0 : Int32) (x1 : Int32) (x2 : Int32) (σ : Sg) : Option Int32 :=
  (if x0 < x1 then (some 0)
  else (if x2 < x0 then (some 0)
  else (some 1)))
set_option maxRecDepth 20000 in
set_option maxHeartbeats 4000000 in
theorem im_X7_in (x0 : Int32) (x1 : Int32) (x2 : Int32) (σ : Sg) : Im yX7_in mX7_in 0 0 (jI σ) [.int x0, .int x1, .int x2] σ (fn_X7_in x0 x1 x2 σ) := by
  refine Im.of (by decide +kernel) rfl rfl (Nat.le_of_ble_eq_true rfl) ?_
  show Ev mX7_in 0 0 (jI σ) 0 [(0, .int x0), (1, .int x1), (2, .int x2)] [] σ (fn_X7_in x0 x1 x2 σ)
  unfold fn_X7_in
  refine ev_iload_n (pc := 0) (i := 0) 0 dX7_in_0 rfl rfl ?_
  refine ev_iload_n (pc := 1) (i := 1) 1 dX7_in_1 rfl rfl ?_
  refine ev_icmp_lt (pc := 2) (tgt := 14) dX7_in_2 rfl ?_ ?_
  · refine ev_iconst (pc := 14) (v := 0) dX7_in_14 (by decide) ?_
    exact ev_brI rfl rfl dX7_in_15
  · refine ev_iload_n (pc := 5) (i := 0) 0 dX7_in_5 rfl rfl ?_
    refine ev_iload_n (pc := 6) (i := 2) 2 dX7_in_6 rfl rfl ?_
    refine ev_icmp_gt (pc := 7) (tgt := 14) dX7_in_7 rfl ?_ ?_
    · refine ev_iconst (pc := 14) (v := 0) dX7_in_14 (by decide) ?_
      exact ev_brI rfl rfl dX7_in_15
    · refine ev_iconst (pc := 10) (v := 1) dX7_in_10 (by decide) ?_
      refine ev_goto (pc := 11) (tgt := 15) dX7_in_11 rfl ?_
      exact ev_brI rfl rfl dX7_in_15
-- X7_isIn
def mX7_isIn : Md := (RX7, cX7_isIn, 2, some .boolean, none)
theorem ms_X7_isIn : ag_Ms yX7_isIn mX7_isIn 2 := ⟨ag_co_X7_isIn, ag_st_X7_isIn, ag_ini_X7, by decide +kernel⟩
theorem dX7_isIn_0 : decode mX7_isIn.2.1 0 = .ok (.iload_n 0, 1) := by decide +kernel
theorem dX7_isIn_1 : decode mX7_isIn.2.1 1 = .ok (.iload_n 1, 1) := by decide +kernel
theorem dX7_isIn_2 : decode mX7_isIn.2.1 2 = .ok (.ishr, 1) := by decide +kernel
theorem dX7_isIn_3 : decode mX7_isIn.2.1 3 = .ok (.iconst 1, 1) := by decide +kernel
theorem dX7_isIn_4 : decode mX7_isIn.2.1 4 = .ok (.iand, 1) := by decide +kernel
theorem dX7_isIn_5 : decode mX7_isIn.2.1 5 = .ok (.iconst 1, 1) := by decide +kernel
theorem dX7_isIn_6 : decode mX7_isIn.2.1 6 = .ok (.if_icmp .ne 7, 3) := by decide +kernel
theorem dX7_isIn_9 : decode mX7_isIn.2.1 9 = .ok (.iconst 1, 1) := by decide +kernel
theorem dX7_isIn_10 : decode mX7_isIn.2.1 10 = .ok (.goto 4, 3) := by decide +kernel
theorem dX7_isIn_13 : decode mX7_isIn.2.1 13 = .ok (.iconst 0, 1) := by decide +kernel
theorem dX7_isIn_14 : decode mX7_isIn.2.1 14 = .ok (.ireturn, 1) := by decide +kernel
def fn_X7_isIn (x0 : Int32) (x1 : Int32) (σ : Sg) : Option Int32 :=
  (if ((x0 >>> (x1 &&& 31)) &&& 1) = 1 then (some 1)
  else (some 0))
set_option maxRecDepth 20000 in
set_option maxHeartbeats 4000000 in
theorem im_X7_isIn (x0 : Int32) (x1 : Int32) (σ : Sg) : Im yX7_isIn mX7_isIn 0 0 (jI σ) [.int x0, .int x1] σ (fn_X7_isIn x0 x1 σ) := by
  refine Im.of (by decide +kernel) rfl rfl (Nat.le_of_ble_eq_true rfl) ?_
  show Ev mX7_isIn 0 0 (jI σ) 0 [(0, .int x0), (1, .int x1)] [] σ (fn_X7_isIn x0 x1 σ)
  unfold fn_X7_isIn
  refine ev_iload_n (pc := 0) (i := 0) 0 dX7_isIn_0 rfl rfl ?_
  refine ev_iload_n (pc := 1) (i := 1) 1 dX7_isIn_1 rfl rfl ?_
  refine ev_ishr (pc := 2) dX7_isIn_2 ?_
  refine ev_iconst (pc := 3) (v := 1) dX7_isIn_3 (by decide) ?_
  refine ev_iand (pc := 4) dX7_isIn_4 ?_
  refine ev_iconst (pc := 5) (v := 1) dX7_isIn_5 (by decide) ?_
  refine ev_icmp_ne (pc := 6) (tgt := 13) dX7_isIn_6 rfl ?_ ?_
  · refine ev_iconst (pc := 9) (v := 1) dX7_isIn_9 (by decide) ?_
    refine ev_goto (pc := 10) (tgt := 14) dX7_isIn_10 rfl ?_
    exact ev_brI rfl rfl dX7_isIn_14
  · refine ev_iconst (pc := 13) (v := 0) dX7_isIn_13 (by decide) ?_
    exact ev_brI rfl rfl dX7_isIn_14
-- X7_ones
def mX7_ones : Md := (RX7, cX7_ones, 3, some .int, none)
theorem ms_X7_ones : ag_Ms yX7_ones mX7_ones 1 := ⟨ag_co_X7_ones, ag_st_X7_ones, ag_ini_X7, by decide +kernel⟩
theorem dX7_ones_0 : decode mX7_ones.2.1 0 = .ok (.iconst 0, 1) := by decide +kernel
theorem dX7_ones_1 : decode mX7_ones.2.1 1 = .ok (.istore_n 1, 1) := by decide +kernel
theorem dX7_ones_2 : decode mX7_ones.2.1 2 = .ok (.iconst 0, 1) := by decide +kernel
theorem dX7_ones_3 : decode mX7_ones.2.1 3 = .ok (.istore_n 2, 1) := by decide +kernel
theorem dX7_ones_4 : decode mX7_ones.2.1 4 = .ok (.iload_n 2, 1) := by decide +kernel
theorem dX7_ones_5 : decode mX7_ones.2.1 5 = .ok (.bipush 12, 2) := by decide +kernel
theorem dX7_ones_7 : decode mX7_ones.2.1 7 = .ok (.if_icmp .ge 17, 3) := by decide +kernel
theorem dX7_ones_10 : decode mX7_ones.2.1 10 = .ok (.iload_n 1, 1) := by decide +kernel
theorem dX7_ones_11 : decode mX7_ones.2.1 11 = .ok (.iload_n 0, 1) := by decide +kernel
theorem dX7_ones_12 : decode mX7_ones.2.1 12 = .ok (.iload_n 2, 1) := by decide +kernel
theorem dX7_ones_13 : decode mX7_ones.2.1 13 = .ok (.ishr, 1) := by decide +kernel
theorem dX7_ones_14 : decode mX7_ones.2.1 14 = .ok (.iconst 1, 1) := by decide +kernel
theorem dX7_ones_15 : decode mX7_ones.2.1 15 = .ok (.iand, 1) := by decide +kernel
theorem dX7_ones_16 : decode mX7_ones.2.1 16 = .ok (.iadd, 1) := by decide +kernel
theorem dX7_ones_17 : decode mX7_ones.2.1 17 = .ok (.istore_n 1, 1) := by decide +kernel
theorem dX7_ones_18 : decode mX7_ones.2.1 18 = .ok (.iinc 2 1, 3) := by decide +kernel
theorem dX7_ones_21 : decode mX7_ones.2.1 21 = .ok (.goto (-17), 3) := by decide +kernel
theorem dX7_ones_24 : decode mX7_ones.2.1 24 = .ok (.iload_n 1, 1) := by decide +kernel
theorem dX7_ones_25 : decode mX7_ones.2.1 25 = .ok (.ireturn, 1) := by decide +kernel
def fn_X7_ones_b4 (n : Nat) (x0 : Int32) (σ : Sg)  : Nat → Int32 → Int32 → Option Int32
  | 0 => fun _ _ => none
  | i + 1 => fun v1 v2 =>
  (if 12 ≤ v2 then (some v1)
  else ((fn_X7_ones_b4 n x0 σ i) (v1 + ((x0 >>> (v2 &&& 31)) &&& 1)) (v2 + 1)))
theorem fn_X7_ones_b4_s (n : Nat) (x0 : Int32) (σ : Sg)  (i : Nat) (v1 : Int32) (v2 : Int32) : fn_X7_ones_b4 n x0 σ (i + 1) v1 v2 =
  (if 12 ≤ v2 then (some v1)
  else ((fn_X7_ones_b4 n x0 σ i) (v1 + ((x0 >>> (v2 &&& 31)) &&& 1)) (v2 + 1))) := rfl
set_option maxRecDepth 20000 in
set_option maxHeartbeats 4000000 in
theorem ev_X7_ones_b4 (n : Nat) (x0 : Int32) (σ : Sg)  : ∀ (i : Nat) (v1 : Int32) (v2 : Int32), Ev mX7_ones 0 0 (jI σ) 4 [(0, .int x0), (1, .int v1), (2, .int v2)] [] σ (fn_X7_ones_b4 n x0 σ i v1 v2) := by
  intro i
  induction i with
  | zero =>
    intro v1 v2
    exact ev_none
  | succ i ih =>
    intro v1 v2
    rw [fn_X7_ones_b4_s]
    refine ev_iload_n (pc := 4) (i := 2) 2 dX7_ones_4 rfl rfl ?_
    refine ev_bipush (pc := 5) (v := 12) dX7_ones_5 (by decide) ?_
    refine ev_icmp_ge (pc := 7) (tgt := 24) dX7_ones_7 rfl ?_ ?_
    · refine ev_iload_n (pc := 24) (i := 1) 1 dX7_ones_24 rfl rfl ?_
      exact ev_irI rfl dX7_ones_25
    · refine ev_iload_n (pc := 10) (i := 1) 1 dX7_ones_10 rfl rfl ?_
      refine ev_iload_n (pc := 11) (i := 0) 0 dX7_ones_11 rfl rfl ?_
      refine ev_iload_n (pc := 12) (i := 2) 2 dX7_ones_12 rfl rfl ?_
      refine ev_ishr (pc := 13) dX7_ones_13 ?_
      refine ev_iconst (pc := 14) (v := 1) dX7_ones_14 (by decide) ?_
      refine ev_iand (pc := 15) dX7_ones_15 ?_
      refine ev_iadd (pc := 16) dX7_ones_16 ?_
      refine ev_istore_n (pc := 17) (i := 1) (lv' := [(1, .int (v1 + ((x0 >>> (v2 &&& 31)) &&& 1))), (0, .int x0), (2, .int v2)]) dX7_ones_17 rfl (Nat.le_of_ble_eq_true rfl) rfl ?_
      refine ev_iinc (pc := 18) (v := (v2 + 1)) (lv' := [(2, .int (v2 + 1)), (1, .int (v1 + ((x0 >>> (v2 &&& 31)) &&& 1))), (0, .int x0)]) 2 dX7_ones_18 rfl rfl (Nat.le_of_ble_eq_true rfl) rfl ?_
      refine ev_goto (pc := 21) (tgt := 4) dX7_ones_21 rfl ?_
      refine ev_sub [2, 1, 0] rfl ?_
      exact ih (v1 + ((x0 >>> (v2 &&& 31)) &&& 1)) (v2 + 1)
def fn_X7_ones (n : Nat) (x0 : Int32) (σ : Sg) : Option Int32 :=
  (fn_X7_ones_b4 n x0 σ n 0 0)
set_option maxRecDepth 20000 in
set_option maxHeartbeats 4000000 in
theorem im_X7_ones (n : Nat) (x0 : Int32) (σ : Sg) : Im yX7_ones mX7_ones 0 0 (jI σ) [.int x0] σ (fn_X7_ones n x0 σ) := by
  refine Im.of (by decide +kernel) rfl rfl (Nat.le_of_ble_eq_true rfl) ?_
  show Ev mX7_ones 0 0 (jI σ) 0 [(0, .int x0)] [] σ (fn_X7_ones n x0 σ)
  unfold fn_X7_ones
  refine ev_iconst (pc := 0) (v := 0) dX7_ones_0 (by decide) ?_
  refine ev_istore_n (pc := 1) (i := 1) (lv' := [(1, .int 0), (0, .int x0)]) dX7_ones_1 rfl (Nat.le_of_ble_eq_true rfl) rfl ?_
  refine ev_iconst (pc := 2) (v := 0) dX7_ones_2 (by decide) ?_
  refine ev_istore_n (pc := 3) (i := 2) (lv' := [(2, .int 0), (1, .int 0), (0, .int x0)]) dX7_ones_3 rfl (Nat.le_of_ble_eq_true rfl) rfl ?_
  refine ev_sub [2, 1, 0] rfl ?_
  exact ev_X7_ones_b4 n x0 σ n 0 0
-- X7_no
def mX7_no : Md := (RX7, cX7_no, 1, some .long, none)
theorem ms_X7_no : ag_Ms yX7_no mX7_no 1 := ⟨ag_co_X7_no, ag_st_X7_no, ag_ini_X7, by decide +kernel⟩
theorem dX7_no_0 : decode mX7_no.2.1 0 = .ok (.ldc2_w 83, 3) := by decide +kernel
theorem dX7_no_3 : decode mX7_no.2.1 3 = .ok (.iload_n 0, 1) := by decide +kernel
theorem dX7_no_4 : decode mX7_no.2.1 4 = .ok (.i2l, 1) := by decide +kernel
theorem dX7_no_5 : decode mX7_no.2.1 5 = .ok (.lsub, 1) := by decide +kernel
theorem dX7_no_6 : decode mX7_no.2.1 6 = .ok (.lreturn, 1) := by decide +kernel
def fn_X7_no (x0 : Int32) (σ : Sg) : Option Int64 :=
  (some ((-9223372036854775808) - x0.toInt64))
set_option maxRecDepth 20000 in
set_option maxHeartbeats 4000000 in
theorem im_X7_no (x0 : Int32) (σ : Sg) : Im yX7_no mX7_no 0 0 (jL σ) [.int x0] σ (fn_X7_no x0 σ) := by
  refine Im.of (by decide +kernel) rfl rfl (Nat.le_of_ble_eq_true rfl) ?_
  show Ev mX7_no 0 0 (jL σ) 0 [(0, .int x0)] [] σ (fn_X7_no x0 σ)
  unfold fn_X7_no
  refine ev_ldc2 (pc := 0) (v := (-9223372036854775808)) dX7_no_0 ag_kl_X7_83 ?_
  refine ev_iload_n (pc := 3) (i := 0) 0 dX7_no_3 rfl rfl ?_
  refine ev_i2l (pc := 4) dX7_no_4 ?_
  refine ev_lsub (pc := 5) dX7_no_5 ?_
  exact ev_lrL rfl dX7_no_6
-- X7_lowest
def mX7_lowest : Md := (RX7, cX7_lowest, 11, some .long, none)
theorem ms_X7_lowest : ag_Ms yX7_lowest mX7_lowest 3 := ⟨ag_co_X7_lowest, ag_st_X7_lowest, ag_ini_X7, by decide +kernel⟩
theorem dX7_lowest_0 : decode mX7_lowest.2.1 0 = .ok (.lload_n 0, 1) := by decide +kernel
theorem dX7_lowest_1 : decode mX7_lowest.2.1 1 = .ok (.lstore 5, 2) := by decide +kernel
theorem dX7_lowest_3 : decode mX7_lowest.2.1 3 = .ok (.lload_n 2, 1) := by decide +kernel
theorem dX7_lowest_4 : decode mX7_lowest.2.1 4 = .ok (.lstore 7, 2) := by decide +kernel
theorem dX7_lowest_6 : decode mX7_lowest.2.1 6 = .ok (.lload 7, 2) := by decide +kernel
theorem dX7_lowest_8 : decode mX7_lowest.2.1 8 = .ok (.lconst 0, 1) := by decide +kernel
theorem dX7_lowest_9 : decode mX7_lowest.2.1 9 = .ok (.lcmp, 1) := by decide +kernel
theorem dX7_lowest_10 : decode mX7_lowest.2.1 10 = .ok (.ifCond .eq 21, 3) := by decide +kernel
theorem dX7_lowest_13 : decode mX7_lowest.2.1 13 = .ok (.lload 5, 2) := by decide +kernel
theorem dX7_lowest_15 : decode mX7_lowest.2.1 15 = .ok (.lload 7, 2) := by decide +kernel
theorem dX7_lowest_17 : decode mX7_lowest.2.1 17 = .ok (.lrem, 1) := by decide +kernel
theorem dX7_lowest_18 : decode mX7_lowest.2.1 18 = .ok (.lstore 9, 2) := by decide +kernel
theorem dX7_lowest_20 : decode mX7_lowest.2.1 20 = .ok (.lload 7, 2) := by decide +kernel
theorem dX7_lowest_22 : decode mX7_lowest.2.1 22 = .ok (.lstore 5, 2) := by decide +kernel
theorem dX7_lowest_24 : decode mX7_lowest.2.1 24 = .ok (.lload 9, 2) := by decide +kernel
theorem dX7_lowest_26 : decode mX7_lowest.2.1 26 = .ok (.lstore 7, 2) := by decide +kernel
theorem dX7_lowest_28 : decode mX7_lowest.2.1 28 = .ok (.goto (-22), 3) := by decide +kernel
theorem dX7_lowest_31 : decode mX7_lowest.2.1 31 = .ok (.iload 4, 2) := by decide +kernel
theorem dX7_lowest_33 : decode mX7_lowest.2.1 33 = .ok (.ifCond .ne 10, 3) := by decide +kernel
theorem dX7_lowest_36 : decode mX7_lowest.2.1 36 = .ok (.lload_n 0, 1) := by decide +kernel
theorem dX7_lowest_37 : decode mX7_lowest.2.1 37 = .ok (.lload 5, 2) := by decide +kernel
theorem dX7_lowest_39 : decode mX7_lowest.2.1 39 = .ok (.ldiv, 1) := by decide +kernel
theorem dX7_lowest_40 : decode mX7_lowest.2.1 40 = .ok (.goto 7, 3) := by decide +kernel
theorem dX7_lowest_43 : decode mX7_lowest.2.1 43 = .ok (.lload_n 2, 1) := by decide +kernel
theorem dX7_lowest_44 : decode mX7_lowest.2.1 44 = .ok (.lload 5, 2) := by decide +kernel
theorem dX7_lowest_46 : decode mX7_lowest.2.1 46 = .ok (.ldiv, 1) := by decide +kernel
theorem dX7_lowest_47 : decode mX7_lowest.2.1 47 = .ok (.lreturn, 1) := by decide +kernel
def fn_X7_lowest_b6 (n : Nat) (x0 : Int64) (x2 : Int64) (x4 : Int32) (σ : Sg)  : Nat → Int64 → Int64 → Option Int64
  | 0 => fun _ _ => none
  | i + 1 => fun v5 v7 =>
  (if (lg_cmp v7 0) = 0 then (if x4 = 0 then (if v5 = 0 then none else (some (x0 / v5)))
  else (if v5 = 0 then none else (some (x2 / v5))))
  else (if v7 = 0 then none else ((fn_X7_lowest_b6 n x0 x2 x4 σ i) v7 (v5 - v5 / v7 * v7))))
theorem fn_X7_lowest_b6_s (n : Nat) (x0 : Int64) (x2 : Int64) (x4 : Int32) (σ : Sg)  (i : Nat) (v5 : Int64) (v7 : Int64) : fn_X7_lowest_b6 n x0 x2 x4 σ (i + 1) v5 v7 =
  (if (lg_cmp v7 0) = 0 then (if x4 = 0 then (if v5 = 0 then none else (some (x0 / v5)))
  else (if v5 = 0 then none else (some (x2 / v5))))
  else (if v7 = 0 then none else ((fn_X7_lowest_b6 n x0 x2 x4 σ i) v7 (v5 - v5 / v7 * v7)))) := rfl
set_option maxRecDepth 20000 in
set_option maxHeartbeats 4000000 in
theorem ev_X7_lowest_b6 (n : Nat) (x0 : Int64) (x2 : Int64) (x4 : Int32) (σ : Sg)  : ∀ (i : Nat) (v5 : Int64) (v7 : Int64), Ev mX7_lowest 0 0 (jL σ) 6 [(0, .long x0), (2, .long x2), (4, .int x4), (5, .long v5), (7, .long v7)] [] σ (fn_X7_lowest_b6 n x0 x2 x4 σ i v5 v7) := by
  intro i
  induction i with
  | zero =>
    intro v5 v7
    exact ev_none
  | succ i ih =>
    intro v5 v7
    rw [fn_X7_lowest_b6_s]
    refine ev_lload (pc := 6) 4 dX7_lowest_6 rfl ?_
    refine ev_lconst (pc := 8) (v := 0) dX7_lowest_8 (by decide) ?_
    refine ev_lcmp (pc := 9) dX7_lowest_9 ?_
    refine ev_if_eq (pc := 10) (tgt := 31) dX7_lowest_10 rfl ?_ ?_
    · refine ev_iload (pc := 31) 2 dX7_lowest_31 rfl ?_
      refine ev_if_ne (pc := 33) (tgt := 43) dX7_lowest_33 rfl ?_ ?_
      · refine ev_lload_n (pc := 36) (i := 0) 0 dX7_lowest_36 rfl rfl ?_
        refine ev_lload (pc := 37) 3 dX7_lowest_37 rfl ?_
        refine ev_ldiv (pc := 39) dX7_lowest_39 ?_
        refine ev_goto (pc := 40) (tgt := 47) dX7_lowest_40 rfl ?_
        exact ev_lrL rfl dX7_lowest_47
      · refine ev_lload_n (pc := 43) (i := 2) 1 dX7_lowest_43 rfl rfl ?_
        refine ev_lload (pc := 44) 3 dX7_lowest_44 rfl ?_
        refine ev_ldiv (pc := 46) dX7_lowest_46 ?_
        exact ev_lrL rfl dX7_lowest_47
    · refine ev_lload (pc := 13) 3 dX7_lowest_13 rfl ?_
      refine ev_lload (pc := 15) 4 dX7_lowest_15 rfl ?_
      refine ev_lrem (pc := 17) dX7_lowest_17 ?_
      refine ev_lstore (pc := 18) (lv' := [(9, .long (v5 - v5 / v7 * v7)), (0, .long x0), (2, .long x2), (4, .int x4), (5, .long v5), (7, .long v7)]) dX7_lowest_18 (Nat.le_of_ble_eq_true rfl) rfl ?_
      refine ev_lload (pc := 20) 5 dX7_lowest_20 rfl ?_
      refine ev_lstore (pc := 22) (lv' := [(5, .long v7), (9, .long (v5 - v5 / v7 * v7)), (0, .long x0), (2, .long x2), (4, .int x4), (7, .long v7)]) dX7_lowest_22 (Nat.le_of_ble_eq_true rfl) rfl ?_
      refine ev_lload (pc := 24) 1 dX7_lowest_24 rfl ?_
      refine ev_lstore (pc := 26) (lv' := [(7, .long (v5 - v5 / v7 * v7)), (5, .long v7), (9, .long (v5 - v5 / v7 * v7)), (0, .long x0), (2, .long x2), (4, .int x4)]) dX7_lowest_26 (Nat.le_of_ble_eq_true rfl) rfl ?_
      refine ev_goto (pc := 28) (tgt := 6) dX7_lowest_28 rfl ?_
      refine ev_sub [3, 4, 5, 1, 0] rfl ?_
      exact ih v7 (v5 - v5 / v7 * v7)
def fn_X7_lowest (n : Nat) (x0 : Int64) (x2 : Int64) (x4 : Int32) (σ : Sg) : Option Int64 :=
  (fn_X7_lowest_b6 n x0 x2 x4 σ n x0 x2)
set_option maxRecDepth 20000 in
set_option maxHeartbeats 4000000 in
theorem im_X7_lowest (n : Nat) (x0 : Int64) (x2 : Int64) (x4 : Int32) (σ : Sg) : Im yX7_lowest mX7_lowest 0 0 (jL σ) [.long x0, .long x2, .int x4] σ (fn_X7_lowest n x0 x2 x4 σ) := by
  refine Im.of (by decide +kernel) rfl rfl (Nat.le_of_ble_eq_true rfl) ?_
  show Ev mX7_lowest 0 0 (jL σ) 0 [(0, .long x0), (2, .long x2), (4, .int x4)] [] σ (fn_X7_lowest n x0 x2 x4 σ)
  unfold fn_X7_lowest
  refine ev_lload_n (pc := 0) (i := 0) 0 dX7_lowest_0 rfl rfl ?_
  refine ev_lstore (pc := 1) (lv' := [(5, .long x0), (0, .long x0), (2, .long x2), (4, .int x4)]) dX7_lowest_1 (Nat.le_of_ble_eq_true rfl) rfl ?_
  refine ev_lload_n (pc := 3) (i := 2) 2 dX7_lowest_3 rfl rfl ?_
  refine ev_lstore (pc := 4) (lv' := [(7, .long x2), (5, .long x0), (0, .long x0), (2, .long x2), (4, .int x4)]) dX7_lowest_4 (Nat.le_of_ble_eq_true rfl) rfl ?_
  refine ev_sub [2, 3, 4, 1, 0] rfl ?_
  exact ev_X7_lowest_b6 n x0 x2 x4 σ n x0 x2
-- X7_isTen
def mX7_isTen : Md := (RX7, cX7_isTen, 1, some .boolean, none)
theorem ms_X7_isTen : ag_Ms yX7_isTen mX7_isTen 1 := ⟨ag_co_X7_isTen, ag_st_X7_isTen, ag_ini_X7, by decide +kernel⟩
theorem dX7_isTen_0 : decode mX7_isTen.2.1 0 = .ok (.iload_n 0, 1) := by decide +kernel
theorem dX7_isTen_1 : decode mX7_isTen.2.1 1 = .ok (.iconst 0, 1) := by decide +kernel
theorem dX7_isTen_2 : decode mX7_isTen.2.1 2 = .ok (.bipush 9, 2) := by decide +kernel
theorem dX7_isTen_4 : decode mX7_isTen.2.1 4 = .ok (.invokestatic 85, 3) := by decide +kernel
theorem dX7_isTen_7 : decode mX7_isTen.2.1 7 = .ok (.ireturn, 1) := by decide +kernel
def fn_X7_isTen (x0 : Int32) (σ : Sg) : Option Int32 :=
  (Option.bind (fn_X7_in x0 0 9 σ) fun q246 =>
  (if ag_bl q246 = true then (some q246) else none))
set_option maxRecDepth 20000 in
set_option maxHeartbeats 4000000 in
theorem im_X7_isTen (x0 : Int32) (σ : Sg) : Im yX7_isTen mX7_isTen 1 22 (jI σ) [.int x0] σ (fn_X7_isTen x0 σ) := by
  refine Im.of (by decide +kernel) rfl rfl (Nat.le_of_ble_eq_true rfl) ?_
  show Ev mX7_isTen 1 22 (jI σ) 0 [(0, .int x0)] [] σ (fn_X7_isTen x0 σ)
  unfold fn_X7_isTen
  refine ev_iload_n (pc := 0) (i := 0) 0 dX7_isTen_0 rfl rfl ?_
  refine ev_iconst (pc := 1) (v := 0) dX7_isTen_1 (by decide) ?_
  refine ev_bipush (pc := 2) (v := 9) dX7_isTen_2 (by decide) ?_
  refine ev_sI (pc := 4) (as := [.int x0, .int 0, .int 9]) (rest := []) ⟨85, ms_X7_in, ag_ml_X7_85, rfl, (Nat.le_of_ble_eq_true rfl), ⟨(Nat.le_of_ble_eq_true rfl), (Nat.le_of_ble_eq_true rfl)⟩, dX7_isTen_4⟩ (im_X7_in x0 0 9 σ) (fun q246 => ?_)
  exact ev_zrI rfl dX7_isTen_7
-- X7_isYear
def mX7_isYear : Md := (RX7, cX7_isYear, 1, some .boolean, none)
theorem ms_X7_isYear : ag_Ms yX7_isYear mX7_isYear 1 := ⟨ag_co_X7_isYear, ag_st_X7_isYear, ag_ini_X7, by decide +kernel⟩
theorem dX7_isYear_0 : decode mX7_isYear.2.1 0 = .ok (.iload_n 0, 1) := by decide +kernel
theorem dX7_isYear_1 : decode mX7_isYear.2.1 1 = .ok (.iconst 0, 1) := by decide +kernel
theorem dX7_isYear_2 : decode mX7_isYear.2.1 2 = .ok (.sipush 199, 3) := by decide +kernel
theorem dX7_isYear_5 : decode mX7_isYear.2.1 5 = .ok (.invokestatic 85, 3) := by decide +kernel
theorem dX7_isYear_8 : decode mX7_isYear.2.1 8 = .ok (.ireturn, 1) := by decide +kernel
def fn_X7_isYear (x0 : Int32) (σ : Sg) : Option Int32 :=
  (Option.bind (fn_X7_in x0 0 199 σ) fun q247 =>
  (if ag_bl q247 = true then (some q247) else none))
set_option maxRecDepth 20000 in
set_option maxHeartbeats 4000000 in
theorem im_X7_isYear (x0 : Int32) (σ : Sg) : Im yX7_isYear mX7_isYear 1 22 (jI σ) [.int x0] σ (fn_X7_isYear x0 σ) := by
  refine Im.of (by decide +kernel) rfl rfl (Nat.le_of_ble_eq_true rfl) ?_
  show Ev mX7_isYear 1 22 (jI σ) 0 [(0, .int x0)] [] σ (fn_X7_isYear x0 σ)
  unfold fn_X7_isYear
  refine ev_iload_n (pc := 0) (i := 0) 0 dX7_isYear_0 rfl rfl ?_
  refine ev_iconst (pc := 1) (v := 0) dX7_isYear_1 (by decide) ?_
  refine ev_sipush (pc := 2) (v := 199) dX7_isYear_2 (by decide) ?_
  refine ev_sI (pc := 5) (as := [.int x0, .int 0, .int 199]) (rest := []) ⟨85, ms_X7_in, ag_ml_X7_85, rfl, (Nat.le_of_ble_eq_true rfl), ⟨(Nat.le_of_ble_eq_true rfl), (Nat.le_of_ble_eq_true rfl)⟩, dX7_isYear_5⟩ (im_X7_in x0 0 199 σ) (fun q247 => ?_)
  exact ev_zrI rfl dX7_isYear_8
-- X7_isWord
def mX7_isWord : Md := (RX7, cX7_isWord, 1, some .boolean, none)
theorem ms_X7_isWord : ag_Ms yX7_isWord mX7_isWord 1 := ⟨ag_co_X7_isWord, ag_st_X7_isWord, ag_ini_X7, by decide +kernel⟩
theorem dX7_isWord_0 : decode mX7_isWord.2.1 0 = .ok (.iload_n 0, 1) := by decide +kernel
theorem dX7_isWord_1 : decode mX7_isWord.2.1 1 = .ok (.iconst 0, 1) := by decide +kernel
theorem dX7_isWord_2 : decode mX7_isWord.2.1 2 = .ok (.bipush 7, 2) := by decide +kernel
theorem dX7_isWord_4 : decode mX7_isWord.2.1 4 = .ok (.invokestatic 85, 3) := by decide +kernel
theorem dX7_isWord_7 : decode mX7_isWord.2.1 7 = .ok (.ireturn, 1) := by decide +kernel
def fn_X7_isWord (x0 : Int32) (σ : Sg) : Option Int32 :=
  (Option.bind (fn_X7_in x0 0 7 σ) fun q248 =>
  (if ag_bl q248 = true then (some q248) else none))
set_option maxRecDepth 20000 in
set_option maxHeartbeats 4000000 in
theorem im_X7_isWord (x0 : Int32) (σ : Sg) : Im yX7_isWord mX7_isWord 1 22 (jI σ) [.int x0] σ (fn_X7_isWord x0 σ) := by
  refine Im.of (by decide +kernel) rfl rfl (Nat.le_of_ble_eq_true rfl) ?_
  show Ev mX7_isWord 1 22 (jI σ) 0 [(0, .int x0)] [] σ (fn_X7_isWord x0 σ)
  unfold fn_X7_isWord
  refine ev_iload_n (pc := 0) (i := 0) 0 dX7_isWord_0 rfl rfl ?_
  refine ev_iconst (pc := 1) (v := 0) dX7_isWord_1 (by decide) ?_
  refine ev_bipush (pc := 2) (v := 7) dX7_isWord_2 (by decide) ?_
  refine ev_sI (pc := 4) (as := [.int x0, .int 0, .int 7]) (rest := []) ⟨85, ms_X7_in, ag_ml_X7_85, rfl, (Nat.le_of_ble_eq_true rfl), ⟨(Nat.le_of_ble_eq_true rfl), (Nat.le_of_ble_eq_true rfl)⟩, dX7_isWord_4⟩ (im_X7_in x0 0 7 σ) (fun q248 => ?_)
  exact ev_zrI rfl dX7_isWord_7
-- X7_type
def mX7_type : Md := (RX7, cX7_type, 2, some .int, none)
theorem mv_X7_type : ag_Mv yX7_type mX7_type 1 := ⟨ag_co_X7_type, ag_im_X7_type, ag_se_X7_type, ag_ini_X7, by decide +kernel⟩
theorem dX7_type_0 : decode mX7_type.2.1 0 = .ok (.iload_n 1, 1) := by decide +kernel
theorem dX7_type_1 : decode mX7_type.2.1 1 = .ok (.iconst 0, 1) := by decide +kernel
theorem dX7_type_2 : decode mX7_type.2.1 2 = .ok (.sipush 255, 3) := by decide +kernel
theorem dX7_type_5 : decode mX7_type.2.1 5 = .ok (.invokestatic 85, 3) := by decide +kernel
theorem dX7_type_8 : decode mX7_type.2.1 8 = .ok (.ifCond .ne 6, 3) := by decide +kernel
theorem dX7_type_11 : decode mX7_type.2.1 11 = .ok (.bipush (-2), 2) := by decide +kernel
theorem dX7_type_13 : decode mX7_type.2.1 13 = .ok (.ireturn, 1) := by decide +kernel
theorem dX7_type_14 : decode mX7_type.2.1 14 = .ok (.aload_n 0, 1) := by decide +kernel
theorem dX7_type_15 : decode mX7_type.2.1 15 = .ok (.getfield 89, 3) := by decide +kernel
theorem dX7_type_18 : decode mX7_type.2.1 18 = .ok (.bipush 59, 2) := by decide +kernel
theorem dX7_type_20 : decode mX7_type.2.1 20 = .ok (.if_icmp .ne 6, 3) := by decide +kernel
theorem dX7_type_23 : decode mX7_type.2.1 23 = .ok (.bipush (-4), 2) := by decide +kernel
theorem dX7_type_25 : decode mX7_type.2.1 25 = .ok (.ireturn, 1) := by decide +kernel
theorem dX7_type_26 : decode mX7_type.2.1 26 = .ok (.aload_n 0, 1) := by decide +kernel
theorem dX7_type_27 : decode mX7_type.2.1 27 = .ok (.getfield 7, 3) := by decide +kernel
theorem dX7_type_30 : decode mX7_type.2.1 30 = .ok (.aload_n 0, 1) := by decide +kernel
theorem dX7_type_31 : decode mX7_type.2.1 31 = .ok (.getfield 89, 3) := by decide +kernel
theorem dX7_type_34 : decode mX7_type.2.1 34 = .ok (.iload_n 1, 1) := by decide +kernel
theorem dX7_type_35 : decode mX7_type.2.1 35 = .ok (.iastore, 1) := by decide +kernel
theorem dX7_type_36 : decode mX7_type.2.1 36 = .ok (.aload_n 0, 1) := by decide +kernel
theorem dX7_type_37 : decode mX7_type.2.1 37 = .ok (.dup, 1) := by decide +kernel
theorem dX7_type_38 : decode mX7_type.2.1 38 = .ok (.getfield 89, 3) := by decide +kernel
theorem dX7_type_41 : decode mX7_type.2.1 41 = .ok (.iconst 1, 1) := by decide +kernel
theorem dX7_type_42 : decode mX7_type.2.1 42 = .ok (.iadd, 1) := by decide +kernel
theorem dX7_type_43 : decode mX7_type.2.1 43 = .ok (.putfield 89, 3) := by decide +kernel
theorem dX7_type_46 : decode mX7_type.2.1 46 = .ok (.aload_n 0, 1) := by decide +kernel
theorem dX7_type_47 : decode mX7_type.2.1 47 = .ok (.getfield 89, 3) := by decide +kernel
theorem dX7_type_50 : decode mX7_type.2.1 50 = .ok (.ireturn, 1) := by decide +kernel
def fn_X7_type (x1 : Int32) (σ : Sg) : Option (Int32 × Sg) :=
  (Option.bind (fn_X7_in x1 0 255 σ) fun q249 =>
  (if q249 = 0 then (some ((-2), σ))
  else (if (σ 53 1) = 59 then (some ((-4), σ))
  else (if ag_ib (σ 53 1) 59 = true then (ag_sg (ag_up (ag_up σ 54 (σ 53 1).toNatClampNeg x1) 53 1 (((ag_up σ 54 (σ 53 1).toNatClampNeg x1) 53 1) + 1)) fun t250 =>
  (some ((t250 53 1), t250))) else none))))
set_option maxRecDepth 20000 in
set_option maxHeartbeats 4000000 in
theorem im_X7_type (x1 : Int32) (σ : Sg) : Im yX7_type mX7_type 1 22 jW [.ref 53, .int x1] σ (fn_X7_type x1 σ) := by
  refine Im.of (by decide +kernel) rfl rfl (Nat.le_of_ble_eq_true rfl) ?_
  show Ev mX7_type 1 22 jW 0 [(0, .ref 53), (1, .int x1)] [] σ (fn_X7_type x1 σ)
  unfold fn_X7_type
  refine ev_iload_n (pc := 0) (i := 1) 1 dX7_type_0 rfl rfl ?_
  refine ev_iconst (pc := 1) (v := 0) dX7_type_1 (by decide) ?_
  refine ev_sipush (pc := 2) (v := 255) dX7_type_2 (by decide) ?_
  refine ev_sI (pc := 5) (as := [.int x1, .int 0, .int 255]) (rest := []) ⟨85, ms_X7_in, ag_ml_X7_85, rfl, (Nat.le_of_ble_eq_true rfl), ⟨(Nat.le_of_ble_eq_true rfl), (Nat.le_of_ble_eq_true rfl)⟩, dX7_type_5⟩ (im_X7_in x1 0 255 σ) (fun q249 => ?_)
  refine ev_if_ne (pc := 8) (tgt := 14) dX7_type_8 rfl ?_ ?_
  · refine ev_bipush (pc := 11) (v := (-2)) dX7_type_11 (by decide) ?_
    exact ev_irW rfl dX7_type_13
  · refine ev_aload_n (pc := 14) (i := 0) 0 dX7_type_14 rfl rfl ?_
    refine ev_getI (pc := 15) 1 ag_C7 (rfl) (by decide) (Nat.le_of_ble_eq_true rfl) rfl rfl ag_fl_X7_89 dX7_type_15 ?_
    refine ev_bipush (pc := 18) (v := 59) dX7_type_18 (by decide) ?_
    refine ev_icmp_ne (pc := 20) (tgt := 26) dX7_type_20 rfl ?_ ?_
    · refine ev_bipush (pc := 23) (v := (-4)) dX7_type_23 (by decide) ?_
      exact ev_irW rfl dX7_type_25
    · refine ev_aload_n (pc := 26) (i := 0) 0 dX7_type_26 rfl rfl ?_
      refine ev_getR (pc := 27) (t := 54) 0 ag_C7 (rfl) (by decide) (Nat.le_of_ble_eq_true rfl) rfl rfl ag_fl_X7_7 dX7_type_27 ?_
      refine ev_aload_n (pc := 30) (i := 0) 0 dX7_type_30 rfl rfl ?_
      refine ev_getI (pc := 31) 1 ag_C7 (rfl) (by decide) (Nat.le_of_ble_eq_true rfl) rfl rfl ag_fl_X7_89 dX7_type_31 ?_
      refine ev_iload_n (pc := 34) (i := 1) 1 dX7_type_34 rfl rfl ?_
      refine ev_iast (pc := 35) (rfl) (by decide) dX7_type_35 ?_
      refine ev_aload_n (pc := 36) (i := 0) 0 dX7_type_36 rfl rfl ?_
      refine ev_dup (pc := 37) dX7_type_37 rfl ?_
      refine ev_getI (pc := 38) 1 ag_C7 (rfl) (by decide) (Nat.le_of_ble_eq_true rfl) rfl rfl ag_fl_X7_89 dX7_type_38 ?_
      refine ev_iconst (pc := 41) (v := 1) dX7_type_41 (by decide) ?_
      refine ev_iadd (pc := 42) dX7_type_42 ?_
      refine ev_put (pc := 43) 1 ag_C7 (rfl) (by decide) (Nat.le_of_ble_eq_true rfl) rfl rfl ag_fl_X7_89 rfl rfl rfl dX7_type_43 ?_
      refine ev_sg (fun t250 => ?_)
      refine ev_aload_n (pc := 46) (i := 0) 0 dX7_type_46 rfl rfl ?_
      refine ev_getI (pc := 47) 1 ag_C7 (rfl) (by decide) (Nat.le_of_ble_eq_true rfl) rfl rfl ag_fl_X7_89 dX7_type_47 ?_
      exact ev_irW rfl dX7_type_50
-- X7_wipe
def mX7_wipe : Md := (RX7, cX7_wipe, 2, some .int, none)
theorem mv_X7_wipe : ag_Mv yX7_wipe mX7_wipe 0 := ⟨ag_co_X7_wipe, ag_im_X7_wipe, ag_se_X7_wipe, ag_ini_X7, by decide +kernel⟩
theorem dX7_wipe_0 : decode mX7_wipe.2.1 0 = .ok (.aload_n 0, 1) := by decide +kernel
theorem dX7_wipe_1 : decode mX7_wipe.2.1 1 = .ok (.getfield 89, 3) := by decide +kernel
theorem dX7_wipe_4 : decode mX7_wipe.2.1 4 = .ok (.istore_n 1, 1) := by decide +kernel
theorem dX7_wipe_5 : decode mX7_wipe.2.1 5 = .ok (.aload_n 0, 1) := by decide +kernel
theorem dX7_wipe_6 : decode mX7_wipe.2.1 6 = .ok (.iconst 0, 1) := by decide +kernel
theorem dX7_wipe_7 : decode mX7_wipe.2.1 7 = .ok (.putfield 89, 3) := by decide +kernel
theorem dX7_wipe_10 : decode mX7_wipe.2.1 10 = .ok (.iload_n 1, 1) := by decide +kernel
theorem dX7_wipe_11 : decode mX7_wipe.2.1 11 = .ok (.ireturn, 1) := by decide +kernel
def fn_X7_wipe  (σ : Sg) : Option (Int32 × Sg) :=
  (some ((σ 53 1), (ag_up σ 53 1 0)))
set_option maxRecDepth 20000 in
set_option maxHeartbeats 4000000 in
theorem im_X7_wipe  (σ : Sg) : Im yX7_wipe mX7_wipe 0 0 jW [.ref 53] σ (fn_X7_wipe  σ) := by
  refine Im.of (by decide +kernel) rfl rfl (Nat.le_of_ble_eq_true rfl) ?_
  show Ev mX7_wipe 0 0 jW 0 [(0, .ref 53)] [] σ (fn_X7_wipe  σ)
  unfold fn_X7_wipe
  refine ev_aload_n (pc := 0) (i := 0) 0 dX7_wipe_0 rfl rfl ?_
  refine ev_getI (pc := 1) 1 ag_C7 (rfl) (by decide) (Nat.le_of_ble_eq_true rfl) rfl rfl ag_fl_X7_89 dX7_wipe_1 ?_
  refine ev_istore_n (pc := 4) (i := 1) (lv' := [(1, .int (σ 53 1)), (0, .ref 53)]) dX7_wipe_4 rfl (Nat.le_of_ble_eq_true rfl) rfl ?_
  refine ev_aload_n (pc := 5) (i := 0) 1 dX7_wipe_5 rfl rfl ?_
  refine ev_iconst (pc := 6) (v := 0) dX7_wipe_6 (by decide) ?_
  refine ev_put (pc := 7) 1 ag_C7 (rfl) (by decide) (Nat.le_of_ble_eq_true rfl) rfl rfl ag_fl_X7_89 rfl rfl rfl dX7_wipe_7 ?_
  refine ev_iload_n (pc := 10) (i := 1) 0 dX7_wipe_10 rfl rfl ?_
  exact ev_irW rfl dX7_wipe_11
-- X7_undo
def mX7_undo : Md := (RX7, cX7_undo, 1, some .int, none)
theorem mv_X7_undo : ag_Mv yX7_undo mX7_undo 0 := ⟨ag_co_X7_undo, ag_im_X7_undo, ag_se_X7_undo, ag_ini_X7, by decide +kernel⟩
theorem dX7_undo_0 : decode mX7_undo.2.1 0 = .ok (.aload_n 0, 1) := by decide +kernel
theorem dX7_undo_1 : decode mX7_undo.2.1 1 = .ok (.getfield 89, 3) := by decide +kernel
theorem dX7_undo_4 : decode mX7_undo.2.1 4 = .ok (.ifCond .ne 6, 3) := by decide +kernel
theorem dX7_undo_7 : decode mX7_undo.2.1 7 = .ok (.bipush (-3), 2) := by decide +kernel
theorem dX7_undo_9 : decode mX7_undo.2.1 9 = .ok (.ireturn, 1) := by decide +kernel
theorem dX7_undo_10 : decode mX7_undo.2.1 10 = .ok (.aload_n 0, 1) := by decide +kernel
theorem dX7_undo_11 : decode mX7_undo.2.1 11 = .ok (.dup, 1) := by decide +kernel
theorem dX7_undo_12 : decode mX7_undo.2.1 12 = .ok (.getfield 89, 3) := by decide +kernel
theorem dX7_undo_15 : decode mX7_undo.2.1 15 = .ok (.iconst 1, 1) := by decide +kernel
theorem dX7_undo_16 : decode mX7_undo.2.1 16 = .ok (.isub, 1) := by decide +kernel
theorem dX7_undo_17 : decode mX7_undo.2.1 17 = .ok (.putfield 89, 3) := by decide +kernel
theorem dX7_undo_20 : decode mX7_undo.2.1 20 = .ok (.aload_n 0, 1) := by decide +kernel
theorem dX7_undo_21 : decode mX7_undo.2.1 21 = .ok (.getfield 89, 3) := by decide +kernel
theorem dX7_undo_24 : decode mX7_undo.2.1 24 = .ok (.ireturn, 1) := by decide +kernel
def fn_X7_undo  (σ : Sg) : Option (Int32 × Sg) :=
  (if (σ 53 1) = 0 then (some ((-3), σ))
  else (some (((ag_up σ 53 1 ((σ 53 1) - 1)) 53 1), (ag_up σ 53 1 ((σ 53 1) - 1)))))
set_option maxRecDepth 20000 in
set_option maxHeartbeats 4000000 in
theorem im_X7_undo  (σ : Sg) : Im yX7_undo mX7_undo 0 0 jW [.ref 53] σ (fn_X7_undo  σ) := by
  refine Im.of (by decide +kernel) rfl rfl (Nat.le_of_ble_eq_true rfl) ?_
  show Ev mX7_undo 0 0 jW 0 [(0, .ref 53)] [] σ (fn_X7_undo  σ)
  unfold fn_X7_undo
  refine ev_aload_n (pc := 0) (i := 0) 0 dX7_undo_0 rfl rfl ?_
  refine ev_getI (pc := 1) 1 ag_C7 (rfl) (by decide) (Nat.le_of_ble_eq_true rfl) rfl rfl ag_fl_X7_89 dX7_undo_1 ?_
  refine ev_if_ne (pc := 4) (tgt := 10) dX7_undo_4 rfl ?_ ?_
  · refine ev_bipush (pc := 7) (v := (-3)) dX7_undo_7 (by decide) ?_
    exact ev_irW rfl dX7_undo_9
  · refine ev_aload_n (pc := 10) (i := 0) 0 dX7_undo_10 rfl rfl ?_
    refine ev_dup (pc := 11) dX7_undo_11 rfl ?_
    refine ev_getI (pc := 12) 1 ag_C7 (rfl) (by decide) (Nat.le_of_ble_eq_true rfl) rfl rfl ag_fl_X7_89 dX7_undo_12 ?_
    refine ev_iconst (pc := 15) (v := 1) dX7_undo_15 (by decide) ?_
    refine ev_isub (pc := 16) dX7_undo_16 ?_
    refine ev_put (pc := 17) 1 ag_C7 (rfl) (by decide) (Nat.le_of_ble_eq_true rfl) rfl rfl ag_fl_X7_89 rfl rfl rfl dX7_undo_17 ?_
    refine ev_aload_n (pc := 20) (i := 0) 0 dX7_undo_20 rfl rfl ?_
    refine ev_getI (pc := 21) 1 ag_C7 (rfl) (by decide) (Nat.le_of_ble_eq_true rfl) rfl rfl ag_fl_X7_89 dX7_undo_21 ?_
    exact ev_irW rfl dX7_undo_24
-- X7_figureAt
def mX7_figureAt : Md := (RX7, cX7_figureAt, 3, some .int, none)
theorem mv_X7_figureAt : ag_Mv yX7_figureAt mX7_figureAt 1 := ⟨ag_co_X7_figureAt, ag_im_X7_figureAt, ag_se_X7_figureAt, ag_ini_X7, by decide +kernel⟩
theorem dX7_figureAt_0 : decode mX7_figureAt.2.1 0 = .ok (.iload_n 1, 1) := by decide +kernel
theorem dX7_figureAt_1 : decode mX7_figureAt.2.1 1 = .ok (.aload_n 0, 1) := by decide +kernel
theorem dX7_figureAt_2 : decode mX7_figureAt.2.1 2 = .ok (.getfield 89, 3) := by decide +kernel
theorem dX7_figureAt_5 : decode mX7_figureAt.2.1 5 = .ok (.if_icmp .ge 15, 3) := by decide +kernel
theorem dX7_figureAt_8 : decode mX7_figureAt.2.1 8 = .ok (.aload_n 0, 1) := by decide +kernel
theorem dX7_figureAt_9 : decode mX7_figureAt.2.1 9 = .ok (.getfield 7, 3) := by decide +kernel
theorem dX7_figureAt_12 : decode mX7_figureAt.2.1 12 = .ok (.iload_n 1, 1) := by decide +kernel
theorem dX7_figureAt_13 : decode mX7_figureAt.2.1 13 = .ok (.iaload, 1) := by decide +kernel
theorem dX7_figureAt_14 : decode mX7_figureAt.2.1 14 = .ok (.bipush 48, 2) := by decide +kernel
theorem dX7_figureAt_16 : decode mX7_figureAt.2.1 16 = .ok (.isub, 1) := by decide +kernel
theorem dX7_figureAt_17 : decode mX7_figureAt.2.1 17 = .ok (.goto 4, 3) := by decide +kernel
theorem dX7_figureAt_20 : decode mX7_figureAt.2.1 20 = .ok (.iconst (-1), 1) := by decide +kernel
theorem dX7_figureAt_21 : decode mX7_figureAt.2.1 21 = .ok (.istore_n 2, 1) := by decide +kernel
theorem dX7_figureAt_22 : decode mX7_figureAt.2.1 22 = .ok (.iload_n 2, 1) := by decide +kernel
theorem dX7_figureAt_23 : decode mX7_figureAt.2.1 23 = .ok (.iconst 0, 1) := by decide +kernel
theorem dX7_figureAt_24 : decode mX7_figureAt.2.1 24 = .ok (.bipush 9, 2) := by decide +kernel
theorem dX7_figureAt_26 : decode mX7_figureAt.2.1 26 = .ok (.invokestatic 85, 3) := by decide +kernel
theorem dX7_figureAt_29 : decode mX7_figureAt.2.1 29 = .ok (.ifCond .eq 7, 3) := by decide +kernel
theorem dX7_figureAt_32 : decode mX7_figureAt.2.1 32 = .ok (.iload_n 2, 1) := by decide +kernel
theorem dX7_figureAt_33 : decode mX7_figureAt.2.1 33 = .ok (.goto 4, 3) := by decide +kernel
theorem dX7_figureAt_36 : decode mX7_figureAt.2.1 36 = .ok (.iconst (-1), 1) := by decide +kernel
theorem dX7_figureAt_37 : decode mX7_figureAt.2.1 37 = .ok (.ireturn, 1) := by decide +kernel
def fn_X7_figureAt_b21 (x1 : Int32) (σ : Sg)  (s0 : Int32) : Option Int32 :=
  (Option.bind (fn_X7_in s0 0 9 σ) fun q251 =>
  (if q251 = 0 then (some (-1))
  else (some s0)))
set_option maxRecDepth 20000 in
set_option maxHeartbeats 4000000 in
theorem ev_X7_figureAt_b21 (x1 : Int32) (σ : Sg)  (s0 : Int32) : Ev mX7_figureAt 1 22 (jI σ) 21 [(0, .ref 53), (1, .int x1)] [.int s0] σ (fn_X7_figureAt_b21 x1 σ s0) := by
  unfold fn_X7_figureAt_b21
  refine ev_istore_n (pc := 21) (i := 2) (lv' := [(2, .int s0), (0, .ref 53), (1, .int x1)]) dX7_figureAt_21 rfl (Nat.le_of_ble_eq_true rfl) rfl ?_
  refine ev_iload_n (pc := 22) (i := 2) 0 dX7_figureAt_22 rfl rfl ?_
  refine ev_iconst (pc := 23) (v := 0) dX7_figureAt_23 (by decide) ?_
  refine ev_bipush (pc := 24) (v := 9) dX7_figureAt_24 (by decide) ?_
  refine ev_sI (pc := 26) (as := [.int s0, .int 0, .int 9]) (rest := []) ⟨85, ms_X7_in, ag_ml_X7_85, rfl, (Nat.le_of_ble_eq_true rfl), ⟨(Nat.le_of_ble_eq_true rfl), (Nat.le_of_ble_eq_true rfl)⟩, dX7_figureAt_26⟩ (im_X7_in s0 0 9 σ) (fun q251 => ?_)
  refine ev_if_eq (pc := 29) (tgt := 36) dX7_figureAt_29 rfl ?_ ?_
  · refine ev_iconst (pc := 36) (v := (-1)) dX7_figureAt_36 (by decide) ?_
    exact ev_irI rfl dX7_figureAt_37
  · refine ev_iload_n (pc := 32) (i := 2) 0 dX7_figureAt_32 rfl rfl ?_
    refine ev_goto (pc := 33) (tgt := 37) dX7_figureAt_33 rfl ?_
    exact ev_irI rfl dX7_figureAt_37
def fn_X7_figureAt (x1 : Int32) (σ : Sg) : Option Int32 :=
  (if (σ 53 1) ≤ x1 then (fn_X7_figureAt_b21 x1 σ (-1))
  else (if ag_ib x1 59 = true then (fn_X7_figureAt_b21 x1 σ ((σ 54 x1.toNatClampNeg) - 48)) else none))
set_option maxRecDepth 20000 in
set_option maxHeartbeats 4000000 in
theorem im_X7_figureAt (x1 : Int32) (σ : Sg) : Im yX7_figureAt mX7_figureAt 1 22 (jI σ) [.ref 53, .int x1] σ (fn_X7_figureAt x1 σ) := by
  refine Im.of (by decide +kernel) rfl rfl (Nat.le_of_ble_eq_true rfl) ?_
  show Ev mX7_figureAt 1 22 (jI σ) 0 [(0, .ref 53), (1, .int x1)] [] σ (fn_X7_figureAt x1 σ)
  unfold fn_X7_figureAt
  refine ev_iload_n (pc := 0) (i := 1) 1 dX7_figureAt_0 rfl rfl ?_
  refine ev_aload_n (pc := 1) (i := 0) 0 dX7_figureAt_1 rfl rfl ?_
  refine ev_getI (pc := 2) 1 ag_C7 (rfl) (by decide) (Nat.le_of_ble_eq_true rfl) rfl rfl ag_fl_X7_89 dX7_figureAt_2 ?_
  refine ev_icmp_ge (pc := 5) (tgt := 20) dX7_figureAt_5 rfl ?_ ?_
  · refine ev_iconst (pc := 20) (v := (-1)) dX7_figureAt_20 (by decide) ?_
    exact ev_X7_figureAt_b21 x1 σ (-1)
  · refine ev_aload_n (pc := 8) (i := 0) 0 dX7_figureAt_8 rfl rfl ?_
    refine ev_getR (pc := 9) (t := 54) 0 ag_C7 (rfl) (by decide) (Nat.le_of_ble_eq_true rfl) rfl rfl ag_fl_X7_7 dX7_figureAt_9 ?_
    refine ev_iload_n (pc := 12) (i := 1) 1 dX7_figureAt_12 rfl rfl ?_
    refine ev_iald (pc := 13) (rfl) (by decide) dX7_figureAt_13 ?_
    refine ev_bipush (pc := 14) (v := 48) dX7_figureAt_14 (by decide) ?_
    refine ev_isub (pc := 16) dX7_figureAt_16 ?_
    refine ev_goto (pc := 17) (tgt := 21) dX7_figureAt_17 rfl ?_
    exact ev_X7_figureAt_b21 x1 σ ((σ 54 x1.toNatClampNeg) - 48)
-- X7_faultNow
def mX7_faultNow : Md := (RX7, cX7_faultNow, 7, some .int, none)
theorem mv_X7_faultNow : ag_Mv yX7_faultNow mX7_faultNow 0 := ⟨ag_co_X7_faultNow, ag_im_X7_faultNow, ag_se_X7_faultNow, ag_ini_X7, by decide +kernel⟩
theorem dX7_faultNow_0 : decode mX7_faultNow.2.1 0 = .ok (.aload_n 0, 1) := by decide +kernel
theorem dX7_faultNow_1 : decode mX7_faultNow.2.1 1 = .ok (.iconst 0, 1) := by decide +kernel
theorem dX7_faultNow_2 : decode mX7_faultNow.2.1 2 = .ok (.putfield 93, 3) := by decide +kernel
theorem dX7_faultNow_5 : decode mX7_faultNow.2.1 5 = .ok (.iconst 0, 1) := by decide +kernel
theorem dX7_faultNow_6 : decode mX7_faultNow.2.1 6 = .ok (.istore_n 1, 1) := by decide +kernel
theorem dX7_faultNow_7 : decode mX7_faultNow.2.1 7 = .ok (.iconst 0, 1) := by decide +kernel
theorem dX7_faultNow_8 : decode mX7_faultNow.2.1 8 = .ok (.istore_n 2, 1) := by decide +kernel
theorem dX7_faultNow_9 : decode mX7_faultNow.2.1 9 = .ok (.iload_n 2, 1) := by decide +kernel
theorem dX7_faultNow_10 : decode mX7_faultNow.2.1 10 = .ok (.aload_n 0, 1) := by decide +kernel
theorem dX7_faultNow_11 : decode mX7_faultNow.2.1 11 = .ok (.getfield 89, 3) := by decide +kernel
theorem dX7_faultNow_14 : decode mX7_faultNow.2.1 14 = .ok (.if_icmp .lt 7, 3) := by decide +kernel
theorem dX7_faultNow_17 : decode mX7_faultNow.2.1 17 = .ok (.iload_n 2, 1) := by decide +kernel
theorem dX7_faultNow_18 : decode mX7_faultNow.2.1 18 = .ok (.ifCond .le 238, 3) := by decide +kernel
theorem dX7_faultNow_21 : decode mX7_faultNow.2.1 21 = .ok (.iconst 0, 1) := by decide +kernel
theorem dX7_faultNow_22 : decode mX7_faultNow.2.1 22 = .ok (.istore_n 3, 1) := by decide +kernel
theorem dX7_faultNow_23 : decode mX7_faultNow.2.1 23 = .ok (.iload_n 1, 1) := by decide +kernel
theorem dX7_faultNow_24 : decode mX7_faultNow.2.1 24 = .ok (.bipush 10, 2) := by decide +kernel
theorem dX7_faultNow_26 : decode mX7_faultNow.2.1 26 = .ok (.if_icmp .ge 25, 3) := by decide +kernel
theorem dX7_faultNow_29 : decode mX7_faultNow.2.1 29 = .ok (.iload_n 3, 1) := by decide +kernel
theorem dX7_faultNow_30 : decode mX7_faultNow.2.1 30 = .ok (.iconst 4, 1) := by decide +kernel
theorem dX7_faultNow_31 : decode mX7_faultNow.2.1 31 = .ok (.if_icmp .ge 20, 3) := by decide +kernel
theorem dX7_faultNow_34 : decode mX7_faultNow.2.1 34 = .ok (.aload_n 0, 1) := by decide +kernel
theorem dX7_faultNow_35 : decode mX7_faultNow.2.1 35 = .ok (.iload_n 2, 1) := by decide +kernel
theorem dX7_faultNow_36 : decode mX7_faultNow.2.1 36 = .ok (.iload_n 3, 1) := by decide +kernel
theorem dX7_faultNow_37 : decode mX7_faultNow.2.1 37 = .ok (.iadd, 1) := by decide +kernel
theorem dX7_faultNow_38 : decode mX7_faultNow.2.1 38 = .ok (.invokevirtual 96, 3) := by decide +kernel
theorem dX7_faultNow_41 : decode mX7_faultNow.2.1 41 = .ok (.iconst (-1), 1) := by decide +kernel
theorem dX7_faultNow_42 : decode mX7_faultNow.2.1 42 = .ok (.if_icmp .eq 9, 3) := by decide +kernel
theorem dX7_faultNow_45 : decode mX7_faultNow.2.1 45 = .ok (.iinc 3 1, 3) := by decide +kernel
theorem dX7_faultNow_48 : decode mX7_faultNow.2.1 48 = .ok (.goto (-25), 3) := by decide +kernel
theorem dX7_faultNow_51 : decode mX7_faultNow.2.1 51 = .ok (.iload_n 2, 1) := by decide +kernel
theorem dX7_faultNow_52 : decode mX7_faultNow.2.1 52 = .ok (.iconst 4, 1) := by decide +kernel
theorem dX7_faultNow_53 : decode mX7_faultNow.2.1 53 = .ok (.iadd, 1) := by decide +kernel
theorem dX7_faultNow_54 : decode mX7_faultNow.2.1 54 = .ok (.aload_n 0, 1) := by decide +kernel
theorem dX7_faultNow_55 : decode mX7_faultNow.2.1 55 = .ok (.getfield 89, 3) := by decide +kernel
theorem dX7_faultNow_58 : decode mX7_faultNow.2.1 58 = .ok (.if_icmp .ge 14, 3) := by decide +kernel
theorem dX7_faultNow_61 : decode mX7_faultNow.2.1 61 = .ok (.aload_n 0, 1) := by decide +kernel
theorem dX7_faultNow_62 : decode mX7_faultNow.2.1 62 = .ok (.getfield 7, 3) := by decide +kernel
theorem dX7_faultNow_65 : decode mX7_faultNow.2.1 65 = .ok (.iload_n 2, 1) := by decide +kernel
theorem dX7_faultNow_66 : decode mX7_faultNow.2.1 66 = .ok (.iconst 4, 1) := by decide +kernel
theorem dX7_faultNow_67 : decode mX7_faultNow.2.1 67 = .ok (.iadd, 1) := by decide +kernel
theorem dX7_faultNow_68 : decode mX7_faultNow.2.1 68 = .ok (.iaload, 1) := by decide +kernel
theorem dX7_faultNow_69 : decode mX7_faultNow.2.1 69 = .ok (.goto 4, 3) := by decide +kernel
theorem dX7_faultNow_72 : decode mX7_faultNow.2.1 72 = .ok (.iconst (-1), 1) := by decide +kernel
theorem dX7_faultNow_73 : decode mX7_faultNow.2.1 73 = .ok (.istore 4, 2) := by decide +kernel
theorem dX7_faultNow_75 : decode mX7_faultNow.2.1 75 = .ok (.iload 4, 2) := by decide +kernel
theorem dX7_faultNow_77 : decode mX7_faultNow.2.1 77 = .ok (.bipush 111, 2) := by decide +kernel
theorem dX7_faultNow_79 : decode mX7_faultNow.2.1 79 = .ok (.if_icmp .ne 7, 3) := by decide +kernel
theorem dX7_faultNow_82 : decode mX7_faultNow.2.1 82 = .ok (.iconst 0, 1) := by decide +kernel
theorem dX7_faultNow_83 : decode mX7_faultNow.2.1 83 = .ok (.goto 26, 3) := by decide +kernel
theorem dX7_faultNow_86 : decode mX7_faultNow.2.1 86 = .ok (.iload 4, 2) := by decide +kernel
theorem dX7_faultNow_88 : decode mX7_faultNow.2.1 88 = .ok (.bipush 101, 2) := by decide +kernel
theorem dX7_faultNow_90 : decode mX7_faultNow.2.1 90 = .ok (.if_icmp .ne 7, 3) := by decide +kernel
theorem dX7_faultNow_93 : decode mX7_faultNow.2.1 93 = .ok (.iconst 1, 1) := by decide +kernel
theorem dX7_faultNow_94 : decode mX7_faultNow.2.1 94 = .ok (.goto 15, 3) := by decide +kernel
theorem dX7_faultNow_97 : decode mX7_faultNow.2.1 97 = .ok (.iload 4, 2) := by decide +kernel
theorem dX7_faultNow_99 : decode mX7_faultNow.2.1 99 = .ok (.bipush 102, 2) := by decide +kernel
theorem dX7_faultNow_101 : decode mX7_faultNow.2.1 101 = .ok (.if_icmp .ne 7, 3) := by decide +kernel
theorem dX7_faultNow_104 : decode mX7_faultNow.2.1 104 = .ok (.iconst 2, 1) := by decide +kernel
theorem dX7_faultNow_105 : decode mX7_faultNow.2.1 105 = .ok (.goto 4, 3) := by decide +kernel
theorem dX7_faultNow_108 : decode mX7_faultNow.2.1 108 = .ok (.iconst (-1), 1) := by decide +kernel
theorem dX7_faultNow_109 : decode mX7_faultNow.2.1 109 = .ok (.istore 5, 2) := by decide +kernel
theorem dX7_faultNow_111 : decode mX7_faultNow.2.1 111 = .ok (.iload_n 3, 1) := by decide +kernel
theorem dX7_faultNow_112 : decode mX7_faultNow.2.1 112 = .ok (.iconst 4, 1) := by decide +kernel
theorem dX7_faultNow_113 : decode mX7_faultNow.2.1 113 = .ok (.if_icmp .ne 24, 3) := by decide +kernel
theorem dX7_faultNow_116 : decode mX7_faultNow.2.1 116 = .ok (.bipush 10, 2) := by decide +kernel
theorem dX7_faultNow_118 : decode mX7_faultNow.2.1 118 = .ok (.aload_n 0, 1) := by decide +kernel
theorem dX7_faultNow_119 : decode mX7_faultNow.2.1 119 = .ok (.iload_n 2, 1) := by decide +kernel
theorem dX7_faultNow_120 : decode mX7_faultNow.2.1 120 = .ok (.iconst 2, 1) := by decide +kernel
theorem dX7_faultNow_121 : decode mX7_faultNow.2.1 121 = .ok (.iadd, 1) := by decide +kernel
theorem dX7_faultNow_122 : decode mX7_faultNow.2.1 122 = .ok (.invokevirtual 96, 3) := by decide +kernel
theorem dX7_faultNow_125 : decode mX7_faultNow.2.1 125 = .ok (.imul, 1) := by decide +kernel
theorem dX7_faultNow_126 : decode mX7_faultNow.2.1 126 = .ok (.aload_n 0, 1) := by decide +kernel
theorem dX7_faultNow_127 : decode mX7_faultNow.2.1 127 = .ok (.iload_n 2, 1) := by decide +kernel
theorem dX7_faultNow_128 : decode mX7_faultNow.2.1 128 = .ok (.iconst 3, 1) := by decide +kernel
theorem dX7_faultNow_129 : decode mX7_faultNow.2.1 129 = .ok (.iadd, 1) := by decide +kernel
theorem dX7_faultNow_130 : decode mX7_faultNow.2.1 130 = .ok (.invokevirtual 96, 3) := by decide +kernel
theorem dX7_faultNow_133 : decode mX7_faultNow.2.1 133 = .ok (.iadd, 1) := by decide +kernel
theorem dX7_faultNow_134 : decode mX7_faultNow.2.1 134 = .ok (.goto 4, 3) := by decide +kernel
theorem dX7_faultNow_137 : decode mX7_faultNow.2.1 137 = .ok (.iconst 0, 1) := by decide +kernel
theorem dX7_faultNow_138 : decode mX7_faultNow.2.1 138 = .ok (.istore 6, 2) := by decide +kernel
theorem dX7_faultNow_140 : decode mX7_faultNow.2.1 140 = .ok (.iload_n 3, 1) := by decide +kernel
theorem dX7_faultNow_141 : decode mX7_faultNow.2.1 141 = .ok (.iconst 4, 1) := by decide +kernel
theorem dX7_faultNow_142 : decode mX7_faultNow.2.1 142 = .ok (.if_icmp .lt 14, 3) := by decide +kernel
theorem dX7_faultNow_145 : decode mX7_faultNow.2.1 145 = .ok (.iload 6, 2) := by decide +kernel
theorem dX7_faultNow_147 : decode mX7_faultNow.2.1 147 = .ok (.ifCond .eq 9, 3) := by decide +kernel
theorem dX7_faultNow_150 : decode mX7_faultNow.2.1 150 = .ok (.iload 5, 2) := by decide +kernel
theorem dX7_faultNow_152 : decode mX7_faultNow.2.1 152 = .ok (.iconst (-1), 1) := by decide +kernel
theorem dX7_faultNow_153 : decode mX7_faultNow.2.1 153 = .ok (.if_icmp .ne 25, 3) := by decide +kernel
theorem dX7_faultNow_156 : decode mX7_faultNow.2.1 156 = .ok (.iload_n 2, 1) := by decide +kernel
theorem dX7_faultNow_157 : decode mX7_faultNow.2.1 157 = .ok (.iload_n 3, 1) := by decide +kernel
theorem dX7_faultNow_158 : decode mX7_faultNow.2.1 158 = .ok (.iconst 4, 1) := by decide +kernel
theorem dX7_faultNow_159 : decode mX7_faultNow.2.1 159 = .ok (.if_icmp .ge 7, 3) := by decide +kernel
theorem dX7_faultNow_162 : decode mX7_faultNow.2.1 162 = .ok (.iload_n 3, 1) := by decide +kernel
theorem dX7_faultNow_163 : decode mX7_faultNow.2.1 163 = .ok (.goto 13, 3) := by decide +kernel
theorem dX7_faultNow_166 : decode mX7_faultNow.2.1 166 = .ok (.iload 6, 2) := by decide +kernel
theorem dX7_faultNow_168 : decode mX7_faultNow.2.1 168 = .ok (.ifCond .ne 7, 3) := by decide +kernel
theorem dX7_faultNow_171 : decode mX7_faultNow.2.1 171 = .ok (.iconst 3, 1) := by decide +kernel
theorem dX7_faultNow_172 : decode mX7_faultNow.2.1 172 = .ok (.goto 4, 3) := by decide +kernel
theorem dX7_faultNow_175 : decode mX7_faultNow.2.1 175 = .ok (.iconst 4, 1) := by decide +kernel
theorem dX7_faultNow_176 : decode mX7_faultNow.2.1 176 = .ok (.iadd, 1) := by decide +kernel
theorem dX7_faultNow_177 : decode mX7_faultNow.2.1 177 = .ok (.ireturn, 1) := by decide +kernel
theorem dX7_faultNow_178 : decode mX7_faultNow.2.1 178 = .ok (.aload_n 0, 1) := by decide +kernel
theorem dX7_faultNow_179 : decode mX7_faultNow.2.1 179 = .ok (.getfield 13, 3) := by decide +kernel
theorem dX7_faultNow_182 : decode mX7_faultNow.2.1 182 = .ok (.iload_n 1, 1) := by decide +kernel
theorem dX7_faultNow_183 : decode mX7_faultNow.2.1 183 = .ok (.bipush 10, 2) := by decide +kernel
theorem dX7_faultNow_185 : decode mX7_faultNow.2.1 185 = .ok (.aload_n 0, 1) := by decide +kernel
theorem dX7_faultNow_186 : decode mX7_faultNow.2.1 186 = .ok (.iload_n 2, 1) := by decide +kernel
theorem dX7_faultNow_187 : decode mX7_faultNow.2.1 187 = .ok (.invokevirtual 96, 3) := by decide +kernel
theorem dX7_faultNow_190 : decode mX7_faultNow.2.1 190 = .ok (.imul, 1) := by decide +kernel
theorem dX7_faultNow_191 : decode mX7_faultNow.2.1 191 = .ok (.aload_n 0, 1) := by decide +kernel
theorem dX7_faultNow_192 : decode mX7_faultNow.2.1 192 = .ok (.iload_n 2, 1) := by decide +kernel
theorem dX7_faultNow_193 : decode mX7_faultNow.2.1 193 = .ok (.iconst 1, 1) := by decide +kernel
theorem dX7_faultNow_194 : decode mX7_faultNow.2.1 194 = .ok (.iadd, 1) := by decide +kernel
theorem dX7_faultNow_195 : decode mX7_faultNow.2.1 195 = .ok (.invokevirtual 96, 3) := by decide +kernel
theorem dX7_faultNow_198 : decode mX7_faultNow.2.1 198 = .ok (.iadd, 1) := by decide +kernel
theorem dX7_faultNow_199 : decode mX7_faultNow.2.1 199 = .ok (.iastore, 1) := by decide +kernel
theorem dX7_faultNow_200 : decode mX7_faultNow.2.1 200 = .ok (.aload_n 0, 1) := by decide +kernel
theorem dX7_faultNow_201 : decode mX7_faultNow.2.1 201 = .ok (.getfield 16, 3) := by decide +kernel
theorem dX7_faultNow_204 : decode mX7_faultNow.2.1 204 = .ok (.iload_n 1, 1) := by decide +kernel
theorem dX7_faultNow_205 : decode mX7_faultNow.2.1 205 = .ok (.iload 6, 2) := by decide +kernel
theorem dX7_faultNow_207 : decode mX7_faultNow.2.1 207 = .ok (.iastore, 1) := by decide +kernel
theorem dX7_faultNow_208 : decode mX7_faultNow.2.1 208 = .ok (.aload_n 0, 1) := by decide +kernel
theorem dX7_faultNow_209 : decode mX7_faultNow.2.1 209 = .ok (.getfield 19, 3) := by decide +kernel
theorem dX7_faultNow_212 : decode mX7_faultNow.2.1 212 = .ok (.iload_n 1, 1) := by decide +kernel
theorem dX7_faultNow_213 : decode mX7_faultNow.2.1 213 = .ok (.iload 5, 2) := by decide +kernel
theorem dX7_faultNow_215 : decode mX7_faultNow.2.1 215 = .ok (.iastore, 1) := by decide +kernel
theorem dX7_faultNow_216 : decode mX7_faultNow.2.1 216 = .ok (.iinc 1 1, 3) := by decide +kernel
theorem dX7_faultNow_219 : decode mX7_faultNow.2.1 219 = .ok (.iinc 2 5, 3) := by decide +kernel
theorem dX7_faultNow_222 : decode mX7_faultNow.2.1 222 = .ok (.iload_n 2, 1) := by decide +kernel
theorem dX7_faultNow_223 : decode mX7_faultNow.2.1 223 = .ok (.aload_n 0, 1) := by decide +kernel
theorem dX7_faultNow_224 : decode mX7_faultNow.2.1 224 = .ok (.getfield 89, 3) := by decide +kernel
theorem dX7_faultNow_227 : decode mX7_faultNow.2.1 227 = .ok (.if_icmp .ne 10, 3) := by decide +kernel
theorem dX7_faultNow_230 : decode mX7_faultNow.2.1 230 = .ok (.aload_n 0, 1) := by decide +kernel
theorem dX7_faultNow_231 : decode mX7_faultNow.2.1 231 = .ok (.iload_n 1, 1) := by decide +kernel
theorem dX7_faultNow_232 : decode mX7_faultNow.2.1 232 = .ok (.putfield 93, 3) := by decide +kernel
theorem dX7_faultNow_235 : decode mX7_faultNow.2.1 235 = .ok (.iconst (-1), 1) := by decide +kernel
theorem dX7_faultNow_236 : decode mX7_faultNow.2.1 236 = .ok (.ireturn, 1) := by decide +kernel
theorem dX7_faultNow_237 : decode mX7_faultNow.2.1 237 = .ok (.aload_n 0, 1) := by decide +kernel
theorem dX7_faultNow_238 : decode mX7_faultNow.2.1 238 = .ok (.getfield 7, 3) := by decide +kernel
theorem dX7_faultNow_241 : decode mX7_faultNow.2.1 241 = .ok (.iload_n 2, 1) := by decide +kernel
theorem dX7_faultNow_242 : decode mX7_faultNow.2.1 242 = .ok (.iaload, 1) := by decide +kernel
theorem dX7_faultNow_243 : decode mX7_faultNow.2.1 243 = .ok (.bipush 59, 2) := by decide +kernel
theorem dX7_faultNow_245 : decode mX7_faultNow.2.1 245 = .ok (.if_icmp .eq 5, 3) := by decide +kernel
theorem dX7_faultNow_248 : decode mX7_faultNow.2.1 248 = .ok (.iload_n 2, 1) := by decide +kernel
theorem dX7_faultNow_249 : decode mX7_faultNow.2.1 249 = .ok (.ireturn, 1) := by decide +kernel
theorem dX7_faultNow_250 : decode mX7_faultNow.2.1 250 = .ok (.iinc 2 1, 3) := by decide +kernel
theorem dX7_faultNow_253 : decode mX7_faultNow.2.1 253 = .ok (.goto (-244), 3) := by decide +kernel
theorem dX7_faultNow_256 : decode mX7_faultNow.2.1 256 = .ok (.iconst (-1), 1) := by decide +kernel
theorem dX7_faultNow_257 : decode mX7_faultNow.2.1 257 = .ok (.ireturn, 1) := by decide +kernel
def fn_X7_faultNow_b176 (n : Nat)   (s0 : Int32) (s1 : Int32) (σ : Sg) : Option (Int32 × Sg) :=
  (some ((s0 + s1), σ))
set_option maxRecDepth 20000 in
set_option maxHeartbeats 4000000 in
theorem ev_X7_faultNow_b176 (n : Nat)   (s0 : Int32) (s1 : Int32) (σ : Sg) : Ev mX7_faultNow 2 44 jW 176 [(0, .ref 53)] [.int s1, .int s0] σ (fn_X7_faultNow_b176 n s0 s1 σ) := by
  unfold fn_X7_faultNow_b176
  refine ev_iadd (pc := 176) dX7_faultNow_176 ?_
  exact ev_irW rfl dX7_faultNow_177
def fn_X7_faultNow_b156 (n : Nat)   (v2 : Int32) (v3 : Int32) (v6 : Int32) (σ : Sg) : Option (Int32 × Sg) :=
  (if 4 ≤ v3 then (if v6 = 0 then (fn_X7_faultNow_b176 n v2 3 σ)
  else (fn_X7_faultNow_b176 n v2 4 σ))
  else (fn_X7_faultNow_b176 n v2 v3 σ))
set_option maxRecDepth 20000 in
set_option maxHeartbeats 4000000 in
theorem ev_X7_faultNow_b156 (n : Nat)   (v2 : Int32) (v3 : Int32) (v6 : Int32) (σ : Sg) : Ev mX7_faultNow 2 44 jW 156 [(0, .ref 53), (2, .int v2), (3, .int v3), (6, .int v6)] [] σ (fn_X7_faultNow_b156 n v2 v3 v6 σ) := by
  unfold fn_X7_faultNow_b156
  refine ev_iload_n (pc := 156) (i := 2) 1 dX7_faultNow_156 rfl rfl ?_
  refine ev_iload_n (pc := 157) (i := 3) 2 dX7_faultNow_157 rfl rfl ?_
  refine ev_iconst (pc := 158) (v := 4) dX7_faultNow_158 (by decide) ?_
  refine ev_icmp_ge (pc := 159) (tgt := 166) dX7_faultNow_159 rfl ?_ ?_
  · refine ev_iload (pc := 166) 3 dX7_faultNow_166 rfl ?_
    refine ev_if_ne (pc := 168) (tgt := 175) dX7_faultNow_168 rfl ?_ ?_
    · refine ev_iconst (pc := 171) (v := 3) dX7_faultNow_171 (by decide) ?_
      refine ev_goto (pc := 172) (tgt := 176) dX7_faultNow_172 rfl ?_
      refine ev_sub [0] rfl ?_
      exact ev_X7_faultNow_b176 n v2 3 σ
    · refine ev_iconst (pc := 175) (v := 4) dX7_faultNow_175 (by decide) ?_
      refine ev_sub [0] rfl ?_
      exact ev_X7_faultNow_b176 n v2 4 σ
  · refine ev_iload_n (pc := 162) (i := 3) 2 dX7_faultNow_162 rfl rfl ?_
    refine ev_goto (pc := 163) (tgt := 176) dX7_faultNow_163 rfl ?_
    refine ev_sub [0] rfl ?_
    exact ev_X7_faultNow_b176 n v2 v3 σ
def fn_X7_faultNow_b138 (n : Nat)  (k9 : Int32 → Int32 → Sg → Option (Int32 × Sg)) (v1 : Int32) (v2 : Int32) (v3 : Int32) (v5 : Int32) (s0 : Int32) (σ : Sg) : Option (Int32 × Sg) :=
  (if v3 < 4 then (fn_X7_faultNow_b156 n v2 v3 s0 σ)
  else (if s0 = 0 then (fn_X7_faultNow_b156 n v2 v3 s0 σ)
  else (if v5 = (-1) then (fn_X7_faultNow_b156 n v2 v3 s0 σ)
  else (Option.bind (fn_X7_figureAt v2 σ) fun q252 =>
  (Option.bind (fn_X7_figureAt (v2 + 1) σ) fun q253 =>
  (if ag_ib v1 11 = true then (if ag_ib v1 11 = true then (ag_sg (ag_up (ag_up σ 55 v1.toNatClampNeg ((10 * q252) + q253)) 56 v1.toNatClampNeg s0) fun t254 =>
  (if ag_ib v1 11 = true then (if (v2 + 5) = ((ag_up t254 57 v1.toNatClampNeg v5) 53 1) then (ag_sg (ag_up (ag_up t254 57 v1.toNatClampNeg v5) 53 2 (v1 + 1)) fun t255 =>
  (some ((-1), t255)))
  else (if ag_ib (v2 + 5) 59 = true then (if ((ag_up t254 57 v1.toNatClampNeg v5) 54 (v2 + 5).toNatClampNeg) = 59 then (k9 (v1 + 1) ((v2 + 5) + 1) (ag_up t254 57 v1.toNatClampNeg v5))
  else (some ((v2 + 5), (ag_up t254 57 v1.toNatClampNeg v5)))) else none)) else none)) else none) else none))))))
set_option maxRecDepth 20000 in
set_option maxHeartbeats 4000000 in
theorem ev_X7_faultNow_b138 (n : Nat)  (k9 : Int32 → Int32 → Sg → Option (Int32 × Sg)) (hk9 : ∀ (v1 : Int32) (v2 : Int32) (σ : Sg), Ev mX7_faultNow 2 44 jW 9 [(0, .ref 53), (1, .int v1), (2, .int v2)] [] σ (k9 v1 v2 σ)) (v1 : Int32) (v2 : Int32) (v3 : Int32) (v5 : Int32) (s0 : Int32) (σ : Sg) : Ev mX7_faultNow 2 44 jW 138 [(0, .ref 53), (1, .int v1), (2, .int v2), (3, .int v3), (5, .int v5)] [.int s0] σ (fn_X7_faultNow_b138 n k9 v1 v2 v3 v5 s0 σ) := by
  unfold fn_X7_faultNow_b138
  refine ev_istore (pc := 138) (lv' := [(6, .int s0), (0, .ref 53), (1, .int v1), (2, .int v2), (3, .int v3), (5, .int v5)]) dX7_faultNow_138 (Nat.le_of_ble_eq_true rfl) rfl ?_
  refine ev_iload_n (pc := 140) (i := 3) 4 dX7_faultNow_140 rfl rfl ?_
  refine ev_iconst (pc := 141) (v := 4) dX7_faultNow_141 (by decide) ?_
  refine ev_icmp_lt (pc := 142) (tgt := 156) dX7_faultNow_142 rfl ?_ ?_
  · refine ev_sub [1, 3, 4, 0] rfl ?_
    exact ev_X7_faultNow_b156 n v2 v3 s0 σ
  · refine ev_iload (pc := 145) 0 dX7_faultNow_145 rfl ?_
    refine ev_if_eq (pc := 147) (tgt := 156) dX7_faultNow_147 rfl ?_ ?_
    · refine ev_sub [1, 3, 4, 0] rfl ?_
      exact ev_X7_faultNow_b156 n v2 v3 s0 σ
    · refine ev_iload (pc := 150) 5 dX7_faultNow_150 rfl ?_
      refine ev_iconst (pc := 152) (v := (-1)) dX7_faultNow_152 (by decide) ?_
      refine ev_icmp_ne (pc := 153) (tgt := 178) dX7_faultNow_153 rfl ?_ ?_
      · refine ev_sub [1, 3, 4, 0] rfl ?_
        exact ev_X7_faultNow_b156 n v2 v3 s0 σ
      · refine ev_aload_n (pc := 178) (i := 0) 1 dX7_faultNow_178 rfl rfl ?_
        refine ev_getR (pc := 179) (t := 55) 3 ag_C7 (rfl) (by decide) (Nat.le_of_ble_eq_true rfl) rfl rfl ag_fl_X7_13 dX7_faultNow_179 ?_
        refine ev_iload_n (pc := 182) (i := 1) 2 dX7_faultNow_182 rfl rfl ?_
        refine ev_bipush (pc := 183) (v := 10) dX7_faultNow_183 (by decide) ?_
        refine ev_aload_n (pc := 185) (i := 0) 1 dX7_faultNow_185 rfl rfl ?_
        refine ev_iload_n (pc := 186) (i := 2) 3 dX7_faultNow_186 rfl rfl ?_
        refine ev_vI (pc := 187) (as := [.int v2]) (rest := [.int 10, .int v1, .ref 55]) ⟨7, 96, 37, TX7, tyX7, ag_C7, ⟨(rfl), (by decide)⟩, mv_X7_figureAt, ag_ml_X7_96, rfl, (Nat.le_of_ble_eq_true rfl), ⟨(Nat.le_of_ble_eq_true rfl), (Nat.le_of_ble_eq_true rfl)⟩, dX7_faultNow_187⟩ (im_X7_figureAt v2 σ) (fun q252 => ?_)
        refine ev_imul (pc := 190) dX7_faultNow_190 ?_
        refine ev_aload_n (pc := 191) (i := 0) 1 dX7_faultNow_191 rfl rfl ?_
        refine ev_iload_n (pc := 192) (i := 2) 3 dX7_faultNow_192 rfl rfl ?_
        refine ev_iconst (pc := 193) (v := 1) dX7_faultNow_193 (by decide) ?_
        refine ev_iadd (pc := 194) dX7_faultNow_194 ?_
        refine ev_vI (pc := 195) (as := [.int (v2 + 1)]) (rest := [.int (10 * q252), .int v1, .ref 55]) ⟨7, 96, 37, TX7, tyX7, ag_C7, ⟨(rfl), (by decide)⟩, mv_X7_figureAt, ag_ml_X7_96, rfl, (Nat.le_of_ble_eq_true rfl), ⟨(Nat.le_of_ble_eq_true rfl), (Nat.le_of_ble_eq_true rfl)⟩, dX7_faultNow_195⟩ (im_X7_figureAt (v2 + 1) σ) (fun q253 => ?_)
        refine ev_iadd (pc := 198) dX7_faultNow_198 ?_
        refine ev_iast (pc := 199) (rfl) (by decide) dX7_faultNow_199 ?_
        refine ev_aload_n (pc := 200) (i := 0) 1 dX7_faultNow_200 rfl rfl ?_
        refine ev_getR (pc := 201) (t := 56) 4 ag_C7 (rfl) (by decide) (Nat.le_of_ble_eq_true rfl) rfl rfl ag_fl_X7_16 dX7_faultNow_201 ?_
        refine ev_iload_n (pc := 204) (i := 1) 2 dX7_faultNow_204 rfl rfl ?_
        refine ev_iload (pc := 205) 0 dX7_faultNow_205 rfl ?_
        refine ev_iast (pc := 207) (rfl) (by decide) dX7_faultNow_207 ?_
        refine ev_sg (fun t254 => ?_)
        refine ev_aload_n (pc := 208) (i := 0) 1 dX7_faultNow_208 rfl rfl ?_
        refine ev_getR (pc := 209) (t := 57) 5 ag_C7 (rfl) (by decide) (Nat.le_of_ble_eq_true rfl) rfl rfl ag_fl_X7_19 dX7_faultNow_209 ?_
        refine ev_iload_n (pc := 212) (i := 1) 2 dX7_faultNow_212 rfl rfl ?_
        refine ev_iload (pc := 213) 5 dX7_faultNow_213 rfl ?_
        refine ev_iast (pc := 215) (rfl) (by decide) dX7_faultNow_215 ?_
        refine ev_iinc (pc := 216) (v := (v1 + 1)) (lv' := [(1, .int (v1 + 1)), (6, .int s0), (0, .ref 53), (2, .int v2), (3, .int v3), (5, .int v5)]) 2 dX7_faultNow_216 rfl rfl (Nat.le_of_ble_eq_true rfl) rfl ?_
        refine ev_iinc (pc := 219) (v := (v2 + 5)) (lv' := [(2, .int (v2 + 5)), (1, .int (v1 + 1)), (6, .int s0), (0, .ref 53), (3, .int v3), (5, .int v5)]) 3 dX7_faultNow_219 rfl rfl (Nat.le_of_ble_eq_true rfl) rfl ?_
        refine ev_iload_n (pc := 222) (i := 2) 0 dX7_faultNow_222 rfl rfl ?_
        refine ev_aload_n (pc := 223) (i := 0) 3 dX7_faultNow_223 rfl rfl ?_
        refine ev_getI (pc := 224) 1 ag_C7 (rfl) (by decide) (Nat.le_of_ble_eq_true rfl) rfl rfl ag_fl_X7_89 dX7_faultNow_224 ?_
        refine ev_icmp_ne (pc := 227) (tgt := 237) dX7_faultNow_227 rfl ?_ ?_
        · refine ev_aload_n (pc := 230) (i := 0) 3 dX7_faultNow_230 rfl rfl ?_
          refine ev_iload_n (pc := 231) (i := 1) 1 dX7_faultNow_231 rfl rfl ?_
          refine ev_put (pc := 232) 2 ag_C7 (rfl) (by decide) (Nat.le_of_ble_eq_true rfl) rfl rfl ag_fl_X7_93 rfl rfl rfl dX7_faultNow_232 ?_
          refine ev_sg (fun t255 => ?_)
          refine ev_iconst (pc := 235) (v := (-1)) dX7_faultNow_235 (by decide) ?_
          exact ev_irW rfl dX7_faultNow_236
        · refine ev_aload_n (pc := 237) (i := 0) 3 dX7_faultNow_237 rfl rfl ?_
          refine ev_getR (pc := 238) (t := 54) 0 ag_C7 (rfl) (by decide) (Nat.le_of_ble_eq_true rfl) rfl rfl ag_fl_X7_7 dX7_faultNow_238 ?_
          refine ev_iload_n (pc := 241) (i := 2) 0 dX7_faultNow_241 rfl rfl ?_
          refine ev_iald (pc := 242) (rfl) (by decide) dX7_faultNow_242 ?_
          refine ev_bipush (pc := 243) (v := 59) dX7_faultNow_243 (by decide) ?_
          refine ev_icmp_eq (pc := 245) (tgt := 250) dX7_faultNow_245 rfl ?_ ?_
          · refine ev_iinc (pc := 250) (v := ((v2 + 5) + 1)) (lv' := [(2, .int ((v2 + 5) + 1)), (1, .int (v1 + 1)), (6, .int s0), (0, .ref 53), (3, .int v3), (5, .int v5)]) 0 dX7_faultNow_250 rfl rfl (Nat.le_of_ble_eq_true rfl) rfl ?_
            refine ev_goto (pc := 253) (tgt := 9) dX7_faultNow_253 rfl ?_
            refine ev_sub [3, 1, 0] rfl ?_
            exact hk9 (v1 + 1) ((v2 + 5) + 1) (ag_up t254 57 v1.toNatClampNeg v5)
          · refine ev_iload_n (pc := 248) (i := 2) 0 dX7_faultNow_248 rfl rfl ?_
            exact ev_irW rfl dX7_faultNow_249
def fn_X7_faultNow_b109 (n : Nat)  (k9 : Int32 → Int32 → Sg → Option (Int32 × Sg)) (v1 : Int32) (v2 : Int32) (v3 : Int32) (s0 : Int32) (σ : Sg) : Option (Int32 × Sg) :=
  (if v3 = 4 then (Option.bind (fn_X7_figureAt (v2 + 2) σ) fun q256 =>
  (Option.bind (fn_X7_figureAt (v2 + 3) σ) fun q257 =>
  (fn_X7_faultNow_b138 n k9 v1 v2 v3 s0 ((10 * q256) + q257) σ)))
  else (fn_X7_faultNow_b138 n k9 v1 v2 v3 s0 0 σ))
set_option maxRecDepth 20000 in
set_option maxHeartbeats 4000000 in
theorem ev_X7_faultNow_b109 (n : Nat)  (k9 : Int32 → Int32 → Sg → Option (Int32 × Sg)) (hk9 : ∀ (v1 : Int32) (v2 : Int32) (σ : Sg), Ev mX7_faultNow 2 44 jW 9 [(0, .ref 53), (1, .int v1), (2, .int v2)] [] σ (k9 v1 v2 σ)) (v1 : Int32) (v2 : Int32) (v3 : Int32) (s0 : Int32) (σ : Sg) : Ev mX7_faultNow 2 44 jW 109 [(0, .ref 53), (1, .int v1), (2, .int v2), (3, .int v3)] [.int s0] σ (fn_X7_faultNow_b109 n k9 v1 v2 v3 s0 σ) := by
  unfold fn_X7_faultNow_b109
  refine ev_istore (pc := 109) (lv' := [(5, .int s0), (0, .ref 53), (1, .int v1), (2, .int v2), (3, .int v3)]) dX7_faultNow_109 (Nat.le_of_ble_eq_true rfl) rfl ?_
  refine ev_iload_n (pc := 111) (i := 3) 4 dX7_faultNow_111 rfl rfl ?_
  refine ev_iconst (pc := 112) (v := 4) dX7_faultNow_112 (by decide) ?_
  refine ev_icmp_ne (pc := 113) (tgt := 137) dX7_faultNow_113 rfl ?_ ?_
  · refine ev_bipush (pc := 116) (v := 10) dX7_faultNow_116 (by decide) ?_
    refine ev_aload_n (pc := 118) (i := 0) 1 dX7_faultNow_118 rfl rfl ?_
    refine ev_iload_n (pc := 119) (i := 2) 3 dX7_faultNow_119 rfl rfl ?_
    refine ev_iconst (pc := 120) (v := 2) dX7_faultNow_120 (by decide) ?_
    refine ev_iadd (pc := 121) dX7_faultNow_121 ?_
    refine ev_vI (pc := 122) (as := [.int (v2 + 2)]) (rest := [.int 10]) ⟨7, 96, 37, TX7, tyX7, ag_C7, ⟨(rfl), (by decide)⟩, mv_X7_figureAt, ag_ml_X7_96, rfl, (Nat.le_of_ble_eq_true rfl), ⟨(Nat.le_of_ble_eq_true rfl), (Nat.le_of_ble_eq_true rfl)⟩, dX7_faultNow_122⟩ (im_X7_figureAt (v2 + 2) σ) (fun q256 => ?_)
    refine ev_imul (pc := 125) dX7_faultNow_125 ?_
    refine ev_aload_n (pc := 126) (i := 0) 1 dX7_faultNow_126 rfl rfl ?_
    refine ev_iload_n (pc := 127) (i := 2) 3 dX7_faultNow_127 rfl rfl ?_
    refine ev_iconst (pc := 128) (v := 3) dX7_faultNow_128 (by decide) ?_
    refine ev_iadd (pc := 129) dX7_faultNow_129 ?_
    refine ev_vI (pc := 130) (as := [.int (v2 + 3)]) (rest := [.int (10 * q256)]) ⟨7, 96, 37, TX7, tyX7, ag_C7, ⟨(rfl), (by decide)⟩, mv_X7_figureAt, ag_ml_X7_96, rfl, (Nat.le_of_ble_eq_true rfl), ⟨(Nat.le_of_ble_eq_true rfl), (Nat.le_of_ble_eq_true rfl)⟩, dX7_faultNow_130⟩ (im_X7_figureAt (v2 + 3) σ) (fun q257 => ?_)
    refine ev_iadd (pc := 133) dX7_faultNow_133 ?_
    refine ev_goto (pc := 134) (tgt := 138) dX7_faultNow_134 rfl ?_
    refine ev_sub [1, 2, 3, 4, 0] rfl ?_
    exact ev_X7_faultNow_b138 n k9 hk9 v1 v2 v3 s0 ((10 * q256) + q257) σ
  · refine ev_iconst (pc := 137) (v := 0) dX7_faultNow_137 (by decide) ?_
    refine ev_sub [1, 2, 3, 4, 0] rfl ?_
    exact ev_X7_faultNow_b138 n k9 hk9 v1 v2 v3 s0 0 σ
def fn_X7_faultNow_b73 (n : Nat)  (k9 : Int32 → Int32 → Sg → Option (Int32 × Sg)) (v1 : Int32) (v2 : Int32) (v3 : Int32) (s0 : Int32) (σ : Sg) : Option (Int32 × Sg) :=
  (if s0 = 111 then (fn_X7_faultNow_b109 n k9 v1 v2 v3 0 σ)
  else (if s0 = 101 then (fn_X7_faultNow_b109 n k9 v1 v2 v3 1 σ)
  else (if s0 = 102 then (fn_X7_faultNow_b109 n k9 v1 v2 v3 2 σ)
  else (fn_X7_faultNow_b109 n k9 v1 v2 v3 (-1) σ))))
set_option maxRecDepth 20000 in
set_option maxHeartbeats 4000000 in
theorem ev_X7_faultNow_b73 (n : Nat)  (k9 : Int32 → Int32 → Sg → Option (Int32 × Sg)) (hk9 : ∀ (v1 : Int32) (v2 : Int32) (σ : Sg), Ev mX7_faultNow 2 44 jW 9 [(0, .ref 53), (1, .int v1), (2, .int v2)] [] σ (k9 v1 v2 σ)) (v1 : Int32) (v2 : Int32) (v3 : Int32) (s0 : Int32) (σ : Sg) : Ev mX7_faultNow 2 44 jW 73 [(0, .ref 53), (1, .int v1), (2, .int v2), (3, .int v3)] [.int s0] σ (fn_X7_faultNow_b73 n k9 v1 v2 v3 s0 σ) := by
  unfold fn_X7_faultNow_b73
  refine ev_istore (pc := 73) (lv' := [(4, .int s0), (0, .ref 53), (1, .int v1), (2, .int v2), (3, .int v3)]) dX7_faultNow_73 (Nat.le_of_ble_eq_true rfl) rfl ?_
  refine ev_iload (pc := 75) 0 dX7_faultNow_75 rfl ?_
  refine ev_bipush (pc := 77) (v := 111) dX7_faultNow_77 (by decide) ?_
  refine ev_icmp_ne (pc := 79) (tgt := 86) dX7_faultNow_79 rfl ?_ ?_
  · refine ev_iconst (pc := 82) (v := 0) dX7_faultNow_82 (by decide) ?_
    refine ev_goto (pc := 83) (tgt := 109) dX7_faultNow_83 rfl ?_
    refine ev_sub [1, 2, 3, 4] rfl ?_
    exact ev_X7_faultNow_b109 n k9 hk9 v1 v2 v3 0 σ
  · refine ev_iload (pc := 86) 0 dX7_faultNow_86 rfl ?_
    refine ev_bipush (pc := 88) (v := 101) dX7_faultNow_88 (by decide) ?_
    refine ev_icmp_ne (pc := 90) (tgt := 97) dX7_faultNow_90 rfl ?_ ?_
    · refine ev_iconst (pc := 93) (v := 1) dX7_faultNow_93 (by decide) ?_
      refine ev_goto (pc := 94) (tgt := 109) dX7_faultNow_94 rfl ?_
      refine ev_sub [1, 2, 3, 4] rfl ?_
      exact ev_X7_faultNow_b109 n k9 hk9 v1 v2 v3 1 σ
    · refine ev_iload (pc := 97) 0 dX7_faultNow_97 rfl ?_
      refine ev_bipush (pc := 99) (v := 102) dX7_faultNow_99 (by decide) ?_
      refine ev_icmp_ne (pc := 101) (tgt := 108) dX7_faultNow_101 rfl ?_ ?_
      · refine ev_iconst (pc := 104) (v := 2) dX7_faultNow_104 (by decide) ?_
        refine ev_goto (pc := 105) (tgt := 109) dX7_faultNow_105 rfl ?_
        refine ev_sub [1, 2, 3, 4] rfl ?_
        exact ev_X7_faultNow_b109 n k9 hk9 v1 v2 v3 2 σ
      · refine ev_iconst (pc := 108) (v := (-1)) dX7_faultNow_108 (by decide) ?_
        refine ev_sub [1, 2, 3, 4] rfl ?_
        exact ev_X7_faultNow_b109 n k9 hk9 v1 v2 v3 (-1) σ
def fn_X7_faultNow_b51 (n : Nat)  (k9 : Int32 → Int32 → Sg → Option (Int32 × Sg)) (v1 : Int32) (v2 : Int32) (v3 : Int32) (σ : Sg) : Option (Int32 × Sg) :=
  (if (σ 53 1) ≤ (v2 + 4) then (fn_X7_faultNow_b73 n k9 v1 v2 v3 (-1) σ)
  else (if ag_ib (v2 + 4) 59 = true then (fn_X7_faultNow_b73 n k9 v1 v2 v3 (σ 54 (v2 + 4).toNatClampNeg) σ) else none))
set_option maxRecDepth 20000 in
set_option maxHeartbeats 4000000 in
theorem ev_X7_faultNow_b51 (n : Nat)  (k9 : Int32 → Int32 → Sg → Option (Int32 × Sg)) (hk9 : ∀ (v1 : Int32) (v2 : Int32) (σ : Sg), Ev mX7_faultNow 2 44 jW 9 [(0, .ref 53), (1, .int v1), (2, .int v2)] [] σ (k9 v1 v2 σ)) (v1 : Int32) (v2 : Int32) (v3 : Int32) (σ : Sg) : Ev mX7_faultNow 2 44 jW 51 [(0, .ref 53), (1, .int v1), (2, .int v2), (3, .int v3)] [] σ (fn_X7_faultNow_b51 n k9 v1 v2 v3 σ) := by
  unfold fn_X7_faultNow_b51
  refine ev_iload_n (pc := 51) (i := 2) 2 dX7_faultNow_51 rfl rfl ?_
  refine ev_iconst (pc := 52) (v := 4) dX7_faultNow_52 (by decide) ?_
  refine ev_iadd (pc := 53) dX7_faultNow_53 ?_
  refine ev_aload_n (pc := 54) (i := 0) 0 dX7_faultNow_54 rfl rfl ?_
  refine ev_getI (pc := 55) 1 ag_C7 (rfl) (by decide) (Nat.le_of_ble_eq_true rfl) rfl rfl ag_fl_X7_89 dX7_faultNow_55 ?_
  refine ev_icmp_ge (pc := 58) (tgt := 72) dX7_faultNow_58 rfl ?_ ?_
  · refine ev_iconst (pc := 72) (v := (-1)) dX7_faultNow_72 (by decide) ?_
    exact ev_X7_faultNow_b73 n k9 hk9 v1 v2 v3 (-1) σ
  · refine ev_aload_n (pc := 61) (i := 0) 0 dX7_faultNow_61 rfl rfl ?_
    refine ev_getR (pc := 62) (t := 54) 0 ag_C7 (rfl) (by decide) (Nat.le_of_ble_eq_true rfl) rfl rfl ag_fl_X7_7 dX7_faultNow_62 ?_
    refine ev_iload_n (pc := 65) (i := 2) 2 dX7_faultNow_65 rfl rfl ?_
    refine ev_iconst (pc := 66) (v := 4) dX7_faultNow_66 (by decide) ?_
    refine ev_iadd (pc := 67) dX7_faultNow_67 ?_
    refine ev_iald (pc := 68) (rfl) (by decide) dX7_faultNow_68 ?_
    refine ev_goto (pc := 69) (tgt := 73) dX7_faultNow_69 rfl ?_
    exact ev_X7_faultNow_b73 n k9 hk9 v1 v2 v3 (σ 54 (v2 + 4).toNatClampNeg) σ
def fn_X7_faultNow_b23 (n : Nat)  (k9 : Int32 → Int32 → Sg → Option (Int32 × Sg)) : Nat → Int32 → Int32 → Int32 → Sg → Option (Int32 × Sg)
  | 0 => fun _ _ _ _ => none
  | i + 1 => fun v1 v2 v3 σ =>
  (if 10 ≤ v1 then (fn_X7_faultNow_b51 n k9 v1 v2 v3 σ)
  else (if 4 ≤ v3 then (fn_X7_faultNow_b51 n k9 v1 v2 v3 σ)
  else (Option.bind (fn_X7_figureAt (v2 + v3) σ) fun q258 =>
  (if q258 = (-1) then (fn_X7_faultNow_b51 n k9 v1 v2 v3 σ)
  else ((fn_X7_faultNow_b23 n k9 i) v1 v2 (v3 + 1) σ)))))
theorem fn_X7_faultNow_b23_s (n : Nat)  (k9 : Int32 → Int32 → Sg → Option (Int32 × Sg)) (i : Nat) (v1 : Int32) (v2 : Int32) (v3 : Int32) (σ : Sg) : fn_X7_faultNow_b23 n k9 (i + 1) v1 v2 v3 σ =
  (if 10 ≤ v1 then (fn_X7_faultNow_b51 n k9 v1 v2 v3 σ)
  else (if 4 ≤ v3 then (fn_X7_faultNow_b51 n k9 v1 v2 v3 σ)
  else (Option.bind (fn_X7_figureAt (v2 + v3) σ) fun q258 =>
  (if q258 = (-1) then (fn_X7_faultNow_b51 n k9 v1 v2 v3 σ)
  else ((fn_X7_faultNow_b23 n k9 i) v1 v2 (v3 + 1) σ))))) := rfl
set_option maxRecDepth 20000 in
set_option maxHeartbeats 4000000 in
theorem ev_X7_faultNow_b23 (n : Nat)  (k9 : Int32 → Int32 → Sg → Option (Int32 × Sg)) (hk9 : ∀ (v1 : Int32) (v2 : Int32) (σ : Sg), Ev mX7_faultNow 2 44 jW 9 [(0, .ref 53), (1, .int v1), (2, .int v2)] [] σ (k9 v1 v2 σ)) : ∀ (i : Nat) (v1 : Int32) (v2 : Int32) (v3 : Int32) (σ : Sg), Ev mX7_faultNow 2 44 jW 23 [(0, .ref 53), (1, .int v1), (2, .int v2), (3, .int v3)] [] σ (fn_X7_faultNow_b23 n k9 i v1 v2 v3 σ) := by
  intro i
  induction i with
  | zero =>
    intro v1 v2 v3 σ
    exact ev_none
  | succ i ih =>
    intro v1 v2 v3 σ
    rw [fn_X7_faultNow_b23_s]
    refine ev_iload_n (pc := 23) (i := 1) 1 dX7_faultNow_23 rfl rfl ?_
    refine ev_bipush (pc := 24) (v := 10) dX7_faultNow_24 (by decide) ?_
    refine ev_icmp_ge (pc := 26) (tgt := 51) dX7_faultNow_26 rfl ?_ ?_
    · exact ev_X7_faultNow_b51 n k9 hk9 v1 v2 v3 σ
    · refine ev_iload_n (pc := 29) (i := 3) 3 dX7_faultNow_29 rfl rfl ?_
      refine ev_iconst (pc := 30) (v := 4) dX7_faultNow_30 (by decide) ?_
      refine ev_icmp_ge (pc := 31) (tgt := 51) dX7_faultNow_31 rfl ?_ ?_
      · exact ev_X7_faultNow_b51 n k9 hk9 v1 v2 v3 σ
      · refine ev_aload_n (pc := 34) (i := 0) 0 dX7_faultNow_34 rfl rfl ?_
        refine ev_iload_n (pc := 35) (i := 2) 2 dX7_faultNow_35 rfl rfl ?_
        refine ev_iload_n (pc := 36) (i := 3) 3 dX7_faultNow_36 rfl rfl ?_
        refine ev_iadd (pc := 37) dX7_faultNow_37 ?_
        refine ev_vI (pc := 38) (as := [.int (v2 + v3)]) (rest := []) ⟨7, 96, 37, TX7, tyX7, ag_C7, ⟨(rfl), (by decide)⟩, mv_X7_figureAt, ag_ml_X7_96, rfl, (Nat.le_of_ble_eq_true rfl), ⟨(Nat.le_of_ble_eq_true rfl), (Nat.le_of_ble_eq_true rfl)⟩, dX7_faultNow_38⟩ (im_X7_figureAt (v2 + v3) σ) (fun q258 => ?_)
        refine ev_iconst (pc := 41) (v := (-1)) dX7_faultNow_41 (by decide) ?_
        refine ev_icmp_eq (pc := 42) (tgt := 51) dX7_faultNow_42 rfl ?_ ?_
        · exact ev_X7_faultNow_b51 n k9 hk9 v1 v2 v3 σ
        · refine ev_iinc (pc := 45) (v := (v3 + 1)) (lv' := [(3, .int (v3 + 1)), (0, .ref 53), (1, .int v1), (2, .int v2)]) 3 dX7_faultNow_45 rfl rfl (Nat.le_of_ble_eq_true rfl) rfl ?_
          refine ev_goto (pc := 48) (tgt := 23) dX7_faultNow_48 rfl ?_
          refine ev_sub [1, 2, 3, 0] rfl ?_
          exact ih v1 v2 (v3 + 1) σ
def fn_X7_faultNow_b21 (n : Nat)  (k9 : Int32 → Int32 → Sg → Option (Int32 × Sg)) (v1 : Int32) (v2 : Int32) (σ : Sg) : Option (Int32 × Sg) :=
  (fn_X7_faultNow_b23 n k9 n v1 v2 0 σ)
set_option maxRecDepth 20000 in
set_option maxHeartbeats 4000000 in
theorem ev_X7_faultNow_b21 (n : Nat)  (k9 : Int32 → Int32 → Sg → Option (Int32 × Sg)) (hk9 : ∀ (v1 : Int32) (v2 : Int32) (σ : Sg), Ev mX7_faultNow 2 44 jW 9 [(0, .ref 53), (1, .int v1), (2, .int v2)] [] σ (k9 v1 v2 σ)) (v1 : Int32) (v2 : Int32) (σ : Sg) : Ev mX7_faultNow 2 44 jW 21 [(0, .ref 53), (1, .int v1), (2, .int v2)] [] σ (fn_X7_faultNow_b21 n k9 v1 v2 σ) := by
  unfold fn_X7_faultNow_b21
  refine ev_iconst (pc := 21) (v := 0) dX7_faultNow_21 (by decide) ?_
  refine ev_istore_n (pc := 22) (i := 3) (lv' := [(3, .int 0), (0, .ref 53), (1, .int v1), (2, .int v2)]) dX7_faultNow_22 rfl (Nat.le_of_ble_eq_true rfl) rfl ?_
  refine ev_sub [1, 2, 3, 0] rfl ?_
  exact ev_X7_faultNow_b23 n k9 hk9 n v1 v2 0 σ
def fn_X7_faultNow_b9 (n : Nat)   : Nat → Int32 → Int32 → Sg → Option (Int32 × Sg)
  | 0 => fun _ _ _ => none
  | i + 1 => fun v1 v2 σ =>
  (if v2 < (σ 53 1) then (fn_X7_faultNow_b21 n (fn_X7_faultNow_b9 n i) v1 v2 σ)
  else (if v2 ≤ 0 then (some ((-1), σ))
  else (fn_X7_faultNow_b21 n (fn_X7_faultNow_b9 n i) v1 v2 σ)))
theorem fn_X7_faultNow_b9_s (n : Nat)   (i : Nat) (v1 : Int32) (v2 : Int32) (σ : Sg) : fn_X7_faultNow_b9 n (i + 1) v1 v2 σ =
  (if v2 < (σ 53 1) then (fn_X7_faultNow_b21 n (fn_X7_faultNow_b9 n i) v1 v2 σ)
  else (if v2 ≤ 0 then (some ((-1), σ))
  else (fn_X7_faultNow_b21 n (fn_X7_faultNow_b9 n i) v1 v2 σ))) := rfl
set_option maxRecDepth 20000 in
set_option maxHeartbeats 4000000 in
theorem ev_X7_faultNow_b9 (n : Nat)   : ∀ (i : Nat) (v1 : Int32) (v2 : Int32) (σ : Sg), Ev mX7_faultNow 2 44 jW 9 [(0, .ref 53), (1, .int v1), (2, .int v2)] [] σ (fn_X7_faultNow_b9 n i v1 v2 σ) := by
  intro i
  induction i with
  | zero =>
    intro v1 v2 σ
    exact ev_none
  | succ i ih =>
    intro v1 v2 σ
    rw [fn_X7_faultNow_b9_s]
    refine ev_iload_n (pc := 9) (i := 2) 2 dX7_faultNow_9 rfl rfl ?_
    refine ev_aload_n (pc := 10) (i := 0) 0 dX7_faultNow_10 rfl rfl ?_
    refine ev_getI (pc := 11) 1 ag_C7 (rfl) (by decide) (Nat.le_of_ble_eq_true rfl) rfl rfl ag_fl_X7_89 dX7_faultNow_11 ?_
    refine ev_icmp_lt (pc := 14) (tgt := 21) dX7_faultNow_14 rfl ?_ ?_
    · exact ev_X7_faultNow_b21 n (fn_X7_faultNow_b9 n i) ih v1 v2 σ
    · refine ev_iload_n (pc := 17) (i := 2) 2 dX7_faultNow_17 rfl rfl ?_
      refine ev_if_le (pc := 18) (tgt := 256) dX7_faultNow_18 rfl ?_ ?_
      · refine ev_iconst (pc := 256) (v := (-1)) dX7_faultNow_256 (by decide) ?_
        exact ev_irW rfl dX7_faultNow_257
      · exact ev_X7_faultNow_b21 n (fn_X7_faultNow_b9 n i) ih v1 v2 σ
def fn_X7_faultNow (n : Nat)  (σ : Sg) : Option (Int32 × Sg) :=
  (fn_X7_faultNow_b9 n n 0 0 (ag_up σ 53 2 0))
set_option maxRecDepth 20000 in
set_option maxHeartbeats 4000000 in
theorem im_X7_faultNow (n : Nat)  (σ : Sg) : Im yX7_faultNow mX7_faultNow 2 44 jW [.ref 53] σ (fn_X7_faultNow n  σ) := by
  refine Im.of (by decide +kernel) rfl rfl (Nat.le_of_ble_eq_true rfl) ?_
  show Ev mX7_faultNow 2 44 jW 0 [(0, .ref 53)] [] σ (fn_X7_faultNow n  σ)
  unfold fn_X7_faultNow
  refine ev_aload_n (pc := 0) (i := 0) 0 dX7_faultNow_0 rfl rfl ?_
  refine ev_iconst (pc := 1) (v := 0) dX7_faultNow_1 (by decide) ?_
  refine ev_put (pc := 2) 2 ag_C7 (rfl) (by decide) (Nat.le_of_ble_eq_true rfl) rfl rfl ag_fl_X7_93 rfl rfl rfl dX7_faultNow_2 ?_
  refine ev_iconst (pc := 5) (v := 0) dX7_faultNow_5 (by decide) ?_
  refine ev_istore_n (pc := 6) (i := 1) (lv' := [(1, .int 0), (0, .ref 53)]) dX7_faultNow_6 rfl (Nat.le_of_ble_eq_true rfl) rfl ?_
  refine ev_iconst (pc := 7) (v := 0) dX7_faultNow_7 (by decide) ?_
  refine ev_istore_n (pc := 8) (i := 2) (lv' := [(2, .int 0), (1, .int 0), (0, .ref 53)]) dX7_faultNow_8 rfl (Nat.le_of_ble_eq_true rfl) rfl ?_
  refine ev_sub [2, 1, 0] rfl ?_
  exact ev_X7_faultNow_b9 n n 0 0 (ag_up σ 53 2 0)
-- X7_fault
def mX7_fault : Md := (RX7, cX7_fault, 1, some .int, none)
theorem mv_X7_fault : ag_Mv yX7_fault mX7_fault 0 := ⟨ag_co_X7_fault, ag_im_X7_fault, ag_se_X7_fault, ag_ini_X7, by decide +kernel⟩
theorem dX7_fault_0 : decode mX7_fault.2.1 0 = .ok (.aload_n 0, 1) := by decide +kernel
theorem dX7_fault_1 : decode mX7_fault.2.1 1 = .ok (.invokevirtual 100, 3) := by decide +kernel
theorem dX7_fault_4 : decode mX7_fault.2.1 4 = .ok (.ireturn, 1) := by decide +kernel
def fn_X7_fault (n : Nat)  (σ : Sg) : Option (Int32 × Sg) :=
  (Option.bind (fn_X7_faultNow n σ) fun q259 =>
  (some (q259.1, q259.2)))
set_option maxRecDepth 20000 in
set_option maxHeartbeats 4000000 in
theorem im_X7_fault (n : Nat)  (σ : Sg) : Im yX7_fault mX7_fault 3 70 jW [.ref 53] σ (fn_X7_fault n  σ) := by
  refine Im.of (by decide +kernel) rfl rfl (Nat.le_of_ble_eq_true rfl) ?_
  show Ev mX7_fault 3 70 jW 0 [(0, .ref 53)] [] σ (fn_X7_fault n  σ)
  unfold fn_X7_fault
  refine ev_aload_n (pc := 0) (i := 0) 0 dX7_fault_0 rfl rfl ?_
  refine ev_vW (pc := 1) (as := []) (rest := []) ⟨7, 100, 37, TX7, tyX7, ag_C7, ⟨(rfl), (by decide)⟩, mv_X7_faultNow, ag_ml_X7_100, rfl, (Nat.le_of_ble_eq_true rfl), ⟨(Nat.le_of_ble_eq_true rfl), (Nat.le_of_ble_eq_true rfl)⟩, dX7_fault_1⟩ (im_X7_faultNow n σ) (fun q259 => ?_)
  exact ev_irW rfl dX7_fault_4
-- X7_reads
def mX7_reads : Md := (RX7, cX7_reads, 2, none, none)
theorem mv_X7_reads : ag_Mv yX7_reads mX7_reads 0 := ⟨ag_co_X7_reads, ag_im_X7_reads, ag_se_X7_reads, ag_ini_X7, by decide +kernel⟩
theorem dX7_reads_0 : decode mX7_reads.2.1 0 = .ok (.aload_n 0, 1) := by decide +kernel
theorem dX7_reads_1 : decode mX7_reads.2.1 1 = .ok (.invokevirtual 100, 3) := by decide +kernel
theorem dX7_reads_4 : decode mX7_reads.2.1 4 = .ok (.istore_n 1, 1) := by decide +kernel
theorem dX7_reads_5 : decode mX7_reads.2.1 5 = .ok (.return_, 1) := by decide +kernel
def fn_X7_reads (n : Nat)  (σ : Sg) : Option Sg :=
  (Option.bind (fn_X7_faultNow n σ) fun q260 =>
  (some q260.2))
set_option maxRecDepth 20000 in
set_option maxHeartbeats 4000000 in
theorem im_X7_reads (n : Nat)  (σ : Sg) : Im yX7_reads mX7_reads 3 70 jV [.ref 53] σ (fn_X7_reads n  σ) := by
  refine Im.of (by decide +kernel) rfl rfl (Nat.le_of_ble_eq_true rfl) ?_
  show Ev mX7_reads 3 70 jV 0 [(0, .ref 53)] [] σ (fn_X7_reads n  σ)
  unfold fn_X7_reads
  refine ev_aload_n (pc := 0) (i := 0) 0 dX7_reads_0 rfl rfl ?_
  refine ev_vW (pc := 1) (as := []) (rest := []) ⟨7, 100, 37, TX7, tyX7, ag_C7, ⟨(rfl), (by decide)⟩, mv_X7_faultNow, ag_ml_X7_100, rfl, (Nat.le_of_ble_eq_true rfl), ⟨(Nat.le_of_ble_eq_true rfl), (Nat.le_of_ble_eq_true rfl)⟩, dX7_reads_1⟩ (im_X7_faultNow n σ) (fun q260 => ?_)
  refine ev_istore_n (pc := 4) (i := 1) (lv' := [(1, .int q260.1), (0, .ref 53)]) dX7_reads_4 rfl (Nat.le_of_ble_eq_true rfl) rfl ?_
  exact ev_rV rfl dX7_reads_5
-- X7_isPerson
def mX7_isPerson : Md := (RX7, cX7_isPerson, 2, some .boolean, none)
theorem mv_X7_isPerson : ag_Mv yX7_isPerson mX7_isPerson 1 := ⟨ag_co_X7_isPerson, ag_im_X7_isPerson, ag_se_X7_isPerson, ag_ini_X7, by decide +kernel⟩
theorem dX7_isPerson_0 : decode mX7_isPerson.2.1 0 = .ok (.aload_n 0, 1) := by decide +kernel
theorem dX7_isPerson_1 : decode mX7_isPerson.2.1 1 = .ok (.invokevirtual 104, 3) := by decide +kernel
theorem dX7_isPerson_4 : decode mX7_isPerson.2.1 4 = .ok (.iload_n 1, 1) := by decide +kernel
theorem dX7_isPerson_5 : decode mX7_isPerson.2.1 5 = .ok (.iconst 0, 1) := by decide +kernel
theorem dX7_isPerson_6 : decode mX7_isPerson.2.1 6 = .ok (.aload_n 0, 1) := by decide +kernel
theorem dX7_isPerson_7 : decode mX7_isPerson.2.1 7 = .ok (.getfield 93, 3) := by decide +kernel
theorem dX7_isPerson_10 : decode mX7_isPerson.2.1 10 = .ok (.iconst 1, 1) := by decide +kernel
theorem dX7_isPerson_11 : decode mX7_isPerson.2.1 11 = .ok (.isub, 1) := by decide +kernel
theorem dX7_isPerson_12 : decode mX7_isPerson.2.1 12 = .ok (.invokestatic 85, 3) := by decide +kernel
theorem dX7_isPerson_15 : decode mX7_isPerson.2.1 15 = .ok (.ireturn, 1) := by decide +kernel
def fn_X7_isPerson (n : Nat) (x1 : Int32) (σ : Sg) : Option (Int32 × Sg) :=
  (Option.bind (fn_X7_reads n σ) fun q261 =>
  (Option.bind (fn_X7_in x1 0 ((q261 53 2) - 1) q261) fun q262 =>
  (if ag_bl q262 = true then (some (q262, q261)) else none)))
set_option maxRecDepth 20000 in
set_option maxHeartbeats 4000000 in
theorem im_X7_isPerson (n : Nat) (x1 : Int32) (σ : Sg) : Im yX7_isPerson mX7_isPerson 4 91 jW [.ref 53, .int x1] σ (fn_X7_isPerson n x1 σ) := by
  refine Im.of (by decide +kernel) rfl rfl (Nat.le_of_ble_eq_true rfl) ?_
  show Ev mX7_isPerson 4 91 jW 0 [(0, .ref 53), (1, .int x1)] [] σ (fn_X7_isPerson n x1 σ)
  unfold fn_X7_isPerson
  refine ev_aload_n (pc := 0) (i := 0) 0 dX7_isPerson_0 rfl rfl ?_
  refine ev_vV (pc := 1) (as := []) (rest := []) ⟨7, 104, 37, TX7, tyX7, ag_C7, ⟨(rfl), (by decide)⟩, mv_X7_reads, ag_ml_X7_104, rfl, (Nat.le_of_ble_eq_true rfl), ⟨(Nat.le_of_ble_eq_true rfl), (Nat.le_of_ble_eq_true rfl)⟩, dX7_isPerson_1⟩ (im_X7_reads n σ) (fun q261 => ?_)
  refine ev_iload_n (pc := 4) (i := 1) 1 dX7_isPerson_4 rfl rfl ?_
  refine ev_iconst (pc := 5) (v := 0) dX7_isPerson_5 (by decide) ?_
  refine ev_aload_n (pc := 6) (i := 0) 0 dX7_isPerson_6 rfl rfl ?_
  refine ev_getI (pc := 7) 2 ag_C7 (rfl) (by decide) (Nat.le_of_ble_eq_true rfl) rfl rfl ag_fl_X7_93 dX7_isPerson_7 ?_
  refine ev_iconst (pc := 10) (v := 1) dX7_isPerson_10 (by decide) ?_
  refine ev_isub (pc := 11) dX7_isPerson_11 ?_
  refine ev_sI (pc := 12) (as := [.int x1, .int 0, .int ((q261 53 2) - 1)]) (rest := []) ⟨85, ms_X7_in, ag_ml_X7_85, rfl, (Nat.le_of_ble_eq_true rfl), ⟨(Nat.le_of_ble_eq_true rfl), (Nat.le_of_ble_eq_true rfl)⟩, dX7_isPerson_12⟩ (im_X7_in x1 0 ((q261 53 2) - 1) q261) (fun q262 => ?_)
  exact ev_zrW rfl dX7_isPerson_15
-- X7_person
def mX7_person : Md := (RX7, cX7_person, 3, some .int, none)
theorem mv_X7_person : ag_Mv yX7_person mX7_person 2 := ⟨ag_co_X7_person, ag_im_X7_person, ag_se_X7_person, ag_ini_X7, by decide +kernel⟩
theorem dX7_person_0 : decode mX7_person.2.1 0 = .ok (.aload_n 0, 1) := by decide +kernel
theorem dX7_person_1 : decode mX7_person.2.1 1 = .ok (.iload_n 1, 1) := by decide +kernel
theorem dX7_person_2 : decode mX7_person.2.1 2 = .ok (.invokevirtual 107, 3) := by decide +kernel
theorem dX7_person_5 : decode mX7_person.2.1 5 = .ok (.ifCond .eq 48, 3) := by decide +kernel
theorem dX7_person_8 : decode mX7_person.2.1 8 = .ok (.iload_n 2, 1) := by decide +kernel
theorem dX7_person_9 : decode mX7_person.2.1 9 = .ok (.iconst 0, 1) := by decide +kernel
theorem dX7_person_10 : decode mX7_person.2.1 10 = .ok (.iconst 2, 1) := by decide +kernel
theorem dX7_person_11 : decode mX7_person.2.1 11 = .ok (.invokestatic 85, 3) := by decide +kernel
theorem dX7_person_14 : decode mX7_person.2.1 14 = .ok (.ifCond .eq 39, 3) := by decide +kernel
theorem dX7_person_17 : decode mX7_person.2.1 17 = .ok (.iload_n 2, 1) := by decide +kernel
theorem dX7_person_18 : decode mX7_person.2.1 18 = .ok (.ifCond .ne 12, 3) := by decide +kernel
theorem dX7_person_21 : decode mX7_person.2.1 21 = .ok (.aload_n 0, 1) := by decide +kernel
theorem dX7_person_22 : decode mX7_person.2.1 22 = .ok (.getfield 13, 3) := by decide +kernel
theorem dX7_person_25 : decode mX7_person.2.1 25 = .ok (.iload_n 1, 1) := by decide +kernel
theorem dX7_person_26 : decode mX7_person.2.1 26 = .ok (.iaload, 1) := by decide +kernel
theorem dX7_person_27 : decode mX7_person.2.1 27 = .ok (.goto 28, 3) := by decide +kernel
theorem dX7_person_30 : decode mX7_person.2.1 30 = .ok (.iload_n 2, 1) := by decide +kernel
theorem dX7_person_31 : decode mX7_person.2.1 31 = .ok (.iconst 1, 1) := by decide +kernel
theorem dX7_person_32 : decode mX7_person.2.1 32 = .ok (.if_icmp .ne 12, 3) := by decide +kernel
theorem dX7_person_35 : decode mX7_person.2.1 35 = .ok (.aload_n 0, 1) := by decide +kernel
theorem dX7_person_36 : decode mX7_person.2.1 36 = .ok (.getfield 16, 3) := by decide +kernel
theorem dX7_person_39 : decode mX7_person.2.1 39 = .ok (.iload_n 1, 1) := by decide +kernel
theorem dX7_person_40 : decode mX7_person.2.1 40 = .ok (.iaload, 1) := by decide +kernel
theorem dX7_person_41 : decode mX7_person.2.1 41 = .ok (.goto 14, 3) := by decide +kernel
theorem dX7_person_44 : decode mX7_person.2.1 44 = .ok (.aload_n 0, 1) := by decide +kernel
theorem dX7_person_45 : decode mX7_person.2.1 45 = .ok (.getfield 19, 3) := by decide +kernel
theorem dX7_person_48 : decode mX7_person.2.1 48 = .ok (.iload_n 1, 1) := by decide +kernel
theorem dX7_person_49 : decode mX7_person.2.1 49 = .ok (.iaload, 1) := by decide +kernel
theorem dX7_person_50 : decode mX7_person.2.1 50 = .ok (.goto 5, 3) := by decide +kernel
theorem dX7_person_53 : decode mX7_person.2.1 53 = .ok (.bipush (-2), 2) := by decide +kernel
theorem dX7_person_55 : decode mX7_person.2.1 55 = .ok (.ireturn, 1) := by decide +kernel
def fn_X7_person (n : Nat) (x1 : Int32) (x2 : Int32) (σ : Sg) : Option (Int32 × Sg) :=
  (Option.bind (fn_X7_isPerson n x1 σ) fun q263 =>
  (if q263.1 = 0 then (some ((-2), q263.2))
  else (Option.bind (fn_X7_in x2 0 2 q263.2) fun q264 =>
  (if q264 = 0 then (some ((-2), q263.2))
  else (if x2 = 0 then (if ag_ib x1 11 = true then (some ((q263.2 55 x1.toNatClampNeg), q263.2)) else none)
  else (if x2 = 1 then (if ag_ib x1 11 = true then (some ((q263.2 56 x1.toNatClampNeg), q263.2)) else none)
  else (if ag_ib x1 11 = true then (some ((q263.2 57 x1.toNatClampNeg), q263.2)) else none)))))))
set_option maxRecDepth 20000 in
set_option maxHeartbeats 4000000 in
theorem im_X7_person (n : Nat) (x1 : Int32) (x2 : Int32) (σ : Sg) : Im yX7_person mX7_person 5 112 jW [.ref 53, .int x1, .int x2] σ (fn_X7_person n x1 x2 σ) := by
  refine Im.of (by decide +kernel) rfl rfl (Nat.le_of_ble_eq_true rfl) ?_
  show Ev mX7_person 5 112 jW 0 [(0, .ref 53), (1, .int x1), (2, .int x2)] [] σ (fn_X7_person n x1 x2 σ)
  unfold fn_X7_person
  refine ev_aload_n (pc := 0) (i := 0) 0 dX7_person_0 rfl rfl ?_
  refine ev_iload_n (pc := 1) (i := 1) 1 dX7_person_1 rfl rfl ?_
  refine ev_vW (pc := 2) (as := [.int x1]) (rest := []) ⟨7, 107, 37, TX7, tyX7, ag_C7, ⟨(rfl), (by decide)⟩, mv_X7_isPerson, ag_ml_X7_107, rfl, (Nat.le_of_ble_eq_true rfl), ⟨(Nat.le_of_ble_eq_true rfl), (Nat.le_of_ble_eq_true rfl)⟩, dX7_person_2⟩ (im_X7_isPerson n x1 σ) (fun q263 => ?_)
  refine ev_if_eq (pc := 5) (tgt := 53) dX7_person_5 rfl ?_ ?_
  · refine ev_bipush (pc := 53) (v := (-2)) dX7_person_53 (by decide) ?_
    exact ev_irW rfl dX7_person_55
  · refine ev_iload_n (pc := 8) (i := 2) 2 dX7_person_8 rfl rfl ?_
    refine ev_iconst (pc := 9) (v := 0) dX7_person_9 (by decide) ?_
    refine ev_iconst (pc := 10) (v := 2) dX7_person_10 (by decide) ?_
    refine ev_sI (pc := 11) (as := [.int x2, .int 0, .int 2]) (rest := []) ⟨85, ms_X7_in, ag_ml_X7_85, rfl, (Nat.le_of_ble_eq_true rfl), ⟨(Nat.le_of_ble_eq_true rfl), (Nat.le_of_ble_eq_true rfl)⟩, dX7_person_11⟩ (im_X7_in x2 0 2 q263.2) (fun q264 => ?_)
    refine ev_if_eq (pc := 14) (tgt := 53) dX7_person_14 rfl ?_ ?_
    · refine ev_bipush (pc := 53) (v := (-2)) dX7_person_53 (by decide) ?_
      exact ev_irW rfl dX7_person_55
    · refine ev_iload_n (pc := 17) (i := 2) 2 dX7_person_17 rfl rfl ?_
      refine ev_if_ne (pc := 18) (tgt := 30) dX7_person_18 rfl ?_ ?_
      · refine ev_aload_n (pc := 21) (i := 0) 0 dX7_person_21 rfl rfl ?_
        refine ev_getR (pc := 22) (t := 55) 3 ag_C7 (rfl) (by decide) (Nat.le_of_ble_eq_true rfl) rfl rfl ag_fl_X7_13 dX7_person_22 ?_
        refine ev_iload_n (pc := 25) (i := 1) 1 dX7_person_25 rfl rfl ?_
        refine ev_iald (pc := 26) (rfl) (by decide) dX7_person_26 ?_
        refine ev_goto (pc := 27) (tgt := 55) dX7_person_27 rfl ?_
        exact ev_irW rfl dX7_person_55
      · refine ev_iload_n (pc := 30) (i := 2) 2 dX7_person_30 rfl rfl ?_
        refine ev_iconst (pc := 31) (v := 1) dX7_person_31 (by decide) ?_
        refine ev_icmp_ne (pc := 32) (tgt := 44) dX7_person_32 rfl ?_ ?_
        · refine ev_aload_n (pc := 35) (i := 0) 0 dX7_person_35 rfl rfl ?_
          refine ev_getR (pc := 36) (t := 56) 4 ag_C7 (rfl) (by decide) (Nat.le_of_ble_eq_true rfl) rfl rfl ag_fl_X7_16 dX7_person_36 ?_
          refine ev_iload_n (pc := 39) (i := 1) 1 dX7_person_39 rfl rfl ?_
          refine ev_iald (pc := 40) (rfl) (by decide) dX7_person_40 ?_
          refine ev_goto (pc := 41) (tgt := 55) dX7_person_41 rfl ?_
          exact ev_irW rfl dX7_person_55
        · refine ev_aload_n (pc := 44) (i := 0) 0 dX7_person_44 rfl rfl ?_
          refine ev_getR (pc := 45) (t := 57) 5 ag_C7 (rfl) (by decide) (Nat.le_of_ble_eq_true rfl) rfl rfl ag_fl_X7_19 dX7_person_45 ?_
          refine ev_iload_n (pc := 48) (i := 1) 1 dX7_person_48 rfl rfl ?_
          refine ev_iald (pc := 49) (rfl) (by decide) dX7_person_49 ?_
          refine ev_goto (pc := 50) (tgt := 55) dX7_person_50 rfl ?_
          exact ev_irW rfl dX7_person_55
-- X7_knows
def mX7_knows : Md := (RX7, cX7_knows, 4, some .int, none)
theorem mv_X7_knows : ag_Mv yX7_knows mX7_knows 2 := ⟨ag_co_X7_knows, ag_im_X7_knows, ag_se_X7_knows, ag_ini_X7, by decide +kernel⟩
theorem dX7_knows_0 : decode mX7_knows.2.1 0 = .ok (.iload_n 1, 1) := by decide +kernel
theorem dX7_knows_1 : decode mX7_knows.2.1 1 = .ok (.invokestatic 111, 3) := by decide +kernel
theorem dX7_knows_4 : decode mX7_knows.2.1 4 = .ok (.ifCond .eq 14, 3) := by decide +kernel
theorem dX7_knows_7 : decode mX7_knows.2.1 7 = .ok (.iload_n 2, 1) := by decide +kernel
theorem dX7_knows_8 : decode mX7_knows.2.1 8 = .ok (.iconst 0, 1) := by decide +kernel
theorem dX7_knows_9 : decode mX7_knows.2.1 9 = .ok (.sipush 255, 3) := by decide +kernel
theorem dX7_knows_12 : decode mX7_knows.2.1 12 = .ok (.invokestatic 85, 3) := by decide +kernel
theorem dX7_knows_15 : decode mX7_knows.2.1 15 = .ok (.ifCond .ne 6, 3) := by decide +kernel
theorem dX7_knows_18 : decode mX7_knows.2.1 18 = .ok (.bipush (-2), 2) := by decide +kernel
theorem dX7_knows_20 : decode mX7_knows.2.1 20 = .ok (.ireturn, 1) := by decide +kernel
theorem dX7_knows_21 : decode mX7_knows.2.1 21 = .ok (.aload_n 0, 1) := by decide +kernel
theorem dX7_knows_22 : decode mX7_knows.2.1 22 = .ok (.getfield 22, 3) := by decide +kernel
theorem dX7_knows_25 : decode mX7_knows.2.1 25 = .ok (.iload_n 1, 1) := by decide +kernel
theorem dX7_knows_26 : decode mX7_knows.2.1 26 = .ok (.iaload, 1) := by decide +kernel
theorem dX7_knows_27 : decode mX7_knows.2.1 27 = .ok (.istore_n 3, 1) := by decide +kernel
theorem dX7_knows_28 : decode mX7_knows.2.1 28 = .ok (.aload_n 0, 1) := by decide +kernel
theorem dX7_knows_29 : decode mX7_knows.2.1 29 = .ok (.getfield 22, 3) := by decide +kernel
theorem dX7_knows_32 : decode mX7_knows.2.1 32 = .ok (.iload_n 1, 1) := by decide +kernel
theorem dX7_knows_33 : decode mX7_knows.2.1 33 = .ok (.iload_n 2, 1) := by decide +kernel
theorem dX7_knows_34 : decode mX7_knows.2.1 34 = .ok (.iastore, 1) := by decide +kernel
theorem dX7_knows_35 : decode mX7_knows.2.1 35 = .ok (.iload_n 3, 1) := by decide +kernel
theorem dX7_knows_36 : decode mX7_knows.2.1 36 = .ok (.ireturn, 1) := by decide +kernel
def fn_X7_knows (x1 : Int32) (x2 : Int32) (σ : Sg) : Option (Int32 × Sg) :=
  (Option.bind (fn_X7_isTen x1 σ) fun q265 =>
  (if q265 = 0 then (some ((-2), σ))
  else (Option.bind (fn_X7_in x2 0 255 σ) fun q266 =>
  (if q266 = 0 then (some ((-2), σ))
  else (if ag_ib x1 10 = true then (if ag_ib x1 10 = true then (some ((σ 58 x1.toNatClampNeg), (ag_up σ 58 x1.toNatClampNeg x2))) else none) else none)))))
set_option maxRecDepth 20000 in
set_option maxHeartbeats 4000000 in
theorem im_X7_knows (x1 : Int32) (x2 : Int32) (σ : Sg) : Im yX7_knows mX7_knows 2 42 jW [.ref 53, .int x1, .int x2] σ (fn_X7_knows x1 x2 σ) := by
  refine Im.of (by decide +kernel) rfl rfl (Nat.le_of_ble_eq_true rfl) ?_
  show Ev mX7_knows 2 42 jW 0 [(0, .ref 53), (1, .int x1), (2, .int x2)] [] σ (fn_X7_knows x1 x2 σ)
  unfold fn_X7_knows
  refine ev_iload_n (pc := 0) (i := 1) 1 dX7_knows_0 rfl rfl ?_
  refine ev_sI (pc := 1) (as := [.int x1]) (rest := []) ⟨111, ms_X7_isTen, ag_ml_X7_111, rfl, (Nat.le_of_ble_eq_true rfl), ⟨(Nat.le_of_ble_eq_true rfl), (Nat.le_of_ble_eq_true rfl)⟩, dX7_knows_1⟩ (im_X7_isTen x1 σ) (fun q265 => ?_)
  refine ev_if_eq (pc := 4) (tgt := 18) dX7_knows_4 rfl ?_ ?_
  · refine ev_bipush (pc := 18) (v := (-2)) dX7_knows_18 (by decide) ?_
    exact ev_irW rfl dX7_knows_20
  · refine ev_iload_n (pc := 7) (i := 2) 2 dX7_knows_7 rfl rfl ?_
    refine ev_iconst (pc := 8) (v := 0) dX7_knows_8 (by decide) ?_
    refine ev_sipush (pc := 9) (v := 255) dX7_knows_9 (by decide) ?_
    refine ev_sI (pc := 12) (as := [.int x2, .int 0, .int 255]) (rest := []) ⟨85, ms_X7_in, ag_ml_X7_85, rfl, (Nat.le_of_ble_eq_true rfl), ⟨(Nat.le_of_ble_eq_true rfl), (Nat.le_of_ble_eq_true rfl)⟩, dX7_knows_12⟩ (im_X7_in x2 0 255 σ) (fun q266 => ?_)
    refine ev_if_ne (pc := 15) (tgt := 21) dX7_knows_15 rfl ?_ ?_
    · refine ev_bipush (pc := 18) (v := (-2)) dX7_knows_18 (by decide) ?_
      exact ev_irW rfl dX7_knows_20
    · refine ev_aload_n (pc := 21) (i := 0) 0 dX7_knows_21 rfl rfl ?_
      refine ev_getR (pc := 22) (t := 58) 6 ag_C7 (rfl) (by decide) (Nat.le_of_ble_eq_true rfl) rfl rfl ag_fl_X7_22 dX7_knows_22 ?_
      refine ev_iload_n (pc := 25) (i := 1) 1 dX7_knows_25 rfl rfl ?_
      refine ev_iald (pc := 26) (rfl) (by decide) dX7_knows_26 ?_
      refine ev_istore_n (pc := 27) (i := 3) (lv' := [(3, .int (σ 58 x1.toNatClampNeg)), (0, .ref 53), (1, .int x1), (2, .int x2)]) dX7_knows_27 rfl (Nat.le_of_ble_eq_true rfl) rfl ?_
      refine ev_aload_n (pc := 28) (i := 0) 1 dX7_knows_28 rfl rfl ?_
      refine ev_getR (pc := 29) (t := 58) 6 ag_C7 (rfl) (by decide) (Nat.le_of_ble_eq_true rfl) rfl rfl ag_fl_X7_22 dX7_knows_29 ?_
      refine ev_iload_n (pc := 32) (i := 1) 2 dX7_knows_32 rfl rfl ?_
      refine ev_iload_n (pc := 33) (i := 2) 3 dX7_knows_33 rfl rfl ?_
      refine ev_iast (pc := 34) (rfl) (by decide) dX7_knows_34 ?_
      refine ev_iload_n (pc := 35) (i := 3) 0 dX7_knows_35 rfl rfl ?_
      exact ev_irW rfl dX7_knows_36
-- X7_lays
def mX7_lays : Md := (RX7, cX7_lays, 7, none, none)
theorem mv_X7_lays : ag_Mv yX7_lays mX7_lays 6 := ⟨ag_co_X7_lays, ag_im_X7_lays, ag_se_X7_lays, ag_ini_X7, by decide +kernel⟩
theorem dX7_lays_0 : decode mX7_lays.2.1 0 = .ok (.aload_n 0, 1) := by decide +kernel
theorem dX7_lays_1 : decode mX7_lays.2.1 1 = .ok (.getfield 25, 3) := by decide +kernel
theorem dX7_lays_4 : decode mX7_lays.2.1 4 = .ok (.iload_n 1, 1) := by decide +kernel
theorem dX7_lays_5 : decode mX7_lays.2.1 5 = .ok (.iload_n 2, 1) := by decide +kernel
theorem dX7_lays_6 : decode mX7_lays.2.1 6 = .ok (.iastore, 1) := by decide +kernel
theorem dX7_lays_7 : decode mX7_lays.2.1 7 = .ok (.aload_n 0, 1) := by decide +kernel
theorem dX7_lays_8 : decode mX7_lays.2.1 8 = .ok (.getfield 28, 3) := by decide +kernel
theorem dX7_lays_11 : decode mX7_lays.2.1 11 = .ok (.iload_n 1, 1) := by decide +kernel
theorem dX7_lays_12 : decode mX7_lays.2.1 12 = .ok (.iload_n 3, 1) := by decide +kernel
theorem dX7_lays_13 : decode mX7_lays.2.1 13 = .ok (.iastore, 1) := by decide +kernel
theorem dX7_lays_14 : decode mX7_lays.2.1 14 = .ok (.aload_n 0, 1) := by decide +kernel
theorem dX7_lays_15 : decode mX7_lays.2.1 15 = .ok (.getfield 31, 3) := by decide +kernel
theorem dX7_lays_18 : decode mX7_lays.2.1 18 = .ok (.iload_n 1, 1) := by decide +kernel
theorem dX7_lays_19 : decode mX7_lays.2.1 19 = .ok (.iload 4, 2) := by decide +kernel
theorem dX7_lays_21 : decode mX7_lays.2.1 21 = .ok (.iastore, 1) := by decide +kernel
theorem dX7_lays_22 : decode mX7_lays.2.1 22 = .ok (.aload_n 0, 1) := by decide +kernel
theorem dX7_lays_23 : decode mX7_lays.2.1 23 = .ok (.getfield 34, 3) := by decide +kernel
theorem dX7_lays_26 : decode mX7_lays.2.1 26 = .ok (.iload_n 1, 1) := by decide +kernel
theorem dX7_lays_27 : decode mX7_lays.2.1 27 = .ok (.iload 5, 2) := by decide +kernel
theorem dX7_lays_29 : decode mX7_lays.2.1 29 = .ok (.iastore, 1) := by decide +kernel
theorem dX7_lays_30 : decode mX7_lays.2.1 30 = .ok (.aload_n 0, 1) := by decide +kernel
theorem dX7_lays_31 : decode mX7_lays.2.1 31 = .ok (.getfield 37, 3) := by decide +kernel
theorem dX7_lays_34 : decode mX7_lays.2.1 34 = .ok (.iload_n 1, 1) := by decide +kernel
theorem dX7_lays_35 : decode mX7_lays.2.1 35 = .ok (.iload 6, 2) := by decide +kernel
theorem dX7_lays_37 : decode mX7_lays.2.1 37 = .ok (.iastore, 1) := by decide +kernel
theorem dX7_lays_38 : decode mX7_lays.2.1 38 = .ok (.return_, 1) := by decide +kernel
def fn_X7_lays (x1 : Int32) (x2 : Int32) (x3 : Int32) (x4 : Int32) (x5 : Int32) (x6 : Int32) (σ : Sg) : Option Sg :=
  (if ag_ib x1 13 = true then (if ag_ib x1 13 = true then (ag_sg (ag_up (ag_up σ 59 x1.toNatClampNeg x2) 60 x1.toNatClampNeg x3) fun t267 =>
  (if ag_ib x1 13 = true then (if ag_ib x1 13 = true then (ag_sg (ag_up (ag_up t267 61 x1.toNatClampNeg x4) 62 x1.toNatClampNeg x5) fun t268 =>
  (if ag_ib x1 13 = true then (some (ag_up t268 63 x1.toNatClampNeg x6)) else none)) else none) else none)) else none) else none)
set_option maxRecDepth 20000 in
set_option maxHeartbeats 4000000 in
theorem im_X7_lays (x1 : Int32) (x2 : Int32) (x3 : Int32) (x4 : Int32) (x5 : Int32) (x6 : Int32) (σ : Sg) : Im yX7_lays mX7_lays 0 0 jV [.ref 53, .int x1, .int x2, .int x3, .int x4, .int x5, .int x6] σ (fn_X7_lays x1 x2 x3 x4 x5 x6 σ) := by
  refine Im.of (by decide +kernel) rfl rfl (Nat.le_of_ble_eq_true rfl) ?_
  show Ev mX7_lays 0 0 jV 0 [(0, .ref 53), (1, .int x1), (2, .int x2), (3, .int x3), (4, .int x4), (5, .int x5), (6, .int x6)] [] σ (fn_X7_lays x1 x2 x3 x4 x5 x6 σ)
  unfold fn_X7_lays
  refine ev_aload_n (pc := 0) (i := 0) 0 dX7_lays_0 rfl rfl ?_
  refine ev_getR (pc := 1) (t := 59) 8 ag_C7 (rfl) (by decide) (Nat.le_of_ble_eq_true rfl) rfl rfl ag_fl_X7_25 dX7_lays_1 ?_
  refine ev_iload_n (pc := 4) (i := 1) 1 dX7_lays_4 rfl rfl ?_
  refine ev_iload_n (pc := 5) (i := 2) 2 dX7_lays_5 rfl rfl ?_
  refine ev_iast (pc := 6) (rfl) (by decide) dX7_lays_6 ?_
  refine ev_aload_n (pc := 7) (i := 0) 0 dX7_lays_7 rfl rfl ?_
  refine ev_getR (pc := 8) (t := 60) 9 ag_C7 (rfl) (by decide) (Nat.le_of_ble_eq_true rfl) rfl rfl ag_fl_X7_28 dX7_lays_8 ?_
  refine ev_iload_n (pc := 11) (i := 1) 1 dX7_lays_11 rfl rfl ?_
  refine ev_iload_n (pc := 12) (i := 3) 3 dX7_lays_12 rfl rfl ?_
  refine ev_iast (pc := 13) (rfl) (by decide) dX7_lays_13 ?_
  refine ev_sg (fun t267 => ?_)
  refine ev_aload_n (pc := 14) (i := 0) 0 dX7_lays_14 rfl rfl ?_
  refine ev_getR (pc := 15) (t := 61) 10 ag_C7 (rfl) (by decide) (Nat.le_of_ble_eq_true rfl) rfl rfl ag_fl_X7_31 dX7_lays_15 ?_
  refine ev_iload_n (pc := 18) (i := 1) 1 dX7_lays_18 rfl rfl ?_
  refine ev_iload (pc := 19) 4 dX7_lays_19 rfl ?_
  refine ev_iast (pc := 21) (rfl) (by decide) dX7_lays_21 ?_
  refine ev_aload_n (pc := 22) (i := 0) 0 dX7_lays_22 rfl rfl ?_
  refine ev_getR (pc := 23) (t := 62) 11 ag_C7 (rfl) (by decide) (Nat.le_of_ble_eq_true rfl) rfl rfl ag_fl_X7_34 dX7_lays_23 ?_
  refine ev_iload_n (pc := 26) (i := 1) 1 dX7_lays_26 rfl rfl ?_
  refine ev_iload (pc := 27) 5 dX7_lays_27 rfl ?_
  refine ev_iast (pc := 29) (rfl) (by decide) dX7_lays_29 ?_
  refine ev_sg (fun t268 => ?_)
  refine ev_aload_n (pc := 30) (i := 0) 0 dX7_lays_30 rfl rfl ?_
  refine ev_getR (pc := 31) (t := 63) 12 ag_C7 (rfl) (by decide) (Nat.le_of_ble_eq_true rfl) rfl rfl ag_fl_X7_37 dX7_lays_31 ?_
  refine ev_iload_n (pc := 34) (i := 1) 1 dX7_lays_34 rfl rfl ?_
  refine ev_iload (pc := 35) 6 dX7_lays_35 rfl ?_
  refine ev_iast (pc := 37) (rfl) (by decide) dX7_lays_37 ?_
  exact ev_rV rfl dX7_lays_38
-- X7_letter
def mX7_letter : Md := (RX7, cX7_letter, 6, some .int, none)
theorem mv_X7_letter : ag_Mv yX7_letter mX7_letter 5 := ⟨ag_co_X7_letter, ag_im_X7_letter, ag_se_X7_letter, ag_ini_X7, by decide +kernel⟩
theorem dX7_letter_0 : decode mX7_letter.2.1 0 = .ok (.iload_n 1, 1) := by decide +kernel
theorem dX7_letter_1 : decode mX7_letter.2.1 1 = .ok (.invokestatic 111, 3) := by decide +kernel
theorem dX7_letter_4 : decode mX7_letter.2.1 4 = .ok (.ifCond .eq 41, 3) := by decide +kernel
theorem dX7_letter_7 : decode mX7_letter.2.1 7 = .ok (.iload_n 2, 1) := by decide +kernel
theorem dX7_letter_8 : decode mX7_letter.2.1 8 = .ok (.invokestatic 111, 3) := by decide +kernel
theorem dX7_letter_11 : decode mX7_letter.2.1 11 = .ok (.ifCond .eq 34, 3) := by decide +kernel
theorem dX7_letter_14 : decode mX7_letter.2.1 14 = .ok (.iload_n 1, 1) := by decide +kernel
theorem dX7_letter_15 : decode mX7_letter.2.1 15 = .ok (.iload_n 2, 1) := by decide +kernel
theorem dX7_letter_16 : decode mX7_letter.2.1 16 = .ok (.if_icmp .eq 29, 3) := by decide +kernel
theorem dX7_letter_19 : decode mX7_letter.2.1 19 = .ok (.iload_n 3, 1) := by decide +kernel
theorem dX7_letter_20 : decode mX7_letter.2.1 20 = .ok (.invokestatic 114, 3) := by decide +kernel
theorem dX7_letter_23 : decode mX7_letter.2.1 23 = .ok (.ifCond .eq 22, 3) := by decide +kernel
theorem dX7_letter_26 : decode mX7_letter.2.1 26 = .ok (.iload 4, 2) := by decide +kernel
theorem dX7_letter_28 : decode mX7_letter.2.1 28 = .ok (.invokestatic 117, 3) := by decide +kernel
theorem dX7_letter_31 : decode mX7_letter.2.1 31 = .ok (.ifCond .eq 14, 3) := by decide +kernel
theorem dX7_letter_34 : decode mX7_letter.2.1 34 = .ok (.iload 5, 2) := by decide +kernel
theorem dX7_letter_36 : decode mX7_letter.2.1 36 = .ok (.iconst (-1), 1) := by decide +kernel
theorem dX7_letter_37 : decode mX7_letter.2.1 37 = .ok (.bipush 7, 2) := by decide +kernel
theorem dX7_letter_39 : decode mX7_letter.2.1 39 = .ok (.invokestatic 85, 3) := by decide +kernel
theorem dX7_letter_42 : decode mX7_letter.2.1 42 = .ok (.ifCond .ne 6, 3) := by decide +kernel
theorem dX7_letter_45 : decode mX7_letter.2.1 45 = .ok (.bipush (-2), 2) := by decide +kernel
theorem dX7_letter_47 : decode mX7_letter.2.1 47 = .ok (.ireturn, 1) := by decide +kernel
theorem dX7_letter_48 : decode mX7_letter.2.1 48 = .ok (.aload_n 0, 1) := by decide +kernel
theorem dX7_letter_49 : decode mX7_letter.2.1 49 = .ok (.getfield 120, 3) := by decide +kernel
theorem dX7_letter_52 : decode mX7_letter.2.1 52 = .ok (.bipush 12, 2) := by decide +kernel
theorem dX7_letter_54 : decode mX7_letter.2.1 54 = .ok (.if_icmp .ne 6, 3) := by decide +kernel
theorem dX7_letter_57 : decode mX7_letter.2.1 57 = .ok (.bipush (-4), 2) := by decide +kernel
theorem dX7_letter_59 : decode mX7_letter.2.1 59 = .ok (.ireturn, 1) := by decide +kernel
theorem dX7_letter_60 : decode mX7_letter.2.1 60 = .ok (.aload_n 0, 1) := by decide +kernel
theorem dX7_letter_61 : decode mX7_letter.2.1 61 = .ok (.aload_n 0, 1) := by decide +kernel
theorem dX7_letter_62 : decode mX7_letter.2.1 62 = .ok (.getfield 120, 3) := by decide +kernel
theorem dX7_letter_65 : decode mX7_letter.2.1 65 = .ok (.iload_n 1, 1) := by decide +kernel
theorem dX7_letter_66 : decode mX7_letter.2.1 66 = .ok (.iload_n 2, 1) := by decide +kernel
theorem dX7_letter_67 : decode mX7_letter.2.1 67 = .ok (.iload_n 3, 1) := by decide +kernel
theorem dX7_letter_68 : decode mX7_letter.2.1 68 = .ok (.iload 4, 2) := by decide +kernel
theorem dX7_letter_70 : decode mX7_letter.2.1 70 = .ok (.iload 5, 2) := by decide +kernel
theorem dX7_letter_72 : decode mX7_letter.2.1 72 = .ok (.invokevirtual 123, 3) := by decide +kernel
theorem dX7_letter_75 : decode mX7_letter.2.1 75 = .ok (.aload_n 0, 1) := by decide +kernel
theorem dX7_letter_76 : decode mX7_letter.2.1 76 = .ok (.dup, 1) := by decide +kernel
theorem dX7_letter_77 : decode mX7_letter.2.1 77 = .ok (.getfield 120, 3) := by decide +kernel
theorem dX7_letter_80 : decode mX7_letter.2.1 80 = .ok (.iconst 1, 1) := by decide +kernel
theorem dX7_letter_81 : decode mX7_letter.2.1 81 = .ok (.iadd, 1) := by decide +kernel
theorem dX7_letter_82 : decode mX7_letter.2.1 82 = .ok (.putfield 120, 3) := by decide +kernel
theorem dX7_letter_85 : decode mX7_letter.2.1 85 = .ok (.aload_n 0, 1) := by decide +kernel
theorem dX7_letter_86 : decode mX7_letter.2.1 86 = .ok (.getfield 120, 3) := by decide +kernel
theorem dX7_letter_89 : decode mX7_letter.2.1 89 = .ok (.ireturn, 1) := by decide +kernel
def fn_X7_letter (x1 : Int32) (x2 : Int32) (x3 : Int32) (x4 : Int32) (x5 : Int32) (σ : Sg) : Option (Int32 × Sg) :=
  (Option.bind (fn_X7_isTen x1 σ) fun q269 =>
  (if q269 = 0 then (some ((-2), σ))
  else (Option.bind (fn_X7_isTen x2 σ) fun q270 =>
  (if q270 = 0 then (some ((-2), σ))
  else (if x1 = x2 then (some ((-2), σ))
  else (Option.bind (fn_X7_isYear x3 σ) fun q271 =>
  (if q271 = 0 then (some ((-2), σ))
  else (Option.bind (fn_X7_isWord x4 σ) fun q272 =>
  (if q272 = 0 then (some ((-2), σ))
  else (Option.bind (fn_X7_in x5 (-1) 7 σ) fun q273 =>
  (if q273 = 0 then (some ((-2), σ))
  else (if (σ 53 7) = 12 then (some ((-4), σ))
  else (Option.bind (fn_X7_lays (σ 53 7) x1 x2 x3 x4 x5 σ) fun q274 =>
  (some (((ag_up q274 53 7 ((q274 53 7) + 1)) 53 7), (ag_up q274 53 7 ((q274 53 7) + 1)))))))))))))))))
set_option maxRecDepth 20000 in
set_option maxHeartbeats 4000000 in
theorem im_X7_letter (x1 : Int32) (x2 : Int32) (x3 : Int32) (x4 : Int32) (x5 : Int32) (σ : Sg) : Im yX7_letter mX7_letter 2 42 jW [.ref 53, .int x1, .int x2, .int x3, .int x4, .int x5] σ (fn_X7_letter x1 x2 x3 x4 x5 σ) := by
  refine Im.of (by decide +kernel) rfl rfl (Nat.le_of_ble_eq_true rfl) ?_
  show Ev mX7_letter 2 42 jW 0 [(0, .ref 53), (1, .int x1), (2, .int x2), (3, .int x3), (4, .int x4), (5, .int x5)] [] σ (fn_X7_letter x1 x2 x3 x4 x5 σ)
  unfold fn_X7_letter
  refine ev_iload_n (pc := 0) (i := 1) 1 dX7_letter_0 rfl rfl ?_
  refine ev_sI (pc := 1) (as := [.int x1]) (rest := []) ⟨111, ms_X7_isTen, ag_ml_X7_111, rfl, (Nat.le_of_ble_eq_true rfl), ⟨(Nat.le_of_ble_eq_true rfl), (Nat.le_of_ble_eq_true rfl)⟩, dX7_letter_1⟩ (im_X7_isTen x1 σ) (fun q269 => ?_)
  refine ev_if_eq (pc := 4) (tgt := 45) dX7_letter_4 rfl ?_ ?_
  · refine ev_bipush (pc := 45) (v := (-2)) dX7_letter_45 (by decide) ?_
    exact ev_irW rfl dX7_letter_47
  · refine ev_iload_n (pc := 7) (i := 2) 2 dX7_letter_7 rfl rfl ?_
    refine ev_sI (pc := 8) (as := [.int x2]) (rest := []) ⟨111, ms_X7_isTen, ag_ml_X7_111, rfl, (Nat.le_of_ble_eq_true rfl), ⟨(Nat.le_of_ble_eq_true rfl), (Nat.le_of_ble_eq_true rfl)⟩, dX7_letter_8⟩ (im_X7_isTen x2 σ) (fun q270 => ?_)
    refine ev_if_eq (pc := 11) (tgt := 45) dX7_letter_11 rfl ?_ ?_
    · refine ev_bipush (pc := 45) (v := (-2)) dX7_letter_45 (by decide) ?_
      exact ev_irW rfl dX7_letter_47
    · refine ev_iload_n (pc := 14) (i := 1) 1 dX7_letter_14 rfl rfl ?_
      refine ev_iload_n (pc := 15) (i := 2) 2 dX7_letter_15 rfl rfl ?_
      refine ev_icmp_eq (pc := 16) (tgt := 45) dX7_letter_16 rfl ?_ ?_
      · refine ev_bipush (pc := 45) (v := (-2)) dX7_letter_45 (by decide) ?_
        exact ev_irW rfl dX7_letter_47
      · refine ev_iload_n (pc := 19) (i := 3) 3 dX7_letter_19 rfl rfl ?_
        refine ev_sI (pc := 20) (as := [.int x3]) (rest := []) ⟨114, ms_X7_isYear, ag_ml_X7_114, rfl, (Nat.le_of_ble_eq_true rfl), ⟨(Nat.le_of_ble_eq_true rfl), (Nat.le_of_ble_eq_true rfl)⟩, dX7_letter_20⟩ (im_X7_isYear x3 σ) (fun q271 => ?_)
        refine ev_if_eq (pc := 23) (tgt := 45) dX7_letter_23 rfl ?_ ?_
        · refine ev_bipush (pc := 45) (v := (-2)) dX7_letter_45 (by decide) ?_
          exact ev_irW rfl dX7_letter_47
        · refine ev_iload (pc := 26) 4 dX7_letter_26 rfl ?_
          refine ev_sI (pc := 28) (as := [.int x4]) (rest := []) ⟨117, ms_X7_isWord, ag_ml_X7_117, rfl, (Nat.le_of_ble_eq_true rfl), ⟨(Nat.le_of_ble_eq_true rfl), (Nat.le_of_ble_eq_true rfl)⟩, dX7_letter_28⟩ (im_X7_isWord x4 σ) (fun q272 => ?_)
          refine ev_if_eq (pc := 31) (tgt := 45) dX7_letter_31 rfl ?_ ?_
          · refine ev_bipush (pc := 45) (v := (-2)) dX7_letter_45 (by decide) ?_
            exact ev_irW rfl dX7_letter_47
          · refine ev_iload (pc := 34) 5 dX7_letter_34 rfl ?_
            refine ev_iconst (pc := 36) (v := (-1)) dX7_letter_36 (by decide) ?_
            refine ev_bipush (pc := 37) (v := 7) dX7_letter_37 (by decide) ?_
            refine ev_sI (pc := 39) (as := [.int x5, .int (-1), .int 7]) (rest := []) ⟨85, ms_X7_in, ag_ml_X7_85, rfl, (Nat.le_of_ble_eq_true rfl), ⟨(Nat.le_of_ble_eq_true rfl), (Nat.le_of_ble_eq_true rfl)⟩, dX7_letter_39⟩ (im_X7_in x5 (-1) 7 σ) (fun q273 => ?_)
            refine ev_if_ne (pc := 42) (tgt := 48) dX7_letter_42 rfl ?_ ?_
            · refine ev_bipush (pc := 45) (v := (-2)) dX7_letter_45 (by decide) ?_
              exact ev_irW rfl dX7_letter_47
            · refine ev_aload_n (pc := 48) (i := 0) 0 dX7_letter_48 rfl rfl ?_
              refine ev_getI (pc := 49) 7 ag_C7 (rfl) (by decide) (Nat.le_of_ble_eq_true rfl) rfl rfl ag_fl_X7_120 dX7_letter_49 ?_
              refine ev_bipush (pc := 52) (v := 12) dX7_letter_52 (by decide) ?_
              refine ev_icmp_ne (pc := 54) (tgt := 60) dX7_letter_54 rfl ?_ ?_
              · refine ev_bipush (pc := 57) (v := (-4)) dX7_letter_57 (by decide) ?_
                exact ev_irW rfl dX7_letter_59
              · refine ev_aload_n (pc := 60) (i := 0) 0 dX7_letter_60 rfl rfl ?_
                refine ev_aload_n (pc := 61) (i := 0) 0 dX7_letter_61 rfl rfl ?_
                refine ev_getI (pc := 62) 7 ag_C7 (rfl) (by decide) (Nat.le_of_ble_eq_true rfl) rfl rfl ag_fl_X7_120 dX7_letter_62 ?_
                refine ev_iload_n (pc := 65) (i := 1) 1 dX7_letter_65 rfl rfl ?_
                refine ev_iload_n (pc := 66) (i := 2) 2 dX7_letter_66 rfl rfl ?_
                refine ev_iload_n (pc := 67) (i := 3) 3 dX7_letter_67 rfl rfl ?_
                refine ev_iload (pc := 68) 4 dX7_letter_68 rfl ?_
                refine ev_iload (pc := 70) 5 dX7_letter_70 rfl ?_
                refine ev_vV (pc := 72) (as := [.int (σ 53 7), .int x1, .int x2, .int x3, .int x4, .int x5]) (rest := []) ⟨7, 123, 37, TX7, tyX7, ag_C7, ⟨(rfl), (by decide)⟩, mv_X7_lays, ag_ml_X7_123, rfl, (Nat.le_of_ble_eq_true rfl), ⟨(Nat.le_of_ble_eq_true rfl), (Nat.le_of_ble_eq_true rfl)⟩, dX7_letter_72⟩ (im_X7_lays (σ 53 7) x1 x2 x3 x4 x5 σ) (fun q274 => ?_)
                refine ev_aload_n (pc := 75) (i := 0) 0 dX7_letter_75 rfl rfl ?_
                refine ev_dup (pc := 76) dX7_letter_76 rfl ?_
                refine ev_getI (pc := 77) 7 ag_C7 (rfl) (by decide) (Nat.le_of_ble_eq_true rfl) rfl rfl ag_fl_X7_120 dX7_letter_77 ?_
                refine ev_iconst (pc := 80) (v := 1) dX7_letter_80 (by decide) ?_
                refine ev_iadd (pc := 81) dX7_letter_81 ?_
                refine ev_put (pc := 82) 7 ag_C7 (rfl) (by decide) (Nat.le_of_ble_eq_true rfl) rfl rfl ag_fl_X7_120 rfl rfl rfl dX7_letter_82 ?_
                refine ev_aload_n (pc := 85) (i := 0) 0 dX7_letter_85 rfl rfl ?_
                refine ev_getI (pc := 86) 7 ag_C7 (rfl) (by decide) (Nat.le_of_ble_eq_true rfl) rfl rfl ag_fl_X7_120 dX7_letter_86 ?_
                exact ev_irW rfl dX7_letter_89
-- X7_back
def mX7_back : Md := (RX7, cX7_back, 1, some .int, none)
theorem mv_X7_back : ag_Mv yX7_back mX7_back 0 := ⟨ag_co_X7_back, ag_im_X7_back, ag_se_X7_back, ag_ini_X7, by decide +kernel⟩
theorem dX7_back_0 : decode mX7_back.2.1 0 = .ok (.aload_n 0, 1) := by decide +kernel
theorem dX7_back_1 : decode mX7_back.2.1 1 = .ok (.getfield 120, 3) := by decide +kernel
theorem dX7_back_4 : decode mX7_back.2.1 4 = .ok (.ifCond .ne 6, 3) := by decide +kernel
theorem dX7_back_7 : decode mX7_back.2.1 7 = .ok (.bipush (-3), 2) := by decide +kernel
theorem dX7_back_9 : decode mX7_back.2.1 9 = .ok (.ireturn, 1) := by decide +kernel
theorem dX7_back_10 : decode mX7_back.2.1 10 = .ok (.aload_n 0, 1) := by decide +kernel
theorem dX7_back_11 : decode mX7_back.2.1 11 = .ok (.dup, 1) := by decide +kernel
theorem dX7_back_12 : decode mX7_back.2.1 12 = .ok (.getfield 120, 3) := by decide +kernel
theorem dX7_back_15 : decode mX7_back.2.1 15 = .ok (.iconst 1, 1) := by decide +kernel
theorem dX7_back_16 : decode mX7_back.2.1 16 = .ok (.isub, 1) := by decide +kernel
theorem dX7_back_17 : decode mX7_back.2.1 17 = .ok (.putfield 120, 3) := by decide +kernel
theorem dX7_back_20 : decode mX7_back.2.1 20 = .ok (.aload_n 0, 1) := by decide +kernel
theorem dX7_back_21 : decode mX7_back.2.1 21 = .ok (.getfield 120, 3) := by decide +kernel
theorem dX7_back_24 : decode mX7_back.2.1 24 = .ok (.ireturn, 1) := by decide +kernel
def fn_X7_back  (σ : Sg) : Option (Int32 × Sg) :=
  (if (σ 53 7) = 0 then (some ((-3), σ))
  else (some (((ag_up σ 53 7 ((σ 53 7) - 1)) 53 7), (ag_up σ 53 7 ((σ 53 7) - 1)))))
set_option maxRecDepth 20000 in
set_option maxHeartbeats 4000000 in
theorem im_X7_back  (σ : Sg) : Im yX7_back mX7_back 0 0 jW [.ref 53] σ (fn_X7_back  σ) := by
  refine Im.of (by decide +kernel) rfl rfl (Nat.le_of_ble_eq_true rfl) ?_
  show Ev mX7_back 0 0 jW 0 [(0, .ref 53)] [] σ (fn_X7_back  σ)
  unfold fn_X7_back
  refine ev_aload_n (pc := 0) (i := 0) 0 dX7_back_0 rfl rfl ?_
  refine ev_getI (pc := 1) 7 ag_C7 (rfl) (by decide) (Nat.le_of_ble_eq_true rfl) rfl rfl ag_fl_X7_120 dX7_back_1 ?_
  refine ev_if_ne (pc := 4) (tgt := 10) dX7_back_4 rfl ?_ ?_
  · refine ev_bipush (pc := 7) (v := (-3)) dX7_back_7 (by decide) ?_
    exact ev_irW rfl dX7_back_9
  · refine ev_aload_n (pc := 10) (i := 0) 0 dX7_back_10 rfl rfl ?_
    refine ev_dup (pc := 11) dX7_back_11 rfl ?_
    refine ev_getI (pc := 12) 7 ag_C7 (rfl) (by decide) (Nat.le_of_ble_eq_true rfl) rfl rfl ag_fl_X7_120 dX7_back_12 ?_
    refine ev_iconst (pc := 15) (v := 1) dX7_back_15 (by decide) ?_
    refine ev_isub (pc := 16) dX7_back_16 ?_
    refine ev_put (pc := 17) 7 ag_C7 (rfl) (by decide) (Nat.le_of_ble_eq_true rfl) rfl rfl ag_fl_X7_120 rfl rfl rfl dX7_back_17 ?_
    refine ev_aload_n (pc := 20) (i := 0) 0 dX7_back_20 rfl rfl ?_
    refine ev_getI (pc := 21) 7 ag_C7 (rfl) (by decide) (Nat.le_of_ble_eq_true rfl) rfl rfl ag_fl_X7_120 dX7_back_21 ?_
    exact ev_irW rfl dX7_back_24
-- X7_isSheet
def mX7_isSheet : Md := (RX7, cX7_isSheet, 1, some .boolean, none)
theorem ms_X7_isSheet : ag_Ms yX7_isSheet mX7_isSheet 1 := ⟨ag_co_X7_isSheet, ag_st_X7_isSheet, ag_ini_X7, by decide +kernel⟩
theorem dX7_isSheet_0 : decode mX7_isSheet.2.1 0 = .ok (.iload_n 0, 1) := by decide +kernel
theorem dX7_isSheet_1 : decode mX7_isSheet.2.1 1 = .ok (.iconst 0, 1) := by decide +kernel
theorem dX7_isSheet_2 : decode mX7_isSheet.2.1 2 = .ok (.iconst 3, 1) := by decide +kernel
theorem dX7_isSheet_3 : decode mX7_isSheet.2.1 3 = .ok (.invokestatic 85, 3) := by decide +kernel
theorem dX7_isSheet_6 : decode mX7_isSheet.2.1 6 = .ok (.ireturn, 1) := by decide +kernel
def fn_X7_isSheet (x0 : Int32) (σ : Sg) : Option Int32 :=
  (Option.bind (fn_X7_in x0 0 3 σ) fun q275 =>
  (if ag_bl q275 = true then (some q275) else none))
set_option maxRecDepth 20000 in
set_option maxHeartbeats 4000000 in
theorem im_X7_isSheet (x0 : Int32) (σ : Sg) : Im yX7_isSheet mX7_isSheet 1 22 (jI σ) [.int x0] σ (fn_X7_isSheet x0 σ) := by
  refine Im.of (by decide +kernel) rfl rfl (Nat.le_of_ble_eq_true rfl) ?_
  show Ev mX7_isSheet 1 22 (jI σ) 0 [(0, .int x0)] [] σ (fn_X7_isSheet x0 σ)
  unfold fn_X7_isSheet
  refine ev_iload_n (pc := 0) (i := 0) 0 dX7_isSheet_0 rfl rfl ?_
  refine ev_iconst (pc := 1) (v := 0) dX7_isSheet_1 (by decide) ?_
  refine ev_iconst (pc := 2) (v := 3) dX7_isSheet_2 (by decide) ?_
  refine ev_sI (pc := 3) (as := [.int x0, .int 0, .int 3]) (rest := []) ⟨85, ms_X7_in, ag_ml_X7_85, rfl, (Nat.le_of_ble_eq_true rfl), ⟨(Nat.le_of_ble_eq_true rfl), (Nat.le_of_ble_eq_true rfl)⟩, dX7_isSheet_3⟩ (im_X7_in x0 0 3 σ) (fun q275 => ?_)
  exact ev_zrI rfl dX7_isSheet_6
-- X7_meets
def mX7_meets : Md := (RX7, cX7_meets, 2, some .int, none)
theorem mv_X7_meets : ag_Mv yX7_meets mX7_meets 1 := ⟨ag_co_X7_meets, ag_im_X7_meets, ag_se_X7_meets, ag_ini_X7, by decide +kernel⟩
theorem dX7_meets_0 : decode mX7_meets.2.1 0 = .ok (.aload_n 0, 1) := by decide +kernel
theorem dX7_meets_1 : decode mX7_meets.2.1 1 = .ok (.iload_n 1, 1) := by decide +kernel
theorem dX7_meets_2 : decode mX7_meets.2.1 2 = .ok (.putfield 269, 3) := by decide +kernel
theorem dX7_meets_5 : decode mX7_meets.2.1 5 = .ok (.bipush (-10), 2) := by decide +kernel
theorem dX7_meets_7 : decode mX7_meets.2.1 7 = .ok (.iload_n 1, 1) := by decide +kernel
theorem dX7_meets_8 : decode mX7_meets.2.1 8 = .ok (.isub, 1) := by decide +kernel
theorem dX7_meets_9 : decode mX7_meets.2.1 9 = .ok (.ireturn, 1) := by decide +kernel
def fn_X7_meets (x1 : Int32) (σ : Sg) : Option (Int32 × Sg) :=
  (some (((-10) - x1), (ag_up σ 53 36 x1)))
set_option maxRecDepth 20000 in
set_option maxHeartbeats 4000000 in
theorem im_X7_meets (x1 : Int32) (σ : Sg) : Im yX7_meets mX7_meets 0 0 jW [.ref 53, .int x1] σ (fn_X7_meets x1 σ) := by
  refine Im.of (by decide +kernel) rfl rfl (Nat.le_of_ble_eq_true rfl) ?_
  show Ev mX7_meets 0 0 jW 0 [(0, .ref 53), (1, .int x1)] [] σ (fn_X7_meets x1 σ)
  unfold fn_X7_meets
  refine ev_aload_n (pc := 0) (i := 0) 0 dX7_meets_0 rfl rfl ?_
  refine ev_iload_n (pc := 1) (i := 1) 1 dX7_meets_1 rfl rfl ?_
  refine ev_put (pc := 2) 36 ag_C7 (rfl) (by decide) (Nat.le_of_ble_eq_true rfl) rfl rfl ag_fl_X7_269 rfl rfl rfl dX7_meets_2 ?_
  refine ev_bipush (pc := 5) (v := (-10)) dX7_meets_5 (by decide) ?_
  refine ev_iload_n (pc := 7) (i := 1) 1 dX7_meets_7 rfl rfl ?_
  refine ev_isub (pc := 8) dX7_meets_8 ?_
  exact ev_irW rfl dX7_meets_9
-- X7_read
def mX7_read : Md := (RX7, cX7_read, 5, some .int, none)
theorem mv_X7_read : ag_Mv yX7_read mX7_read 1 := ⟨ag_co_X7_read, ag_im_X7_read, ag_se_X7_read, ag_ini_X7, by decide +kernel⟩
theorem dX7_read_0 : decode mX7_read.2.1 0 = .ok (.iload_n 1, 1) := by decide +kernel
theorem dX7_read_1 : decode mX7_read.2.1 1 = .ok (.invokestatic 127, 3) := by decide +kernel
theorem dX7_read_4 : decode mX7_read.2.1 4 = .ok (.ifCond .ne 6, 3) := by decide +kernel
theorem dX7_read_7 : decode mX7_read.2.1 7 = .ok (.bipush (-2), 2) := by decide +kernel
theorem dX7_read_9 : decode mX7_read.2.1 9 = .ok (.ireturn, 1) := by decide +kernel
theorem dX7_read_10 : decode mX7_read.2.1 10 = .ok (.aload_n 0, 1) := by decide +kernel
theorem dX7_read_11 : decode mX7_read.2.1 11 = .ok (.getfield 64, 3) := by decide +kernel
theorem dX7_read_14 : decode mX7_read.2.1 14 = .ok (.iload_n 1, 1) := by decide +kernel
theorem dX7_read_15 : decode mX7_read.2.1 15 = .ok (.baload, 1) := by decide +kernel
theorem dX7_read_16 : decode mX7_read.2.1 16 = .ok (.ifCond .ne 9, 3) := by decide +kernel
theorem dX7_read_19 : decode mX7_read.2.1 19 = .ok (.aload_n 0, 1) := by decide +kernel
theorem dX7_read_20 : decode mX7_read.2.1 20 = .ok (.iconst 1, 1) := by decide +kernel
theorem dX7_read_21 : decode mX7_read.2.1 21 = .ok (.invokevirtual 130, 3) := by decide +kernel
theorem dX7_read_24 : decode mX7_read.2.1 24 = .ok (.ireturn, 1) := by decide +kernel
theorem dX7_read_25 : decode mX7_read.2.1 25 = .ok (.iconst 0, 1) := by decide +kernel
theorem dX7_read_26 : decode mX7_read.2.1 26 = .ok (.istore_n 2, 1) := by decide +kernel
theorem dX7_read_27 : decode mX7_read.2.1 27 = .ok (.iconst 1, 1) := by decide +kernel
theorem dX7_read_28 : decode mX7_read.2.1 28 = .ok (.istore_n 3, 1) := by decide +kernel
theorem dX7_read_29 : decode mX7_read.2.1 29 = .ok (.iload_n 3, 1) := by decide +kernel
theorem dX7_read_30 : decode mX7_read.2.1 30 = .ok (.ifCond .eq 98, 3) := by decide +kernel
theorem dX7_read_33 : decode mX7_read.2.1 33 = .ok (.iconst 5, 1) := by decide +kernel
theorem dX7_read_34 : decode mX7_read.2.1 34 = .ok (.iload_n 2, 1) := by decide +kernel
theorem dX7_read_35 : decode mX7_read.2.1 35 = .ok (.imul, 1) := by decide +kernel
theorem dX7_read_36 : decode mX7_read.2.1 36 = .ok (.iconst 4, 1) := by decide +kernel
theorem dX7_read_37 : decode mX7_read.2.1 37 = .ok (.iadd, 1) := by decide +kernel
theorem dX7_read_38 : decode mX7_read.2.1 38 = .ok (.aload_n 0, 1) := by decide +kernel
theorem dX7_read_39 : decode mX7_read.2.1 39 = .ok (.getfield 71, 3) := by decide +kernel
theorem dX7_read_42 : decode mX7_read.2.1 42 = .ok (.iload_n 1, 1) := by decide +kernel
theorem dX7_read_43 : decode mX7_read.2.1 43 = .ok (.iaload, 1) := by decide +kernel
theorem dX7_read_44 : decode mX7_read.2.1 44 = .ok (.if_icmp .ge 84, 3) := by decide +kernel
theorem dX7_read_47 : decode mX7_read.2.1 47 = .ok (.bipush 48, 2) := by decide +kernel
theorem dX7_read_49 : decode mX7_read.2.1 49 = .ok (.iload_n 1, 1) := by decide +kernel
theorem dX7_read_50 : decode mX7_read.2.1 50 = .ok (.imul, 1) := by decide +kernel
theorem dX7_read_51 : decode mX7_read.2.1 51 = .ok (.iconst 5, 1) := by decide +kernel
theorem dX7_read_52 : decode mX7_read.2.1 52 = .ok (.iload_n 2, 1) := by decide +kernel
theorem dX7_read_53 : decode mX7_read.2.1 53 = .ok (.imul, 1) := by decide +kernel
theorem dX7_read_54 : decode mX7_read.2.1 54 = .ok (.iadd, 1) := by decide +kernel
theorem dX7_read_55 : decode mX7_read.2.1 55 = .ok (.istore 4, 2) := by decide +kernel
theorem dX7_read_57 : decode mX7_read.2.1 57 = .ok (.aload_n 0, 1) := by decide +kernel
theorem dX7_read_58 : decode mX7_read.2.1 58 = .ok (.aload_n 0, 1) := by decide +kernel
theorem dX7_read_59 : decode mX7_read.2.1 59 = .ok (.getfield 74, 3) := by decide +kernel
theorem dX7_read_62 : decode mX7_read.2.1 62 = .ok (.iload 4, 2) := by decide +kernel
theorem dX7_read_64 : decode mX7_read.2.1 64 = .ok (.iaload, 1) := by decide +kernel
theorem dX7_read_65 : decode mX7_read.2.1 65 = .ok (.aload_n 0, 1) := by decide +kernel
theorem dX7_read_66 : decode mX7_read.2.1 66 = .ok (.getfield 74, 3) := by decide +kernel
theorem dX7_read_69 : decode mX7_read.2.1 69 = .ok (.iload 4, 2) := by decide +kernel
theorem dX7_read_71 : decode mX7_read.2.1 71 = .ok (.iconst 1, 1) := by decide +kernel
theorem dX7_read_72 : decode mX7_read.2.1 72 = .ok (.iadd, 1) := by decide +kernel
theorem dX7_read_73 : decode mX7_read.2.1 73 = .ok (.iaload, 1) := by decide +kernel
theorem dX7_read_74 : decode mX7_read.2.1 74 = .ok (.aload_n 0, 1) := by decide +kernel
theorem dX7_read_75 : decode mX7_read.2.1 75 = .ok (.getfield 74, 3) := by decide +kernel
theorem dX7_read_78 : decode mX7_read.2.1 78 = .ok (.iload 4, 2) := by decide +kernel
theorem dX7_read_80 : decode mX7_read.2.1 80 = .ok (.iconst 2, 1) := by decide +kernel
theorem dX7_read_81 : decode mX7_read.2.1 81 = .ok (.iadd, 1) := by decide +kernel
theorem dX7_read_82 : decode mX7_read.2.1 82 = .ok (.iaload, 1) := by decide +kernel
theorem dX7_read_83 : decode mX7_read.2.1 83 = .ok (.aload_n 0, 1) := by decide +kernel
theorem dX7_read_84 : decode mX7_read.2.1 84 = .ok (.getfield 74, 3) := by decide +kernel
theorem dX7_read_87 : decode mX7_read.2.1 87 = .ok (.iload 4, 2) := by decide +kernel
theorem dX7_read_89 : decode mX7_read.2.1 89 = .ok (.iconst 3, 1) := by decide +kernel
theorem dX7_read_90 : decode mX7_read.2.1 90 = .ok (.iadd, 1) := by decide +kernel
theorem dX7_read_91 : decode mX7_read.2.1 91 = .ok (.iaload, 1) := by decide +kernel
theorem dX7_read_92 : decode mX7_read.2.1 92 = .ok (.aload_n 0, 1) := by decide +kernel
theorem dX7_read_93 : decode mX7_read.2.1 93 = .ok (.getfield 74, 3) := by decide +kernel
theorem dX7_read_96 : decode mX7_read.2.1 96 = .ok (.iload 4, 2) := by decide +kernel
theorem dX7_read_98 : decode mX7_read.2.1 98 = .ok (.iconst 4, 1) := by decide +kernel
theorem dX7_read_99 : decode mX7_read.2.1 99 = .ok (.iadd, 1) := by decide +kernel
theorem dX7_read_100 : decode mX7_read.2.1 100 = .ok (.iaload, 1) := by decide +kernel
theorem dX7_read_101 : decode mX7_read.2.1 101 = .ok (.invokevirtual 133, 3) := by decide +kernel
theorem dX7_read_104 : decode mX7_read.2.1 104 = .ok (.ifCond .le 7, 3) := by decide +kernel
theorem dX7_read_107 : decode mX7_read.2.1 107 = .ok (.iconst 1, 1) := by decide +kernel
theorem dX7_read_108 : decode mX7_read.2.1 108 = .ok (.goto 4, 3) := by decide +kernel
theorem dX7_read_111 : decode mX7_read.2.1 111 = .ok (.iconst 0, 1) := by decide +kernel
theorem dX7_read_112 : decode mX7_read.2.1 112 = .ok (.istore_n 3, 1) := by decide +kernel
theorem dX7_read_113 : decode mX7_read.2.1 113 = .ok (.iload_n 2, 1) := by decide +kernel
theorem dX7_read_114 : decode mX7_read.2.1 114 = .ok (.iload_n 3, 1) := by decide +kernel
theorem dX7_read_115 : decode mX7_read.2.1 115 = .ok (.ifCond .eq 7, 3) := by decide +kernel
theorem dX7_read_118 : decode mX7_read.2.1 118 = .ok (.iconst 1, 1) := by decide +kernel
theorem dX7_read_119 : decode mX7_read.2.1 119 = .ok (.goto 4, 3) := by decide +kernel
theorem dX7_read_122 : decode mX7_read.2.1 122 = .ok (.iconst 0, 1) := by decide +kernel
theorem dX7_read_123 : decode mX7_read.2.1 123 = .ok (.iadd, 1) := by decide +kernel
theorem dX7_read_124 : decode mX7_read.2.1 124 = .ok (.istore_n 2, 1) := by decide +kernel
theorem dX7_read_125 : decode mX7_read.2.1 125 = .ok (.goto (-96), 3) := by decide +kernel
theorem dX7_read_128 : decode mX7_read.2.1 128 = .ok (.iload_n 2, 1) := by decide +kernel
theorem dX7_read_129 : decode mX7_read.2.1 129 = .ok (.ireturn, 1) := by decide +kernel
def fn_X7_read_b123 (n : Nat) (x1 : Int32) (k29 : Int32 → Int32 → Sg → Option (Int32 × Sg)) (v3 : Int32) (s0 : Int32) (s1 : Int32) (σ : Sg) : Option (Int32 × Sg) :=
  (k29 (s0 + s1) v3 σ)
set_option maxRecDepth 20000 in
set_option maxHeartbeats 4000000 in
theorem ev_X7_read_b123 (n : Nat) (x1 : Int32) (k29 : Int32 → Int32 → Sg → Option (Int32 × Sg)) (hk29 : ∀ (v2 : Int32) (v3 : Int32) (σ : Sg), Ev mX7_read 3 67 jW 29 [(0, .ref 53), (1, .int x1), (2, .int v2), (3, .int v3)] [] σ (k29 v2 v3 σ)) (v3 : Int32) (s0 : Int32) (s1 : Int32) (σ : Sg) : Ev mX7_read 3 67 jW 123 [(0, .ref 53), (1, .int x1), (3, .int v3)] [.int s1, .int s0] σ (fn_X7_read_b123 n x1 k29 v3 s0 s1 σ) := by
  unfold fn_X7_read_b123
  refine ev_iadd (pc := 123) dX7_read_123 ?_
  refine ev_istore_n (pc := 124) (i := 2) (lv' := [(2, .int (s0 + s1)), (0, .ref 53), (1, .int x1), (3, .int v3)]) dX7_read_124 rfl (Nat.le_of_ble_eq_true rfl) rfl ?_
  refine ev_goto (pc := 125) (tgt := 29) dX7_read_125 rfl ?_
  refine ev_sub [1, 2, 0, 3] rfl ?_
  exact hk29 (s0 + s1) v3 σ
def fn_X7_read_b112 (n : Nat) (x1 : Int32) (k29 : Int32 → Int32 → Sg → Option (Int32 × Sg)) (v2 : Int32) (s0 : Int32) (σ : Sg) : Option (Int32 × Sg) :=
  (if s0 = 0 then (fn_X7_read_b123 n x1 k29 s0 v2 0 σ)
  else (fn_X7_read_b123 n x1 k29 s0 v2 1 σ))
set_option maxRecDepth 20000 in
set_option maxHeartbeats 4000000 in
theorem ev_X7_read_b112 (n : Nat) (x1 : Int32) (k29 : Int32 → Int32 → Sg → Option (Int32 × Sg)) (hk29 : ∀ (v2 : Int32) (v3 : Int32) (σ : Sg), Ev mX7_read 3 67 jW 29 [(0, .ref 53), (1, .int x1), (2, .int v2), (3, .int v3)] [] σ (k29 v2 v3 σ)) (v2 : Int32) (s0 : Int32) (σ : Sg) : Ev mX7_read 3 67 jW 112 [(0, .ref 53), (1, .int x1), (2, .int v2)] [.int s0] σ (fn_X7_read_b112 n x1 k29 v2 s0 σ) := by
  unfold fn_X7_read_b112
  refine ev_istore_n (pc := 112) (i := 3) (lv' := [(3, .int s0), (0, .ref 53), (1, .int x1), (2, .int v2)]) dX7_read_112 rfl (Nat.le_of_ble_eq_true rfl) rfl ?_
  refine ev_iload_n (pc := 113) (i := 2) 3 dX7_read_113 rfl rfl ?_
  refine ev_iload_n (pc := 114) (i := 3) 0 dX7_read_114 rfl rfl ?_
  refine ev_if_eq (pc := 115) (tgt := 122) dX7_read_115 rfl ?_ ?_
  · refine ev_iconst (pc := 122) (v := 0) dX7_read_122 (by decide) ?_
    refine ev_sub [1, 2, 0] rfl ?_
    exact ev_X7_read_b123 n x1 k29 hk29 s0 v2 0 σ
  · refine ev_iconst (pc := 118) (v := 1) dX7_read_118 (by decide) ?_
    refine ev_goto (pc := 119) (tgt := 123) dX7_read_119 rfl ?_
    refine ev_sub [1, 2, 0] rfl ?_
    exact ev_X7_read_b123 n x1 k29 hk29 s0 v2 1 σ
def fn_X7_read_b29 (n : Nat) (x1 : Int32)  : Nat → Int32 → Int32 → Sg → Option (Int32 × Sg)
  | 0 => fun _ _ _ => none
  | i + 1 => fun v2 v3 σ =>
  (if v3 = 0 then (some (v2, σ))
  else (if ag_ib x1 4 = true then (if (σ 74 x1.toNatClampNeg) ≤ ((5 * v2) + 4) then (some (v2, σ))
  else (if ag_ib ((48 * x1) + (5 * v2)) 192 = true then (if ag_ib (((48 * x1) + (5 * v2)) + 1) 192 = true then (if ag_ib (((48 * x1) + (5 * v2)) + 2) 192 = true then (if ag_ib (((48 * x1) + (5 * v2)) + 3) 192 = true then (if ag_ib (((48 * x1) + (5 * v2)) + 4) 192 = true then (Option.bind (fn_X7_letter (σ 75 ((48 * x1) + (5 * v2)).toNatClampNeg) (σ 75 (((48 * x1) + (5 * v2)) + 1).toNatClampNeg) (σ 75 (((48 * x1) + (5 * v2)) + 2).toNatClampNeg) (σ 75 (((48 * x1) + (5 * v2)) + 3).toNatClampNeg) (σ 75 (((48 * x1) + (5 * v2)) + 4).toNatClampNeg) σ) fun q276 =>
  (if q276.1 ≤ 0 then (fn_X7_read_b112 n x1 (fn_X7_read_b29 n x1 i) v2 0 q276.2)
  else (fn_X7_read_b112 n x1 (fn_X7_read_b29 n x1 i) v2 1 q276.2))) else none) else none) else none) else none) else none)) else none))
theorem fn_X7_read_b29_s (n : Nat) (x1 : Int32)  (i : Nat) (v2 : Int32) (v3 : Int32) (σ : Sg) : fn_X7_read_b29 n x1 (i + 1) v2 v3 σ =
  (if v3 = 0 then (some (v2, σ))
  else (if ag_ib x1 4 = true then (if (σ 74 x1.toNatClampNeg) ≤ ((5 * v2) + 4) then (some (v2, σ))
  else (if ag_ib ((48 * x1) + (5 * v2)) 192 = true then (if ag_ib (((48 * x1) + (5 * v2)) + 1) 192 = true then (if ag_ib (((48 * x1) + (5 * v2)) + 2) 192 = true then (if ag_ib (((48 * x1) + (5 * v2)) + 3) 192 = true then (if ag_ib (((48 * x1) + (5 * v2)) + 4) 192 = true then (Option.bind (fn_X7_letter (σ 75 ((48 * x1) + (5 * v2)).toNatClampNeg) (σ 75 (((48 * x1) + (5 * v2)) + 1).toNatClampNeg) (σ 75 (((48 * x1) + (5 * v2)) + 2).toNatClampNeg) (σ 75 (((48 * x1) + (5 * v2)) + 3).toNatClampNeg) (σ 75 (((48 * x1) + (5 * v2)) + 4).toNatClampNeg) σ) fun q276 =>
  (if q276.1 ≤ 0 then (fn_X7_read_b112 n x1 (fn_X7_read_b29 n x1 i) v2 0 q276.2)
  else (fn_X7_read_b112 n x1 (fn_X7_read_b29 n x1 i) v2 1 q276.2))) else none) else none) else none) else none) else none)) else none)) := rfl
set_option maxRecDepth 20000 in
set_option maxHeartbeats 4000000 in
theorem ev_X7_read_b29 (n : Nat) (x1 : Int32)  : ∀ (i : Nat) (v2 : Int32) (v3 : Int32) (σ : Sg), Ev mX7_read 3 67 jW 29 [(0, .ref 53), (1, .int x1), (2, .int v2), (3, .int v3)] [] σ (fn_X7_read_b29 n x1 i v2 v3 σ) := by
  intro i
  induction i with
  | zero =>
    intro v2 v3 σ
    exact ev_none
  | succ i ih =>
    intro v2 v3 σ
    rw [fn_X7_read_b29_s]
    refine ev_iload_n (pc := 29) (i := 3) 3 dX7_read_29 rfl rfl ?_
    refine ev_if_eq (pc := 30) (tgt := 128) dX7_read_30 rfl ?_ ?_
    · refine ev_iload_n (pc := 128) (i := 2) 2 dX7_read_128 rfl rfl ?_
      exact ev_irW rfl dX7_read_129
    · refine ev_iconst (pc := 33) (v := 5) dX7_read_33 (by decide) ?_
      refine ev_iload_n (pc := 34) (i := 2) 2 dX7_read_34 rfl rfl ?_
      refine ev_imul (pc := 35) dX7_read_35 ?_
      refine ev_iconst (pc := 36) (v := 4) dX7_read_36 (by decide) ?_
      refine ev_iadd (pc := 37) dX7_read_37 ?_
      refine ev_aload_n (pc := 38) (i := 0) 0 dX7_read_38 rfl rfl ?_
      refine ev_getR (pc := 39) (t := 74) 33 ag_C7 (rfl) (by decide) (Nat.le_of_ble_eq_true rfl) rfl rfl ag_fl_X7_71 dX7_read_39 ?_
      refine ev_iload_n (pc := 42) (i := 1) 1 dX7_read_42 rfl rfl ?_
      refine ev_iald (pc := 43) (rfl) (by decide) dX7_read_43 ?_
      refine ev_icmp_ge (pc := 44) (tgt := 128) dX7_read_44 rfl ?_ ?_
      · refine ev_iload_n (pc := 128) (i := 2) 2 dX7_read_128 rfl rfl ?_
        exact ev_irW rfl dX7_read_129
      · refine ev_bipush (pc := 47) (v := 48) dX7_read_47 (by decide) ?_
        refine ev_iload_n (pc := 49) (i := 1) 1 dX7_read_49 rfl rfl ?_
        refine ev_imul (pc := 50) dX7_read_50 ?_
        refine ev_iconst (pc := 51) (v := 5) dX7_read_51 (by decide) ?_
        refine ev_iload_n (pc := 52) (i := 2) 2 dX7_read_52 rfl rfl ?_
        refine ev_imul (pc := 53) dX7_read_53 ?_
        refine ev_iadd (pc := 54) dX7_read_54 ?_
        refine ev_istore (pc := 55) (lv' := [(4, .int ((48 * x1) + (5 * v2))), (0, .ref 53), (1, .int x1), (2, .int v2), (3, .int v3)]) dX7_read_55 (Nat.le_of_ble_eq_true rfl) rfl ?_
        refine ev_aload_n (pc := 57) (i := 0) 1 dX7_read_57 rfl rfl ?_
        refine ev_aload_n (pc := 58) (i := 0) 1 dX7_read_58 rfl rfl ?_
        refine ev_getR (pc := 59) (t := 75) 34 ag_C7 (rfl) (by decide) (Nat.le_of_ble_eq_true rfl) rfl rfl ag_fl_X7_74 dX7_read_59 ?_
        refine ev_iload (pc := 62) 0 dX7_read_62 rfl ?_
        refine ev_iald (pc := 64) (rfl) (by decide) dX7_read_64 ?_
        refine ev_aload_n (pc := 65) (i := 0) 1 dX7_read_65 rfl rfl ?_
        refine ev_getR (pc := 66) (t := 75) 34 ag_C7 (rfl) (by decide) (Nat.le_of_ble_eq_true rfl) rfl rfl ag_fl_X7_74 dX7_read_66 ?_
        refine ev_iload (pc := 69) 0 dX7_read_69 rfl ?_
        refine ev_iconst (pc := 71) (v := 1) dX7_read_71 (by decide) ?_
        refine ev_iadd (pc := 72) dX7_read_72 ?_
        refine ev_iald (pc := 73) (rfl) (by decide) dX7_read_73 ?_
        refine ev_aload_n (pc := 74) (i := 0) 1 dX7_read_74 rfl rfl ?_
        refine ev_getR (pc := 75) (t := 75) 34 ag_C7 (rfl) (by decide) (Nat.le_of_ble_eq_true rfl) rfl rfl ag_fl_X7_74 dX7_read_75 ?_
        refine ev_iload (pc := 78) 0 dX7_read_78 rfl ?_
        refine ev_iconst (pc := 80) (v := 2) dX7_read_80 (by decide) ?_
        refine ev_iadd (pc := 81) dX7_read_81 ?_
        refine ev_iald (pc := 82) (rfl) (by decide) dX7_read_82 ?_
        refine ev_aload_n (pc := 83) (i := 0) 1 dX7_read_83 rfl rfl ?_
        refine ev_getR (pc := 84) (t := 75) 34 ag_C7 (rfl) (by decide) (Nat.le_of_ble_eq_true rfl) rfl rfl ag_fl_X7_74 dX7_read_84 ?_
        refine ev_iload (pc := 87) 0 dX7_read_87 rfl ?_
        refine ev_iconst (pc := 89) (v := 3) dX7_read_89 (by decide) ?_
        refine ev_iadd (pc := 90) dX7_read_90 ?_
        refine ev_iald (pc := 91) (rfl) (by decide) dX7_read_91 ?_
        refine ev_aload_n (pc := 92) (i := 0) 1 dX7_read_92 rfl rfl ?_
        refine ev_getR (pc := 93) (t := 75) 34 ag_C7 (rfl) (by decide) (Nat.le_of_ble_eq_true rfl) rfl rfl ag_fl_X7_74 dX7_read_93 ?_
        refine ev_iload (pc := 96) 0 dX7_read_96 rfl ?_
        refine ev_iconst (pc := 98) (v := 4) dX7_read_98 (by decide) ?_
        refine ev_iadd (pc := 99) dX7_read_99 ?_
        refine ev_iald (pc := 100) (rfl) (by decide) dX7_read_100 ?_
        refine ev_vW (pc := 101) (as := [.int (σ 75 ((48 * x1) + (5 * v2)).toNatClampNeg), .int (σ 75 (((48 * x1) + (5 * v2)) + 1).toNatClampNeg), .int (σ 75 (((48 * x1) + (5 * v2)) + 2).toNatClampNeg), .int (σ 75 (((48 * x1) + (5 * v2)) + 3).toNatClampNeg), .int (σ 75 (((48 * x1) + (5 * v2)) + 4).toNatClampNeg)]) (rest := []) ⟨7, 133, 37, TX7, tyX7, ag_C7, ⟨(rfl), (by decide)⟩, mv_X7_letter, ag_ml_X7_133, rfl, (Nat.le_of_ble_eq_true rfl), ⟨(Nat.le_of_ble_eq_true rfl), (Nat.le_of_ble_eq_true rfl)⟩, dX7_read_101⟩ (im_X7_letter (σ 75 ((48 * x1) + (5 * v2)).toNatClampNeg) (σ 75 (((48 * x1) + (5 * v2)) + 1).toNatClampNeg) (σ 75 (((48 * x1) + (5 * v2)) + 2).toNatClampNeg) (σ 75 (((48 * x1) + (5 * v2)) + 3).toNatClampNeg) (σ 75 (((48 * x1) + (5 * v2)) + 4).toNatClampNeg) σ) (fun q276 => ?_)
        refine ev_if_le (pc := 104) (tgt := 111) dX7_read_104 rfl ?_ ?_
        · refine ev_iconst (pc := 111) (v := 0) dX7_read_111 (by decide) ?_
          refine ev_sub [1, 2, 3] rfl ?_
          exact ev_X7_read_b112 n x1 (fn_X7_read_b29 n x1 i) ih v2 0 q276.2
        · refine ev_iconst (pc := 107) (v := 1) dX7_read_107 (by decide) ?_
          refine ev_goto (pc := 108) (tgt := 112) dX7_read_108 rfl ?_
          refine ev_sub [1, 2, 3] rfl ?_
          exact ev_X7_read_b112 n x1 (fn_X7_read_b29 n x1 i) ih v2 1 q276.2
def fn_X7_read (n : Nat) (x1 : Int32) (σ : Sg) : Option (Int32 × Sg) :=
  (Option.bind (fn_X7_isSheet x1 σ) fun q277 =>
  (if q277 = 0 then (some ((-2), σ))
  else (if ag_ib x1 4 = true then (if (σ 72 x1.toNatClampNeg) = 0 then (Option.bind (fn_X7_meets 1 σ) fun q278 =>
  (some (q278.1, q278.2)))
  else (fn_X7_read_b29 n x1 n 0 1 σ)) else none)))
set_option maxRecDepth 20000 in
set_option maxHeartbeats 4000000 in
theorem im_X7_read (n : Nat) (x1 : Int32) (σ : Sg) : Im yX7_read mX7_read 3 67 jW [.ref 53, .int x1] σ (fn_X7_read n x1 σ) := by
  refine Im.of (by decide +kernel) rfl rfl (Nat.le_of_ble_eq_true rfl) ?_
  show Ev mX7_read 3 67 jW 0 [(0, .ref 53), (1, .int x1)] [] σ (fn_X7_read n x1 σ)
  unfold fn_X7_read
  refine ev_iload_n (pc := 0) (i := 1) 1 dX7_read_0 rfl rfl ?_
  refine ev_sI (pc := 1) (as := [.int x1]) (rest := []) ⟨127, ms_X7_isSheet, ag_ml_X7_127, rfl, (Nat.le_of_ble_eq_true rfl), ⟨(Nat.le_of_ble_eq_true rfl), (Nat.le_of_ble_eq_true rfl)⟩, dX7_read_1⟩ (im_X7_isSheet x1 σ) (fun q277 => ?_)
  refine ev_if_ne (pc := 4) (tgt := 10) dX7_read_4 rfl ?_ ?_
  · refine ev_bipush (pc := 7) (v := (-2)) dX7_read_7 (by decide) ?_
    exact ev_irW rfl dX7_read_9
  · refine ev_aload_n (pc := 10) (i := 0) 0 dX7_read_10 rfl rfl ?_
    refine ev_getR (pc := 11) (t := 72) 31 ag_C7 (rfl) (by decide) (Nat.le_of_ble_eq_true rfl) rfl rfl ag_fl_X7_64 dX7_read_11 ?_
    refine ev_iload_n (pc := 14) (i := 1) 1 dX7_read_14 rfl rfl ?_
    refine ev_zald (pc := 15) (rfl) (by decide) dX7_read_15 ?_
    refine ev_if_ne (pc := 16) (tgt := 25) dX7_read_16 rfl ?_ ?_
    · refine ev_aload_n (pc := 19) (i := 0) 0 dX7_read_19 rfl rfl ?_
      refine ev_iconst (pc := 20) (v := 1) dX7_read_20 (by decide) ?_
      refine ev_vW (pc := 21) (as := [.int 1]) (rest := []) ⟨7, 130, 37, TX7, tyX7, ag_C7, ⟨(rfl), (by decide)⟩, mv_X7_meets, ag_ml_X7_130, rfl, (Nat.le_of_ble_eq_true rfl), ⟨(Nat.le_of_ble_eq_true rfl), (Nat.le_of_ble_eq_true rfl)⟩, dX7_read_21⟩ (im_X7_meets 1 σ) (fun q278 => ?_)
      exact ev_irW rfl dX7_read_24
    · refine ev_iconst (pc := 25) (v := 0) dX7_read_25 (by decide) ?_
      refine ev_istore_n (pc := 26) (i := 2) (lv' := [(2, .int 0), (0, .ref 53), (1, .int x1)]) dX7_read_26 rfl (Nat.le_of_ble_eq_true rfl) rfl ?_
      refine ev_iconst (pc := 27) (v := 1) dX7_read_27 (by decide) ?_
      refine ev_istore_n (pc := 28) (i := 3) (lv' := [(3, .int 1), (2, .int 0), (0, .ref 53), (1, .int x1)]) dX7_read_28 rfl (Nat.le_of_ble_eq_true rfl) rfl ?_
      refine ev_sub [2, 3, 1, 0] rfl ?_
      exact ev_X7_read_b29 n x1 n 0 1 σ
-- X7_asTold
def mX7_asTold : Md := (RX7, cX7_asTold, 1, none, none)
theorem mv_X7_asTold : ag_Mv yX7_asTold mX7_asTold 0 := ⟨ag_co_X7_asTold, ag_im_X7_asTold, ag_se_X7_asTold, ag_ini_X7, by decide +kernel⟩
theorem dX7_asTold_0 : decode mX7_asTold.2.1 0 = .ok (.aload_n 0, 1) := by decide +kernel
theorem dX7_asTold_1 : decode mX7_asTold.2.1 1 = .ok (.sipush 8191, 3) := by decide +kernel
theorem dX7_asTold_4 : decode mX7_asTold.2.1 4 = .ok (.putfield 137, 3) := by decide +kernel
theorem dX7_asTold_7 : decode mX7_asTold.2.1 7 = .ok (.aload_n 0, 1) := by decide +kernel
theorem dX7_asTold_8 : decode mX7_asTold.2.1 8 = .ok (.bipush (-2), 2) := by decide +kernel
theorem dX7_asTold_10 : decode mX7_asTold.2.1 10 = .ok (.putfield 140, 3) := by decide +kernel
theorem dX7_asTold_13 : decode mX7_asTold.2.1 13 = .ok (.aload_n 0, 1) := by decide +kernel
theorem dX7_asTold_14 : decode mX7_asTold.2.1 14 = .ok (.iconst 0, 1) := by decide +kernel
theorem dX7_asTold_15 : decode mX7_asTold.2.1 15 = .ok (.putfield 143, 3) := by decide +kernel
theorem dX7_asTold_18 : decode mX7_asTold.2.1 18 = .ok (.aload_n 0, 1) := by decide +kernel
theorem dX7_asTold_19 : decode mX7_asTold.2.1 19 = .ok (.iconst (-1), 1) := by decide +kernel
theorem dX7_asTold_20 : decode mX7_asTold.2.1 20 = .ok (.putfield 146, 3) := by decide +kernel
theorem dX7_asTold_23 : decode mX7_asTold.2.1 23 = .ok (.aload_n 0, 1) := by decide +kernel
theorem dX7_asTold_24 : decode mX7_asTold.2.1 24 = .ok (.iconst 0, 1) := by decide +kernel
theorem dX7_asTold_25 : decode mX7_asTold.2.1 25 = .ok (.putfield 149, 3) := by decide +kernel
theorem dX7_asTold_28 : decode mX7_asTold.2.1 28 = .ok (.aload_n 0, 1) := by decide +kernel
theorem dX7_asTold_29 : decode mX7_asTold.2.1 29 = .ok (.iconst 0, 1) := by decide +kernel
theorem dX7_asTold_30 : decode mX7_asTold.2.1 30 = .ok (.putfield 152, 3) := by decide +kernel
theorem dX7_asTold_33 : decode mX7_asTold.2.1 33 = .ok (.return_, 1) := by decide +kernel
def fn_X7_asTold  (σ : Sg) : Option Sg :=
  (ag_sg (ag_up (ag_up σ 53 13 8191) 53 14 (-2)) fun t279 =>
  (ag_sg (ag_up (ag_up t279 53 15 0) 53 16 (-1)) fun t280 =>
  (ag_sg (ag_up (ag_up t280 53 17 0) 53 18 0) fun t281 =>
  (some t281))))
set_option maxRecDepth 20000 in
set_option maxHeartbeats 4000000 in
theorem im_X7_asTold  (σ : Sg) : Im yX7_asTold mX7_asTold 0 0 jV [.ref 53] σ (fn_X7_asTold  σ) := by
  refine Im.of (by decide +kernel) rfl rfl (Nat.le_of_ble_eq_true rfl) ?_
  show Ev mX7_asTold 0 0 jV 0 [(0, .ref 53)] [] σ (fn_X7_asTold  σ)
  unfold fn_X7_asTold
  refine ev_aload_n (pc := 0) (i := 0) 0 dX7_asTold_0 rfl rfl ?_
  refine ev_sipush (pc := 1) (v := 8191) dX7_asTold_1 (by decide) ?_
  refine ev_put (pc := 4) 13 ag_C7 (rfl) (by decide) (Nat.le_of_ble_eq_true rfl) rfl rfl ag_fl_X7_137 rfl rfl rfl dX7_asTold_4 ?_
  refine ev_aload_n (pc := 7) (i := 0) 0 dX7_asTold_7 rfl rfl ?_
  refine ev_bipush (pc := 8) (v := (-2)) dX7_asTold_8 (by decide) ?_
  refine ev_put (pc := 10) 14 ag_C7 (rfl) (by decide) (Nat.le_of_ble_eq_true rfl) rfl rfl ag_fl_X7_140 rfl rfl rfl dX7_asTold_10 ?_
  refine ev_sg (fun t279 => ?_)
  refine ev_aload_n (pc := 13) (i := 0) 0 dX7_asTold_13 rfl rfl ?_
  refine ev_iconst (pc := 14) (v := 0) dX7_asTold_14 (by decide) ?_
  refine ev_put (pc := 15) 15 ag_C7 (rfl) (by decide) (Nat.le_of_ble_eq_true rfl) rfl rfl ag_fl_X7_143 rfl rfl rfl dX7_asTold_15 ?_
  refine ev_aload_n (pc := 18) (i := 0) 0 dX7_asTold_18 rfl rfl ?_
  refine ev_iconst (pc := 19) (v := (-1)) dX7_asTold_19 (by decide) ?_
  refine ev_put (pc := 20) 16 ag_C7 (rfl) (by decide) (Nat.le_of_ble_eq_true rfl) rfl rfl ag_fl_X7_146 rfl rfl rfl dX7_asTold_20 ?_
  refine ev_sg (fun t280 => ?_)
  refine ev_aload_n (pc := 23) (i := 0) 0 dX7_asTold_23 rfl rfl ?_
  refine ev_iconst (pc := 24) (v := 0) dX7_asTold_24 (by decide) ?_
  refine ev_put (pc := 25) 17 ag_C7 (rfl) (by decide) (Nat.le_of_ble_eq_true rfl) rfl rfl ag_fl_X7_149 rfl rfl rfl dX7_asTold_25 ?_
  refine ev_aload_n (pc := 28) (i := 0) 0 dX7_asTold_28 rfl rfl ?_
  refine ev_iconst (pc := 29) (v := 0) dX7_asTold_29 (by decide) ?_
  refine ev_put (pc := 30) 18 ag_C7 (rfl) (by decide) (Nat.le_of_ble_eq_true rfl) rfl rfl ag_fl_X7_152 rfl rfl rfl dX7_asTold_30 ?_
  refine ev_sg (fun t281 => ?_)
  exact ev_rV rfl dX7_asTold_33
-- X7_endOf
def mX7_endOf : Md := (RX7, cX7_endOf, 3, some .int, none)
theorem mv_X7_endOf : ag_Mv yX7_endOf mX7_endOf 1 := ⟨ag_co_X7_endOf, ag_im_X7_endOf, ag_se_X7_endOf, ag_ini_X7, by decide +kernel⟩
theorem dX7_endOf_0 : decode mX7_endOf.2.1 0 = .ok (.aload_n 0, 1) := by decide +kernel
theorem dX7_endOf_1 : decode mX7_endOf.2.1 1 = .ok (.getfield 16, 3) := by decide +kernel
theorem dX7_endOf_4 : decode mX7_endOf.2.1 4 = .ok (.iload_n 1, 1) := by decide +kernel
theorem dX7_endOf_5 : decode mX7_endOf.2.1 5 = .ok (.iaload, 1) := by decide +kernel
theorem dX7_endOf_6 : decode mX7_endOf.2.1 6 = .ok (.iload_n 1, 1) := by decide +kernel
theorem dX7_endOf_7 : decode mX7_endOf.2.1 7 = .ok (.aload_n 0, 1) := by decide +kernel
theorem dX7_endOf_8 : decode mX7_endOf.2.1 8 = .ok (.getfield 146, 3) := by decide +kernel
theorem dX7_endOf_11 : decode mX7_endOf.2.1 11 = .ok (.if_icmp .ne 7, 3) := by decide +kernel
theorem dX7_endOf_14 : decode mX7_endOf.2.1 14 = .ok (.iconst 1, 1) := by decide +kernel
theorem dX7_endOf_15 : decode mX7_endOf.2.1 15 = .ok (.goto 4, 3) := by decide +kernel
theorem dX7_endOf_18 : decode mX7_endOf.2.1 18 = .ok (.iconst 0, 1) := by decide +kernel
theorem dX7_endOf_19 : decode mX7_endOf.2.1 19 = .ok (.iadd, 1) := by decide +kernel
theorem dX7_endOf_20 : decode mX7_endOf.2.1 20 = .ok (.istore_n 2, 1) := by decide +kernel
theorem dX7_endOf_21 : decode mX7_endOf.2.1 21 = .ok (.aload_n 0, 1) := by decide +kernel
theorem dX7_endOf_22 : decode mX7_endOf.2.1 22 = .ok (.getfield 143, 3) := by decide +kernel
theorem dX7_endOf_25 : decode mX7_endOf.2.1 25 = .ok (.iload_n 1, 1) := by decide +kernel
theorem dX7_endOf_26 : decode mX7_endOf.2.1 26 = .ok (.invokestatic 155, 3) := by decide +kernel
theorem dX7_endOf_29 : decode mX7_endOf.2.1 29 = .ok (.ifCond .ne 7, 3) := by decide +kernel
theorem dX7_endOf_32 : decode mX7_endOf.2.1 32 = .ok (.iload_n 2, 1) := by decide +kernel
theorem dX7_endOf_33 : decode mX7_endOf.2.1 33 = .ok (.goto 17, 3) := by decide +kernel
theorem dX7_endOf_36 : decode mX7_endOf.2.1 36 = .ok (.iload_n 2, 1) := by decide +kernel
theorem dX7_endOf_37 : decode mX7_endOf.2.1 37 = .ok (.bipush 10, 2) := by decide +kernel
theorem dX7_endOf_39 : decode mX7_endOf.2.1 39 = .ok (.if_icmp .le 10, 3) := by decide +kernel
theorem dX7_endOf_42 : decode mX7_endOf.2.1 42 = .ok (.iload_n 2, 1) := by decide +kernel
theorem dX7_endOf_43 : decode mX7_endOf.2.1 43 = .ok (.bipush 10, 2) := by decide +kernel
theorem dX7_endOf_45 : decode mX7_endOf.2.1 45 = .ok (.isub, 1) := by decide +kernel
theorem dX7_endOf_46 : decode mX7_endOf.2.1 46 = .ok (.goto 4, 3) := by decide +kernel
theorem dX7_endOf_49 : decode mX7_endOf.2.1 49 = .ok (.iconst 1, 1) := by decide +kernel
theorem dX7_endOf_50 : decode mX7_endOf.2.1 50 = .ok (.ireturn, 1) := by decide +kernel
def fn_X7_endOf_b19 (x1 : Int32) (σ : Sg)  (s0 : Int32) (s1 : Int32) : Option Int32 :=
  (Option.bind (fn_X7_isIn (σ 53 15) x1 σ) fun q282 =>
  (if q282 = 0 then (some (s0 + s1))
  else (if (s0 + s1) ≤ 10 then (some 1)
  else (some ((s0 + s1) - 10)))))
set_option maxRecDepth 20000 in
set_option maxHeartbeats 4000000 in
theorem ev_X7_endOf_b19 (x1 : Int32) (σ : Sg)  (s0 : Int32) (s1 : Int32) : Ev mX7_endOf 1 21 (jI σ) 19 [(0, .ref 53), (1, .int x1)] [.int s1, .int s0] σ (fn_X7_endOf_b19 x1 σ s0 s1) := by
  unfold fn_X7_endOf_b19
  refine ev_iadd (pc := 19) dX7_endOf_19 ?_
  refine ev_istore_n (pc := 20) (i := 2) (lv' := [(2, .int (s0 + s1)), (0, .ref 53), (1, .int x1)]) dX7_endOf_20 rfl (Nat.le_of_ble_eq_true rfl) rfl ?_
  refine ev_aload_n (pc := 21) (i := 0) 1 dX7_endOf_21 rfl rfl ?_
  refine ev_getI (pc := 22) 15 ag_C7 (rfl) (by decide) (Nat.le_of_ble_eq_true rfl) rfl rfl ag_fl_X7_143 dX7_endOf_22 ?_
  refine ev_iload_n (pc := 25) (i := 1) 2 dX7_endOf_25 rfl rfl ?_
  refine ev_sI (pc := 26) (as := [.int (σ 53 15), .int x1]) (rest := []) ⟨155, ms_X7_isIn, ag_ml_X7_155, rfl, (Nat.le_of_ble_eq_true rfl), ⟨(Nat.le_of_ble_eq_true rfl), (Nat.le_of_ble_eq_true rfl)⟩, dX7_endOf_26⟩ (im_X7_isIn (σ 53 15) x1 σ) (fun q282 => ?_)
  refine ev_if_ne (pc := 29) (tgt := 36) dX7_endOf_29 rfl ?_ ?_
  · refine ev_iload_n (pc := 32) (i := 2) 0 dX7_endOf_32 rfl rfl ?_
    refine ev_goto (pc := 33) (tgt := 50) dX7_endOf_33 rfl ?_
    exact ev_irI rfl dX7_endOf_50
  · refine ev_iload_n (pc := 36) (i := 2) 0 dX7_endOf_36 rfl rfl ?_
    refine ev_bipush (pc := 37) (v := 10) dX7_endOf_37 (by decide) ?_
    refine ev_icmp_le (pc := 39) (tgt := 49) dX7_endOf_39 rfl ?_ ?_
    · refine ev_iconst (pc := 49) (v := 1) dX7_endOf_49 (by decide) ?_
      exact ev_irI rfl dX7_endOf_50
    · refine ev_iload_n (pc := 42) (i := 2) 0 dX7_endOf_42 rfl rfl ?_
      refine ev_bipush (pc := 43) (v := 10) dX7_endOf_43 (by decide) ?_
      refine ev_isub (pc := 45) dX7_endOf_45 ?_
      refine ev_goto (pc := 46) (tgt := 50) dX7_endOf_46 rfl ?_
      exact ev_irI rfl dX7_endOf_50
def fn_X7_endOf (x1 : Int32) (σ : Sg) : Option Int32 :=
  (if ag_ib x1 11 = true then (if x1 = (σ 53 16) then (fn_X7_endOf_b19 x1 σ (σ 56 x1.toNatClampNeg) 1)
  else (fn_X7_endOf_b19 x1 σ (σ 56 x1.toNatClampNeg) 0)) else none)
set_option maxRecDepth 20000 in
set_option maxHeartbeats 4000000 in
theorem im_X7_endOf (x1 : Int32) (σ : Sg) : Im yX7_endOf mX7_endOf 1 21 (jI σ) [.ref 53, .int x1] σ (fn_X7_endOf x1 σ) := by
  refine Im.of (by decide +kernel) rfl rfl (Nat.le_of_ble_eq_true rfl) ?_
  show Ev mX7_endOf 1 21 (jI σ) 0 [(0, .ref 53), (1, .int x1)] [] σ (fn_X7_endOf x1 σ)
  unfold fn_X7_endOf
  refine ev_aload_n (pc := 0) (i := 0) 0 dX7_endOf_0 rfl rfl ?_
  refine ev_getR (pc := 1) (t := 56) 4 ag_C7 (rfl) (by decide) (Nat.le_of_ble_eq_true rfl) rfl rfl ag_fl_X7_16 dX7_endOf_1 ?_
  refine ev_iload_n (pc := 4) (i := 1) 1 dX7_endOf_4 rfl rfl ?_
  refine ev_iald (pc := 5) (rfl) (by decide) dX7_endOf_5 ?_
  refine ev_iload_n (pc := 6) (i := 1) 1 dX7_endOf_6 rfl rfl ?_
  refine ev_aload_n (pc := 7) (i := 0) 0 dX7_endOf_7 rfl rfl ?_
  refine ev_getI (pc := 8) 16 ag_C7 (rfl) (by decide) (Nat.le_of_ble_eq_true rfl) rfl rfl ag_fl_X7_146 dX7_endOf_8 ?_
  refine ev_icmp_ne (pc := 11) (tgt := 18) dX7_endOf_11 rfl ?_ ?_
  · refine ev_iconst (pc := 14) (v := 1) dX7_endOf_14 (by decide) ?_
    refine ev_goto (pc := 15) (tgt := 19) dX7_endOf_15 rfl ?_
    exact ev_X7_endOf_b19 x1 σ (σ 56 x1.toNatClampNeg) 1
  · refine ev_iconst (pc := 18) (v := 0) dX7_endOf_18 (by decide) ?_
    exact ev_X7_endOf_b19 x1 σ (σ 56 x1.toNatClampNeg) 0
-- X7_lives
def mX7_lives : Md := (RX7, cX7_lives, 3, some .boolean, none)
theorem mv_X7_lives : ag_Mv yX7_lives mX7_lives 2 := ⟨ag_co_X7_lives, ag_im_X7_lives, ag_se_X7_lives, ag_ini_X7, by decide +kernel⟩
theorem dX7_lives_0 : decode mX7_lives.2.1 0 = .ok (.iload_n 1, 1) := by decide +kernel
theorem dX7_lives_1 : decode mX7_lives.2.1 1 = .ok (.iconst 0, 1) := by decide +kernel
theorem dX7_lives_2 : decode mX7_lives.2.1 2 = .ok (.aload_n 0, 1) := by decide +kernel
theorem dX7_lives_3 : decode mX7_lives.2.1 3 = .ok (.getfield 93, 3) := by decide +kernel
theorem dX7_lives_6 : decode mX7_lives.2.1 6 = .ok (.iconst 1, 1) := by decide +kernel
theorem dX7_lives_7 : decode mX7_lives.2.1 7 = .ok (.isub, 1) := by decide +kernel
theorem dX7_lives_8 : decode mX7_lives.2.1 8 = .ok (.invokestatic 85, 3) := by decide +kernel
theorem dX7_lives_11 : decode mX7_lives.2.1 11 = .ok (.ifCond .eq 32, 3) := by decide +kernel
theorem dX7_lives_14 : decode mX7_lives.2.1 14 = .ok (.iload_n 2, 1) := by decide +kernel
theorem dX7_lives_15 : decode mX7_lives.2.1 15 = .ok (.aload_n 0, 1) := by decide +kernel
theorem dX7_lives_16 : decode mX7_lives.2.1 16 = .ok (.getfield 13, 3) := by decide +kernel
theorem dX7_lives_19 : decode mX7_lives.2.1 19 = .ok (.iload_n 1, 1) := by decide +kernel
theorem dX7_lives_20 : decode mX7_lives.2.1 20 = .ok (.iaload, 1) := by decide +kernel
theorem dX7_lives_21 : decode mX7_lives.2.1 21 = .ok (.aload_n 0, 1) := by decide +kernel
theorem dX7_lives_22 : decode mX7_lives.2.1 22 = .ok (.getfield 13, 3) := by decide +kernel
theorem dX7_lives_25 : decode mX7_lives.2.1 25 = .ok (.iload_n 1, 1) := by decide +kernel
theorem dX7_lives_26 : decode mX7_lives.2.1 26 = .ok (.iaload, 1) := by decide +kernel
theorem dX7_lives_27 : decode mX7_lives.2.1 27 = .ok (.aload_n 0, 1) := by decide +kernel
theorem dX7_lives_28 : decode mX7_lives.2.1 28 = .ok (.iload_n 1, 1) := by decide +kernel
theorem dX7_lives_29 : decode mX7_lives.2.1 29 = .ok (.invokevirtual 159, 3) := by decide +kernel
theorem dX7_lives_32 : decode mX7_lives.2.1 32 = .ok (.iadd, 1) := by decide +kernel
theorem dX7_lives_33 : decode mX7_lives.2.1 33 = .ok (.invokestatic 85, 3) := by decide +kernel
theorem dX7_lives_36 : decode mX7_lives.2.1 36 = .ok (.ifCond .eq 7, 3) := by decide +kernel
theorem dX7_lives_39 : decode mX7_lives.2.1 39 = .ok (.iconst 1, 1) := by decide +kernel
theorem dX7_lives_40 : decode mX7_lives.2.1 40 = .ok (.goto 4, 3) := by decide +kernel
theorem dX7_lives_43 : decode mX7_lives.2.1 43 = .ok (.iconst 0, 1) := by decide +kernel
theorem dX7_lives_44 : decode mX7_lives.2.1 44 = .ok (.ireturn, 1) := by decide +kernel
def fn_X7_lives (x1 : Int32) (x2 : Int32) (σ : Sg) : Option Int32 :=
  (Option.bind (fn_X7_in x1 0 ((σ 53 2) - 1) σ) fun q283 =>
  (if q283 = 0 then (some 0)
  else (if ag_ib x1 11 = true then (if ag_ib x1 11 = true then (Option.bind (fn_X7_endOf x1 σ) fun q284 =>
  (Option.bind (fn_X7_in x2 (σ 55 x1.toNatClampNeg) ((σ 55 x1.toNatClampNeg) + q284) σ) fun q285 =>
  (if q285 = 0 then (some 0)
  else (some 1)))) else none) else none)))
set_option maxRecDepth 20000 in
set_option maxHeartbeats 4000000 in
theorem im_X7_lives (x1 : Int32) (x2 : Int32) (σ : Sg) : Im yX7_lives mX7_lives 2 43 (jI σ) [.ref 53, .int x1, .int x2] σ (fn_X7_lives x1 x2 σ) := by
  refine Im.of (by decide +kernel) rfl rfl (Nat.le_of_ble_eq_true rfl) ?_
  show Ev mX7_lives 2 43 (jI σ) 0 [(0, .ref 53), (1, .int x1), (2, .int x2)] [] σ (fn_X7_lives x1 x2 σ)
  unfold fn_X7_lives
  refine ev_iload_n (pc := 0) (i := 1) 1 dX7_lives_0 rfl rfl ?_
  refine ev_iconst (pc := 1) (v := 0) dX7_lives_1 (by decide) ?_
  refine ev_aload_n (pc := 2) (i := 0) 0 dX7_lives_2 rfl rfl ?_
  refine ev_getI (pc := 3) 2 ag_C7 (rfl) (by decide) (Nat.le_of_ble_eq_true rfl) rfl rfl ag_fl_X7_93 dX7_lives_3 ?_
  refine ev_iconst (pc := 6) (v := 1) dX7_lives_6 (by decide) ?_
  refine ev_isub (pc := 7) dX7_lives_7 ?_
  refine ev_sI (pc := 8) (as := [.int x1, .int 0, .int ((σ 53 2) - 1)]) (rest := []) ⟨85, ms_X7_in, ag_ml_X7_85, rfl, (Nat.le_of_ble_eq_true rfl), ⟨(Nat.le_of_ble_eq_true rfl), (Nat.le_of_ble_eq_true rfl)⟩, dX7_lives_8⟩ (im_X7_in x1 0 ((σ 53 2) - 1) σ) (fun q283 => ?_)
  refine ev_if_eq (pc := 11) (tgt := 43) dX7_lives_11 rfl ?_ ?_
  · refine ev_iconst (pc := 43) (v := 0) dX7_lives_43 (by decide) ?_
    exact ev_brI rfl rfl dX7_lives_44
  · refine ev_iload_n (pc := 14) (i := 2) 2 dX7_lives_14 rfl rfl ?_
    refine ev_aload_n (pc := 15) (i := 0) 0 dX7_lives_15 rfl rfl ?_
    refine ev_getR (pc := 16) (t := 55) 3 ag_C7 (rfl) (by decide) (Nat.le_of_ble_eq_true rfl) rfl rfl ag_fl_X7_13 dX7_lives_16 ?_
    refine ev_iload_n (pc := 19) (i := 1) 1 dX7_lives_19 rfl rfl ?_
    refine ev_iald (pc := 20) (rfl) (by decide) dX7_lives_20 ?_
    refine ev_aload_n (pc := 21) (i := 0) 0 dX7_lives_21 rfl rfl ?_
    refine ev_getR (pc := 22) (t := 55) 3 ag_C7 (rfl) (by decide) (Nat.le_of_ble_eq_true rfl) rfl rfl ag_fl_X7_13 dX7_lives_22 ?_
    refine ev_iload_n (pc := 25) (i := 1) 1 dX7_lives_25 rfl rfl ?_
    refine ev_iald (pc := 26) (rfl) (by decide) dX7_lives_26 ?_
    refine ev_aload_n (pc := 27) (i := 0) 0 dX7_lives_27 rfl rfl ?_
    refine ev_iload_n (pc := 28) (i := 1) 1 dX7_lives_28 rfl rfl ?_
    refine ev_vI (pc := 29) (as := [.int x1]) (rest := [.int (σ 55 x1.toNatClampNeg), .int (σ 55 x1.toNatClampNeg), .int x2]) ⟨7, 159, 37, TX7, tyX7, ag_C7, ⟨(rfl), (by decide)⟩, mv_X7_endOf, ag_ml_X7_159, rfl, (Nat.le_of_ble_eq_true rfl), ⟨(Nat.le_of_ble_eq_true rfl), (Nat.le_of_ble_eq_true rfl)⟩, dX7_lives_29⟩ (im_X7_endOf x1 σ) (fun q284 => ?_)
    refine ev_iadd (pc := 32) dX7_lives_32 ?_
    refine ev_sI (pc := 33) (as := [.int x2, .int (σ 55 x1.toNatClampNeg), .int ((σ 55 x1.toNatClampNeg) + q284)]) (rest := []) ⟨85, ms_X7_in, ag_ml_X7_85, rfl, (Nat.le_of_ble_eq_true rfl), ⟨(Nat.le_of_ble_eq_true rfl), (Nat.le_of_ble_eq_true rfl)⟩, dX7_lives_33⟩ (im_X7_in x2 (σ 55 x1.toNatClampNeg) ((σ 55 x1.toNatClampNeg) + q284) σ) (fun q285 => ?_)
    refine ev_if_eq (pc := 36) (tgt := 43) dX7_lives_36 rfl ?_ ?_
    · refine ev_iconst (pc := 43) (v := 0) dX7_lives_43 (by decide) ?_
      exact ev_brI rfl rfl dX7_lives_44
    · refine ev_iconst (pc := 39) (v := 1) dX7_lives_39 (by decide) ?_
      refine ev_goto (pc := 40) (tgt := 44) dX7_lives_40 rfl ?_
      exact ev_brI rfl rfl dX7_lives_44
-- X7_tells
def mX7_tells : Md := (RX7, cX7_tells, 4, some .int, none)
theorem mv_X7_tells : ag_Mv yX7_tells mX7_tells 2 := ⟨ag_co_X7_tells, ag_im_X7_tells, ag_se_X7_tells, ag_ini_X7, by decide +kernel⟩
theorem dX7_tells_0 : decode mX7_tells.2.1 0 = .ok (.aload_n 0, 1) := by decide +kernel
theorem dX7_tells_1 : decode mX7_tells.2.1 1 = .ok (.getfield 140, 3) := by decide +kernel
theorem dX7_tells_4 : decode mX7_tells.2.1 4 = .ok (.bipush (-2), 2) := by decide +kernel
theorem dX7_tells_6 : decode mX7_tells.2.1 6 = .ok (.if_icmp .ne 21, 3) := by decide +kernel
theorem dX7_tells_9 : decode mX7_tells.2.1 9 = .ok (.aload_n 0, 1) := by decide +kernel
theorem dX7_tells_10 : decode mX7_tells.2.1 10 = .ok (.getfield 19, 3) := by decide +kernel
theorem dX7_tells_13 : decode mX7_tells.2.1 13 = .ok (.iload_n 1, 1) := by decide +kernel
theorem dX7_tells_14 : decode mX7_tells.2.1 14 = .ok (.iaload, 1) := by decide +kernel
theorem dX7_tells_15 : decode mX7_tells.2.1 15 = .ok (.iconst 2, 1) := by decide +kernel
theorem dX7_tells_16 : decode mX7_tells.2.1 16 = .ok (.if_icmp .ne 7, 3) := by decide +kernel
theorem dX7_tells_19 : decode mX7_tells.2.1 19 = .ok (.iconst 1, 1) := by decide +kernel
theorem dX7_tells_20 : decode mX7_tells.2.1 20 = .ok (.goto 20, 3) := by decide +kernel
theorem dX7_tells_23 : decode mX7_tells.2.1 23 = .ok (.iconst 0, 1) := by decide +kernel
theorem dX7_tells_24 : decode mX7_tells.2.1 24 = .ok (.goto 16, 3) := by decide +kernel
theorem dX7_tells_27 : decode mX7_tells.2.1 27 = .ok (.aload_n 0, 1) := by decide +kernel
theorem dX7_tells_28 : decode mX7_tells.2.1 28 = .ok (.getfield 140, 3) := by decide +kernel
theorem dX7_tells_31 : decode mX7_tells.2.1 31 = .ok (.iload_n 1, 1) := by decide +kernel
theorem dX7_tells_32 : decode mX7_tells.2.1 32 = .ok (.if_icmp .ne 7, 3) := by decide +kernel
theorem dX7_tells_35 : decode mX7_tells.2.1 35 = .ok (.iconst 1, 1) := by decide +kernel
theorem dX7_tells_36 : decode mX7_tells.2.1 36 = .ok (.goto 4, 3) := by decide +kernel
theorem dX7_tells_39 : decode mX7_tells.2.1 39 = .ok (.iconst 0, 1) := by decide +kernel
theorem dX7_tells_40 : decode mX7_tells.2.1 40 = .ok (.istore_n 3, 1) := by decide +kernel
theorem dX7_tells_41 : decode mX7_tells.2.1 41 = .ok (.iload_n 2, 1) := by decide +kernel
theorem dX7_tells_42 : decode mX7_tells.2.1 42 = .ok (.aload_n 0, 1) := by decide +kernel
theorem dX7_tells_43 : decode mX7_tells.2.1 43 = .ok (.getfield 13, 3) := by decide +kernel
theorem dX7_tells_46 : decode mX7_tells.2.1 46 = .ok (.iload_n 1, 1) := by decide +kernel
theorem dX7_tells_47 : decode mX7_tells.2.1 47 = .ok (.iaload, 1) := by decide +kernel
theorem dX7_tells_48 : decode mX7_tells.2.1 48 = .ok (.isub, 1) := by decide +kernel
theorem dX7_tells_49 : decode mX7_tells.2.1 49 = .ok (.iload_n 3, 1) := by decide +kernel
theorem dX7_tells_50 : decode mX7_tells.2.1 50 = .ok (.ifCond .eq 7, 3) := by decide +kernel
theorem dX7_tells_53 : decode mX7_tells.2.1 53 = .ok (.iconst 5, 1) := by decide +kernel
theorem dX7_tells_54 : decode mX7_tells.2.1 54 = .ok (.goto 4, 3) := by decide +kernel
theorem dX7_tells_57 : decode mX7_tells.2.1 57 = .ok (.iconst 0, 1) := by decide +kernel
theorem dX7_tells_58 : decode mX7_tells.2.1 58 = .ok (.iadd, 1) := by decide +kernel
theorem dX7_tells_59 : decode mX7_tells.2.1 59 = .ok (.ireturn, 1) := by decide +kernel
def fn_X7_tells_b58 (x1 : Int32) (x2 : Int32) (σ : Sg)  (s0 : Int32) (s1 : Int32) : Option Int32 :=
  (some (s0 + s1))
set_option maxRecDepth 20000 in
set_option maxHeartbeats 4000000 in
theorem ev_X7_tells_b58 (x1 : Int32) (x2 : Int32) (σ : Sg)  (s0 : Int32) (s1 : Int32) : Ev mX7_tells 0 0 (jI σ) 58 [(0, .ref 53), (1, .int x1), (2, .int x2)] [.int s1, .int s0] σ (fn_X7_tells_b58 x1 x2 σ s0 s1) := by
  unfold fn_X7_tells_b58
  refine ev_iadd (pc := 58) dX7_tells_58 ?_
  exact ev_irI rfl dX7_tells_59
def fn_X7_tells_b40 (x1 : Int32) (x2 : Int32) (σ : Sg)  (s0 : Int32) : Option Int32 :=
  (if ag_ib x1 11 = true then (if s0 = 0 then (fn_X7_tells_b58 x1 x2 σ (x2 - (σ 55 x1.toNatClampNeg)) 0)
  else (fn_X7_tells_b58 x1 x2 σ (x2 - (σ 55 x1.toNatClampNeg)) 5)) else none)
set_option maxRecDepth 20000 in
set_option maxHeartbeats 4000000 in
theorem ev_X7_tells_b40 (x1 : Int32) (x2 : Int32) (σ : Sg)  (s0 : Int32) : Ev mX7_tells 0 0 (jI σ) 40 [(0, .ref 53), (1, .int x1), (2, .int x2)] [.int s0] σ (fn_X7_tells_b40 x1 x2 σ s0) := by
  unfold fn_X7_tells_b40
  refine ev_istore_n (pc := 40) (i := 3) (lv' := [(3, .int s0), (0, .ref 53), (1, .int x1), (2, .int x2)]) dX7_tells_40 rfl (Nat.le_of_ble_eq_true rfl) rfl ?_
  refine ev_iload_n (pc := 41) (i := 2) 3 dX7_tells_41 rfl rfl ?_
  refine ev_aload_n (pc := 42) (i := 0) 1 dX7_tells_42 rfl rfl ?_
  refine ev_getR (pc := 43) (t := 55) 3 ag_C7 (rfl) (by decide) (Nat.le_of_ble_eq_true rfl) rfl rfl ag_fl_X7_13 dX7_tells_43 ?_
  refine ev_iload_n (pc := 46) (i := 1) 2 dX7_tells_46 rfl rfl ?_
  refine ev_iald (pc := 47) (rfl) (by decide) dX7_tells_47 ?_
  refine ev_isub (pc := 48) dX7_tells_48 ?_
  refine ev_iload_n (pc := 49) (i := 3) 0 dX7_tells_49 rfl rfl ?_
  refine ev_if_eq (pc := 50) (tgt := 57) dX7_tells_50 rfl ?_ ?_
  · refine ev_iconst (pc := 57) (v := 0) dX7_tells_57 (by decide) ?_
    refine ev_sub [1, 2, 3] rfl ?_
    exact ev_X7_tells_b58 x1 x2 σ (x2 - (σ 55 x1.toNatClampNeg)) 0
  · refine ev_iconst (pc := 53) (v := 5) dX7_tells_53 (by decide) ?_
    refine ev_goto (pc := 54) (tgt := 58) dX7_tells_54 rfl ?_
    refine ev_sub [1, 2, 3] rfl ?_
    exact ev_X7_tells_b58 x1 x2 σ (x2 - (σ 55 x1.toNatClampNeg)) 5
def fn_X7_tells (x1 : Int32) (x2 : Int32) (σ : Sg) : Option Int32 :=
  (if (σ 53 14) = (-2) then (if ag_ib x1 11 = true then (if (σ 57 x1.toNatClampNeg) = 2 then (fn_X7_tells_b40 x1 x2 σ 1)
  else (fn_X7_tells_b40 x1 x2 σ 0)) else none)
  else (if (σ 53 14) = x1 then (fn_X7_tells_b40 x1 x2 σ 1)
  else (fn_X7_tells_b40 x1 x2 σ 0)))
set_option maxRecDepth 20000 in
set_option maxHeartbeats 4000000 in
theorem im_X7_tells (x1 : Int32) (x2 : Int32) (σ : Sg) : Im yX7_tells mX7_tells 0 0 (jI σ) [.ref 53, .int x1, .int x2] σ (fn_X7_tells x1 x2 σ) := by
  refine Im.of (by decide +kernel) rfl rfl (Nat.le_of_ble_eq_true rfl) ?_
  show Ev mX7_tells 0 0 (jI σ) 0 [(0, .ref 53), (1, .int x1), (2, .int x2)] [] σ (fn_X7_tells x1 x2 σ)
  unfold fn_X7_tells
  refine ev_aload_n (pc := 0) (i := 0) 0 dX7_tells_0 rfl rfl ?_
  refine ev_getI (pc := 1) 14 ag_C7 (rfl) (by decide) (Nat.le_of_ble_eq_true rfl) rfl rfl ag_fl_X7_140 dX7_tells_1 ?_
  refine ev_bipush (pc := 4) (v := (-2)) dX7_tells_4 (by decide) ?_
  refine ev_icmp_ne (pc := 6) (tgt := 27) dX7_tells_6 rfl ?_ ?_
  · refine ev_aload_n (pc := 9) (i := 0) 0 dX7_tells_9 rfl rfl ?_
    refine ev_getR (pc := 10) (t := 57) 5 ag_C7 (rfl) (by decide) (Nat.le_of_ble_eq_true rfl) rfl rfl ag_fl_X7_19 dX7_tells_10 ?_
    refine ev_iload_n (pc := 13) (i := 1) 1 dX7_tells_13 rfl rfl ?_
    refine ev_iald (pc := 14) (rfl) (by decide) dX7_tells_14 ?_
    refine ev_iconst (pc := 15) (v := 2) dX7_tells_15 (by decide) ?_
    refine ev_icmp_ne (pc := 16) (tgt := 23) dX7_tells_16 rfl ?_ ?_
    · refine ev_iconst (pc := 19) (v := 1) dX7_tells_19 (by decide) ?_
      refine ev_goto (pc := 20) (tgt := 40) dX7_tells_20 rfl ?_
      exact ev_X7_tells_b40 x1 x2 σ 1
    · refine ev_iconst (pc := 23) (v := 0) dX7_tells_23 (by decide) ?_
      refine ev_goto (pc := 24) (tgt := 40) dX7_tells_24 rfl ?_
      exact ev_X7_tells_b40 x1 x2 σ 0
  · refine ev_aload_n (pc := 27) (i := 0) 0 dX7_tells_27 rfl rfl ?_
    refine ev_getI (pc := 28) 14 ag_C7 (rfl) (by decide) (Nat.le_of_ble_eq_true rfl) rfl rfl ag_fl_X7_140 dX7_tells_28 ?_
    refine ev_iload_n (pc := 31) (i := 1) 1 dX7_tells_31 rfl rfl ?_
    refine ev_icmp_ne (pc := 32) (tgt := 39) dX7_tells_32 rfl ?_ ?_
    · refine ev_iconst (pc := 35) (v := 1) dX7_tells_35 (by decide) ?_
      refine ev_goto (pc := 36) (tgt := 40) dX7_tells_36 rfl ?_
      exact ev_X7_tells_b40 x1 x2 σ 1
    · refine ev_iconst (pc := 39) (v := 0) dX7_tells_39 (by decide) ?_
      exact ev_X7_tells_b40 x1 x2 σ 0
-- X7_opens
def mX7_opens : Md := (RX7, cX7_opens, 7, none, none)
theorem mv_X7_opens : ag_Mv yX7_opens mX7_opens 2 := ⟨ag_co_X7_opens, ag_im_X7_opens, ag_se_X7_opens, ag_ini_X7, by decide +kernel⟩
theorem dX7_opens_0 : decode mX7_opens.2.1 0 = .ok (.aload_n 0, 1) := by decide +kernel
theorem dX7_opens_1 : decode mX7_opens.2.1 1 = .ok (.getfield 28, 3) := by decide +kernel
theorem dX7_opens_4 : decode mX7_opens.2.1 4 = .ok (.iload_n 1, 1) := by decide +kernel
theorem dX7_opens_5 : decode mX7_opens.2.1 5 = .ok (.iaload, 1) := by decide +kernel
theorem dX7_opens_6 : decode mX7_opens.2.1 6 = .ok (.istore_n 3, 1) := by decide +kernel
theorem dX7_opens_7 : decode mX7_opens.2.1 7 = .ok (.iconst 1, 1) := by decide +kernel
theorem dX7_opens_8 : decode mX7_opens.2.1 8 = .ok (.aload_n 0, 1) := by decide +kernel
theorem dX7_opens_9 : decode mX7_opens.2.1 9 = .ok (.getfield 34, 3) := by decide +kernel
theorem dX7_opens_12 : decode mX7_opens.2.1 12 = .ok (.iload_n 1, 1) := by decide +kernel
theorem dX7_opens_13 : decode mX7_opens.2.1 13 = .ok (.iaload, 1) := by decide +kernel
theorem dX7_opens_14 : decode mX7_opens.2.1 14 = .ok (.ishl, 1) := by decide +kernel
theorem dX7_opens_15 : decode mX7_opens.2.1 15 = .ok (.istore 4, 2) := by decide +kernel
theorem dX7_opens_17 : decode mX7_opens.2.1 17 = .ok (.aload_n 0, 1) := by decide +kernel
theorem dX7_opens_18 : decode mX7_opens.2.1 18 = .ok (.getfield 46, 3) := by decide +kernel
theorem dX7_opens_21 : decode mX7_opens.2.1 21 = .ok (.iload_n 1, 1) := by decide +kernel
theorem dX7_opens_22 : decode mX7_opens.2.1 22 = .ok (.iaload, 1) := by decide +kernel
theorem dX7_opens_23 : decode mX7_opens.2.1 23 = .ok (.iconst (-1), 1) := by decide +kernel
theorem dX7_opens_24 : decode mX7_opens.2.1 24 = .ok (.if_icmp .eq 69, 3) := by decide +kernel
theorem dX7_opens_27 : decode mX7_opens.2.1 27 = .ok (.aload_n 0, 1) := by decide +kernel
theorem dX7_opens_28 : decode mX7_opens.2.1 28 = .ok (.getfield 43, 3) := by decide +kernel
theorem dX7_opens_31 : decode mX7_opens.2.1 31 = .ok (.iload_n 1, 1) := by decide +kernel
theorem dX7_opens_32 : decode mX7_opens.2.1 32 = .ok (.iaload, 1) := by decide +kernel
theorem dX7_opens_33 : decode mX7_opens.2.1 33 = .ok (.iconst (-1), 1) := by decide +kernel
theorem dX7_opens_34 : decode mX7_opens.2.1 34 = .ok (.if_icmp .ne 59, 3) := by decide +kernel
theorem dX7_opens_37 : decode mX7_opens.2.1 37 = .ok (.aload_n 0, 1) := by decide +kernel
theorem dX7_opens_38 : decode mX7_opens.2.1 38 = .ok (.iload_n 3, 1) := by decide +kernel
theorem dX7_opens_39 : decode mX7_opens.2.1 39 = .ok (.iload_n 2, 1) := by decide +kernel
theorem dX7_opens_40 : decode mX7_opens.2.1 40 = .ok (.invokevirtual 162, 3) := by decide +kernel
theorem dX7_opens_43 : decode mX7_opens.2.1 43 = .ok (.ifCond .eq 50, 3) := by decide +kernel
theorem dX7_opens_46 : decode mX7_opens.2.1 46 = .ok (.aload_n 0, 1) := by decide +kernel
theorem dX7_opens_47 : decode mX7_opens.2.1 47 = .ok (.iload_n 3, 1) := by decide +kernel
theorem dX7_opens_48 : decode mX7_opens.2.1 48 = .ok (.iload_n 2, 1) := by decide +kernel
theorem dX7_opens_49 : decode mX7_opens.2.1 49 = .ok (.invokevirtual 165, 3) := by decide +kernel
theorem dX7_opens_52 : decode mX7_opens.2.1 52 = .ok (.aload_n 0, 1) := by decide +kernel
theorem dX7_opens_53 : decode mX7_opens.2.1 53 = .ok (.getfield 46, 3) := by decide +kernel
theorem dX7_opens_56 : decode mX7_opens.2.1 56 = .ok (.iload_n 1, 1) := by decide +kernel
theorem dX7_opens_57 : decode mX7_opens.2.1 57 = .ok (.iaload, 1) := by decide +kernel
theorem dX7_opens_58 : decode mX7_opens.2.1 58 = .ok (.if_icmp .lt 35, 3) := by decide +kernel
theorem dX7_opens_61 : decode mX7_opens.2.1 61 = .ok (.aload_n 0, 1) := by decide +kernel
theorem dX7_opens_62 : decode mX7_opens.2.1 62 = .ok (.getfield 37, 3) := by decide +kernel
theorem dX7_opens_65 : decode mX7_opens.2.1 65 = .ok (.iload_n 1, 1) := by decide +kernel
theorem dX7_opens_66 : decode mX7_opens.2.1 66 = .ok (.iaload, 1) := by decide +kernel
theorem dX7_opens_67 : decode mX7_opens.2.1 67 = .ok (.iconst (-1), 1) := by decide +kernel
theorem dX7_opens_68 : decode mX7_opens.2.1 68 = .ok (.if_icmp .eq 21, 3) := by decide +kernel
theorem dX7_opens_71 : decode mX7_opens.2.1 71 = .ok (.aload_n 0, 1) := by decide +kernel
theorem dX7_opens_72 : decode mX7_opens.2.1 72 = .ok (.getfield 40, 3) := by decide +kernel
theorem dX7_opens_75 : decode mX7_opens.2.1 75 = .ok (.iload_n 3, 1) := by decide +kernel
theorem dX7_opens_76 : decode mX7_opens.2.1 76 = .ok (.iaload, 1) := by decide +kernel
theorem dX7_opens_77 : decode mX7_opens.2.1 77 = .ok (.aload_n 0, 1) := by decide +kernel
theorem dX7_opens_78 : decode mX7_opens.2.1 78 = .ok (.getfield 37, 3) := by decide +kernel
theorem dX7_opens_81 : decode mX7_opens.2.1 81 = .ok (.iload_n 1, 1) := by decide +kernel
theorem dX7_opens_82 : decode mX7_opens.2.1 82 = .ok (.iaload, 1) := by decide +kernel
theorem dX7_opens_83 : decode mX7_opens.2.1 83 = .ok (.invokestatic 155, 3) := by decide +kernel
theorem dX7_opens_86 : decode mX7_opens.2.1 86 = .ok (.ifCond .eq 7, 3) := by decide +kernel
theorem dX7_opens_89 : decode mX7_opens.2.1 89 = .ok (.iconst 1, 1) := by decide +kernel
theorem dX7_opens_90 : decode mX7_opens.2.1 90 = .ok (.goto 4, 3) := by decide +kernel
theorem dX7_opens_93 : decode mX7_opens.2.1 93 = .ok (.iconst 0, 1) := by decide +kernel
theorem dX7_opens_94 : decode mX7_opens.2.1 94 = .ok (.istore 5, 2) := by decide +kernel
theorem dX7_opens_96 : decode mX7_opens.2.1 96 = .ok (.iload 5, 2) := by decide +kernel
theorem dX7_opens_98 : decode mX7_opens.2.1 98 = .ok (.ifCond .eq 95, 3) := by decide +kernel
theorem dX7_opens_101 : decode mX7_opens.2.1 101 = .ok (.aload_n 0, 1) := by decide +kernel
theorem dX7_opens_102 : decode mX7_opens.2.1 102 = .ok (.getfield 43, 3) := by decide +kernel
theorem dX7_opens_105 : decode mX7_opens.2.1 105 = .ok (.iload_n 1, 1) := by decide +kernel
theorem dX7_opens_106 : decode mX7_opens.2.1 106 = .ok (.iload_n 2, 1) := by decide +kernel
theorem dX7_opens_107 : decode mX7_opens.2.1 107 = .ok (.iastore, 1) := by decide +kernel
theorem dX7_opens_108 : decode mX7_opens.2.1 108 = .ok (.iconst 0, 1) := by decide +kernel
theorem dX7_opens_109 : decode mX7_opens.2.1 109 = .ok (.istore 6, 2) := by decide +kernel
theorem dX7_opens_111 : decode mX7_opens.2.1 111 = .ok (.iload 6, 2) := by decide +kernel
theorem dX7_opens_113 : decode mX7_opens.2.1 113 = .ok (.aload_n 0, 1) := by decide +kernel
theorem dX7_opens_114 : decode mX7_opens.2.1 114 = .ok (.getfield 93, 3) := by decide +kernel
theorem dX7_opens_117 : decode mX7_opens.2.1 117 = .ok (.if_icmp .ge 51, 3) := by decide +kernel
theorem dX7_opens_120 : decode mX7_opens.2.1 120 = .ok (.aload_n 0, 1) := by decide +kernel
theorem dX7_opens_121 : decode mX7_opens.2.1 121 = .ok (.getfield 19, 3) := by decide +kernel
theorem dX7_opens_124 : decode mX7_opens.2.1 124 = .ok (.iload_n 3, 1) := by decide +kernel
theorem dX7_opens_125 : decode mX7_opens.2.1 125 = .ok (.iaload, 1) := by decide +kernel
theorem dX7_opens_126 : decode mX7_opens.2.1 126 = .ok (.iconst 1, 1) := by decide +kernel
theorem dX7_opens_127 : decode mX7_opens.2.1 127 = .ok (.if_icmp .ne 41, 3) := by decide +kernel
theorem dX7_opens_130 : decode mX7_opens.2.1 130 = .ok (.aload_n 0, 1) := by decide +kernel
theorem dX7_opens_131 : decode mX7_opens.2.1 131 = .ok (.getfield 40, 3) := by decide +kernel
theorem dX7_opens_134 : decode mX7_opens.2.1 134 = .ok (.iload 6, 2) := by decide +kernel
theorem dX7_opens_136 : decode mX7_opens.2.1 136 = .ok (.dup2, 1) := by decide +kernel
theorem dX7_opens_137 : decode mX7_opens.2.1 137 = .ok (.iaload, 1) := by decide +kernel
theorem dX7_opens_138 : decode mX7_opens.2.1 138 = .ok (.iload 6, 2) := by decide +kernel
theorem dX7_opens_140 : decode mX7_opens.2.1 140 = .ok (.iload_n 3, 1) := by decide +kernel
theorem dX7_opens_141 : decode mX7_opens.2.1 141 = .ok (.if_icmp .eq 18, 3) := by decide +kernel
theorem dX7_opens_144 : decode mX7_opens.2.1 144 = .ok (.aload_n 0, 1) := by decide +kernel
theorem dX7_opens_145 : decode mX7_opens.2.1 145 = .ok (.iload 6, 2) := by decide +kernel
theorem dX7_opens_147 : decode mX7_opens.2.1 147 = .ok (.iload_n 2, 1) := by decide +kernel
theorem dX7_opens_148 : decode mX7_opens.2.1 148 = .ok (.invokevirtual 162, 3) := by decide +kernel
theorem dX7_opens_151 : decode mX7_opens.2.1 151 = .ok (.ifCond .eq 8, 3) := by decide +kernel
theorem dX7_opens_154 : decode mX7_opens.2.1 154 = .ok (.iload 4, 2) := by decide +kernel
theorem dX7_opens_156 : decode mX7_opens.2.1 156 = .ok (.goto 4, 3) := by decide +kernel
theorem dX7_opens_159 : decode mX7_opens.2.1 159 = .ok (.iconst 0, 1) := by decide +kernel
theorem dX7_opens_160 : decode mX7_opens.2.1 160 = .ok (.ior, 1) := by decide +kernel
theorem dX7_opens_161 : decode mX7_opens.2.1 161 = .ok (.iastore, 1) := by decide +kernel
theorem dX7_opens_162 : decode mX7_opens.2.1 162 = .ok (.iinc 6 1, 3) := by decide +kernel
theorem dX7_opens_165 : decode mX7_opens.2.1 165 = .ok (.goto (-54), 3) := by decide +kernel
theorem dX7_opens_168 : decode mX7_opens.2.1 168 = .ok (.aload_n 0, 1) := by decide +kernel
theorem dX7_opens_169 : decode mX7_opens.2.1 169 = .ok (.getfield 40, 3) := by decide +kernel
theorem dX7_opens_172 : decode mX7_opens.2.1 172 = .ok (.iload_n 3, 1) := by decide +kernel
theorem dX7_opens_173 : decode mX7_opens.2.1 173 = .ok (.dup2, 1) := by decide +kernel
theorem dX7_opens_174 : decode mX7_opens.2.1 174 = .ok (.iaload, 1) := by decide +kernel
theorem dX7_opens_175 : decode mX7_opens.2.1 175 = .ok (.aload_n 0, 1) := by decide +kernel
theorem dX7_opens_176 : decode mX7_opens.2.1 176 = .ok (.getfield 19, 3) := by decide +kernel
theorem dX7_opens_179 : decode mX7_opens.2.1 179 = .ok (.iload_n 3, 1) := by decide +kernel
theorem dX7_opens_180 : decode mX7_opens.2.1 180 = .ok (.iaload, 1) := by decide +kernel
theorem dX7_opens_181 : decode mX7_opens.2.1 181 = .ok (.iconst 1, 1) := by decide +kernel
theorem dX7_opens_182 : decode mX7_opens.2.1 182 = .ok (.if_icmp .ne 7, 3) := by decide +kernel
theorem dX7_opens_185 : decode mX7_opens.2.1 185 = .ok (.iconst 0, 1) := by decide +kernel
theorem dX7_opens_186 : decode mX7_opens.2.1 186 = .ok (.goto 5, 3) := by decide +kernel
theorem dX7_opens_189 : decode mX7_opens.2.1 189 = .ok (.iload 4, 2) := by decide +kernel
theorem dX7_opens_191 : decode mX7_opens.2.1 191 = .ok (.ior, 1) := by decide +kernel
theorem dX7_opens_192 : decode mX7_opens.2.1 192 = .ok (.iastore, 1) := by decide +kernel
theorem dX7_opens_193 : decode mX7_opens.2.1 193 = .ok (.return_, 1) := by decide +kernel
def fn_X7_opens_b191 (n : Nat) (x1 : Int32) (x2 : Int32)  (s1 : Int32) (s2 : Int32) (s3 : Int32) (σ : Sg) : Option Sg :=
  (if ag_ib s1 10 = true then (some (ag_up σ 64 s1.toNatClampNeg (s2 ||| s3))) else none)
set_option maxRecDepth 20000 in
set_option maxHeartbeats 4000000 in
theorem ev_X7_opens_b191 (n : Nat) (x1 : Int32) (x2 : Int32)  (s1 : Int32) (s2 : Int32) (s3 : Int32) (σ : Sg) : Ev mX7_opens 3 65 jV 191 [(0, .ref 53), (1, .int x1), (2, .int x2)] [.int s3, .int s2, .int s1, .ref 64] σ (fn_X7_opens_b191 n x1 x2 s1 s2 s3 σ) := by
  unfold fn_X7_opens_b191
  refine ev_ior (pc := 191) dX7_opens_191 ?_
  refine ev_iast (pc := 192) (rfl) (by decide) dX7_opens_192 ?_
  exact ev_rV rfl dX7_opens_193
def fn_X7_opens_b168 (n : Nat) (x1 : Int32) (x2 : Int32)  (v3 : Int32) (v4 : Int32) (σ : Sg) : Option Sg :=
  (if ag_ib v3 10 = true then (if ag_ib v3 11 = true then (if (σ 57 v3.toNatClampNeg) = 1 then (fn_X7_opens_b191 n x1 x2 v3 (σ 64 v3.toNatClampNeg) 0 σ)
  else (fn_X7_opens_b191 n x1 x2 v3 (σ 64 v3.toNatClampNeg) v4 σ)) else none) else none)
set_option maxRecDepth 20000 in
set_option maxHeartbeats 4000000 in
theorem ev_X7_opens_b168 (n : Nat) (x1 : Int32) (x2 : Int32)  (v3 : Int32) (v4 : Int32) (σ : Sg) : Ev mX7_opens 3 65 jV 168 [(0, .ref 53), (1, .int x1), (2, .int x2), (3, .int v3), (4, .int v4)] [] σ (fn_X7_opens_b168 n x1 x2 v3 v4 σ) := by
  unfold fn_X7_opens_b168
  refine ev_aload_n (pc := 168) (i := 0) 0 dX7_opens_168 rfl rfl ?_
  refine ev_getR (pc := 169) (t := 64) 19 ag_C7 (rfl) (by decide) (Nat.le_of_ble_eq_true rfl) rfl rfl ag_fl_X7_40 dX7_opens_169 ?_
  refine ev_iload_n (pc := 172) (i := 3) 3 dX7_opens_172 rfl rfl ?_
  refine ev_dup2 (pc := 173) dX7_opens_173 rfl rfl ?_
  refine ev_iald (pc := 174) (rfl) (by decide) dX7_opens_174 ?_
  refine ev_aload_n (pc := 175) (i := 0) 0 dX7_opens_175 rfl rfl ?_
  refine ev_getR (pc := 176) (t := 57) 5 ag_C7 (rfl) (by decide) (Nat.le_of_ble_eq_true rfl) rfl rfl ag_fl_X7_19 dX7_opens_176 ?_
  refine ev_iload_n (pc := 179) (i := 3) 3 dX7_opens_179 rfl rfl ?_
  refine ev_iald (pc := 180) (rfl) (by decide) dX7_opens_180 ?_
  refine ev_iconst (pc := 181) (v := 1) dX7_opens_181 (by decide) ?_
  refine ev_icmp_ne (pc := 182) (tgt := 189) dX7_opens_182 rfl ?_ ?_
  · refine ev_iconst (pc := 185) (v := 0) dX7_opens_185 (by decide) ?_
    refine ev_goto (pc := 186) (tgt := 191) dX7_opens_186 rfl ?_
    refine ev_sub [0, 1, 2] rfl ?_
    exact ev_X7_opens_b191 n x1 x2 v3 (σ 64 v3.toNatClampNeg) 0 σ
  · refine ev_iload (pc := 189) 4 dX7_opens_189 rfl ?_
    refine ev_sub [0, 1, 2] rfl ?_
    exact ev_X7_opens_b191 n x1 x2 v3 (σ 64 v3.toNatClampNeg) v4 σ
def fn_X7_opens_b160 (n : Nat) (x1 : Int32) (x2 : Int32) (k111 : Int32 → Int32 → Int32 → Sg → Option Sg) (v3 : Int32) (v4 : Int32) (v6 : Int32) (s1 : Int32) (s2 : Int32) (s3 : Int32) (σ : Sg) : Option Sg :=
  (if ag_ib s1 10 = true then (k111 v3 v4 (v6 + 1) (ag_up σ 64 s1.toNatClampNeg (s2 ||| s3))) else none)
set_option maxRecDepth 20000 in
set_option maxHeartbeats 4000000 in
theorem ev_X7_opens_b160 (n : Nat) (x1 : Int32) (x2 : Int32) (k111 : Int32 → Int32 → Int32 → Sg → Option Sg) (hk111 : ∀ (v3 : Int32) (v4 : Int32) (v6 : Int32) (σ : Sg), Ev mX7_opens 3 65 jV 111 [(0, .ref 53), (1, .int x1), (2, .int x2), (3, .int v3), (4, .int v4), (6, .int v6)] [] σ (k111 v3 v4 v6 σ)) (v3 : Int32) (v4 : Int32) (v6 : Int32) (s1 : Int32) (s2 : Int32) (s3 : Int32) (σ : Sg) : Ev mX7_opens 3 65 jV 160 [(0, .ref 53), (1, .int x1), (2, .int x2), (3, .int v3), (4, .int v4), (6, .int v6)] [.int s3, .int s2, .int s1, .ref 64] σ (fn_X7_opens_b160 n x1 x2 k111 v3 v4 v6 s1 s2 s3 σ) := by
  unfold fn_X7_opens_b160
  refine ev_ior (pc := 160) dX7_opens_160 ?_
  refine ev_iast (pc := 161) (rfl) (by decide) dX7_opens_161 ?_
  refine ev_iinc (pc := 162) (v := (v6 + 1)) (lv' := [(6, .int (v6 + 1)), (0, .ref 53), (1, .int x1), (2, .int x2), (3, .int v3), (4, .int v4)]) 5 dX7_opens_162 rfl rfl (Nat.le_of_ble_eq_true rfl) rfl ?_
  refine ev_goto (pc := 165) (tgt := 111) dX7_opens_165 rfl ?_
  refine ev_sub [1, 2, 3, 4, 5, 0] rfl ?_
  exact hk111 v3 v4 (v6 + 1) (ag_up σ 64 s1.toNatClampNeg (s2 ||| s3))
def fn_X7_opens_b159 (n : Nat) (x1 : Int32) (x2 : Int32) (k111 : Int32 → Int32 → Int32 → Sg → Option Sg) (v3 : Int32) (v4 : Int32) (v6 : Int32) (s1 : Int32) (s2 : Int32) (σ : Sg) : Option Sg :=
  (fn_X7_opens_b160 n x1 x2 k111 v3 v4 v6 s1 s2 0 σ)
set_option maxRecDepth 20000 in
set_option maxHeartbeats 4000000 in
theorem ev_X7_opens_b159 (n : Nat) (x1 : Int32) (x2 : Int32) (k111 : Int32 → Int32 → Int32 → Sg → Option Sg) (hk111 : ∀ (v3 : Int32) (v4 : Int32) (v6 : Int32) (σ : Sg), Ev mX7_opens 3 65 jV 111 [(0, .ref 53), (1, .int x1), (2, .int x2), (3, .int v3), (4, .int v4), (6, .int v6)] [] σ (k111 v3 v4 v6 σ)) (v3 : Int32) (v4 : Int32) (v6 : Int32) (s1 : Int32) (s2 : Int32) (σ : Sg) : Ev mX7_opens 3 65 jV 159 [(0, .ref 53), (1, .int x1), (2, .int x2), (3, .int v3), (4, .int v4), (6, .int v6)] [.int s2, .int s1, .ref 64] σ (fn_X7_opens_b159 n x1 x2 k111 v3 v4 v6 s1 s2 σ) := by
  unfold fn_X7_opens_b159
  refine ev_iconst (pc := 159) (v := 0) dX7_opens_159 (by decide) ?_
  exact ev_X7_opens_b160 n x1 x2 k111 hk111 v3 v4 v6 s1 s2 0 σ
def fn_X7_opens_b111 (n : Nat) (x1 : Int32) (x2 : Int32)  : Nat → Int32 → Int32 → Int32 → Sg → Option Sg
  | 0 => fun _ _ _ _ => none
  | i + 1 => fun v3 v4 v6 σ =>
  (if (σ 53 2) ≤ v6 then (fn_X7_opens_b168 n x1 x2 v3 v4 σ)
  else (if ag_ib v3 11 = true then (if (σ 57 v3.toNatClampNeg) = 1 then (if ag_ib v6 10 = true then (if v6 = v3 then (fn_X7_opens_b159 n x1 x2 (fn_X7_opens_b111 n x1 x2 i) v3 v4 v6 v6 (σ 64 v6.toNatClampNeg) σ)
  else (Option.bind (fn_X7_lives v6 x2 σ) fun q286 =>
  (if q286 = 0 then (fn_X7_opens_b159 n x1 x2 (fn_X7_opens_b111 n x1 x2 i) v3 v4 v6 v6 (σ 64 v6.toNatClampNeg) σ)
  else (fn_X7_opens_b160 n x1 x2 (fn_X7_opens_b111 n x1 x2 i) v3 v4 v6 v6 (σ 64 v6.toNatClampNeg) v4 σ)))) else none)
  else (fn_X7_opens_b168 n x1 x2 v3 v4 σ)) else none))
theorem fn_X7_opens_b111_s (n : Nat) (x1 : Int32) (x2 : Int32)  (i : Nat) (v3 : Int32) (v4 : Int32) (v6 : Int32) (σ : Sg) : fn_X7_opens_b111 n x1 x2 (i + 1) v3 v4 v6 σ =
  (if (σ 53 2) ≤ v6 then (fn_X7_opens_b168 n x1 x2 v3 v4 σ)
  else (if ag_ib v3 11 = true then (if (σ 57 v3.toNatClampNeg) = 1 then (if ag_ib v6 10 = true then (if v6 = v3 then (fn_X7_opens_b159 n x1 x2 (fn_X7_opens_b111 n x1 x2 i) v3 v4 v6 v6 (σ 64 v6.toNatClampNeg) σ)
  else (Option.bind (fn_X7_lives v6 x2 σ) fun q286 =>
  (if q286 = 0 then (fn_X7_opens_b159 n x1 x2 (fn_X7_opens_b111 n x1 x2 i) v3 v4 v6 v6 (σ 64 v6.toNatClampNeg) σ)
  else (fn_X7_opens_b160 n x1 x2 (fn_X7_opens_b111 n x1 x2 i) v3 v4 v6 v6 (σ 64 v6.toNatClampNeg) v4 σ)))) else none)
  else (fn_X7_opens_b168 n x1 x2 v3 v4 σ)) else none)) := rfl
set_option maxRecDepth 20000 in
set_option maxHeartbeats 4000000 in
theorem ev_X7_opens_b111 (n : Nat) (x1 : Int32) (x2 : Int32)  : ∀ (i : Nat) (v3 : Int32) (v4 : Int32) (v6 : Int32) (σ : Sg), Ev mX7_opens 3 65 jV 111 [(0, .ref 53), (1, .int x1), (2, .int x2), (3, .int v3), (4, .int v4), (6, .int v6)] [] σ (fn_X7_opens_b111 n x1 x2 i v3 v4 v6 σ) := by
  intro i
  induction i with
  | zero =>
    intro v3 v4 v6 σ
    exact ev_none
  | succ i ih =>
    intro v3 v4 v6 σ
    rw [fn_X7_opens_b111_s]
    refine ev_iload (pc := 111) 5 dX7_opens_111 rfl ?_
    refine ev_aload_n (pc := 113) (i := 0) 0 dX7_opens_113 rfl rfl ?_
    refine ev_getI (pc := 114) 2 ag_C7 (rfl) (by decide) (Nat.le_of_ble_eq_true rfl) rfl rfl ag_fl_X7_93 dX7_opens_114 ?_
    refine ev_icmp_ge (pc := 117) (tgt := 168) dX7_opens_117 rfl ?_ ?_
    · refine ev_sub [0, 1, 2, 3, 4] rfl ?_
      exact ev_X7_opens_b168 n x1 x2 v3 v4 σ
    · refine ev_aload_n (pc := 120) (i := 0) 0 dX7_opens_120 rfl rfl ?_
      refine ev_getR (pc := 121) (t := 57) 5 ag_C7 (rfl) (by decide) (Nat.le_of_ble_eq_true rfl) rfl rfl ag_fl_X7_19 dX7_opens_121 ?_
      refine ev_iload_n (pc := 124) (i := 3) 3 dX7_opens_124 rfl rfl ?_
      refine ev_iald (pc := 125) (rfl) (by decide) dX7_opens_125 ?_
      refine ev_iconst (pc := 126) (v := 1) dX7_opens_126 (by decide) ?_
      refine ev_icmp_ne (pc := 127) (tgt := 168) dX7_opens_127 rfl ?_ ?_
      · refine ev_aload_n (pc := 130) (i := 0) 0 dX7_opens_130 rfl rfl ?_
        refine ev_getR (pc := 131) (t := 64) 19 ag_C7 (rfl) (by decide) (Nat.le_of_ble_eq_true rfl) rfl rfl ag_fl_X7_40 dX7_opens_131 ?_
        refine ev_iload (pc := 134) 5 dX7_opens_134 rfl ?_
        refine ev_dup2 (pc := 136) dX7_opens_136 rfl rfl ?_
        refine ev_iald (pc := 137) (rfl) (by decide) dX7_opens_137 ?_
        refine ev_iload (pc := 138) 5 dX7_opens_138 rfl ?_
        refine ev_iload_n (pc := 140) (i := 3) 3 dX7_opens_140 rfl rfl ?_
        refine ev_icmp_eq (pc := 141) (tgt := 159) dX7_opens_141 rfl ?_ ?_
        · exact ev_X7_opens_b159 n x1 x2 (fn_X7_opens_b111 n x1 x2 i) ih v3 v4 v6 v6 (σ 64 v6.toNatClampNeg) σ
        · refine ev_aload_n (pc := 144) (i := 0) 0 dX7_opens_144 rfl rfl ?_
          refine ev_iload (pc := 145) 5 dX7_opens_145 rfl ?_
          refine ev_iload_n (pc := 147) (i := 2) 2 dX7_opens_147 rfl rfl ?_
          refine ev_vI (pc := 148) (as := [.int v6, .int x2]) (rest := [.int (σ 64 v6.toNatClampNeg), .int v6, .ref 64]) ⟨7, 162, 37, TX7, tyX7, ag_C7, ⟨(rfl), (by decide)⟩, mv_X7_lives, ag_ml_X7_162, rfl, (Nat.le_of_ble_eq_true rfl), ⟨(Nat.le_of_ble_eq_true rfl), (Nat.le_of_ble_eq_true rfl)⟩, dX7_opens_148⟩ (im_X7_lives v6 x2 σ) (fun q286 => ?_)
          refine ev_if_eq (pc := 151) (tgt := 159) dX7_opens_151 rfl ?_ ?_
          · exact ev_X7_opens_b159 n x1 x2 (fn_X7_opens_b111 n x1 x2 i) ih v3 v4 v6 v6 (σ 64 v6.toNatClampNeg) σ
          · refine ev_iload (pc := 154) 4 dX7_opens_154 rfl ?_
            refine ev_goto (pc := 156) (tgt := 160) dX7_opens_156 rfl ?_
            exact ev_X7_opens_b160 n x1 x2 (fn_X7_opens_b111 n x1 x2 i) ih v3 v4 v6 v6 (σ 64 v6.toNatClampNeg) v4 σ
      · refine ev_sub [0, 1, 2, 3, 4] rfl ?_
        exact ev_X7_opens_b168 n x1 x2 v3 v4 σ
def fn_X7_opens_b94 (n : Nat) (x1 : Int32) (x2 : Int32)  (v3 : Int32) (v4 : Int32) (s0 : Int32) (σ : Sg) : Option Sg :=
  (if s0 = 0 then (some σ)
  else (if ag_ib x1 13 = true then (fn_X7_opens_b111 n x1 x2 n v3 v4 0 (ag_up σ 65 x1.toNatClampNeg x2)) else none))
set_option maxRecDepth 20000 in
set_option maxHeartbeats 4000000 in
theorem ev_X7_opens_b94 (n : Nat) (x1 : Int32) (x2 : Int32)  (v3 : Int32) (v4 : Int32) (s0 : Int32) (σ : Sg) : Ev mX7_opens 3 65 jV 94 [(0, .ref 53), (1, .int x1), (2, .int x2), (3, .int v3), (4, .int v4)] [.int s0] σ (fn_X7_opens_b94 n x1 x2 v3 v4 s0 σ) := by
  unfold fn_X7_opens_b94
  refine ev_istore (pc := 94) (lv' := [(5, .int s0), (0, .ref 53), (1, .int x1), (2, .int x2), (3, .int v3), (4, .int v4)]) dX7_opens_94 (Nat.le_of_ble_eq_true rfl) rfl ?_
  refine ev_iload (pc := 96) 0 dX7_opens_96 rfl ?_
  refine ev_if_eq (pc := 98) (tgt := 193) dX7_opens_98 rfl ?_ ?_
  · exact ev_rV rfl dX7_opens_193
  · refine ev_aload_n (pc := 101) (i := 0) 1 dX7_opens_101 rfl rfl ?_
    refine ev_getR (pc := 102) (t := 65) 20 ag_C7 (rfl) (by decide) (Nat.le_of_ble_eq_true rfl) rfl rfl ag_fl_X7_43 dX7_opens_102 ?_
    refine ev_iload_n (pc := 105) (i := 1) 2 dX7_opens_105 rfl rfl ?_
    refine ev_iload_n (pc := 106) (i := 2) 3 dX7_opens_106 rfl rfl ?_
    refine ev_iast (pc := 107) (rfl) (by decide) dX7_opens_107 ?_
    refine ev_iconst (pc := 108) (v := 0) dX7_opens_108 (by decide) ?_
    refine ev_istore (pc := 109) (lv' := [(6, .int 0), (5, .int s0), (0, .ref 53), (1, .int x1), (2, .int x2), (3, .int v3), (4, .int v4)]) dX7_opens_109 (Nat.le_of_ble_eq_true rfl) rfl ?_
    refine ev_sub [2, 3, 4, 5, 6, 0] rfl ?_
    exact ev_X7_opens_b111 n x1 x2 n v3 v4 0 (ag_up σ 65 x1.toNatClampNeg x2)
def fn_X7_opens_b93 (n : Nat) (x1 : Int32) (x2 : Int32)  (v3 : Int32) (v4 : Int32) (σ : Sg) : Option Sg :=
  (fn_X7_opens_b94 n x1 x2 v3 v4 0 σ)
set_option maxRecDepth 20000 in
set_option maxHeartbeats 4000000 in
theorem ev_X7_opens_b93 (n : Nat) (x1 : Int32) (x2 : Int32)  (v3 : Int32) (v4 : Int32) (σ : Sg) : Ev mX7_opens 3 65 jV 93 [(0, .ref 53), (1, .int x1), (2, .int x2), (3, .int v3), (4, .int v4)] [] σ (fn_X7_opens_b93 n x1 x2 v3 v4 σ) := by
  unfold fn_X7_opens_b93
  refine ev_iconst (pc := 93) (v := 0) dX7_opens_93 (by decide) ?_
  exact ev_X7_opens_b94 n x1 x2 v3 v4 0 σ
def fn_X7_opens_b89 (n : Nat) (x1 : Int32) (x2 : Int32)  (v3 : Int32) (v4 : Int32) (σ : Sg) : Option Sg :=
  (fn_X7_opens_b94 n x1 x2 v3 v4 1 σ)
set_option maxRecDepth 20000 in
set_option maxHeartbeats 4000000 in
theorem ev_X7_opens_b89 (n : Nat) (x1 : Int32) (x2 : Int32)  (v3 : Int32) (v4 : Int32) (σ : Sg) : Ev mX7_opens 3 65 jV 89 [(0, .ref 53), (1, .int x1), (2, .int x2), (3, .int v3), (4, .int v4)] [] σ (fn_X7_opens_b89 n x1 x2 v3 v4 σ) := by
  unfold fn_X7_opens_b89
  refine ev_iconst (pc := 89) (v := 1) dX7_opens_89 (by decide) ?_
  refine ev_goto (pc := 90) (tgt := 94) dX7_opens_90 rfl ?_
  exact ev_X7_opens_b94 n x1 x2 v3 v4 1 σ
def fn_X7_opens (n : Nat) (x1 : Int32) (x2 : Int32) (σ : Sg) : Option Sg :=
  (if ag_ib x1 13 = true then (if ag_ib x1 13 = true then (if ag_ib x1 13 = true then (if (σ 66 x1.toNatClampNeg) = (-1) then (fn_X7_opens_b93 n x1 x2 (σ 60 x1.toNatClampNeg) (1 <<< ((σ 62 x1.toNatClampNeg) &&& 31)) σ)
  else (if ag_ib x1 13 = true then (if (σ 65 x1.toNatClampNeg) = (-1) then (Option.bind (fn_X7_lives (σ 60 x1.toNatClampNeg) x2 σ) fun q287 =>
  (if q287 = 0 then (fn_X7_opens_b93 n x1 x2 (σ 60 x1.toNatClampNeg) (1 <<< ((σ 62 x1.toNatClampNeg) &&& 31)) σ)
  else (Option.bind (fn_X7_tells (σ 60 x1.toNatClampNeg) x2 σ) fun q288 =>
  (if ag_ib x1 13 = true then (if q288 < (σ 66 x1.toNatClampNeg) then (fn_X7_opens_b93 n x1 x2 (σ 60 x1.toNatClampNeg) (1 <<< ((σ 62 x1.toNatClampNeg) &&& 31)) σ)
  else (if ag_ib x1 13 = true then (if (σ 63 x1.toNatClampNeg) = (-1) then (fn_X7_opens_b89 n x1 x2 (σ 60 x1.toNatClampNeg) (1 <<< ((σ 62 x1.toNatClampNeg) &&& 31)) σ)
  else (if ag_ib (σ 60 x1.toNatClampNeg) 10 = true then (if ag_ib x1 13 = true then (Option.bind (fn_X7_isIn (σ 64 (σ 60 x1.toNatClampNeg).toNatClampNeg) (σ 63 x1.toNatClampNeg) σ) fun q289 =>
  (if q289 = 0 then (fn_X7_opens_b93 n x1 x2 (σ 60 x1.toNatClampNeg) (1 <<< ((σ 62 x1.toNatClampNeg) &&& 31)) σ)
  else (fn_X7_opens_b89 n x1 x2 (σ 60 x1.toNatClampNeg) (1 <<< ((σ 62 x1.toNatClampNeg) &&& 31)) σ))) else none) else none)) else none)) else none))))
  else (fn_X7_opens_b93 n x1 x2 (σ 60 x1.toNatClampNeg) (1 <<< ((σ 62 x1.toNatClampNeg) &&& 31)) σ)) else none)) else none) else none) else none)
set_option maxRecDepth 20000 in
set_option maxHeartbeats 4000000 in
theorem im_X7_opens (n : Nat) (x1 : Int32) (x2 : Int32) (σ : Sg) : Im yX7_opens mX7_opens 3 65 jV [.ref 53, .int x1, .int x2] σ (fn_X7_opens n x1 x2 σ) := by
  refine Im.of (by decide +kernel) rfl rfl (Nat.le_of_ble_eq_true rfl) ?_
  show Ev mX7_opens 3 65 jV 0 [(0, .ref 53), (1, .int x1), (2, .int x2)] [] σ (fn_X7_opens n x1 x2 σ)
  unfold fn_X7_opens
  refine ev_aload_n (pc := 0) (i := 0) 0 dX7_opens_0 rfl rfl ?_
  refine ev_getR (pc := 1) (t := 60) 9 ag_C7 (rfl) (by decide) (Nat.le_of_ble_eq_true rfl) rfl rfl ag_fl_X7_28 dX7_opens_1 ?_
  refine ev_iload_n (pc := 4) (i := 1) 1 dX7_opens_4 rfl rfl ?_
  refine ev_iald (pc := 5) (rfl) (by decide) dX7_opens_5 ?_
  refine ev_istore_n (pc := 6) (i := 3) (lv' := [(3, .int (σ 60 x1.toNatClampNeg)), (0, .ref 53), (1, .int x1), (2, .int x2)]) dX7_opens_6 rfl (Nat.le_of_ble_eq_true rfl) rfl ?_
  refine ev_iconst (pc := 7) (v := 1) dX7_opens_7 (by decide) ?_
  refine ev_aload_n (pc := 8) (i := 0) 1 dX7_opens_8 rfl rfl ?_
  refine ev_getR (pc := 9) (t := 62) 11 ag_C7 (rfl) (by decide) (Nat.le_of_ble_eq_true rfl) rfl rfl ag_fl_X7_34 dX7_opens_9 ?_
  refine ev_iload_n (pc := 12) (i := 1) 2 dX7_opens_12 rfl rfl ?_
  refine ev_iald (pc := 13) (rfl) (by decide) dX7_opens_13 ?_
  refine ev_ishl (pc := 14) dX7_opens_14 ?_
  refine ev_istore (pc := 15) (lv' := [(4, .int (1 <<< ((σ 62 x1.toNatClampNeg) &&& 31))), (3, .int (σ 60 x1.toNatClampNeg)), (0, .ref 53), (1, .int x1), (2, .int x2)]) dX7_opens_15 (Nat.le_of_ble_eq_true rfl) rfl ?_
  refine ev_aload_n (pc := 17) (i := 0) 2 dX7_opens_17 rfl rfl ?_
  refine ev_getR (pc := 18) (t := 66) 21 ag_C7 (rfl) (by decide) (Nat.le_of_ble_eq_true rfl) rfl rfl ag_fl_X7_46 dX7_opens_18 ?_
  refine ev_iload_n (pc := 21) (i := 1) 3 dX7_opens_21 rfl rfl ?_
  refine ev_iald (pc := 22) (rfl) (by decide) dX7_opens_22 ?_
  refine ev_iconst (pc := 23) (v := (-1)) dX7_opens_23 (by decide) ?_
  refine ev_icmp_eq (pc := 24) (tgt := 93) dX7_opens_24 rfl ?_ ?_
  · refine ev_sub [2, 3, 4, 1, 0] rfl ?_
    exact ev_X7_opens_b93 n x1 x2 (σ 60 x1.toNatClampNeg) (1 <<< ((σ 62 x1.toNatClampNeg) &&& 31)) σ
  · refine ev_aload_n (pc := 27) (i := 0) 2 dX7_opens_27 rfl rfl ?_
    refine ev_getR (pc := 28) (t := 65) 20 ag_C7 (rfl) (by decide) (Nat.le_of_ble_eq_true rfl) rfl rfl ag_fl_X7_43 dX7_opens_28 ?_
    refine ev_iload_n (pc := 31) (i := 1) 3 dX7_opens_31 rfl rfl ?_
    refine ev_iald (pc := 32) (rfl) (by decide) dX7_opens_32 ?_
    refine ev_iconst (pc := 33) (v := (-1)) dX7_opens_33 (by decide) ?_
    refine ev_icmp_ne (pc := 34) (tgt := 93) dX7_opens_34 rfl ?_ ?_
    · refine ev_aload_n (pc := 37) (i := 0) 2 dX7_opens_37 rfl rfl ?_
      refine ev_iload_n (pc := 38) (i := 3) 1 dX7_opens_38 rfl rfl ?_
      refine ev_iload_n (pc := 39) (i := 2) 4 dX7_opens_39 rfl rfl ?_
      refine ev_vI (pc := 40) (as := [.int (σ 60 x1.toNatClampNeg), .int x2]) (rest := []) ⟨7, 162, 37, TX7, tyX7, ag_C7, ⟨(rfl), (by decide)⟩, mv_X7_lives, ag_ml_X7_162, rfl, (Nat.le_of_ble_eq_true rfl), ⟨(Nat.le_of_ble_eq_true rfl), (Nat.le_of_ble_eq_true rfl)⟩, dX7_opens_40⟩ (im_X7_lives (σ 60 x1.toNatClampNeg) x2 σ) (fun q287 => ?_)
      refine ev_if_eq (pc := 43) (tgt := 93) dX7_opens_43 rfl ?_ ?_
      · refine ev_sub [2, 3, 4, 1, 0] rfl ?_
        exact ev_X7_opens_b93 n x1 x2 (σ 60 x1.toNatClampNeg) (1 <<< ((σ 62 x1.toNatClampNeg) &&& 31)) σ
      · refine ev_aload_n (pc := 46) (i := 0) 2 dX7_opens_46 rfl rfl ?_
        refine ev_iload_n (pc := 47) (i := 3) 1 dX7_opens_47 rfl rfl ?_
        refine ev_iload_n (pc := 48) (i := 2) 4 dX7_opens_48 rfl rfl ?_
        refine ev_vI (pc := 49) (as := [.int (σ 60 x1.toNatClampNeg), .int x2]) (rest := []) ⟨7, 165, 37, TX7, tyX7, ag_C7, ⟨(rfl), (by decide)⟩, mv_X7_tells, ag_ml_X7_165, rfl, (Nat.le_of_ble_eq_true rfl), ⟨(Nat.le_of_ble_eq_true rfl), (Nat.le_of_ble_eq_true rfl)⟩, dX7_opens_49⟩ (im_X7_tells (σ 60 x1.toNatClampNeg) x2 σ) (fun q288 => ?_)
        refine ev_aload_n (pc := 52) (i := 0) 2 dX7_opens_52 rfl rfl ?_
        refine ev_getR (pc := 53) (t := 66) 21 ag_C7 (rfl) (by decide) (Nat.le_of_ble_eq_true rfl) rfl rfl ag_fl_X7_46 dX7_opens_53 ?_
        refine ev_iload_n (pc := 56) (i := 1) 3 dX7_opens_56 rfl rfl ?_
        refine ev_iald (pc := 57) (rfl) (by decide) dX7_opens_57 ?_
        refine ev_icmp_lt (pc := 58) (tgt := 93) dX7_opens_58 rfl ?_ ?_
        · refine ev_sub [2, 3, 4, 1, 0] rfl ?_
          exact ev_X7_opens_b93 n x1 x2 (σ 60 x1.toNatClampNeg) (1 <<< ((σ 62 x1.toNatClampNeg) &&& 31)) σ
        · refine ev_aload_n (pc := 61) (i := 0) 2 dX7_opens_61 rfl rfl ?_
          refine ev_getR (pc := 62) (t := 63) 12 ag_C7 (rfl) (by decide) (Nat.le_of_ble_eq_true rfl) rfl rfl ag_fl_X7_37 dX7_opens_62 ?_
          refine ev_iload_n (pc := 65) (i := 1) 3 dX7_opens_65 rfl rfl ?_
          refine ev_iald (pc := 66) (rfl) (by decide) dX7_opens_66 ?_
          refine ev_iconst (pc := 67) (v := (-1)) dX7_opens_67 (by decide) ?_
          refine ev_icmp_eq (pc := 68) (tgt := 89) dX7_opens_68 rfl ?_ ?_
          · refine ev_sub [2, 3, 4, 1, 0] rfl ?_
            exact ev_X7_opens_b89 n x1 x2 (σ 60 x1.toNatClampNeg) (1 <<< ((σ 62 x1.toNatClampNeg) &&& 31)) σ
          · refine ev_aload_n (pc := 71) (i := 0) 2 dX7_opens_71 rfl rfl ?_
            refine ev_getR (pc := 72) (t := 64) 19 ag_C7 (rfl) (by decide) (Nat.le_of_ble_eq_true rfl) rfl rfl ag_fl_X7_40 dX7_opens_72 ?_
            refine ev_iload_n (pc := 75) (i := 3) 1 dX7_opens_75 rfl rfl ?_
            refine ev_iald (pc := 76) (rfl) (by decide) dX7_opens_76 ?_
            refine ev_aload_n (pc := 77) (i := 0) 2 dX7_opens_77 rfl rfl ?_
            refine ev_getR (pc := 78) (t := 63) 12 ag_C7 (rfl) (by decide) (Nat.le_of_ble_eq_true rfl) rfl rfl ag_fl_X7_37 dX7_opens_78 ?_
            refine ev_iload_n (pc := 81) (i := 1) 3 dX7_opens_81 rfl rfl ?_
            refine ev_iald (pc := 82) (rfl) (by decide) dX7_opens_82 ?_
            refine ev_sI (pc := 83) (as := [.int (σ 64 (σ 60 x1.toNatClampNeg).toNatClampNeg), .int (σ 63 x1.toNatClampNeg)]) (rest := []) ⟨155, ms_X7_isIn, ag_ml_X7_155, rfl, (Nat.le_of_ble_eq_true rfl), ⟨(Nat.le_of_ble_eq_true rfl), (Nat.le_of_ble_eq_true rfl)⟩, dX7_opens_83⟩ (im_X7_isIn (σ 64 (σ 60 x1.toNatClampNeg).toNatClampNeg) (σ 63 x1.toNatClampNeg) σ) (fun q289 => ?_)
            refine ev_if_eq (pc := 86) (tgt := 93) dX7_opens_86 rfl ?_ ?_
            · refine ev_sub [2, 3, 4, 1, 0] rfl ?_
              exact ev_X7_opens_b93 n x1 x2 (σ 60 x1.toNatClampNeg) (1 <<< ((σ 62 x1.toNatClampNeg) &&& 31)) σ
            · refine ev_sub [2, 3, 4, 1, 0] rfl ?_
              exact ev_X7_opens_b89 n x1 x2 (σ 60 x1.toNatClampNeg) (1 <<< ((σ 62 x1.toNatClampNeg) &&& 31)) σ
    · refine ev_sub [2, 3, 4, 1, 0] rfl ?_
      exact ev_X7_opens_b93 n x1 x2 (σ 60 x1.toNatClampNeg) (1 <<< ((σ 62 x1.toNatClampNeg) &&& 31)) σ
-- X7_runs
def mX7_runs : Md := (RX7, cX7_runs, 6, none, none)
theorem mv_X7_runs : ag_Mv yX7_runs mX7_runs 2 := ⟨ag_co_X7_runs, ag_im_X7_runs, ag_se_X7_runs, ag_ini_X7, by decide +kernel⟩
theorem dX7_runs_0 : decode mX7_runs.2.1 0 = .ok (.iconst 0, 1) := by decide +kernel
theorem dX7_runs_1 : decode mX7_runs.2.1 1 = .ok (.istore_n 3, 1) := by decide +kernel
theorem dX7_runs_2 : decode mX7_runs.2.1 2 = .ok (.iload_n 3, 1) := by decide +kernel
theorem dX7_runs_3 : decode mX7_runs.2.1 3 = .ok (.bipush 10, 2) := by decide +kernel
theorem dX7_runs_5 : decode mX7_runs.2.1 5 = .ok (.if_icmp .ge 55, 3) := by decide +kernel
theorem dX7_runs_8 : decode mX7_runs.2.1 8 = .ok (.aload_n 0, 1) := by decide +kernel
theorem dX7_runs_9 : decode mX7_runs.2.1 9 = .ok (.getfield 40, 3) := by decide +kernel
theorem dX7_runs_12 : decode mX7_runs.2.1 12 = .ok (.iload_n 3, 1) := by decide +kernel
theorem dX7_runs_13 : decode mX7_runs.2.1 13 = .ok (.iload_n 3, 1) := by decide +kernel
theorem dX7_runs_14 : decode mX7_runs.2.1 14 = .ok (.aload_n 0, 1) := by decide +kernel
theorem dX7_runs_15 : decode mX7_runs.2.1 15 = .ok (.getfield 93, 3) := by decide +kernel
theorem dX7_runs_18 : decode mX7_runs.2.1 18 = .ok (.if_icmp .ge 34, 3) := by decide +kernel
theorem dX7_runs_21 : decode mX7_runs.2.1 21 = .ok (.aload_n 0, 1) := by decide +kernel
theorem dX7_runs_22 : decode mX7_runs.2.1 22 = .ok (.getfield 22, 3) := by decide +kernel
theorem dX7_runs_25 : decode mX7_runs.2.1 25 = .ok (.iload_n 3, 1) := by decide +kernel
theorem dX7_runs_26 : decode mX7_runs.2.1 26 = .ok (.iaload, 1) := by decide +kernel
theorem dX7_runs_27 : decode mX7_runs.2.1 27 = .ok (.aload_n 0, 1) := by decide +kernel
theorem dX7_runs_28 : decode mX7_runs.2.1 28 = .ok (.getfield 149, 3) := by decide +kernel
theorem dX7_runs_31 : decode mX7_runs.2.1 31 = .ok (.iload_n 3, 1) := by decide +kernel
theorem dX7_runs_32 : decode mX7_runs.2.1 32 = .ok (.invokestatic 155, 3) := by decide +kernel
theorem dX7_runs_35 : decode mX7_runs.2.1 35 = .ok (.ifCond .eq 12, 3) := by decide +kernel
theorem dX7_runs_38 : decode mX7_runs.2.1 38 = .ok (.iconst 1, 1) := by decide +kernel
theorem dX7_runs_39 : decode mX7_runs.2.1 39 = .ok (.aload_n 0, 1) := by decide +kernel
theorem dX7_runs_40 : decode mX7_runs.2.1 40 = .ok (.getfield 152, 3) := by decide +kernel
theorem dX7_runs_43 : decode mX7_runs.2.1 43 = .ok (.ishl, 1) := by decide +kernel
theorem dX7_runs_44 : decode mX7_runs.2.1 44 = .ok (.goto 4, 3) := by decide +kernel
theorem dX7_runs_47 : decode mX7_runs.2.1 47 = .ok (.iconst 0, 1) := by decide +kernel
theorem dX7_runs_48 : decode mX7_runs.2.1 48 = .ok (.ior, 1) := by decide +kernel
theorem dX7_runs_49 : decode mX7_runs.2.1 49 = .ok (.goto 4, 3) := by decide +kernel
theorem dX7_runs_52 : decode mX7_runs.2.1 52 = .ok (.iconst 0, 1) := by decide +kernel
theorem dX7_runs_53 : decode mX7_runs.2.1 53 = .ok (.iastore, 1) := by decide +kernel
theorem dX7_runs_54 : decode mX7_runs.2.1 54 = .ok (.iinc 3 1, 3) := by decide +kernel
theorem dX7_runs_57 : decode mX7_runs.2.1 57 = .ok (.goto (-55), 3) := by decide +kernel
theorem dX7_runs_60 : decode mX7_runs.2.1 60 = .ok (.iconst 0, 1) := by decide +kernel
theorem dX7_runs_61 : decode mX7_runs.2.1 61 = .ok (.istore_n 3, 1) := by decide +kernel
theorem dX7_runs_62 : decode mX7_runs.2.1 62 = .ok (.iload_n 3, 1) := by decide +kernel
theorem dX7_runs_63 : decode mX7_runs.2.1 63 = .ok (.bipush 13, 2) := by decide +kernel
theorem dX7_runs_65 : decode mX7_runs.2.1 65 = .ok (.if_icmp .ge 23, 3) := by decide +kernel
theorem dX7_runs_68 : decode mX7_runs.2.1 68 = .ok (.aload_n 0, 1) := by decide +kernel
theorem dX7_runs_69 : decode mX7_runs.2.1 69 = .ok (.getfield 43, 3) := by decide +kernel
theorem dX7_runs_72 : decode mX7_runs.2.1 72 = .ok (.iload_n 3, 1) := by decide +kernel
theorem dX7_runs_73 : decode mX7_runs.2.1 73 = .ok (.iconst (-1), 1) := by decide +kernel
theorem dX7_runs_74 : decode mX7_runs.2.1 74 = .ok (.iastore, 1) := by decide +kernel
theorem dX7_runs_75 : decode mX7_runs.2.1 75 = .ok (.aload_n 0, 1) := by decide +kernel
theorem dX7_runs_76 : decode mX7_runs.2.1 76 = .ok (.getfield 46, 3) := by decide +kernel
theorem dX7_runs_79 : decode mX7_runs.2.1 79 = .ok (.iload_n 3, 1) := by decide +kernel
theorem dX7_runs_80 : decode mX7_runs.2.1 80 = .ok (.iconst (-1), 1) := by decide +kernel
theorem dX7_runs_81 : decode mX7_runs.2.1 81 = .ok (.iastore, 1) := by decide +kernel
theorem dX7_runs_82 : decode mX7_runs.2.1 82 = .ok (.iinc 3 1, 3) := by decide +kernel
theorem dX7_runs_85 : decode mX7_runs.2.1 85 = .ok (.goto (-23), 3) := by decide +kernel
theorem dX7_runs_88 : decode mX7_runs.2.1 88 = .ok (.iconst 0, 1) := by decide +kernel
theorem dX7_runs_89 : decode mX7_runs.2.1 89 = .ok (.istore_n 3, 1) := by decide +kernel
theorem dX7_runs_90 : decode mX7_runs.2.1 90 = .ok (.iload_n 3, 1) := by decide +kernel
theorem dX7_runs_91 : decode mX7_runs.2.1 91 = .ok (.iload_n 1, 1) := by decide +kernel
theorem dX7_runs_92 : decode mX7_runs.2.1 92 = .ok (.if_icmp .gt 150, 3) := by decide +kernel
theorem dX7_runs_95 : decode mX7_runs.2.1 95 = .ok (.iconst 0, 1) := by decide +kernel
theorem dX7_runs_96 : decode mX7_runs.2.1 96 = .ok (.istore 4, 2) := by decide +kernel
theorem dX7_runs_98 : decode mX7_runs.2.1 98 = .ok (.iload 4, 2) := by decide +kernel
theorem dX7_runs_100 : decode mX7_runs.2.1 100 = .ok (.iload_n 2, 1) := by decide +kernel
theorem dX7_runs_101 : decode mX7_runs.2.1 101 = .ok (.if_icmp .ge 113, 3) := by decide +kernel
theorem dX7_runs_104 : decode mX7_runs.2.1 104 = .ok (.aload_n 0, 1) := by decide +kernel
theorem dX7_runs_105 : decode mX7_runs.2.1 105 = .ok (.getfield 31, 3) := by decide +kernel
theorem dX7_runs_108 : decode mX7_runs.2.1 108 = .ok (.iload 4, 2) := by decide +kernel
theorem dX7_runs_110 : decode mX7_runs.2.1 110 = .ok (.iaload, 1) := by decide +kernel
theorem dX7_runs_111 : decode mX7_runs.2.1 111 = .ok (.iload_n 3, 1) := by decide +kernel
theorem dX7_runs_112 : decode mX7_runs.2.1 112 = .ok (.if_icmp .ne 59, 3) := by decide +kernel
theorem dX7_runs_115 : decode mX7_runs.2.1 115 = .ok (.aload_n 0, 1) := by decide +kernel
theorem dX7_runs_116 : decode mX7_runs.2.1 116 = .ok (.getfield 137, 3) := by decide +kernel
theorem dX7_runs_119 : decode mX7_runs.2.1 119 = .ok (.iload 4, 2) := by decide +kernel
theorem dX7_runs_121 : decode mX7_runs.2.1 121 = .ok (.invokestatic 155, 3) := by decide +kernel
theorem dX7_runs_124 : decode mX7_runs.2.1 124 = .ok (.ifCond .eq 47, 3) := by decide +kernel
theorem dX7_runs_127 : decode mX7_runs.2.1 127 = .ok (.aload_n 0, 1) := by decide +kernel
theorem dX7_runs_128 : decode mX7_runs.2.1 128 = .ok (.aload_n 0, 1) := by decide +kernel
theorem dX7_runs_129 : decode mX7_runs.2.1 129 = .ok (.getfield 25, 3) := by decide +kernel
theorem dX7_runs_132 : decode mX7_runs.2.1 132 = .ok (.iload 4, 2) := by decide +kernel
theorem dX7_runs_134 : decode mX7_runs.2.1 134 = .ok (.iaload, 1) := by decide +kernel
theorem dX7_runs_135 : decode mX7_runs.2.1 135 = .ok (.iload_n 3, 1) := by decide +kernel
theorem dX7_runs_136 : decode mX7_runs.2.1 136 = .ok (.invokevirtual 162, 3) := by decide +kernel
theorem dX7_runs_139 : decode mX7_runs.2.1 139 = .ok (.ifCond .eq 32, 3) := by decide +kernel
theorem dX7_runs_142 : decode mX7_runs.2.1 142 = .ok (.aload_n 0, 1) := by decide +kernel
theorem dX7_runs_143 : decode mX7_runs.2.1 143 = .ok (.getfield 40, 3) := by decide +kernel
theorem dX7_runs_146 : decode mX7_runs.2.1 146 = .ok (.aload_n 0, 1) := by decide +kernel
theorem dX7_runs_147 : decode mX7_runs.2.1 147 = .ok (.getfield 25, 3) := by decide +kernel
theorem dX7_runs_150 : decode mX7_runs.2.1 150 = .ok (.iload 4, 2) := by decide +kernel
theorem dX7_runs_152 : decode mX7_runs.2.1 152 = .ok (.iaload, 1) := by decide +kernel
theorem dX7_runs_153 : decode mX7_runs.2.1 153 = .ok (.iaload, 1) := by decide +kernel
theorem dX7_runs_154 : decode mX7_runs.2.1 154 = .ok (.aload_n 0, 1) := by decide +kernel
theorem dX7_runs_155 : decode mX7_runs.2.1 155 = .ok (.getfield 34, 3) := by decide +kernel
theorem dX7_runs_158 : decode mX7_runs.2.1 158 = .ok (.iload 4, 2) := by decide +kernel
theorem dX7_runs_160 : decode mX7_runs.2.1 160 = .ok (.iaload, 1) := by decide +kernel
theorem dX7_runs_161 : decode mX7_runs.2.1 161 = .ok (.invokestatic 155, 3) := by decide +kernel
theorem dX7_runs_164 : decode mX7_runs.2.1 164 = .ok (.ifCond .eq 7, 3) := by decide +kernel
theorem dX7_runs_167 : decode mX7_runs.2.1 167 = .ok (.iconst 1, 1) := by decide +kernel
theorem dX7_runs_168 : decode mX7_runs.2.1 168 = .ok (.goto 4, 3) := by decide +kernel
theorem dX7_runs_171 : decode mX7_runs.2.1 171 = .ok (.iconst 0, 1) := by decide +kernel
theorem dX7_runs_172 : decode mX7_runs.2.1 172 = .ok (.istore 5, 2) := by decide +kernel
theorem dX7_runs_174 : decode mX7_runs.2.1 174 = .ok (.aload_n 0, 1) := by decide +kernel
theorem dX7_runs_175 : decode mX7_runs.2.1 175 = .ok (.getfield 46, 3) := by decide +kernel
theorem dX7_runs_178 : decode mX7_runs.2.1 178 = .ok (.iload 4, 2) := by decide +kernel
theorem dX7_runs_180 : decode mX7_runs.2.1 180 = .ok (.iload 5, 2) := by decide +kernel
theorem dX7_runs_182 : decode mX7_runs.2.1 182 = .ok (.ifCond .eq 18, 3) := by decide +kernel
theorem dX7_runs_185 : decode mX7_runs.2.1 185 = .ok (.aload_n 0, 1) := by decide +kernel
theorem dX7_runs_186 : decode mX7_runs.2.1 186 = .ok (.aload_n 0, 1) := by decide +kernel
theorem dX7_runs_187 : decode mX7_runs.2.1 187 = .ok (.getfield 25, 3) := by decide +kernel
theorem dX7_runs_190 : decode mX7_runs.2.1 190 = .ok (.iload 4, 2) := by decide +kernel
theorem dX7_runs_192 : decode mX7_runs.2.1 192 = .ok (.iaload, 1) := by decide +kernel
theorem dX7_runs_193 : decode mX7_runs.2.1 193 = .ok (.iload_n 3, 1) := by decide +kernel
theorem dX7_runs_194 : decode mX7_runs.2.1 194 = .ok (.invokevirtual 165, 3) := by decide +kernel
theorem dX7_runs_197 : decode mX7_runs.2.1 197 = .ok (.goto 10, 3) := by decide +kernel
theorem dX7_runs_200 : decode mX7_runs.2.1 200 = .ok (.aload_n 0, 1) := by decide +kernel
theorem dX7_runs_201 : decode mX7_runs.2.1 201 = .ok (.getfield 46, 3) := by decide +kernel
theorem dX7_runs_204 : decode mX7_runs.2.1 204 = .ok (.iload 4, 2) := by decide +kernel
theorem dX7_runs_206 : decode mX7_runs.2.1 206 = .ok (.iaload, 1) := by decide +kernel
theorem dX7_runs_207 : decode mX7_runs.2.1 207 = .ok (.iastore, 1) := by decide +kernel
theorem dX7_runs_208 : decode mX7_runs.2.1 208 = .ok (.iinc 4 1, 3) := by decide +kernel
theorem dX7_runs_211 : decode mX7_runs.2.1 211 = .ok (.goto (-113), 3) := by decide +kernel
theorem dX7_runs_214 : decode mX7_runs.2.1 214 = .ok (.iconst 0, 1) := by decide +kernel
theorem dX7_runs_215 : decode mX7_runs.2.1 215 = .ok (.istore 4, 2) := by decide +kernel
theorem dX7_runs_217 : decode mX7_runs.2.1 217 = .ok (.iload 4, 2) := by decide +kernel
theorem dX7_runs_219 : decode mX7_runs.2.1 219 = .ok (.iload_n 2, 1) := by decide +kernel
theorem dX7_runs_220 : decode mX7_runs.2.1 220 = .ok (.if_icmp .ge 16, 3) := by decide +kernel
theorem dX7_runs_223 : decode mX7_runs.2.1 223 = .ok (.aload_n 0, 1) := by decide +kernel
theorem dX7_runs_224 : decode mX7_runs.2.1 224 = .ok (.iload 4, 2) := by decide +kernel
theorem dX7_runs_226 : decode mX7_runs.2.1 226 = .ok (.iload_n 3, 1) := by decide +kernel
theorem dX7_runs_227 : decode mX7_runs.2.1 227 = .ok (.invokevirtual 169, 3) := by decide +kernel
theorem dX7_runs_230 : decode mX7_runs.2.1 230 = .ok (.iinc 4 1, 3) := by decide +kernel
theorem dX7_runs_233 : decode mX7_runs.2.1 233 = .ok (.goto (-16), 3) := by decide +kernel
theorem dX7_runs_236 : decode mX7_runs.2.1 236 = .ok (.iinc 3 1, 3) := by decide +kernel
theorem dX7_runs_239 : decode mX7_runs.2.1 239 = .ok (.goto (-149), 3) := by decide +kernel
theorem dX7_runs_242 : decode mX7_runs.2.1 242 = .ok (.return_, 1) := by decide +kernel
def fn_X7_runs_b217 (n : Nat) (x1 : Int32) (x2 : Int32) (k90 : Int32 → Sg → Option Sg) : Nat → Int32 → Int32 → Sg → Option Sg
  | 0 => fun _ _ _ => none
  | i + 1 => fun v3 v4 σ =>
  (if x2 ≤ v4 then (k90 (v3 + 1) σ)
  else (Option.bind (fn_X7_opens n v4 v3 σ) fun q290 =>
  ((fn_X7_runs_b217 n x1 x2 k90 i) v3 (v4 + 1) q290)))
theorem fn_X7_runs_b217_s (n : Nat) (x1 : Int32) (x2 : Int32) (k90 : Int32 → Sg → Option Sg) (i : Nat) (v3 : Int32) (v4 : Int32) (σ : Sg) : fn_X7_runs_b217 n x1 x2 k90 (i + 1) v3 v4 σ =
  (if x2 ≤ v4 then (k90 (v3 + 1) σ)
  else (Option.bind (fn_X7_opens n v4 v3 σ) fun q290 =>
  ((fn_X7_runs_b217 n x1 x2 k90 i) v3 (v4 + 1) q290))) := rfl
set_option maxRecDepth 20000 in
set_option maxHeartbeats 4000000 in
theorem ev_X7_runs_b217 (n : Nat) (x1 : Int32) (x2 : Int32) (k90 : Int32 → Sg → Option Sg) (hk90 : ∀ (v3 : Int32) (σ : Sg), Ev mX7_runs 4 91 jV 90 [(0, .ref 53), (1, .int x1), (2, .int x2), (3, .int v3)] [] σ (k90 v3 σ)) : ∀ (i : Nat) (v3 : Int32) (v4 : Int32) (σ : Sg), Ev mX7_runs 4 91 jV 217 [(0, .ref 53), (1, .int x1), (2, .int x2), (3, .int v3), (4, .int v4)] [] σ (fn_X7_runs_b217 n x1 x2 k90 i v3 v4 σ) := by
  intro i
  induction i with
  | zero =>
    intro v3 v4 σ
    exact ev_none
  | succ i ih =>
    intro v3 v4 σ
    rw [fn_X7_runs_b217_s]
    refine ev_iload (pc := 217) 4 dX7_runs_217 rfl ?_
    refine ev_iload_n (pc := 219) (i := 2) 2 dX7_runs_219 rfl rfl ?_
    refine ev_icmp_ge (pc := 220) (tgt := 236) dX7_runs_220 rfl ?_ ?_
    · refine ev_iinc (pc := 236) (v := (v3 + 1)) (lv' := [(3, .int (v3 + 1)), (0, .ref 53), (1, .int x1), (2, .int x2), (4, .int v4)]) 3 dX7_runs_236 rfl rfl (Nat.le_of_ble_eq_true rfl) rfl ?_
      refine ev_goto (pc := 239) (tgt := 90) dX7_runs_239 rfl ?_
      refine ev_sub [1, 2, 3, 0] rfl ?_
      exact hk90 (v3 + 1) σ
    · refine ev_aload_n (pc := 223) (i := 0) 0 dX7_runs_223 rfl rfl ?_
      refine ev_iload (pc := 224) 4 dX7_runs_224 rfl ?_
      refine ev_iload_n (pc := 226) (i := 3) 3 dX7_runs_226 rfl rfl ?_
      refine ev_vV (pc := 227) (as := [.int v4, .int v3]) (rest := []) ⟨7, 169, 37, TX7, tyX7, ag_C7, ⟨(rfl), (by decide)⟩, mv_X7_opens, ag_ml_X7_169, rfl, (Nat.le_of_ble_eq_true rfl), ⟨(Nat.le_of_ble_eq_true rfl), (Nat.le_of_ble_eq_true rfl)⟩, dX7_runs_227⟩ (im_X7_opens n v4 v3 σ) (fun q290 => ?_)
      refine ev_iinc (pc := 230) (v := (v4 + 1)) (lv' := [(4, .int (v4 + 1)), (0, .ref 53), (1, .int x1), (2, .int x2), (3, .int v3)]) 4 dX7_runs_230 rfl rfl (Nat.le_of_ble_eq_true rfl) rfl ?_
      refine ev_goto (pc := 233) (tgt := 217) dX7_runs_233 rfl ?_
      refine ev_sub [1, 2, 3, 4, 0] rfl ?_
      exact ih v3 (v4 + 1) q290
def fn_X7_runs_b207 (n : Nat) (x1 : Int32) (x2 : Int32) (k90 : Int32 → Sg → Option Sg) (k98 : Int32 → Int32 → Sg → Option Sg) (v3 : Int32) (v4 : Int32) (s1 : Int32) (s2 : Int32) (σ : Sg) : Option Sg :=
  (if ag_ib s1 13 = true then (k98 v3 (v4 + 1) (ag_up σ 66 s1.toNatClampNeg s2)) else none)
set_option maxRecDepth 20000 in
set_option maxHeartbeats 4000000 in
theorem ev_X7_runs_b207 (n : Nat) (x1 : Int32) (x2 : Int32) (k90 : Int32 → Sg → Option Sg) (hk90 : ∀ (v3 : Int32) (σ : Sg), Ev mX7_runs 4 91 jV 90 [(0, .ref 53), (1, .int x1), (2, .int x2), (3, .int v3)] [] σ (k90 v3 σ)) (k98 : Int32 → Int32 → Sg → Option Sg) (hk98 : ∀ (v3 : Int32) (v4 : Int32) (σ : Sg), Ev mX7_runs 4 91 jV 98 [(0, .ref 53), (1, .int x1), (2, .int x2), (3, .int v3), (4, .int v4)] [] σ (k98 v3 v4 σ)) (v3 : Int32) (v4 : Int32) (s1 : Int32) (s2 : Int32) (σ : Sg) : Ev mX7_runs 4 91 jV 207 [(0, .ref 53), (1, .int x1), (2, .int x2), (3, .int v3), (4, .int v4)] [.int s2, .int s1, .ref 66] σ (fn_X7_runs_b207 n x1 x2 k90 k98 v3 v4 s1 s2 σ) := by
  unfold fn_X7_runs_b207
  refine ev_iast (pc := 207) (rfl) (by decide) dX7_runs_207 ?_
  refine ev_iinc (pc := 208) (v := (v4 + 1)) (lv' := [(4, .int (v4 + 1)), (0, .ref 53), (1, .int x1), (2, .int x2), (3, .int v3)]) 4 dX7_runs_208 rfl rfl (Nat.le_of_ble_eq_true rfl) rfl ?_
  refine ev_goto (pc := 211) (tgt := 98) dX7_runs_211 rfl ?_
  refine ev_sub [1, 2, 3, 4, 0] rfl ?_
  exact hk98 v3 (v4 + 1) (ag_up σ 66 s1.toNatClampNeg s2)
def fn_X7_runs_b172 (n : Nat) (x1 : Int32) (x2 : Int32) (k90 : Int32 → Sg → Option Sg) (k98 : Int32 → Int32 → Sg → Option Sg) (v3 : Int32) (v4 : Int32) (s0 : Int32) (σ : Sg) : Option Sg :=
  (if s0 = 0 then (if ag_ib v4 13 = true then (fn_X7_runs_b207 n x1 x2 k90 k98 v3 v4 v4 (σ 66 v4.toNatClampNeg) σ) else none)
  else (if ag_ib v4 13 = true then (Option.bind (fn_X7_tells (σ 59 v4.toNatClampNeg) v3 σ) fun q291 =>
  (fn_X7_runs_b207 n x1 x2 k90 k98 v3 v4 v4 q291 σ)) else none))
set_option maxRecDepth 20000 in
set_option maxHeartbeats 4000000 in
theorem ev_X7_runs_b172 (n : Nat) (x1 : Int32) (x2 : Int32) (k90 : Int32 → Sg → Option Sg) (hk90 : ∀ (v3 : Int32) (σ : Sg), Ev mX7_runs 4 91 jV 90 [(0, .ref 53), (1, .int x1), (2, .int x2), (3, .int v3)] [] σ (k90 v3 σ)) (k98 : Int32 → Int32 → Sg → Option Sg) (hk98 : ∀ (v3 : Int32) (v4 : Int32) (σ : Sg), Ev mX7_runs 4 91 jV 98 [(0, .ref 53), (1, .int x1), (2, .int x2), (3, .int v3), (4, .int v4)] [] σ (k98 v3 v4 σ)) (v3 : Int32) (v4 : Int32) (s0 : Int32) (σ : Sg) : Ev mX7_runs 4 91 jV 172 [(0, .ref 53), (1, .int x1), (2, .int x2), (3, .int v3), (4, .int v4)] [.int s0] σ (fn_X7_runs_b172 n x1 x2 k90 k98 v3 v4 s0 σ) := by
  unfold fn_X7_runs_b172
  refine ev_istore (pc := 172) (lv' := [(5, .int s0), (0, .ref 53), (1, .int x1), (2, .int x2), (3, .int v3), (4, .int v4)]) dX7_runs_172 (Nat.le_of_ble_eq_true rfl) rfl ?_
  refine ev_aload_n (pc := 174) (i := 0) 1 dX7_runs_174 rfl rfl ?_
  refine ev_getR (pc := 175) (t := 66) 21 ag_C7 (rfl) (by decide) (Nat.le_of_ble_eq_true rfl) rfl rfl ag_fl_X7_46 dX7_runs_175 ?_
  refine ev_iload (pc := 178) 5 dX7_runs_178 rfl ?_
  refine ev_iload (pc := 180) 0 dX7_runs_180 rfl ?_
  refine ev_if_eq (pc := 182) (tgt := 200) dX7_runs_182 rfl ?_ ?_
  · refine ev_aload_n (pc := 200) (i := 0) 1 dX7_runs_200 rfl rfl ?_
    refine ev_getR (pc := 201) (t := 66) 21 ag_C7 (rfl) (by decide) (Nat.le_of_ble_eq_true rfl) rfl rfl ag_fl_X7_46 dX7_runs_201 ?_
    refine ev_iload (pc := 204) 5 dX7_runs_204 rfl ?_
    refine ev_iald (pc := 206) (rfl) (by decide) dX7_runs_206 ?_
    refine ev_sub [1, 2, 3, 4, 5] rfl ?_
    exact ev_X7_runs_b207 n x1 x2 k90 hk90 k98 hk98 v3 v4 v4 (σ 66 v4.toNatClampNeg) σ
  · refine ev_aload_n (pc := 185) (i := 0) 1 dX7_runs_185 rfl rfl ?_
    refine ev_aload_n (pc := 186) (i := 0) 1 dX7_runs_186 rfl rfl ?_
    refine ev_getR (pc := 187) (t := 59) 8 ag_C7 (rfl) (by decide) (Nat.le_of_ble_eq_true rfl) rfl rfl ag_fl_X7_25 dX7_runs_187 ?_
    refine ev_iload (pc := 190) 5 dX7_runs_190 rfl ?_
    refine ev_iald (pc := 192) (rfl) (by decide) dX7_runs_192 ?_
    refine ev_iload_n (pc := 193) (i := 3) 4 dX7_runs_193 rfl rfl ?_
    refine ev_vI (pc := 194) (as := [.int (σ 59 v4.toNatClampNeg), .int v3]) (rest := [.int v4, .ref 66]) ⟨7, 165, 37, TX7, tyX7, ag_C7, ⟨(rfl), (by decide)⟩, mv_X7_tells, ag_ml_X7_165, rfl, (Nat.le_of_ble_eq_true rfl), ⟨(Nat.le_of_ble_eq_true rfl), (Nat.le_of_ble_eq_true rfl)⟩, dX7_runs_194⟩ (im_X7_tells (σ 59 v4.toNatClampNeg) v3 σ) (fun q291 => ?_)
    refine ev_goto (pc := 197) (tgt := 207) dX7_runs_197 rfl ?_
    refine ev_sub [1, 2, 3, 4, 5] rfl ?_
    exact ev_X7_runs_b207 n x1 x2 k90 hk90 k98 hk98 v3 v4 v4 q291 σ
def fn_X7_runs_b171 (n : Nat) (x1 : Int32) (x2 : Int32) (k90 : Int32 → Sg → Option Sg) (k98 : Int32 → Int32 → Sg → Option Sg) (v3 : Int32) (v4 : Int32) (σ : Sg) : Option Sg :=
  (fn_X7_runs_b172 n x1 x2 k90 k98 v3 v4 0 σ)
set_option maxRecDepth 20000 in
set_option maxHeartbeats 4000000 in
theorem ev_X7_runs_b171 (n : Nat) (x1 : Int32) (x2 : Int32) (k90 : Int32 → Sg → Option Sg) (hk90 : ∀ (v3 : Int32) (σ : Sg), Ev mX7_runs 4 91 jV 90 [(0, .ref 53), (1, .int x1), (2, .int x2), (3, .int v3)] [] σ (k90 v3 σ)) (k98 : Int32 → Int32 → Sg → Option Sg) (hk98 : ∀ (v3 : Int32) (v4 : Int32) (σ : Sg), Ev mX7_runs 4 91 jV 98 [(0, .ref 53), (1, .int x1), (2, .int x2), (3, .int v3), (4, .int v4)] [] σ (k98 v3 v4 σ)) (v3 : Int32) (v4 : Int32) (σ : Sg) : Ev mX7_runs 4 91 jV 171 [(0, .ref 53), (1, .int x1), (2, .int x2), (3, .int v3), (4, .int v4)] [] σ (fn_X7_runs_b171 n x1 x2 k90 k98 v3 v4 σ) := by
  unfold fn_X7_runs_b171
  refine ev_iconst (pc := 171) (v := 0) dX7_runs_171 (by decide) ?_
  exact ev_X7_runs_b172 n x1 x2 k90 hk90 k98 hk98 v3 v4 0 σ
def fn_X7_runs_b98 (n : Nat) (x1 : Int32) (x2 : Int32) (k90 : Int32 → Sg → Option Sg) : Nat → Int32 → Int32 → Sg → Option Sg
  | 0 => fun _ _ _ => none
  | i + 1 => fun v3 v4 σ =>
  (if x2 ≤ v4 then (fn_X7_runs_b217 n x1 x2 k90 n v3 0 σ)
  else (if ag_ib v4 13 = true then (if (σ 61 v4.toNatClampNeg) = v3 then (Option.bind (fn_X7_isIn (σ 53 13) v4 σ) fun q292 =>
  (if q292 = 0 then (fn_X7_runs_b171 n x1 x2 k90 (fn_X7_runs_b98 n x1 x2 k90 i) v3 v4 σ)
  else (if ag_ib v4 13 = true then (Option.bind (fn_X7_lives (σ 59 v4.toNatClampNeg) v3 σ) fun q293 =>
  (if q293 = 0 then (fn_X7_runs_b171 n x1 x2 k90 (fn_X7_runs_b98 n x1 x2 k90 i) v3 v4 σ)
  else (if ag_ib v4 13 = true then (if ag_ib (σ 59 v4.toNatClampNeg) 10 = true then (if ag_ib v4 13 = true then (Option.bind (fn_X7_isIn (σ 64 (σ 59 v4.toNatClampNeg).toNatClampNeg) (σ 62 v4.toNatClampNeg) σ) fun q294 =>
  (if q294 = 0 then (fn_X7_runs_b171 n x1 x2 k90 (fn_X7_runs_b98 n x1 x2 k90 i) v3 v4 σ)
  else (fn_X7_runs_b172 n x1 x2 k90 (fn_X7_runs_b98 n x1 x2 k90 i) v3 v4 1 σ))) else none) else none) else none))) else none)))
  else (fn_X7_runs_b171 n x1 x2 k90 (fn_X7_runs_b98 n x1 x2 k90 i) v3 v4 σ)) else none))
theorem fn_X7_runs_b98_s (n : Nat) (x1 : Int32) (x2 : Int32) (k90 : Int32 → Sg → Option Sg) (i : Nat) (v3 : Int32) (v4 : Int32) (σ : Sg) : fn_X7_runs_b98 n x1 x2 k90 (i + 1) v3 v4 σ =
  (if x2 ≤ v4 then (fn_X7_runs_b217 n x1 x2 k90 n v3 0 σ)
  else (if ag_ib v4 13 = true then (if (σ 61 v4.toNatClampNeg) = v3 then (Option.bind (fn_X7_isIn (σ 53 13) v4 σ) fun q292 =>
  (if q292 = 0 then (fn_X7_runs_b171 n x1 x2 k90 (fn_X7_runs_b98 n x1 x2 k90 i) v3 v4 σ)
  else (if ag_ib v4 13 = true then (Option.bind (fn_X7_lives (σ 59 v4.toNatClampNeg) v3 σ) fun q293 =>
  (if q293 = 0 then (fn_X7_runs_b171 n x1 x2 k90 (fn_X7_runs_b98 n x1 x2 k90 i) v3 v4 σ)
  else (if ag_ib v4 13 = true then (if ag_ib (σ 59 v4.toNatClampNeg) 10 = true then (if ag_ib v4 13 = true then (Option.bind (fn_X7_isIn (σ 64 (σ 59 v4.toNatClampNeg).toNatClampNeg) (σ 62 v4.toNatClampNeg) σ) fun q294 =>
  (if q294 = 0 then (fn_X7_runs_b171 n x1 x2 k90 (fn_X7_runs_b98 n x1 x2 k90 i) v3 v4 σ)
  else (fn_X7_runs_b172 n x1 x2 k90 (fn_X7_runs_b98 n x1 x2 k90 i) v3 v4 1 σ))) else none) else none) else none))) else none)))
  else (fn_X7_runs_b171 n x1 x2 k90 (fn_X7_runs_b98 n x1 x2 k90 i) v3 v4 σ)) else none)) := rfl
set_option maxRecDepth 20000 in
set_option maxHeartbeats 4000000 in
theorem ev_X7_runs_b98 (n : Nat) (x1 : Int32) (x2 : Int32) (k90 : Int32 → Sg → Option Sg) (hk90 : ∀ (v3 : Int32) (σ : Sg), Ev mX7_runs 4 91 jV 90 [(0, .ref 53), (1, .int x1), (2, .int x2), (3, .int v3)] [] σ (k90 v3 σ)) : ∀ (i : Nat) (v3 : Int32) (v4 : Int32) (σ : Sg), Ev mX7_runs 4 91 jV 98 [(0, .ref 53), (1, .int x1), (2, .int x2), (3, .int v3), (4, .int v4)] [] σ (fn_X7_runs_b98 n x1 x2 k90 i v3 v4 σ) := by
  intro i
  induction i with
  | zero =>
    intro v3 v4 σ
    exact ev_none
  | succ i ih =>
    intro v3 v4 σ
    rw [fn_X7_runs_b98_s]
    refine ev_iload (pc := 98) 4 dX7_runs_98 rfl ?_
    refine ev_iload_n (pc := 100) (i := 2) 2 dX7_runs_100 rfl rfl ?_
    refine ev_icmp_ge (pc := 101) (tgt := 214) dX7_runs_101 rfl ?_ ?_
    · refine ev_iconst (pc := 214) (v := 0) dX7_runs_214 (by decide) ?_
      refine ev_istore (pc := 215) (lv' := [(4, .int 0), (0, .ref 53), (1, .int x1), (2, .int x2), (3, .int v3)]) dX7_runs_215 (Nat.le_of_ble_eq_true rfl) rfl ?_
      refine ev_sub [1, 2, 3, 4, 0] rfl ?_
      exact ev_X7_runs_b217 n x1 x2 k90 hk90 n v3 0 σ
    · refine ev_aload_n (pc := 104) (i := 0) 0 dX7_runs_104 rfl rfl ?_
      refine ev_getR (pc := 105) (t := 61) 10 ag_C7 (rfl) (by decide) (Nat.le_of_ble_eq_true rfl) rfl rfl ag_fl_X7_31 dX7_runs_105 ?_
      refine ev_iload (pc := 108) 4 dX7_runs_108 rfl ?_
      refine ev_iald (pc := 110) (rfl) (by decide) dX7_runs_110 ?_
      refine ev_iload_n (pc := 111) (i := 3) 3 dX7_runs_111 rfl rfl ?_
      refine ev_icmp_ne (pc := 112) (tgt := 171) dX7_runs_112 rfl ?_ ?_
      · refine ev_aload_n (pc := 115) (i := 0) 0 dX7_runs_115 rfl rfl ?_
        refine ev_getI (pc := 116) 13 ag_C7 (rfl) (by decide) (Nat.le_of_ble_eq_true rfl) rfl rfl ag_fl_X7_137 dX7_runs_116 ?_
        refine ev_iload (pc := 119) 4 dX7_runs_119 rfl ?_
        refine ev_sI (pc := 121) (as := [.int (σ 53 13), .int v4]) (rest := []) ⟨155, ms_X7_isIn, ag_ml_X7_155, rfl, (Nat.le_of_ble_eq_true rfl), ⟨(Nat.le_of_ble_eq_true rfl), (Nat.le_of_ble_eq_true rfl)⟩, dX7_runs_121⟩ (im_X7_isIn (σ 53 13) v4 σ) (fun q292 => ?_)
        refine ev_if_eq (pc := 124) (tgt := 171) dX7_runs_124 rfl ?_ ?_
        · exact ev_X7_runs_b171 n x1 x2 k90 hk90 (fn_X7_runs_b98 n x1 x2 k90 i) ih v3 v4 σ
        · refine ev_aload_n (pc := 127) (i := 0) 0 dX7_runs_127 rfl rfl ?_
          refine ev_aload_n (pc := 128) (i := 0) 0 dX7_runs_128 rfl rfl ?_
          refine ev_getR (pc := 129) (t := 59) 8 ag_C7 (rfl) (by decide) (Nat.le_of_ble_eq_true rfl) rfl rfl ag_fl_X7_25 dX7_runs_129 ?_
          refine ev_iload (pc := 132) 4 dX7_runs_132 rfl ?_
          refine ev_iald (pc := 134) (rfl) (by decide) dX7_runs_134 ?_
          refine ev_iload_n (pc := 135) (i := 3) 3 dX7_runs_135 rfl rfl ?_
          refine ev_vI (pc := 136) (as := [.int (σ 59 v4.toNatClampNeg), .int v3]) (rest := []) ⟨7, 162, 37, TX7, tyX7, ag_C7, ⟨(rfl), (by decide)⟩, mv_X7_lives, ag_ml_X7_162, rfl, (Nat.le_of_ble_eq_true rfl), ⟨(Nat.le_of_ble_eq_true rfl), (Nat.le_of_ble_eq_true rfl)⟩, dX7_runs_136⟩ (im_X7_lives (σ 59 v4.toNatClampNeg) v3 σ) (fun q293 => ?_)
          refine ev_if_eq (pc := 139) (tgt := 171) dX7_runs_139 rfl ?_ ?_
          · exact ev_X7_runs_b171 n x1 x2 k90 hk90 (fn_X7_runs_b98 n x1 x2 k90 i) ih v3 v4 σ
          · refine ev_aload_n (pc := 142) (i := 0) 0 dX7_runs_142 rfl rfl ?_
            refine ev_getR (pc := 143) (t := 64) 19 ag_C7 (rfl) (by decide) (Nat.le_of_ble_eq_true rfl) rfl rfl ag_fl_X7_40 dX7_runs_143 ?_
            refine ev_aload_n (pc := 146) (i := 0) 0 dX7_runs_146 rfl rfl ?_
            refine ev_getR (pc := 147) (t := 59) 8 ag_C7 (rfl) (by decide) (Nat.le_of_ble_eq_true rfl) rfl rfl ag_fl_X7_25 dX7_runs_147 ?_
            refine ev_iload (pc := 150) 4 dX7_runs_150 rfl ?_
            refine ev_iald (pc := 152) (rfl) (by decide) dX7_runs_152 ?_
            refine ev_iald (pc := 153) (rfl) (by decide) dX7_runs_153 ?_
            refine ev_aload_n (pc := 154) (i := 0) 0 dX7_runs_154 rfl rfl ?_
            refine ev_getR (pc := 155) (t := 62) 11 ag_C7 (rfl) (by decide) (Nat.le_of_ble_eq_true rfl) rfl rfl ag_fl_X7_34 dX7_runs_155 ?_
            refine ev_iload (pc := 158) 4 dX7_runs_158 rfl ?_
            refine ev_iald (pc := 160) (rfl) (by decide) dX7_runs_160 ?_
            refine ev_sI (pc := 161) (as := [.int (σ 64 (σ 59 v4.toNatClampNeg).toNatClampNeg), .int (σ 62 v4.toNatClampNeg)]) (rest := []) ⟨155, ms_X7_isIn, ag_ml_X7_155, rfl, (Nat.le_of_ble_eq_true rfl), ⟨(Nat.le_of_ble_eq_true rfl), (Nat.le_of_ble_eq_true rfl)⟩, dX7_runs_161⟩ (im_X7_isIn (σ 64 (σ 59 v4.toNatClampNeg).toNatClampNeg) (σ 62 v4.toNatClampNeg) σ) (fun q294 => ?_)
            refine ev_if_eq (pc := 164) (tgt := 171) dX7_runs_164 rfl ?_ ?_
            · exact ev_X7_runs_b171 n x1 x2 k90 hk90 (fn_X7_runs_b98 n x1 x2 k90 i) ih v3 v4 σ
            · refine ev_iconst (pc := 167) (v := 1) dX7_runs_167 (by decide) ?_
              refine ev_goto (pc := 168) (tgt := 172) dX7_runs_168 rfl ?_
              exact ev_X7_runs_b172 n x1 x2 k90 hk90 (fn_X7_runs_b98 n x1 x2 k90 i) ih v3 v4 1 σ
      · exact ev_X7_runs_b171 n x1 x2 k90 hk90 (fn_X7_runs_b98 n x1 x2 k90 i) ih v3 v4 σ
def fn_X7_runs_b90 (n : Nat) (x1 : Int32) (x2 : Int32)  : Nat → Int32 → Sg → Option Sg
  | 0 => fun _ _ => none
  | i + 1 => fun v3 σ =>
  (if x1 < v3 then (some σ)
  else (fn_X7_runs_b98 n x1 x2 (fn_X7_runs_b90 n x1 x2 i) n v3 0 σ))
theorem fn_X7_runs_b90_s (n : Nat) (x1 : Int32) (x2 : Int32)  (i : Nat) (v3 : Int32) (σ : Sg) : fn_X7_runs_b90 n x1 x2 (i + 1) v3 σ =
  (if x1 < v3 then (some σ)
  else (fn_X7_runs_b98 n x1 x2 (fn_X7_runs_b90 n x1 x2 i) n v3 0 σ)) := rfl
set_option maxRecDepth 20000 in
set_option maxHeartbeats 4000000 in
theorem ev_X7_runs_b90 (n : Nat) (x1 : Int32) (x2 : Int32)  : ∀ (i : Nat) (v3 : Int32) (σ : Sg), Ev mX7_runs 4 91 jV 90 [(0, .ref 53), (1, .int x1), (2, .int x2), (3, .int v3)] [] σ (fn_X7_runs_b90 n x1 x2 i v3 σ) := by
  intro i
  induction i with
  | zero =>
    intro v3 σ
    exact ev_none
  | succ i ih =>
    intro v3 σ
    rw [fn_X7_runs_b90_s]
    refine ev_iload_n (pc := 90) (i := 3) 3 dX7_runs_90 rfl rfl ?_
    refine ev_iload_n (pc := 91) (i := 1) 1 dX7_runs_91 rfl rfl ?_
    refine ev_icmp_gt (pc := 92) (tgt := 242) dX7_runs_92 rfl ?_ ?_
    · exact ev_rV rfl dX7_runs_242
    · refine ev_iconst (pc := 95) (v := 0) dX7_runs_95 (by decide) ?_
      refine ev_istore (pc := 96) (lv' := [(4, .int 0), (0, .ref 53), (1, .int x1), (2, .int x2), (3, .int v3)]) dX7_runs_96 (Nat.le_of_ble_eq_true rfl) rfl ?_
      refine ev_sub [1, 2, 3, 4, 0] rfl ?_
      exact ev_X7_runs_b98 n x1 x2 (fn_X7_runs_b90 n x1 x2 i) ih n v3 0 σ
def fn_X7_runs_b62 (n : Nat) (x1 : Int32) (x2 : Int32)  : Nat → Int32 → Sg → Option Sg
  | 0 => fun _ _ => none
  | i + 1 => fun v3 σ =>
  (if 13 ≤ v3 then (fn_X7_runs_b90 n x1 x2 n 0 σ)
  else (if ag_ib v3 13 = true then (if ag_ib v3 13 = true then (ag_sg (ag_up (ag_up σ 65 v3.toNatClampNeg (-1)) 66 v3.toNatClampNeg (-1)) fun t295 =>
  ((fn_X7_runs_b62 n x1 x2 i) (v3 + 1) t295)) else none) else none))
theorem fn_X7_runs_b62_s (n : Nat) (x1 : Int32) (x2 : Int32)  (i : Nat) (v3 : Int32) (σ : Sg) : fn_X7_runs_b62 n x1 x2 (i + 1) v3 σ =
  (if 13 ≤ v3 then (fn_X7_runs_b90 n x1 x2 n 0 σ)
  else (if ag_ib v3 13 = true then (if ag_ib v3 13 = true then (ag_sg (ag_up (ag_up σ 65 v3.toNatClampNeg (-1)) 66 v3.toNatClampNeg (-1)) fun t295 =>
  ((fn_X7_runs_b62 n x1 x2 i) (v3 + 1) t295)) else none) else none)) := rfl
set_option maxRecDepth 20000 in
set_option maxHeartbeats 4000000 in
theorem ev_X7_runs_b62 (n : Nat) (x1 : Int32) (x2 : Int32)  : ∀ (i : Nat) (v3 : Int32) (σ : Sg), Ev mX7_runs 4 91 jV 62 [(0, .ref 53), (1, .int x1), (2, .int x2), (3, .int v3)] [] σ (fn_X7_runs_b62 n x1 x2 i v3 σ) := by
  intro i
  induction i with
  | zero =>
    intro v3 σ
    exact ev_none
  | succ i ih =>
    intro v3 σ
    rw [fn_X7_runs_b62_s]
    refine ev_iload_n (pc := 62) (i := 3) 3 dX7_runs_62 rfl rfl ?_
    refine ev_bipush (pc := 63) (v := 13) dX7_runs_63 (by decide) ?_
    refine ev_icmp_ge (pc := 65) (tgt := 88) dX7_runs_65 rfl ?_ ?_
    · refine ev_iconst (pc := 88) (v := 0) dX7_runs_88 (by decide) ?_
      refine ev_istore_n (pc := 89) (i := 3) (lv' := [(3, .int 0), (0, .ref 53), (1, .int x1), (2, .int x2)]) dX7_runs_89 rfl (Nat.le_of_ble_eq_true rfl) rfl ?_
      refine ev_sub [1, 2, 3, 0] rfl ?_
      exact ev_X7_runs_b90 n x1 x2 n 0 σ
    · refine ev_aload_n (pc := 68) (i := 0) 0 dX7_runs_68 rfl rfl ?_
      refine ev_getR (pc := 69) (t := 65) 20 ag_C7 (rfl) (by decide) (Nat.le_of_ble_eq_true rfl) rfl rfl ag_fl_X7_43 dX7_runs_69 ?_
      refine ev_iload_n (pc := 72) (i := 3) 3 dX7_runs_72 rfl rfl ?_
      refine ev_iconst (pc := 73) (v := (-1)) dX7_runs_73 (by decide) ?_
      refine ev_iast (pc := 74) (rfl) (by decide) dX7_runs_74 ?_
      refine ev_aload_n (pc := 75) (i := 0) 0 dX7_runs_75 rfl rfl ?_
      refine ev_getR (pc := 76) (t := 66) 21 ag_C7 (rfl) (by decide) (Nat.le_of_ble_eq_true rfl) rfl rfl ag_fl_X7_46 dX7_runs_76 ?_
      refine ev_iload_n (pc := 79) (i := 3) 3 dX7_runs_79 rfl rfl ?_
      refine ev_iconst (pc := 80) (v := (-1)) dX7_runs_80 (by decide) ?_
      refine ev_iast (pc := 81) (rfl) (by decide) dX7_runs_81 ?_
      refine ev_sg (fun t295 => ?_)
      refine ev_iinc (pc := 82) (v := (v3 + 1)) (lv' := [(3, .int (v3 + 1)), (0, .ref 53), (1, .int x1), (2, .int x2)]) 3 dX7_runs_82 rfl rfl (Nat.le_of_ble_eq_true rfl) rfl ?_
      refine ev_goto (pc := 85) (tgt := 62) dX7_runs_85 rfl ?_
      refine ev_sub [1, 2, 3, 0] rfl ?_
      exact ih (v3 + 1) t295
def fn_X7_runs_b53 (n : Nat) (x1 : Int32) (x2 : Int32) (k2 : Int32 → Sg → Option Sg) (v3 : Int32) (s1 : Int32) (s2 : Int32) (σ : Sg) : Option Sg :=
  (if ag_ib s1 10 = true then (k2 (v3 + 1) (ag_up σ 64 s1.toNatClampNeg s2)) else none)
set_option maxRecDepth 20000 in
set_option maxHeartbeats 4000000 in
theorem ev_X7_runs_b53 (n : Nat) (x1 : Int32) (x2 : Int32) (k2 : Int32 → Sg → Option Sg) (hk2 : ∀ (v3 : Int32) (σ : Sg), Ev mX7_runs 4 91 jV 2 [(0, .ref 53), (1, .int x1), (2, .int x2), (3, .int v3)] [] σ (k2 v3 σ)) (v3 : Int32) (s1 : Int32) (s2 : Int32) (σ : Sg) : Ev mX7_runs 4 91 jV 53 [(0, .ref 53), (1, .int x1), (2, .int x2), (3, .int v3)] [.int s2, .int s1, .ref 64] σ (fn_X7_runs_b53 n x1 x2 k2 v3 s1 s2 σ) := by
  unfold fn_X7_runs_b53
  refine ev_iast (pc := 53) (rfl) (by decide) dX7_runs_53 ?_
  refine ev_iinc (pc := 54) (v := (v3 + 1)) (lv' := [(3, .int (v3 + 1)), (0, .ref 53), (1, .int x1), (2, .int x2)]) 3 dX7_runs_54 rfl rfl (Nat.le_of_ble_eq_true rfl) rfl ?_
  refine ev_goto (pc := 57) (tgt := 2) dX7_runs_57 rfl ?_
  refine ev_sub [1, 2, 3, 0] rfl ?_
  exact hk2 (v3 + 1) (ag_up σ 64 s1.toNatClampNeg s2)
def fn_X7_runs_b48 (n : Nat) (x1 : Int32) (x2 : Int32) (k2 : Int32 → Sg → Option Sg) (v3 : Int32) (s1 : Int32) (s2 : Int32) (s3 : Int32) (σ : Sg) : Option Sg :=
  (fn_X7_runs_b53 n x1 x2 k2 v3 s1 (s2 ||| s3) σ)
set_option maxRecDepth 20000 in
set_option maxHeartbeats 4000000 in
theorem ev_X7_runs_b48 (n : Nat) (x1 : Int32) (x2 : Int32) (k2 : Int32 → Sg → Option Sg) (hk2 : ∀ (v3 : Int32) (σ : Sg), Ev mX7_runs 4 91 jV 2 [(0, .ref 53), (1, .int x1), (2, .int x2), (3, .int v3)] [] σ (k2 v3 σ)) (v3 : Int32) (s1 : Int32) (s2 : Int32) (s3 : Int32) (σ : Sg) : Ev mX7_runs 4 91 jV 48 [(0, .ref 53), (1, .int x1), (2, .int x2), (3, .int v3)] [.int s3, .int s2, .int s1, .ref 64] σ (fn_X7_runs_b48 n x1 x2 k2 v3 s1 s2 s3 σ) := by
  unfold fn_X7_runs_b48
  refine ev_ior (pc := 48) dX7_runs_48 ?_
  refine ev_goto (pc := 49) (tgt := 53) dX7_runs_49 rfl ?_
  exact ev_X7_runs_b53 n x1 x2 k2 hk2 v3 s1 (s2 ||| s3) σ
def fn_X7_runs_b2 (n : Nat) (x1 : Int32) (x2 : Int32)  : Nat → Int32 → Sg → Option Sg
  | 0 => fun _ _ => none
  | i + 1 => fun v3 σ =>
  (if 10 ≤ v3 then (fn_X7_runs_b62 n x1 x2 n 0 σ)
  else (if (σ 53 2) ≤ v3 then (fn_X7_runs_b53 n x1 x2 (fn_X7_runs_b2 n x1 x2 i) v3 v3 0 σ)
  else (if ag_ib v3 10 = true then (Option.bind (fn_X7_isIn (σ 53 17) v3 σ) fun q296 =>
  (if q296 = 0 then (fn_X7_runs_b48 n x1 x2 (fn_X7_runs_b2 n x1 x2 i) v3 v3 (σ 58 v3.toNatClampNeg) 0 σ)
  else (fn_X7_runs_b48 n x1 x2 (fn_X7_runs_b2 n x1 x2 i) v3 v3 (σ 58 v3.toNatClampNeg) (1 <<< ((σ 53 18) &&& 31)) σ))) else none)))
theorem fn_X7_runs_b2_s (n : Nat) (x1 : Int32) (x2 : Int32)  (i : Nat) (v3 : Int32) (σ : Sg) : fn_X7_runs_b2 n x1 x2 (i + 1) v3 σ =
  (if 10 ≤ v3 then (fn_X7_runs_b62 n x1 x2 n 0 σ)
  else (if (σ 53 2) ≤ v3 then (fn_X7_runs_b53 n x1 x2 (fn_X7_runs_b2 n x1 x2 i) v3 v3 0 σ)
  else (if ag_ib v3 10 = true then (Option.bind (fn_X7_isIn (σ 53 17) v3 σ) fun q296 =>
  (if q296 = 0 then (fn_X7_runs_b48 n x1 x2 (fn_X7_runs_b2 n x1 x2 i) v3 v3 (σ 58 v3.toNatClampNeg) 0 σ)
  else (fn_X7_runs_b48 n x1 x2 (fn_X7_runs_b2 n x1 x2 i) v3 v3 (σ 58 v3.toNatClampNeg) (1 <<< ((σ 53 18) &&& 31)) σ))) else none))) := rfl
set_option maxRecDepth 20000 in
set_option maxHeartbeats 4000000 in
theorem ev_X7_runs_b2 (n : Nat) (x1 : Int32) (x2 : Int32)  : ∀ (i : Nat) (v3 : Int32) (σ : Sg), Ev mX7_runs 4 91 jV 2 [(0, .ref 53), (1, .int x1), (2, .int x2), (3, .int v3)] [] σ (fn_X7_runs_b2 n x1 x2 i v3 σ) := by
  intro i
  induction i with
  | zero =>
    intro v3 σ
    exact ev_none
  | succ i ih =>
    intro v3 σ
    rw [fn_X7_runs_b2_s]
    refine ev_iload_n (pc := 2) (i := 3) 3 dX7_runs_2 rfl rfl ?_
    refine ev_bipush (pc := 3) (v := 10) dX7_runs_3 (by decide) ?_
    refine ev_icmp_ge (pc := 5) (tgt := 60) dX7_runs_5 rfl ?_ ?_
    · refine ev_iconst (pc := 60) (v := 0) dX7_runs_60 (by decide) ?_
      refine ev_istore_n (pc := 61) (i := 3) (lv' := [(3, .int 0), (0, .ref 53), (1, .int x1), (2, .int x2)]) dX7_runs_61 rfl (Nat.le_of_ble_eq_true rfl) rfl ?_
      refine ev_sub [1, 2, 3, 0] rfl ?_
      exact ev_X7_runs_b62 n x1 x2 n 0 σ
    · refine ev_aload_n (pc := 8) (i := 0) 0 dX7_runs_8 rfl rfl ?_
      refine ev_getR (pc := 9) (t := 64) 19 ag_C7 (rfl) (by decide) (Nat.le_of_ble_eq_true rfl) rfl rfl ag_fl_X7_40 dX7_runs_9 ?_
      refine ev_iload_n (pc := 12) (i := 3) 3 dX7_runs_12 rfl rfl ?_
      refine ev_iload_n (pc := 13) (i := 3) 3 dX7_runs_13 rfl rfl ?_
      refine ev_aload_n (pc := 14) (i := 0) 0 dX7_runs_14 rfl rfl ?_
      refine ev_getI (pc := 15) 2 ag_C7 (rfl) (by decide) (Nat.le_of_ble_eq_true rfl) rfl rfl ag_fl_X7_93 dX7_runs_15 ?_
      refine ev_icmp_ge (pc := 18) (tgt := 52) dX7_runs_18 rfl ?_ ?_
      · refine ev_iconst (pc := 52) (v := 0) dX7_runs_52 (by decide) ?_
        exact ev_X7_runs_b53 n x1 x2 (fn_X7_runs_b2 n x1 x2 i) ih v3 v3 0 σ
      · refine ev_aload_n (pc := 21) (i := 0) 0 dX7_runs_21 rfl rfl ?_
        refine ev_getR (pc := 22) (t := 58) 6 ag_C7 (rfl) (by decide) (Nat.le_of_ble_eq_true rfl) rfl rfl ag_fl_X7_22 dX7_runs_22 ?_
        refine ev_iload_n (pc := 25) (i := 3) 3 dX7_runs_25 rfl rfl ?_
        refine ev_iald (pc := 26) (rfl) (by decide) dX7_runs_26 ?_
        refine ev_aload_n (pc := 27) (i := 0) 0 dX7_runs_27 rfl rfl ?_
        refine ev_getI (pc := 28) 17 ag_C7 (rfl) (by decide) (Nat.le_of_ble_eq_true rfl) rfl rfl ag_fl_X7_149 dX7_runs_28 ?_
        refine ev_iload_n (pc := 31) (i := 3) 3 dX7_runs_31 rfl rfl ?_
        refine ev_sI (pc := 32) (as := [.int (σ 53 17), .int v3]) (rest := [.int (σ 58 v3.toNatClampNeg), .int v3, .ref 64]) ⟨155, ms_X7_isIn, ag_ml_X7_155, rfl, (Nat.le_of_ble_eq_true rfl), ⟨(Nat.le_of_ble_eq_true rfl), (Nat.le_of_ble_eq_true rfl)⟩, dX7_runs_32⟩ (im_X7_isIn (σ 53 17) v3 σ) (fun q296 => ?_)
        refine ev_if_eq (pc := 35) (tgt := 47) dX7_runs_35 rfl ?_ ?_
        · refine ev_iconst (pc := 47) (v := 0) dX7_runs_47 (by decide) ?_
          exact ev_X7_runs_b48 n x1 x2 (fn_X7_runs_b2 n x1 x2 i) ih v3 v3 (σ 58 v3.toNatClampNeg) 0 σ
        · refine ev_iconst (pc := 38) (v := 1) dX7_runs_38 (by decide) ?_
          refine ev_aload_n (pc := 39) (i := 0) 0 dX7_runs_39 rfl rfl ?_
          refine ev_getI (pc := 40) 18 ag_C7 (rfl) (by decide) (Nat.le_of_ble_eq_true rfl) rfl rfl ag_fl_X7_152 dX7_runs_40 ?_
          refine ev_ishl (pc := 43) dX7_runs_43 ?_
          refine ev_goto (pc := 44) (tgt := 48) dX7_runs_44 rfl ?_
          exact ev_X7_runs_b48 n x1 x2 (fn_X7_runs_b2 n x1 x2 i) ih v3 v3 (σ 58 v3.toNatClampNeg) (1 <<< ((σ 53 18) &&& 31)) σ
def fn_X7_runs (n : Nat) (x1 : Int32) (x2 : Int32) (σ : Sg) : Option Sg :=
  (fn_X7_runs_b2 n x1 x2 n 0 σ)
set_option maxRecDepth 20000 in
set_option maxHeartbeats 4000000 in
theorem im_X7_runs (n : Nat) (x1 : Int32) (x2 : Int32) (σ : Sg) : Im yX7_runs mX7_runs 4 91 jV [.ref 53, .int x1, .int x2] σ (fn_X7_runs n x1 x2 σ) := by
  refine Im.of (by decide +kernel) rfl rfl (Nat.le_of_ble_eq_true rfl) ?_
  show Ev mX7_runs 4 91 jV 0 [(0, .ref 53), (1, .int x1), (2, .int x2)] [] σ (fn_X7_runs n x1 x2 σ)
  unfold fn_X7_runs
  refine ev_iconst (pc := 0) (v := 0) dX7_runs_0 (by decide) ?_
  refine ev_istore_n (pc := 1) (i := 3) (lv' := [(3, .int 0), (0, .ref 53), (1, .int x1), (2, .int x2)]) dX7_runs_1 rfl (Nat.le_of_ble_eq_true rfl) rfl ?_
  refine ev_sub [1, 2, 3, 0] rfl ?_
  exact ev_X7_runs_b2 n x1 x2 n 0 σ
-- X7_runsTo
def mX7_runsTo : Md := (RX7, cX7_runsTo, 2, none, none)
theorem mv_X7_runsTo : ag_Mv yX7_runsTo mX7_runsTo 1 := ⟨ag_co_X7_runsTo, ag_im_X7_runsTo, ag_se_X7_runsTo, ag_ini_X7, by decide +kernel⟩
theorem dX7_runsTo_0 : decode mX7_runsTo.2.1 0 = .ok (.aload_n 0, 1) := by decide +kernel
theorem dX7_runsTo_1 : decode mX7_runsTo.2.1 1 = .ok (.invokevirtual 104, 3) := by decide +kernel
theorem dX7_runsTo_4 : decode mX7_runsTo.2.1 4 = .ok (.aload_n 0, 1) := by decide +kernel
theorem dX7_runsTo_5 : decode mX7_runsTo.2.1 5 = .ok (.iload_n 1, 1) := by decide +kernel
theorem dX7_runsTo_6 : decode mX7_runsTo.2.1 6 = .ok (.aload_n 0, 1) := by decide +kernel
theorem dX7_runsTo_7 : decode mX7_runsTo.2.1 7 = .ok (.getfield 120, 3) := by decide +kernel
theorem dX7_runsTo_10 : decode mX7_runsTo.2.1 10 = .ok (.invokevirtual 173, 3) := by decide +kernel
theorem dX7_runsTo_13 : decode mX7_runsTo.2.1 13 = .ok (.return_, 1) := by decide +kernel
def fn_X7_runsTo (n : Nat) (x1 : Int32) (σ : Sg) : Option Sg :=
  (Option.bind (fn_X7_reads n σ) fun q297 =>
  (Option.bind (fn_X7_runs n x1 (q297 53 7) q297) fun q298 =>
  (some q298)))
set_option maxRecDepth 20000 in
set_option maxHeartbeats 4000000 in
theorem im_X7_runsTo (n : Nat) (x1 : Int32) (σ : Sg) : Im yX7_runsTo mX7_runsTo 5 116 jV [.ref 53, .int x1] σ (fn_X7_runsTo n x1 σ) := by
  refine Im.of (by decide +kernel) rfl rfl (Nat.le_of_ble_eq_true rfl) ?_
  show Ev mX7_runsTo 5 116 jV 0 [(0, .ref 53), (1, .int x1)] [] σ (fn_X7_runsTo n x1 σ)
  unfold fn_X7_runsTo
  refine ev_aload_n (pc := 0) (i := 0) 0 dX7_runsTo_0 rfl rfl ?_
  refine ev_vV (pc := 1) (as := []) (rest := []) ⟨7, 104, 37, TX7, tyX7, ag_C7, ⟨(rfl), (by decide)⟩, mv_X7_reads, ag_ml_X7_104, rfl, (Nat.le_of_ble_eq_true rfl), ⟨(Nat.le_of_ble_eq_true rfl), (Nat.le_of_ble_eq_true rfl)⟩, dX7_runsTo_1⟩ (im_X7_reads n σ) (fun q297 => ?_)
  refine ev_aload_n (pc := 4) (i := 0) 0 dX7_runsTo_4 rfl rfl ?_
  refine ev_iload_n (pc := 5) (i := 1) 1 dX7_runsTo_5 rfl rfl ?_
  refine ev_aload_n (pc := 6) (i := 0) 0 dX7_runsTo_6 rfl rfl ?_
  refine ev_getI (pc := 7) 7 ag_C7 (rfl) (by decide) (Nat.le_of_ble_eq_true rfl) rfl rfl ag_fl_X7_120 dX7_runsTo_7 ?_
  refine ev_vV (pc := 10) (as := [.int x1, .int (q297 53 7)]) (rest := []) ⟨7, 173, 37, TX7, tyX7, ag_C7, ⟨(rfl), (by decide)⟩, mv_X7_runs, ag_ml_X7_173, rfl, (Nat.le_of_ble_eq_true rfl), ⟨(Nat.le_of_ble_eq_true rfl), (Nat.le_of_ble_eq_true rfl)⟩, dX7_runsTo_10⟩ (im_X7_runs n x1 (q297 53 7) q297) (fun q298 => ?_)
  exact ev_rV rfl dX7_runsTo_13
-- X7_ageOf
def mX7_ageOf : Md := (RX7, cX7_ageOf, 3, some .int, none)
theorem mv_X7_ageOf : ag_Mv yX7_ageOf mX7_ageOf 2 := ⟨ag_co_X7_ageOf, ag_im_X7_ageOf, ag_se_X7_ageOf, ag_ini_X7, by decide +kernel⟩
theorem dX7_ageOf_0 : decode mX7_ageOf.2.1 0 = .ok (.aload_n 0, 1) := by decide +kernel
theorem dX7_ageOf_1 : decode mX7_ageOf.2.1 1 = .ok (.iload_n 1, 1) := by decide +kernel
theorem dX7_ageOf_2 : decode mX7_ageOf.2.1 2 = .ok (.iload_n 2, 1) := by decide +kernel
theorem dX7_ageOf_3 : decode mX7_ageOf.2.1 3 = .ok (.invokevirtual 162, 3) := by decide +kernel
theorem dX7_ageOf_6 : decode mX7_ageOf.2.1 6 = .ok (.ifCond .eq 12, 3) := by decide +kernel
theorem dX7_ageOf_9 : decode mX7_ageOf.2.1 9 = .ok (.aload_n 0, 1) := by decide +kernel
theorem dX7_ageOf_10 : decode mX7_ageOf.2.1 10 = .ok (.iload_n 1, 1) := by decide +kernel
theorem dX7_ageOf_11 : decode mX7_ageOf.2.1 11 = .ok (.iload_n 2, 1) := by decide +kernel
theorem dX7_ageOf_12 : decode mX7_ageOf.2.1 12 = .ok (.invokevirtual 165, 3) := by decide +kernel
theorem dX7_ageOf_15 : decode mX7_ageOf.2.1 15 = .ok (.goto 4, 3) := by decide +kernel
theorem dX7_ageOf_18 : decode mX7_ageOf.2.1 18 = .ok (.iconst (-1), 1) := by decide +kernel
theorem dX7_ageOf_19 : decode mX7_ageOf.2.1 19 = .ok (.ireturn, 1) := by decide +kernel
def fn_X7_ageOf (x1 : Int32) (x2 : Int32) (σ : Sg) : Option Int32 :=
  (Option.bind (fn_X7_lives x1 x2 σ) fun q299 =>
  (if q299 = 0 then (some (-1))
  else (Option.bind (fn_X7_tells x1 x2 σ) fun q300 =>
  (some q300))))
set_option maxRecDepth 20000 in
set_option maxHeartbeats 4000000 in
theorem im_X7_ageOf (x1 : Int32) (x2 : Int32) (σ : Sg) : Im yX7_ageOf mX7_ageOf 3 65 (jI σ) [.ref 53, .int x1, .int x2] σ (fn_X7_ageOf x1 x2 σ) := by
  refine Im.of (by decide +kernel) rfl rfl (Nat.le_of_ble_eq_true rfl) ?_
  show Ev mX7_ageOf 3 65 (jI σ) 0 [(0, .ref 53), (1, .int x1), (2, .int x2)] [] σ (fn_X7_ageOf x1 x2 σ)
  unfold fn_X7_ageOf
  refine ev_aload_n (pc := 0) (i := 0) 0 dX7_ageOf_0 rfl rfl ?_
  refine ev_iload_n (pc := 1) (i := 1) 1 dX7_ageOf_1 rfl rfl ?_
  refine ev_iload_n (pc := 2) (i := 2) 2 dX7_ageOf_2 rfl rfl ?_
  refine ev_vI (pc := 3) (as := [.int x1, .int x2]) (rest := []) ⟨7, 162, 37, TX7, tyX7, ag_C7, ⟨(rfl), (by decide)⟩, mv_X7_lives, ag_ml_X7_162, rfl, (Nat.le_of_ble_eq_true rfl), ⟨(Nat.le_of_ble_eq_true rfl), (Nat.le_of_ble_eq_true rfl)⟩, dX7_ageOf_3⟩ (im_X7_lives x1 x2 σ) (fun q299 => ?_)
  refine ev_if_eq (pc := 6) (tgt := 18) dX7_ageOf_6 rfl ?_ ?_
  · refine ev_iconst (pc := 18) (v := (-1)) dX7_ageOf_18 (by decide) ?_
    exact ev_irI rfl dX7_ageOf_19
  · refine ev_aload_n (pc := 9) (i := 0) 0 dX7_ageOf_9 rfl rfl ?_
    refine ev_iload_n (pc := 10) (i := 1) 1 dX7_ageOf_10 rfl rfl ?_
    refine ev_iload_n (pc := 11) (i := 2) 2 dX7_ageOf_11 rfl rfl ?_
    refine ev_vI (pc := 12) (as := [.int x1, .int x2]) (rest := []) ⟨7, 165, 37, TX7, tyX7, ag_C7, ⟨(rfl), (by decide)⟩, mv_X7_tells, ag_ml_X7_165, rfl, (Nat.le_of_ble_eq_true rfl), ⟨(Nat.le_of_ble_eq_true rfl), (Nat.le_of_ble_eq_true rfl)⟩, dX7_ageOf_12⟩ (im_X7_tells x1 x2 σ) (fun q300 => ?_)
    refine ev_goto (pc := 15) (tgt := 19) dX7_ageOf_15 rfl ?_
    exact ev_irI rfl dX7_ageOf_19
-- X7_age
def mX7_age : Md := (RX7, cX7_age, 3, some .int, none)
theorem mv_X7_age : ag_Mv yX7_age mX7_age 2 := ⟨ag_co_X7_age, ag_im_X7_age, ag_se_X7_age, ag_ini_X7, by decide +kernel⟩
theorem dX7_age_0 : decode mX7_age.2.1 0 = .ok (.aload_n 0, 1) := by decide +kernel
theorem dX7_age_1 : decode mX7_age.2.1 1 = .ok (.iload_n 1, 1) := by decide +kernel
theorem dX7_age_2 : decode mX7_age.2.1 2 = .ok (.invokevirtual 107, 3) := by decide +kernel
theorem dX7_age_5 : decode mX7_age.2.1 5 = .ok (.ifCond .eq 19, 3) := by decide +kernel
theorem dX7_age_8 : decode mX7_age.2.1 8 = .ok (.iload_n 2, 1) := by decide +kernel
theorem dX7_age_9 : decode mX7_age.2.1 9 = .ok (.invokestatic 114, 3) := by decide +kernel
theorem dX7_age_12 : decode mX7_age.2.1 12 = .ok (.ifCond .eq 12, 3) := by decide +kernel
theorem dX7_age_15 : decode mX7_age.2.1 15 = .ok (.aload_n 0, 1) := by decide +kernel
theorem dX7_age_16 : decode mX7_age.2.1 16 = .ok (.iload_n 1, 1) := by decide +kernel
theorem dX7_age_17 : decode mX7_age.2.1 17 = .ok (.iload_n 2, 1) := by decide +kernel
theorem dX7_age_18 : decode mX7_age.2.1 18 = .ok (.invokevirtual 176, 3) := by decide +kernel
theorem dX7_age_21 : decode mX7_age.2.1 21 = .ok (.goto 5, 3) := by decide +kernel
theorem dX7_age_24 : decode mX7_age.2.1 24 = .ok (.bipush (-2), 2) := by decide +kernel
theorem dX7_age_26 : decode mX7_age.2.1 26 = .ok (.ireturn, 1) := by decide +kernel
def fn_X7_age (n : Nat) (x1 : Int32) (x2 : Int32) (σ : Sg) : Option (Int32 × Sg) :=
  (Option.bind (fn_X7_isPerson n x1 σ) fun q301 =>
  (if q301.1 = 0 then (some ((-2), q301.2))
  else (Option.bind (fn_X7_isYear x2 q301.2) fun q302 =>
  (if q302 = 0 then (some ((-2), q301.2))
  else (Option.bind (fn_X7_ageOf x1 x2 q301.2) fun q303 =>
  (some (q303, q301.2)))))))
set_option maxRecDepth 20000 in
set_option maxHeartbeats 4000000 in
theorem im_X7_age (n : Nat) (x1 : Int32) (x2 : Int32) (σ : Sg) : Im yX7_age mX7_age 5 112 jW [.ref 53, .int x1, .int x2] σ (fn_X7_age n x1 x2 σ) := by
  refine Im.of (by decide +kernel) rfl rfl (Nat.le_of_ble_eq_true rfl) ?_
  show Ev mX7_age 5 112 jW 0 [(0, .ref 53), (1, .int x1), (2, .int x2)] [] σ (fn_X7_age n x1 x2 σ)
  unfold fn_X7_age
  refine ev_aload_n (pc := 0) (i := 0) 0 dX7_age_0 rfl rfl ?_
  refine ev_iload_n (pc := 1) (i := 1) 1 dX7_age_1 rfl rfl ?_
  refine ev_vW (pc := 2) (as := [.int x1]) (rest := []) ⟨7, 107, 37, TX7, tyX7, ag_C7, ⟨(rfl), (by decide)⟩, mv_X7_isPerson, ag_ml_X7_107, rfl, (Nat.le_of_ble_eq_true rfl), ⟨(Nat.le_of_ble_eq_true rfl), (Nat.le_of_ble_eq_true rfl)⟩, dX7_age_2⟩ (im_X7_isPerson n x1 σ) (fun q301 => ?_)
  refine ev_if_eq (pc := 5) (tgt := 24) dX7_age_5 rfl ?_ ?_
  · refine ev_bipush (pc := 24) (v := (-2)) dX7_age_24 (by decide) ?_
    exact ev_irW rfl dX7_age_26
  · refine ev_iload_n (pc := 8) (i := 2) 2 dX7_age_8 rfl rfl ?_
    refine ev_sI (pc := 9) (as := [.int x2]) (rest := []) ⟨114, ms_X7_isYear, ag_ml_X7_114, rfl, (Nat.le_of_ble_eq_true rfl), ⟨(Nat.le_of_ble_eq_true rfl), (Nat.le_of_ble_eq_true rfl)⟩, dX7_age_9⟩ (im_X7_isYear x2 q301.2) (fun q302 => ?_)
    refine ev_if_eq (pc := 12) (tgt := 24) dX7_age_12 rfl ?_ ?_
    · refine ev_bipush (pc := 24) (v := (-2)) dX7_age_24 (by decide) ?_
      exact ev_irW rfl dX7_age_26
    · refine ev_aload_n (pc := 15) (i := 0) 0 dX7_age_15 rfl rfl ?_
      refine ev_iload_n (pc := 16) (i := 1) 1 dX7_age_16 rfl rfl ?_
      refine ev_iload_n (pc := 17) (i := 2) 2 dX7_age_17 rfl rfl ?_
      refine ev_vI (pc := 18) (as := [.int x1, .int x2]) (rest := []) ⟨7, 176, 37, TX7, tyX7, ag_C7, ⟨(rfl), (by decide)⟩, mv_X7_ageOf, ag_ml_X7_176, rfl, (Nat.le_of_ble_eq_true rfl), ⟨(Nat.le_of_ble_eq_true rfl), (Nat.le_of_ble_eq_true rfl)⟩, dX7_age_18⟩ (im_X7_ageOf x1 x2 q301.2) (fun q303 => ?_)
      refine ev_goto (pc := 21) (tgt := 26) dX7_age_21 rfl ?_
      exact ev_irW rfl dX7_age_26
-- X7_openedOf
def mX7_openedOf : Md := (RX7, cX7_openedOf, 2, some .int, none)
theorem mv_X7_openedOf : ag_Mv yX7_openedOf mX7_openedOf 1 := ⟨ag_co_X7_openedOf, ag_im_X7_openedOf, ag_se_X7_openedOf, ag_ini_X7, by decide +kernel⟩
theorem dX7_openedOf_0 : decode mX7_openedOf.2.1 0 = .ok (.aload_n 0, 1) := by decide +kernel
theorem dX7_openedOf_1 : decode mX7_openedOf.2.1 1 = .ok (.sipush 199, 3) := by decide +kernel
theorem dX7_openedOf_4 : decode mX7_openedOf.2.1 4 = .ok (.invokevirtual 179, 3) := by decide +kernel
theorem dX7_openedOf_7 : decode mX7_openedOf.2.1 7 = .ok (.aload_n 0, 1) := by decide +kernel
theorem dX7_openedOf_8 : decode mX7_openedOf.2.1 8 = .ok (.getfield 43, 3) := by decide +kernel
theorem dX7_openedOf_11 : decode mX7_openedOf.2.1 11 = .ok (.iload_n 1, 1) := by decide +kernel
theorem dX7_openedOf_12 : decode mX7_openedOf.2.1 12 = .ok (.iaload, 1) := by decide +kernel
theorem dX7_openedOf_13 : decode mX7_openedOf.2.1 13 = .ok (.ireturn, 1) := by decide +kernel
def fn_X7_openedOf (n : Nat) (x1 : Int32) (σ : Sg) : Option (Int32 × Sg) :=
  (Option.bind (fn_X7_runsTo n 199 σ) fun q304 =>
  (if ag_ib x1 13 = true then (some ((q304 65 x1.toNatClampNeg), q304)) else none))
set_option maxRecDepth 20000 in
set_option maxHeartbeats 4000000 in
theorem im_X7_openedOf (n : Nat) (x1 : Int32) (σ : Sg) : Im yX7_openedOf mX7_openedOf 6 137 jW [.ref 53, .int x1] σ (fn_X7_openedOf n x1 σ) := by
  refine Im.of (by decide +kernel) rfl rfl (Nat.le_of_ble_eq_true rfl) ?_
  show Ev mX7_openedOf 6 137 jW 0 [(0, .ref 53), (1, .int x1)] [] σ (fn_X7_openedOf n x1 σ)
  unfold fn_X7_openedOf
  refine ev_aload_n (pc := 0) (i := 0) 0 dX7_openedOf_0 rfl rfl ?_
  refine ev_sipush (pc := 1) (v := 199) dX7_openedOf_1 (by decide) ?_
  refine ev_vV (pc := 4) (as := [.int 199]) (rest := []) ⟨7, 179, 37, TX7, tyX7, ag_C7, ⟨(rfl), (by decide)⟩, mv_X7_runsTo, ag_ml_X7_179, rfl, (Nat.le_of_ble_eq_true rfl), ⟨(Nat.le_of_ble_eq_true rfl), (Nat.le_of_ble_eq_true rfl)⟩, dX7_openedOf_4⟩ (im_X7_runsTo n 199 σ) (fun q304 => ?_)
  refine ev_aload_n (pc := 7) (i := 0) 0 dX7_openedOf_7 rfl rfl ?_
  refine ev_getR (pc := 8) (t := 65) 20 ag_C7 (rfl) (by decide) (Nat.le_of_ble_eq_true rfl) rfl rfl ag_fl_X7_43 dX7_openedOf_8 ?_
  refine ev_iload_n (pc := 11) (i := 1) 1 dX7_openedOf_11 rfl rfl ?_
  refine ev_iald (pc := 12) (rfl) (by decide) dX7_openedOf_12 ?_
  exact ev_irW rfl dX7_openedOf_13
-- X7_opened
def mX7_opened : Md := (RX7, cX7_opened, 2, some .int, none)
theorem mv_X7_opened : ag_Mv yX7_opened mX7_opened 1 := ⟨ag_co_X7_opened, ag_im_X7_opened, ag_se_X7_opened, ag_ini_X7, by decide +kernel⟩
theorem dX7_opened_0 : decode mX7_opened.2.1 0 = .ok (.iload_n 1, 1) := by decide +kernel
theorem dX7_opened_1 : decode mX7_opened.2.1 1 = .ok (.iconst 0, 1) := by decide +kernel
theorem dX7_opened_2 : decode mX7_opened.2.1 2 = .ok (.aload_n 0, 1) := by decide +kernel
theorem dX7_opened_3 : decode mX7_opened.2.1 3 = .ok (.getfield 120, 3) := by decide +kernel
theorem dX7_opened_6 : decode mX7_opened.2.1 6 = .ok (.iconst 1, 1) := by decide +kernel
theorem dX7_opened_7 : decode mX7_opened.2.1 7 = .ok (.isub, 1) := by decide +kernel
theorem dX7_opened_8 : decode mX7_opened.2.1 8 = .ok (.invokestatic 85, 3) := by decide +kernel
theorem dX7_opened_11 : decode mX7_opened.2.1 11 = .ok (.ifCond .eq 11, 3) := by decide +kernel
theorem dX7_opened_14 : decode mX7_opened.2.1 14 = .ok (.aload_n 0, 1) := by decide +kernel
theorem dX7_opened_15 : decode mX7_opened.2.1 15 = .ok (.iload_n 1, 1) := by decide +kernel
theorem dX7_opened_16 : decode mX7_opened.2.1 16 = .ok (.invokevirtual 183, 3) := by decide +kernel
theorem dX7_opened_19 : decode mX7_opened.2.1 19 = .ok (.goto 5, 3) := by decide +kernel
theorem dX7_opened_22 : decode mX7_opened.2.1 22 = .ok (.bipush (-2), 2) := by decide +kernel
theorem dX7_opened_24 : decode mX7_opened.2.1 24 = .ok (.ireturn, 1) := by decide +kernel
def fn_X7_opened (n : Nat) (x1 : Int32) (σ : Sg) : Option (Int32 × Sg) :=
  (Option.bind (fn_X7_in x1 0 ((σ 53 7) - 1) σ) fun q305 =>
  (if q305 = 0 then (some ((-2), σ))
  else (Option.bind (fn_X7_openedOf n x1 σ) fun q306 =>
  (some (q306.1, q306.2)))))
set_option maxRecDepth 20000 in
set_option maxHeartbeats 4000000 in
theorem im_X7_opened (n : Nat) (x1 : Int32) (σ : Sg) : Im yX7_opened mX7_opened 7 158 jW [.ref 53, .int x1] σ (fn_X7_opened n x1 σ) := by
  refine Im.of (by decide +kernel) rfl rfl (Nat.le_of_ble_eq_true rfl) ?_
  show Ev mX7_opened 7 158 jW 0 [(0, .ref 53), (1, .int x1)] [] σ (fn_X7_opened n x1 σ)
  unfold fn_X7_opened
  refine ev_iload_n (pc := 0) (i := 1) 1 dX7_opened_0 rfl rfl ?_
  refine ev_iconst (pc := 1) (v := 0) dX7_opened_1 (by decide) ?_
  refine ev_aload_n (pc := 2) (i := 0) 0 dX7_opened_2 rfl rfl ?_
  refine ev_getI (pc := 3) 7 ag_C7 (rfl) (by decide) (Nat.le_of_ble_eq_true rfl) rfl rfl ag_fl_X7_120 dX7_opened_3 ?_
  refine ev_iconst (pc := 6) (v := 1) dX7_opened_6 (by decide) ?_
  refine ev_isub (pc := 7) dX7_opened_7 ?_
  refine ev_sI (pc := 8) (as := [.int x1, .int 0, .int ((σ 53 7) - 1)]) (rest := []) ⟨85, ms_X7_in, ag_ml_X7_85, rfl, (Nat.le_of_ble_eq_true rfl), ⟨(Nat.le_of_ble_eq_true rfl), (Nat.le_of_ble_eq_true rfl)⟩, dX7_opened_8⟩ (im_X7_in x1 0 ((σ 53 7) - 1) σ) (fun q305 => ?_)
  refine ev_if_eq (pc := 11) (tgt := 22) dX7_opened_11 rfl ?_ ?_
  · refine ev_bipush (pc := 22) (v := (-2)) dX7_opened_22 (by decide) ?_
    exact ev_irW rfl dX7_opened_24
  · refine ev_aload_n (pc := 14) (i := 0) 0 dX7_opened_14 rfl rfl ?_
    refine ev_iload_n (pc := 15) (i := 1) 1 dX7_opened_15 rfl rfl ?_
    refine ev_vW (pc := 16) (as := [.int x1]) (rest := []) ⟨7, 183, 37, TX7, tyX7, ag_C7, ⟨(rfl), (by decide)⟩, mv_X7_openedOf, ag_ml_X7_183, rfl, (Nat.le_of_ble_eq_true rfl), ⟨(Nat.le_of_ble_eq_true rfl), (Nat.le_of_ble_eq_true rfl)⟩, dX7_opened_16⟩ (im_X7_openedOf n x1 σ) (fun q306 => ?_)
    refine ev_goto (pc := 19) (tgt := 24) dX7_opened_19 rfl ?_
    exact ev_irW rfl dX7_opened_24
-- X7_writtenOf
def mX7_writtenOf : Md := (RX7, cX7_writtenOf, 2, some .int, none)
theorem mv_X7_writtenOf : ag_Mv yX7_writtenOf mX7_writtenOf 1 := ⟨ag_co_X7_writtenOf, ag_im_X7_writtenOf, ag_se_X7_writtenOf, ag_ini_X7, by decide +kernel⟩
theorem dX7_writtenOf_0 : decode mX7_writtenOf.2.1 0 = .ok (.aload_n 0, 1) := by decide +kernel
theorem dX7_writtenOf_1 : decode mX7_writtenOf.2.1 1 = .ok (.sipush 199, 3) := by decide +kernel
theorem dX7_writtenOf_4 : decode mX7_writtenOf.2.1 4 = .ok (.invokevirtual 179, 3) := by decide +kernel
theorem dX7_writtenOf_7 : decode mX7_writtenOf.2.1 7 = .ok (.aload_n 0, 1) := by decide +kernel
theorem dX7_writtenOf_8 : decode mX7_writtenOf.2.1 8 = .ok (.getfield 46, 3) := by decide +kernel
theorem dX7_writtenOf_11 : decode mX7_writtenOf.2.1 11 = .ok (.iload_n 1, 1) := by decide +kernel
theorem dX7_writtenOf_12 : decode mX7_writtenOf.2.1 12 = .ok (.iaload, 1) := by decide +kernel
theorem dX7_writtenOf_13 : decode mX7_writtenOf.2.1 13 = .ok (.iconst (-1), 1) := by decide +kernel
theorem dX7_writtenOf_14 : decode mX7_writtenOf.2.1 14 = .ok (.if_icmp .ne 7, 3) := by decide +kernel
theorem dX7_writtenOf_17 : decode mX7_writtenOf.2.1 17 = .ok (.iconst 0, 1) := by decide +kernel
theorem dX7_writtenOf_18 : decode mX7_writtenOf.2.1 18 = .ok (.goto 4, 3) := by decide +kernel
theorem dX7_writtenOf_21 : decode mX7_writtenOf.2.1 21 = .ok (.iconst 1, 1) := by decide +kernel
theorem dX7_writtenOf_22 : decode mX7_writtenOf.2.1 22 = .ok (.ireturn, 1) := by decide +kernel
def fn_X7_writtenOf (n : Nat) (x1 : Int32) (σ : Sg) : Option (Int32 × Sg) :=
  (Option.bind (fn_X7_runsTo n 199 σ) fun q307 =>
  (if ag_ib x1 13 = true then (if (q307 66 x1.toNatClampNeg) = (-1) then (some (0, q307))
  else (some (1, q307))) else none))
set_option maxRecDepth 20000 in
set_option maxHeartbeats 4000000 in
theorem im_X7_writtenOf (n : Nat) (x1 : Int32) (σ : Sg) : Im yX7_writtenOf mX7_writtenOf 6 137 jW [.ref 53, .int x1] σ (fn_X7_writtenOf n x1 σ) := by
  refine Im.of (by decide +kernel) rfl rfl (Nat.le_of_ble_eq_true rfl) ?_
  show Ev mX7_writtenOf 6 137 jW 0 [(0, .ref 53), (1, .int x1)] [] σ (fn_X7_writtenOf n x1 σ)
  unfold fn_X7_writtenOf
  refine ev_aload_n (pc := 0) (i := 0) 0 dX7_writtenOf_0 rfl rfl ?_
  refine ev_sipush (pc := 1) (v := 199) dX7_writtenOf_1 (by decide) ?_
  refine ev_vV (pc := 4) (as := [.int 199]) (rest := []) ⟨7, 179, 37, TX7, tyX7, ag_C7, ⟨(rfl), (by decide)⟩, mv_X7_runsTo, ag_ml_X7_179, rfl, (Nat.le_of_ble_eq_true rfl), ⟨(Nat.le_of_ble_eq_true rfl), (Nat.le_of_ble_eq_true rfl)⟩, dX7_writtenOf_4⟩ (im_X7_runsTo n 199 σ) (fun q307 => ?_)
  refine ev_aload_n (pc := 7) (i := 0) 0 dX7_writtenOf_7 rfl rfl ?_
  refine ev_getR (pc := 8) (t := 66) 21 ag_C7 (rfl) (by decide) (Nat.le_of_ble_eq_true rfl) rfl rfl ag_fl_X7_46 dX7_writtenOf_8 ?_
  refine ev_iload_n (pc := 11) (i := 1) 1 dX7_writtenOf_11 rfl rfl ?_
  refine ev_iald (pc := 12) (rfl) (by decide) dX7_writtenOf_12 ?_
  refine ev_iconst (pc := 13) (v := (-1)) dX7_writtenOf_13 (by decide) ?_
  refine ev_icmp_ne (pc := 14) (tgt := 21) dX7_writtenOf_14 rfl ?_ ?_
  · refine ev_iconst (pc := 17) (v := 0) dX7_writtenOf_17 (by decide) ?_
    refine ev_goto (pc := 18) (tgt := 22) dX7_writtenOf_18 rfl ?_
    exact ev_irW rfl dX7_writtenOf_22
  · refine ev_iconst (pc := 21) (v := 1) dX7_writtenOf_21 (by decide) ?_
    exact ev_irW rfl dX7_writtenOf_22
-- X7_written
def mX7_written : Md := (RX7, cX7_written, 2, some .int, none)
theorem mv_X7_written : ag_Mv yX7_written mX7_written 1 := ⟨ag_co_X7_written, ag_im_X7_written, ag_se_X7_written, ag_ini_X7, by decide +kernel⟩
theorem dX7_written_0 : decode mX7_written.2.1 0 = .ok (.iload_n 1, 1) := by decide +kernel
theorem dX7_written_1 : decode mX7_written.2.1 1 = .ok (.iconst 0, 1) := by decide +kernel
theorem dX7_written_2 : decode mX7_written.2.1 2 = .ok (.aload_n 0, 1) := by decide +kernel
theorem dX7_written_3 : decode mX7_written.2.1 3 = .ok (.getfield 120, 3) := by decide +kernel
theorem dX7_written_6 : decode mX7_written.2.1 6 = .ok (.iconst 1, 1) := by decide +kernel
theorem dX7_written_7 : decode mX7_written.2.1 7 = .ok (.isub, 1) := by decide +kernel
theorem dX7_written_8 : decode mX7_written.2.1 8 = .ok (.invokestatic 85, 3) := by decide +kernel
theorem dX7_written_11 : decode mX7_written.2.1 11 = .ok (.ifCond .eq 11, 3) := by decide +kernel
theorem dX7_written_14 : decode mX7_written.2.1 14 = .ok (.aload_n 0, 1) := by decide +kernel
theorem dX7_written_15 : decode mX7_written.2.1 15 = .ok (.iload_n 1, 1) := by decide +kernel
theorem dX7_written_16 : decode mX7_written.2.1 16 = .ok (.invokevirtual 186, 3) := by decide +kernel
theorem dX7_written_19 : decode mX7_written.2.1 19 = .ok (.goto 5, 3) := by decide +kernel
theorem dX7_written_22 : decode mX7_written.2.1 22 = .ok (.bipush (-2), 2) := by decide +kernel
theorem dX7_written_24 : decode mX7_written.2.1 24 = .ok (.ireturn, 1) := by decide +kernel
def fn_X7_written (n : Nat) (x1 : Int32) (σ : Sg) : Option (Int32 × Sg) :=
  (Option.bind (fn_X7_in x1 0 ((σ 53 7) - 1) σ) fun q308 =>
  (if q308 = 0 then (some ((-2), σ))
  else (Option.bind (fn_X7_writtenOf n x1 σ) fun q309 =>
  (some (q309.1, q309.2)))))
set_option maxRecDepth 20000 in
set_option maxHeartbeats 4000000 in
theorem im_X7_written (n : Nat) (x1 : Int32) (σ : Sg) : Im yX7_written mX7_written 7 158 jW [.ref 53, .int x1] σ (fn_X7_written n x1 σ) := by
  refine Im.of (by decide +kernel) rfl rfl (Nat.le_of_ble_eq_true rfl) ?_
  show Ev mX7_written 7 158 jW 0 [(0, .ref 53), (1, .int x1)] [] σ (fn_X7_written n x1 σ)
  unfold fn_X7_written
  refine ev_iload_n (pc := 0) (i := 1) 1 dX7_written_0 rfl rfl ?_
  refine ev_iconst (pc := 1) (v := 0) dX7_written_1 (by decide) ?_
  refine ev_aload_n (pc := 2) (i := 0) 0 dX7_written_2 rfl rfl ?_
  refine ev_getI (pc := 3) 7 ag_C7 (rfl) (by decide) (Nat.le_of_ble_eq_true rfl) rfl rfl ag_fl_X7_120 dX7_written_3 ?_
  refine ev_iconst (pc := 6) (v := 1) dX7_written_6 (by decide) ?_
  refine ev_isub (pc := 7) dX7_written_7 ?_
  refine ev_sI (pc := 8) (as := [.int x1, .int 0, .int ((σ 53 7) - 1)]) (rest := []) ⟨85, ms_X7_in, ag_ml_X7_85, rfl, (Nat.le_of_ble_eq_true rfl), ⟨(Nat.le_of_ble_eq_true rfl), (Nat.le_of_ble_eq_true rfl)⟩, dX7_written_8⟩ (im_X7_in x1 0 ((σ 53 7) - 1) σ) (fun q308 => ?_)
  refine ev_if_eq (pc := 11) (tgt := 22) dX7_written_11 rfl ?_ ?_
  · refine ev_bipush (pc := 22) (v := (-2)) dX7_written_22 (by decide) ?_
    exact ev_irW rfl dX7_written_24
  · refine ev_aload_n (pc := 14) (i := 0) 0 dX7_written_14 rfl rfl ?_
    refine ev_iload_n (pc := 15) (i := 1) 1 dX7_written_15 rfl rfl ?_
    refine ev_vW (pc := 16) (as := [.int x1]) (rest := []) ⟨7, 186, 37, TX7, tyX7, ag_C7, ⟨(rfl), (by decide)⟩, mv_X7_writtenOf, ag_ml_X7_186, rfl, (Nat.le_of_ble_eq_true rfl), ⟨(Nat.le_of_ble_eq_true rfl), (Nat.le_of_ble_eq_true rfl)⟩, dX7_written_16⟩ (im_X7_writtenOf n x1 σ) (fun q309 => ?_)
    refine ev_goto (pc := 19) (tgt := 24) dX7_written_19 rfl ?_
    exact ev_irW rfl dX7_written_24
-- X7_bitsNow
def mX7_bitsNow : Md := (RX7, cX7_bitsNow, 5, some .int, none)
theorem mv_X7_bitsNow : ag_Mv yX7_bitsNow mX7_bitsNow 1 := ⟨ag_co_X7_bitsNow, ag_im_X7_bitsNow, ag_se_X7_bitsNow, ag_ini_X7, by decide +kernel⟩
theorem dX7_bitsNow_0 : decode mX7_bitsNow.2.1 0 = .ok (.iconst 0, 1) := by decide +kernel
theorem dX7_bitsNow_1 : decode mX7_bitsNow.2.1 1 = .ok (.istore_n 2, 1) := by decide +kernel
theorem dX7_bitsNow_2 : decode mX7_bitsNow.2.1 2 = .ok (.iconst 0, 1) := by decide +kernel
theorem dX7_bitsNow_3 : decode mX7_bitsNow.2.1 3 = .ok (.istore_n 3, 1) := by decide +kernel
theorem dX7_bitsNow_4 : decode mX7_bitsNow.2.1 4 = .ok (.iload_n 3, 1) := by decide +kernel
theorem dX7_bitsNow_5 : decode mX7_bitsNow.2.1 5 = .ok (.aload_n 0, 1) := by decide +kernel
theorem dX7_bitsNow_6 : decode mX7_bitsNow.2.1 6 = .ok (.getfield 120, 3) := by decide +kernel
theorem dX7_bitsNow_9 : decode mX7_bitsNow.2.1 9 = .ok (.if_icmp .ge 73, 3) := by decide +kernel
theorem dX7_bitsNow_12 : decode mX7_bitsNow.2.1 12 = .ok (.iload_n 1, 1) := by decide +kernel
theorem dX7_bitsNow_13 : decode mX7_bitsNow.2.1 13 = .ok (.ifCond .ne 31, 3) := by decide +kernel
theorem dX7_bitsNow_16 : decode mX7_bitsNow.2.1 16 = .ok (.aload_n 0, 1) := by decide +kernel
theorem dX7_bitsNow_17 : decode mX7_bitsNow.2.1 17 = .ok (.getfield 46, 3) := by decide +kernel
theorem dX7_bitsNow_20 : decode mX7_bitsNow.2.1 20 = .ok (.iload_n 3, 1) := by decide +kernel
theorem dX7_bitsNow_21 : decode mX7_bitsNow.2.1 21 = .ok (.iaload, 1) := by decide +kernel
theorem dX7_bitsNow_22 : decode mX7_bitsNow.2.1 22 = .ok (.iconst (-1), 1) := by decide +kernel
theorem dX7_bitsNow_23 : decode mX7_bitsNow.2.1 23 = .ok (.if_icmp .eq 17, 3) := by decide +kernel
theorem dX7_bitsNow_26 : decode mX7_bitsNow.2.1 26 = .ok (.aload_n 0, 1) := by decide +kernel
theorem dX7_bitsNow_27 : decode mX7_bitsNow.2.1 27 = .ok (.getfield 43, 3) := by decide +kernel
theorem dX7_bitsNow_30 : decode mX7_bitsNow.2.1 30 = .ok (.iload_n 3, 1) := by decide +kernel
theorem dX7_bitsNow_31 : decode mX7_bitsNow.2.1 31 = .ok (.iaload, 1) := by decide +kernel
theorem dX7_bitsNow_32 : decode mX7_bitsNow.2.1 32 = .ok (.iconst (-1), 1) := by decide +kernel
theorem dX7_bitsNow_33 : decode mX7_bitsNow.2.1 33 = .ok (.if_icmp .ne 7, 3) := by decide +kernel
theorem dX7_bitsNow_36 : decode mX7_bitsNow.2.1 36 = .ok (.iconst 1, 1) := by decide +kernel
theorem dX7_bitsNow_37 : decode mX7_bitsNow.2.1 37 = .ok (.goto 22, 3) := by decide +kernel
theorem dX7_bitsNow_40 : decode mX7_bitsNow.2.1 40 = .ok (.iconst 0, 1) := by decide +kernel
theorem dX7_bitsNow_41 : decode mX7_bitsNow.2.1 41 = .ok (.goto 18, 3) := by decide +kernel
theorem dX7_bitsNow_44 : decode mX7_bitsNow.2.1 44 = .ok (.aload_n 0, 1) := by decide +kernel
theorem dX7_bitsNow_45 : decode mX7_bitsNow.2.1 45 = .ok (.getfield 43, 3) := by decide +kernel
theorem dX7_bitsNow_48 : decode mX7_bitsNow.2.1 48 = .ok (.iload_n 3, 1) := by decide +kernel
theorem dX7_bitsNow_49 : decode mX7_bitsNow.2.1 49 = .ok (.iaload, 1) := by decide +kernel
theorem dX7_bitsNow_50 : decode mX7_bitsNow.2.1 50 = .ok (.iconst (-1), 1) := by decide +kernel
theorem dX7_bitsNow_51 : decode mX7_bitsNow.2.1 51 = .ok (.if_icmp .eq 7, 3) := by decide +kernel
theorem dX7_bitsNow_54 : decode mX7_bitsNow.2.1 54 = .ok (.iconst 1, 1) := by decide +kernel
theorem dX7_bitsNow_55 : decode mX7_bitsNow.2.1 55 = .ok (.goto 4, 3) := by decide +kernel
theorem dX7_bitsNow_58 : decode mX7_bitsNow.2.1 58 = .ok (.iconst 0, 1) := by decide +kernel
theorem dX7_bitsNow_59 : decode mX7_bitsNow.2.1 59 = .ok (.istore 4, 2) := by decide +kernel
theorem dX7_bitsNow_61 : decode mX7_bitsNow.2.1 61 = .ok (.iload_n 2, 1) := by decide +kernel
theorem dX7_bitsNow_62 : decode mX7_bitsNow.2.1 62 = .ok (.iload 4, 2) := by decide +kernel
theorem dX7_bitsNow_64 : decode mX7_bitsNow.2.1 64 = .ok (.ifCond .eq 9, 3) := by decide +kernel
theorem dX7_bitsNow_67 : decode mX7_bitsNow.2.1 67 = .ok (.iconst 1, 1) := by decide +kernel
theorem dX7_bitsNow_68 : decode mX7_bitsNow.2.1 68 = .ok (.iload_n 3, 1) := by decide +kernel
theorem dX7_bitsNow_69 : decode mX7_bitsNow.2.1 69 = .ok (.ishl, 1) := by decide +kernel
theorem dX7_bitsNow_70 : decode mX7_bitsNow.2.1 70 = .ok (.goto 4, 3) := by decide +kernel
theorem dX7_bitsNow_73 : decode mX7_bitsNow.2.1 73 = .ok (.iconst 0, 1) := by decide +kernel
theorem dX7_bitsNow_74 : decode mX7_bitsNow.2.1 74 = .ok (.ior, 1) := by decide +kernel
theorem dX7_bitsNow_75 : decode mX7_bitsNow.2.1 75 = .ok (.istore_n 2, 1) := by decide +kernel
theorem dX7_bitsNow_76 : decode mX7_bitsNow.2.1 76 = .ok (.iinc 3 1, 3) := by decide +kernel
theorem dX7_bitsNow_79 : decode mX7_bitsNow.2.1 79 = .ok (.goto (-75), 3) := by decide +kernel
theorem dX7_bitsNow_82 : decode mX7_bitsNow.2.1 82 = .ok (.iload_n 2, 1) := by decide +kernel
theorem dX7_bitsNow_83 : decode mX7_bitsNow.2.1 83 = .ok (.ireturn, 1) := by decide +kernel
def fn_X7_bitsNow_b74 (n : Nat) (x1 : Int32) (σ : Sg) (k4 : Int32 → Int32 → Option Int32) (v3 : Int32) (s0 : Int32) (s1 : Int32) : Option Int32 :=
  (k4 (s0 ||| s1) (v3 + 1))
set_option maxRecDepth 20000 in
set_option maxHeartbeats 4000000 in
theorem ev_X7_bitsNow_b74 (n : Nat) (x1 : Int32) (σ : Sg) (k4 : Int32 → Int32 → Option Int32) (hk4 : ∀ (v2 : Int32) (v3 : Int32), Ev mX7_bitsNow 0 0 (jI σ) 4 [(0, .ref 53), (1, .int x1), (2, .int v2), (3, .int v3)] [] σ (k4 v2 v3)) (v3 : Int32) (s0 : Int32) (s1 : Int32) : Ev mX7_bitsNow 0 0 (jI σ) 74 [(0, .ref 53), (1, .int x1), (3, .int v3)] [.int s1, .int s0] σ (fn_X7_bitsNow_b74 n x1 σ k4 v3 s0 s1) := by
  unfold fn_X7_bitsNow_b74
  refine ev_ior (pc := 74) dX7_bitsNow_74 ?_
  refine ev_istore_n (pc := 75) (i := 2) (lv' := [(2, .int (s0 ||| s1)), (0, .ref 53), (1, .int x1), (3, .int v3)]) dX7_bitsNow_75 rfl (Nat.le_of_ble_eq_true rfl) rfl ?_
  refine ev_iinc (pc := 76) (v := (v3 + 1)) (lv' := [(3, .int (v3 + 1)), (2, .int (s0 ||| s1)), (0, .ref 53), (1, .int x1)]) 3 dX7_bitsNow_76 rfl rfl (Nat.le_of_ble_eq_true rfl) rfl ?_
  refine ev_goto (pc := 79) (tgt := 4) dX7_bitsNow_79 rfl ?_
  refine ev_sub [2, 3, 1, 0] rfl ?_
  exact hk4 (s0 ||| s1) (v3 + 1)
def fn_X7_bitsNow_b59 (n : Nat) (x1 : Int32) (σ : Sg) (k4 : Int32 → Int32 → Option Int32) (v2 : Int32) (v3 : Int32) (s0 : Int32) : Option Int32 :=
  (if s0 = 0 then (fn_X7_bitsNow_b74 n x1 σ k4 v3 v2 0)
  else (fn_X7_bitsNow_b74 n x1 σ k4 v3 v2 (1 <<< (v3 &&& 31))))
set_option maxRecDepth 20000 in
set_option maxHeartbeats 4000000 in
theorem ev_X7_bitsNow_b59 (n : Nat) (x1 : Int32) (σ : Sg) (k4 : Int32 → Int32 → Option Int32) (hk4 : ∀ (v2 : Int32) (v3 : Int32), Ev mX7_bitsNow 0 0 (jI σ) 4 [(0, .ref 53), (1, .int x1), (2, .int v2), (3, .int v3)] [] σ (k4 v2 v3)) (v2 : Int32) (v3 : Int32) (s0 : Int32) : Ev mX7_bitsNow 0 0 (jI σ) 59 [(0, .ref 53), (1, .int x1), (2, .int v2), (3, .int v3)] [.int s0] σ (fn_X7_bitsNow_b59 n x1 σ k4 v2 v3 s0) := by
  unfold fn_X7_bitsNow_b59
  refine ev_istore (pc := 59) (lv' := [(4, .int s0), (0, .ref 53), (1, .int x1), (2, .int v2), (3, .int v3)]) dX7_bitsNow_59 (Nat.le_of_ble_eq_true rfl) rfl ?_
  refine ev_iload_n (pc := 61) (i := 2) 3 dX7_bitsNow_61 rfl rfl ?_
  refine ev_iload (pc := 62) 0 dX7_bitsNow_62 rfl ?_
  refine ev_if_eq (pc := 64) (tgt := 73) dX7_bitsNow_64 rfl ?_ ?_
  · refine ev_iconst (pc := 73) (v := 0) dX7_bitsNow_73 (by decide) ?_
    refine ev_sub [1, 2, 4] rfl ?_
    exact ev_X7_bitsNow_b74 n x1 σ k4 hk4 v3 v2 0
  · refine ev_iconst (pc := 67) (v := 1) dX7_bitsNow_67 (by decide) ?_
    refine ev_iload_n (pc := 68) (i := 3) 4 dX7_bitsNow_68 rfl rfl ?_
    refine ev_ishl (pc := 69) dX7_bitsNow_69 ?_
    refine ev_goto (pc := 70) (tgt := 74) dX7_bitsNow_70 rfl ?_
    refine ev_sub [1, 2, 4] rfl ?_
    exact ev_X7_bitsNow_b74 n x1 σ k4 hk4 v3 v2 (1 <<< (v3 &&& 31))
def fn_X7_bitsNow_b40 (n : Nat) (x1 : Int32) (σ : Sg) (k4 : Int32 → Int32 → Option Int32) (v2 : Int32) (v3 : Int32) : Option Int32 :=
  (fn_X7_bitsNow_b59 n x1 σ k4 v2 v3 0)
set_option maxRecDepth 20000 in
set_option maxHeartbeats 4000000 in
theorem ev_X7_bitsNow_b40 (n : Nat) (x1 : Int32) (σ : Sg) (k4 : Int32 → Int32 → Option Int32) (hk4 : ∀ (v2 : Int32) (v3 : Int32), Ev mX7_bitsNow 0 0 (jI σ) 4 [(0, .ref 53), (1, .int x1), (2, .int v2), (3, .int v3)] [] σ (k4 v2 v3)) (v2 : Int32) (v3 : Int32) : Ev mX7_bitsNow 0 0 (jI σ) 40 [(0, .ref 53), (1, .int x1), (2, .int v2), (3, .int v3)] [] σ (fn_X7_bitsNow_b40 n x1 σ k4 v2 v3) := by
  unfold fn_X7_bitsNow_b40
  refine ev_iconst (pc := 40) (v := 0) dX7_bitsNow_40 (by decide) ?_
  refine ev_goto (pc := 41) (tgt := 59) dX7_bitsNow_41 rfl ?_
  exact ev_X7_bitsNow_b59 n x1 σ k4 hk4 v2 v3 0
def fn_X7_bitsNow_b4 (n : Nat) (x1 : Int32) (σ : Sg)  : Nat → Int32 → Int32 → Option Int32
  | 0 => fun _ _ => none
  | i + 1 => fun v2 v3 =>
  (if (σ 53 7) ≤ v3 then (some v2)
  else (if x1 = 0 then (if ag_ib v3 13 = true then (if (σ 66 v3.toNatClampNeg) = (-1) then (fn_X7_bitsNow_b40 n x1 σ (fn_X7_bitsNow_b4 n x1 σ i) v2 v3)
  else (if ag_ib v3 13 = true then (if (σ 65 v3.toNatClampNeg) = (-1) then (fn_X7_bitsNow_b59 n x1 σ (fn_X7_bitsNow_b4 n x1 σ i) v2 v3 1)
  else (fn_X7_bitsNow_b40 n x1 σ (fn_X7_bitsNow_b4 n x1 σ i) v2 v3)) else none)) else none)
  else (if ag_ib v3 13 = true then (if (σ 65 v3.toNatClampNeg) = (-1) then (fn_X7_bitsNow_b59 n x1 σ (fn_X7_bitsNow_b4 n x1 σ i) v2 v3 0)
  else (fn_X7_bitsNow_b59 n x1 σ (fn_X7_bitsNow_b4 n x1 σ i) v2 v3 1)) else none)))
theorem fn_X7_bitsNow_b4_s (n : Nat) (x1 : Int32) (σ : Sg)  (i : Nat) (v2 : Int32) (v3 : Int32) : fn_X7_bitsNow_b4 n x1 σ (i + 1) v2 v3 =
  (if (σ 53 7) ≤ v3 then (some v2)
  else (if x1 = 0 then (if ag_ib v3 13 = true then (if (σ 66 v3.toNatClampNeg) = (-1) then (fn_X7_bitsNow_b40 n x1 σ (fn_X7_bitsNow_b4 n x1 σ i) v2 v3)
  else (if ag_ib v3 13 = true then (if (σ 65 v3.toNatClampNeg) = (-1) then (fn_X7_bitsNow_b59 n x1 σ (fn_X7_bitsNow_b4 n x1 σ i) v2 v3 1)
  else (fn_X7_bitsNow_b40 n x1 σ (fn_X7_bitsNow_b4 n x1 σ i) v2 v3)) else none)) else none)
  else (if ag_ib v3 13 = true then (if (σ 65 v3.toNatClampNeg) = (-1) then (fn_X7_bitsNow_b59 n x1 σ (fn_X7_bitsNow_b4 n x1 σ i) v2 v3 0)
  else (fn_X7_bitsNow_b59 n x1 σ (fn_X7_bitsNow_b4 n x1 σ i) v2 v3 1)) else none))) := rfl
set_option maxRecDepth 20000 in
set_option maxHeartbeats 4000000 in
theorem ev_X7_bitsNow_b4 (n : Nat) (x1 : Int32) (σ : Sg)  : ∀ (i : Nat) (v2 : Int32) (v3 : Int32), Ev mX7_bitsNow 0 0 (jI σ) 4 [(0, .ref 53), (1, .int x1), (2, .int v2), (3, .int v3)] [] σ (fn_X7_bitsNow_b4 n x1 σ i v2 v3) := by
  intro i
  induction i with
  | zero =>
    intro v2 v3
    exact ev_none
  | succ i ih =>
    intro v2 v3
    rw [fn_X7_bitsNow_b4_s]
    refine ev_iload_n (pc := 4) (i := 3) 3 dX7_bitsNow_4 rfl rfl ?_
    refine ev_aload_n (pc := 5) (i := 0) 0 dX7_bitsNow_5 rfl rfl ?_
    refine ev_getI (pc := 6) 7 ag_C7 (rfl) (by decide) (Nat.le_of_ble_eq_true rfl) rfl rfl ag_fl_X7_120 dX7_bitsNow_6 ?_
    refine ev_icmp_ge (pc := 9) (tgt := 82) dX7_bitsNow_9 rfl ?_ ?_
    · refine ev_iload_n (pc := 82) (i := 2) 2 dX7_bitsNow_82 rfl rfl ?_
      exact ev_irI rfl dX7_bitsNow_83
    · refine ev_iload_n (pc := 12) (i := 1) 1 dX7_bitsNow_12 rfl rfl ?_
      refine ev_if_ne (pc := 13) (tgt := 44) dX7_bitsNow_13 rfl ?_ ?_
      · refine ev_aload_n (pc := 16) (i := 0) 0 dX7_bitsNow_16 rfl rfl ?_
        refine ev_getR (pc := 17) (t := 66) 21 ag_C7 (rfl) (by decide) (Nat.le_of_ble_eq_true rfl) rfl rfl ag_fl_X7_46 dX7_bitsNow_17 ?_
        refine ev_iload_n (pc := 20) (i := 3) 3 dX7_bitsNow_20 rfl rfl ?_
        refine ev_iald (pc := 21) (rfl) (by decide) dX7_bitsNow_21 ?_
        refine ev_iconst (pc := 22) (v := (-1)) dX7_bitsNow_22 (by decide) ?_
        refine ev_icmp_eq (pc := 23) (tgt := 40) dX7_bitsNow_23 rfl ?_ ?_
        · exact ev_X7_bitsNow_b40 n x1 σ (fn_X7_bitsNow_b4 n x1 σ i) ih v2 v3
        · refine ev_aload_n (pc := 26) (i := 0) 0 dX7_bitsNow_26 rfl rfl ?_
          refine ev_getR (pc := 27) (t := 65) 20 ag_C7 (rfl) (by decide) (Nat.le_of_ble_eq_true rfl) rfl rfl ag_fl_X7_43 dX7_bitsNow_27 ?_
          refine ev_iload_n (pc := 30) (i := 3) 3 dX7_bitsNow_30 rfl rfl ?_
          refine ev_iald (pc := 31) (rfl) (by decide) dX7_bitsNow_31 ?_
          refine ev_iconst (pc := 32) (v := (-1)) dX7_bitsNow_32 (by decide) ?_
          refine ev_icmp_ne (pc := 33) (tgt := 40) dX7_bitsNow_33 rfl ?_ ?_
          · refine ev_iconst (pc := 36) (v := 1) dX7_bitsNow_36 (by decide) ?_
            refine ev_goto (pc := 37) (tgt := 59) dX7_bitsNow_37 rfl ?_
            exact ev_X7_bitsNow_b59 n x1 σ (fn_X7_bitsNow_b4 n x1 σ i) ih v2 v3 1
          · exact ev_X7_bitsNow_b40 n x1 σ (fn_X7_bitsNow_b4 n x1 σ i) ih v2 v3
      · refine ev_aload_n (pc := 44) (i := 0) 0 dX7_bitsNow_44 rfl rfl ?_
        refine ev_getR (pc := 45) (t := 65) 20 ag_C7 (rfl) (by decide) (Nat.le_of_ble_eq_true rfl) rfl rfl ag_fl_X7_43 dX7_bitsNow_45 ?_
        refine ev_iload_n (pc := 48) (i := 3) 3 dX7_bitsNow_48 rfl rfl ?_
        refine ev_iald (pc := 49) (rfl) (by decide) dX7_bitsNow_49 ?_
        refine ev_iconst (pc := 50) (v := (-1)) dX7_bitsNow_50 (by decide) ?_
        refine ev_icmp_eq (pc := 51) (tgt := 58) dX7_bitsNow_51 rfl ?_ ?_
        · refine ev_iconst (pc := 58) (v := 0) dX7_bitsNow_58 (by decide) ?_
          exact ev_X7_bitsNow_b59 n x1 σ (fn_X7_bitsNow_b4 n x1 σ i) ih v2 v3 0
        · refine ev_iconst (pc := 54) (v := 1) dX7_bitsNow_54 (by decide) ?_
          refine ev_goto (pc := 55) (tgt := 59) dX7_bitsNow_55 rfl ?_
          exact ev_X7_bitsNow_b59 n x1 σ (fn_X7_bitsNow_b4 n x1 σ i) ih v2 v3 1
def fn_X7_bitsNow (n : Nat) (x1 : Int32) (σ : Sg) : Option Int32 :=
  (fn_X7_bitsNow_b4 n x1 σ n 0 0)
set_option maxRecDepth 20000 in
set_option maxHeartbeats 4000000 in
theorem im_X7_bitsNow (n : Nat) (x1 : Int32) (σ : Sg) : Im yX7_bitsNow mX7_bitsNow 0 0 (jI σ) [.ref 53, .int x1] σ (fn_X7_bitsNow n x1 σ) := by
  refine Im.of (by decide +kernel) rfl rfl (Nat.le_of_ble_eq_true rfl) ?_
  show Ev mX7_bitsNow 0 0 (jI σ) 0 [(0, .ref 53), (1, .int x1)] [] σ (fn_X7_bitsNow n x1 σ)
  unfold fn_X7_bitsNow
  refine ev_iconst (pc := 0) (v := 0) dX7_bitsNow_0 (by decide) ?_
  refine ev_istore_n (pc := 1) (i := 2) (lv' := [(2, .int 0), (0, .ref 53), (1, .int x1)]) dX7_bitsNow_1 rfl (Nat.le_of_ble_eq_true rfl) rfl ?_
  refine ev_iconst (pc := 2) (v := 0) dX7_bitsNow_2 (by decide) ?_
  refine ev_istore_n (pc := 3) (i := 3) (lv' := [(3, .int 0), (2, .int 0), (0, .ref 53), (1, .int x1)]) dX7_bitsNow_3 rfl (Nat.le_of_ble_eq_true rfl) rfl ?_
  refine ev_sub [2, 3, 1, 0] rfl ?_
  exact ev_X7_bitsNow_b4 n x1 σ n 0 0
-- X7_waitsOf
def mX7_waitsOf : Md := (RX7, cX7_waitsOf, 3, some .int, none)
theorem mv_X7_waitsOf : ag_Mv yX7_waitsOf mX7_waitsOf 2 := ⟨ag_co_X7_waitsOf, ag_im_X7_waitsOf, ag_se_X7_waitsOf, ag_ini_X7, by decide +kernel⟩
theorem dX7_waitsOf_0 : decode mX7_waitsOf.2.1 0 = .ok (.aload_n 0, 1) := by decide +kernel
theorem dX7_waitsOf_1 : decode mX7_waitsOf.2.1 1 = .ok (.iload_n 1, 1) := by decide +kernel
theorem dX7_waitsOf_2 : decode mX7_waitsOf.2.1 2 = .ok (.invokevirtual 179, 3) := by decide +kernel
theorem dX7_waitsOf_5 : decode mX7_waitsOf.2.1 5 = .ok (.aload_n 0, 1) := by decide +kernel
theorem dX7_waitsOf_6 : decode mX7_waitsOf.2.1 6 = .ok (.iload_n 2, 1) := by decide +kernel
theorem dX7_waitsOf_7 : decode mX7_waitsOf.2.1 7 = .ok (.invokevirtual 189, 3) := by decide +kernel
theorem dX7_waitsOf_10 : decode mX7_waitsOf.2.1 10 = .ok (.ireturn, 1) := by decide +kernel
def fn_X7_waitsOf (n : Nat) (x1 : Int32) (x2 : Int32) (σ : Sg) : Option (Int32 × Sg) :=
  (Option.bind (fn_X7_runsTo n x1 σ) fun q310 =>
  (Option.bind (fn_X7_bitsNow n x2 q310) fun q311 =>
  (some (q311, q310))))
set_option maxRecDepth 20000 in
set_option maxHeartbeats 4000000 in
theorem im_X7_waitsOf (n : Nat) (x1 : Int32) (x2 : Int32) (σ : Sg) : Im yX7_waitsOf mX7_waitsOf 6 137 jW [.ref 53, .int x1, .int x2] σ (fn_X7_waitsOf n x1 x2 σ) := by
  refine Im.of (by decide +kernel) rfl rfl (Nat.le_of_ble_eq_true rfl) ?_
  show Ev mX7_waitsOf 6 137 jW 0 [(0, .ref 53), (1, .int x1), (2, .int x2)] [] σ (fn_X7_waitsOf n x1 x2 σ)
  unfold fn_X7_waitsOf
  refine ev_aload_n (pc := 0) (i := 0) 0 dX7_waitsOf_0 rfl rfl ?_
  refine ev_iload_n (pc := 1) (i := 1) 1 dX7_waitsOf_1 rfl rfl ?_
  refine ev_vV (pc := 2) (as := [.int x1]) (rest := []) ⟨7, 179, 37, TX7, tyX7, ag_C7, ⟨(rfl), (by decide)⟩, mv_X7_runsTo, ag_ml_X7_179, rfl, (Nat.le_of_ble_eq_true rfl), ⟨(Nat.le_of_ble_eq_true rfl), (Nat.le_of_ble_eq_true rfl)⟩, dX7_waitsOf_2⟩ (im_X7_runsTo n x1 σ) (fun q310 => ?_)
  refine ev_aload_n (pc := 5) (i := 0) 0 dX7_waitsOf_5 rfl rfl ?_
  refine ev_iload_n (pc := 6) (i := 2) 2 dX7_waitsOf_6 rfl rfl ?_
  refine ev_vI (pc := 7) (as := [.int x2]) (rest := []) ⟨7, 189, 37, TX7, tyX7, ag_C7, ⟨(rfl), (by decide)⟩, mv_X7_bitsNow, ag_ml_X7_189, rfl, (Nat.le_of_ble_eq_true rfl), ⟨(Nat.le_of_ble_eq_true rfl), (Nat.le_of_ble_eq_true rfl)⟩, dX7_waitsOf_7⟩ (im_X7_bitsNow n x2 q310) (fun q311 => ?_)
  exact ev_irW rfl dX7_waitsOf_10
-- X7_waits
def mX7_waits : Md := (RX7, cX7_waits, 3, some .int, none)
theorem mv_X7_waits : ag_Mv yX7_waits mX7_waits 2 := ⟨ag_co_X7_waits, ag_im_X7_waits, ag_se_X7_waits, ag_ini_X7, by decide +kernel⟩
theorem dX7_waits_0 : decode mX7_waits.2.1 0 = .ok (.iload_n 1, 1) := by decide +kernel
theorem dX7_waits_1 : decode mX7_waits.2.1 1 = .ok (.invokestatic 114, 3) := by decide +kernel
theorem dX7_waits_4 : decode mX7_waits.2.1 4 = .ok (.ifCond .eq 21, 3) := by decide +kernel
theorem dX7_waits_7 : decode mX7_waits.2.1 7 = .ok (.iload_n 2, 1) := by decide +kernel
theorem dX7_waits_8 : decode mX7_waits.2.1 8 = .ok (.iconst 0, 1) := by decide +kernel
theorem dX7_waits_9 : decode mX7_waits.2.1 9 = .ok (.iconst 1, 1) := by decide +kernel
theorem dX7_waits_10 : decode mX7_waits.2.1 10 = .ok (.invokestatic 85, 3) := by decide +kernel
theorem dX7_waits_13 : decode mX7_waits.2.1 13 = .ok (.ifCond .eq 12, 3) := by decide +kernel
theorem dX7_waits_16 : decode mX7_waits.2.1 16 = .ok (.aload_n 0, 1) := by decide +kernel
theorem dX7_waits_17 : decode mX7_waits.2.1 17 = .ok (.iload_n 1, 1) := by decide +kernel
theorem dX7_waits_18 : decode mX7_waits.2.1 18 = .ok (.iload_n 2, 1) := by decide +kernel
theorem dX7_waits_19 : decode mX7_waits.2.1 19 = .ok (.invokevirtual 192, 3) := by decide +kernel
theorem dX7_waits_22 : decode mX7_waits.2.1 22 = .ok (.goto 5, 3) := by decide +kernel
theorem dX7_waits_25 : decode mX7_waits.2.1 25 = .ok (.bipush (-2), 2) := by decide +kernel
theorem dX7_waits_27 : decode mX7_waits.2.1 27 = .ok (.ireturn, 1) := by decide +kernel
def fn_X7_waits (n : Nat) (x1 : Int32) (x2 : Int32) (σ : Sg) : Option (Int32 × Sg) :=
  (Option.bind (fn_X7_isYear x1 σ) fun q312 =>
  (if q312 = 0 then (some ((-2), σ))
  else (Option.bind (fn_X7_in x2 0 1 σ) fun q313 =>
  (if q313 = 0 then (some ((-2), σ))
  else (Option.bind (fn_X7_waitsOf n x1 x2 σ) fun q314 =>
  (some (q314.1, q314.2)))))))
set_option maxRecDepth 20000 in
set_option maxHeartbeats 4000000 in
theorem im_X7_waits (n : Nat) (x1 : Int32) (x2 : Int32) (σ : Sg) : Im yX7_waits mX7_waits 7 159 jW [.ref 53, .int x1, .int x2] σ (fn_X7_waits n x1 x2 σ) := by
  refine Im.of (by decide +kernel) rfl rfl (Nat.le_of_ble_eq_true rfl) ?_
  show Ev mX7_waits 7 159 jW 0 [(0, .ref 53), (1, .int x1), (2, .int x2)] [] σ (fn_X7_waits n x1 x2 σ)
  unfold fn_X7_waits
  refine ev_iload_n (pc := 0) (i := 1) 1 dX7_waits_0 rfl rfl ?_
  refine ev_sI (pc := 1) (as := [.int x1]) (rest := []) ⟨114, ms_X7_isYear, ag_ml_X7_114, rfl, (Nat.le_of_ble_eq_true rfl), ⟨(Nat.le_of_ble_eq_true rfl), (Nat.le_of_ble_eq_true rfl)⟩, dX7_waits_1⟩ (im_X7_isYear x1 σ) (fun q312 => ?_)
  refine ev_if_eq (pc := 4) (tgt := 25) dX7_waits_4 rfl ?_ ?_
  · refine ev_bipush (pc := 25) (v := (-2)) dX7_waits_25 (by decide) ?_
    exact ev_irW rfl dX7_waits_27
  · refine ev_iload_n (pc := 7) (i := 2) 2 dX7_waits_7 rfl rfl ?_
    refine ev_iconst (pc := 8) (v := 0) dX7_waits_8 (by decide) ?_
    refine ev_iconst (pc := 9) (v := 1) dX7_waits_9 (by decide) ?_
    refine ev_sI (pc := 10) (as := [.int x2, .int 0, .int 1]) (rest := []) ⟨85, ms_X7_in, ag_ml_X7_85, rfl, (Nat.le_of_ble_eq_true rfl), ⟨(Nat.le_of_ble_eq_true rfl), (Nat.le_of_ble_eq_true rfl)⟩, dX7_waits_10⟩ (im_X7_in x2 0 1 σ) (fun q313 => ?_)
    refine ev_if_eq (pc := 13) (tgt := 25) dX7_waits_13 rfl ?_ ?_
    · refine ev_bipush (pc := 25) (v := (-2)) dX7_waits_25 (by decide) ?_
      exact ev_irW rfl dX7_waits_27
    · refine ev_aload_n (pc := 16) (i := 0) 0 dX7_waits_16 rfl rfl ?_
      refine ev_iload_n (pc := 17) (i := 1) 1 dX7_waits_17 rfl rfl ?_
      refine ev_iload_n (pc := 18) (i := 2) 2 dX7_waits_18 rfl rfl ?_
      refine ev_vW (pc := 19) (as := [.int x1, .int x2]) (rest := []) ⟨7, 192, 37, TX7, tyX7, ag_C7, ⟨(rfl), (by decide)⟩, mv_X7_waitsOf, ag_ml_X7_192, rfl, (Nat.le_of_ble_eq_true rfl), ⟨(Nat.le_of_ble_eq_true rfl), (Nat.le_of_ble_eq_true rfl)⟩, dX7_waits_19⟩ (im_X7_waitsOf n x1 x2 σ) (fun q314 => ?_)
      refine ev_goto (pc := 22) (tgt := 27) dX7_waits_22 rfl ?_
      exact ev_irW rfl dX7_waits_27
-- X7_knownOf
def mX7_knownOf : Md := (RX7, cX7_knownOf, 3, some .int, none)
theorem mv_X7_knownOf : ag_Mv yX7_knownOf mX7_knownOf 2 := ⟨ag_co_X7_knownOf, ag_im_X7_knownOf, ag_se_X7_knownOf, ag_ini_X7, by decide +kernel⟩
theorem dX7_knownOf_0 : decode mX7_knownOf.2.1 0 = .ok (.aload_n 0, 1) := by decide +kernel
theorem dX7_knownOf_1 : decode mX7_knownOf.2.1 1 = .ok (.iload_n 1, 1) := by decide +kernel
theorem dX7_knownOf_2 : decode mX7_knownOf.2.1 2 = .ok (.invokevirtual 179, 3) := by decide +kernel
theorem dX7_knownOf_5 : decode mX7_knownOf.2.1 5 = .ok (.aload_n 0, 1) := by decide +kernel
theorem dX7_knownOf_6 : decode mX7_knownOf.2.1 6 = .ok (.getfield 40, 3) := by decide +kernel
theorem dX7_knownOf_9 : decode mX7_knownOf.2.1 9 = .ok (.iload_n 2, 1) := by decide +kernel
theorem dX7_knownOf_10 : decode mX7_knownOf.2.1 10 = .ok (.iaload, 1) := by decide +kernel
theorem dX7_knownOf_11 : decode mX7_knownOf.2.1 11 = .ok (.ireturn, 1) := by decide +kernel
def fn_X7_knownOf (n : Nat) (x1 : Int32) (x2 : Int32) (σ : Sg) : Option (Int32 × Sg) :=
  (Option.bind (fn_X7_runsTo n x1 σ) fun q315 =>
  (if ag_ib x2 10 = true then (some ((q315 64 x2.toNatClampNeg), q315)) else none))
set_option maxRecDepth 20000 in
set_option maxHeartbeats 4000000 in
theorem im_X7_knownOf (n : Nat) (x1 : Int32) (x2 : Int32) (σ : Sg) : Im yX7_knownOf mX7_knownOf 6 137 jW [.ref 53, .int x1, .int x2] σ (fn_X7_knownOf n x1 x2 σ) := by
  refine Im.of (by decide +kernel) rfl rfl (Nat.le_of_ble_eq_true rfl) ?_
  show Ev mX7_knownOf 6 137 jW 0 [(0, .ref 53), (1, .int x1), (2, .int x2)] [] σ (fn_X7_knownOf n x1 x2 σ)
  unfold fn_X7_knownOf
  refine ev_aload_n (pc := 0) (i := 0) 0 dX7_knownOf_0 rfl rfl ?_
  refine ev_iload_n (pc := 1) (i := 1) 1 dX7_knownOf_1 rfl rfl ?_
  refine ev_vV (pc := 2) (as := [.int x1]) (rest := []) ⟨7, 179, 37, TX7, tyX7, ag_C7, ⟨(rfl), (by decide)⟩, mv_X7_runsTo, ag_ml_X7_179, rfl, (Nat.le_of_ble_eq_true rfl), ⟨(Nat.le_of_ble_eq_true rfl), (Nat.le_of_ble_eq_true rfl)⟩, dX7_knownOf_2⟩ (im_X7_runsTo n x1 σ) (fun q315 => ?_)
  refine ev_aload_n (pc := 5) (i := 0) 0 dX7_knownOf_5 rfl rfl ?_
  refine ev_getR (pc := 6) (t := 64) 19 ag_C7 (rfl) (by decide) (Nat.le_of_ble_eq_true rfl) rfl rfl ag_fl_X7_40 dX7_knownOf_6 ?_
  refine ev_iload_n (pc := 9) (i := 2) 2 dX7_knownOf_9 rfl rfl ?_
  refine ev_iald (pc := 10) (rfl) (by decide) dX7_knownOf_10 ?_
  exact ev_irW rfl dX7_knownOf_11
-- X7_known
def mX7_known : Md := (RX7, cX7_known, 3, some .int, none)
theorem mv_X7_known : ag_Mv yX7_known mX7_known 2 := ⟨ag_co_X7_known, ag_im_X7_known, ag_se_X7_known, ag_ini_X7, by decide +kernel⟩
theorem dX7_known_0 : decode mX7_known.2.1 0 = .ok (.iload_n 1, 1) := by decide +kernel
theorem dX7_known_1 : decode mX7_known.2.1 1 = .ok (.invokestatic 114, 3) := by decide +kernel
theorem dX7_known_4 : decode mX7_known.2.1 4 = .ok (.ifCond .eq 20, 3) := by decide +kernel
theorem dX7_known_7 : decode mX7_known.2.1 7 = .ok (.aload_n 0, 1) := by decide +kernel
theorem dX7_known_8 : decode mX7_known.2.1 8 = .ok (.iload_n 2, 1) := by decide +kernel
theorem dX7_known_9 : decode mX7_known.2.1 9 = .ok (.invokevirtual 107, 3) := by decide +kernel
theorem dX7_known_12 : decode mX7_known.2.1 12 = .ok (.ifCond .eq 12, 3) := by decide +kernel
theorem dX7_known_15 : decode mX7_known.2.1 15 = .ok (.aload_n 0, 1) := by decide +kernel
theorem dX7_known_16 : decode mX7_known.2.1 16 = .ok (.iload_n 1, 1) := by decide +kernel
theorem dX7_known_17 : decode mX7_known.2.1 17 = .ok (.iload_n 2, 1) := by decide +kernel
theorem dX7_known_18 : decode mX7_known.2.1 18 = .ok (.invokevirtual 195, 3) := by decide +kernel
theorem dX7_known_21 : decode mX7_known.2.1 21 = .ok (.goto 5, 3) := by decide +kernel
theorem dX7_known_24 : decode mX7_known.2.1 24 = .ok (.bipush (-2), 2) := by decide +kernel
theorem dX7_known_26 : decode mX7_known.2.1 26 = .ok (.ireturn, 1) := by decide +kernel
def fn_X7_known (n : Nat) (x1 : Int32) (x2 : Int32) (σ : Sg) : Option (Int32 × Sg) :=
  (Option.bind (fn_X7_isYear x1 σ) fun q316 =>
  (if q316 = 0 then (some ((-2), σ))
  else (Option.bind (fn_X7_isPerson n x2 σ) fun q317 =>
  (if q317.1 = 0 then (some ((-2), q317.2))
  else (Option.bind (fn_X7_knownOf n x1 x2 q317.2) fun q318 =>
  (some (q318.1, q318.2)))))))
set_option maxRecDepth 20000 in
set_option maxHeartbeats 4000000 in
theorem im_X7_known (n : Nat) (x1 : Int32) (x2 : Int32) (σ : Sg) : Im yX7_known mX7_known 7 159 jW [.ref 53, .int x1, .int x2] σ (fn_X7_known n x1 x2 σ) := by
  refine Im.of (by decide +kernel) rfl rfl (Nat.le_of_ble_eq_true rfl) ?_
  show Ev mX7_known 7 159 jW 0 [(0, .ref 53), (1, .int x1), (2, .int x2)] [] σ (fn_X7_known n x1 x2 σ)
  unfold fn_X7_known
  refine ev_iload_n (pc := 0) (i := 1) 1 dX7_known_0 rfl rfl ?_
  refine ev_sI (pc := 1) (as := [.int x1]) (rest := []) ⟨114, ms_X7_isYear, ag_ml_X7_114, rfl, (Nat.le_of_ble_eq_true rfl), ⟨(Nat.le_of_ble_eq_true rfl), (Nat.le_of_ble_eq_true rfl)⟩, dX7_known_1⟩ (im_X7_isYear x1 σ) (fun q316 => ?_)
  refine ev_if_eq (pc := 4) (tgt := 24) dX7_known_4 rfl ?_ ?_
  · refine ev_bipush (pc := 24) (v := (-2)) dX7_known_24 (by decide) ?_
    exact ev_irW rfl dX7_known_26
  · refine ev_aload_n (pc := 7) (i := 0) 0 dX7_known_7 rfl rfl ?_
    refine ev_iload_n (pc := 8) (i := 2) 2 dX7_known_8 rfl rfl ?_
    refine ev_vW (pc := 9) (as := [.int x2]) (rest := []) ⟨7, 107, 37, TX7, tyX7, ag_C7, ⟨(rfl), (by decide)⟩, mv_X7_isPerson, ag_ml_X7_107, rfl, (Nat.le_of_ble_eq_true rfl), ⟨(Nat.le_of_ble_eq_true rfl), (Nat.le_of_ble_eq_true rfl)⟩, dX7_known_9⟩ (im_X7_isPerson n x2 σ) (fun q317 => ?_)
    refine ev_if_eq (pc := 12) (tgt := 24) dX7_known_12 rfl ?_ ?_
    · refine ev_bipush (pc := 24) (v := (-2)) dX7_known_24 (by decide) ?_
      exact ev_irW rfl dX7_known_26
    · refine ev_aload_n (pc := 15) (i := 0) 0 dX7_known_15 rfl rfl ?_
      refine ev_iload_n (pc := 16) (i := 1) 1 dX7_known_16 rfl rfl ?_
      refine ev_iload_n (pc := 17) (i := 2) 2 dX7_known_17 rfl rfl ?_
      refine ev_vW (pc := 18) (as := [.int x1, .int x2]) (rest := []) ⟨7, 195, 37, TX7, tyX7, ag_C7, ⟨(rfl), (by decide)⟩, mv_X7_knownOf, ag_ml_X7_195, rfl, (Nat.le_of_ble_eq_true rfl), ⟨(Nat.le_of_ble_eq_true rfl), (Nat.le_of_ble_eq_true rfl)⟩, dX7_known_18⟩ (im_X7_knownOf n x1 x2 q317.2) (fun q318 => ?_)
      refine ev_goto (pc := 21) (tgt := 26) dX7_known_21 rfl ?_
      exact ev_irW rfl dX7_known_26
-- X7_learnsIn
def mX7_learnsIn : Md := (RX7, cX7_learnsIn, 8, some .int, none)
theorem mv_X7_learnsIn : ag_Mv yX7_learnsIn mX7_learnsIn 3 := ⟨ag_co_X7_learnsIn, ag_im_X7_learnsIn, ag_se_X7_learnsIn, ag_ini_X7, by decide +kernel⟩
theorem dX7_learnsIn_0 : decode mX7_learnsIn.2.1 0 = .ok (.aload_n 0, 1) := by decide +kernel
theorem dX7_learnsIn_1 : decode mX7_learnsIn.2.1 1 = .ok (.sipush 199, 3) := by decide +kernel
theorem dX7_learnsIn_4 : decode mX7_learnsIn.2.1 4 = .ok (.iload_n 3, 1) := by decide +kernel
theorem dX7_learnsIn_5 : decode mX7_learnsIn.2.1 5 = .ok (.invokevirtual 173, 3) := by decide +kernel
theorem dX7_learnsIn_8 : decode mX7_learnsIn.2.1 8 = .ok (.aload_n 0, 1) := by decide +kernel
theorem dX7_learnsIn_9 : decode mX7_learnsIn.2.1 9 = .ok (.getfield 40, 3) := by decide +kernel
theorem dX7_learnsIn_12 : decode mX7_learnsIn.2.1 12 = .ok (.iload_n 1, 1) := by decide +kernel
theorem dX7_learnsIn_13 : decode mX7_learnsIn.2.1 13 = .ok (.iaload, 1) := by decide +kernel
theorem dX7_learnsIn_14 : decode mX7_learnsIn.2.1 14 = .ok (.iload_n 2, 1) := by decide +kernel
theorem dX7_learnsIn_15 : decode mX7_learnsIn.2.1 15 = .ok (.invokestatic 155, 3) := by decide +kernel
theorem dX7_learnsIn_18 : decode mX7_learnsIn.2.1 18 = .ok (.ifCond .ne 5, 3) := by decide +kernel
theorem dX7_learnsIn_21 : decode mX7_learnsIn.2.1 21 = .ok (.iconst (-1), 1) := by decide +kernel
theorem dX7_learnsIn_22 : decode mX7_learnsIn.2.1 22 = .ok (.ireturn, 1) := by decide +kernel
theorem dX7_learnsIn_23 : decode mX7_learnsIn.2.1 23 = .ok (.iconst 0, 1) := by decide +kernel
theorem dX7_learnsIn_24 : decode mX7_learnsIn.2.1 24 = .ok (.istore 4, 2) := by decide +kernel
theorem dX7_learnsIn_26 : decode mX7_learnsIn.2.1 26 = .ok (.sipush 199, 3) := by decide +kernel
theorem dX7_learnsIn_29 : decode mX7_learnsIn.2.1 29 = .ok (.istore 5, 2) := by decide +kernel
theorem dX7_learnsIn_31 : decode mX7_learnsIn.2.1 31 = .ok (.iload 4, 2) := by decide +kernel
theorem dX7_learnsIn_33 : decode mX7_learnsIn.2.1 33 = .ok (.iload 5, 2) := by decide +kernel
theorem dX7_learnsIn_35 : decode mX7_learnsIn.2.1 35 = .ok (.if_icmp .ge 64, 3) := by decide +kernel
theorem dX7_learnsIn_38 : decode mX7_learnsIn.2.1 38 = .ok (.iload 4, 2) := by decide +kernel
theorem dX7_learnsIn_40 : decode mX7_learnsIn.2.1 40 = .ok (.iload 5, 2) := by decide +kernel
theorem dX7_learnsIn_42 : decode mX7_learnsIn.2.1 42 = .ok (.iadd, 1) := by decide +kernel
theorem dX7_learnsIn_43 : decode mX7_learnsIn.2.1 43 = .ok (.iconst 2, 1) := by decide +kernel
theorem dX7_learnsIn_44 : decode mX7_learnsIn.2.1 44 = .ok (.idiv, 1) := by decide +kernel
theorem dX7_learnsIn_45 : decode mX7_learnsIn.2.1 45 = .ok (.istore 6, 2) := by decide +kernel
theorem dX7_learnsIn_47 : decode mX7_learnsIn.2.1 47 = .ok (.aload_n 0, 1) := by decide +kernel
theorem dX7_learnsIn_48 : decode mX7_learnsIn.2.1 48 = .ok (.iload 6, 2) := by decide +kernel
theorem dX7_learnsIn_50 : decode mX7_learnsIn.2.1 50 = .ok (.iload_n 3, 1) := by decide +kernel
theorem dX7_learnsIn_51 : decode mX7_learnsIn.2.1 51 = .ok (.invokevirtual 173, 3) := by decide +kernel
theorem dX7_learnsIn_54 : decode mX7_learnsIn.2.1 54 = .ok (.aload_n 0, 1) := by decide +kernel
theorem dX7_learnsIn_55 : decode mX7_learnsIn.2.1 55 = .ok (.getfield 40, 3) := by decide +kernel
theorem dX7_learnsIn_58 : decode mX7_learnsIn.2.1 58 = .ok (.iload_n 1, 1) := by decide +kernel
theorem dX7_learnsIn_59 : decode mX7_learnsIn.2.1 59 = .ok (.iaload, 1) := by decide +kernel
theorem dX7_learnsIn_60 : decode mX7_learnsIn.2.1 60 = .ok (.iload_n 2, 1) := by decide +kernel
theorem dX7_learnsIn_61 : decode mX7_learnsIn.2.1 61 = .ok (.invokestatic 155, 3) := by decide +kernel
theorem dX7_learnsIn_64 : decode mX7_learnsIn.2.1 64 = .ok (.istore 7, 2) := by decide +kernel
theorem dX7_learnsIn_66 : decode mX7_learnsIn.2.1 66 = .ok (.iload 7, 2) := by decide +kernel
theorem dX7_learnsIn_68 : decode mX7_learnsIn.2.1 68 = .ok (.ifCond .eq 8, 3) := by decide +kernel
theorem dX7_learnsIn_71 : decode mX7_learnsIn.2.1 71 = .ok (.iload 6, 2) := by decide +kernel
theorem dX7_learnsIn_73 : decode mX7_learnsIn.2.1 73 = .ok (.goto 5, 3) := by decide +kernel
theorem dX7_learnsIn_76 : decode mX7_learnsIn.2.1 76 = .ok (.iload 5, 2) := by decide +kernel
theorem dX7_learnsIn_78 : decode mX7_learnsIn.2.1 78 = .ok (.istore 5, 2) := by decide +kernel
theorem dX7_learnsIn_80 : decode mX7_learnsIn.2.1 80 = .ok (.iload 7, 2) := by decide +kernel
theorem dX7_learnsIn_82 : decode mX7_learnsIn.2.1 82 = .ok (.ifCond .eq 8, 3) := by decide +kernel
theorem dX7_learnsIn_85 : decode mX7_learnsIn.2.1 85 = .ok (.iload 4, 2) := by decide +kernel
theorem dX7_learnsIn_87 : decode mX7_learnsIn.2.1 87 = .ok (.goto 7, 3) := by decide +kernel
theorem dX7_learnsIn_90 : decode mX7_learnsIn.2.1 90 = .ok (.iload 6, 2) := by decide +kernel
theorem dX7_learnsIn_92 : decode mX7_learnsIn.2.1 92 = .ok (.iconst 1, 1) := by decide +kernel
theorem dX7_learnsIn_93 : decode mX7_learnsIn.2.1 93 = .ok (.iadd, 1) := by decide +kernel
theorem dX7_learnsIn_94 : decode mX7_learnsIn.2.1 94 = .ok (.istore 4, 2) := by decide +kernel
theorem dX7_learnsIn_96 : decode mX7_learnsIn.2.1 96 = .ok (.goto (-65), 3) := by decide +kernel
theorem dX7_learnsIn_99 : decode mX7_learnsIn.2.1 99 = .ok (.iload 4, 2) := by decide +kernel
theorem dX7_learnsIn_101 : decode mX7_learnsIn.2.1 101 = .ok (.ireturn, 1) := by decide +kernel
def fn_X7_learnsIn_b94 (n : Nat) (x1 : Int32) (x2 : Int32) (x3 : Int32) (k31 : Int32 → Int32 → Sg → Option (Int32 × Sg)) (v5 : Int32) (s0 : Int32) (σ : Sg) : Option (Int32 × Sg) :=
  (k31 s0 v5 σ)
set_option maxRecDepth 20000 in
set_option maxHeartbeats 4000000 in
theorem ev_X7_learnsIn_b94 (n : Nat) (x1 : Int32) (x2 : Int32) (x3 : Int32) (k31 : Int32 → Int32 → Sg → Option (Int32 × Sg)) (hk31 : ∀ (v4 : Int32) (v5 : Int32) (σ : Sg), Ev mX7_learnsIn 5 116 jW 31 [(0, .ref 53), (1, .int x1), (2, .int x2), (3, .int x3), (4, .int v4), (5, .int v5)] [] σ (k31 v4 v5 σ)) (v5 : Int32) (s0 : Int32) (σ : Sg) : Ev mX7_learnsIn 5 116 jW 94 [(0, .ref 53), (1, .int x1), (2, .int x2), (3, .int x3), (5, .int v5)] [.int s0] σ (fn_X7_learnsIn_b94 n x1 x2 x3 k31 v5 s0 σ) := by
  unfold fn_X7_learnsIn_b94
  refine ev_istore (pc := 94) (lv' := [(4, .int s0), (0, .ref 53), (1, .int x1), (2, .int x2), (3, .int x3), (5, .int v5)]) dX7_learnsIn_94 (Nat.le_of_ble_eq_true rfl) rfl ?_
  refine ev_goto (pc := 96) (tgt := 31) dX7_learnsIn_96 rfl ?_
  refine ev_sub [1, 2, 3, 4, 0, 5] rfl ?_
  exact hk31 s0 v5 σ
def fn_X7_learnsIn_b78 (n : Nat) (x1 : Int32) (x2 : Int32) (x3 : Int32) (k31 : Int32 → Int32 → Sg → Option (Int32 × Sg)) (v4 : Int32) (v6 : Int32) (v7 : Int32) (s0 : Int32) (σ : Sg) : Option (Int32 × Sg) :=
  (if v7 = 0 then (fn_X7_learnsIn_b94 n x1 x2 x3 k31 s0 (v6 + 1) σ)
  else (fn_X7_learnsIn_b94 n x1 x2 x3 k31 s0 v4 σ))
set_option maxRecDepth 20000 in
set_option maxHeartbeats 4000000 in
theorem ev_X7_learnsIn_b78 (n : Nat) (x1 : Int32) (x2 : Int32) (x3 : Int32) (k31 : Int32 → Int32 → Sg → Option (Int32 × Sg)) (hk31 : ∀ (v4 : Int32) (v5 : Int32) (σ : Sg), Ev mX7_learnsIn 5 116 jW 31 [(0, .ref 53), (1, .int x1), (2, .int x2), (3, .int x3), (4, .int v4), (5, .int v5)] [] σ (k31 v4 v5 σ)) (v4 : Int32) (v6 : Int32) (v7 : Int32) (s0 : Int32) (σ : Sg) : Ev mX7_learnsIn 5 116 jW 78 [(0, .ref 53), (1, .int x1), (2, .int x2), (3, .int x3), (4, .int v4), (6, .int v6), (7, .int v7)] [.int s0] σ (fn_X7_learnsIn_b78 n x1 x2 x3 k31 v4 v6 v7 s0 σ) := by
  unfold fn_X7_learnsIn_b78
  refine ev_istore (pc := 78) (lv' := [(5, .int s0), (0, .ref 53), (1, .int x1), (2, .int x2), (3, .int x3), (4, .int v4), (6, .int v6), (7, .int v7)]) dX7_learnsIn_78 (Nat.le_of_ble_eq_true rfl) rfl ?_
  refine ev_iload (pc := 80) 7 dX7_learnsIn_80 rfl ?_
  refine ev_if_eq (pc := 82) (tgt := 90) dX7_learnsIn_82 rfl ?_ ?_
  · refine ev_iload (pc := 90) 6 dX7_learnsIn_90 rfl ?_
    refine ev_iconst (pc := 92) (v := 1) dX7_learnsIn_92 (by decide) ?_
    refine ev_iadd (pc := 93) dX7_learnsIn_93 ?_
    refine ev_sub [1, 2, 3, 4, 0] rfl ?_
    exact ev_X7_learnsIn_b94 n x1 x2 x3 k31 hk31 s0 (v6 + 1) σ
  · refine ev_iload (pc := 85) 5 dX7_learnsIn_85 rfl ?_
    refine ev_goto (pc := 87) (tgt := 94) dX7_learnsIn_87 rfl ?_
    refine ev_sub [1, 2, 3, 4, 0] rfl ?_
    exact ev_X7_learnsIn_b94 n x1 x2 x3 k31 hk31 s0 v4 σ
def fn_X7_learnsIn_b31 (n : Nat) (x1 : Int32) (x2 : Int32) (x3 : Int32)  : Nat → Int32 → Int32 → Sg → Option (Int32 × Sg)
  | 0 => fun _ _ _ => none
  | i + 1 => fun v4 v5 σ =>
  (if v5 ≤ v4 then (some (v4, σ))
  else (Option.bind (fn_X7_runs n ((v4 + v5) / 2) x3 σ) fun q319 =>
  (if ag_ib x1 10 = true then (Option.bind (fn_X7_isIn (q319 64 x1.toNatClampNeg) x2 q319) fun q320 =>
  (if q320 = 0 then (fn_X7_learnsIn_b78 n x1 x2 x3 (fn_X7_learnsIn_b31 n x1 x2 x3 i) v4 ((v4 + v5) / 2) q320 v5 q319)
  else (fn_X7_learnsIn_b78 n x1 x2 x3 (fn_X7_learnsIn_b31 n x1 x2 x3 i) v4 ((v4 + v5) / 2) q320 ((v4 + v5) / 2) q319))) else none)))
theorem fn_X7_learnsIn_b31_s (n : Nat) (x1 : Int32) (x2 : Int32) (x3 : Int32)  (i : Nat) (v4 : Int32) (v5 : Int32) (σ : Sg) : fn_X7_learnsIn_b31 n x1 x2 x3 (i + 1) v4 v5 σ =
  (if v5 ≤ v4 then (some (v4, σ))
  else (Option.bind (fn_X7_runs n ((v4 + v5) / 2) x3 σ) fun q319 =>
  (if ag_ib x1 10 = true then (Option.bind (fn_X7_isIn (q319 64 x1.toNatClampNeg) x2 q319) fun q320 =>
  (if q320 = 0 then (fn_X7_learnsIn_b78 n x1 x2 x3 (fn_X7_learnsIn_b31 n x1 x2 x3 i) v4 ((v4 + v5) / 2) q320 v5 q319)
  else (fn_X7_learnsIn_b78 n x1 x2 x3 (fn_X7_learnsIn_b31 n x1 x2 x3 i) v4 ((v4 + v5) / 2) q320 ((v4 + v5) / 2) q319))) else none))) := rfl
set_option maxRecDepth 20000 in
set_option maxHeartbeats 4000000 in
theorem ev_X7_learnsIn_b31 (n : Nat) (x1 : Int32) (x2 : Int32) (x3 : Int32)  : ∀ (i : Nat) (v4 : Int32) (v5 : Int32) (σ : Sg), Ev mX7_learnsIn 5 116 jW 31 [(0, .ref 53), (1, .int x1), (2, .int x2), (3, .int x3), (4, .int v4), (5, .int v5)] [] σ (fn_X7_learnsIn_b31 n x1 x2 x3 i v4 v5 σ) := by
  intro i
  induction i with
  | zero =>
    intro v4 v5 σ
    exact ev_none
  | succ i ih =>
    intro v4 v5 σ
    rw [fn_X7_learnsIn_b31_s]
    refine ev_iload (pc := 31) 4 dX7_learnsIn_31 rfl ?_
    refine ev_iload (pc := 33) 5 dX7_learnsIn_33 rfl ?_
    refine ev_icmp_ge (pc := 35) (tgt := 99) dX7_learnsIn_35 rfl ?_ ?_
    · refine ev_iload (pc := 99) 4 dX7_learnsIn_99 rfl ?_
      exact ev_irW rfl dX7_learnsIn_101
    · refine ev_iload (pc := 38) 4 dX7_learnsIn_38 rfl ?_
      refine ev_iload (pc := 40) 5 dX7_learnsIn_40 rfl ?_
      refine ev_iadd (pc := 42) dX7_learnsIn_42 ?_
      refine ev_iconst (pc := 43) (v := 2) dX7_learnsIn_43 (by decide) ?_
      refine ev_idiv (pc := 44) dX7_learnsIn_44 (by decide) ?_
      refine ev_istore (pc := 45) (lv' := [(6, .int ((v4 + v5) / 2)), (0, .ref 53), (1, .int x1), (2, .int x2), (3, .int x3), (4, .int v4), (5, .int v5)]) dX7_learnsIn_45 (Nat.le_of_ble_eq_true rfl) rfl ?_
      refine ev_aload_n (pc := 47) (i := 0) 1 dX7_learnsIn_47 rfl rfl ?_
      refine ev_iload (pc := 48) 0 dX7_learnsIn_48 rfl ?_
      refine ev_iload_n (pc := 50) (i := 3) 4 dX7_learnsIn_50 rfl rfl ?_
      refine ev_vV (pc := 51) (as := [.int ((v4 + v5) / 2), .int x3]) (rest := []) ⟨7, 173, 37, TX7, tyX7, ag_C7, ⟨(rfl), (by decide)⟩, mv_X7_runs, ag_ml_X7_173, rfl, (Nat.le_of_ble_eq_true rfl), ⟨(Nat.le_of_ble_eq_true rfl), (Nat.le_of_ble_eq_true rfl)⟩, dX7_learnsIn_51⟩ (im_X7_runs n ((v4 + v5) / 2) x3 σ) (fun q319 => ?_)
      refine ev_aload_n (pc := 54) (i := 0) 1 dX7_learnsIn_54 rfl rfl ?_
      refine ev_getR (pc := 55) (t := 64) 19 ag_C7 (rfl) (by decide) (Nat.le_of_ble_eq_true rfl) rfl rfl ag_fl_X7_40 dX7_learnsIn_55 ?_
      refine ev_iload_n (pc := 58) (i := 1) 2 dX7_learnsIn_58 rfl rfl ?_
      refine ev_iald (pc := 59) (rfl) (by decide) dX7_learnsIn_59 ?_
      refine ev_iload_n (pc := 60) (i := 2) 3 dX7_learnsIn_60 rfl rfl ?_
      refine ev_sI (pc := 61) (as := [.int (q319 64 x1.toNatClampNeg), .int x2]) (rest := []) ⟨155, ms_X7_isIn, ag_ml_X7_155, rfl, (Nat.le_of_ble_eq_true rfl), ⟨(Nat.le_of_ble_eq_true rfl), (Nat.le_of_ble_eq_true rfl)⟩, dX7_learnsIn_61⟩ (im_X7_isIn (q319 64 x1.toNatClampNeg) x2 q319) (fun q320 => ?_)
      refine ev_istore (pc := 64) (lv' := [(7, .int q320), (6, .int ((v4 + v5) / 2)), (0, .ref 53), (1, .int x1), (2, .int x2), (3, .int x3), (4, .int v4), (5, .int v5)]) dX7_learnsIn_64 (Nat.le_of_ble_eq_true rfl) rfl ?_
      refine ev_iload (pc := 66) 0 dX7_learnsIn_66 rfl ?_
      refine ev_if_eq (pc := 68) (tgt := 76) dX7_learnsIn_68 rfl ?_ ?_
      · refine ev_iload (pc := 76) 7 dX7_learnsIn_76 rfl ?_
        refine ev_sub [2, 3, 4, 5, 6, 1, 0] rfl ?_
        exact ev_X7_learnsIn_b78 n x1 x2 x3 (fn_X7_learnsIn_b31 n x1 x2 x3 i) ih v4 ((v4 + v5) / 2) q320 v5 q319
      · refine ev_iload (pc := 71) 1 dX7_learnsIn_71 rfl ?_
        refine ev_goto (pc := 73) (tgt := 78) dX7_learnsIn_73 rfl ?_
        refine ev_sub [2, 3, 4, 5, 6, 1, 0] rfl ?_
        exact ev_X7_learnsIn_b78 n x1 x2 x3 (fn_X7_learnsIn_b31 n x1 x2 x3 i) ih v4 ((v4 + v5) / 2) q320 ((v4 + v5) / 2) q319
def fn_X7_learnsIn (n : Nat) (x1 : Int32) (x2 : Int32) (x3 : Int32) (σ : Sg) : Option (Int32 × Sg) :=
  (Option.bind (fn_X7_runs n 199 x3 σ) fun q321 =>
  (if ag_ib x1 10 = true then (Option.bind (fn_X7_isIn (q321 64 x1.toNatClampNeg) x2 q321) fun q322 =>
  (if q322 = 0 then (some ((-1), q321))
  else (fn_X7_learnsIn_b31 n x1 x2 x3 n 0 199 q321))) else none))
set_option maxRecDepth 20000 in
set_option maxHeartbeats 4000000 in
theorem im_X7_learnsIn (n : Nat) (x1 : Int32) (x2 : Int32) (x3 : Int32) (σ : Sg) : Im yX7_learnsIn mX7_learnsIn 5 116 jW [.ref 53, .int x1, .int x2, .int x3] σ (fn_X7_learnsIn n x1 x2 x3 σ) := by
  refine Im.of (by decide +kernel) rfl rfl (Nat.le_of_ble_eq_true rfl) ?_
  show Ev mX7_learnsIn 5 116 jW 0 [(0, .ref 53), (1, .int x1), (2, .int x2), (3, .int x3)] [] σ (fn_X7_learnsIn n x1 x2 x3 σ)
  unfold fn_X7_learnsIn
  refine ev_aload_n (pc := 0) (i := 0) 0 dX7_learnsIn_0 rfl rfl ?_
  refine ev_sipush (pc := 1) (v := 199) dX7_learnsIn_1 (by decide) ?_
  refine ev_iload_n (pc := 4) (i := 3) 3 dX7_learnsIn_4 rfl rfl ?_
  refine ev_vV (pc := 5) (as := [.int 199, .int x3]) (rest := []) ⟨7, 173, 37, TX7, tyX7, ag_C7, ⟨(rfl), (by decide)⟩, mv_X7_runs, ag_ml_X7_173, rfl, (Nat.le_of_ble_eq_true rfl), ⟨(Nat.le_of_ble_eq_true rfl), (Nat.le_of_ble_eq_true rfl)⟩, dX7_learnsIn_5⟩ (im_X7_runs n 199 x3 σ) (fun q321 => ?_)
  refine ev_aload_n (pc := 8) (i := 0) 0 dX7_learnsIn_8 rfl rfl ?_
  refine ev_getR (pc := 9) (t := 64) 19 ag_C7 (rfl) (by decide) (Nat.le_of_ble_eq_true rfl) rfl rfl ag_fl_X7_40 dX7_learnsIn_9 ?_
  refine ev_iload_n (pc := 12) (i := 1) 1 dX7_learnsIn_12 rfl rfl ?_
  refine ev_iald (pc := 13) (rfl) (by decide) dX7_learnsIn_13 ?_
  refine ev_iload_n (pc := 14) (i := 2) 2 dX7_learnsIn_14 rfl rfl ?_
  refine ev_sI (pc := 15) (as := [.int (q321 64 x1.toNatClampNeg), .int x2]) (rest := []) ⟨155, ms_X7_isIn, ag_ml_X7_155, rfl, (Nat.le_of_ble_eq_true rfl), ⟨(Nat.le_of_ble_eq_true rfl), (Nat.le_of_ble_eq_true rfl)⟩, dX7_learnsIn_15⟩ (im_X7_isIn (q321 64 x1.toNatClampNeg) x2 q321) (fun q322 => ?_)
  refine ev_if_ne (pc := 18) (tgt := 23) dX7_learnsIn_18 rfl ?_ ?_
  · refine ev_iconst (pc := 21) (v := (-1)) dX7_learnsIn_21 (by decide) ?_
    exact ev_irW rfl dX7_learnsIn_22
  · refine ev_iconst (pc := 23) (v := 0) dX7_learnsIn_23 (by decide) ?_
    refine ev_istore (pc := 24) (lv' := [(4, .int 0), (0, .ref 53), (1, .int x1), (2, .int x2), (3, .int x3)]) dX7_learnsIn_24 (Nat.le_of_ble_eq_true rfl) rfl ?_
    refine ev_sipush (pc := 26) (v := 199) dX7_learnsIn_26 (by decide) ?_
    refine ev_istore (pc := 29) (lv' := [(5, .int 199), (4, .int 0), (0, .ref 53), (1, .int x1), (2, .int x2), (3, .int x3)]) dX7_learnsIn_29 (Nat.le_of_ble_eq_true rfl) rfl ?_
    refine ev_sub [2, 3, 4, 5, 1, 0] rfl ?_
    exact ev_X7_learnsIn_b31 n x1 x2 x3 n 0 199 q321
-- X7_learnedOf
def mX7_learnedOf : Md := (RX7, cX7_learnedOf, 3, some .int, none)
theorem mv_X7_learnedOf : ag_Mv yX7_learnedOf mX7_learnedOf 2 := ⟨ag_co_X7_learnedOf, ag_im_X7_learnedOf, ag_se_X7_learnedOf, ag_ini_X7, by decide +kernel⟩
theorem dX7_learnedOf_0 : decode mX7_learnedOf.2.1 0 = .ok (.aload_n 0, 1) := by decide +kernel
theorem dX7_learnedOf_1 : decode mX7_learnedOf.2.1 1 = .ok (.invokevirtual 104, 3) := by decide +kernel
theorem dX7_learnedOf_4 : decode mX7_learnedOf.2.1 4 = .ok (.aload_n 0, 1) := by decide +kernel
theorem dX7_learnedOf_5 : decode mX7_learnedOf.2.1 5 = .ok (.iload_n 1, 1) := by decide +kernel
theorem dX7_learnedOf_6 : decode mX7_learnedOf.2.1 6 = .ok (.iload_n 2, 1) := by decide +kernel
theorem dX7_learnedOf_7 : decode mX7_learnedOf.2.1 7 = .ok (.aload_n 0, 1) := by decide +kernel
theorem dX7_learnedOf_8 : decode mX7_learnedOf.2.1 8 = .ok (.getfield 120, 3) := by decide +kernel
theorem dX7_learnedOf_11 : decode mX7_learnedOf.2.1 11 = .ok (.invokevirtual 198, 3) := by decide +kernel
theorem dX7_learnedOf_14 : decode mX7_learnedOf.2.1 14 = .ok (.ireturn, 1) := by decide +kernel
def fn_X7_learnedOf (n : Nat) (x1 : Int32) (x2 : Int32) (σ : Sg) : Option (Int32 × Sg) :=
  (Option.bind (fn_X7_reads n σ) fun q323 =>
  (Option.bind (fn_X7_learnsIn n x1 x2 (q323 53 7) q323) fun q324 =>
  (some (q324.1, q324.2))))
set_option maxRecDepth 20000 in
set_option maxHeartbeats 4000000 in
theorem im_X7_learnedOf (n : Nat) (x1 : Int32) (x2 : Int32) (σ : Sg) : Im yX7_learnedOf mX7_learnedOf 6 143 jW [.ref 53, .int x1, .int x2] σ (fn_X7_learnedOf n x1 x2 σ) := by
  refine Im.of (by decide +kernel) rfl rfl (Nat.le_of_ble_eq_true rfl) ?_
  show Ev mX7_learnedOf 6 143 jW 0 [(0, .ref 53), (1, .int x1), (2, .int x2)] [] σ (fn_X7_learnedOf n x1 x2 σ)
  unfold fn_X7_learnedOf
  refine ev_aload_n (pc := 0) (i := 0) 0 dX7_learnedOf_0 rfl rfl ?_
  refine ev_vV (pc := 1) (as := []) (rest := []) ⟨7, 104, 37, TX7, tyX7, ag_C7, ⟨(rfl), (by decide)⟩, mv_X7_reads, ag_ml_X7_104, rfl, (Nat.le_of_ble_eq_true rfl), ⟨(Nat.le_of_ble_eq_true rfl), (Nat.le_of_ble_eq_true rfl)⟩, dX7_learnedOf_1⟩ (im_X7_reads n σ) (fun q323 => ?_)
  refine ev_aload_n (pc := 4) (i := 0) 0 dX7_learnedOf_4 rfl rfl ?_
  refine ev_iload_n (pc := 5) (i := 1) 1 dX7_learnedOf_5 rfl rfl ?_
  refine ev_iload_n (pc := 6) (i := 2) 2 dX7_learnedOf_6 rfl rfl ?_
  refine ev_aload_n (pc := 7) (i := 0) 0 dX7_learnedOf_7 rfl rfl ?_
  refine ev_getI (pc := 8) 7 ag_C7 (rfl) (by decide) (Nat.le_of_ble_eq_true rfl) rfl rfl ag_fl_X7_120 dX7_learnedOf_8 ?_
  refine ev_vW (pc := 11) (as := [.int x1, .int x2, .int (q323 53 7)]) (rest := []) ⟨7, 198, 37, TX7, tyX7, ag_C7, ⟨(rfl), (by decide)⟩, mv_X7_learnsIn, ag_ml_X7_198, rfl, (Nat.le_of_ble_eq_true rfl), ⟨(Nat.le_of_ble_eq_true rfl), (Nat.le_of_ble_eq_true rfl)⟩, dX7_learnedOf_11⟩ (im_X7_learnsIn n x1 x2 (q323 53 7) q323) (fun q324 => ?_)
  exact ev_irW rfl dX7_learnedOf_14
-- X7_learned
def mX7_learned : Md := (RX7, cX7_learned, 3, some .int, none)
theorem mv_X7_learned : ag_Mv yX7_learned mX7_learned 2 := ⟨ag_co_X7_learned, ag_im_X7_learned, ag_se_X7_learned, ag_ini_X7, by decide +kernel⟩
theorem dX7_learned_0 : decode mX7_learned.2.1 0 = .ok (.aload_n 0, 1) := by decide +kernel
theorem dX7_learned_1 : decode mX7_learned.2.1 1 = .ok (.iload_n 1, 1) := by decide +kernel
theorem dX7_learned_2 : decode mX7_learned.2.1 2 = .ok (.invokevirtual 107, 3) := by decide +kernel
theorem dX7_learned_5 : decode mX7_learned.2.1 5 = .ok (.ifCond .eq 19, 3) := by decide +kernel
theorem dX7_learned_8 : decode mX7_learned.2.1 8 = .ok (.iload_n 2, 1) := by decide +kernel
theorem dX7_learned_9 : decode mX7_learned.2.1 9 = .ok (.invokestatic 117, 3) := by decide +kernel
theorem dX7_learned_12 : decode mX7_learned.2.1 12 = .ok (.ifCond .eq 12, 3) := by decide +kernel
theorem dX7_learned_15 : decode mX7_learned.2.1 15 = .ok (.aload_n 0, 1) := by decide +kernel
theorem dX7_learned_16 : decode mX7_learned.2.1 16 = .ok (.iload_n 1, 1) := by decide +kernel
theorem dX7_learned_17 : decode mX7_learned.2.1 17 = .ok (.iload_n 2, 1) := by decide +kernel
theorem dX7_learned_18 : decode mX7_learned.2.1 18 = .ok (.invokevirtual 202, 3) := by decide +kernel
theorem dX7_learned_21 : decode mX7_learned.2.1 21 = .ok (.goto 5, 3) := by decide +kernel
theorem dX7_learned_24 : decode mX7_learned.2.1 24 = .ok (.bipush (-2), 2) := by decide +kernel
theorem dX7_learned_26 : decode mX7_learned.2.1 26 = .ok (.ireturn, 1) := by decide +kernel
def fn_X7_learned (n : Nat) (x1 : Int32) (x2 : Int32) (σ : Sg) : Option (Int32 × Sg) :=
  (Option.bind (fn_X7_isPerson n x1 σ) fun q325 =>
  (if q325.1 = 0 then (some ((-2), q325.2))
  else (Option.bind (fn_X7_isWord x2 q325.2) fun q326 =>
  (if q326 = 0 then (some ((-2), q325.2))
  else (Option.bind (fn_X7_learnedOf n x1 x2 q325.2) fun q327 =>
  (some (q327.1, q327.2)))))))
set_option maxRecDepth 20000 in
set_option maxHeartbeats 4000000 in
theorem im_X7_learned (n : Nat) (x1 : Int32) (x2 : Int32) (σ : Sg) : Im yX7_learned mX7_learned 7 165 jW [.ref 53, .int x1, .int x2] σ (fn_X7_learned n x1 x2 σ) := by
  refine Im.of (by decide +kernel) rfl rfl (Nat.le_of_ble_eq_true rfl) ?_
  show Ev mX7_learned 7 165 jW 0 [(0, .ref 53), (1, .int x1), (2, .int x2)] [] σ (fn_X7_learned n x1 x2 σ)
  unfold fn_X7_learned
  refine ev_aload_n (pc := 0) (i := 0) 0 dX7_learned_0 rfl rfl ?_
  refine ev_iload_n (pc := 1) (i := 1) 1 dX7_learned_1 rfl rfl ?_
  refine ev_vW (pc := 2) (as := [.int x1]) (rest := []) ⟨7, 107, 37, TX7, tyX7, ag_C7, ⟨(rfl), (by decide)⟩, mv_X7_isPerson, ag_ml_X7_107, rfl, (Nat.le_of_ble_eq_true rfl), ⟨(Nat.le_of_ble_eq_true rfl), (Nat.le_of_ble_eq_true rfl)⟩, dX7_learned_2⟩ (im_X7_isPerson n x1 σ) (fun q325 => ?_)
  refine ev_if_eq (pc := 5) (tgt := 24) dX7_learned_5 rfl ?_ ?_
  · refine ev_bipush (pc := 24) (v := (-2)) dX7_learned_24 (by decide) ?_
    exact ev_irW rfl dX7_learned_26
  · refine ev_iload_n (pc := 8) (i := 2) 2 dX7_learned_8 rfl rfl ?_
    refine ev_sI (pc := 9) (as := [.int x2]) (rest := []) ⟨117, ms_X7_isWord, ag_ml_X7_117, rfl, (Nat.le_of_ble_eq_true rfl), ⟨(Nat.le_of_ble_eq_true rfl), (Nat.le_of_ble_eq_true rfl)⟩, dX7_learned_9⟩ (im_X7_isWord x2 q325.2) (fun q326 => ?_)
    refine ev_if_eq (pc := 12) (tgt := 24) dX7_learned_12 rfl ?_ ?_
    · refine ev_bipush (pc := 24) (v := (-2)) dX7_learned_24 (by decide) ?_
      exact ev_irW rfl dX7_learned_26
    · refine ev_aload_n (pc := 15) (i := 0) 0 dX7_learned_15 rfl rfl ?_
      refine ev_iload_n (pc := 16) (i := 1) 1 dX7_learned_16 rfl rfl ?_
      refine ev_iload_n (pc := 17) (i := 2) 2 dX7_learned_17 rfl rfl ?_
      refine ev_vW (pc := 18) (as := [.int x1, .int x2]) (rest := []) ⟨7, 202, 37, TX7, tyX7, ag_C7, ⟨(rfl), (by decide)⟩, mv_X7_learnedOf, ag_ml_X7_202, rfl, (Nat.le_of_ble_eq_true rfl), ⟨(Nat.le_of_ble_eq_true rfl), (Nat.le_of_ble_eq_true rfl)⟩, dX7_learned_18⟩ (im_X7_learnedOf n x1 x2 q325.2) (fun q327 => ?_)
      refine ev_goto (pc := 21) (tgt := 26) dX7_learned_21 rfl ?_
      exact ev_irW rfl dX7_learned_26
-- X7_sealedNow
def mX7_sealedNow : Md := (RX7, cX7_sealedNow, 1, some .int, none)
theorem mv_X7_sealedNow : ag_Mv yX7_sealedNow mX7_sealedNow 0 := ⟨ag_co_X7_sealedNow, ag_im_X7_sealedNow, ag_se_X7_sealedNow, ag_ini_X7, by decide +kernel⟩
theorem dX7_sealedNow_0 : decode mX7_sealedNow.2.1 0 = .ok (.aload_n 0, 1) := by decide +kernel
theorem dX7_sealedNow_1 : decode mX7_sealedNow.2.1 1 = .ok (.sipush 199, 3) := by decide +kernel
theorem dX7_sealedNow_4 : decode mX7_sealedNow.2.1 4 = .ok (.iconst 0, 1) := by decide +kernel
theorem dX7_sealedNow_5 : decode mX7_sealedNow.2.1 5 = .ok (.invokevirtual 192, 3) := by decide +kernel
theorem dX7_sealedNow_8 : decode mX7_sealedNow.2.1 8 = .ok (.ireturn, 1) := by decide +kernel
def fn_X7_sealedNow (n : Nat)  (σ : Sg) : Option (Int32 × Sg) :=
  (Option.bind (fn_X7_waitsOf n 199 0 σ) fun q328 =>
  (some (q328.1, q328.2)))
set_option maxRecDepth 20000 in
set_option maxHeartbeats 4000000 in
theorem im_X7_sealedNow (n : Nat)  (σ : Sg) : Im yX7_sealedNow mX7_sealedNow 7 159 jW [.ref 53] σ (fn_X7_sealedNow n  σ) := by
  refine Im.of (by decide +kernel) rfl rfl (Nat.le_of_ble_eq_true rfl) ?_
  show Ev mX7_sealedNow 7 159 jW 0 [(0, .ref 53)] [] σ (fn_X7_sealedNow n  σ)
  unfold fn_X7_sealedNow
  refine ev_aload_n (pc := 0) (i := 0) 0 dX7_sealedNow_0 rfl rfl ?_
  refine ev_sipush (pc := 1) (v := 199) dX7_sealedNow_1 (by decide) ?_
  refine ev_iconst (pc := 4) (v := 0) dX7_sealedNow_4 (by decide) ?_
  refine ev_vW (pc := 5) (as := [.int 199, .int 0]) (rest := []) ⟨7, 192, 37, TX7, tyX7, ag_C7, ⟨(rfl), (by decide)⟩, mv_X7_waitsOf, ag_ml_X7_192, rfl, (Nat.le_of_ble_eq_true rfl), ⟨(Nat.le_of_ble_eq_true rfl), (Nat.le_of_ble_eq_true rfl)⟩, dX7_sealedNow_5⟩ (im_X7_waitsOf n 199 0 σ) (fun q328 => ?_)
  exact ev_irW rfl dX7_sealedNow_8
-- X7_sealed
def mX7_sealed : Md := (RX7, cX7_sealed, 1, some .int, none)
theorem mv_X7_sealed : ag_Mv yX7_sealed mX7_sealed 0 := ⟨ag_co_X7_sealed, ag_im_X7_sealed, ag_se_X7_sealed, ag_ini_X7, by decide +kernel⟩
theorem dX7_sealed_0 : decode mX7_sealed.2.1 0 = .ok (.aload_n 0, 1) := by decide +kernel
theorem dX7_sealed_1 : decode mX7_sealed.2.1 1 = .ok (.invokevirtual 205, 3) := by decide +kernel
theorem dX7_sealed_4 : decode mX7_sealed.2.1 4 = .ok (.ireturn, 1) := by decide +kernel
def fn_X7_sealed (n : Nat)  (σ : Sg) : Option (Int32 × Sg) :=
  (Option.bind (fn_X7_sealedNow n σ) fun q329 =>
  (some (q329.1, q329.2)))
set_option maxRecDepth 20000 in
set_option maxHeartbeats 4000000 in
theorem im_X7_sealed (n : Nat)  (σ : Sg) : Im yX7_sealed mX7_sealed 8 179 jW [.ref 53] σ (fn_X7_sealed n  σ) := by
  refine Im.of (by decide +kernel) rfl rfl (Nat.le_of_ble_eq_true rfl) ?_
  show Ev mX7_sealed 8 179 jW 0 [(0, .ref 53)] [] σ (fn_X7_sealed n  σ)
  unfold fn_X7_sealed
  refine ev_aload_n (pc := 0) (i := 0) 0 dX7_sealed_0 rfl rfl ?_
  refine ev_vW (pc := 1) (as := []) (rest := []) ⟨7, 205, 37, TX7, tyX7, ag_C7, ⟨(rfl), (by decide)⟩, mv_X7_sealedNow, ag_ml_X7_205, rfl, (Nat.le_of_ble_eq_true rfl), ⟨(Nat.le_of_ble_eq_true rfl), (Nat.le_of_ble_eq_true rfl)⟩, dX7_sealed_1⟩ (im_X7_sealedNow n σ) (fun q329 => ?_)
  exact ev_irW rfl dX7_sealed_4
-- X7_loudOf
def mX7_loudOf : Md := (RX7, cX7_loudOf, 7, some .int, none)
theorem mv_X7_loudOf : ag_Mv yX7_loudOf mX7_loudOf 1 := ⟨ag_co_X7_loudOf, ag_im_X7_loudOf, ag_se_X7_loudOf, ag_ini_X7, by decide +kernel⟩
theorem dX7_loudOf_0 : decode mX7_loudOf.2.1 0 = .ok (.aload_n 0, 1) := by decide +kernel
theorem dX7_loudOf_1 : decode mX7_loudOf.2.1 1 = .ok (.sipush 199, 3) := by decide +kernel
theorem dX7_loudOf_4 : decode mX7_loudOf.2.1 4 = .ok (.invokevirtual 179, 3) := by decide +kernel
theorem dX7_loudOf_7 : decode mX7_loudOf.2.1 7 = .ok (.iconst (-1), 1) := by decide +kernel
theorem dX7_loudOf_8 : decode mX7_loudOf.2.1 8 = .ok (.istore_n 2, 1) := by decide +kernel
theorem dX7_loudOf_9 : decode mX7_loudOf.2.1 9 = .ok (.iconst 0, 1) := by decide +kernel
theorem dX7_loudOf_10 : decode mX7_loudOf.2.1 10 = .ok (.istore_n 3, 1) := by decide +kernel
theorem dX7_loudOf_11 : decode mX7_loudOf.2.1 11 = .ok (.iconst 0, 1) := by decide +kernel
theorem dX7_loudOf_12 : decode mX7_loudOf.2.1 12 = .ok (.istore 4, 2) := by decide +kernel
theorem dX7_loudOf_14 : decode mX7_loudOf.2.1 14 = .ok (.iload 4, 2) := by decide +kernel
theorem dX7_loudOf_16 : decode mX7_loudOf.2.1 16 = .ok (.sipush 200, 3) := by decide +kernel
theorem dX7_loudOf_19 : decode mX7_loudOf.2.1 19 = .ok (.if_icmp .ge 78, 3) := by decide +kernel
theorem dX7_loudOf_22 : decode mX7_loudOf.2.1 22 = .ok (.iconst 0, 1) := by decide +kernel
theorem dX7_loudOf_23 : decode mX7_loudOf.2.1 23 = .ok (.istore 5, 2) := by decide +kernel
theorem dX7_loudOf_25 : decode mX7_loudOf.2.1 25 = .ok (.iconst 0, 1) := by decide +kernel
theorem dX7_loudOf_26 : decode mX7_loudOf.2.1 26 = .ok (.istore 6, 2) := by decide +kernel
theorem dX7_loudOf_28 : decode mX7_loudOf.2.1 28 = .ok (.iload 6, 2) := by decide +kernel
theorem dX7_loudOf_30 : decode mX7_loudOf.2.1 30 = .ok (.aload_n 0, 1) := by decide +kernel
theorem dX7_loudOf_31 : decode mX7_loudOf.2.1 31 = .ok (.getfield 120, 3) := by decide +kernel
theorem dX7_loudOf_34 : decode mX7_loudOf.2.1 34 = .ok (.if_icmp .ge 31, 3) := by decide +kernel
theorem dX7_loudOf_37 : decode mX7_loudOf.2.1 37 = .ok (.iload 5, 2) := by decide +kernel
theorem dX7_loudOf_39 : decode mX7_loudOf.2.1 39 = .ok (.aload_n 0, 1) := by decide +kernel
theorem dX7_loudOf_40 : decode mX7_loudOf.2.1 40 = .ok (.getfield 43, 3) := by decide +kernel
theorem dX7_loudOf_43 : decode mX7_loudOf.2.1 43 = .ok (.iload 6, 2) := by decide +kernel
theorem dX7_loudOf_45 : decode mX7_loudOf.2.1 45 = .ok (.iaload, 1) := by decide +kernel
theorem dX7_loudOf_46 : decode mX7_loudOf.2.1 46 = .ok (.iload 4, 2) := by decide +kernel
theorem dX7_loudOf_48 : decode mX7_loudOf.2.1 48 = .ok (.if_icmp .ne 7, 3) := by decide +kernel
theorem dX7_loudOf_51 : decode mX7_loudOf.2.1 51 = .ok (.iconst 1, 1) := by decide +kernel
theorem dX7_loudOf_52 : decode mX7_loudOf.2.1 52 = .ok (.goto 4, 3) := by decide +kernel
theorem dX7_loudOf_55 : decode mX7_loudOf.2.1 55 = .ok (.iconst 0, 1) := by decide +kernel
theorem dX7_loudOf_56 : decode mX7_loudOf.2.1 56 = .ok (.iadd, 1) := by decide +kernel
theorem dX7_loudOf_57 : decode mX7_loudOf.2.1 57 = .ok (.istore 5, 2) := by decide +kernel
theorem dX7_loudOf_59 : decode mX7_loudOf.2.1 59 = .ok (.iinc 6 1, 3) := by decide +kernel
theorem dX7_loudOf_62 : decode mX7_loudOf.2.1 62 = .ok (.goto (-34), 3) := by decide +kernel
theorem dX7_loudOf_65 : decode mX7_loudOf.2.1 65 = .ok (.iload 5, 2) := by decide +kernel
theorem dX7_loudOf_67 : decode mX7_loudOf.2.1 67 = .ok (.iload_n 3, 1) := by decide +kernel
theorem dX7_loudOf_68 : decode mX7_loudOf.2.1 68 = .ok (.if_icmp .le 8, 3) := by decide +kernel
theorem dX7_loudOf_71 : decode mX7_loudOf.2.1 71 = .ok (.iload 4, 2) := by decide +kernel
theorem dX7_loudOf_73 : decode mX7_loudOf.2.1 73 = .ok (.goto 4, 3) := by decide +kernel
theorem dX7_loudOf_76 : decode mX7_loudOf.2.1 76 = .ok (.iload_n 2, 1) := by decide +kernel
theorem dX7_loudOf_77 : decode mX7_loudOf.2.1 77 = .ok (.istore_n 2, 1) := by decide +kernel
theorem dX7_loudOf_78 : decode mX7_loudOf.2.1 78 = .ok (.iload 5, 2) := by decide +kernel
theorem dX7_loudOf_80 : decode mX7_loudOf.2.1 80 = .ok (.iload_n 3, 1) := by decide +kernel
theorem dX7_loudOf_81 : decode mX7_loudOf.2.1 81 = .ok (.if_icmp .le 8, 3) := by decide +kernel
theorem dX7_loudOf_84 : decode mX7_loudOf.2.1 84 = .ok (.iload 5, 2) := by decide +kernel
theorem dX7_loudOf_86 : decode mX7_loudOf.2.1 86 = .ok (.goto 4, 3) := by decide +kernel
theorem dX7_loudOf_89 : decode mX7_loudOf.2.1 89 = .ok (.iload_n 3, 1) := by decide +kernel
theorem dX7_loudOf_90 : decode mX7_loudOf.2.1 90 = .ok (.istore_n 3, 1) := by decide +kernel
theorem dX7_loudOf_91 : decode mX7_loudOf.2.1 91 = .ok (.iinc 4 1, 3) := by decide +kernel
theorem dX7_loudOf_94 : decode mX7_loudOf.2.1 94 = .ok (.goto (-80), 3) := by decide +kernel
theorem dX7_loudOf_97 : decode mX7_loudOf.2.1 97 = .ok (.iload_n 1, 1) := by decide +kernel
theorem dX7_loudOf_98 : decode mX7_loudOf.2.1 98 = .ok (.ifCond .eq 8, 3) := by decide +kernel
theorem dX7_loudOf_101 : decode mX7_loudOf.2.1 101 = .ok (.iload_n 2, 1) := by decide +kernel
theorem dX7_loudOf_102 : decode mX7_loudOf.2.1 102 = .ok (.iconst (-1), 1) := by decide +kernel
theorem dX7_loudOf_103 : decode mX7_loudOf.2.1 103 = .ok (.if_icmp .ne 7, 3) := by decide +kernel
theorem dX7_loudOf_106 : decode mX7_loudOf.2.1 106 = .ok (.iload_n 2, 1) := by decide +kernel
theorem dX7_loudOf_107 : decode mX7_loudOf.2.1 107 = .ok (.goto 4, 3) := by decide +kernel
theorem dX7_loudOf_110 : decode mX7_loudOf.2.1 110 = .ok (.iload_n 3, 1) := by decide +kernel
theorem dX7_loudOf_111 : decode mX7_loudOf.2.1 111 = .ok (.ireturn, 1) := by decide +kernel
def fn_X7_loudOf_b106 (n : Nat) (x1 : Int32)  (v2 : Int32) (σ : Sg) : Option (Int32 × Sg) :=
  (some (v2, σ))
set_option maxRecDepth 20000 in
set_option maxHeartbeats 4000000 in
theorem ev_X7_loudOf_b106 (n : Nat) (x1 : Int32)  (v2 : Int32) (σ : Sg) : Ev mX7_loudOf 6 137 jW 106 [(0, .ref 53), (1, .int x1), (2, .int v2)] [] σ (fn_X7_loudOf_b106 n x1 v2 σ) := by
  unfold fn_X7_loudOf_b106
  refine ev_iload_n (pc := 106) (i := 2) 2 dX7_loudOf_106 rfl rfl ?_
  refine ev_goto (pc := 107) (tgt := 111) dX7_loudOf_107 rfl ?_
  exact ev_irW rfl dX7_loudOf_111
def fn_X7_loudOf_b90 (n : Nat) (x1 : Int32) (k14 : Int32 → Int32 → Int32 → Sg → Option (Int32 × Sg)) (v2 : Int32) (v4 : Int32) (s0 : Int32) (σ : Sg) : Option (Int32 × Sg) :=
  (k14 v2 s0 (v4 + 1) σ)
set_option maxRecDepth 20000 in
set_option maxHeartbeats 4000000 in
theorem ev_X7_loudOf_b90 (n : Nat) (x1 : Int32) (k14 : Int32 → Int32 → Int32 → Sg → Option (Int32 × Sg)) (hk14 : ∀ (v2 : Int32) (v3 : Int32) (v4 : Int32) (σ : Sg), Ev mX7_loudOf 6 137 jW 14 [(0, .ref 53), (1, .int x1), (2, .int v2), (3, .int v3), (4, .int v4)] [] σ (k14 v2 v3 v4 σ)) (v2 : Int32) (v4 : Int32) (s0 : Int32) (σ : Sg) : Ev mX7_loudOf 6 137 jW 90 [(0, .ref 53), (1, .int x1), (2, .int v2), (4, .int v4)] [.int s0] σ (fn_X7_loudOf_b90 n x1 k14 v2 v4 s0 σ) := by
  unfold fn_X7_loudOf_b90
  refine ev_istore_n (pc := 90) (i := 3) (lv' := [(3, .int s0), (0, .ref 53), (1, .int x1), (2, .int v2), (4, .int v4)]) dX7_loudOf_90 rfl (Nat.le_of_ble_eq_true rfl) rfl ?_
  refine ev_iinc (pc := 91) (v := (v4 + 1)) (lv' := [(4, .int (v4 + 1)), (3, .int s0), (0, .ref 53), (1, .int x1), (2, .int v2)]) 4 dX7_loudOf_91 rfl rfl (Nat.le_of_ble_eq_true rfl) rfl ?_
  refine ev_goto (pc := 94) (tgt := 14) dX7_loudOf_94 rfl ?_
  refine ev_sub [2, 3, 4, 1, 0] rfl ?_
  exact hk14 v2 s0 (v4 + 1) σ
def fn_X7_loudOf_b77 (n : Nat) (x1 : Int32) (k14 : Int32 → Int32 → Int32 → Sg → Option (Int32 × Sg)) (v3 : Int32) (v4 : Int32) (v5 : Int32) (s0 : Int32) (σ : Sg) : Option (Int32 × Sg) :=
  (if v5 ≤ v3 then (fn_X7_loudOf_b90 n x1 k14 s0 v4 v3 σ)
  else (fn_X7_loudOf_b90 n x1 k14 s0 v4 v5 σ))
set_option maxRecDepth 20000 in
set_option maxHeartbeats 4000000 in
theorem ev_X7_loudOf_b77 (n : Nat) (x1 : Int32) (k14 : Int32 → Int32 → Int32 → Sg → Option (Int32 × Sg)) (hk14 : ∀ (v2 : Int32) (v3 : Int32) (v4 : Int32) (σ : Sg), Ev mX7_loudOf 6 137 jW 14 [(0, .ref 53), (1, .int x1), (2, .int v2), (3, .int v3), (4, .int v4)] [] σ (k14 v2 v3 v4 σ)) (v3 : Int32) (v4 : Int32) (v5 : Int32) (s0 : Int32) (σ : Sg) : Ev mX7_loudOf 6 137 jW 77 [(0, .ref 53), (1, .int x1), (3, .int v3), (4, .int v4), (5, .int v5)] [.int s0] σ (fn_X7_loudOf_b77 n x1 k14 v3 v4 v5 s0 σ) := by
  unfold fn_X7_loudOf_b77
  refine ev_istore_n (pc := 77) (i := 2) (lv' := [(2, .int s0), (0, .ref 53), (1, .int x1), (3, .int v3), (4, .int v4), (5, .int v5)]) dX7_loudOf_77 rfl (Nat.le_of_ble_eq_true rfl) rfl ?_
  refine ev_iload (pc := 78) 5 dX7_loudOf_78 rfl ?_
  refine ev_iload_n (pc := 80) (i := 3) 3 dX7_loudOf_80 rfl rfl ?_
  refine ev_icmp_le (pc := 81) (tgt := 89) dX7_loudOf_81 rfl ?_ ?_
  · refine ev_iload_n (pc := 89) (i := 3) 3 dX7_loudOf_89 rfl rfl ?_
    refine ev_sub [1, 2, 0, 4] rfl ?_
    exact ev_X7_loudOf_b90 n x1 k14 hk14 s0 v4 v3 σ
  · refine ev_iload (pc := 84) 5 dX7_loudOf_84 rfl ?_
    refine ev_goto (pc := 86) (tgt := 90) dX7_loudOf_86 rfl ?_
    refine ev_sub [1, 2, 0, 4] rfl ?_
    exact ev_X7_loudOf_b90 n x1 k14 hk14 s0 v4 v5 σ
def fn_X7_loudOf_b56 (n : Nat) (x1 : Int32) (k14 : Int32 → Int32 → Int32 → Sg → Option (Int32 × Sg)) (k28 : Int32 → Int32 → Int32 → Int32 → Int32 → Sg → Option (Int32 × Sg)) (v2 : Int32) (v3 : Int32) (v4 : Int32) (v6 : Int32) (s0 : Int32) (s1 : Int32) (σ : Sg) : Option (Int32 × Sg) :=
  (k28 v2 v3 v4 (s0 + s1) (v6 + 1) σ)
set_option maxRecDepth 20000 in
set_option maxHeartbeats 4000000 in
theorem ev_X7_loudOf_b56 (n : Nat) (x1 : Int32) (k14 : Int32 → Int32 → Int32 → Sg → Option (Int32 × Sg)) (hk14 : ∀ (v2 : Int32) (v3 : Int32) (v4 : Int32) (σ : Sg), Ev mX7_loudOf 6 137 jW 14 [(0, .ref 53), (1, .int x1), (2, .int v2), (3, .int v3), (4, .int v4)] [] σ (k14 v2 v3 v4 σ)) (k28 : Int32 → Int32 → Int32 → Int32 → Int32 → Sg → Option (Int32 × Sg)) (hk28 : ∀ (v2 : Int32) (v3 : Int32) (v4 : Int32) (v5 : Int32) (v6 : Int32) (σ : Sg), Ev mX7_loudOf 6 137 jW 28 [(0, .ref 53), (1, .int x1), (2, .int v2), (3, .int v3), (4, .int v4), (5, .int v5), (6, .int v6)] [] σ (k28 v2 v3 v4 v5 v6 σ)) (v2 : Int32) (v3 : Int32) (v4 : Int32) (v6 : Int32) (s0 : Int32) (s1 : Int32) (σ : Sg) : Ev mX7_loudOf 6 137 jW 56 [(0, .ref 53), (1, .int x1), (2, .int v2), (3, .int v3), (4, .int v4), (6, .int v6)] [.int s1, .int s0] σ (fn_X7_loudOf_b56 n x1 k14 k28 v2 v3 v4 v6 s0 s1 σ) := by
  unfold fn_X7_loudOf_b56
  refine ev_iadd (pc := 56) dX7_loudOf_56 ?_
  refine ev_istore (pc := 57) (lv' := [(5, .int (s0 + s1)), (0, .ref 53), (1, .int x1), (2, .int v2), (3, .int v3), (4, .int v4), (6, .int v6)]) dX7_loudOf_57 (Nat.le_of_ble_eq_true rfl) rfl ?_
  refine ev_iinc (pc := 59) (v := (v6 + 1)) (lv' := [(6, .int (v6 + 1)), (5, .int (s0 + s1)), (0, .ref 53), (1, .int x1), (2, .int v2), (3, .int v3), (4, .int v4)]) 6 dX7_loudOf_59 rfl rfl (Nat.le_of_ble_eq_true rfl) rfl ?_
  refine ev_goto (pc := 62) (tgt := 28) dX7_loudOf_62 rfl ?_
  refine ev_sub [2, 3, 4, 5, 6, 1, 0] rfl ?_
  exact hk28 v2 v3 v4 (s0 + s1) (v6 + 1) σ
def fn_X7_loudOf_b28 (n : Nat) (x1 : Int32) (k14 : Int32 → Int32 → Int32 → Sg → Option (Int32 × Sg)) : Nat → Int32 → Int32 → Int32 → Int32 → Int32 → Sg → Option (Int32 × Sg)
  | 0 => fun _ _ _ _ _ _ => none
  | i + 1 => fun v2 v3 v4 v5 v6 σ =>
  (if (σ 53 7) ≤ v6 then (if v5 ≤ v3 then (fn_X7_loudOf_b77 n x1 k14 v3 v4 v5 v2 σ)
  else (fn_X7_loudOf_b77 n x1 k14 v3 v4 v5 v4 σ))
  else (if ag_ib v6 13 = true then (if (σ 65 v6.toNatClampNeg) = v4 then (fn_X7_loudOf_b56 n x1 k14 (fn_X7_loudOf_b28 n x1 k14 i) v2 v3 v4 v6 v5 1 σ)
  else (fn_X7_loudOf_b56 n x1 k14 (fn_X7_loudOf_b28 n x1 k14 i) v2 v3 v4 v6 v5 0 σ)) else none))
theorem fn_X7_loudOf_b28_s (n : Nat) (x1 : Int32) (k14 : Int32 → Int32 → Int32 → Sg → Option (Int32 × Sg)) (i : Nat) (v2 : Int32) (v3 : Int32) (v4 : Int32) (v5 : Int32) (v6 : Int32) (σ : Sg) : fn_X7_loudOf_b28 n x1 k14 (i + 1) v2 v3 v4 v5 v6 σ =
  (if (σ 53 7) ≤ v6 then (if v5 ≤ v3 then (fn_X7_loudOf_b77 n x1 k14 v3 v4 v5 v2 σ)
  else (fn_X7_loudOf_b77 n x1 k14 v3 v4 v5 v4 σ))
  else (if ag_ib v6 13 = true then (if (σ 65 v6.toNatClampNeg) = v4 then (fn_X7_loudOf_b56 n x1 k14 (fn_X7_loudOf_b28 n x1 k14 i) v2 v3 v4 v6 v5 1 σ)
  else (fn_X7_loudOf_b56 n x1 k14 (fn_X7_loudOf_b28 n x1 k14 i) v2 v3 v4 v6 v5 0 σ)) else none)) := rfl
set_option maxRecDepth 20000 in
set_option maxHeartbeats 4000000 in
theorem ev_X7_loudOf_b28 (n : Nat) (x1 : Int32) (k14 : Int32 → Int32 → Int32 → Sg → Option (Int32 × Sg)) (hk14 : ∀ (v2 : Int32) (v3 : Int32) (v4 : Int32) (σ : Sg), Ev mX7_loudOf 6 137 jW 14 [(0, .ref 53), (1, .int x1), (2, .int v2), (3, .int v3), (4, .int v4)] [] σ (k14 v2 v3 v4 σ)) : ∀ (i : Nat) (v2 : Int32) (v3 : Int32) (v4 : Int32) (v5 : Int32) (v6 : Int32) (σ : Sg), Ev mX7_loudOf 6 137 jW 28 [(0, .ref 53), (1, .int x1), (2, .int v2), (3, .int v3), (4, .int v4), (5, .int v5), (6, .int v6)] [] σ (fn_X7_loudOf_b28 n x1 k14 i v2 v3 v4 v5 v6 σ) := by
  intro i
  induction i with
  | zero =>
    intro v2 v3 v4 v5 v6 σ
    exact ev_none
  | succ i ih =>
    intro v2 v3 v4 v5 v6 σ
    rw [fn_X7_loudOf_b28_s]
    refine ev_iload (pc := 28) 6 dX7_loudOf_28 rfl ?_
    refine ev_aload_n (pc := 30) (i := 0) 0 dX7_loudOf_30 rfl rfl ?_
    refine ev_getI (pc := 31) 7 ag_C7 (rfl) (by decide) (Nat.le_of_ble_eq_true rfl) rfl rfl ag_fl_X7_120 dX7_loudOf_31 ?_
    refine ev_icmp_ge (pc := 34) (tgt := 65) dX7_loudOf_34 rfl ?_ ?_
    · refine ev_iload (pc := 65) 5 dX7_loudOf_65 rfl ?_
      refine ev_iload_n (pc := 67) (i := 3) 3 dX7_loudOf_67 rfl rfl ?_
      refine ev_icmp_le (pc := 68) (tgt := 76) dX7_loudOf_68 rfl ?_ ?_
      · refine ev_iload_n (pc := 76) (i := 2) 2 dX7_loudOf_76 rfl rfl ?_
        refine ev_sub [0, 1, 3, 4, 5] rfl ?_
        exact ev_X7_loudOf_b77 n x1 k14 hk14 v3 v4 v5 v2 σ
      · refine ev_iload (pc := 71) 4 dX7_loudOf_71 rfl ?_
        refine ev_goto (pc := 73) (tgt := 77) dX7_loudOf_73 rfl ?_
        refine ev_sub [0, 1, 3, 4, 5] rfl ?_
        exact ev_X7_loudOf_b77 n x1 k14 hk14 v3 v4 v5 v4 σ
    · refine ev_iload (pc := 37) 5 dX7_loudOf_37 rfl ?_
      refine ev_aload_n (pc := 39) (i := 0) 0 dX7_loudOf_39 rfl rfl ?_
      refine ev_getR (pc := 40) (t := 65) 20 ag_C7 (rfl) (by decide) (Nat.le_of_ble_eq_true rfl) rfl rfl ag_fl_X7_43 dX7_loudOf_40 ?_
      refine ev_iload (pc := 43) 6 dX7_loudOf_43 rfl ?_
      refine ev_iald (pc := 45) (rfl) (by decide) dX7_loudOf_45 ?_
      refine ev_iload (pc := 46) 4 dX7_loudOf_46 rfl ?_
      refine ev_icmp_ne (pc := 48) (tgt := 55) dX7_loudOf_48 rfl ?_ ?_
      · refine ev_iconst (pc := 51) (v := 1) dX7_loudOf_51 (by decide) ?_
        refine ev_goto (pc := 52) (tgt := 56) dX7_loudOf_52 rfl ?_
        refine ev_sub [0, 1, 2, 3, 4, 6] rfl ?_
        exact ev_X7_loudOf_b56 n x1 k14 hk14 (fn_X7_loudOf_b28 n x1 k14 i) ih v2 v3 v4 v6 v5 1 σ
      · refine ev_iconst (pc := 55) (v := 0) dX7_loudOf_55 (by decide) ?_
        refine ev_sub [0, 1, 2, 3, 4, 6] rfl ?_
        exact ev_X7_loudOf_b56 n x1 k14 hk14 (fn_X7_loudOf_b28 n x1 k14 i) ih v2 v3 v4 v6 v5 0 σ
def fn_X7_loudOf_b14 (n : Nat) (x1 : Int32)  : Nat → Int32 → Int32 → Int32 → Sg → Option (Int32 × Sg)
  | 0 => fun _ _ _ _ => none
  | i + 1 => fun v2 v3 v4 σ =>
  (if 200 ≤ v4 then (if x1 = 0 then (fn_X7_loudOf_b106 n x1 v2 σ)
  else (if v2 = (-1) then (fn_X7_loudOf_b106 n x1 v2 σ)
  else (some (v3, σ))))
  else (fn_X7_loudOf_b28 n x1 (fn_X7_loudOf_b14 n x1 i) n v2 v3 v4 0 0 σ))
theorem fn_X7_loudOf_b14_s (n : Nat) (x1 : Int32)  (i : Nat) (v2 : Int32) (v3 : Int32) (v4 : Int32) (σ : Sg) : fn_X7_loudOf_b14 n x1 (i + 1) v2 v3 v4 σ =
  (if 200 ≤ v4 then (if x1 = 0 then (fn_X7_loudOf_b106 n x1 v2 σ)
  else (if v2 = (-1) then (fn_X7_loudOf_b106 n x1 v2 σ)
  else (some (v3, σ))))
  else (fn_X7_loudOf_b28 n x1 (fn_X7_loudOf_b14 n x1 i) n v2 v3 v4 0 0 σ)) := rfl
set_option maxRecDepth 20000 in
set_option maxHeartbeats 4000000 in
theorem ev_X7_loudOf_b14 (n : Nat) (x1 : Int32)  : ∀ (i : Nat) (v2 : Int32) (v3 : Int32) (v4 : Int32) (σ : Sg), Ev mX7_loudOf 6 137 jW 14 [(0, .ref 53), (1, .int x1), (2, .int v2), (3, .int v3), (4, .int v4)] [] σ (fn_X7_loudOf_b14 n x1 i v2 v3 v4 σ) := by
  intro i
  induction i with
  | zero =>
    intro v2 v3 v4 σ
    exact ev_none
  | succ i ih =>
    intro v2 v3 v4 σ
    rw [fn_X7_loudOf_b14_s]
    refine ev_iload (pc := 14) 4 dX7_loudOf_14 rfl ?_
    refine ev_sipush (pc := 16) (v := 200) dX7_loudOf_16 (by decide) ?_
    refine ev_icmp_ge (pc := 19) (tgt := 97) dX7_loudOf_19 rfl ?_ ?_
    · refine ev_iload_n (pc := 97) (i := 1) 1 dX7_loudOf_97 rfl rfl ?_
      refine ev_if_eq (pc := 98) (tgt := 106) dX7_loudOf_98 rfl ?_ ?_
      · refine ev_sub [0, 1, 2] rfl ?_
        exact ev_X7_loudOf_b106 n x1 v2 σ
      · refine ev_iload_n (pc := 101) (i := 2) 2 dX7_loudOf_101 rfl rfl ?_
        refine ev_iconst (pc := 102) (v := (-1)) dX7_loudOf_102 (by decide) ?_
        refine ev_icmp_ne (pc := 103) (tgt := 110) dX7_loudOf_103 rfl ?_ ?_
        · refine ev_sub [0, 1, 2] rfl ?_
          exact ev_X7_loudOf_b106 n x1 v2 σ
        · refine ev_iload_n (pc := 110) (i := 3) 3 dX7_loudOf_110 rfl rfl ?_
          exact ev_irW rfl dX7_loudOf_111
    · refine ev_iconst (pc := 22) (v := 0) dX7_loudOf_22 (by decide) ?_
      refine ev_istore (pc := 23) (lv' := [(5, .int 0), (0, .ref 53), (1, .int x1), (2, .int v2), (3, .int v3), (4, .int v4)]) dX7_loudOf_23 (Nat.le_of_ble_eq_true rfl) rfl ?_
      refine ev_iconst (pc := 25) (v := 0) dX7_loudOf_25 (by decide) ?_
      refine ev_istore (pc := 26) (lv' := [(6, .int 0), (5, .int 0), (0, .ref 53), (1, .int x1), (2, .int v2), (3, .int v3), (4, .int v4)]) dX7_loudOf_26 (Nat.le_of_ble_eq_true rfl) rfl ?_
      refine ev_sub [2, 3, 4, 5, 6, 1, 0] rfl ?_
      exact ev_X7_loudOf_b28 n x1 (fn_X7_loudOf_b14 n x1 i) ih n v2 v3 v4 0 0 σ
def fn_X7_loudOf (n : Nat) (x1 : Int32) (σ : Sg) : Option (Int32 × Sg) :=
  (Option.bind (fn_X7_runsTo n 199 σ) fun q330 =>
  (fn_X7_loudOf_b14 n x1 n (-1) 0 0 q330))
set_option maxRecDepth 20000 in
set_option maxHeartbeats 4000000 in
theorem im_X7_loudOf (n : Nat) (x1 : Int32) (σ : Sg) : Im yX7_loudOf mX7_loudOf 6 137 jW [.ref 53, .int x1] σ (fn_X7_loudOf n x1 σ) := by
  refine Im.of (by decide +kernel) rfl rfl (Nat.le_of_ble_eq_true rfl) ?_
  show Ev mX7_loudOf 6 137 jW 0 [(0, .ref 53), (1, .int x1)] [] σ (fn_X7_loudOf n x1 σ)
  unfold fn_X7_loudOf
  refine ev_aload_n (pc := 0) (i := 0) 0 dX7_loudOf_0 rfl rfl ?_
  refine ev_sipush (pc := 1) (v := 199) dX7_loudOf_1 (by decide) ?_
  refine ev_vV (pc := 4) (as := [.int 199]) (rest := []) ⟨7, 179, 37, TX7, tyX7, ag_C7, ⟨(rfl), (by decide)⟩, mv_X7_runsTo, ag_ml_X7_179, rfl, (Nat.le_of_ble_eq_true rfl), ⟨(Nat.le_of_ble_eq_true rfl), (Nat.le_of_ble_eq_true rfl)⟩, dX7_loudOf_4⟩ (im_X7_runsTo n 199 σ) (fun q330 => ?_)
  refine ev_iconst (pc := 7) (v := (-1)) dX7_loudOf_7 (by decide) ?_
  refine ev_istore_n (pc := 8) (i := 2) (lv' := [(2, .int (-1)), (0, .ref 53), (1, .int x1)]) dX7_loudOf_8 rfl (Nat.le_of_ble_eq_true rfl) rfl ?_
  refine ev_iconst (pc := 9) (v := 0) dX7_loudOf_9 (by decide) ?_
  refine ev_istore_n (pc := 10) (i := 3) (lv' := [(3, .int 0), (2, .int (-1)), (0, .ref 53), (1, .int x1)]) dX7_loudOf_10 rfl (Nat.le_of_ble_eq_true rfl) rfl ?_
  refine ev_iconst (pc := 11) (v := 0) dX7_loudOf_11 (by decide) ?_
  refine ev_istore (pc := 12) (lv' := [(4, .int 0), (3, .int 0), (2, .int (-1)), (0, .ref 53), (1, .int x1)]) dX7_loudOf_12 (Nat.le_of_ble_eq_true rfl) rfl ?_
  refine ev_sub [3, 4, 2, 1, 0] rfl ?_
  exact ev_X7_loudOf_b14 n x1 n (-1) 0 0 q330
-- X7_loud
def mX7_loud : Md := (RX7, cX7_loud, 2, some .int, none)
theorem mv_X7_loud : ag_Mv yX7_loud mX7_loud 1 := ⟨ag_co_X7_loud, ag_im_X7_loud, ag_se_X7_loud, ag_ini_X7, by decide +kernel⟩
theorem dX7_loud_0 : decode mX7_loud.2.1 0 = .ok (.iload_n 1, 1) := by decide +kernel
theorem dX7_loud_1 : decode mX7_loud.2.1 1 = .ok (.iconst 0, 1) := by decide +kernel
theorem dX7_loud_2 : decode mX7_loud.2.1 2 = .ok (.iconst 1, 1) := by decide +kernel
theorem dX7_loud_3 : decode mX7_loud.2.1 3 = .ok (.invokestatic 85, 3) := by decide +kernel
theorem dX7_loud_6 : decode mX7_loud.2.1 6 = .ok (.ifCond .eq 11, 3) := by decide +kernel
theorem dX7_loud_9 : decode mX7_loud.2.1 9 = .ok (.aload_n 0, 1) := by decide +kernel
theorem dX7_loud_10 : decode mX7_loud.2.1 10 = .ok (.iload_n 1, 1) := by decide +kernel
theorem dX7_loud_11 : decode mX7_loud.2.1 11 = .ok (.invokevirtual 208, 3) := by decide +kernel
theorem dX7_loud_14 : decode mX7_loud.2.1 14 = .ok (.goto 5, 3) := by decide +kernel
theorem dX7_loud_17 : decode mX7_loud.2.1 17 = .ok (.bipush (-2), 2) := by decide +kernel
theorem dX7_loud_19 : decode mX7_loud.2.1 19 = .ok (.ireturn, 1) := by decide +kernel
def fn_X7_loud (n : Nat) (x1 : Int32) (σ : Sg) : Option (Int32 × Sg) :=
  (Option.bind (fn_X7_in x1 0 1 σ) fun q331 =>
  (if q331 = 0 then (some ((-2), σ))
  else (Option.bind (fn_X7_loudOf n x1 σ) fun q332 =>
  (some (q332.1, q332.2)))))
set_option maxRecDepth 20000 in
set_option maxHeartbeats 4000000 in
theorem im_X7_loud (n : Nat) (x1 : Int32) (σ : Sg) : Im yX7_loud mX7_loud 7 163 jW [.ref 53, .int x1] σ (fn_X7_loud n x1 σ) := by
  refine Im.of (by decide +kernel) rfl rfl (Nat.le_of_ble_eq_true rfl) ?_
  show Ev mX7_loud 7 163 jW 0 [(0, .ref 53), (1, .int x1)] [] σ (fn_X7_loud n x1 σ)
  unfold fn_X7_loud
  refine ev_iload_n (pc := 0) (i := 1) 1 dX7_loud_0 rfl rfl ?_
  refine ev_iconst (pc := 1) (v := 0) dX7_loud_1 (by decide) ?_
  refine ev_iconst (pc := 2) (v := 1) dX7_loud_2 (by decide) ?_
  refine ev_sI (pc := 3) (as := [.int x1, .int 0, .int 1]) (rest := []) ⟨85, ms_X7_in, ag_ml_X7_85, rfl, (Nat.le_of_ble_eq_true rfl), ⟨(Nat.le_of_ble_eq_true rfl), (Nat.le_of_ble_eq_true rfl)⟩, dX7_loud_3⟩ (im_X7_in x1 0 1 σ) (fun q331 => ?_)
  refine ev_if_eq (pc := 6) (tgt := 17) dX7_loud_6 rfl ?_ ?_
  · refine ev_bipush (pc := 17) (v := (-2)) dX7_loud_17 (by decide) ?_
    exact ev_irW rfl dX7_loud_19
  · refine ev_aload_n (pc := 9) (i := 0) 0 dX7_loud_9 rfl rfl ?_
    refine ev_iload_n (pc := 10) (i := 1) 1 dX7_loud_10 rfl rfl ?_
    refine ev_vW (pc := 11) (as := [.int x1]) (rest := []) ⟨7, 208, 37, TX7, tyX7, ag_C7, ⟨(rfl), (by decide)⟩, mv_X7_loudOf, ag_ml_X7_208, rfl, (Nat.le_of_ble_eq_true rfl), ⟨(Nat.le_of_ble_eq_true rfl), (Nat.le_of_ble_eq_true rfl)⟩, dX7_loud_11⟩ (im_X7_loudOf n x1 σ) (fun q332 => ?_)
    refine ev_goto (pc := 14) (tgt := 19) dX7_loud_14 rfl ?_
    exact ev_irW rfl dX7_loud_19
-- X7_tooSoonNow
def mX7_tooSoonNow : Md := (RX7, cX7_tooSoonNow, 4, some .int, none)
theorem mv_X7_tooSoonNow : ag_Mv yX7_tooSoonNow mX7_tooSoonNow 0 := ⟨ag_co_X7_tooSoonNow, ag_im_X7_tooSoonNow, ag_se_X7_tooSoonNow, ag_ini_X7, by decide +kernel⟩
theorem dX7_tooSoonNow_0 : decode mX7_tooSoonNow.2.1 0 = .ok (.iconst 0, 1) := by decide +kernel
theorem dX7_tooSoonNow_1 : decode mX7_tooSoonNow.2.1 1 = .ok (.istore_n 1, 1) := by decide +kernel
theorem dX7_tooSoonNow_2 : decode mX7_tooSoonNow.2.1 2 = .ok (.aload_n 0, 1) := by decide +kernel
theorem dX7_tooSoonNow_3 : decode mX7_tooSoonNow.2.1 3 = .ok (.invokevirtual 205, 3) := by decide +kernel
theorem dX7_tooSoonNow_6 : decode mX7_tooSoonNow.2.1 6 = .ok (.istore_n 2, 1) := by decide +kernel
theorem dX7_tooSoonNow_7 : decode mX7_tooSoonNow.2.1 7 = .ok (.iconst 0, 1) := by decide +kernel
theorem dX7_tooSoonNow_8 : decode mX7_tooSoonNow.2.1 8 = .ok (.istore_n 3, 1) := by decide +kernel
theorem dX7_tooSoonNow_9 : decode mX7_tooSoonNow.2.1 9 = .ok (.iload_n 3, 1) := by decide +kernel
theorem dX7_tooSoonNow_10 : decode mX7_tooSoonNow.2.1 10 = .ok (.aload_n 0, 1) := by decide +kernel
theorem dX7_tooSoonNow_11 : decode mX7_tooSoonNow.2.1 11 = .ok (.getfield 120, 3) := by decide +kernel
theorem dX7_tooSoonNow_14 : decode mX7_tooSoonNow.2.1 14 = .ok (.if_icmp .ge 54, 3) := by decide +kernel
theorem dX7_tooSoonNow_17 : decode mX7_tooSoonNow.2.1 17 = .ok (.iload_n 2, 1) := by decide +kernel
theorem dX7_tooSoonNow_18 : decode mX7_tooSoonNow.2.1 18 = .ok (.iload_n 3, 1) := by decide +kernel
theorem dX7_tooSoonNow_19 : decode mX7_tooSoonNow.2.1 19 = .ok (.invokestatic 155, 3) := by decide +kernel
theorem dX7_tooSoonNow_22 : decode mX7_tooSoonNow.2.1 22 = .ok (.ifCond .eq 40, 3) := by decide +kernel
theorem dX7_tooSoonNow_25 : decode mX7_tooSoonNow.2.1 25 = .ok (.aload_n 0, 1) := by decide +kernel
theorem dX7_tooSoonNow_26 : decode mX7_tooSoonNow.2.1 26 = .ok (.aload_n 0, 1) := by decide +kernel
theorem dX7_tooSoonNow_27 : decode mX7_tooSoonNow.2.1 27 = .ok (.getfield 28, 3) := by decide +kernel
theorem dX7_tooSoonNow_30 : decode mX7_tooSoonNow.2.1 30 = .ok (.iload_n 3, 1) := by decide +kernel
theorem dX7_tooSoonNow_31 : decode mX7_tooSoonNow.2.1 31 = .ok (.iaload, 1) := by decide +kernel
theorem dX7_tooSoonNow_32 : decode mX7_tooSoonNow.2.1 32 = .ok (.putfield 146, 3) := by decide +kernel
theorem dX7_tooSoonNow_35 : decode mX7_tooSoonNow.2.1 35 = .ok (.aload_n 0, 1) := by decide +kernel
theorem dX7_tooSoonNow_36 : decode mX7_tooSoonNow.2.1 36 = .ok (.sipush 199, 3) := by decide +kernel
theorem dX7_tooSoonNow_39 : decode mX7_tooSoonNow.2.1 39 = .ok (.invokevirtual 179, 3) := by decide +kernel
theorem dX7_tooSoonNow_42 : decode mX7_tooSoonNow.2.1 42 = .ok (.iload_n 1, 1) := by decide +kernel
theorem dX7_tooSoonNow_43 : decode mX7_tooSoonNow.2.1 43 = .ok (.aload_n 0, 1) := by decide +kernel
theorem dX7_tooSoonNow_44 : decode mX7_tooSoonNow.2.1 44 = .ok (.getfield 43, 3) := by decide +kernel
theorem dX7_tooSoonNow_47 : decode mX7_tooSoonNow.2.1 47 = .ok (.iload_n 3, 1) := by decide +kernel
theorem dX7_tooSoonNow_48 : decode mX7_tooSoonNow.2.1 48 = .ok (.iaload, 1) := by decide +kernel
theorem dX7_tooSoonNow_49 : decode mX7_tooSoonNow.2.1 49 = .ok (.iconst (-1), 1) := by decide +kernel
theorem dX7_tooSoonNow_50 : decode mX7_tooSoonNow.2.1 50 = .ok (.if_icmp .eq 9, 3) := by decide +kernel
theorem dX7_tooSoonNow_53 : decode mX7_tooSoonNow.2.1 53 = .ok (.iconst 1, 1) := by decide +kernel
theorem dX7_tooSoonNow_54 : decode mX7_tooSoonNow.2.1 54 = .ok (.iload_n 3, 1) := by decide +kernel
theorem dX7_tooSoonNow_55 : decode mX7_tooSoonNow.2.1 55 = .ok (.ishl, 1) := by decide +kernel
theorem dX7_tooSoonNow_56 : decode mX7_tooSoonNow.2.1 56 = .ok (.goto 4, 3) := by decide +kernel
theorem dX7_tooSoonNow_59 : decode mX7_tooSoonNow.2.1 59 = .ok (.iconst 0, 1) := by decide +kernel
theorem dX7_tooSoonNow_60 : decode mX7_tooSoonNow.2.1 60 = .ok (.ior, 1) := by decide +kernel
theorem dX7_tooSoonNow_61 : decode mX7_tooSoonNow.2.1 61 = .ok (.istore_n 1, 1) := by decide +kernel
theorem dX7_tooSoonNow_62 : decode mX7_tooSoonNow.2.1 62 = .ok (.iinc 3 1, 3) := by decide +kernel
theorem dX7_tooSoonNow_65 : decode mX7_tooSoonNow.2.1 65 = .ok (.goto (-56), 3) := by decide +kernel
theorem dX7_tooSoonNow_68 : decode mX7_tooSoonNow.2.1 68 = .ok (.aload_n 0, 1) := by decide +kernel
theorem dX7_tooSoonNow_69 : decode mX7_tooSoonNow.2.1 69 = .ok (.invokevirtual 80, 3) := by decide +kernel
theorem dX7_tooSoonNow_72 : decode mX7_tooSoonNow.2.1 72 = .ok (.iload_n 1, 1) := by decide +kernel
theorem dX7_tooSoonNow_73 : decode mX7_tooSoonNow.2.1 73 = .ok (.ireturn, 1) := by decide +kernel
def fn_X7_tooSoonNow_b62 (n : Nat)  (k9 : Int32 → Int32 → Int32 → Sg → Option (Int32 × Sg)) (v1 : Int32) (v2 : Int32) (v3 : Int32) (σ : Sg) : Option (Int32 × Sg) :=
  (k9 v1 v2 (v3 + 1) σ)
set_option maxRecDepth 20000 in
set_option maxHeartbeats 4000000 in
theorem ev_X7_tooSoonNow_b62 (n : Nat)  (k9 : Int32 → Int32 → Int32 → Sg → Option (Int32 × Sg)) (hk9 : ∀ (v1 : Int32) (v2 : Int32) (v3 : Int32) (σ : Sg), Ev mX7_tooSoonNow 8 179 jW 9 [(0, .ref 53), (1, .int v1), (2, .int v2), (3, .int v3)] [] σ (k9 v1 v2 v3 σ)) (v1 : Int32) (v2 : Int32) (v3 : Int32) (σ : Sg) : Ev mX7_tooSoonNow 8 179 jW 62 [(0, .ref 53), (1, .int v1), (2, .int v2), (3, .int v3)] [] σ (fn_X7_tooSoonNow_b62 n k9 v1 v2 v3 σ) := by
  unfold fn_X7_tooSoonNow_b62
  refine ev_iinc (pc := 62) (v := (v3 + 1)) (lv' := [(3, .int (v3 + 1)), (0, .ref 53), (1, .int v1), (2, .int v2)]) 3 dX7_tooSoonNow_62 rfl rfl (Nat.le_of_ble_eq_true rfl) rfl ?_
  refine ev_goto (pc := 65) (tgt := 9) dX7_tooSoonNow_65 rfl ?_
  refine ev_sub [1, 2, 3, 0] rfl ?_
  exact hk9 v1 v2 (v3 + 1) σ
def fn_X7_tooSoonNow_b60 (n : Nat)  (k9 : Int32 → Int32 → Int32 → Sg → Option (Int32 × Sg)) (v2 : Int32) (v3 : Int32) (s0 : Int32) (s1 : Int32) (σ : Sg) : Option (Int32 × Sg) :=
  (fn_X7_tooSoonNow_b62 n k9 (s0 ||| s1) v2 v3 σ)
set_option maxRecDepth 20000 in
set_option maxHeartbeats 4000000 in
theorem ev_X7_tooSoonNow_b60 (n : Nat)  (k9 : Int32 → Int32 → Int32 → Sg → Option (Int32 × Sg)) (hk9 : ∀ (v1 : Int32) (v2 : Int32) (v3 : Int32) (σ : Sg), Ev mX7_tooSoonNow 8 179 jW 9 [(0, .ref 53), (1, .int v1), (2, .int v2), (3, .int v3)] [] σ (k9 v1 v2 v3 σ)) (v2 : Int32) (v3 : Int32) (s0 : Int32) (s1 : Int32) (σ : Sg) : Ev mX7_tooSoonNow 8 179 jW 60 [(0, .ref 53), (2, .int v2), (3, .int v3)] [.int s1, .int s0] σ (fn_X7_tooSoonNow_b60 n k9 v2 v3 s0 s1 σ) := by
  unfold fn_X7_tooSoonNow_b60
  refine ev_ior (pc := 60) dX7_tooSoonNow_60 ?_
  refine ev_istore_n (pc := 61) (i := 1) (lv' := [(1, .int (s0 ||| s1)), (0, .ref 53), (2, .int v2), (3, .int v3)]) dX7_tooSoonNow_61 rfl (Nat.le_of_ble_eq_true rfl) rfl ?_
  refine ev_sub [1, 0, 2, 3] rfl ?_
  exact ev_X7_tooSoonNow_b62 n k9 hk9 (s0 ||| s1) v2 v3 σ
def fn_X7_tooSoonNow_b9 (n : Nat)   : Nat → Int32 → Int32 → Int32 → Sg → Option (Int32 × Sg)
  | 0 => fun _ _ _ _ => none
  | i + 1 => fun v1 v2 v3 σ =>
  (if (σ 53 7) ≤ v3 then (Option.bind (fn_X7_asTold σ) fun q333 =>
  (some (v1, q333)))
  else (Option.bind (fn_X7_isIn v2 v3 σ) fun q334 =>
  (if q334 = 0 then (fn_X7_tooSoonNow_b62 n (fn_X7_tooSoonNow_b9 n i) v1 v2 v3 σ)
  else (if ag_ib v3 13 = true then (Option.bind (fn_X7_runsTo n 199 (ag_up σ 53 16 (σ 60 v3.toNatClampNeg))) fun q335 =>
  (if ag_ib v3 13 = true then (if (q335 65 v3.toNatClampNeg) = (-1) then (fn_X7_tooSoonNow_b60 n (fn_X7_tooSoonNow_b9 n i) v2 v3 v1 0 q335)
  else (fn_X7_tooSoonNow_b60 n (fn_X7_tooSoonNow_b9 n i) v2 v3 v1 (1 <<< (v3 &&& 31)) q335)) else none)) else none))))
theorem fn_X7_tooSoonNow_b9_s (n : Nat)   (i : Nat) (v1 : Int32) (v2 : Int32) (v3 : Int32) (σ : Sg) : fn_X7_tooSoonNow_b9 n (i + 1) v1 v2 v3 σ =
  (if (σ 53 7) ≤ v3 then (Option.bind (fn_X7_asTold σ) fun q333 =>
  (some (v1, q333)))
  else (Option.bind (fn_X7_isIn v2 v3 σ) fun q334 =>
  (if q334 = 0 then (fn_X7_tooSoonNow_b62 n (fn_X7_tooSoonNow_b9 n i) v1 v2 v3 σ)
  else (if ag_ib v3 13 = true then (Option.bind (fn_X7_runsTo n 199 (ag_up σ 53 16 (σ 60 v3.toNatClampNeg))) fun q335 =>
  (if ag_ib v3 13 = true then (if (q335 65 v3.toNatClampNeg) = (-1) then (fn_X7_tooSoonNow_b60 n (fn_X7_tooSoonNow_b9 n i) v2 v3 v1 0 q335)
  else (fn_X7_tooSoonNow_b60 n (fn_X7_tooSoonNow_b9 n i) v2 v3 v1 (1 <<< (v3 &&& 31)) q335)) else none)) else none)))) := rfl
set_option maxRecDepth 20000 in
set_option maxHeartbeats 4000000 in
theorem ev_X7_tooSoonNow_b9 (n : Nat)   : ∀ (i : Nat) (v1 : Int32) (v2 : Int32) (v3 : Int32) (σ : Sg), Ev mX7_tooSoonNow 8 179 jW 9 [(0, .ref 53), (1, .int v1), (2, .int v2), (3, .int v3)] [] σ (fn_X7_tooSoonNow_b9 n i v1 v2 v3 σ) := by
  intro i
  induction i with
  | zero =>
    intro v1 v2 v3 σ
    exact ev_none
  | succ i ih =>
    intro v1 v2 v3 σ
    rw [fn_X7_tooSoonNow_b9_s]
    refine ev_iload_n (pc := 9) (i := 3) 3 dX7_tooSoonNow_9 rfl rfl ?_
    refine ev_aload_n (pc := 10) (i := 0) 0 dX7_tooSoonNow_10 rfl rfl ?_
    refine ev_getI (pc := 11) 7 ag_C7 (rfl) (by decide) (Nat.le_of_ble_eq_true rfl) rfl rfl ag_fl_X7_120 dX7_tooSoonNow_11 ?_
    refine ev_icmp_ge (pc := 14) (tgt := 68) dX7_tooSoonNow_14 rfl ?_ ?_
    · refine ev_aload_n (pc := 68) (i := 0) 0 dX7_tooSoonNow_68 rfl rfl ?_
      refine ev_vV (pc := 69) (as := []) (rest := []) ⟨7, 80, 37, TX7, tyX7, ag_C7, ⟨(rfl), (by decide)⟩, mv_X7_asTold, ag_ml_X7_80, rfl, (Nat.le_of_ble_eq_true rfl), ⟨(Nat.le_of_ble_eq_true rfl), (Nat.le_of_ble_eq_true rfl)⟩, dX7_tooSoonNow_69⟩ (im_X7_asTold σ) (fun q333 => ?_)
      refine ev_iload_n (pc := 72) (i := 1) 1 dX7_tooSoonNow_72 rfl rfl ?_
      exact ev_irW rfl dX7_tooSoonNow_73
    · refine ev_iload_n (pc := 17) (i := 2) 2 dX7_tooSoonNow_17 rfl rfl ?_
      refine ev_iload_n (pc := 18) (i := 3) 3 dX7_tooSoonNow_18 rfl rfl ?_
      refine ev_sI (pc := 19) (as := [.int v2, .int v3]) (rest := []) ⟨155, ms_X7_isIn, ag_ml_X7_155, rfl, (Nat.le_of_ble_eq_true rfl), ⟨(Nat.le_of_ble_eq_true rfl), (Nat.le_of_ble_eq_true rfl)⟩, dX7_tooSoonNow_19⟩ (im_X7_isIn v2 v3 σ) (fun q334 => ?_)
      refine ev_if_eq (pc := 22) (tgt := 62) dX7_tooSoonNow_22 rfl ?_ ?_
      · exact ev_X7_tooSoonNow_b62 n (fn_X7_tooSoonNow_b9 n i) ih v1 v2 v3 σ
      · refine ev_aload_n (pc := 25) (i := 0) 0 dX7_tooSoonNow_25 rfl rfl ?_
        refine ev_aload_n (pc := 26) (i := 0) 0 dX7_tooSoonNow_26 rfl rfl ?_
        refine ev_getR (pc := 27) (t := 60) 9 ag_C7 (rfl) (by decide) (Nat.le_of_ble_eq_true rfl) rfl rfl ag_fl_X7_28 dX7_tooSoonNow_27 ?_
        refine ev_iload_n (pc := 30) (i := 3) 3 dX7_tooSoonNow_30 rfl rfl ?_
        refine ev_iald (pc := 31) (rfl) (by decide) dX7_tooSoonNow_31 ?_
        refine ev_put (pc := 32) 16 ag_C7 (rfl) (by decide) (Nat.le_of_ble_eq_true rfl) rfl rfl ag_fl_X7_146 rfl rfl rfl dX7_tooSoonNow_32 ?_
        refine ev_aload_n (pc := 35) (i := 0) 0 dX7_tooSoonNow_35 rfl rfl ?_
        refine ev_sipush (pc := 36) (v := 199) dX7_tooSoonNow_36 (by decide) ?_
        refine ev_vV (pc := 39) (as := [.int 199]) (rest := []) ⟨7, 179, 37, TX7, tyX7, ag_C7, ⟨(rfl), (by decide)⟩, mv_X7_runsTo, ag_ml_X7_179, rfl, (Nat.le_of_ble_eq_true rfl), ⟨(Nat.le_of_ble_eq_true rfl), (Nat.le_of_ble_eq_true rfl)⟩, dX7_tooSoonNow_39⟩ (im_X7_runsTo n 199 (ag_up σ 53 16 (σ 60 v3.toNatClampNeg))) (fun q335 => ?_)
        refine ev_iload_n (pc := 42) (i := 1) 1 dX7_tooSoonNow_42 rfl rfl ?_
        refine ev_aload_n (pc := 43) (i := 0) 0 dX7_tooSoonNow_43 rfl rfl ?_
        refine ev_getR (pc := 44) (t := 65) 20 ag_C7 (rfl) (by decide) (Nat.le_of_ble_eq_true rfl) rfl rfl ag_fl_X7_43 dX7_tooSoonNow_44 ?_
        refine ev_iload_n (pc := 47) (i := 3) 3 dX7_tooSoonNow_47 rfl rfl ?_
        refine ev_iald (pc := 48) (rfl) (by decide) dX7_tooSoonNow_48 ?_
        refine ev_iconst (pc := 49) (v := (-1)) dX7_tooSoonNow_49 (by decide) ?_
        refine ev_icmp_eq (pc := 50) (tgt := 59) dX7_tooSoonNow_50 rfl ?_ ?_
        · refine ev_iconst (pc := 59) (v := 0) dX7_tooSoonNow_59 (by decide) ?_
          refine ev_sub [0, 2, 3] rfl ?_
          exact ev_X7_tooSoonNow_b60 n (fn_X7_tooSoonNow_b9 n i) ih v2 v3 v1 0 q335
        · refine ev_iconst (pc := 53) (v := 1) dX7_tooSoonNow_53 (by decide) ?_
          refine ev_iload_n (pc := 54) (i := 3) 3 dX7_tooSoonNow_54 rfl rfl ?_
          refine ev_ishl (pc := 55) dX7_tooSoonNow_55 ?_
          refine ev_goto (pc := 56) (tgt := 60) dX7_tooSoonNow_56 rfl ?_
          refine ev_sub [0, 2, 3] rfl ?_
          exact ev_X7_tooSoonNow_b60 n (fn_X7_tooSoonNow_b9 n i) ih v2 v3 v1 (1 <<< (v3 &&& 31)) q335
def fn_X7_tooSoonNow (n : Nat)  (σ : Sg) : Option (Int32 × Sg) :=
  (Option.bind (fn_X7_sealedNow n σ) fun q336 =>
  (fn_X7_tooSoonNow_b9 n n 0 q336.1 0 q336.2))
set_option maxRecDepth 20000 in
set_option maxHeartbeats 4000000 in
theorem im_X7_tooSoonNow (n : Nat)  (σ : Sg) : Im yX7_tooSoonNow mX7_tooSoonNow 8 179 jW [.ref 53] σ (fn_X7_tooSoonNow n  σ) := by
  refine Im.of (by decide +kernel) rfl rfl (Nat.le_of_ble_eq_true rfl) ?_
  show Ev mX7_tooSoonNow 8 179 jW 0 [(0, .ref 53)] [] σ (fn_X7_tooSoonNow n  σ)
  unfold fn_X7_tooSoonNow
  refine ev_iconst (pc := 0) (v := 0) dX7_tooSoonNow_0 (by decide) ?_
  refine ev_istore_n (pc := 1) (i := 1) (lv' := [(1, .int 0), (0, .ref 53)]) dX7_tooSoonNow_1 rfl (Nat.le_of_ble_eq_true rfl) rfl ?_
  refine ev_aload_n (pc := 2) (i := 0) 1 dX7_tooSoonNow_2 rfl rfl ?_
  refine ev_vW (pc := 3) (as := []) (rest := []) ⟨7, 205, 37, TX7, tyX7, ag_C7, ⟨(rfl), (by decide)⟩, mv_X7_sealedNow, ag_ml_X7_205, rfl, (Nat.le_of_ble_eq_true rfl), ⟨(Nat.le_of_ble_eq_true rfl), (Nat.le_of_ble_eq_true rfl)⟩, dX7_tooSoonNow_3⟩ (im_X7_sealedNow n σ) (fun q336 => ?_)
  refine ev_istore_n (pc := 6) (i := 2) (lv' := [(2, .int q336.1), (1, .int 0), (0, .ref 53)]) dX7_tooSoonNow_6 rfl (Nat.le_of_ble_eq_true rfl) rfl ?_
  refine ev_iconst (pc := 7) (v := 0) dX7_tooSoonNow_7 (by decide) ?_
  refine ev_istore_n (pc := 8) (i := 3) (lv' := [(3, .int 0), (2, .int q336.1), (1, .int 0), (0, .ref 53)]) dX7_tooSoonNow_8 rfl (Nat.le_of_ble_eq_true rfl) rfl ?_
  refine ev_sub [3, 2, 1, 0] rfl ?_
  exact ev_X7_tooSoonNow_b9 n n 0 q336.1 0 q336.2
-- X7_tooSoon
def mX7_tooSoon : Md := (RX7, cX7_tooSoon, 1, some .int, none)
theorem mv_X7_tooSoon : ag_Mv yX7_tooSoon mX7_tooSoon 0 := ⟨ag_co_X7_tooSoon, ag_im_X7_tooSoon, ag_se_X7_tooSoon, ag_ini_X7, by decide +kernel⟩
theorem dX7_tooSoon_0 : decode mX7_tooSoon.2.1 0 = .ok (.aload_n 0, 1) := by decide +kernel
theorem dX7_tooSoon_1 : decode mX7_tooSoon.2.1 1 = .ok (.invokevirtual 211, 3) := by decide +kernel
theorem dX7_tooSoon_4 : decode mX7_tooSoon.2.1 4 = .ok (.ireturn, 1) := by decide +kernel
def fn_X7_tooSoon (n : Nat)  (σ : Sg) : Option (Int32 × Sg) :=
  (Option.bind (fn_X7_tooSoonNow n σ) fun q337 =>
  (some (q337.1, q337.2)))
set_option maxRecDepth 20000 in
set_option maxHeartbeats 4000000 in
theorem im_X7_tooSoon (n : Nat)  (σ : Sg) : Im yX7_tooSoon mX7_tooSoon 9 202 jW [.ref 53] σ (fn_X7_tooSoon n  σ) := by
  refine Im.of (by decide +kernel) rfl rfl (Nat.le_of_ble_eq_true rfl) ?_
  show Ev mX7_tooSoon 9 202 jW 0 [(0, .ref 53)] [] σ (fn_X7_tooSoon n  σ)
  unfold fn_X7_tooSoon
  refine ev_aload_n (pc := 0) (i := 0) 0 dX7_tooSoon_0 rfl rfl ?_
  refine ev_vW (pc := 1) (as := []) (rest := []) ⟨7, 211, 37, TX7, tyX7, ag_C7, ⟨(rfl), (by decide)⟩, mv_X7_tooSoonNow, ag_ml_X7_211, rfl, (Nat.le_of_ble_eq_true rfl), ⟨(Nat.le_of_ble_eq_true rfl), (Nat.le_of_ble_eq_true rfl)⟩, dX7_tooSoon_1⟩ (im_X7_tooSoonNow n σ) (fun q337 => ?_)
  exact ev_irW rfl dX7_tooSoon_4
-- X7_sends
def mX7_sends : Md := (RX7, cX7_sends, 9, none, none)
theorem mv_X7_sends : ag_Mv yX7_sends mX7_sends 2 := ⟨ag_co_X7_sends, ag_im_X7_sends, ag_se_X7_sends, ag_ini_X7, by decide +kernel⟩
theorem dX7_sends_0 : decode mX7_sends.2.1 0 = .ok (.aload_n 0, 1) := by decide +kernel
theorem dX7_sends_1 : decode mX7_sends.2.1 1 = .ok (.invokevirtual 104, 3) := by decide +kernel
theorem dX7_sends_4 : decode mX7_sends.2.1 4 = .ok (.iconst 0, 1) := by decide +kernel
theorem dX7_sends_5 : decode mX7_sends.2.1 5 = .ok (.istore_n 3, 1) := by decide +kernel
theorem dX7_sends_6 : decode mX7_sends.2.1 6 = .ok (.iload_n 3, 1) := by decide +kernel
theorem dX7_sends_7 : decode mX7_sends.2.1 7 = .ok (.aload_n 0, 1) := by decide +kernel
theorem dX7_sends_8 : decode mX7_sends.2.1 8 = .ok (.getfield 93, 3) := by decide +kernel
theorem dX7_sends_11 : decode mX7_sends.2.1 11 = .ok (.if_icmp .ge 25, 3) := by decide +kernel
theorem dX7_sends_14 : decode mX7_sends.2.1 14 = .ok (.aload_n 0, 1) := by decide +kernel
theorem dX7_sends_15 : decode mX7_sends.2.1 15 = .ok (.getfield 49, 3) := by decide +kernel
theorem dX7_sends_18 : decode mX7_sends.2.1 18 = .ok (.iload_n 3, 1) := by decide +kernel
theorem dX7_sends_19 : decode mX7_sends.2.1 19 = .ok (.aload_n 0, 1) := by decide +kernel
theorem dX7_sends_20 : decode mX7_sends.2.1 20 = .ok (.iload_n 3, 1) := by decide +kernel
theorem dX7_sends_21 : decode mX7_sends.2.1 21 = .ok (.iload_n 1, 1) := by decide +kernel
theorem dX7_sends_22 : decode mX7_sends.2.1 22 = .ok (.aload_n 0, 1) := by decide +kernel
theorem dX7_sends_23 : decode mX7_sends.2.1 23 = .ok (.getfield 120, 3) := by decide +kernel
theorem dX7_sends_26 : decode mX7_sends.2.1 26 = .ok (.invokevirtual 198, 3) := by decide +kernel
theorem dX7_sends_29 : decode mX7_sends.2.1 29 = .ok (.iastore, 1) := by decide +kernel
theorem dX7_sends_30 : decode mX7_sends.2.1 30 = .ok (.iinc 3 1, 3) := by decide +kernel
theorem dX7_sends_33 : decode mX7_sends.2.1 33 = .ok (.goto (-27), 3) := by decide +kernel
theorem dX7_sends_36 : decode mX7_sends.2.1 36 = .ok (.aload_n 0, 1) := by decide +kernel
theorem dX7_sends_37 : decode mX7_sends.2.1 37 = .ok (.iconst (-1), 1) := by decide +kernel
theorem dX7_sends_38 : decode mX7_sends.2.1 38 = .ok (.putfield 214, 3) := by decide +kernel
theorem dX7_sends_41 : decode mX7_sends.2.1 41 = .ok (.aload_n 0, 1) := by decide +kernel
theorem dX7_sends_42 : decode mX7_sends.2.1 42 = .ok (.iconst (-1), 1) := by decide +kernel
theorem dX7_sends_43 : decode mX7_sends.2.1 43 = .ok (.putfield 217, 3) := by decide +kernel
theorem dX7_sends_46 : decode mX7_sends.2.1 46 = .ok (.aload_n 0, 1) := by decide +kernel
theorem dX7_sends_47 : decode mX7_sends.2.1 47 = .ok (.iconst (-1), 1) := by decide +kernel
theorem dX7_sends_48 : decode mX7_sends.2.1 48 = .ok (.putfield 220, 3) := by decide +kernel
theorem dX7_sends_51 : decode mX7_sends.2.1 51 = .ok (.aload_n 0, 1) := by decide +kernel
theorem dX7_sends_52 : decode mX7_sends.2.1 52 = .ok (.getfield 49, 3) := by decide +kernel
theorem dX7_sends_55 : decode mX7_sends.2.1 55 = .ok (.iload_n 2, 1) := by decide +kernel
theorem dX7_sends_56 : decode mX7_sends.2.1 56 = .ok (.iaload, 1) := by decide +kernel
theorem dX7_sends_57 : decode mX7_sends.2.1 57 = .ok (.iconst (-1), 1) := by decide +kernel
theorem dX7_sends_58 : decode mX7_sends.2.1 58 = .ok (.if_icmp .ne 9, 3) := by decide +kernel
theorem dX7_sends_61 : decode mX7_sends.2.1 61 = .ok (.sipush 200, 3) := by decide +kernel
theorem dX7_sends_64 : decode mX7_sends.2.1 64 = .ok (.goto 9, 3) := by decide +kernel
theorem dX7_sends_67 : decode mX7_sends.2.1 67 = .ok (.aload_n 0, 1) := by decide +kernel
theorem dX7_sends_68 : decode mX7_sends.2.1 68 = .ok (.getfield 49, 3) := by decide +kernel
theorem dX7_sends_71 : decode mX7_sends.2.1 71 = .ok (.iload_n 2, 1) := by decide +kernel
theorem dX7_sends_72 : decode mX7_sends.2.1 72 = .ok (.iaload, 1) := by decide +kernel
theorem dX7_sends_73 : decode mX7_sends.2.1 73 = .ok (.istore_n 3, 1) := by decide +kernel
theorem dX7_sends_74 : decode mX7_sends.2.1 74 = .ok (.iconst 0, 1) := by decide +kernel
theorem dX7_sends_75 : decode mX7_sends.2.1 75 = .ok (.istore 4, 2) := by decide +kernel
theorem dX7_sends_77 : decode mX7_sends.2.1 77 = .ok (.iload 4, 2) := by decide +kernel
theorem dX7_sends_79 : decode mX7_sends.2.1 79 = .ok (.aload_n 0, 1) := by decide +kernel
theorem dX7_sends_80 : decode mX7_sends.2.1 80 = .ok (.getfield 93, 3) := by decide +kernel
theorem dX7_sends_83 : decode mX7_sends.2.1 83 = .ok (.if_icmp .ge 164, 3) := by decide +kernel
theorem dX7_sends_86 : decode mX7_sends.2.1 86 = .ok (.iconst 0, 1) := by decide +kernel
theorem dX7_sends_87 : decode mX7_sends.2.1 87 = .ok (.istore 5, 2) := by decide +kernel
theorem dX7_sends_89 : decode mX7_sends.2.1 89 = .ok (.iload 5, 2) := by decide +kernel
theorem dX7_sends_91 : decode mX7_sends.2.1 91 = .ok (.sipush 200, 3) := by decide +kernel
theorem dX7_sends_94 : decode mX7_sends.2.1 94 = .ok (.if_icmp .ge 147, 3) := by decide +kernel
theorem dX7_sends_97 : decode mX7_sends.2.1 97 = .ok (.iload 5, 2) := by decide +kernel
theorem dX7_sends_99 : decode mX7_sends.2.1 99 = .ok (.iload_n 3, 1) := by decide +kernel
theorem dX7_sends_100 : decode mX7_sends.2.1 100 = .ok (.if_icmp .ge 141, 3) := by decide +kernel
theorem dX7_sends_103 : decode mX7_sends.2.1 103 = .ok (.iload 4, 2) := by decide +kernel
theorem dX7_sends_105 : decode mX7_sends.2.1 105 = .ok (.iload_n 2, 1) := by decide +kernel
theorem dX7_sends_106 : decode mX7_sends.2.1 106 = .ok (.if_icmp .eq 135, 3) := by decide +kernel
theorem dX7_sends_109 : decode mX7_sends.2.1 109 = .ok (.aload_n 0, 1) := by decide +kernel
theorem dX7_sends_110 : decode mX7_sends.2.1 110 = .ok (.getfield 22, 3) := by decide +kernel
theorem dX7_sends_113 : decode mX7_sends.2.1 113 = .ok (.iload 4, 2) := by decide +kernel
theorem dX7_sends_115 : decode mX7_sends.2.1 115 = .ok (.iaload, 1) := by decide +kernel
theorem dX7_sends_116 : decode mX7_sends.2.1 116 = .ok (.iload_n 1, 1) := by decide +kernel
theorem dX7_sends_117 : decode mX7_sends.2.1 117 = .ok (.invokestatic 155, 3) := by decide +kernel
theorem dX7_sends_120 : decode mX7_sends.2.1 120 = .ok (.istore 6, 2) := by decide +kernel
theorem dX7_sends_122 : decode mX7_sends.2.1 122 = .ok (.iload 6, 2) := by decide +kernel
theorem dX7_sends_124 : decode mX7_sends.2.1 124 = .ok (.ifCond .ne 26, 3) := by decide +kernel
theorem dX7_sends_127 : decode mX7_sends.2.1 127 = .ok (.aload_n 0, 1) := by decide +kernel
theorem dX7_sends_128 : decode mX7_sends.2.1 128 = .ok (.getfield 49, 3) := by decide +kernel
theorem dX7_sends_131 : decode mX7_sends.2.1 131 = .ok (.iload 4, 2) := by decide +kernel
theorem dX7_sends_133 : decode mX7_sends.2.1 133 = .ok (.iaload, 1) := by decide +kernel
theorem dX7_sends_134 : decode mX7_sends.2.1 134 = .ok (.iconst (-1), 1) := by decide +kernel
theorem dX7_sends_135 : decode mX7_sends.2.1 135 = .ok (.if_icmp .eq 19, 3) := by decide +kernel
theorem dX7_sends_138 : decode mX7_sends.2.1 138 = .ok (.aload_n 0, 1) := by decide +kernel
theorem dX7_sends_139 : decode mX7_sends.2.1 139 = .ok (.getfield 49, 3) := by decide +kernel
theorem dX7_sends_142 : decode mX7_sends.2.1 142 = .ok (.iload 4, 2) := by decide +kernel
theorem dX7_sends_144 : decode mX7_sends.2.1 144 = .ok (.iaload, 1) := by decide +kernel
theorem dX7_sends_145 : decode mX7_sends.2.1 145 = .ok (.iload 5, 2) := by decide +kernel
theorem dX7_sends_147 : decode mX7_sends.2.1 147 = .ok (.if_icmp .ge 7, 3) := by decide +kernel
theorem dX7_sends_150 : decode mX7_sends.2.1 150 = .ok (.iconst 1, 1) := by decide +kernel
theorem dX7_sends_151 : decode mX7_sends.2.1 151 = .ok (.goto 4, 3) := by decide +kernel
theorem dX7_sends_154 : decode mX7_sends.2.1 154 = .ok (.iconst 0, 1) := by decide +kernel
theorem dX7_sends_155 : decode mX7_sends.2.1 155 = .ok (.istore 7, 2) := by decide +kernel
theorem dX7_sends_157 : decode mX7_sends.2.1 157 = .ok (.iload 7, 2) := by decide +kernel
theorem dX7_sends_159 : decode mX7_sends.2.1 159 = .ok (.ifCond .eq 76, 3) := by decide +kernel
theorem dX7_sends_162 : decode mX7_sends.2.1 162 = .ok (.aload_n 0, 1) := by decide +kernel
theorem dX7_sends_163 : decode mX7_sends.2.1 163 = .ok (.iload 4, 2) := by decide +kernel
theorem dX7_sends_165 : decode mX7_sends.2.1 165 = .ok (.iload 5, 2) := by decide +kernel
theorem dX7_sends_167 : decode mX7_sends.2.1 167 = .ok (.invokevirtual 162, 3) := by decide +kernel
theorem dX7_sends_170 : decode mX7_sends.2.1 170 = .ok (.ifCond .eq 65, 3) := by decide +kernel
theorem dX7_sends_173 : decode mX7_sends.2.1 173 = .ok (.aload_n 0, 1) := by decide +kernel
theorem dX7_sends_174 : decode mX7_sends.2.1 174 = .ok (.aload_n 0, 1) := by decide +kernel
theorem dX7_sends_175 : decode mX7_sends.2.1 175 = .ok (.getfield 120, 3) := by decide +kernel
theorem dX7_sends_178 : decode mX7_sends.2.1 178 = .ok (.iload 4, 2) := by decide +kernel
theorem dX7_sends_180 : decode mX7_sends.2.1 180 = .ok (.iload_n 2, 1) := by decide +kernel
theorem dX7_sends_181 : decode mX7_sends.2.1 181 = .ok (.iload 5, 2) := by decide +kernel
theorem dX7_sends_183 : decode mX7_sends.2.1 183 = .ok (.iload_n 1, 1) := by decide +kernel
theorem dX7_sends_184 : decode mX7_sends.2.1 184 = .ok (.iconst (-1), 1) := by decide +kernel
theorem dX7_sends_185 : decode mX7_sends.2.1 185 = .ok (.invokevirtual 123, 3) := by decide +kernel
theorem dX7_sends_188 : decode mX7_sends.2.1 188 = .ok (.aload_n 0, 1) := by decide +kernel
theorem dX7_sends_189 : decode mX7_sends.2.1 189 = .ok (.iload_n 2, 1) := by decide +kernel
theorem dX7_sends_190 : decode mX7_sends.2.1 190 = .ok (.iload_n 1, 1) := by decide +kernel
theorem dX7_sends_191 : decode mX7_sends.2.1 191 = .ok (.aload_n 0, 1) := by decide +kernel
theorem dX7_sends_192 : decode mX7_sends.2.1 192 = .ok (.getfield 120, 3) := by decide +kernel
theorem dX7_sends_195 : decode mX7_sends.2.1 195 = .ok (.iconst 1, 1) := by decide +kernel
theorem dX7_sends_196 : decode mX7_sends.2.1 196 = .ok (.iadd, 1) := by decide +kernel
theorem dX7_sends_197 : decode mX7_sends.2.1 197 = .ok (.invokevirtual 198, 3) := by decide +kernel
theorem dX7_sends_200 : decode mX7_sends.2.1 200 = .ok (.istore 8, 2) := by decide +kernel
theorem dX7_sends_202 : decode mX7_sends.2.1 202 = .ok (.iload 8, 2) := by decide +kernel
theorem dX7_sends_204 : decode mX7_sends.2.1 204 = .ok (.iconst (-1), 1) := by decide +kernel
theorem dX7_sends_205 : decode mX7_sends.2.1 205 = .ok (.if_icmp .eq 30, 3) := by decide +kernel
theorem dX7_sends_208 : decode mX7_sends.2.1 208 = .ok (.iload 8, 2) := by decide +kernel
theorem dX7_sends_210 : decode mX7_sends.2.1 210 = .ok (.iload_n 3, 1) := by decide +kernel
theorem dX7_sends_211 : decode mX7_sends.2.1 211 = .ok (.if_icmp .ge 24, 3) := by decide +kernel
theorem dX7_sends_214 : decode mX7_sends.2.1 214 = .ok (.iload 8, 2) := by decide +kernel
theorem dX7_sends_216 : decode mX7_sends.2.1 216 = .ok (.istore_n 3, 1) := by decide +kernel
theorem dX7_sends_217 : decode mX7_sends.2.1 217 = .ok (.aload_n 0, 1) := by decide +kernel
theorem dX7_sends_218 : decode mX7_sends.2.1 218 = .ok (.iload 8, 2) := by decide +kernel
theorem dX7_sends_220 : decode mX7_sends.2.1 220 = .ok (.putfield 214, 3) := by decide +kernel
theorem dX7_sends_223 : decode mX7_sends.2.1 223 = .ok (.aload_n 0, 1) := by decide +kernel
theorem dX7_sends_224 : decode mX7_sends.2.1 224 = .ok (.iload 4, 2) := by decide +kernel
theorem dX7_sends_226 : decode mX7_sends.2.1 226 = .ok (.putfield 217, 3) := by decide +kernel
theorem dX7_sends_229 : decode mX7_sends.2.1 229 = .ok (.aload_n 0, 1) := by decide +kernel
theorem dX7_sends_230 : decode mX7_sends.2.1 230 = .ok (.iload 5, 2) := by decide +kernel
theorem dX7_sends_232 : decode mX7_sends.2.1 232 = .ok (.putfield 220, 3) := by decide +kernel
theorem dX7_sends_235 : decode mX7_sends.2.1 235 = .ok (.iinc 5 1, 3) := by decide +kernel
theorem dX7_sends_238 : decode mX7_sends.2.1 238 = .ok (.goto (-149), 3) := by decide +kernel
theorem dX7_sends_241 : decode mX7_sends.2.1 241 = .ok (.iinc 4 1, 3) := by decide +kernel
theorem dX7_sends_244 : decode mX7_sends.2.1 244 = .ok (.goto (-167), 3) := by decide +kernel
theorem dX7_sends_247 : decode mX7_sends.2.1 247 = .ok (.return_, 1) := by decide +kernel
def fn_X7_sends_b241 (n : Nat) (x1 : Int32) (x2 : Int32) (k77 : Int32 → Int32 → Sg → Option Sg) (v3 : Int32) (v4 : Int32) (σ : Sg) : Option Sg :=
  (k77 v3 (v4 + 1) σ)
set_option maxRecDepth 20000 in
set_option maxHeartbeats 4000000 in
theorem ev_X7_sends_b241 (n : Nat) (x1 : Int32) (x2 : Int32) (k77 : Int32 → Int32 → Sg → Option Sg) (hk77 : ∀ (v3 : Int32) (v4 : Int32) (σ : Sg), Ev mX7_sends 6 143 jV 77 [(0, .ref 53), (1, .int x1), (2, .int x2), (3, .int v3), (4, .int v4)] [] σ (k77 v3 v4 σ)) (v3 : Int32) (v4 : Int32) (σ : Sg) : Ev mX7_sends 6 143 jV 241 [(0, .ref 53), (1, .int x1), (2, .int x2), (3, .int v3), (4, .int v4)] [] σ (fn_X7_sends_b241 n x1 x2 k77 v3 v4 σ) := by
  unfold fn_X7_sends_b241
  refine ev_iinc (pc := 241) (v := (v4 + 1)) (lv' := [(4, .int (v4 + 1)), (0, .ref 53), (1, .int x1), (2, .int x2), (3, .int v3)]) 4 dX7_sends_241 rfl rfl (Nat.le_of_ble_eq_true rfl) rfl ?_
  refine ev_goto (pc := 244) (tgt := 77) dX7_sends_244 rfl ?_
  refine ev_sub [1, 2, 3, 4, 0] rfl ?_
  exact hk77 v3 (v4 + 1) σ
def fn_X7_sends_b235 (n : Nat) (x1 : Int32) (x2 : Int32) (k77 : Int32 → Int32 → Sg → Option Sg) (k89 : Int32 → Int32 → Int32 → Sg → Option Sg) (v3 : Int32) (v4 : Int32) (v5 : Int32) (σ : Sg) : Option Sg :=
  (k89 v3 v4 (v5 + 1) σ)
set_option maxRecDepth 20000 in
set_option maxHeartbeats 4000000 in
theorem ev_X7_sends_b235 (n : Nat) (x1 : Int32) (x2 : Int32) (k77 : Int32 → Int32 → Sg → Option Sg) (hk77 : ∀ (v3 : Int32) (v4 : Int32) (σ : Sg), Ev mX7_sends 6 143 jV 77 [(0, .ref 53), (1, .int x1), (2, .int x2), (3, .int v3), (4, .int v4)] [] σ (k77 v3 v4 σ)) (k89 : Int32 → Int32 → Int32 → Sg → Option Sg) (hk89 : ∀ (v3 : Int32) (v4 : Int32) (v5 : Int32) (σ : Sg), Ev mX7_sends 6 143 jV 89 [(0, .ref 53), (1, .int x1), (2, .int x2), (3, .int v3), (4, .int v4), (5, .int v5)] [] σ (k89 v3 v4 v5 σ)) (v3 : Int32) (v4 : Int32) (v5 : Int32) (σ : Sg) : Ev mX7_sends 6 143 jV 235 [(0, .ref 53), (1, .int x1), (2, .int x2), (3, .int v3), (4, .int v4), (5, .int v5)] [] σ (fn_X7_sends_b235 n x1 x2 k77 k89 v3 v4 v5 σ) := by
  unfold fn_X7_sends_b235
  refine ev_iinc (pc := 235) (v := (v5 + 1)) (lv' := [(5, .int (v5 + 1)), (0, .ref 53), (1, .int x1), (2, .int x2), (3, .int v3), (4, .int v4)]) 5 dX7_sends_235 rfl rfl (Nat.le_of_ble_eq_true rfl) rfl ?_
  refine ev_goto (pc := 238) (tgt := 89) dX7_sends_238 rfl ?_
  refine ev_sub [1, 2, 3, 4, 5, 0] rfl ?_
  exact hk89 v3 v4 (v5 + 1) σ
def fn_X7_sends_b155 (n : Nat) (x1 : Int32) (x2 : Int32) (k77 : Int32 → Int32 → Sg → Option Sg) (k89 : Int32 → Int32 → Int32 → Sg → Option Sg) (v3 : Int32) (v4 : Int32) (v5 : Int32) (s0 : Int32) (σ : Sg) : Option Sg :=
  (if s0 = 0 then (fn_X7_sends_b235 n x1 x2 k77 k89 v3 v4 v5 σ)
  else (Option.bind (fn_X7_lives v4 v5 σ) fun q338 =>
  (if q338 = 0 then (fn_X7_sends_b235 n x1 x2 k77 k89 v3 v4 v5 σ)
  else (Option.bind (fn_X7_lays (σ 53 7) v4 x2 v5 x1 (-1) σ) fun q339 =>
  (Option.bind (fn_X7_learnsIn n x2 x1 ((q339 53 7) + 1) q339) fun q340 =>
  (if q340.1 = (-1) then (fn_X7_sends_b235 n x1 x2 k77 k89 v3 v4 v5 q340.2)
  else (if v3 ≤ q340.1 then (fn_X7_sends_b235 n x1 x2 k77 k89 v3 v4 v5 q340.2)
  else (ag_sg (ag_up (ag_up q340.2 53 22 q340.1) 53 23 v4) fun t341 =>
  (fn_X7_sends_b235 n x1 x2 k77 k89 q340.1 v4 v5 (ag_up t341 53 24 v5))))))))))
set_option maxRecDepth 20000 in
set_option maxHeartbeats 4000000 in
theorem ev_X7_sends_b155 (n : Nat) (x1 : Int32) (x2 : Int32) (k77 : Int32 → Int32 → Sg → Option Sg) (hk77 : ∀ (v3 : Int32) (v4 : Int32) (σ : Sg), Ev mX7_sends 6 143 jV 77 [(0, .ref 53), (1, .int x1), (2, .int x2), (3, .int v3), (4, .int v4)] [] σ (k77 v3 v4 σ)) (k89 : Int32 → Int32 → Int32 → Sg → Option Sg) (hk89 : ∀ (v3 : Int32) (v4 : Int32) (v5 : Int32) (σ : Sg), Ev mX7_sends 6 143 jV 89 [(0, .ref 53), (1, .int x1), (2, .int x2), (3, .int v3), (4, .int v4), (5, .int v5)] [] σ (k89 v3 v4 v5 σ)) (v3 : Int32) (v4 : Int32) (v5 : Int32) (s0 : Int32) (σ : Sg) : Ev mX7_sends 6 143 jV 155 [(0, .ref 53), (1, .int x1), (2, .int x2), (3, .int v3), (4, .int v4), (5, .int v5)] [.int s0] σ (fn_X7_sends_b155 n x1 x2 k77 k89 v3 v4 v5 s0 σ) := by
  unfold fn_X7_sends_b155
  refine ev_istore (pc := 155) (lv' := [(7, .int s0), (0, .ref 53), (1, .int x1), (2, .int x2), (3, .int v3), (4, .int v4), (5, .int v5)]) dX7_sends_155 (Nat.le_of_ble_eq_true rfl) rfl ?_
  refine ev_iload (pc := 157) 0 dX7_sends_157 rfl ?_
  refine ev_if_eq (pc := 159) (tgt := 235) dX7_sends_159 rfl ?_ ?_
  · refine ev_sub [1, 2, 3, 4, 5, 6] rfl ?_
    exact ev_X7_sends_b235 n x1 x2 k77 hk77 k89 hk89 v3 v4 v5 σ
  · refine ev_aload_n (pc := 162) (i := 0) 1 dX7_sends_162 rfl rfl ?_
    refine ev_iload (pc := 163) 5 dX7_sends_163 rfl ?_
    refine ev_iload (pc := 165) 6 dX7_sends_165 rfl ?_
    refine ev_vI (pc := 167) (as := [.int v4, .int v5]) (rest := []) ⟨7, 162, 37, TX7, tyX7, ag_C7, ⟨(rfl), (by decide)⟩, mv_X7_lives, ag_ml_X7_162, rfl, (Nat.le_of_ble_eq_true rfl), ⟨(Nat.le_of_ble_eq_true rfl), (Nat.le_of_ble_eq_true rfl)⟩, dX7_sends_167⟩ (im_X7_lives v4 v5 σ) (fun q338 => ?_)
    refine ev_if_eq (pc := 170) (tgt := 235) dX7_sends_170 rfl ?_ ?_
    · refine ev_sub [1, 2, 3, 4, 5, 6] rfl ?_
      exact ev_X7_sends_b235 n x1 x2 k77 hk77 k89 hk89 v3 v4 v5 σ
    · refine ev_aload_n (pc := 173) (i := 0) 1 dX7_sends_173 rfl rfl ?_
      refine ev_aload_n (pc := 174) (i := 0) 1 dX7_sends_174 rfl rfl ?_
      refine ev_getI (pc := 175) 7 ag_C7 (rfl) (by decide) (Nat.le_of_ble_eq_true rfl) rfl rfl ag_fl_X7_120 dX7_sends_175 ?_
      refine ev_iload (pc := 178) 5 dX7_sends_178 rfl ?_
      refine ev_iload_n (pc := 180) (i := 2) 3 dX7_sends_180 rfl rfl ?_
      refine ev_iload (pc := 181) 6 dX7_sends_181 rfl ?_
      refine ev_iload_n (pc := 183) (i := 1) 2 dX7_sends_183 rfl rfl ?_
      refine ev_iconst (pc := 184) (v := (-1)) dX7_sends_184 (by decide) ?_
      refine ev_vV (pc := 185) (as := [.int (σ 53 7), .int v4, .int x2, .int v5, .int x1, .int (-1)]) (rest := []) ⟨7, 123, 37, TX7, tyX7, ag_C7, ⟨(rfl), (by decide)⟩, mv_X7_lays, ag_ml_X7_123, rfl, (Nat.le_of_ble_eq_true rfl), ⟨(Nat.le_of_ble_eq_true rfl), (Nat.le_of_ble_eq_true rfl)⟩, dX7_sends_185⟩ (im_X7_lays (σ 53 7) v4 x2 v5 x1 (-1) σ) (fun q339 => ?_)
      refine ev_aload_n (pc := 188) (i := 0) 1 dX7_sends_188 rfl rfl ?_
      refine ev_iload_n (pc := 189) (i := 2) 3 dX7_sends_189 rfl rfl ?_
      refine ev_iload_n (pc := 190) (i := 1) 2 dX7_sends_190 rfl rfl ?_
      refine ev_aload_n (pc := 191) (i := 0) 1 dX7_sends_191 rfl rfl ?_
      refine ev_getI (pc := 192) 7 ag_C7 (rfl) (by decide) (Nat.le_of_ble_eq_true rfl) rfl rfl ag_fl_X7_120 dX7_sends_192 ?_
      refine ev_iconst (pc := 195) (v := 1) dX7_sends_195 (by decide) ?_
      refine ev_iadd (pc := 196) dX7_sends_196 ?_
      refine ev_vW (pc := 197) (as := [.int x2, .int x1, .int ((q339 53 7) + 1)]) (rest := []) ⟨7, 198, 37, TX7, tyX7, ag_C7, ⟨(rfl), (by decide)⟩, mv_X7_learnsIn, ag_ml_X7_198, rfl, (Nat.le_of_ble_eq_true rfl), ⟨(Nat.le_of_ble_eq_true rfl), (Nat.le_of_ble_eq_true rfl)⟩, dX7_sends_197⟩ (im_X7_learnsIn n x2 x1 ((q339 53 7) + 1) q339) (fun q340 => ?_)
      refine ev_istore (pc := 200) (lv' := [(8, .int q340.1), (7, .int s0), (0, .ref 53), (1, .int x1), (2, .int x2), (3, .int v3), (4, .int v4), (5, .int v5)]) dX7_sends_200 (Nat.le_of_ble_eq_true rfl) rfl ?_
      refine ev_iload (pc := 202) 0 dX7_sends_202 rfl ?_
      refine ev_iconst (pc := 204) (v := (-1)) dX7_sends_204 (by decide) ?_
      refine ev_icmp_eq (pc := 205) (tgt := 235) dX7_sends_205 rfl ?_ ?_
      · refine ev_sub [2, 3, 4, 5, 6, 7] rfl ?_
        exact ev_X7_sends_b235 n x1 x2 k77 hk77 k89 hk89 v3 v4 v5 q340.2
      · refine ev_iload (pc := 208) 0 dX7_sends_208 rfl ?_
        refine ev_iload_n (pc := 210) (i := 3) 5 dX7_sends_210 rfl rfl ?_
        refine ev_icmp_ge (pc := 211) (tgt := 235) dX7_sends_211 rfl ?_ ?_
        · refine ev_sub [2, 3, 4, 5, 6, 7] rfl ?_
          exact ev_X7_sends_b235 n x1 x2 k77 hk77 k89 hk89 v3 v4 v5 q340.2
        · refine ev_iload (pc := 214) 0 dX7_sends_214 rfl ?_
          refine ev_istore_n (pc := 216) (i := 3) (lv' := [(3, .int q340.1), (8, .int q340.1), (7, .int s0), (0, .ref 53), (1, .int x1), (2, .int x2), (4, .int v4), (5, .int v5)]) dX7_sends_216 rfl (Nat.le_of_ble_eq_true rfl) rfl ?_
          refine ev_aload_n (pc := 217) (i := 0) 3 dX7_sends_217 rfl rfl ?_
          refine ev_iload (pc := 218) 1 dX7_sends_218 rfl ?_
          refine ev_put (pc := 220) 22 ag_C7 (rfl) (by decide) (Nat.le_of_ble_eq_true rfl) rfl rfl ag_fl_X7_214 rfl rfl rfl dX7_sends_220 ?_
          refine ev_aload_n (pc := 223) (i := 0) 3 dX7_sends_223 rfl rfl ?_
          refine ev_iload (pc := 224) 6 dX7_sends_224 rfl ?_
          refine ev_put (pc := 226) 23 ag_C7 (rfl) (by decide) (Nat.le_of_ble_eq_true rfl) rfl rfl ag_fl_X7_217 rfl rfl rfl dX7_sends_226 ?_
          refine ev_sg (fun t341 => ?_)
          refine ev_aload_n (pc := 229) (i := 0) 3 dX7_sends_229 rfl rfl ?_
          refine ev_iload (pc := 230) 7 dX7_sends_230 rfl ?_
          refine ev_put (pc := 232) 24 ag_C7 (rfl) (by decide) (Nat.le_of_ble_eq_true rfl) rfl rfl ag_fl_X7_220 rfl rfl rfl dX7_sends_232 ?_
          refine ev_sub [3, 4, 5, 0, 6, 7] rfl ?_
          exact ev_X7_sends_b235 n x1 x2 k77 hk77 k89 hk89 q340.1 v4 v5 (ag_up t341 53 24 v5)
def fn_X7_sends_b154 (n : Nat) (x1 : Int32) (x2 : Int32) (k77 : Int32 → Int32 → Sg → Option Sg) (k89 : Int32 → Int32 → Int32 → Sg → Option Sg) (v3 : Int32) (v4 : Int32) (v5 : Int32) (σ : Sg) : Option Sg :=
  (fn_X7_sends_b155 n x1 x2 k77 k89 v3 v4 v5 0 σ)
set_option maxRecDepth 20000 in
set_option maxHeartbeats 4000000 in
theorem ev_X7_sends_b154 (n : Nat) (x1 : Int32) (x2 : Int32) (k77 : Int32 → Int32 → Sg → Option Sg) (hk77 : ∀ (v3 : Int32) (v4 : Int32) (σ : Sg), Ev mX7_sends 6 143 jV 77 [(0, .ref 53), (1, .int x1), (2, .int x2), (3, .int v3), (4, .int v4)] [] σ (k77 v3 v4 σ)) (k89 : Int32 → Int32 → Int32 → Sg → Option Sg) (hk89 : ∀ (v3 : Int32) (v4 : Int32) (v5 : Int32) (σ : Sg), Ev mX7_sends 6 143 jV 89 [(0, .ref 53), (1, .int x1), (2, .int x2), (3, .int v3), (4, .int v4), (5, .int v5)] [] σ (k89 v3 v4 v5 σ)) (v3 : Int32) (v4 : Int32) (v5 : Int32) (σ : Sg) : Ev mX7_sends 6 143 jV 154 [(0, .ref 53), (1, .int x1), (2, .int x2), (3, .int v3), (4, .int v4), (5, .int v5)] [] σ (fn_X7_sends_b154 n x1 x2 k77 k89 v3 v4 v5 σ) := by
  unfold fn_X7_sends_b154
  refine ev_iconst (pc := 154) (v := 0) dX7_sends_154 (by decide) ?_
  exact ev_X7_sends_b155 n x1 x2 k77 hk77 k89 hk89 v3 v4 v5 0 σ
def fn_X7_sends_b150 (n : Nat) (x1 : Int32) (x2 : Int32) (k77 : Int32 → Int32 → Sg → Option Sg) (k89 : Int32 → Int32 → Int32 → Sg → Option Sg) (v3 : Int32) (v4 : Int32) (v5 : Int32) (σ : Sg) : Option Sg :=
  (fn_X7_sends_b155 n x1 x2 k77 k89 v3 v4 v5 1 σ)
set_option maxRecDepth 20000 in
set_option maxHeartbeats 4000000 in
theorem ev_X7_sends_b150 (n : Nat) (x1 : Int32) (x2 : Int32) (k77 : Int32 → Int32 → Sg → Option Sg) (hk77 : ∀ (v3 : Int32) (v4 : Int32) (σ : Sg), Ev mX7_sends 6 143 jV 77 [(0, .ref 53), (1, .int x1), (2, .int x2), (3, .int v3), (4, .int v4)] [] σ (k77 v3 v4 σ)) (k89 : Int32 → Int32 → Int32 → Sg → Option Sg) (hk89 : ∀ (v3 : Int32) (v4 : Int32) (v5 : Int32) (σ : Sg), Ev mX7_sends 6 143 jV 89 [(0, .ref 53), (1, .int x1), (2, .int x2), (3, .int v3), (4, .int v4), (5, .int v5)] [] σ (k89 v3 v4 v5 σ)) (v3 : Int32) (v4 : Int32) (v5 : Int32) (σ : Sg) : Ev mX7_sends 6 143 jV 150 [(0, .ref 53), (1, .int x1), (2, .int x2), (3, .int v3), (4, .int v4), (5, .int v5)] [] σ (fn_X7_sends_b150 n x1 x2 k77 k89 v3 v4 v5 σ) := by
  unfold fn_X7_sends_b150
  refine ev_iconst (pc := 150) (v := 1) dX7_sends_150 (by decide) ?_
  refine ev_goto (pc := 151) (tgt := 155) dX7_sends_151 rfl ?_
  exact ev_X7_sends_b155 n x1 x2 k77 hk77 k89 hk89 v3 v4 v5 1 σ
def fn_X7_sends_b89 (n : Nat) (x1 : Int32) (x2 : Int32) (k77 : Int32 → Int32 → Sg → Option Sg) : Nat → Int32 → Int32 → Int32 → Sg → Option Sg
  | 0 => fun _ _ _ _ => none
  | i + 1 => fun v3 v4 v5 σ =>
  (if 200 ≤ v5 then (fn_X7_sends_b241 n x1 x2 k77 v3 v4 σ)
  else (if v3 ≤ v5 then (fn_X7_sends_b241 n x1 x2 k77 v3 v4 σ)
  else (if v4 = x2 then (fn_X7_sends_b241 n x1 x2 k77 v3 v4 σ)
  else (if ag_ib v4 10 = true then (Option.bind (fn_X7_isIn (σ 58 v4.toNatClampNeg) x1 σ) fun q342 =>
  (if q342 = 0 then (if ag_ib v4 10 = true then (if (σ 67 v4.toNatClampNeg) = (-1) then (fn_X7_sends_b154 n x1 x2 k77 (fn_X7_sends_b89 n x1 x2 k77 i) v3 v4 v5 σ)
  else (if ag_ib v4 10 = true then (if v5 ≤ (σ 67 v4.toNatClampNeg) then (fn_X7_sends_b154 n x1 x2 k77 (fn_X7_sends_b89 n x1 x2 k77 i) v3 v4 v5 σ)
  else (fn_X7_sends_b150 n x1 x2 k77 (fn_X7_sends_b89 n x1 x2 k77 i) v3 v4 v5 σ)) else none)) else none)
  else (fn_X7_sends_b150 n x1 x2 k77 (fn_X7_sends_b89 n x1 x2 k77 i) v3 v4 v5 σ))) else none))))
theorem fn_X7_sends_b89_s (n : Nat) (x1 : Int32) (x2 : Int32) (k77 : Int32 → Int32 → Sg → Option Sg) (i : Nat) (v3 : Int32) (v4 : Int32) (v5 : Int32) (σ : Sg) : fn_X7_sends_b89 n x1 x2 k77 (i + 1) v3 v4 v5 σ =
  (if 200 ≤ v5 then (fn_X7_sends_b241 n x1 x2 k77 v3 v4 σ)
  else (if v3 ≤ v5 then (fn_X7_sends_b241 n x1 x2 k77 v3 v4 σ)
  else (if v4 = x2 then (fn_X7_sends_b241 n x1 x2 k77 v3 v4 σ)
  else (if ag_ib v4 10 = true then (Option.bind (fn_X7_isIn (σ 58 v4.toNatClampNeg) x1 σ) fun q342 =>
  (if q342 = 0 then (if ag_ib v4 10 = true then (if (σ 67 v4.toNatClampNeg) = (-1) then (fn_X7_sends_b154 n x1 x2 k77 (fn_X7_sends_b89 n x1 x2 k77 i) v3 v4 v5 σ)
  else (if ag_ib v4 10 = true then (if v5 ≤ (σ 67 v4.toNatClampNeg) then (fn_X7_sends_b154 n x1 x2 k77 (fn_X7_sends_b89 n x1 x2 k77 i) v3 v4 v5 σ)
  else (fn_X7_sends_b150 n x1 x2 k77 (fn_X7_sends_b89 n x1 x2 k77 i) v3 v4 v5 σ)) else none)) else none)
  else (fn_X7_sends_b150 n x1 x2 k77 (fn_X7_sends_b89 n x1 x2 k77 i) v3 v4 v5 σ))) else none)))) := rfl
set_option maxRecDepth 20000 in
set_option maxHeartbeats 4000000 in
theorem ev_X7_sends_b89 (n : Nat) (x1 : Int32) (x2 : Int32) (k77 : Int32 → Int32 → Sg → Option Sg) (hk77 : ∀ (v3 : Int32) (v4 : Int32) (σ : Sg), Ev mX7_sends 6 143 jV 77 [(0, .ref 53), (1, .int x1), (2, .int x2), (3, .int v3), (4, .int v4)] [] σ (k77 v3 v4 σ)) : ∀ (i : Nat) (v3 : Int32) (v4 : Int32) (v5 : Int32) (σ : Sg), Ev mX7_sends 6 143 jV 89 [(0, .ref 53), (1, .int x1), (2, .int x2), (3, .int v3), (4, .int v4), (5, .int v5)] [] σ (fn_X7_sends_b89 n x1 x2 k77 i v3 v4 v5 σ) := by
  intro i
  induction i with
  | zero =>
    intro v3 v4 v5 σ
    exact ev_none
  | succ i ih =>
    intro v3 v4 v5 σ
    rw [fn_X7_sends_b89_s]
    refine ev_iload (pc := 89) 5 dX7_sends_89 rfl ?_
    refine ev_sipush (pc := 91) (v := 200) dX7_sends_91 (by decide) ?_
    refine ev_icmp_ge (pc := 94) (tgt := 241) dX7_sends_94 rfl ?_ ?_
    · refine ev_sub [0, 1, 2, 3, 4] rfl ?_
      exact ev_X7_sends_b241 n x1 x2 k77 hk77 v3 v4 σ
    · refine ev_iload (pc := 97) 5 dX7_sends_97 rfl ?_
      refine ev_iload_n (pc := 99) (i := 3) 3 dX7_sends_99 rfl rfl ?_
      refine ev_icmp_ge (pc := 100) (tgt := 241) dX7_sends_100 rfl ?_ ?_
      · refine ev_sub [0, 1, 2, 3, 4] rfl ?_
        exact ev_X7_sends_b241 n x1 x2 k77 hk77 v3 v4 σ
      · refine ev_iload (pc := 103) 4 dX7_sends_103 rfl ?_
        refine ev_iload_n (pc := 105) (i := 2) 2 dX7_sends_105 rfl rfl ?_
        refine ev_icmp_eq (pc := 106) (tgt := 241) dX7_sends_106 rfl ?_ ?_
        · refine ev_sub [0, 1, 2, 3, 4] rfl ?_
          exact ev_X7_sends_b241 n x1 x2 k77 hk77 v3 v4 σ
        · refine ev_aload_n (pc := 109) (i := 0) 0 dX7_sends_109 rfl rfl ?_
          refine ev_getR (pc := 110) (t := 58) 6 ag_C7 (rfl) (by decide) (Nat.le_of_ble_eq_true rfl) rfl rfl ag_fl_X7_22 dX7_sends_110 ?_
          refine ev_iload (pc := 113) 4 dX7_sends_113 rfl ?_
          refine ev_iald (pc := 115) (rfl) (by decide) dX7_sends_115 ?_
          refine ev_iload_n (pc := 116) (i := 1) 1 dX7_sends_116 rfl rfl ?_
          refine ev_sI (pc := 117) (as := [.int (σ 58 v4.toNatClampNeg), .int x1]) (rest := []) ⟨155, ms_X7_isIn, ag_ml_X7_155, rfl, (Nat.le_of_ble_eq_true rfl), ⟨(Nat.le_of_ble_eq_true rfl), (Nat.le_of_ble_eq_true rfl)⟩, dX7_sends_117⟩ (im_X7_isIn (σ 58 v4.toNatClampNeg) x1 σ) (fun q342 => ?_)
          refine ev_istore (pc := 120) (lv' := [(6, .int q342), (0, .ref 53), (1, .int x1), (2, .int x2), (3, .int v3), (4, .int v4), (5, .int v5)]) dX7_sends_120 (Nat.le_of_ble_eq_true rfl) rfl ?_
          refine ev_iload (pc := 122) 0 dX7_sends_122 rfl ?_
          refine ev_if_ne (pc := 124) (tgt := 150) dX7_sends_124 rfl ?_ ?_
          · refine ev_aload_n (pc := 127) (i := 0) 1 dX7_sends_127 rfl rfl ?_
            refine ev_getR (pc := 128) (t := 67) 25 ag_C7 (rfl) (by decide) (Nat.le_of_ble_eq_true rfl) rfl rfl ag_fl_X7_49 dX7_sends_128 ?_
            refine ev_iload (pc := 131) 5 dX7_sends_131 rfl ?_
            refine ev_iald (pc := 133) (rfl) (by decide) dX7_sends_133 ?_
            refine ev_iconst (pc := 134) (v := (-1)) dX7_sends_134 (by decide) ?_
            refine ev_icmp_eq (pc := 135) (tgt := 154) dX7_sends_135 rfl ?_ ?_
            · refine ev_sub [1, 2, 3, 4, 5, 6] rfl ?_
              exact ev_X7_sends_b154 n x1 x2 k77 hk77 (fn_X7_sends_b89 n x1 x2 k77 i) ih v3 v4 v5 σ
            · refine ev_aload_n (pc := 138) (i := 0) 1 dX7_sends_138 rfl rfl ?_
              refine ev_getR (pc := 139) (t := 67) 25 ag_C7 (rfl) (by decide) (Nat.le_of_ble_eq_true rfl) rfl rfl ag_fl_X7_49 dX7_sends_139 ?_
              refine ev_iload (pc := 142) 5 dX7_sends_142 rfl ?_
              refine ev_iald (pc := 144) (rfl) (by decide) dX7_sends_144 ?_
              refine ev_iload (pc := 145) 6 dX7_sends_145 rfl ?_
              refine ev_icmp_ge (pc := 147) (tgt := 154) dX7_sends_147 rfl ?_ ?_
              · refine ev_sub [1, 2, 3, 4, 5, 6] rfl ?_
                exact ev_X7_sends_b154 n x1 x2 k77 hk77 (fn_X7_sends_b89 n x1 x2 k77 i) ih v3 v4 v5 σ
              · refine ev_sub [1, 2, 3, 4, 5, 6] rfl ?_
                exact ev_X7_sends_b150 n x1 x2 k77 hk77 (fn_X7_sends_b89 n x1 x2 k77 i) ih v3 v4 v5 σ
          · refine ev_sub [1, 2, 3, 4, 5, 6] rfl ?_
            exact ev_X7_sends_b150 n x1 x2 k77 hk77 (fn_X7_sends_b89 n x1 x2 k77 i) ih v3 v4 v5 σ
def fn_X7_sends_b77 (n : Nat) (x1 : Int32) (x2 : Int32)  : Nat → Int32 → Int32 → Sg → Option Sg
  | 0 => fun _ _ _ => none
  | i + 1 => fun v3 v4 σ =>
  (if (σ 53 2) ≤ v4 then (some σ)
  else (fn_X7_sends_b89 n x1 x2 (fn_X7_sends_b77 n x1 x2 i) n v3 v4 0 σ))
theorem fn_X7_sends_b77_s (n : Nat) (x1 : Int32) (x2 : Int32)  (i : Nat) (v3 : Int32) (v4 : Int32) (σ : Sg) : fn_X7_sends_b77 n x1 x2 (i + 1) v3 v4 σ =
  (if (σ 53 2) ≤ v4 then (some σ)
  else (fn_X7_sends_b89 n x1 x2 (fn_X7_sends_b77 n x1 x2 i) n v3 v4 0 σ)) := rfl
set_option maxRecDepth 20000 in
set_option maxHeartbeats 4000000 in
theorem ev_X7_sends_b77 (n : Nat) (x1 : Int32) (x2 : Int32)  : ∀ (i : Nat) (v3 : Int32) (v4 : Int32) (σ : Sg), Ev mX7_sends 6 143 jV 77 [(0, .ref 53), (1, .int x1), (2, .int x2), (3, .int v3), (4, .int v4)] [] σ (fn_X7_sends_b77 n x1 x2 i v3 v4 σ) := by
  intro i
  induction i with
  | zero =>
    intro v3 v4 σ
    exact ev_none
  | succ i ih =>
    intro v3 v4 σ
    rw [fn_X7_sends_b77_s]
    refine ev_iload (pc := 77) 4 dX7_sends_77 rfl ?_
    refine ev_aload_n (pc := 79) (i := 0) 0 dX7_sends_79 rfl rfl ?_
    refine ev_getI (pc := 80) 2 ag_C7 (rfl) (by decide) (Nat.le_of_ble_eq_true rfl) rfl rfl ag_fl_X7_93 dX7_sends_80 ?_
    refine ev_icmp_ge (pc := 83) (tgt := 247) dX7_sends_83 rfl ?_ ?_
    · exact ev_rV rfl dX7_sends_247
    · refine ev_iconst (pc := 86) (v := 0) dX7_sends_86 (by decide) ?_
      refine ev_istore (pc := 87) (lv' := [(5, .int 0), (0, .ref 53), (1, .int x1), (2, .int x2), (3, .int v3), (4, .int v4)]) dX7_sends_87 (Nat.le_of_ble_eq_true rfl) rfl ?_
      refine ev_sub [1, 2, 3, 4, 5, 0] rfl ?_
      exact ev_X7_sends_b89 n x1 x2 (fn_X7_sends_b77 n x1 x2 i) ih n v3 v4 0 σ
def fn_X7_sends_b73 (n : Nat) (x1 : Int32) (x2 : Int32)  (s0 : Int32) (σ : Sg) : Option Sg :=
  (fn_X7_sends_b77 n x1 x2 n s0 0 σ)
set_option maxRecDepth 20000 in
set_option maxHeartbeats 4000000 in
theorem ev_X7_sends_b73 (n : Nat) (x1 : Int32) (x2 : Int32)  (s0 : Int32) (σ : Sg) : Ev mX7_sends 6 143 jV 73 [(0, .ref 53), (1, .int x1), (2, .int x2)] [.int s0] σ (fn_X7_sends_b73 n x1 x2 s0 σ) := by
  unfold fn_X7_sends_b73
  refine ev_istore_n (pc := 73) (i := 3) (lv' := [(3, .int s0), (0, .ref 53), (1, .int x1), (2, .int x2)]) dX7_sends_73 rfl (Nat.le_of_ble_eq_true rfl) rfl ?_
  refine ev_iconst (pc := 74) (v := 0) dX7_sends_74 (by decide) ?_
  refine ev_istore (pc := 75) (lv' := [(4, .int 0), (3, .int s0), (0, .ref 53), (1, .int x1), (2, .int x2)]) dX7_sends_75 (Nat.le_of_ble_eq_true rfl) rfl ?_
  refine ev_sub [2, 3, 4, 1, 0] rfl ?_
  exact ev_X7_sends_b77 n x1 x2 n s0 0 σ
def fn_X7_sends_b6 (n : Nat) (x1 : Int32) (x2 : Int32)  : Nat → Int32 → Sg → Option Sg
  | 0 => fun _ _ => none
  | i + 1 => fun v3 σ =>
  (if (σ 53 2) ≤ v3 then (ag_sg (ag_up (ag_up σ 53 22 (-1)) 53 23 (-1)) fun t343 =>
  (if ag_ib x2 10 = true then (if ((ag_up t343 53 24 (-1)) 67 x2.toNatClampNeg) = (-1) then (fn_X7_sends_b73 n x1 x2 200 (ag_up t343 53 24 (-1)))
  else (if ag_ib x2 10 = true then (fn_X7_sends_b73 n x1 x2 ((ag_up t343 53 24 (-1)) 67 x2.toNatClampNeg) (ag_up t343 53 24 (-1))) else none)) else none))
  else (Option.bind (fn_X7_learnsIn n v3 x1 (σ 53 7) σ) fun q344 =>
  (if ag_ib v3 10 = true then ((fn_X7_sends_b6 n x1 x2 i) (v3 + 1) (ag_up q344.2 67 v3.toNatClampNeg q344.1)) else none)))
theorem fn_X7_sends_b6_s (n : Nat) (x1 : Int32) (x2 : Int32)  (i : Nat) (v3 : Int32) (σ : Sg) : fn_X7_sends_b6 n x1 x2 (i + 1) v3 σ =
  (if (σ 53 2) ≤ v3 then (ag_sg (ag_up (ag_up σ 53 22 (-1)) 53 23 (-1)) fun t343 =>
  (if ag_ib x2 10 = true then (if ((ag_up t343 53 24 (-1)) 67 x2.toNatClampNeg) = (-1) then (fn_X7_sends_b73 n x1 x2 200 (ag_up t343 53 24 (-1)))
  else (if ag_ib x2 10 = true then (fn_X7_sends_b73 n x1 x2 ((ag_up t343 53 24 (-1)) 67 x2.toNatClampNeg) (ag_up t343 53 24 (-1))) else none)) else none))
  else (Option.bind (fn_X7_learnsIn n v3 x1 (σ 53 7) σ) fun q344 =>
  (if ag_ib v3 10 = true then ((fn_X7_sends_b6 n x1 x2 i) (v3 + 1) (ag_up q344.2 67 v3.toNatClampNeg q344.1)) else none))) := rfl
set_option maxRecDepth 20000 in
set_option maxHeartbeats 4000000 in
theorem ev_X7_sends_b6 (n : Nat) (x1 : Int32) (x2 : Int32)  : ∀ (i : Nat) (v3 : Int32) (σ : Sg), Ev mX7_sends 6 143 jV 6 [(0, .ref 53), (1, .int x1), (2, .int x2), (3, .int v3)] [] σ (fn_X7_sends_b6 n x1 x2 i v3 σ) := by
  intro i
  induction i with
  | zero =>
    intro v3 σ
    exact ev_none
  | succ i ih =>
    intro v3 σ
    rw [fn_X7_sends_b6_s]
    refine ev_iload_n (pc := 6) (i := 3) 3 dX7_sends_6 rfl rfl ?_
    refine ev_aload_n (pc := 7) (i := 0) 0 dX7_sends_7 rfl rfl ?_
    refine ev_getI (pc := 8) 2 ag_C7 (rfl) (by decide) (Nat.le_of_ble_eq_true rfl) rfl rfl ag_fl_X7_93 dX7_sends_8 ?_
    refine ev_icmp_ge (pc := 11) (tgt := 36) dX7_sends_11 rfl ?_ ?_
    · refine ev_aload_n (pc := 36) (i := 0) 0 dX7_sends_36 rfl rfl ?_
      refine ev_iconst (pc := 37) (v := (-1)) dX7_sends_37 (by decide) ?_
      refine ev_put (pc := 38) 22 ag_C7 (rfl) (by decide) (Nat.le_of_ble_eq_true rfl) rfl rfl ag_fl_X7_214 rfl rfl rfl dX7_sends_38 ?_
      refine ev_aload_n (pc := 41) (i := 0) 0 dX7_sends_41 rfl rfl ?_
      refine ev_iconst (pc := 42) (v := (-1)) dX7_sends_42 (by decide) ?_
      refine ev_put (pc := 43) 23 ag_C7 (rfl) (by decide) (Nat.le_of_ble_eq_true rfl) rfl rfl ag_fl_X7_217 rfl rfl rfl dX7_sends_43 ?_
      refine ev_sg (fun t343 => ?_)
      refine ev_aload_n (pc := 46) (i := 0) 0 dX7_sends_46 rfl rfl ?_
      refine ev_iconst (pc := 47) (v := (-1)) dX7_sends_47 (by decide) ?_
      refine ev_put (pc := 48) 24 ag_C7 (rfl) (by decide) (Nat.le_of_ble_eq_true rfl) rfl rfl ag_fl_X7_220 rfl rfl rfl dX7_sends_48 ?_
      refine ev_aload_n (pc := 51) (i := 0) 0 dX7_sends_51 rfl rfl ?_
      refine ev_getR (pc := 52) (t := 67) 25 ag_C7 (rfl) (by decide) (Nat.le_of_ble_eq_true rfl) rfl rfl ag_fl_X7_49 dX7_sends_52 ?_
      refine ev_iload_n (pc := 55) (i := 2) 2 dX7_sends_55 rfl rfl ?_
      refine ev_iald (pc := 56) (rfl) (by decide) dX7_sends_56 ?_
      refine ev_iconst (pc := 57) (v := (-1)) dX7_sends_57 (by decide) ?_
      refine ev_icmp_ne (pc := 58) (tgt := 67) dX7_sends_58 rfl ?_ ?_
      · refine ev_sipush (pc := 61) (v := 200) dX7_sends_61 (by decide) ?_
        refine ev_goto (pc := 64) (tgt := 73) dX7_sends_64 rfl ?_
        refine ev_sub [0, 1, 2] rfl ?_
        exact ev_X7_sends_b73 n x1 x2 200 (ag_up t343 53 24 (-1))
      · refine ev_aload_n (pc := 67) (i := 0) 0 dX7_sends_67 rfl rfl ?_
        refine ev_getR (pc := 68) (t := 67) 25 ag_C7 (rfl) (by decide) (Nat.le_of_ble_eq_true rfl) rfl rfl ag_fl_X7_49 dX7_sends_68 ?_
        refine ev_iload_n (pc := 71) (i := 2) 2 dX7_sends_71 rfl rfl ?_
        refine ev_iald (pc := 72) (rfl) (by decide) dX7_sends_72 ?_
        refine ev_sub [0, 1, 2] rfl ?_
        exact ev_X7_sends_b73 n x1 x2 ((ag_up t343 53 24 (-1)) 67 x2.toNatClampNeg) (ag_up t343 53 24 (-1))
    · refine ev_aload_n (pc := 14) (i := 0) 0 dX7_sends_14 rfl rfl ?_
      refine ev_getR (pc := 15) (t := 67) 25 ag_C7 (rfl) (by decide) (Nat.le_of_ble_eq_true rfl) rfl rfl ag_fl_X7_49 dX7_sends_15 ?_
      refine ev_iload_n (pc := 18) (i := 3) 3 dX7_sends_18 rfl rfl ?_
      refine ev_aload_n (pc := 19) (i := 0) 0 dX7_sends_19 rfl rfl ?_
      refine ev_iload_n (pc := 20) (i := 3) 3 dX7_sends_20 rfl rfl ?_
      refine ev_iload_n (pc := 21) (i := 1) 1 dX7_sends_21 rfl rfl ?_
      refine ev_aload_n (pc := 22) (i := 0) 0 dX7_sends_22 rfl rfl ?_
      refine ev_getI (pc := 23) 7 ag_C7 (rfl) (by decide) (Nat.le_of_ble_eq_true rfl) rfl rfl ag_fl_X7_120 dX7_sends_23 ?_
      refine ev_vW (pc := 26) (as := [.int v3, .int x1, .int (σ 53 7)]) (rest := [.int v3, .ref 67]) ⟨7, 198, 37, TX7, tyX7, ag_C7, ⟨(rfl), (by decide)⟩, mv_X7_learnsIn, ag_ml_X7_198, rfl, (Nat.le_of_ble_eq_true rfl), ⟨(Nat.le_of_ble_eq_true rfl), (Nat.le_of_ble_eq_true rfl)⟩, dX7_sends_26⟩ (im_X7_learnsIn n v3 x1 (σ 53 7) σ) (fun q344 => ?_)
      refine ev_iast (pc := 29) (rfl) (by decide) dX7_sends_29 ?_
      refine ev_iinc (pc := 30) (v := (v3 + 1)) (lv' := [(3, .int (v3 + 1)), (0, .ref 53), (1, .int x1), (2, .int x2)]) 3 dX7_sends_30 rfl rfl (Nat.le_of_ble_eq_true rfl) rfl ?_
      refine ev_goto (pc := 33) (tgt := 6) dX7_sends_33 rfl ?_
      refine ev_sub [1, 2, 3, 0] rfl ?_
      exact ih (v3 + 1) (ag_up q344.2 67 v3.toNatClampNeg q344.1)
def fn_X7_sends (n : Nat) (x1 : Int32) (x2 : Int32) (σ : Sg) : Option Sg :=
  (Option.bind (fn_X7_reads n σ) fun q345 =>
  (fn_X7_sends_b6 n x1 x2 n 0 q345))
set_option maxRecDepth 20000 in
set_option maxHeartbeats 4000000 in
theorem im_X7_sends (n : Nat) (x1 : Int32) (x2 : Int32) (σ : Sg) : Im yX7_sends mX7_sends 6 143 jV [.ref 53, .int x1, .int x2] σ (fn_X7_sends n x1 x2 σ) := by
  refine Im.of (by decide +kernel) rfl rfl (Nat.le_of_ble_eq_true rfl) ?_
  show Ev mX7_sends 6 143 jV 0 [(0, .ref 53), (1, .int x1), (2, .int x2)] [] σ (fn_X7_sends n x1 x2 σ)
  unfold fn_X7_sends
  refine ev_aload_n (pc := 0) (i := 0) 0 dX7_sends_0 rfl rfl ?_
  refine ev_vV (pc := 1) (as := []) (rest := []) ⟨7, 104, 37, TX7, tyX7, ag_C7, ⟨(rfl), (by decide)⟩, mv_X7_reads, ag_ml_X7_104, rfl, (Nat.le_of_ble_eq_true rfl), ⟨(Nat.le_of_ble_eq_true rfl), (Nat.le_of_ble_eq_true rfl)⟩, dX7_sends_1⟩ (im_X7_reads n σ) (fun q345 => ?_)
  refine ev_iconst (pc := 4) (v := 0) dX7_sends_4 (by decide) ?_
  refine ev_istore_n (pc := 5) (i := 3) (lv' := [(3, .int 0), (0, .ref 53), (1, .int x1), (2, .int x2)]) dX7_sends_5 rfl (Nat.le_of_ble_eq_true rfl) rfl ?_
  refine ev_sub [1, 2, 3, 0] rfl ?_
  exact ev_X7_sends_b6 n x1 x2 n 0 q345
-- X7_sendOf
def mX7_sendOf : Md := (RX7, cX7_sendOf, 4, some .int, none)
theorem mv_X7_sendOf : ag_Mv yX7_sendOf mX7_sendOf 3 := ⟨ag_co_X7_sendOf, ag_im_X7_sendOf, ag_se_X7_sendOf, ag_ini_X7, by decide +kernel⟩
theorem dX7_sendOf_0 : decode mX7_sendOf.2.1 0 = .ok (.aload_n 0, 1) := by decide +kernel
theorem dX7_sendOf_1 : decode mX7_sendOf.2.1 1 = .ok (.iload_n 1, 1) := by decide +kernel
theorem dX7_sendOf_2 : decode mX7_sendOf.2.1 2 = .ok (.iload_n 2, 1) := by decide +kernel
theorem dX7_sendOf_3 : decode mX7_sendOf.2.1 3 = .ok (.invokevirtual 223, 3) := by decide +kernel
theorem dX7_sendOf_6 : decode mX7_sendOf.2.1 6 = .ok (.iload_n 3, 1) := by decide +kernel
theorem dX7_sendOf_7 : decode mX7_sendOf.2.1 7 = .ok (.ifCond .ne 10, 3) := by decide +kernel
theorem dX7_sendOf_10 : decode mX7_sendOf.2.1 10 = .ok (.aload_n 0, 1) := by decide +kernel
theorem dX7_sendOf_11 : decode mX7_sendOf.2.1 11 = .ok (.getfield 214, 3) := by decide +kernel
theorem dX7_sendOf_14 : decode mX7_sendOf.2.1 14 = .ok (.goto 19, 3) := by decide +kernel
theorem dX7_sendOf_17 : decode mX7_sendOf.2.1 17 = .ok (.iload_n 3, 1) := by decide +kernel
theorem dX7_sendOf_18 : decode mX7_sendOf.2.1 18 = .ok (.iconst 1, 1) := by decide +kernel
theorem dX7_sendOf_19 : decode mX7_sendOf.2.1 19 = .ok (.if_icmp .ne 10, 3) := by decide +kernel
theorem dX7_sendOf_22 : decode mX7_sendOf.2.1 22 = .ok (.aload_n 0, 1) := by decide +kernel
theorem dX7_sendOf_23 : decode mX7_sendOf.2.1 23 = .ok (.getfield 217, 3) := by decide +kernel
theorem dX7_sendOf_26 : decode mX7_sendOf.2.1 26 = .ok (.goto 7, 3) := by decide +kernel
theorem dX7_sendOf_29 : decode mX7_sendOf.2.1 29 = .ok (.aload_n 0, 1) := by decide +kernel
theorem dX7_sendOf_30 : decode mX7_sendOf.2.1 30 = .ok (.getfield 220, 3) := by decide +kernel
theorem dX7_sendOf_33 : decode mX7_sendOf.2.1 33 = .ok (.ireturn, 1) := by decide +kernel
def fn_X7_sendOf (n : Nat) (x1 : Int32) (x2 : Int32) (x3 : Int32) (σ : Sg) : Option (Int32 × Sg) :=
  (Option.bind (fn_X7_sends n x1 x2 σ) fun q346 =>
  (if x3 = 0 then (some ((q346 53 22), q346))
  else (if x3 = 1 then (some ((q346 53 23), q346))
  else (some ((q346 53 24), q346)))))
set_option maxRecDepth 20000 in
set_option maxHeartbeats 4000000 in
theorem im_X7_sendOf (n : Nat) (x1 : Int32) (x2 : Int32) (x3 : Int32) (σ : Sg) : Im yX7_sendOf mX7_sendOf 7 171 jW [.ref 53, .int x1, .int x2, .int x3] σ (fn_X7_sendOf n x1 x2 x3 σ) := by
  refine Im.of (by decide +kernel) rfl rfl (Nat.le_of_ble_eq_true rfl) ?_
  show Ev mX7_sendOf 7 171 jW 0 [(0, .ref 53), (1, .int x1), (2, .int x2), (3, .int x3)] [] σ (fn_X7_sendOf n x1 x2 x3 σ)
  unfold fn_X7_sendOf
  refine ev_aload_n (pc := 0) (i := 0) 0 dX7_sendOf_0 rfl rfl ?_
  refine ev_iload_n (pc := 1) (i := 1) 1 dX7_sendOf_1 rfl rfl ?_
  refine ev_iload_n (pc := 2) (i := 2) 2 dX7_sendOf_2 rfl rfl ?_
  refine ev_vV (pc := 3) (as := [.int x1, .int x2]) (rest := []) ⟨7, 223, 37, TX7, tyX7, ag_C7, ⟨(rfl), (by decide)⟩, mv_X7_sends, ag_ml_X7_223, rfl, (Nat.le_of_ble_eq_true rfl), ⟨(Nat.le_of_ble_eq_true rfl), (Nat.le_of_ble_eq_true rfl)⟩, dX7_sendOf_3⟩ (im_X7_sends n x1 x2 σ) (fun q346 => ?_)
  refine ev_iload_n (pc := 6) (i := 3) 3 dX7_sendOf_6 rfl rfl ?_
  refine ev_if_ne (pc := 7) (tgt := 17) dX7_sendOf_7 rfl ?_ ?_
  · refine ev_aload_n (pc := 10) (i := 0) 0 dX7_sendOf_10 rfl rfl ?_
    refine ev_getI (pc := 11) 22 ag_C7 (rfl) (by decide) (Nat.le_of_ble_eq_true rfl) rfl rfl ag_fl_X7_214 dX7_sendOf_11 ?_
    refine ev_goto (pc := 14) (tgt := 33) dX7_sendOf_14 rfl ?_
    exact ev_irW rfl dX7_sendOf_33
  · refine ev_iload_n (pc := 17) (i := 3) 3 dX7_sendOf_17 rfl rfl ?_
    refine ev_iconst (pc := 18) (v := 1) dX7_sendOf_18 (by decide) ?_
    refine ev_icmp_ne (pc := 19) (tgt := 29) dX7_sendOf_19 rfl ?_ ?_
    · refine ev_aload_n (pc := 22) (i := 0) 0 dX7_sendOf_22 rfl rfl ?_
      refine ev_getI (pc := 23) 23 ag_C7 (rfl) (by decide) (Nat.le_of_ble_eq_true rfl) rfl rfl ag_fl_X7_217 dX7_sendOf_23 ?_
      refine ev_goto (pc := 26) (tgt := 33) dX7_sendOf_26 rfl ?_
      exact ev_irW rfl dX7_sendOf_33
    · refine ev_aload_n (pc := 29) (i := 0) 0 dX7_sendOf_29 rfl rfl ?_
      refine ev_getI (pc := 30) 24 ag_C7 (rfl) (by decide) (Nat.le_of_ble_eq_true rfl) rfl rfl ag_fl_X7_220 dX7_sendOf_30 ?_
      exact ev_irW rfl dX7_sendOf_33
-- X7_send
def mX7_send : Md := (RX7, cX7_send, 4, some .int, none)
theorem mv_X7_send : ag_Mv yX7_send mX7_send 3 := ⟨ag_co_X7_send, ag_im_X7_send, ag_se_X7_send, ag_ini_X7, by decide +kernel⟩
theorem dX7_send_0 : decode mX7_send.2.1 0 = .ok (.iload_n 1, 1) := by decide +kernel
theorem dX7_send_1 : decode mX7_send.2.1 1 = .ok (.invokestatic 117, 3) := by decide +kernel
theorem dX7_send_4 : decode mX7_send.2.1 4 = .ok (.ifCond .eq 30, 3) := by decide +kernel
theorem dX7_send_7 : decode mX7_send.2.1 7 = .ok (.aload_n 0, 1) := by decide +kernel
theorem dX7_send_8 : decode mX7_send.2.1 8 = .ok (.iload_n 2, 1) := by decide +kernel
theorem dX7_send_9 : decode mX7_send.2.1 9 = .ok (.invokevirtual 107, 3) := by decide +kernel
theorem dX7_send_12 : decode mX7_send.2.1 12 = .ok (.ifCond .eq 22, 3) := by decide +kernel
theorem dX7_send_15 : decode mX7_send.2.1 15 = .ok (.iload_n 3, 1) := by decide +kernel
theorem dX7_send_16 : decode mX7_send.2.1 16 = .ok (.iconst 0, 1) := by decide +kernel
theorem dX7_send_17 : decode mX7_send.2.1 17 = .ok (.iconst 2, 1) := by decide +kernel
theorem dX7_send_18 : decode mX7_send.2.1 18 = .ok (.invokestatic 85, 3) := by decide +kernel
theorem dX7_send_21 : decode mX7_send.2.1 21 = .ok (.ifCond .eq 13, 3) := by decide +kernel
theorem dX7_send_24 : decode mX7_send.2.1 24 = .ok (.aload_n 0, 1) := by decide +kernel
theorem dX7_send_25 : decode mX7_send.2.1 25 = .ok (.iload_n 1, 1) := by decide +kernel
theorem dX7_send_26 : decode mX7_send.2.1 26 = .ok (.iload_n 2, 1) := by decide +kernel
theorem dX7_send_27 : decode mX7_send.2.1 27 = .ok (.iload_n 3, 1) := by decide +kernel
theorem dX7_send_28 : decode mX7_send.2.1 28 = .ok (.invokevirtual 226, 3) := by decide +kernel
theorem dX7_send_31 : decode mX7_send.2.1 31 = .ok (.goto 5, 3) := by decide +kernel
theorem dX7_send_34 : decode mX7_send.2.1 34 = .ok (.bipush (-2), 2) := by decide +kernel
theorem dX7_send_36 : decode mX7_send.2.1 36 = .ok (.ireturn, 1) := by decide +kernel
def fn_X7_send (n : Nat) (x1 : Int32) (x2 : Int32) (x3 : Int32) (σ : Sg) : Option (Int32 × Sg) :=
  (Option.bind (fn_X7_isWord x1 σ) fun q347 =>
  (if q347 = 0 then (some ((-2), σ))
  else (Option.bind (fn_X7_isPerson n x2 σ) fun q348 =>
  (if q348.1 = 0 then (some ((-2), q348.2))
  else (Option.bind (fn_X7_in x3 0 2 q348.2) fun q349 =>
  (if q349 = 0 then (some ((-2), q348.2))
  else (Option.bind (fn_X7_sendOf n x1 x2 x3 q348.2) fun q350 =>
  (some (q350.1, q350.2)))))))))
set_option maxRecDepth 20000 in
set_option maxHeartbeats 4000000 in
theorem im_X7_send (n : Nat) (x1 : Int32) (x2 : Int32) (x3 : Int32) (σ : Sg) : Im yX7_send mX7_send 8 194 jW [.ref 53, .int x1, .int x2, .int x3] σ (fn_X7_send n x1 x2 x3 σ) := by
  refine Im.of (by decide +kernel) rfl rfl (Nat.le_of_ble_eq_true rfl) ?_
  show Ev mX7_send 8 194 jW 0 [(0, .ref 53), (1, .int x1), (2, .int x2), (3, .int x3)] [] σ (fn_X7_send n x1 x2 x3 σ)
  unfold fn_X7_send
  refine ev_iload_n (pc := 0) (i := 1) 1 dX7_send_0 rfl rfl ?_
  refine ev_sI (pc := 1) (as := [.int x1]) (rest := []) ⟨117, ms_X7_isWord, ag_ml_X7_117, rfl, (Nat.le_of_ble_eq_true rfl), ⟨(Nat.le_of_ble_eq_true rfl), (Nat.le_of_ble_eq_true rfl)⟩, dX7_send_1⟩ (im_X7_isWord x1 σ) (fun q347 => ?_)
  refine ev_if_eq (pc := 4) (tgt := 34) dX7_send_4 rfl ?_ ?_
  · refine ev_bipush (pc := 34) (v := (-2)) dX7_send_34 (by decide) ?_
    exact ev_irW rfl dX7_send_36
  · refine ev_aload_n (pc := 7) (i := 0) 0 dX7_send_7 rfl rfl ?_
    refine ev_iload_n (pc := 8) (i := 2) 2 dX7_send_8 rfl rfl ?_
    refine ev_vW (pc := 9) (as := [.int x2]) (rest := []) ⟨7, 107, 37, TX7, tyX7, ag_C7, ⟨(rfl), (by decide)⟩, mv_X7_isPerson, ag_ml_X7_107, rfl, (Nat.le_of_ble_eq_true rfl), ⟨(Nat.le_of_ble_eq_true rfl), (Nat.le_of_ble_eq_true rfl)⟩, dX7_send_9⟩ (im_X7_isPerson n x2 σ) (fun q348 => ?_)
    refine ev_if_eq (pc := 12) (tgt := 34) dX7_send_12 rfl ?_ ?_
    · refine ev_bipush (pc := 34) (v := (-2)) dX7_send_34 (by decide) ?_
      exact ev_irW rfl dX7_send_36
    · refine ev_iload_n (pc := 15) (i := 3) 3 dX7_send_15 rfl rfl ?_
      refine ev_iconst (pc := 16) (v := 0) dX7_send_16 (by decide) ?_
      refine ev_iconst (pc := 17) (v := 2) dX7_send_17 (by decide) ?_
      refine ev_sI (pc := 18) (as := [.int x3, .int 0, .int 2]) (rest := []) ⟨85, ms_X7_in, ag_ml_X7_85, rfl, (Nat.le_of_ble_eq_true rfl), ⟨(Nat.le_of_ble_eq_true rfl), (Nat.le_of_ble_eq_true rfl)⟩, dX7_send_18⟩ (im_X7_in x3 0 2 q348.2) (fun q349 => ?_)
      refine ev_if_eq (pc := 21) (tgt := 34) dX7_send_21 rfl ?_ ?_
      · refine ev_bipush (pc := 34) (v := (-2)) dX7_send_34 (by decide) ?_
        exact ev_irW rfl dX7_send_36
      · refine ev_aload_n (pc := 24) (i := 0) 0 dX7_send_24 rfl rfl ?_
        refine ev_iload_n (pc := 25) (i := 1) 1 dX7_send_25 rfl rfl ?_
        refine ev_iload_n (pc := 26) (i := 2) 2 dX7_send_26 rfl rfl ?_
        refine ev_iload_n (pc := 27) (i := 3) 3 dX7_send_27 rfl rfl ?_
        refine ev_vW (pc := 28) (as := [.int x1, .int x2, .int x3]) (rest := []) ⟨7, 226, 37, TX7, tyX7, ag_C7, ⟨(rfl), (by decide)⟩, mv_X7_sendOf, ag_ml_X7_226, rfl, (Nat.le_of_ble_eq_true rfl), ⟨(Nat.le_of_ble_eq_true rfl), (Nat.le_of_ble_eq_true rfl)⟩, dX7_send_28⟩ (im_X7_sendOf n x1 x2 x3 q348.2) (fun q350 => ?_)
        refine ev_goto (pc := 31) (tgt := 36) dX7_send_31 rfl ?_
        exact ev_irW rfl dX7_send_36
-- X7_trustOf
def mX7_trustOf : Md := (RX7, cX7_trustOf, 5, some .int, none)
theorem mv_X7_trustOf : ag_Mv yX7_trustOf mX7_trustOf 2 := ⟨ag_co_X7_trustOf, ag_im_X7_trustOf, ag_se_X7_trustOf, ag_ini_X7, by decide +kernel⟩
theorem dX7_trustOf_0 : decode mX7_trustOf.2.1 0 = .ok (.aload_n 0, 1) := by decide +kernel
theorem dX7_trustOf_1 : decode mX7_trustOf.2.1 1 = .ok (.invokevirtual 104, 3) := by decide +kernel
theorem dX7_trustOf_4 : decode mX7_trustOf.2.1 4 = .ok (.iconst (-1), 1) := by decide +kernel
theorem dX7_trustOf_5 : decode mX7_trustOf.2.1 5 = .ok (.istore_n 3, 1) := by decide +kernel
theorem dX7_trustOf_6 : decode mX7_trustOf.2.1 6 = .ok (.aload_n 0, 1) := by decide +kernel
theorem dX7_trustOf_7 : decode mX7_trustOf.2.1 7 = .ok (.iload_n 1, 1) := by decide +kernel
theorem dX7_trustOf_8 : decode mX7_trustOf.2.1 8 = .ok (.putfield 152, 3) := by decide +kernel
theorem dX7_trustOf_11 : decode mX7_trustOf.2.1 11 = .ok (.iconst 0, 1) := by decide +kernel
theorem dX7_trustOf_12 : decode mX7_trustOf.2.1 12 = .ok (.istore 4, 2) := by decide +kernel
theorem dX7_trustOf_14 : decode mX7_trustOf.2.1 14 = .ok (.iload 4, 2) := by decide +kernel
theorem dX7_trustOf_16 : decode mX7_trustOf.2.1 16 = .ok (.iconst 1, 1) := by decide +kernel
theorem dX7_trustOf_17 : decode mX7_trustOf.2.1 17 = .ok (.aload_n 0, 1) := by decide +kernel
theorem dX7_trustOf_18 : decode mX7_trustOf.2.1 18 = .ok (.getfield 93, 3) := by decide +kernel
theorem dX7_trustOf_21 : decode mX7_trustOf.2.1 21 = .ok (.ishl, 1) := by decide +kernel
theorem dX7_trustOf_22 : decode mX7_trustOf.2.1 22 = .ok (.if_icmp .ge 81, 3) := by decide +kernel
theorem dX7_trustOf_25 : decode mX7_trustOf.2.1 25 = .ok (.iload 4, 2) := by decide +kernel
theorem dX7_trustOf_27 : decode mX7_trustOf.2.1 27 = .ok (.iload_n 2, 1) := by decide +kernel
theorem dX7_trustOf_28 : decode mX7_trustOf.2.1 28 = .ok (.invokestatic 155, 3) := by decide +kernel
theorem dX7_trustOf_31 : decode mX7_trustOf.2.1 31 = .ok (.ifCond .ne 66, 3) := by decide +kernel
theorem dX7_trustOf_34 : decode mX7_trustOf.2.1 34 = .ok (.iload 4, 2) := by decide +kernel
theorem dX7_trustOf_36 : decode mX7_trustOf.2.1 36 = .ok (.invokestatic 229, 3) := by decide +kernel
theorem dX7_trustOf_39 : decode mX7_trustOf.2.1 39 = .ok (.iconst 4, 1) := by decide +kernel
theorem dX7_trustOf_40 : decode mX7_trustOf.2.1 40 = .ok (.if_icmp .ge 57, 3) := by decide +kernel
theorem dX7_trustOf_43 : decode mX7_trustOf.2.1 43 = .ok (.iload_n 3, 1) := by decide +kernel
theorem dX7_trustOf_44 : decode mX7_trustOf.2.1 44 = .ok (.iconst (-1), 1) := by decide +kernel
theorem dX7_trustOf_45 : decode mX7_trustOf.2.1 45 = .ok (.if_icmp .eq 15, 3) := by decide +kernel
theorem dX7_trustOf_48 : decode mX7_trustOf.2.1 48 = .ok (.iload 4, 2) := by decide +kernel
theorem dX7_trustOf_50 : decode mX7_trustOf.2.1 50 = .ok (.invokestatic 229, 3) := by decide +kernel
theorem dX7_trustOf_53 : decode mX7_trustOf.2.1 53 = .ok (.iload_n 3, 1) := by decide +kernel
theorem dX7_trustOf_54 : decode mX7_trustOf.2.1 54 = .ok (.invokestatic 229, 3) := by decide +kernel
theorem dX7_trustOf_57 : decode mX7_trustOf.2.1 57 = .ok (.if_icmp .ge 40, 3) := by decide +kernel
theorem dX7_trustOf_60 : decode mX7_trustOf.2.1 60 = .ok (.aload_n 0, 1) := by decide +kernel
theorem dX7_trustOf_61 : decode mX7_trustOf.2.1 61 = .ok (.iload 4, 2) := by decide +kernel
theorem dX7_trustOf_63 : decode mX7_trustOf.2.1 63 = .ok (.putfield 149, 3) := by decide +kernel
theorem dX7_trustOf_66 : decode mX7_trustOf.2.1 66 = .ok (.aload_n 0, 1) := by decide +kernel
theorem dX7_trustOf_67 : decode mX7_trustOf.2.1 67 = .ok (.sipush 199, 3) := by decide +kernel
theorem dX7_trustOf_70 : decode mX7_trustOf.2.1 70 = .ok (.aload_n 0, 1) := by decide +kernel
theorem dX7_trustOf_71 : decode mX7_trustOf.2.1 71 = .ok (.getfield 120, 3) := by decide +kernel
theorem dX7_trustOf_74 : decode mX7_trustOf.2.1 74 = .ok (.invokevirtual 173, 3) := by decide +kernel
theorem dX7_trustOf_77 : decode mX7_trustOf.2.1 77 = .ok (.aload_n 0, 1) := by decide +kernel
theorem dX7_trustOf_78 : decode mX7_trustOf.2.1 78 = .ok (.getfield 40, 3) := by decide +kernel
theorem dX7_trustOf_81 : decode mX7_trustOf.2.1 81 = .ok (.iload_n 2, 1) := by decide +kernel
theorem dX7_trustOf_82 : decode mX7_trustOf.2.1 82 = .ok (.iaload, 1) := by decide +kernel
theorem dX7_trustOf_83 : decode mX7_trustOf.2.1 83 = .ok (.iload_n 1, 1) := by decide +kernel
theorem dX7_trustOf_84 : decode mX7_trustOf.2.1 84 = .ok (.invokestatic 155, 3) := by decide +kernel
theorem dX7_trustOf_87 : decode mX7_trustOf.2.1 87 = .ok (.ifCond .eq 8, 3) := by decide +kernel
theorem dX7_trustOf_90 : decode mX7_trustOf.2.1 90 = .ok (.iload 4, 2) := by decide +kernel
theorem dX7_trustOf_92 : decode mX7_trustOf.2.1 92 = .ok (.goto 4, 3) := by decide +kernel
theorem dX7_trustOf_95 : decode mX7_trustOf.2.1 95 = .ok (.iload_n 3, 1) := by decide +kernel
theorem dX7_trustOf_96 : decode mX7_trustOf.2.1 96 = .ok (.istore_n 3, 1) := by decide +kernel
theorem dX7_trustOf_97 : decode mX7_trustOf.2.1 97 = .ok (.iinc 4 1, 3) := by decide +kernel
theorem dX7_trustOf_100 : decode mX7_trustOf.2.1 100 = .ok (.goto (-86), 3) := by decide +kernel
theorem dX7_trustOf_103 : decode mX7_trustOf.2.1 103 = .ok (.aload_n 0, 1) := by decide +kernel
theorem dX7_trustOf_104 : decode mX7_trustOf.2.1 104 = .ok (.invokevirtual 80, 3) := by decide +kernel
theorem dX7_trustOf_107 : decode mX7_trustOf.2.1 107 = .ok (.iload_n 3, 1) := by decide +kernel
theorem dX7_trustOf_108 : decode mX7_trustOf.2.1 108 = .ok (.ireturn, 1) := by decide +kernel
def fn_X7_trustOf_b97 (n : Nat) (x1 : Int32) (x2 : Int32) (k14 : Int32 → Int32 → Sg → Option (Int32 × Sg)) (v3 : Int32) (v4 : Int32) (σ : Sg) : Option (Int32 × Sg) :=
  (k14 v3 (v4 + 1) σ)
set_option maxRecDepth 20000 in
set_option maxHeartbeats 4000000 in
theorem ev_X7_trustOf_b97 (n : Nat) (x1 : Int32) (x2 : Int32) (k14 : Int32 → Int32 → Sg → Option (Int32 × Sg)) (hk14 : ∀ (v3 : Int32) (v4 : Int32) (σ : Sg), Ev mX7_trustOf 5 116 jW 14 [(0, .ref 53), (1, .int x1), (2, .int x2), (3, .int v3), (4, .int v4)] [] σ (k14 v3 v4 σ)) (v3 : Int32) (v4 : Int32) (σ : Sg) : Ev mX7_trustOf 5 116 jW 97 [(0, .ref 53), (1, .int x1), (2, .int x2), (3, .int v3), (4, .int v4)] [] σ (fn_X7_trustOf_b97 n x1 x2 k14 v3 v4 σ) := by
  unfold fn_X7_trustOf_b97
  refine ev_iinc (pc := 97) (v := (v4 + 1)) (lv' := [(4, .int (v4 + 1)), (0, .ref 53), (1, .int x1), (2, .int x2), (3, .int v3)]) 4 dX7_trustOf_97 rfl rfl (Nat.le_of_ble_eq_true rfl) rfl ?_
  refine ev_goto (pc := 100) (tgt := 14) dX7_trustOf_100 rfl ?_
  refine ev_sub [1, 2, 3, 4, 0] rfl ?_
  exact hk14 v3 (v4 + 1) σ
def fn_X7_trustOf_b96 (n : Nat) (x1 : Int32) (x2 : Int32) (k14 : Int32 → Int32 → Sg → Option (Int32 × Sg)) (v4 : Int32) (s0 : Int32) (σ : Sg) : Option (Int32 × Sg) :=
  (fn_X7_trustOf_b97 n x1 x2 k14 s0 v4 σ)
set_option maxRecDepth 20000 in
set_option maxHeartbeats 4000000 in
theorem ev_X7_trustOf_b96 (n : Nat) (x1 : Int32) (x2 : Int32) (k14 : Int32 → Int32 → Sg → Option (Int32 × Sg)) (hk14 : ∀ (v3 : Int32) (v4 : Int32) (σ : Sg), Ev mX7_trustOf 5 116 jW 14 [(0, .ref 53), (1, .int x1), (2, .int x2), (3, .int v3), (4, .int v4)] [] σ (k14 v3 v4 σ)) (v4 : Int32) (s0 : Int32) (σ : Sg) : Ev mX7_trustOf 5 116 jW 96 [(0, .ref 53), (1, .int x1), (2, .int x2), (4, .int v4)] [.int s0] σ (fn_X7_trustOf_b96 n x1 x2 k14 v4 s0 σ) := by
  unfold fn_X7_trustOf_b96
  refine ev_istore_n (pc := 96) (i := 3) (lv' := [(3, .int s0), (0, .ref 53), (1, .int x1), (2, .int x2), (4, .int v4)]) dX7_trustOf_96 rfl (Nat.le_of_ble_eq_true rfl) rfl ?_
  refine ev_sub [1, 2, 3, 0, 4] rfl ?_
  exact ev_X7_trustOf_b97 n x1 x2 k14 hk14 s0 v4 σ
def fn_X7_trustOf_b60 (n : Nat) (x1 : Int32) (x2 : Int32) (k14 : Int32 → Int32 → Sg → Option (Int32 × Sg)) (v3 : Int32) (v4 : Int32) (σ : Sg) : Option (Int32 × Sg) :=
  (Option.bind (fn_X7_runs n 199 ((ag_up σ 53 17 v4) 53 7) (ag_up σ 53 17 v4)) fun q351 =>
  (if ag_ib x2 10 = true then (Option.bind (fn_X7_isIn (q351 64 x2.toNatClampNeg) x1 q351) fun q352 =>
  (if q352 = 0 then (fn_X7_trustOf_b96 n x1 x2 k14 v4 v3 q351)
  else (fn_X7_trustOf_b96 n x1 x2 k14 v4 v4 q351))) else none))
set_option maxRecDepth 20000 in
set_option maxHeartbeats 4000000 in
theorem ev_X7_trustOf_b60 (n : Nat) (x1 : Int32) (x2 : Int32) (k14 : Int32 → Int32 → Sg → Option (Int32 × Sg)) (hk14 : ∀ (v3 : Int32) (v4 : Int32) (σ : Sg), Ev mX7_trustOf 5 116 jW 14 [(0, .ref 53), (1, .int x1), (2, .int x2), (3, .int v3), (4, .int v4)] [] σ (k14 v3 v4 σ)) (v3 : Int32) (v4 : Int32) (σ : Sg) : Ev mX7_trustOf 5 116 jW 60 [(0, .ref 53), (1, .int x1), (2, .int x2), (3, .int v3), (4, .int v4)] [] σ (fn_X7_trustOf_b60 n x1 x2 k14 v3 v4 σ) := by
  unfold fn_X7_trustOf_b60
  refine ev_aload_n (pc := 60) (i := 0) 0 dX7_trustOf_60 rfl rfl ?_
  refine ev_iload (pc := 61) 4 dX7_trustOf_61 rfl ?_
  refine ev_put (pc := 63) 17 ag_C7 (rfl) (by decide) (Nat.le_of_ble_eq_true rfl) rfl rfl ag_fl_X7_149 rfl rfl rfl dX7_trustOf_63 ?_
  refine ev_aload_n (pc := 66) (i := 0) 0 dX7_trustOf_66 rfl rfl ?_
  refine ev_sipush (pc := 67) (v := 199) dX7_trustOf_67 (by decide) ?_
  refine ev_aload_n (pc := 70) (i := 0) 0 dX7_trustOf_70 rfl rfl ?_
  refine ev_getI (pc := 71) 7 ag_C7 (rfl) (by decide) (Nat.le_of_ble_eq_true rfl) rfl rfl ag_fl_X7_120 dX7_trustOf_71 ?_
  refine ev_vV (pc := 74) (as := [.int 199, .int ((ag_up σ 53 17 v4) 53 7)]) (rest := []) ⟨7, 173, 37, TX7, tyX7, ag_C7, ⟨(rfl), (by decide)⟩, mv_X7_runs, ag_ml_X7_173, rfl, (Nat.le_of_ble_eq_true rfl), ⟨(Nat.le_of_ble_eq_true rfl), (Nat.le_of_ble_eq_true rfl)⟩, dX7_trustOf_74⟩ (im_X7_runs n 199 ((ag_up σ 53 17 v4) 53 7) (ag_up σ 53 17 v4)) (fun q351 => ?_)
  refine ev_aload_n (pc := 77) (i := 0) 0 dX7_trustOf_77 rfl rfl ?_
  refine ev_getR (pc := 78) (t := 64) 19 ag_C7 (rfl) (by decide) (Nat.le_of_ble_eq_true rfl) rfl rfl ag_fl_X7_40 dX7_trustOf_78 ?_
  refine ev_iload_n (pc := 81) (i := 2) 2 dX7_trustOf_81 rfl rfl ?_
  refine ev_iald (pc := 82) (rfl) (by decide) dX7_trustOf_82 ?_
  refine ev_iload_n (pc := 83) (i := 1) 1 dX7_trustOf_83 rfl rfl ?_
  refine ev_sI (pc := 84) (as := [.int (q351 64 x2.toNatClampNeg), .int x1]) (rest := []) ⟨155, ms_X7_isIn, ag_ml_X7_155, rfl, (Nat.le_of_ble_eq_true rfl), ⟨(Nat.le_of_ble_eq_true rfl), (Nat.le_of_ble_eq_true rfl)⟩, dX7_trustOf_84⟩ (im_X7_isIn (q351 64 x2.toNatClampNeg) x1 q351) (fun q352 => ?_)
  refine ev_if_eq (pc := 87) (tgt := 95) dX7_trustOf_87 rfl ?_ ?_
  · refine ev_iload_n (pc := 95) (i := 3) 3 dX7_trustOf_95 rfl rfl ?_
    refine ev_sub [0, 1, 2, 4] rfl ?_
    exact ev_X7_trustOf_b96 n x1 x2 k14 hk14 v4 v3 q351
  · refine ev_iload (pc := 90) 4 dX7_trustOf_90 rfl ?_
    refine ev_goto (pc := 92) (tgt := 96) dX7_trustOf_92 rfl ?_
    refine ev_sub [0, 1, 2, 4] rfl ?_
    exact ev_X7_trustOf_b96 n x1 x2 k14 hk14 v4 v4 q351
def fn_X7_trustOf_b14 (n : Nat) (x1 : Int32) (x2 : Int32)  : Nat → Int32 → Int32 → Sg → Option (Int32 × Sg)
  | 0 => fun _ _ _ => none
  | i + 1 => fun v3 v4 σ =>
  (if (1 <<< ((σ 53 2) &&& 31)) ≤ v4 then (Option.bind (fn_X7_asTold σ) fun q353 =>
  (some (v3, q353)))
  else (Option.bind (fn_X7_isIn v4 x2 σ) fun q354 =>
  (if q354 = 0 then (Option.bind (fn_X7_ones n v4 σ) fun q355 =>
  (if 4 ≤ q355 then (fn_X7_trustOf_b97 n x1 x2 (fn_X7_trustOf_b14 n x1 x2 i) v3 v4 σ)
  else (if v3 = (-1) then (fn_X7_trustOf_b60 n x1 x2 (fn_X7_trustOf_b14 n x1 x2 i) v3 v4 σ)
  else (Option.bind (fn_X7_ones n v4 σ) fun q356 =>
  (Option.bind (fn_X7_ones n v3 σ) fun q357 =>
  (if q357 ≤ q356 then (fn_X7_trustOf_b97 n x1 x2 (fn_X7_trustOf_b14 n x1 x2 i) v3 v4 σ)
  else (fn_X7_trustOf_b60 n x1 x2 (fn_X7_trustOf_b14 n x1 x2 i) v3 v4 σ)))))))
  else (fn_X7_trustOf_b97 n x1 x2 (fn_X7_trustOf_b14 n x1 x2 i) v3 v4 σ))))
theorem fn_X7_trustOf_b14_s (n : Nat) (x1 : Int32) (x2 : Int32)  (i : Nat) (v3 : Int32) (v4 : Int32) (σ : Sg) : fn_X7_trustOf_b14 n x1 x2 (i + 1) v3 v4 σ =
  (if (1 <<< ((σ 53 2) &&& 31)) ≤ v4 then (Option.bind (fn_X7_asTold σ) fun q353 =>
  (some (v3, q353)))
  else (Option.bind (fn_X7_isIn v4 x2 σ) fun q354 =>
  (if q354 = 0 then (Option.bind (fn_X7_ones n v4 σ) fun q355 =>
  (if 4 ≤ q355 then (fn_X7_trustOf_b97 n x1 x2 (fn_X7_trustOf_b14 n x1 x2 i) v3 v4 σ)
  else (if v3 = (-1) then (fn_X7_trustOf_b60 n x1 x2 (fn_X7_trustOf_b14 n x1 x2 i) v3 v4 σ)
  else (Option.bind (fn_X7_ones n v4 σ) fun q356 =>
  (Option.bind (fn_X7_ones n v3 σ) fun q357 =>
  (if q357 ≤ q356 then (fn_X7_trustOf_b97 n x1 x2 (fn_X7_trustOf_b14 n x1 x2 i) v3 v4 σ)
  else (fn_X7_trustOf_b60 n x1 x2 (fn_X7_trustOf_b14 n x1 x2 i) v3 v4 σ)))))))
  else (fn_X7_trustOf_b97 n x1 x2 (fn_X7_trustOf_b14 n x1 x2 i) v3 v4 σ)))) := rfl
set_option maxRecDepth 20000 in
set_option maxHeartbeats 4000000 in
theorem ev_X7_trustOf_b14 (n : Nat) (x1 : Int32) (x2 : Int32)  : ∀ (i : Nat) (v3 : Int32) (v4 : Int32) (σ : Sg), Ev mX7_trustOf 5 116 jW 14 [(0, .ref 53), (1, .int x1), (2, .int x2), (3, .int v3), (4, .int v4)] [] σ (fn_X7_trustOf_b14 n x1 x2 i v3 v4 σ) := by
  intro i
  induction i with
  | zero =>
    intro v3 v4 σ
    exact ev_none
  | succ i ih =>
    intro v3 v4 σ
    rw [fn_X7_trustOf_b14_s]
    refine ev_iload (pc := 14) 4 dX7_trustOf_14 rfl ?_
    refine ev_iconst (pc := 16) (v := 1) dX7_trustOf_16 (by decide) ?_
    refine ev_aload_n (pc := 17) (i := 0) 0 dX7_trustOf_17 rfl rfl ?_
    refine ev_getI (pc := 18) 2 ag_C7 (rfl) (by decide) (Nat.le_of_ble_eq_true rfl) rfl rfl ag_fl_X7_93 dX7_trustOf_18 ?_
    refine ev_ishl (pc := 21) dX7_trustOf_21 ?_
    refine ev_icmp_ge (pc := 22) (tgt := 103) dX7_trustOf_22 rfl ?_ ?_
    · refine ev_aload_n (pc := 103) (i := 0) 0 dX7_trustOf_103 rfl rfl ?_
      refine ev_vV (pc := 104) (as := []) (rest := []) ⟨7, 80, 37, TX7, tyX7, ag_C7, ⟨(rfl), (by decide)⟩, mv_X7_asTold, ag_ml_X7_80, rfl, (Nat.le_of_ble_eq_true rfl), ⟨(Nat.le_of_ble_eq_true rfl), (Nat.le_of_ble_eq_true rfl)⟩, dX7_trustOf_104⟩ (im_X7_asTold σ) (fun q353 => ?_)
      refine ev_iload_n (pc := 107) (i := 3) 3 dX7_trustOf_107 rfl rfl ?_
      exact ev_irW rfl dX7_trustOf_108
    · refine ev_iload (pc := 25) 4 dX7_trustOf_25 rfl ?_
      refine ev_iload_n (pc := 27) (i := 2) 2 dX7_trustOf_27 rfl rfl ?_
      refine ev_sI (pc := 28) (as := [.int v4, .int x2]) (rest := []) ⟨155, ms_X7_isIn, ag_ml_X7_155, rfl, (Nat.le_of_ble_eq_true rfl), ⟨(Nat.le_of_ble_eq_true rfl), (Nat.le_of_ble_eq_true rfl)⟩, dX7_trustOf_28⟩ (im_X7_isIn v4 x2 σ) (fun q354 => ?_)
      refine ev_if_ne (pc := 31) (tgt := 97) dX7_trustOf_31 rfl ?_ ?_
      · refine ev_iload (pc := 34) 4 dX7_trustOf_34 rfl ?_
        refine ev_sI (pc := 36) (as := [.int v4]) (rest := []) ⟨229, ms_X7_ones, ag_ml_X7_229, rfl, (Nat.le_of_ble_eq_true rfl), ⟨(Nat.le_of_ble_eq_true rfl), (Nat.le_of_ble_eq_true rfl)⟩, dX7_trustOf_36⟩ (im_X7_ones n v4 σ) (fun q355 => ?_)
        refine ev_iconst (pc := 39) (v := 4) dX7_trustOf_39 (by decide) ?_
        refine ev_icmp_ge (pc := 40) (tgt := 97) dX7_trustOf_40 rfl ?_ ?_
        · exact ev_X7_trustOf_b97 n x1 x2 (fn_X7_trustOf_b14 n x1 x2 i) ih v3 v4 σ
        · refine ev_iload_n (pc := 43) (i := 3) 3 dX7_trustOf_43 rfl rfl ?_
          refine ev_iconst (pc := 44) (v := (-1)) dX7_trustOf_44 (by decide) ?_
          refine ev_icmp_eq (pc := 45) (tgt := 60) dX7_trustOf_45 rfl ?_ ?_
          · exact ev_X7_trustOf_b60 n x1 x2 (fn_X7_trustOf_b14 n x1 x2 i) ih v3 v4 σ
          · refine ev_iload (pc := 48) 4 dX7_trustOf_48 rfl ?_
            refine ev_sI (pc := 50) (as := [.int v4]) (rest := []) ⟨229, ms_X7_ones, ag_ml_X7_229, rfl, (Nat.le_of_ble_eq_true rfl), ⟨(Nat.le_of_ble_eq_true rfl), (Nat.le_of_ble_eq_true rfl)⟩, dX7_trustOf_50⟩ (im_X7_ones n v4 σ) (fun q356 => ?_)
            refine ev_iload_n (pc := 53) (i := 3) 3 dX7_trustOf_53 rfl rfl ?_
            refine ev_sI (pc := 54) (as := [.int v3]) (rest := [.int q356]) ⟨229, ms_X7_ones, ag_ml_X7_229, rfl, (Nat.le_of_ble_eq_true rfl), ⟨(Nat.le_of_ble_eq_true rfl), (Nat.le_of_ble_eq_true rfl)⟩, dX7_trustOf_54⟩ (im_X7_ones n v3 σ) (fun q357 => ?_)
            refine ev_icmp_ge (pc := 57) (tgt := 97) dX7_trustOf_57 rfl ?_ ?_
            · exact ev_X7_trustOf_b97 n x1 x2 (fn_X7_trustOf_b14 n x1 x2 i) ih v3 v4 σ
            · exact ev_X7_trustOf_b60 n x1 x2 (fn_X7_trustOf_b14 n x1 x2 i) ih v3 v4 σ
      · exact ev_X7_trustOf_b97 n x1 x2 (fn_X7_trustOf_b14 n x1 x2 i) ih v3 v4 σ
def fn_X7_trustOf (n : Nat) (x1 : Int32) (x2 : Int32) (σ : Sg) : Option (Int32 × Sg) :=
  (Option.bind (fn_X7_reads n σ) fun q358 =>
  (fn_X7_trustOf_b14 n x1 x2 n (-1) 0 (ag_up q358 53 18 x1)))
set_option maxRecDepth 20000 in
set_option maxHeartbeats 4000000 in
theorem im_X7_trustOf (n : Nat) (x1 : Int32) (x2 : Int32) (σ : Sg) : Im yX7_trustOf mX7_trustOf 5 116 jW [.ref 53, .int x1, .int x2] σ (fn_X7_trustOf n x1 x2 σ) := by
  refine Im.of (by decide +kernel) rfl rfl (Nat.le_of_ble_eq_true rfl) ?_
  show Ev mX7_trustOf 5 116 jW 0 [(0, .ref 53), (1, .int x1), (2, .int x2)] [] σ (fn_X7_trustOf n x1 x2 σ)
  unfold fn_X7_trustOf
  refine ev_aload_n (pc := 0) (i := 0) 0 dX7_trustOf_0 rfl rfl ?_
  refine ev_vV (pc := 1) (as := []) (rest := []) ⟨7, 104, 37, TX7, tyX7, ag_C7, ⟨(rfl), (by decide)⟩, mv_X7_reads, ag_ml_X7_104, rfl, (Nat.le_of_ble_eq_true rfl), ⟨(Nat.le_of_ble_eq_true rfl), (Nat.le_of_ble_eq_true rfl)⟩, dX7_trustOf_1⟩ (im_X7_reads n σ) (fun q358 => ?_)
  refine ev_iconst (pc := 4) (v := (-1)) dX7_trustOf_4 (by decide) ?_
  refine ev_istore_n (pc := 5) (i := 3) (lv' := [(3, .int (-1)), (0, .ref 53), (1, .int x1), (2, .int x2)]) dX7_trustOf_5 rfl (Nat.le_of_ble_eq_true rfl) rfl ?_
  refine ev_aload_n (pc := 6) (i := 0) 1 dX7_trustOf_6 rfl rfl ?_
  refine ev_iload_n (pc := 7) (i := 1) 2 dX7_trustOf_7 rfl rfl ?_
  refine ev_put (pc := 8) 18 ag_C7 (rfl) (by decide) (Nat.le_of_ble_eq_true rfl) rfl rfl ag_fl_X7_152 rfl rfl rfl dX7_trustOf_8 ?_
  refine ev_iconst (pc := 11) (v := 0) dX7_trustOf_11 (by decide) ?_
  refine ev_istore (pc := 12) (lv' := [(4, .int 0), (3, .int (-1)), (0, .ref 53), (1, .int x1), (2, .int x2)]) dX7_trustOf_12 (Nat.le_of_ble_eq_true rfl) rfl ?_
  refine ev_sub [2, 3, 4, 1, 0] rfl ?_
  exact ev_X7_trustOf_b14 n x1 x2 n (-1) 0 (ag_up q358 53 18 x1)
-- X7_trust
def mX7_trust : Md := (RX7, cX7_trust, 3, some .int, none)
theorem mv_X7_trust : ag_Mv yX7_trust mX7_trust 2 := ⟨ag_co_X7_trust, ag_im_X7_trust, ag_se_X7_trust, ag_ini_X7, by decide +kernel⟩
theorem dX7_trust_0 : decode mX7_trust.2.1 0 = .ok (.iload_n 1, 1) := by decide +kernel
theorem dX7_trust_1 : decode mX7_trust.2.1 1 = .ok (.invokestatic 117, 3) := by decide +kernel
theorem dX7_trust_4 : decode mX7_trust.2.1 4 = .ok (.ifCond .eq 20, 3) := by decide +kernel
theorem dX7_trust_7 : decode mX7_trust.2.1 7 = .ok (.aload_n 0, 1) := by decide +kernel
theorem dX7_trust_8 : decode mX7_trust.2.1 8 = .ok (.iload_n 2, 1) := by decide +kernel
theorem dX7_trust_9 : decode mX7_trust.2.1 9 = .ok (.invokevirtual 107, 3) := by decide +kernel
theorem dX7_trust_12 : decode mX7_trust.2.1 12 = .ok (.ifCond .eq 12, 3) := by decide +kernel
theorem dX7_trust_15 : decode mX7_trust.2.1 15 = .ok (.aload_n 0, 1) := by decide +kernel
theorem dX7_trust_16 : decode mX7_trust.2.1 16 = .ok (.iload_n 1, 1) := by decide +kernel
theorem dX7_trust_17 : decode mX7_trust.2.1 17 = .ok (.iload_n 2, 1) := by decide +kernel
theorem dX7_trust_18 : decode mX7_trust.2.1 18 = .ok (.invokevirtual 232, 3) := by decide +kernel
theorem dX7_trust_21 : decode mX7_trust.2.1 21 = .ok (.goto 5, 3) := by decide +kernel
theorem dX7_trust_24 : decode mX7_trust.2.1 24 = .ok (.bipush (-2), 2) := by decide +kernel
theorem dX7_trust_26 : decode mX7_trust.2.1 26 = .ok (.ireturn, 1) := by decide +kernel
def fn_X7_trust (n : Nat) (x1 : Int32) (x2 : Int32) (σ : Sg) : Option (Int32 × Sg) :=
  (Option.bind (fn_X7_isWord x1 σ) fun q359 =>
  (if q359 = 0 then (some ((-2), σ))
  else (Option.bind (fn_X7_isPerson n x2 σ) fun q360 =>
  (if q360.1 = 0 then (some ((-2), q360.2))
  else (Option.bind (fn_X7_trustOf n x1 x2 q360.2) fun q361 =>
  (some (q361.1, q361.2)))))))
set_option maxRecDepth 20000 in
set_option maxHeartbeats 4000000 in
theorem im_X7_trust (n : Nat) (x1 : Int32) (x2 : Int32) (σ : Sg) : Im yX7_trust mX7_trust 6 140 jW [.ref 53, .int x1, .int x2] σ (fn_X7_trust n x1 x2 σ) := by
  refine Im.of (by decide +kernel) rfl rfl (Nat.le_of_ble_eq_true rfl) ?_
  show Ev mX7_trust 6 140 jW 0 [(0, .ref 53), (1, .int x1), (2, .int x2)] [] σ (fn_X7_trust n x1 x2 σ)
  unfold fn_X7_trust
  refine ev_iload_n (pc := 0) (i := 1) 1 dX7_trust_0 rfl rfl ?_
  refine ev_sI (pc := 1) (as := [.int x1]) (rest := []) ⟨117, ms_X7_isWord, ag_ml_X7_117, rfl, (Nat.le_of_ble_eq_true rfl), ⟨(Nat.le_of_ble_eq_true rfl), (Nat.le_of_ble_eq_true rfl)⟩, dX7_trust_1⟩ (im_X7_isWord x1 σ) (fun q359 => ?_)
  refine ev_if_eq (pc := 4) (tgt := 24) dX7_trust_4 rfl ?_ ?_
  · refine ev_bipush (pc := 24) (v := (-2)) dX7_trust_24 (by decide) ?_
    exact ev_irW rfl dX7_trust_26
  · refine ev_aload_n (pc := 7) (i := 0) 0 dX7_trust_7 rfl rfl ?_
    refine ev_iload_n (pc := 8) (i := 2) 2 dX7_trust_8 rfl rfl ?_
    refine ev_vW (pc := 9) (as := [.int x2]) (rest := []) ⟨7, 107, 37, TX7, tyX7, ag_C7, ⟨(rfl), (by decide)⟩, mv_X7_isPerson, ag_ml_X7_107, rfl, (Nat.le_of_ble_eq_true rfl), ⟨(Nat.le_of_ble_eq_true rfl), (Nat.le_of_ble_eq_true rfl)⟩, dX7_trust_9⟩ (im_X7_isPerson n x2 σ) (fun q360 => ?_)
    refine ev_if_eq (pc := 12) (tgt := 24) dX7_trust_12 rfl ?_ ?_
    · refine ev_bipush (pc := 24) (v := (-2)) dX7_trust_24 (by decide) ?_
      exact ev_irW rfl dX7_trust_26
    · refine ev_aload_n (pc := 15) (i := 0) 0 dX7_trust_15 rfl rfl ?_
      refine ev_iload_n (pc := 16) (i := 1) 1 dX7_trust_16 rfl rfl ?_
      refine ev_iload_n (pc := 17) (i := 2) 2 dX7_trust_17 rfl rfl ?_
      refine ev_vW (pc := 18) (as := [.int x1, .int x2]) (rest := []) ⟨7, 232, 37, TX7, tyX7, ag_C7, ⟨(rfl), (by decide)⟩, mv_X7_trustOf, ag_ml_X7_232, rfl, (Nat.le_of_ble_eq_true rfl), ⟨(Nat.le_of_ble_eq_true rfl), (Nat.le_of_ble_eq_true rfl)⟩, dX7_trust_18⟩ (im_X7_trustOf n x1 x2 q360.2) (fun q361 => ?_)
      refine ev_goto (pc := 21) (tgt := 26) dX7_trust_21 rfl ?_
      exact ev_irW rfl dX7_trust_26
-- X7_teachOf
def mX7_teachOf : Md := (RX7, cX7_teachOf, 6, some .int, none)
theorem mv_X7_teachOf : ag_Mv yX7_teachOf mX7_teachOf 3 := ⟨ag_co_X7_teachOf, ag_im_X7_teachOf, ag_se_X7_teachOf, ag_ini_X7, by decide +kernel⟩
theorem dX7_teachOf_0 : decode mX7_teachOf.2.1 0 = .ok (.aload_n 0, 1) := by decide +kernel
theorem dX7_teachOf_1 : decode mX7_teachOf.2.1 1 = .ok (.invokevirtual 104, 3) := by decide +kernel
theorem dX7_teachOf_4 : decode mX7_teachOf.2.1 4 = .ok (.iconst (-1), 1) := by decide +kernel
theorem dX7_teachOf_5 : decode mX7_teachOf.2.1 5 = .ok (.istore 4, 2) := by decide +kernel
theorem dX7_teachOf_7 : decode mX7_teachOf.2.1 7 = .ok (.iconst 0, 1) := by decide +kernel
theorem dX7_teachOf_8 : decode mX7_teachOf.2.1 8 = .ok (.istore 5, 2) := by decide +kernel
theorem dX7_teachOf_10 : decode mX7_teachOf.2.1 10 = .ok (.iload 5, 2) := by decide +kernel
theorem dX7_teachOf_12 : decode mX7_teachOf.2.1 12 = .ok (.iconst 1, 1) := by decide +kernel
theorem dX7_teachOf_13 : decode mX7_teachOf.2.1 13 = .ok (.aload_n 0, 1) := by decide +kernel
theorem dX7_teachOf_14 : decode mX7_teachOf.2.1 14 = .ok (.getfield 120, 3) := by decide +kernel
theorem dX7_teachOf_17 : decode mX7_teachOf.2.1 17 = .ok (.ishl, 1) := by decide +kernel
theorem dX7_teachOf_18 : decode mX7_teachOf.2.1 18 = .ok (.if_icmp .ge 72, 3) := by decide +kernel
theorem dX7_teachOf_21 : decode mX7_teachOf.2.1 21 = .ok (.iload 4, 2) := by decide +kernel
theorem dX7_teachOf_23 : decode mX7_teachOf.2.1 23 = .ok (.iconst (-1), 1) := by decide +kernel
theorem dX7_teachOf_24 : decode mX7_teachOf.2.1 24 = .ok (.if_icmp .eq 16, 3) := by decide +kernel
theorem dX7_teachOf_27 : decode mX7_teachOf.2.1 27 = .ok (.iload 5, 2) := by decide +kernel
theorem dX7_teachOf_29 : decode mX7_teachOf.2.1 29 = .ok (.invokestatic 229, 3) := by decide +kernel
theorem dX7_teachOf_32 : decode mX7_teachOf.2.1 32 = .ok (.iload 4, 2) := by decide +kernel
theorem dX7_teachOf_34 : decode mX7_teachOf.2.1 34 = .ok (.invokestatic 229, 3) := by decide +kernel
theorem dX7_teachOf_37 : decode mX7_teachOf.2.1 37 = .ok (.if_icmp .ge 47, 3) := by decide +kernel
theorem dX7_teachOf_40 : decode mX7_teachOf.2.1 40 = .ok (.aload_n 0, 1) := by decide +kernel
theorem dX7_teachOf_41 : decode mX7_teachOf.2.1 41 = .ok (.iload 5, 2) := by decide +kernel
theorem dX7_teachOf_43 : decode mX7_teachOf.2.1 43 = .ok (.putfield 137, 3) := by decide +kernel
theorem dX7_teachOf_46 : decode mX7_teachOf.2.1 46 = .ok (.aload_n 0, 1) := by decide +kernel
theorem dX7_teachOf_47 : decode mX7_teachOf.2.1 47 = .ok (.aload_n 0, 1) := by decide +kernel
theorem dX7_teachOf_48 : decode mX7_teachOf.2.1 48 = .ok (.getfield 13, 3) := by decide +kernel
theorem dX7_teachOf_51 : decode mX7_teachOf.2.1 51 = .ok (.iload_n 1, 1) := by decide +kernel
theorem dX7_teachOf_52 : decode mX7_teachOf.2.1 52 = .ok (.iaload, 1) := by decide +kernel
theorem dX7_teachOf_53 : decode mX7_teachOf.2.1 53 = .ok (.iload_n 3, 1) := by decide +kernel
theorem dX7_teachOf_54 : decode mX7_teachOf.2.1 54 = .ok (.iadd, 1) := by decide +kernel
theorem dX7_teachOf_55 : decode mX7_teachOf.2.1 55 = .ok (.aload_n 0, 1) := by decide +kernel
theorem dX7_teachOf_56 : decode mX7_teachOf.2.1 56 = .ok (.getfield 120, 3) := by decide +kernel
theorem dX7_teachOf_59 : decode mX7_teachOf.2.1 59 = .ok (.invokevirtual 173, 3) := by decide +kernel
theorem dX7_teachOf_62 : decode mX7_teachOf.2.1 62 = .ok (.iload_n 2, 1) := by decide +kernel
theorem dX7_teachOf_63 : decode mX7_teachOf.2.1 63 = .ok (.aload_n 0, 1) := by decide +kernel
theorem dX7_teachOf_64 : decode mX7_teachOf.2.1 64 = .ok (.getfield 40, 3) := by decide +kernel
theorem dX7_teachOf_67 : decode mX7_teachOf.2.1 67 = .ok (.iload_n 1, 1) := by decide +kernel
theorem dX7_teachOf_68 : decode mX7_teachOf.2.1 68 = .ok (.iaload, 1) := by decide +kernel
theorem dX7_teachOf_69 : decode mX7_teachOf.2.1 69 = .ok (.iconst (-1), 1) := by decide +kernel
theorem dX7_teachOf_70 : decode mX7_teachOf.2.1 70 = .ok (.ixor, 1) := by decide +kernel
theorem dX7_teachOf_71 : decode mX7_teachOf.2.1 71 = .ok (.iand, 1) := by decide +kernel
theorem dX7_teachOf_72 : decode mX7_teachOf.2.1 72 = .ok (.ifCond .ne 8, 3) := by decide +kernel
theorem dX7_teachOf_75 : decode mX7_teachOf.2.1 75 = .ok (.iload 5, 2) := by decide +kernel
theorem dX7_teachOf_77 : decode mX7_teachOf.2.1 77 = .ok (.goto 5, 3) := by decide +kernel
theorem dX7_teachOf_80 : decode mX7_teachOf.2.1 80 = .ok (.iload 4, 2) := by decide +kernel
theorem dX7_teachOf_82 : decode mX7_teachOf.2.1 82 = .ok (.istore 4, 2) := by decide +kernel
theorem dX7_teachOf_84 : decode mX7_teachOf.2.1 84 = .ok (.iinc 5 1, 3) := by decide +kernel
theorem dX7_teachOf_87 : decode mX7_teachOf.2.1 87 = .ok (.goto (-77), 3) := by decide +kernel
theorem dX7_teachOf_90 : decode mX7_teachOf.2.1 90 = .ok (.aload_n 0, 1) := by decide +kernel
theorem dX7_teachOf_91 : decode mX7_teachOf.2.1 91 = .ok (.invokevirtual 80, 3) := by decide +kernel
theorem dX7_teachOf_94 : decode mX7_teachOf.2.1 94 = .ok (.iload 4, 2) := by decide +kernel
theorem dX7_teachOf_96 : decode mX7_teachOf.2.1 96 = .ok (.ireturn, 1) := by decide +kernel
def fn_X7_teachOf_b84 (n : Nat) (x1 : Int32) (x2 : Int32) (x3 : Int32) (k10 : Int32 → Int32 → Sg → Option (Int32 × Sg)) (v4 : Int32) (v5 : Int32) (σ : Sg) : Option (Int32 × Sg) :=
  (k10 v4 (v5 + 1) σ)
set_option maxRecDepth 20000 in
set_option maxHeartbeats 4000000 in
theorem ev_X7_teachOf_b84 (n : Nat) (x1 : Int32) (x2 : Int32) (x3 : Int32) (k10 : Int32 → Int32 → Sg → Option (Int32 × Sg)) (hk10 : ∀ (v4 : Int32) (v5 : Int32) (σ : Sg), Ev mX7_teachOf 5 116 jW 10 [(0, .ref 53), (1, .int x1), (2, .int x2), (3, .int x3), (4, .int v4), (5, .int v5)] [] σ (k10 v4 v5 σ)) (v4 : Int32) (v5 : Int32) (σ : Sg) : Ev mX7_teachOf 5 116 jW 84 [(0, .ref 53), (1, .int x1), (2, .int x2), (3, .int x3), (4, .int v4), (5, .int v5)] [] σ (fn_X7_teachOf_b84 n x1 x2 x3 k10 v4 v5 σ) := by
  unfold fn_X7_teachOf_b84
  refine ev_iinc (pc := 84) (v := (v5 + 1)) (lv' := [(5, .int (v5 + 1)), (0, .ref 53), (1, .int x1), (2, .int x2), (3, .int x3), (4, .int v4)]) 5 dX7_teachOf_84 rfl rfl (Nat.le_of_ble_eq_true rfl) rfl ?_
  refine ev_goto (pc := 87) (tgt := 10) dX7_teachOf_87 rfl ?_
  refine ev_sub [1, 2, 3, 4, 5, 0] rfl ?_
  exact hk10 v4 (v5 + 1) σ
def fn_X7_teachOf_b82 (n : Nat) (x1 : Int32) (x2 : Int32) (x3 : Int32) (k10 : Int32 → Int32 → Sg → Option (Int32 × Sg)) (v5 : Int32) (s0 : Int32) (σ : Sg) : Option (Int32 × Sg) :=
  (fn_X7_teachOf_b84 n x1 x2 x3 k10 s0 v5 σ)
set_option maxRecDepth 20000 in
set_option maxHeartbeats 4000000 in
theorem ev_X7_teachOf_b82 (n : Nat) (x1 : Int32) (x2 : Int32) (x3 : Int32) (k10 : Int32 → Int32 → Sg → Option (Int32 × Sg)) (hk10 : ∀ (v4 : Int32) (v5 : Int32) (σ : Sg), Ev mX7_teachOf 5 116 jW 10 [(0, .ref 53), (1, .int x1), (2, .int x2), (3, .int x3), (4, .int v4), (5, .int v5)] [] σ (k10 v4 v5 σ)) (v5 : Int32) (s0 : Int32) (σ : Sg) : Ev mX7_teachOf 5 116 jW 82 [(0, .ref 53), (1, .int x1), (2, .int x2), (3, .int x3), (5, .int v5)] [.int s0] σ (fn_X7_teachOf_b82 n x1 x2 x3 k10 v5 s0 σ) := by
  unfold fn_X7_teachOf_b82
  refine ev_istore (pc := 82) (lv' := [(4, .int s0), (0, .ref 53), (1, .int x1), (2, .int x2), (3, .int x3), (5, .int v5)]) dX7_teachOf_82 (Nat.le_of_ble_eq_true rfl) rfl ?_
  refine ev_sub [1, 2, 3, 4, 0, 5] rfl ?_
  exact ev_X7_teachOf_b84 n x1 x2 x3 k10 hk10 s0 v5 σ
def fn_X7_teachOf_b40 (n : Nat) (x1 : Int32) (x2 : Int32) (x3 : Int32) (k10 : Int32 → Int32 → Sg → Option (Int32 × Sg)) (v4 : Int32) (v5 : Int32) (σ : Sg) : Option (Int32 × Sg) :=
  (if ag_ib x1 11 = true then (Option.bind (fn_X7_runs n (((ag_up σ 53 13 v5) 55 x1.toNatClampNeg) + x3) ((ag_up σ 53 13 v5) 53 7) (ag_up σ 53 13 v5)) fun q362 =>
  (if ag_ib x1 10 = true then (if (x2 &&& ((q362 64 x1.toNatClampNeg) ^^^ (-1))) = 0 then (fn_X7_teachOf_b82 n x1 x2 x3 k10 v5 v5 q362)
  else (fn_X7_teachOf_b82 n x1 x2 x3 k10 v5 v4 q362)) else none)) else none)
set_option maxRecDepth 20000 in
set_option maxHeartbeats 4000000 in
theorem ev_X7_teachOf_b40 (n : Nat) (x1 : Int32) (x2 : Int32) (x3 : Int32) (k10 : Int32 → Int32 → Sg → Option (Int32 × Sg)) (hk10 : ∀ (v4 : Int32) (v5 : Int32) (σ : Sg), Ev mX7_teachOf 5 116 jW 10 [(0, .ref 53), (1, .int x1), (2, .int x2), (3, .int x3), (4, .int v4), (5, .int v5)] [] σ (k10 v4 v5 σ)) (v4 : Int32) (v5 : Int32) (σ : Sg) : Ev mX7_teachOf 5 116 jW 40 [(0, .ref 53), (1, .int x1), (2, .int x2), (3, .int x3), (4, .int v4), (5, .int v5)] [] σ (fn_X7_teachOf_b40 n x1 x2 x3 k10 v4 v5 σ) := by
  unfold fn_X7_teachOf_b40
  refine ev_aload_n (pc := 40) (i := 0) 0 dX7_teachOf_40 rfl rfl ?_
  refine ev_iload (pc := 41) 5 dX7_teachOf_41 rfl ?_
  refine ev_put (pc := 43) 13 ag_C7 (rfl) (by decide) (Nat.le_of_ble_eq_true rfl) rfl rfl ag_fl_X7_137 rfl rfl rfl dX7_teachOf_43 ?_
  refine ev_aload_n (pc := 46) (i := 0) 0 dX7_teachOf_46 rfl rfl ?_
  refine ev_aload_n (pc := 47) (i := 0) 0 dX7_teachOf_47 rfl rfl ?_
  refine ev_getR (pc := 48) (t := 55) 3 ag_C7 (rfl) (by decide) (Nat.le_of_ble_eq_true rfl) rfl rfl ag_fl_X7_13 dX7_teachOf_48 ?_
  refine ev_iload_n (pc := 51) (i := 1) 1 dX7_teachOf_51 rfl rfl ?_
  refine ev_iald (pc := 52) (rfl) (by decide) dX7_teachOf_52 ?_
  refine ev_iload_n (pc := 53) (i := 3) 3 dX7_teachOf_53 rfl rfl ?_
  refine ev_iadd (pc := 54) dX7_teachOf_54 ?_
  refine ev_aload_n (pc := 55) (i := 0) 0 dX7_teachOf_55 rfl rfl ?_
  refine ev_getI (pc := 56) 7 ag_C7 (rfl) (by decide) (Nat.le_of_ble_eq_true rfl) rfl rfl ag_fl_X7_120 dX7_teachOf_56 ?_
  refine ev_vV (pc := 59) (as := [.int (((ag_up σ 53 13 v5) 55 x1.toNatClampNeg) + x3), .int ((ag_up σ 53 13 v5) 53 7)]) (rest := []) ⟨7, 173, 37, TX7, tyX7, ag_C7, ⟨(rfl), (by decide)⟩, mv_X7_runs, ag_ml_X7_173, rfl, (Nat.le_of_ble_eq_true rfl), ⟨(Nat.le_of_ble_eq_true rfl), (Nat.le_of_ble_eq_true rfl)⟩, dX7_teachOf_59⟩ (im_X7_runs n (((ag_up σ 53 13 v5) 55 x1.toNatClampNeg) + x3) ((ag_up σ 53 13 v5) 53 7) (ag_up σ 53 13 v5)) (fun q362 => ?_)
  refine ev_iload_n (pc := 62) (i := 2) 2 dX7_teachOf_62 rfl rfl ?_
  refine ev_aload_n (pc := 63) (i := 0) 0 dX7_teachOf_63 rfl rfl ?_
  refine ev_getR (pc := 64) (t := 64) 19 ag_C7 (rfl) (by decide) (Nat.le_of_ble_eq_true rfl) rfl rfl ag_fl_X7_40 dX7_teachOf_64 ?_
  refine ev_iload_n (pc := 67) (i := 1) 1 dX7_teachOf_67 rfl rfl ?_
  refine ev_iald (pc := 68) (rfl) (by decide) dX7_teachOf_68 ?_
  refine ev_iconst (pc := 69) (v := (-1)) dX7_teachOf_69 (by decide) ?_
  refine ev_ixor (pc := 70) dX7_teachOf_70 ?_
  refine ev_iand (pc := 71) dX7_teachOf_71 ?_
  refine ev_if_ne (pc := 72) (tgt := 80) dX7_teachOf_72 rfl ?_ ?_
  · refine ev_iload (pc := 75) 5 dX7_teachOf_75 rfl ?_
    refine ev_goto (pc := 77) (tgt := 82) dX7_teachOf_77 rfl ?_
    refine ev_sub [0, 1, 2, 3, 5] rfl ?_
    exact ev_X7_teachOf_b82 n x1 x2 x3 k10 hk10 v5 v5 q362
  · refine ev_iload (pc := 80) 4 dX7_teachOf_80 rfl ?_
    refine ev_sub [0, 1, 2, 3, 5] rfl ?_
    exact ev_X7_teachOf_b82 n x1 x2 x3 k10 hk10 v5 v4 q362
def fn_X7_teachOf_b10 (n : Nat) (x1 : Int32) (x2 : Int32) (x3 : Int32)  : Nat → Int32 → Int32 → Sg → Option (Int32 × Sg)
  | 0 => fun _ _ _ => none
  | i + 1 => fun v4 v5 σ =>
  (if (1 <<< ((σ 53 7) &&& 31)) ≤ v5 then (Option.bind (fn_X7_asTold σ) fun q363 =>
  (some (v4, q363)))
  else (if v4 = (-1) then (fn_X7_teachOf_b40 n x1 x2 x3 (fn_X7_teachOf_b10 n x1 x2 x3 i) v4 v5 σ)
  else (Option.bind (fn_X7_ones n v5 σ) fun q364 =>
  (Option.bind (fn_X7_ones n v4 σ) fun q365 =>
  (if q365 ≤ q364 then (fn_X7_teachOf_b84 n x1 x2 x3 (fn_X7_teachOf_b10 n x1 x2 x3 i) v4 v5 σ)
  else (fn_X7_teachOf_b40 n x1 x2 x3 (fn_X7_teachOf_b10 n x1 x2 x3 i) v4 v5 σ))))))
theorem fn_X7_teachOf_b10_s (n : Nat) (x1 : Int32) (x2 : Int32) (x3 : Int32)  (i : Nat) (v4 : Int32) (v5 : Int32) (σ : Sg) : fn_X7_teachOf_b10 n x1 x2 x3 (i + 1) v4 v5 σ =
  (if (1 <<< ((σ 53 7) &&& 31)) ≤ v5 then (Option.bind (fn_X7_asTold σ) fun q363 =>
  (some (v4, q363)))
  else (if v4 = (-1) then (fn_X7_teachOf_b40 n x1 x2 x3 (fn_X7_teachOf_b10 n x1 x2 x3 i) v4 v5 σ)
  else (Option.bind (fn_X7_ones n v5 σ) fun q364 =>
  (Option.bind (fn_X7_ones n v4 σ) fun q365 =>
  (if q365 ≤ q364 then (fn_X7_teachOf_b84 n x1 x2 x3 (fn_X7_teachOf_b10 n x1 x2 x3 i) v4 v5 σ)
  else (fn_X7_teachOf_b40 n x1 x2 x3 (fn_X7_teachOf_b10 n x1 x2 x3 i) v4 v5 σ)))))) := rfl
set_option maxRecDepth 20000 in
set_option maxHeartbeats 4000000 in
theorem ev_X7_teachOf_b10 (n : Nat) (x1 : Int32) (x2 : Int32) (x3 : Int32)  : ∀ (i : Nat) (v4 : Int32) (v5 : Int32) (σ : Sg), Ev mX7_teachOf 5 116 jW 10 [(0, .ref 53), (1, .int x1), (2, .int x2), (3, .int x3), (4, .int v4), (5, .int v5)] [] σ (fn_X7_teachOf_b10 n x1 x2 x3 i v4 v5 σ) := by
  intro i
  induction i with
  | zero =>
    intro v4 v5 σ
    exact ev_none
  | succ i ih =>
    intro v4 v5 σ
    rw [fn_X7_teachOf_b10_s]
    refine ev_iload (pc := 10) 5 dX7_teachOf_10 rfl ?_
    refine ev_iconst (pc := 12) (v := 1) dX7_teachOf_12 (by decide) ?_
    refine ev_aload_n (pc := 13) (i := 0) 0 dX7_teachOf_13 rfl rfl ?_
    refine ev_getI (pc := 14) 7 ag_C7 (rfl) (by decide) (Nat.le_of_ble_eq_true rfl) rfl rfl ag_fl_X7_120 dX7_teachOf_14 ?_
    refine ev_ishl (pc := 17) dX7_teachOf_17 ?_
    refine ev_icmp_ge (pc := 18) (tgt := 90) dX7_teachOf_18 rfl ?_ ?_
    · refine ev_aload_n (pc := 90) (i := 0) 0 dX7_teachOf_90 rfl rfl ?_
      refine ev_vV (pc := 91) (as := []) (rest := []) ⟨7, 80, 37, TX7, tyX7, ag_C7, ⟨(rfl), (by decide)⟩, mv_X7_asTold, ag_ml_X7_80, rfl, (Nat.le_of_ble_eq_true rfl), ⟨(Nat.le_of_ble_eq_true rfl), (Nat.le_of_ble_eq_true rfl)⟩, dX7_teachOf_91⟩ (im_X7_asTold σ) (fun q363 => ?_)
      refine ev_iload (pc := 94) 4 dX7_teachOf_94 rfl ?_
      exact ev_irW rfl dX7_teachOf_96
    · refine ev_iload (pc := 21) 4 dX7_teachOf_21 rfl ?_
      refine ev_iconst (pc := 23) (v := (-1)) dX7_teachOf_23 (by decide) ?_
      refine ev_icmp_eq (pc := 24) (tgt := 40) dX7_teachOf_24 rfl ?_ ?_
      · exact ev_X7_teachOf_b40 n x1 x2 x3 (fn_X7_teachOf_b10 n x1 x2 x3 i) ih v4 v5 σ
      · refine ev_iload (pc := 27) 5 dX7_teachOf_27 rfl ?_
        refine ev_sI (pc := 29) (as := [.int v5]) (rest := []) ⟨229, ms_X7_ones, ag_ml_X7_229, rfl, (Nat.le_of_ble_eq_true rfl), ⟨(Nat.le_of_ble_eq_true rfl), (Nat.le_of_ble_eq_true rfl)⟩, dX7_teachOf_29⟩ (im_X7_ones n v5 σ) (fun q364 => ?_)
        refine ev_iload (pc := 32) 4 dX7_teachOf_32 rfl ?_
        refine ev_sI (pc := 34) (as := [.int v4]) (rest := [.int q364]) ⟨229, ms_X7_ones, ag_ml_X7_229, rfl, (Nat.le_of_ble_eq_true rfl), ⟨(Nat.le_of_ble_eq_true rfl), (Nat.le_of_ble_eq_true rfl)⟩, dX7_teachOf_34⟩ (im_X7_ones n v4 σ) (fun q365 => ?_)
        refine ev_icmp_ge (pc := 37) (tgt := 84) dX7_teachOf_37 rfl ?_ ?_
        · exact ev_X7_teachOf_b84 n x1 x2 x3 (fn_X7_teachOf_b10 n x1 x2 x3 i) ih v4 v5 σ
        · exact ev_X7_teachOf_b40 n x1 x2 x3 (fn_X7_teachOf_b10 n x1 x2 x3 i) ih v4 v5 σ
def fn_X7_teachOf (n : Nat) (x1 : Int32) (x2 : Int32) (x3 : Int32) (σ : Sg) : Option (Int32 × Sg) :=
  (Option.bind (fn_X7_reads n σ) fun q366 =>
  (fn_X7_teachOf_b10 n x1 x2 x3 n (-1) 0 q366))
set_option maxRecDepth 20000 in
set_option maxHeartbeats 4000000 in
theorem im_X7_teachOf (n : Nat) (x1 : Int32) (x2 : Int32) (x3 : Int32) (σ : Sg) : Im yX7_teachOf mX7_teachOf 5 116 jW [.ref 53, .int x1, .int x2, .int x3] σ (fn_X7_teachOf n x1 x2 x3 σ) := by
  refine Im.of (by decide +kernel) rfl rfl (Nat.le_of_ble_eq_true rfl) ?_
  show Ev mX7_teachOf 5 116 jW 0 [(0, .ref 53), (1, .int x1), (2, .int x2), (3, .int x3)] [] σ (fn_X7_teachOf n x1 x2 x3 σ)
  unfold fn_X7_teachOf
  refine ev_aload_n (pc := 0) (i := 0) 0 dX7_teachOf_0 rfl rfl ?_
  refine ev_vV (pc := 1) (as := []) (rest := []) ⟨7, 104, 37, TX7, tyX7, ag_C7, ⟨(rfl), (by decide)⟩, mv_X7_reads, ag_ml_X7_104, rfl, (Nat.le_of_ble_eq_true rfl), ⟨(Nat.le_of_ble_eq_true rfl), (Nat.le_of_ble_eq_true rfl)⟩, dX7_teachOf_1⟩ (im_X7_reads n σ) (fun q366 => ?_)
  refine ev_iconst (pc := 4) (v := (-1)) dX7_teachOf_4 (by decide) ?_
  refine ev_istore (pc := 5) (lv' := [(4, .int (-1)), (0, .ref 53), (1, .int x1), (2, .int x2), (3, .int x3)]) dX7_teachOf_5 (Nat.le_of_ble_eq_true rfl) rfl ?_
  refine ev_iconst (pc := 7) (v := 0) dX7_teachOf_7 (by decide) ?_
  refine ev_istore (pc := 8) (lv' := [(5, .int 0), (4, .int (-1)), (0, .ref 53), (1, .int x1), (2, .int x2), (3, .int x3)]) dX7_teachOf_8 (Nat.le_of_ble_eq_true rfl) rfl ?_
  refine ev_sub [2, 3, 4, 5, 1, 0] rfl ?_
  exact ev_X7_teachOf_b10 n x1 x2 x3 n (-1) 0 q366
-- X7_teach
def mX7_teach : Md := (RX7, cX7_teach, 4, some .int, none)
theorem mv_X7_teach : ag_Mv yX7_teach mX7_teach 3 := ⟨ag_co_X7_teach, ag_im_X7_teach, ag_se_X7_teach, ag_ini_X7, by decide +kernel⟩
theorem dX7_teach_0 : decode mX7_teach.2.1 0 = .ok (.aload_n 0, 1) := by decide +kernel
theorem dX7_teach_1 : decode mX7_teach.2.1 1 = .ok (.iload_n 1, 1) := by decide +kernel
theorem dX7_teach_2 : decode mX7_teach.2.1 2 = .ok (.invokevirtual 107, 3) := by decide +kernel
theorem dX7_teach_5 : decode mX7_teach.2.1 5 = .ok (.ifCond .eq 34, 3) := by decide +kernel
theorem dX7_teach_8 : decode mX7_teach.2.1 8 = .ok (.iload_n 2, 1) := by decide +kernel
theorem dX7_teach_9 : decode mX7_teach.2.1 9 = .ok (.iconst 0, 1) := by decide +kernel
theorem dX7_teach_10 : decode mX7_teach.2.1 10 = .ok (.sipush 255, 3) := by decide +kernel
theorem dX7_teach_13 : decode mX7_teach.2.1 13 = .ok (.invokestatic 85, 3) := by decide +kernel
theorem dX7_teach_16 : decode mX7_teach.2.1 16 = .ok (.ifCond .eq 23, 3) := by decide +kernel
theorem dX7_teach_19 : decode mX7_teach.2.1 19 = .ok (.iload_n 3, 1) := by decide +kernel
theorem dX7_teach_20 : decode mX7_teach.2.1 20 = .ok (.iconst 0, 1) := by decide +kernel
theorem dX7_teach_21 : decode mX7_teach.2.1 21 = .ok (.bipush 99, 2) := by decide +kernel
theorem dX7_teach_23 : decode mX7_teach.2.1 23 = .ok (.invokestatic 85, 3) := by decide +kernel
theorem dX7_teach_26 : decode mX7_teach.2.1 26 = .ok (.ifCond .eq 13, 3) := by decide +kernel
theorem dX7_teach_29 : decode mX7_teach.2.1 29 = .ok (.aload_n 0, 1) := by decide +kernel
theorem dX7_teach_30 : decode mX7_teach.2.1 30 = .ok (.iload_n 1, 1) := by decide +kernel
theorem dX7_teach_31 : decode mX7_teach.2.1 31 = .ok (.iload_n 2, 1) := by decide +kernel
theorem dX7_teach_32 : decode mX7_teach.2.1 32 = .ok (.iload_n 3, 1) := by decide +kernel
theorem dX7_teach_33 : decode mX7_teach.2.1 33 = .ok (.invokevirtual 235, 3) := by decide +kernel
theorem dX7_teach_36 : decode mX7_teach.2.1 36 = .ok (.goto 5, 3) := by decide +kernel
theorem dX7_teach_39 : decode mX7_teach.2.1 39 = .ok (.bipush (-2), 2) := by decide +kernel
theorem dX7_teach_41 : decode mX7_teach.2.1 41 = .ok (.ireturn, 1) := by decide +kernel
def fn_X7_teach (n : Nat) (x1 : Int32) (x2 : Int32) (x3 : Int32) (σ : Sg) : Option (Int32 × Sg) :=
  (Option.bind (fn_X7_isPerson n x1 σ) fun q367 =>
  (if q367.1 = 0 then (some ((-2), q367.2))
  else (Option.bind (fn_X7_in x2 0 255 q367.2) fun q368 =>
  (if q368 = 0 then (some ((-2), q367.2))
  else (Option.bind (fn_X7_in x3 0 99 q367.2) fun q369 =>
  (if q369 = 0 then (some ((-2), q367.2))
  else (Option.bind (fn_X7_teachOf n x1 x2 x3 q367.2) fun q370 =>
  (some (q370.1, q370.2)))))))))
set_option maxRecDepth 20000 in
set_option maxHeartbeats 4000000 in
theorem im_X7_teach (n : Nat) (x1 : Int32) (x2 : Int32) (x3 : Int32) (σ : Sg) : Im yX7_teach mX7_teach 6 141 jW [.ref 53, .int x1, .int x2, .int x3] σ (fn_X7_teach n x1 x2 x3 σ) := by
  refine Im.of (by decide +kernel) rfl rfl (Nat.le_of_ble_eq_true rfl) ?_
  show Ev mX7_teach 6 141 jW 0 [(0, .ref 53), (1, .int x1), (2, .int x2), (3, .int x3)] [] σ (fn_X7_teach n x1 x2 x3 σ)
  unfold fn_X7_teach
  refine ev_aload_n (pc := 0) (i := 0) 0 dX7_teach_0 rfl rfl ?_
  refine ev_iload_n (pc := 1) (i := 1) 1 dX7_teach_1 rfl rfl ?_
  refine ev_vW (pc := 2) (as := [.int x1]) (rest := []) ⟨7, 107, 37, TX7, tyX7, ag_C7, ⟨(rfl), (by decide)⟩, mv_X7_isPerson, ag_ml_X7_107, rfl, (Nat.le_of_ble_eq_true rfl), ⟨(Nat.le_of_ble_eq_true rfl), (Nat.le_of_ble_eq_true rfl)⟩, dX7_teach_2⟩ (im_X7_isPerson n x1 σ) (fun q367 => ?_)
  refine ev_if_eq (pc := 5) (tgt := 39) dX7_teach_5 rfl ?_ ?_
  · refine ev_bipush (pc := 39) (v := (-2)) dX7_teach_39 (by decide) ?_
    exact ev_irW rfl dX7_teach_41
  · refine ev_iload_n (pc := 8) (i := 2) 2 dX7_teach_8 rfl rfl ?_
    refine ev_iconst (pc := 9) (v := 0) dX7_teach_9 (by decide) ?_
    refine ev_sipush (pc := 10) (v := 255) dX7_teach_10 (by decide) ?_
    refine ev_sI (pc := 13) (as := [.int x2, .int 0, .int 255]) (rest := []) ⟨85, ms_X7_in, ag_ml_X7_85, rfl, (Nat.le_of_ble_eq_true rfl), ⟨(Nat.le_of_ble_eq_true rfl), (Nat.le_of_ble_eq_true rfl)⟩, dX7_teach_13⟩ (im_X7_in x2 0 255 q367.2) (fun q368 => ?_)
    refine ev_if_eq (pc := 16) (tgt := 39) dX7_teach_16 rfl ?_ ?_
    · refine ev_bipush (pc := 39) (v := (-2)) dX7_teach_39 (by decide) ?_
      exact ev_irW rfl dX7_teach_41
    · refine ev_iload_n (pc := 19) (i := 3) 3 dX7_teach_19 rfl rfl ?_
      refine ev_iconst (pc := 20) (v := 0) dX7_teach_20 (by decide) ?_
      refine ev_bipush (pc := 21) (v := 99) dX7_teach_21 (by decide) ?_
      refine ev_sI (pc := 23) (as := [.int x3, .int 0, .int 99]) (rest := []) ⟨85, ms_X7_in, ag_ml_X7_85, rfl, (Nat.le_of_ble_eq_true rfl), ⟨(Nat.le_of_ble_eq_true rfl), (Nat.le_of_ble_eq_true rfl)⟩, dX7_teach_23⟩ (im_X7_in x3 0 99 q367.2) (fun q369 => ?_)
      refine ev_if_eq (pc := 26) (tgt := 39) dX7_teach_26 rfl ?_ ?_
      · refine ev_bipush (pc := 39) (v := (-2)) dX7_teach_39 (by decide) ?_
        exact ev_irW rfl dX7_teach_41
      · refine ev_aload_n (pc := 29) (i := 0) 0 dX7_teach_29 rfl rfl ?_
        refine ev_iload_n (pc := 30) (i := 1) 1 dX7_teach_30 rfl rfl ?_
        refine ev_iload_n (pc := 31) (i := 2) 2 dX7_teach_31 rfl rfl ?_
        refine ev_iload_n (pc := 32) (i := 3) 3 dX7_teach_32 rfl rfl ?_
        refine ev_vW (pc := 33) (as := [.int x1, .int x2, .int x3]) (rest := []) ⟨7, 235, 37, TX7, tyX7, ag_C7, ⟨(rfl), (by decide)⟩, mv_X7_teachOf, ag_ml_X7_235, rfl, (Nat.le_of_ble_eq_true rfl), ⟨(Nat.le_of_ble_eq_true rfl), (Nat.le_of_ble_eq_true rfl)⟩, dX7_teach_33⟩ (im_X7_teachOf n x1 x2 x3 q367.2) (fun q370 => ?_)
        refine ev_goto (pc := 36) (tgt := 41) dX7_teach_36 rfl ?_
        exact ev_irW rfl dX7_teach_41
-- X7_done
def mX7_done : Md := (RX7, cX7_done, 5, some .int, none)
theorem mv_X7_done : ag_Mv yX7_done mX7_done 4 := ⟨ag_co_X7_done, ag_im_X7_done, ag_se_X7_done, ag_ini_X7, by decide +kernel⟩
theorem dX7_done_0 : decode mX7_done.2.1 0 = .ok (.iload_n 1, 1) := by decide +kernel
theorem dX7_done_1 : decode mX7_done.2.1 1 = .ok (.invokestatic 114, 3) := by decide +kernel
theorem dX7_done_4 : decode mX7_done.2.1 4 = .ok (.ifCond .eq 27, 3) := by decide +kernel
theorem dX7_done_7 : decode mX7_done.2.1 7 = .ok (.iload_n 2, 1) := by decide +kernel
theorem dX7_done_8 : decode mX7_done.2.1 8 = .ok (.invokestatic 111, 3) := by decide +kernel
theorem dX7_done_11 : decode mX7_done.2.1 11 = .ok (.ifCond .eq 20, 3) := by decide +kernel
theorem dX7_done_14 : decode mX7_done.2.1 14 = .ok (.iload_n 3, 1) := by decide +kernel
theorem dX7_done_15 : decode mX7_done.2.1 15 = .ok (.invokestatic 117, 3) := by decide +kernel
theorem dX7_done_18 : decode mX7_done.2.1 18 = .ok (.ifCond .eq 13, 3) := by decide +kernel
theorem dX7_done_21 : decode mX7_done.2.1 21 = .ok (.iload 4, 2) := by decide +kernel
theorem dX7_done_23 : decode mX7_done.2.1 23 = .ok (.iconst 0, 1) := by decide +kernel
theorem dX7_done_24 : decode mX7_done.2.1 24 = .ok (.iconst 1, 1) := by decide +kernel
theorem dX7_done_25 : decode mX7_done.2.1 25 = .ok (.invokestatic 85, 3) := by decide +kernel
theorem dX7_done_28 : decode mX7_done.2.1 28 = .ok (.ifCond .ne 6, 3) := by decide +kernel
theorem dX7_done_31 : decode mX7_done.2.1 31 = .ok (.bipush (-2), 2) := by decide +kernel
theorem dX7_done_33 : decode mX7_done.2.1 33 = .ok (.ireturn, 1) := by decide +kernel
theorem dX7_done_34 : decode mX7_done.2.1 34 = .ok (.aload_n 0, 1) := by decide +kernel
theorem dX7_done_35 : decode mX7_done.2.1 35 = .ok (.getfield 238, 3) := by decide +kernel
theorem dX7_done_38 : decode mX7_done.2.1 38 = .ok (.bipush 8, 2) := by decide +kernel
theorem dX7_done_40 : decode mX7_done.2.1 40 = .ok (.if_icmp .ne 6, 3) := by decide +kernel
theorem dX7_done_43 : decode mX7_done.2.1 43 = .ok (.bipush (-4), 2) := by decide +kernel
theorem dX7_done_45 : decode mX7_done.2.1 45 = .ok (.ireturn, 1) := by decide +kernel
theorem dX7_done_46 : decode mX7_done.2.1 46 = .ok (.aload_n 0, 1) := by decide +kernel
theorem dX7_done_47 : decode mX7_done.2.1 47 = .ok (.getfield 52, 3) := by decide +kernel
theorem dX7_done_50 : decode mX7_done.2.1 50 = .ok (.aload_n 0, 1) := by decide +kernel
theorem dX7_done_51 : decode mX7_done.2.1 51 = .ok (.getfield 238, 3) := by decide +kernel
theorem dX7_done_54 : decode mX7_done.2.1 54 = .ok (.iload_n 1, 1) := by decide +kernel
theorem dX7_done_55 : decode mX7_done.2.1 55 = .ok (.iastore, 1) := by decide +kernel
theorem dX7_done_56 : decode mX7_done.2.1 56 = .ok (.aload_n 0, 1) := by decide +kernel
theorem dX7_done_57 : decode mX7_done.2.1 57 = .ok (.getfield 55, 3) := by decide +kernel
theorem dX7_done_60 : decode mX7_done.2.1 60 = .ok (.aload_n 0, 1) := by decide +kernel
theorem dX7_done_61 : decode mX7_done.2.1 61 = .ok (.getfield 238, 3) := by decide +kernel
theorem dX7_done_64 : decode mX7_done.2.1 64 = .ok (.iload_n 2, 1) := by decide +kernel
theorem dX7_done_65 : decode mX7_done.2.1 65 = .ok (.iastore, 1) := by decide +kernel
theorem dX7_done_66 : decode mX7_done.2.1 66 = .ok (.aload_n 0, 1) := by decide +kernel
theorem dX7_done_67 : decode mX7_done.2.1 67 = .ok (.getfield 58, 3) := by decide +kernel
theorem dX7_done_70 : decode mX7_done.2.1 70 = .ok (.aload_n 0, 1) := by decide +kernel
theorem dX7_done_71 : decode mX7_done.2.1 71 = .ok (.getfield 238, 3) := by decide +kernel
theorem dX7_done_74 : decode mX7_done.2.1 74 = .ok (.iload_n 3, 1) := by decide +kernel
theorem dX7_done_75 : decode mX7_done.2.1 75 = .ok (.iastore, 1) := by decide +kernel
theorem dX7_done_76 : decode mX7_done.2.1 76 = .ok (.aload_n 0, 1) := by decide +kernel
theorem dX7_done_77 : decode mX7_done.2.1 77 = .ok (.getfield 61, 3) := by decide +kernel
theorem dX7_done_80 : decode mX7_done.2.1 80 = .ok (.aload_n 0, 1) := by decide +kernel
theorem dX7_done_81 : decode mX7_done.2.1 81 = .ok (.getfield 238, 3) := by decide +kernel
theorem dX7_done_84 : decode mX7_done.2.1 84 = .ok (.iload 4, 2) := by decide +kernel
theorem dX7_done_86 : decode mX7_done.2.1 86 = .ok (.iastore, 1) := by decide +kernel
theorem dX7_done_87 : decode mX7_done.2.1 87 = .ok (.aload_n 0, 1) := by decide +kernel
theorem dX7_done_88 : decode mX7_done.2.1 88 = .ok (.dup, 1) := by decide +kernel
theorem dX7_done_89 : decode mX7_done.2.1 89 = .ok (.getfield 238, 3) := by decide +kernel
theorem dX7_done_92 : decode mX7_done.2.1 92 = .ok (.iconst 1, 1) := by decide +kernel
theorem dX7_done_93 : decode mX7_done.2.1 93 = .ok (.iadd, 1) := by decide +kernel
theorem dX7_done_94 : decode mX7_done.2.1 94 = .ok (.putfield 238, 3) := by decide +kernel
theorem dX7_done_97 : decode mX7_done.2.1 97 = .ok (.aload_n 0, 1) := by decide +kernel
theorem dX7_done_98 : decode mX7_done.2.1 98 = .ok (.getfield 238, 3) := by decide +kernel
theorem dX7_done_101 : decode mX7_done.2.1 101 = .ok (.ireturn, 1) := by decide +kernel
def fn_X7_done (x1 : Int32) (x2 : Int32) (x3 : Int32) (x4 : Int32) (σ : Sg) : Option (Int32 × Sg) :=
  (Option.bind (fn_X7_isYear x1 σ) fun q371 =>
  (if q371 = 0 then (some ((-2), σ))
  else (Option.bind (fn_X7_isTen x2 σ) fun q372 =>
  (if q372 = 0 then (some ((-2), σ))
  else (Option.bind (fn_X7_isWord x3 σ) fun q373 =>
  (if q373 = 0 then (some ((-2), σ))
  else (Option.bind (fn_X7_in x4 0 1 σ) fun q374 =>
  (if q374 = 0 then (some ((-2), σ))
  else (if (σ 53 26) = 8 then (some ((-4), σ))
  else (if ag_ib (σ 53 26) 8 = true then (if ag_ib ((ag_up σ 68 (σ 53 26).toNatClampNeg x1) 53 26) 8 = true then (ag_sg (ag_up (ag_up σ 68 (σ 53 26).toNatClampNeg x1) 69 ((ag_up σ 68 (σ 53 26).toNatClampNeg x1) 53 26).toNatClampNeg x2) fun t375 =>
  (if ag_ib (t375 53 26) 8 = true then (if ag_ib ((ag_up t375 70 (t375 53 26).toNatClampNeg x3) 53 26) 8 = true then (ag_sg (ag_up (ag_up t375 70 (t375 53 26).toNatClampNeg x3) 71 ((ag_up t375 70 (t375 53 26).toNatClampNeg x3) 53 26).toNatClampNeg x4) fun t376 =>
  (some (((ag_up t376 53 26 ((t376 53 26) + 1)) 53 26), (ag_up t376 53 26 ((t376 53 26) + 1))))) else none) else none)) else none) else none))))))))))
set_option maxRecDepth 20000 in
set_option maxHeartbeats 4000000 in
theorem im_X7_done (x1 : Int32) (x2 : Int32) (x3 : Int32) (x4 : Int32) (σ : Sg) : Im yX7_done mX7_done 2 42 jW [.ref 53, .int x1, .int x2, .int x3, .int x4] σ (fn_X7_done x1 x2 x3 x4 σ) := by
  refine Im.of (by decide +kernel) rfl rfl (Nat.le_of_ble_eq_true rfl) ?_
  show Ev mX7_done 2 42 jW 0 [(0, .ref 53), (1, .int x1), (2, .int x2), (3, .int x3), (4, .int x4)] [] σ (fn_X7_done x1 x2 x3 x4 σ)
  unfold fn_X7_done
  refine ev_iload_n (pc := 0) (i := 1) 1 dX7_done_0 rfl rfl ?_
  refine ev_sI (pc := 1) (as := [.int x1]) (rest := []) ⟨114, ms_X7_isYear, ag_ml_X7_114, rfl, (Nat.le_of_ble_eq_true rfl), ⟨(Nat.le_of_ble_eq_true rfl), (Nat.le_of_ble_eq_true rfl)⟩, dX7_done_1⟩ (im_X7_isYear x1 σ) (fun q371 => ?_)
  refine ev_if_eq (pc := 4) (tgt := 31) dX7_done_4 rfl ?_ ?_
  · refine ev_bipush (pc := 31) (v := (-2)) dX7_done_31 (by decide) ?_
    exact ev_irW rfl dX7_done_33
  · refine ev_iload_n (pc := 7) (i := 2) 2 dX7_done_7 rfl rfl ?_
    refine ev_sI (pc := 8) (as := [.int x2]) (rest := []) ⟨111, ms_X7_isTen, ag_ml_X7_111, rfl, (Nat.le_of_ble_eq_true rfl), ⟨(Nat.le_of_ble_eq_true rfl), (Nat.le_of_ble_eq_true rfl)⟩, dX7_done_8⟩ (im_X7_isTen x2 σ) (fun q372 => ?_)
    refine ev_if_eq (pc := 11) (tgt := 31) dX7_done_11 rfl ?_ ?_
    · refine ev_bipush (pc := 31) (v := (-2)) dX7_done_31 (by decide) ?_
      exact ev_irW rfl dX7_done_33
    · refine ev_iload_n (pc := 14) (i := 3) 3 dX7_done_14 rfl rfl ?_
      refine ev_sI (pc := 15) (as := [.int x3]) (rest := []) ⟨117, ms_X7_isWord, ag_ml_X7_117, rfl, (Nat.le_of_ble_eq_true rfl), ⟨(Nat.le_of_ble_eq_true rfl), (Nat.le_of_ble_eq_true rfl)⟩, dX7_done_15⟩ (im_X7_isWord x3 σ) (fun q373 => ?_)
      refine ev_if_eq (pc := 18) (tgt := 31) dX7_done_18 rfl ?_ ?_
      · refine ev_bipush (pc := 31) (v := (-2)) dX7_done_31 (by decide) ?_
        exact ev_irW rfl dX7_done_33
      · refine ev_iload (pc := 21) 4 dX7_done_21 rfl ?_
        refine ev_iconst (pc := 23) (v := 0) dX7_done_23 (by decide) ?_
        refine ev_iconst (pc := 24) (v := 1) dX7_done_24 (by decide) ?_
        refine ev_sI (pc := 25) (as := [.int x4, .int 0, .int 1]) (rest := []) ⟨85, ms_X7_in, ag_ml_X7_85, rfl, (Nat.le_of_ble_eq_true rfl), ⟨(Nat.le_of_ble_eq_true rfl), (Nat.le_of_ble_eq_true rfl)⟩, dX7_done_25⟩ (im_X7_in x4 0 1 σ) (fun q374 => ?_)
        refine ev_if_ne (pc := 28) (tgt := 34) dX7_done_28 rfl ?_ ?_
        · refine ev_bipush (pc := 31) (v := (-2)) dX7_done_31 (by decide) ?_
          exact ev_irW rfl dX7_done_33
        · refine ev_aload_n (pc := 34) (i := 0) 0 dX7_done_34 rfl rfl ?_
          refine ev_getI (pc := 35) 26 ag_C7 (rfl) (by decide) (Nat.le_of_ble_eq_true rfl) rfl rfl ag_fl_X7_238 dX7_done_35 ?_
          refine ev_bipush (pc := 38) (v := 8) dX7_done_38 (by decide) ?_
          refine ev_icmp_ne (pc := 40) (tgt := 46) dX7_done_40 rfl ?_ ?_
          · refine ev_bipush (pc := 43) (v := (-4)) dX7_done_43 (by decide) ?_
            exact ev_irW rfl dX7_done_45
          · refine ev_aload_n (pc := 46) (i := 0) 0 dX7_done_46 rfl rfl ?_
            refine ev_getR (pc := 47) (t := 68) 27 ag_C7 (rfl) (by decide) (Nat.le_of_ble_eq_true rfl) rfl rfl ag_fl_X7_52 dX7_done_47 ?_
            refine ev_aload_n (pc := 50) (i := 0) 0 dX7_done_50 rfl rfl ?_
            refine ev_getI (pc := 51) 26 ag_C7 (rfl) (by decide) (Nat.le_of_ble_eq_true rfl) rfl rfl ag_fl_X7_238 dX7_done_51 ?_
            refine ev_iload_n (pc := 54) (i := 1) 1 dX7_done_54 rfl rfl ?_
            refine ev_iast (pc := 55) (rfl) (by decide) dX7_done_55 ?_
            refine ev_aload_n (pc := 56) (i := 0) 0 dX7_done_56 rfl rfl ?_
            refine ev_getR (pc := 57) (t := 69) 28 ag_C7 (rfl) (by decide) (Nat.le_of_ble_eq_true rfl) rfl rfl ag_fl_X7_55 dX7_done_57 ?_
            refine ev_aload_n (pc := 60) (i := 0) 0 dX7_done_60 rfl rfl ?_
            refine ev_getI (pc := 61) 26 ag_C7 (rfl) (by decide) (Nat.le_of_ble_eq_true rfl) rfl rfl ag_fl_X7_238 dX7_done_61 ?_
            refine ev_iload_n (pc := 64) (i := 2) 2 dX7_done_64 rfl rfl ?_
            refine ev_iast (pc := 65) (rfl) (by decide) dX7_done_65 ?_
            refine ev_sg (fun t375 => ?_)
            refine ev_aload_n (pc := 66) (i := 0) 0 dX7_done_66 rfl rfl ?_
            refine ev_getR (pc := 67) (t := 70) 29 ag_C7 (rfl) (by decide) (Nat.le_of_ble_eq_true rfl) rfl rfl ag_fl_X7_58 dX7_done_67 ?_
            refine ev_aload_n (pc := 70) (i := 0) 0 dX7_done_70 rfl rfl ?_
            refine ev_getI (pc := 71) 26 ag_C7 (rfl) (by decide) (Nat.le_of_ble_eq_true rfl) rfl rfl ag_fl_X7_238 dX7_done_71 ?_
            refine ev_iload_n (pc := 74) (i := 3) 3 dX7_done_74 rfl rfl ?_
            refine ev_iast (pc := 75) (rfl) (by decide) dX7_done_75 ?_
            refine ev_aload_n (pc := 76) (i := 0) 0 dX7_done_76 rfl rfl ?_
            refine ev_getR (pc := 77) (t := 71) 30 ag_C7 (rfl) (by decide) (Nat.le_of_ble_eq_true rfl) rfl rfl ag_fl_X7_61 dX7_done_77 ?_
            refine ev_aload_n (pc := 80) (i := 0) 0 dX7_done_80 rfl rfl ?_
            refine ev_getI (pc := 81) 26 ag_C7 (rfl) (by decide) (Nat.le_of_ble_eq_true rfl) rfl rfl ag_fl_X7_238 dX7_done_81 ?_
            refine ev_iload (pc := 84) 4 dX7_done_84 rfl ?_
            refine ev_iast (pc := 86) (rfl) (by decide) dX7_done_86 ?_
            refine ev_sg (fun t376 => ?_)
            refine ev_aload_n (pc := 87) (i := 0) 0 dX7_done_87 rfl rfl ?_
            refine ev_dup (pc := 88) dX7_done_88 rfl ?_
            refine ev_getI (pc := 89) 26 ag_C7 (rfl) (by decide) (Nat.le_of_ble_eq_true rfl) rfl rfl ag_fl_X7_238 dX7_done_89 ?_
            refine ev_iconst (pc := 92) (v := 1) dX7_done_92 (by decide) ?_
            refine ev_iadd (pc := 93) dX7_done_93 ?_
            refine ev_put (pc := 94) 26 ag_C7 (rfl) (by decide) (Nat.le_of_ble_eq_true rfl) rfl rfl ag_fl_X7_238 rfl rfl rfl dX7_done_94 ?_
            refine ev_aload_n (pc := 97) (i := 0) 0 dX7_done_97 rfl rfl ?_
            refine ev_getI (pc := 98) 26 ag_C7 (rfl) (by decide) (Nat.le_of_ble_eq_true rfl) rfl rfl ag_fl_X7_238 dX7_done_98 ?_
            exact ev_irW rfl dX7_done_101
-- X7_forget
def mX7_forget : Md := (RX7, cX7_forget, 2, some .int, none)
theorem mv_X7_forget : ag_Mv yX7_forget mX7_forget 0 := ⟨ag_co_X7_forget, ag_im_X7_forget, ag_se_X7_forget, ag_ini_X7, by decide +kernel⟩
theorem dX7_forget_0 : decode mX7_forget.2.1 0 = .ok (.aload_n 0, 1) := by decide +kernel
theorem dX7_forget_1 : decode mX7_forget.2.1 1 = .ok (.getfield 238, 3) := by decide +kernel
theorem dX7_forget_4 : decode mX7_forget.2.1 4 = .ok (.istore_n 1, 1) := by decide +kernel
theorem dX7_forget_5 : decode mX7_forget.2.1 5 = .ok (.aload_n 0, 1) := by decide +kernel
theorem dX7_forget_6 : decode mX7_forget.2.1 6 = .ok (.iconst 0, 1) := by decide +kernel
theorem dX7_forget_7 : decode mX7_forget.2.1 7 = .ok (.putfield 238, 3) := by decide +kernel
theorem dX7_forget_10 : decode mX7_forget.2.1 10 = .ok (.iload_n 1, 1) := by decide +kernel
theorem dX7_forget_11 : decode mX7_forget.2.1 11 = .ok (.ireturn, 1) := by decide +kernel
def fn_X7_forget  (σ : Sg) : Option (Int32 × Sg) :=
  (some ((σ 53 26), (ag_up σ 53 26 0)))
set_option maxRecDepth 20000 in
set_option maxHeartbeats 4000000 in
theorem im_X7_forget  (σ : Sg) : Im yX7_forget mX7_forget 0 0 jW [.ref 53] σ (fn_X7_forget  σ) := by
  refine Im.of (by decide +kernel) rfl rfl (Nat.le_of_ble_eq_true rfl) ?_
  show Ev mX7_forget 0 0 jW 0 [(0, .ref 53)] [] σ (fn_X7_forget  σ)
  unfold fn_X7_forget
  refine ev_aload_n (pc := 0) (i := 0) 0 dX7_forget_0 rfl rfl ?_
  refine ev_getI (pc := 1) 26 ag_C7 (rfl) (by decide) (Nat.le_of_ble_eq_true rfl) rfl rfl ag_fl_X7_238 dX7_forget_1 ?_
  refine ev_istore_n (pc := 4) (i := 1) (lv' := [(1, .int (σ 53 26)), (0, .ref 53)]) dX7_forget_4 rfl (Nat.le_of_ble_eq_true rfl) rfl ?_
  refine ev_aload_n (pc := 5) (i := 0) 1 dX7_forget_5 rfl rfl ?_
  refine ev_iconst (pc := 6) (v := 0) dX7_forget_6 (by decide) ?_
  refine ev_put (pc := 7) 26 ag_C7 (rfl) (by decide) (Nat.le_of_ble_eq_true rfl) rfl rfl ag_fl_X7_238 rfl rfl rfl dX7_forget_7 ?_
  refine ev_iload_n (pc := 10) (i := 1) 0 dX7_forget_10 rfl rfl ?_
  exact ev_irW rfl dX7_forget_11
-- X7_isDone
def mX7_isDone : Md := (RX7, cX7_isDone, 3, some .boolean, none)
theorem mv_X7_isDone : ag_Mv yX7_isDone mX7_isDone 0 := ⟨ag_co_X7_isDone, ag_im_X7_isDone, ag_se_X7_isDone, ag_ini_X7, by decide +kernel⟩
theorem dX7_isDone_0 : decode mX7_isDone.2.1 0 = .ok (.iconst 1, 1) := by decide +kernel
theorem dX7_isDone_1 : decode mX7_isDone.2.1 1 = .ok (.istore_n 1, 1) := by decide +kernel
theorem dX7_isDone_2 : decode mX7_isDone.2.1 2 = .ok (.iconst 0, 1) := by decide +kernel
theorem dX7_isDone_3 : decode mX7_isDone.2.1 3 = .ok (.istore_n 2, 1) := by decide +kernel
theorem dX7_isDone_4 : decode mX7_isDone.2.1 4 = .ok (.iload_n 2, 1) := by decide +kernel
theorem dX7_isDone_5 : decode mX7_isDone.2.1 5 = .ok (.aload_n 0, 1) := by decide +kernel
theorem dX7_isDone_6 : decode mX7_isDone.2.1 6 = .ok (.getfield 238, 3) := by decide +kernel
theorem dX7_isDone_9 : decode mX7_isDone.2.1 9 = .ok (.if_icmp .ge 62, 3) := by decide +kernel
theorem dX7_isDone_12 : decode mX7_isDone.2.1 12 = .ok (.iload_n 1, 1) := by decide +kernel
theorem dX7_isDone_13 : decode mX7_isDone.2.1 13 = .ok (.ifCond .eq 58, 3) := by decide +kernel
theorem dX7_isDone_16 : decode mX7_isDone.2.1 16 = .ok (.aload_n 0, 1) := by decide +kernel
theorem dX7_isDone_17 : decode mX7_isDone.2.1 17 = .ok (.aload_n 0, 1) := by decide +kernel
theorem dX7_isDone_18 : decode mX7_isDone.2.1 18 = .ok (.getfield 52, 3) := by decide +kernel
theorem dX7_isDone_21 : decode mX7_isDone.2.1 21 = .ok (.iload_n 2, 1) := by decide +kernel
theorem dX7_isDone_22 : decode mX7_isDone.2.1 22 = .ok (.iaload, 1) := by decide +kernel
theorem dX7_isDone_23 : decode mX7_isDone.2.1 23 = .ok (.aload_n 0, 1) := by decide +kernel
theorem dX7_isDone_24 : decode mX7_isDone.2.1 24 = .ok (.getfield 120, 3) := by decide +kernel
theorem dX7_isDone_27 : decode mX7_isDone.2.1 27 = .ok (.invokevirtual 173, 3) := by decide +kernel
theorem dX7_isDone_30 : decode mX7_isDone.2.1 30 = .ok (.aload_n 0, 1) := by decide +kernel
theorem dX7_isDone_31 : decode mX7_isDone.2.1 31 = .ok (.getfield 40, 3) := by decide +kernel
theorem dX7_isDone_34 : decode mX7_isDone.2.1 34 = .ok (.aload_n 0, 1) := by decide +kernel
theorem dX7_isDone_35 : decode mX7_isDone.2.1 35 = .ok (.getfield 55, 3) := by decide +kernel
theorem dX7_isDone_38 : decode mX7_isDone.2.1 38 = .ok (.iload_n 2, 1) := by decide +kernel
theorem dX7_isDone_39 : decode mX7_isDone.2.1 39 = .ok (.iaload, 1) := by decide +kernel
theorem dX7_isDone_40 : decode mX7_isDone.2.1 40 = .ok (.iaload, 1) := by decide +kernel
theorem dX7_isDone_41 : decode mX7_isDone.2.1 41 = .ok (.aload_n 0, 1) := by decide +kernel
theorem dX7_isDone_42 : decode mX7_isDone.2.1 42 = .ok (.getfield 58, 3) := by decide +kernel
theorem dX7_isDone_45 : decode mX7_isDone.2.1 45 = .ok (.iload_n 2, 1) := by decide +kernel
theorem dX7_isDone_46 : decode mX7_isDone.2.1 46 = .ok (.iaload, 1) := by decide +kernel
theorem dX7_isDone_47 : decode mX7_isDone.2.1 47 = .ok (.ishr, 1) := by decide +kernel
theorem dX7_isDone_48 : decode mX7_isDone.2.1 48 = .ok (.iconst 1, 1) := by decide +kernel
theorem dX7_isDone_49 : decode mX7_isDone.2.1 49 = .ok (.iand, 1) := by decide +kernel
theorem dX7_isDone_50 : decode mX7_isDone.2.1 50 = .ok (.aload_n 0, 1) := by decide +kernel
theorem dX7_isDone_51 : decode mX7_isDone.2.1 51 = .ok (.getfield 61, 3) := by decide +kernel
theorem dX7_isDone_54 : decode mX7_isDone.2.1 54 = .ok (.iload_n 2, 1) := by decide +kernel
theorem dX7_isDone_55 : decode mX7_isDone.2.1 55 = .ok (.iaload, 1) := by decide +kernel
theorem dX7_isDone_56 : decode mX7_isDone.2.1 56 = .ok (.if_icmp .ne 7, 3) := by decide +kernel
theorem dX7_isDone_59 : decode mX7_isDone.2.1 59 = .ok (.iconst 1, 1) := by decide +kernel
theorem dX7_isDone_60 : decode mX7_isDone.2.1 60 = .ok (.goto 4, 3) := by decide +kernel
theorem dX7_isDone_63 : decode mX7_isDone.2.1 63 = .ok (.iconst 0, 1) := by decide +kernel
theorem dX7_isDone_64 : decode mX7_isDone.2.1 64 = .ok (.istore_n 1, 1) := by decide +kernel
theorem dX7_isDone_65 : decode mX7_isDone.2.1 65 = .ok (.iinc 2 1, 3) := by decide +kernel
theorem dX7_isDone_68 : decode mX7_isDone.2.1 68 = .ok (.goto (-64), 3) := by decide +kernel
theorem dX7_isDone_71 : decode mX7_isDone.2.1 71 = .ok (.iload_n 1, 1) := by decide +kernel
theorem dX7_isDone_72 : decode mX7_isDone.2.1 72 = .ok (.ireturn, 1) := by decide +kernel
def fn_X7_isDone_b64 (n : Nat)  (k4 : Int32 → Int32 → Sg → Option (Int32 × Sg)) (v2 : Int32) (s0 : Int32) (σ : Sg) : Option (Int32 × Sg) :=
  (k4 s0 (v2 + 1) σ)
set_option maxRecDepth 20000 in
set_option maxHeartbeats 4000000 in
theorem ev_X7_isDone_b64 (n : Nat)  (k4 : Int32 → Int32 → Sg → Option (Int32 × Sg)) (hk4 : ∀ (v1 : Int32) (v2 : Int32) (σ : Sg), Ev mX7_isDone 5 116 jW 4 [(0, .ref 53), (1, .int v1), (2, .int v2)] [] σ (k4 v1 v2 σ)) (v2 : Int32) (s0 : Int32) (σ : Sg) : Ev mX7_isDone 5 116 jW 64 [(0, .ref 53), (2, .int v2)] [.int s0] σ (fn_X7_isDone_b64 n k4 v2 s0 σ) := by
  unfold fn_X7_isDone_b64
  refine ev_istore_n (pc := 64) (i := 1) (lv' := [(1, .int s0), (0, .ref 53), (2, .int v2)]) dX7_isDone_64 rfl (Nat.le_of_ble_eq_true rfl) rfl ?_
  refine ev_iinc (pc := 65) (v := (v2 + 1)) (lv' := [(2, .int (v2 + 1)), (1, .int s0), (0, .ref 53)]) 2 dX7_isDone_65 rfl rfl (Nat.le_of_ble_eq_true rfl) rfl ?_
  refine ev_goto (pc := 68) (tgt := 4) dX7_isDone_68 rfl ?_
  refine ev_sub [2, 1, 0] rfl ?_
  exact hk4 s0 (v2 + 1) σ
def fn_X7_isDone_b4 (n : Nat)   : Nat → Int32 → Int32 → Sg → Option (Int32 × Sg)
  | 0 => fun _ _ _ => none
  | i + 1 => fun v1 v2 σ =>
  (if (σ 53 26) ≤ v2 then (if ag_bl v1 = true then (some (v1, σ)) else none)
  else (if v1 = 0 then (if ag_bl v1 = true then (some (v1, σ)) else none)
  else (if ag_ib v2 8 = true then (Option.bind (fn_X7_runs n (σ 68 v2.toNatClampNeg) (σ 53 7) σ) fun q377 =>
  (if ag_ib v2 8 = true then (if ag_ib (q377 69 v2.toNatClampNeg) 10 = true then (if ag_ib v2 8 = true then (if ag_ib v2 8 = true then (if (((q377 64 (q377 69 v2.toNatClampNeg).toNatClampNeg) >>> ((q377 70 v2.toNatClampNeg) &&& 31)) &&& 1) = (q377 71 v2.toNatClampNeg) then (fn_X7_isDone_b64 n (fn_X7_isDone_b4 n i) v2 1 q377)
  else (fn_X7_isDone_b64 n (fn_X7_isDone_b4 n i) v2 0 q377)) else none) else none) else none) else none)) else none)))
theorem fn_X7_isDone_b4_s (n : Nat)   (i : Nat) (v1 : Int32) (v2 : Int32) (σ : Sg) : fn_X7_isDone_b4 n (i + 1) v1 v2 σ =
  (if (σ 53 26) ≤ v2 then (if ag_bl v1 = true then (some (v1, σ)) else none)
  else (if v1 = 0 then (if ag_bl v1 = true then (some (v1, σ)) else none)
  else (if ag_ib v2 8 = true then (Option.bind (fn_X7_runs n (σ 68 v2.toNatClampNeg) (σ 53 7) σ) fun q377 =>
  (if ag_ib v2 8 = true then (if ag_ib (q377 69 v2.toNatClampNeg) 10 = true then (if ag_ib v2 8 = true then (if ag_ib v2 8 = true then (if (((q377 64 (q377 69 v2.toNatClampNeg).toNatClampNeg) >>> ((q377 70 v2.toNatClampNeg) &&& 31)) &&& 1) = (q377 71 v2.toNatClampNeg) then (fn_X7_isDone_b64 n (fn_X7_isDone_b4 n i) v2 1 q377)
  else (fn_X7_isDone_b64 n (fn_X7_isDone_b4 n i) v2 0 q377)) else none) else none) else none) else none)) else none))) := rfl
set_option maxRecDepth 20000 in
set_option maxHeartbeats 4000000 in
theorem ev_X7_isDone_b4 (n : Nat)   : ∀ (i : Nat) (v1 : Int32) (v2 : Int32) (σ : Sg), Ev mX7_isDone 5 116 jW 4 [(0, .ref 53), (1, .int v1), (2, .int v2)] [] σ (fn_X7_isDone_b4 n i v1 v2 σ) := by
  intro i
  induction i with
  | zero =>
    intro v1 v2 σ
    exact ev_none
  | succ i ih =>
    intro v1 v2 σ
    rw [fn_X7_isDone_b4_s]
    refine ev_iload_n (pc := 4) (i := 2) 2 dX7_isDone_4 rfl rfl ?_
    refine ev_aload_n (pc := 5) (i := 0) 0 dX7_isDone_5 rfl rfl ?_
    refine ev_getI (pc := 6) 26 ag_C7 (rfl) (by decide) (Nat.le_of_ble_eq_true rfl) rfl rfl ag_fl_X7_238 dX7_isDone_6 ?_
    refine ev_icmp_ge (pc := 9) (tgt := 71) dX7_isDone_9 rfl ?_ ?_
    · refine ev_iload_n (pc := 71) (i := 1) 1 dX7_isDone_71 rfl rfl ?_
      exact ev_zrW rfl dX7_isDone_72
    · refine ev_iload_n (pc := 12) (i := 1) 1 dX7_isDone_12 rfl rfl ?_
      refine ev_if_eq (pc := 13) (tgt := 71) dX7_isDone_13 rfl ?_ ?_
      · refine ev_iload_n (pc := 71) (i := 1) 1 dX7_isDone_71 rfl rfl ?_
        exact ev_zrW rfl dX7_isDone_72
      · refine ev_aload_n (pc := 16) (i := 0) 0 dX7_isDone_16 rfl rfl ?_
        refine ev_aload_n (pc := 17) (i := 0) 0 dX7_isDone_17 rfl rfl ?_
        refine ev_getR (pc := 18) (t := 68) 27 ag_C7 (rfl) (by decide) (Nat.le_of_ble_eq_true rfl) rfl rfl ag_fl_X7_52 dX7_isDone_18 ?_
        refine ev_iload_n (pc := 21) (i := 2) 2 dX7_isDone_21 rfl rfl ?_
        refine ev_iald (pc := 22) (rfl) (by decide) dX7_isDone_22 ?_
        refine ev_aload_n (pc := 23) (i := 0) 0 dX7_isDone_23 rfl rfl ?_
        refine ev_getI (pc := 24) 7 ag_C7 (rfl) (by decide) (Nat.le_of_ble_eq_true rfl) rfl rfl ag_fl_X7_120 dX7_isDone_24 ?_
        refine ev_vV (pc := 27) (as := [.int (σ 68 v2.toNatClampNeg), .int (σ 53 7)]) (rest := []) ⟨7, 173, 37, TX7, tyX7, ag_C7, ⟨(rfl), (by decide)⟩, mv_X7_runs, ag_ml_X7_173, rfl, (Nat.le_of_ble_eq_true rfl), ⟨(Nat.le_of_ble_eq_true rfl), (Nat.le_of_ble_eq_true rfl)⟩, dX7_isDone_27⟩ (im_X7_runs n (σ 68 v2.toNatClampNeg) (σ 53 7) σ) (fun q377 => ?_)
        refine ev_aload_n (pc := 30) (i := 0) 0 dX7_isDone_30 rfl rfl ?_
        refine ev_getR (pc := 31) (t := 64) 19 ag_C7 (rfl) (by decide) (Nat.le_of_ble_eq_true rfl) rfl rfl ag_fl_X7_40 dX7_isDone_31 ?_
        refine ev_aload_n (pc := 34) (i := 0) 0 dX7_isDone_34 rfl rfl ?_
        refine ev_getR (pc := 35) (t := 69) 28 ag_C7 (rfl) (by decide) (Nat.le_of_ble_eq_true rfl) rfl rfl ag_fl_X7_55 dX7_isDone_35 ?_
        refine ev_iload_n (pc := 38) (i := 2) 2 dX7_isDone_38 rfl rfl ?_
        refine ev_iald (pc := 39) (rfl) (by decide) dX7_isDone_39 ?_
        refine ev_iald (pc := 40) (rfl) (by decide) dX7_isDone_40 ?_
        refine ev_aload_n (pc := 41) (i := 0) 0 dX7_isDone_41 rfl rfl ?_
        refine ev_getR (pc := 42) (t := 70) 29 ag_C7 (rfl) (by decide) (Nat.le_of_ble_eq_true rfl) rfl rfl ag_fl_X7_58 dX7_isDone_42 ?_
        refine ev_iload_n (pc := 45) (i := 2) 2 dX7_isDone_45 rfl rfl ?_
        refine ev_iald (pc := 46) (rfl) (by decide) dX7_isDone_46 ?_
        refine ev_ishr (pc := 47) dX7_isDone_47 ?_
        refine ev_iconst (pc := 48) (v := 1) dX7_isDone_48 (by decide) ?_
        refine ev_iand (pc := 49) dX7_isDone_49 ?_
        refine ev_aload_n (pc := 50) (i := 0) 0 dX7_isDone_50 rfl rfl ?_
        refine ev_getR (pc := 51) (t := 71) 30 ag_C7 (rfl) (by decide) (Nat.le_of_ble_eq_true rfl) rfl rfl ag_fl_X7_61 dX7_isDone_51 ?_
        refine ev_iload_n (pc := 54) (i := 2) 2 dX7_isDone_54 rfl rfl ?_
        refine ev_iald (pc := 55) (rfl) (by decide) dX7_isDone_55 ?_
        refine ev_icmp_ne (pc := 56) (tgt := 63) dX7_isDone_56 rfl ?_ ?_
        · refine ev_iconst (pc := 59) (v := 1) dX7_isDone_59 (by decide) ?_
          refine ev_goto (pc := 60) (tgt := 64) dX7_isDone_60 rfl ?_
          refine ev_sub [0, 2] rfl ?_
          exact ev_X7_isDone_b64 n (fn_X7_isDone_b4 n i) ih v2 1 q377
        · refine ev_iconst (pc := 63) (v := 0) dX7_isDone_63 (by decide) ?_
          refine ev_sub [0, 2] rfl ?_
          exact ev_X7_isDone_b64 n (fn_X7_isDone_b4 n i) ih v2 0 q377
def fn_X7_isDone (n : Nat)  (σ : Sg) : Option (Int32 × Sg) :=
  (fn_X7_isDone_b4 n n 1 0 σ)
set_option maxRecDepth 20000 in
set_option maxHeartbeats 4000000 in
theorem im_X7_isDone (n : Nat)  (σ : Sg) : Im yX7_isDone mX7_isDone 5 116 jW [.ref 53] σ (fn_X7_isDone n  σ) := by
  refine Im.of (by decide +kernel) rfl rfl (Nat.le_of_ble_eq_true rfl) ?_
  show Ev mX7_isDone 5 116 jW 0 [(0, .ref 53)] [] σ (fn_X7_isDone n  σ)
  unfold fn_X7_isDone
  refine ev_iconst (pc := 0) (v := 1) dX7_isDone_0 (by decide) ?_
  refine ev_istore_n (pc := 1) (i := 1) (lv' := [(1, .int 1), (0, .ref 53)]) dX7_isDone_1 rfl (Nat.le_of_ble_eq_true rfl) rfl ?_
  refine ev_iconst (pc := 2) (v := 0) dX7_isDone_2 (by decide) ?_
  refine ev_istore_n (pc := 3) (i := 2) (lv' := [(2, .int 0), (1, .int 1), (0, .ref 53)]) dX7_isDone_3 rfl (Nat.le_of_ble_eq_true rfl) rfl ?_
  refine ev_sub [2, 1, 0] rfl ?_
  exact ev_X7_isDone_b4 n n 1 0 σ
-- X7_saidOf
def mX7_saidOf : Md := (RX7, cX7_saidOf, 5, some .int, none)
theorem mv_X7_saidOf : ag_Mv yX7_saidOf mX7_saidOf 1 := ⟨ag_co_X7_saidOf, ag_im_X7_saidOf, ag_se_X7_saidOf, ag_ini_X7, by decide +kernel⟩
theorem dX7_saidOf_0 : decode mX7_saidOf.2.1 0 = .ok (.aload_n 0, 1) := by decide +kernel
theorem dX7_saidOf_1 : decode mX7_saidOf.2.1 1 = .ok (.invokevirtual 104, 3) := by decide +kernel
theorem dX7_saidOf_4 : decode mX7_saidOf.2.1 4 = .ok (.aload_n 0, 1) := by decide +kernel
theorem dX7_saidOf_5 : decode mX7_saidOf.2.1 5 = .ok (.getfield 34, 3) := by decide +kernel
theorem dX7_saidOf_8 : decode mX7_saidOf.2.1 8 = .ok (.iload_n 1, 1) := by decide +kernel
theorem dX7_saidOf_9 : decode mX7_saidOf.2.1 9 = .ok (.iaload, 1) := by decide +kernel
theorem dX7_saidOf_10 : decode mX7_saidOf.2.1 10 = .ok (.istore_n 2, 1) := by decide +kernel
theorem dX7_saidOf_11 : decode mX7_saidOf.2.1 11 = .ok (.iconst 0, 1) := by decide +kernel
theorem dX7_saidOf_12 : decode mX7_saidOf.2.1 12 = .ok (.istore_n 3, 1) := by decide +kernel
theorem dX7_saidOf_13 : decode mX7_saidOf.2.1 13 = .ok (.iconst 0, 1) := by decide +kernel
theorem dX7_saidOf_14 : decode mX7_saidOf.2.1 14 = .ok (.istore 4, 2) := by decide +kernel
theorem dX7_saidOf_16 : decode mX7_saidOf.2.1 16 = .ok (.iload 4, 2) := by decide +kernel
theorem dX7_saidOf_18 : decode mX7_saidOf.2.1 18 = .ok (.bipush 8, 2) := by decide +kernel
theorem dX7_saidOf_20 : decode mX7_saidOf.2.1 20 = .ok (.if_icmp .ge 35, 3) := by decide +kernel
theorem dX7_saidOf_23 : decode mX7_saidOf.2.1 23 = .ok (.aload_n 0, 1) := by decide +kernel
theorem dX7_saidOf_24 : decode mX7_saidOf.2.1 24 = .ok (.getfield 34, 3) := by decide +kernel
theorem dX7_saidOf_27 : decode mX7_saidOf.2.1 27 = .ok (.iload_n 1, 1) := by decide +kernel
theorem dX7_saidOf_28 : decode mX7_saidOf.2.1 28 = .ok (.iload 4, 2) := by decide +kernel
theorem dX7_saidOf_30 : decode mX7_saidOf.2.1 30 = .ok (.iastore, 1) := by decide +kernel
theorem dX7_saidOf_31 : decode mX7_saidOf.2.1 31 = .ok (.iload_n 3, 1) := by decide +kernel
theorem dX7_saidOf_32 : decode mX7_saidOf.2.1 32 = .ok (.aload_n 0, 1) := by decide +kernel
theorem dX7_saidOf_33 : decode mX7_saidOf.2.1 33 = .ok (.invokevirtual 241, 3) := by decide +kernel
theorem dX7_saidOf_36 : decode mX7_saidOf.2.1 36 = .ok (.ifCond .eq 10, 3) := by decide +kernel
theorem dX7_saidOf_39 : decode mX7_saidOf.2.1 39 = .ok (.iconst 1, 1) := by decide +kernel
theorem dX7_saidOf_40 : decode mX7_saidOf.2.1 40 = .ok (.iload 4, 2) := by decide +kernel
theorem dX7_saidOf_42 : decode mX7_saidOf.2.1 42 = .ok (.ishl, 1) := by decide +kernel
theorem dX7_saidOf_43 : decode mX7_saidOf.2.1 43 = .ok (.goto 4, 3) := by decide +kernel
theorem dX7_saidOf_46 : decode mX7_saidOf.2.1 46 = .ok (.iconst 0, 1) := by decide +kernel
theorem dX7_saidOf_47 : decode mX7_saidOf.2.1 47 = .ok (.ior, 1) := by decide +kernel
theorem dX7_saidOf_48 : decode mX7_saidOf.2.1 48 = .ok (.istore_n 3, 1) := by decide +kernel
theorem dX7_saidOf_49 : decode mX7_saidOf.2.1 49 = .ok (.iinc 4 1, 3) := by decide +kernel
theorem dX7_saidOf_52 : decode mX7_saidOf.2.1 52 = .ok (.goto (-36), 3) := by decide +kernel
theorem dX7_saidOf_55 : decode mX7_saidOf.2.1 55 = .ok (.aload_n 0, 1) := by decide +kernel
theorem dX7_saidOf_56 : decode mX7_saidOf.2.1 56 = .ok (.getfield 34, 3) := by decide +kernel
theorem dX7_saidOf_59 : decode mX7_saidOf.2.1 59 = .ok (.iload_n 1, 1) := by decide +kernel
theorem dX7_saidOf_60 : decode mX7_saidOf.2.1 60 = .ok (.iload_n 2, 1) := by decide +kernel
theorem dX7_saidOf_61 : decode mX7_saidOf.2.1 61 = .ok (.iastore, 1) := by decide +kernel
theorem dX7_saidOf_62 : decode mX7_saidOf.2.1 62 = .ok (.iload_n 3, 1) := by decide +kernel
theorem dX7_saidOf_63 : decode mX7_saidOf.2.1 63 = .ok (.ireturn, 1) := by decide +kernel
def fn_X7_saidOf_b47 (n : Nat) (x1 : Int32) (k16 : Int32 → Int32 → Int32 → Sg → Option (Int32 × Sg)) (v2 : Int32) (v4 : Int32) (s0 : Int32) (s1 : Int32) (σ : Sg) : Option (Int32 × Sg) :=
  (k16 v2 (s0 ||| s1) (v4 + 1) σ)
set_option maxRecDepth 20000 in
set_option maxHeartbeats 4000000 in
theorem ev_X7_saidOf_b47 (n : Nat) (x1 : Int32) (k16 : Int32 → Int32 → Int32 → Sg → Option (Int32 × Sg)) (hk16 : ∀ (v2 : Int32) (v3 : Int32) (v4 : Int32) (σ : Sg), Ev mX7_saidOf 6 138 jW 16 [(0, .ref 53), (1, .int x1), (2, .int v2), (3, .int v3), (4, .int v4)] [] σ (k16 v2 v3 v4 σ)) (v2 : Int32) (v4 : Int32) (s0 : Int32) (s1 : Int32) (σ : Sg) : Ev mX7_saidOf 6 138 jW 47 [(0, .ref 53), (1, .int x1), (2, .int v2), (4, .int v4)] [.int s1, .int s0] σ (fn_X7_saidOf_b47 n x1 k16 v2 v4 s0 s1 σ) := by
  unfold fn_X7_saidOf_b47
  refine ev_ior (pc := 47) dX7_saidOf_47 ?_
  refine ev_istore_n (pc := 48) (i := 3) (lv' := [(3, .int (s0 ||| s1)), (0, .ref 53), (1, .int x1), (2, .int v2), (4, .int v4)]) dX7_saidOf_48 rfl (Nat.le_of_ble_eq_true rfl) rfl ?_
  refine ev_iinc (pc := 49) (v := (v4 + 1)) (lv' := [(4, .int (v4 + 1)), (3, .int (s0 ||| s1)), (0, .ref 53), (1, .int x1), (2, .int v2)]) 4 dX7_saidOf_49 rfl rfl (Nat.le_of_ble_eq_true rfl) rfl ?_
  refine ev_goto (pc := 52) (tgt := 16) dX7_saidOf_52 rfl ?_
  refine ev_sub [2, 3, 4, 1, 0] rfl ?_
  exact hk16 v2 (s0 ||| s1) (v4 + 1) σ
def fn_X7_saidOf_b16 (n : Nat) (x1 : Int32)  : Nat → Int32 → Int32 → Int32 → Sg → Option (Int32 × Sg)
  | 0 => fun _ _ _ _ => none
  | i + 1 => fun v2 v3 v4 σ =>
  (if 8 ≤ v4 then (if ag_ib x1 13 = true then (some (v3, (ag_up σ 62 x1.toNatClampNeg v2))) else none)
  else (if ag_ib x1 13 = true then (Option.bind (fn_X7_isDone n (ag_up σ 62 x1.toNatClampNeg v4)) fun q378 =>
  (if q378.1 = 0 then (fn_X7_saidOf_b47 n x1 (fn_X7_saidOf_b16 n x1 i) v2 v4 v3 0 q378.2)
  else (fn_X7_saidOf_b47 n x1 (fn_X7_saidOf_b16 n x1 i) v2 v4 v3 (1 <<< (v4 &&& 31)) q378.2))) else none))
theorem fn_X7_saidOf_b16_s (n : Nat) (x1 : Int32)  (i : Nat) (v2 : Int32) (v3 : Int32) (v4 : Int32) (σ : Sg) : fn_X7_saidOf_b16 n x1 (i + 1) v2 v3 v4 σ =
  (if 8 ≤ v4 then (if ag_ib x1 13 = true then (some (v3, (ag_up σ 62 x1.toNatClampNeg v2))) else none)
  else (if ag_ib x1 13 = true then (Option.bind (fn_X7_isDone n (ag_up σ 62 x1.toNatClampNeg v4)) fun q378 =>
  (if q378.1 = 0 then (fn_X7_saidOf_b47 n x1 (fn_X7_saidOf_b16 n x1 i) v2 v4 v3 0 q378.2)
  else (fn_X7_saidOf_b47 n x1 (fn_X7_saidOf_b16 n x1 i) v2 v4 v3 (1 <<< (v4 &&& 31)) q378.2))) else none)) := rfl
set_option maxRecDepth 20000 in
set_option maxHeartbeats 4000000 in
theorem ev_X7_saidOf_b16 (n : Nat) (x1 : Int32)  : ∀ (i : Nat) (v2 : Int32) (v3 : Int32) (v4 : Int32) (σ : Sg), Ev mX7_saidOf 6 138 jW 16 [(0, .ref 53), (1, .int x1), (2, .int v2), (3, .int v3), (4, .int v4)] [] σ (fn_X7_saidOf_b16 n x1 i v2 v3 v4 σ) := by
  intro i
  induction i with
  | zero =>
    intro v2 v3 v4 σ
    exact ev_none
  | succ i ih =>
    intro v2 v3 v4 σ
    rw [fn_X7_saidOf_b16_s]
    refine ev_iload (pc := 16) 4 dX7_saidOf_16 rfl ?_
    refine ev_bipush (pc := 18) (v := 8) dX7_saidOf_18 (by decide) ?_
    refine ev_icmp_ge (pc := 20) (tgt := 55) dX7_saidOf_20 rfl ?_ ?_
    · refine ev_aload_n (pc := 55) (i := 0) 0 dX7_saidOf_55 rfl rfl ?_
      refine ev_getR (pc := 56) (t := 62) 11 ag_C7 (rfl) (by decide) (Nat.le_of_ble_eq_true rfl) rfl rfl ag_fl_X7_34 dX7_saidOf_56 ?_
      refine ev_iload_n (pc := 59) (i := 1) 1 dX7_saidOf_59 rfl rfl ?_
      refine ev_iload_n (pc := 60) (i := 2) 2 dX7_saidOf_60 rfl rfl ?_
      refine ev_iast (pc := 61) (rfl) (by decide) dX7_saidOf_61 ?_
      refine ev_iload_n (pc := 62) (i := 3) 3 dX7_saidOf_62 rfl rfl ?_
      exact ev_irW rfl dX7_saidOf_63
    · refine ev_aload_n (pc := 23) (i := 0) 0 dX7_saidOf_23 rfl rfl ?_
      refine ev_getR (pc := 24) (t := 62) 11 ag_C7 (rfl) (by decide) (Nat.le_of_ble_eq_true rfl) rfl rfl ag_fl_X7_34 dX7_saidOf_24 ?_
      refine ev_iload_n (pc := 27) (i := 1) 1 dX7_saidOf_27 rfl rfl ?_
      refine ev_iload (pc := 28) 4 dX7_saidOf_28 rfl ?_
      refine ev_iast (pc := 30) (rfl) (by decide) dX7_saidOf_30 ?_
      refine ev_iload_n (pc := 31) (i := 3) 3 dX7_saidOf_31 rfl rfl ?_
      refine ev_aload_n (pc := 32) (i := 0) 0 dX7_saidOf_32 rfl rfl ?_
      refine ev_vW (pc := 33) (as := []) (rest := [.int v3]) ⟨7, 241, 37, TX7, tyX7, ag_C7, ⟨(rfl), (by decide)⟩, mv_X7_isDone, ag_ml_X7_241, rfl, (Nat.le_of_ble_eq_true rfl), ⟨(Nat.le_of_ble_eq_true rfl), (Nat.le_of_ble_eq_true rfl)⟩, dX7_saidOf_33⟩ (im_X7_isDone n (ag_up σ 62 x1.toNatClampNeg v4)) (fun q378 => ?_)
      refine ev_if_eq (pc := 36) (tgt := 46) dX7_saidOf_36 rfl ?_ ?_
      · refine ev_iconst (pc := 46) (v := 0) dX7_saidOf_46 (by decide) ?_
        refine ev_sub [0, 1, 2, 4] rfl ?_
        exact ev_X7_saidOf_b47 n x1 (fn_X7_saidOf_b16 n x1 i) ih v2 v4 v3 0 q378.2
      · refine ev_iconst (pc := 39) (v := 1) dX7_saidOf_39 (by decide) ?_
        refine ev_iload (pc := 40) 4 dX7_saidOf_40 rfl ?_
        refine ev_ishl (pc := 42) dX7_saidOf_42 ?_
        refine ev_goto (pc := 43) (tgt := 47) dX7_saidOf_43 rfl ?_
        refine ev_sub [0, 1, 2, 4] rfl ?_
        exact ev_X7_saidOf_b47 n x1 (fn_X7_saidOf_b16 n x1 i) ih v2 v4 v3 (1 <<< (v4 &&& 31)) q378.2
def fn_X7_saidOf (n : Nat) (x1 : Int32) (σ : Sg) : Option (Int32 × Sg) :=
  (Option.bind (fn_X7_reads n σ) fun q379 =>
  (if ag_ib x1 13 = true then (fn_X7_saidOf_b16 n x1 n (q379 62 x1.toNatClampNeg) 0 0 q379) else none))
set_option maxRecDepth 20000 in
set_option maxHeartbeats 4000000 in
theorem im_X7_saidOf (n : Nat) (x1 : Int32) (σ : Sg) : Im yX7_saidOf mX7_saidOf 6 138 jW [.ref 53, .int x1] σ (fn_X7_saidOf n x1 σ) := by
  refine Im.of (by decide +kernel) rfl rfl (Nat.le_of_ble_eq_true rfl) ?_
  show Ev mX7_saidOf 6 138 jW 0 [(0, .ref 53), (1, .int x1)] [] σ (fn_X7_saidOf n x1 σ)
  unfold fn_X7_saidOf
  refine ev_aload_n (pc := 0) (i := 0) 0 dX7_saidOf_0 rfl rfl ?_
  refine ev_vV (pc := 1) (as := []) (rest := []) ⟨7, 104, 37, TX7, tyX7, ag_C7, ⟨(rfl), (by decide)⟩, mv_X7_reads, ag_ml_X7_104, rfl, (Nat.le_of_ble_eq_true rfl), ⟨(Nat.le_of_ble_eq_true rfl), (Nat.le_of_ble_eq_true rfl)⟩, dX7_saidOf_1⟩ (im_X7_reads n σ) (fun q379 => ?_)
  refine ev_aload_n (pc := 4) (i := 0) 0 dX7_saidOf_4 rfl rfl ?_
  refine ev_getR (pc := 5) (t := 62) 11 ag_C7 (rfl) (by decide) (Nat.le_of_ble_eq_true rfl) rfl rfl ag_fl_X7_34 dX7_saidOf_5 ?_
  refine ev_iload_n (pc := 8) (i := 1) 1 dX7_saidOf_8 rfl rfl ?_
  refine ev_iald (pc := 9) (rfl) (by decide) dX7_saidOf_9 ?_
  refine ev_istore_n (pc := 10) (i := 2) (lv' := [(2, .int (q379 62 x1.toNatClampNeg)), (0, .ref 53), (1, .int x1)]) dX7_saidOf_10 rfl (Nat.le_of_ble_eq_true rfl) rfl ?_
  refine ev_iconst (pc := 11) (v := 0) dX7_saidOf_11 (by decide) ?_
  refine ev_istore_n (pc := 12) (i := 3) (lv' := [(3, .int 0), (2, .int (q379 62 x1.toNatClampNeg)), (0, .ref 53), (1, .int x1)]) dX7_saidOf_12 rfl (Nat.le_of_ble_eq_true rfl) rfl ?_
  refine ev_iconst (pc := 13) (v := 0) dX7_saidOf_13 (by decide) ?_
  refine ev_istore (pc := 14) (lv' := [(4, .int 0), (3, .int 0), (2, .int (q379 62 x1.toNatClampNeg)), (0, .ref 53), (1, .int x1)]) dX7_saidOf_14 (Nat.le_of_ble_eq_true rfl) rfl ?_
  refine ev_sub [3, 4, 2, 1, 0] rfl ?_
  exact ev_X7_saidOf_b16 n x1 n (q379 62 x1.toNatClampNeg) 0 0 q379
-- X7_said
def mX7_said : Md := (RX7, cX7_said, 2, some .int, none)
theorem mv_X7_said : ag_Mv yX7_said mX7_said 1 := ⟨ag_co_X7_said, ag_im_X7_said, ag_se_X7_said, ag_ini_X7, by decide +kernel⟩
theorem dX7_said_0 : decode mX7_said.2.1 0 = .ok (.iload_n 1, 1) := by decide +kernel
theorem dX7_said_1 : decode mX7_said.2.1 1 = .ok (.iconst 0, 1) := by decide +kernel
theorem dX7_said_2 : decode mX7_said.2.1 2 = .ok (.aload_n 0, 1) := by decide +kernel
theorem dX7_said_3 : decode mX7_said.2.1 3 = .ok (.getfield 120, 3) := by decide +kernel
theorem dX7_said_6 : decode mX7_said.2.1 6 = .ok (.iconst 1, 1) := by decide +kernel
theorem dX7_said_7 : decode mX7_said.2.1 7 = .ok (.isub, 1) := by decide +kernel
theorem dX7_said_8 : decode mX7_said.2.1 8 = .ok (.invokestatic 85, 3) := by decide +kernel
theorem dX7_said_11 : decode mX7_said.2.1 11 = .ok (.ifCond .eq 11, 3) := by decide +kernel
theorem dX7_said_14 : decode mX7_said.2.1 14 = .ok (.aload_n 0, 1) := by decide +kernel
theorem dX7_said_15 : decode mX7_said.2.1 15 = .ok (.iload_n 1, 1) := by decide +kernel
theorem dX7_said_16 : decode mX7_said.2.1 16 = .ok (.invokevirtual 245, 3) := by decide +kernel
theorem dX7_said_19 : decode mX7_said.2.1 19 = .ok (.goto 5, 3) := by decide +kernel
theorem dX7_said_22 : decode mX7_said.2.1 22 = .ok (.bipush (-2), 2) := by decide +kernel
theorem dX7_said_24 : decode mX7_said.2.1 24 = .ok (.ireturn, 1) := by decide +kernel
def fn_X7_said (n : Nat) (x1 : Int32) (σ : Sg) : Option (Int32 × Sg) :=
  (Option.bind (fn_X7_in x1 0 ((σ 53 7) - 1) σ) fun q380 =>
  (if q380 = 0 then (some ((-2), σ))
  else (Option.bind (fn_X7_saidOf n x1 σ) fun q381 =>
  (some (q381.1, q381.2)))))
set_option maxRecDepth 20000 in
set_option maxHeartbeats 4000000 in
theorem im_X7_said (n : Nat) (x1 : Int32) (σ : Sg) : Im yX7_said mX7_said 7 162 jW [.ref 53, .int x1] σ (fn_X7_said n x1 σ) := by
  refine Im.of (by decide +kernel) rfl rfl (Nat.le_of_ble_eq_true rfl) ?_
  show Ev mX7_said 7 162 jW 0 [(0, .ref 53), (1, .int x1)] [] σ (fn_X7_said n x1 σ)
  unfold fn_X7_said
  refine ev_iload_n (pc := 0) (i := 1) 1 dX7_said_0 rfl rfl ?_
  refine ev_iconst (pc := 1) (v := 0) dX7_said_1 (by decide) ?_
  refine ev_aload_n (pc := 2) (i := 0) 0 dX7_said_2 rfl rfl ?_
  refine ev_getI (pc := 3) 7 ag_C7 (rfl) (by decide) (Nat.le_of_ble_eq_true rfl) rfl rfl ag_fl_X7_120 dX7_said_3 ?_
  refine ev_iconst (pc := 6) (v := 1) dX7_said_6 (by decide) ?_
  refine ev_isub (pc := 7) dX7_said_7 ?_
  refine ev_sI (pc := 8) (as := [.int x1, .int 0, .int ((σ 53 7) - 1)]) (rest := []) ⟨85, ms_X7_in, ag_ml_X7_85, rfl, (Nat.le_of_ble_eq_true rfl), ⟨(Nat.le_of_ble_eq_true rfl), (Nat.le_of_ble_eq_true rfl)⟩, dX7_said_8⟩ (im_X7_in x1 0 ((σ 53 7) - 1) σ) (fun q380 => ?_)
  refine ev_if_eq (pc := 11) (tgt := 22) dX7_said_11 rfl ?_ ?_
  · refine ev_bipush (pc := 22) (v := (-2)) dX7_said_22 (by decide) ?_
    exact ev_irW rfl dX7_said_24
  · refine ev_aload_n (pc := 14) (i := 0) 0 dX7_said_14 rfl rfl ?_
    refine ev_iload_n (pc := 15) (i := 1) 1 dX7_said_15 rfl rfl ?_
    refine ev_vW (pc := 16) (as := [.int x1]) (rest := []) ⟨7, 245, 37, TX7, tyX7, ag_C7, ⟨(rfl), (by decide)⟩, mv_X7_saidOf, ag_ml_X7_245, rfl, (Nat.le_of_ble_eq_true rfl), ⟨(Nat.le_of_ble_eq_true rfl), (Nat.le_of_ble_eq_true rfl)⟩, dX7_said_16⟩ (im_X7_saidOf n x1 σ) (fun q381 => ?_)
    refine ev_goto (pc := 19) (tgt := 24) dX7_said_19 rfl ?_
    exact ev_irW rfl dX7_said_24
-- X7_forgedNow
def mX7_forgedNow : Md := (RX7, cX7_forgedNow, 3, some .int, none)
theorem mv_X7_forgedNow : ag_Mv yX7_forgedNow mX7_forgedNow 0 := ⟨ag_co_X7_forgedNow, ag_im_X7_forgedNow, ag_se_X7_forgedNow, ag_ini_X7, by decide +kernel⟩
theorem dX7_forgedNow_0 : decode mX7_forgedNow.2.1 0 = .ok (.aload_n 0, 1) := by decide +kernel
theorem dX7_forgedNow_1 : decode mX7_forgedNow.2.1 1 = .ok (.invokevirtual 104, 3) := by decide +kernel
theorem dX7_forgedNow_4 : decode mX7_forgedNow.2.1 4 = .ok (.iconst 0, 1) := by decide +kernel
theorem dX7_forgedNow_5 : decode mX7_forgedNow.2.1 5 = .ok (.istore_n 1, 1) := by decide +kernel
theorem dX7_forgedNow_6 : decode mX7_forgedNow.2.1 6 = .ok (.iconst (-1), 1) := by decide +kernel
theorem dX7_forgedNow_7 : decode mX7_forgedNow.2.1 7 = .ok (.istore_n 2, 1) := by decide +kernel
theorem dX7_forgedNow_8 : decode mX7_forgedNow.2.1 8 = .ok (.iload_n 2, 1) := by decide +kernel
theorem dX7_forgedNow_9 : decode mX7_forgedNow.2.1 9 = .ok (.aload_n 0, 1) := by decide +kernel
theorem dX7_forgedNow_10 : decode mX7_forgedNow.2.1 10 = .ok (.getfield 93, 3) := by decide +kernel
theorem dX7_forgedNow_13 : decode mX7_forgedNow.2.1 13 = .ok (.if_icmp .ge 41, 3) := by decide +kernel
theorem dX7_forgedNow_16 : decode mX7_forgedNow.2.1 16 = .ok (.aload_n 0, 1) := by decide +kernel
theorem dX7_forgedNow_17 : decode mX7_forgedNow.2.1 17 = .ok (.iload_n 2, 1) := by decide +kernel
theorem dX7_forgedNow_18 : decode mX7_forgedNow.2.1 18 = .ok (.putfield 140, 3) := by decide +kernel
theorem dX7_forgedNow_21 : decode mX7_forgedNow.2.1 21 = .ok (.iload_n 1, 1) := by decide +kernel
theorem dX7_forgedNow_22 : decode mX7_forgedNow.2.1 22 = .ok (.aload_n 0, 1) := by decide +kernel
theorem dX7_forgedNow_23 : decode mX7_forgedNow.2.1 23 = .ok (.invokevirtual 241, 3) := by decide +kernel
theorem dX7_forgedNow_26 : decode mX7_forgedNow.2.1 26 = .ok (.ifCond .eq 19, 3) := by decide +kernel
theorem dX7_forgedNow_29 : decode mX7_forgedNow.2.1 29 = .ok (.iconst 1, 1) := by decide +kernel
theorem dX7_forgedNow_30 : decode mX7_forgedNow.2.1 30 = .ok (.iload_n 2, 1) := by decide +kernel
theorem dX7_forgedNow_31 : decode mX7_forgedNow.2.1 31 = .ok (.iconst (-1), 1) := by decide +kernel
theorem dX7_forgedNow_32 : decode mX7_forgedNow.2.1 32 = .ok (.if_icmp .ne 8, 3) := by decide +kernel
theorem dX7_forgedNow_35 : decode mX7_forgedNow.2.1 35 = .ok (.bipush 10, 2) := by decide +kernel
theorem dX7_forgedNow_37 : decode mX7_forgedNow.2.1 37 = .ok (.goto 4, 3) := by decide +kernel
theorem dX7_forgedNow_40 : decode mX7_forgedNow.2.1 40 = .ok (.iload_n 2, 1) := by decide +kernel
theorem dX7_forgedNow_41 : decode mX7_forgedNow.2.1 41 = .ok (.ishl, 1) := by decide +kernel
theorem dX7_forgedNow_42 : decode mX7_forgedNow.2.1 42 = .ok (.goto 4, 3) := by decide +kernel
theorem dX7_forgedNow_45 : decode mX7_forgedNow.2.1 45 = .ok (.iconst 0, 1) := by decide +kernel
theorem dX7_forgedNow_46 : decode mX7_forgedNow.2.1 46 = .ok (.ior, 1) := by decide +kernel
theorem dX7_forgedNow_47 : decode mX7_forgedNow.2.1 47 = .ok (.istore_n 1, 1) := by decide +kernel
theorem dX7_forgedNow_48 : decode mX7_forgedNow.2.1 48 = .ok (.iinc 2 1, 3) := by decide +kernel
theorem dX7_forgedNow_51 : decode mX7_forgedNow.2.1 51 = .ok (.goto (-43), 3) := by decide +kernel
theorem dX7_forgedNow_54 : decode mX7_forgedNow.2.1 54 = .ok (.aload_n 0, 1) := by decide +kernel
theorem dX7_forgedNow_55 : decode mX7_forgedNow.2.1 55 = .ok (.invokevirtual 80, 3) := by decide +kernel
theorem dX7_forgedNow_58 : decode mX7_forgedNow.2.1 58 = .ok (.iload_n 1, 1) := by decide +kernel
theorem dX7_forgedNow_59 : decode mX7_forgedNow.2.1 59 = .ok (.ireturn, 1) := by decide +kernel
def fn_X7_forgedNow_b46 (n : Nat)  (k8 : Int32 → Int32 → Sg → Option (Int32 × Sg)) (v2 : Int32) (s0 : Int32) (s1 : Int32) (σ : Sg) : Option (Int32 × Sg) :=
  (k8 (s0 ||| s1) (v2 + 1) σ)
set_option maxRecDepth 20000 in
set_option maxHeartbeats 4000000 in
theorem ev_X7_forgedNow_b46 (n : Nat)  (k8 : Int32 → Int32 → Sg → Option (Int32 × Sg)) (hk8 : ∀ (v1 : Int32) (v2 : Int32) (σ : Sg), Ev mX7_forgedNow 6 138 jW 8 [(0, .ref 53), (1, .int v1), (2, .int v2)] [] σ (k8 v1 v2 σ)) (v2 : Int32) (s0 : Int32) (s1 : Int32) (σ : Sg) : Ev mX7_forgedNow 6 138 jW 46 [(0, .ref 53), (2, .int v2)] [.int s1, .int s0] σ (fn_X7_forgedNow_b46 n k8 v2 s0 s1 σ) := by
  unfold fn_X7_forgedNow_b46
  refine ev_ior (pc := 46) dX7_forgedNow_46 ?_
  refine ev_istore_n (pc := 47) (i := 1) (lv' := [(1, .int (s0 ||| s1)), (0, .ref 53), (2, .int v2)]) dX7_forgedNow_47 rfl (Nat.le_of_ble_eq_true rfl) rfl ?_
  refine ev_iinc (pc := 48) (v := (v2 + 1)) (lv' := [(2, .int (v2 + 1)), (1, .int (s0 ||| s1)), (0, .ref 53)]) 2 dX7_forgedNow_48 rfl rfl (Nat.le_of_ble_eq_true rfl) rfl ?_
  refine ev_goto (pc := 51) (tgt := 8) dX7_forgedNow_51 rfl ?_
  refine ev_sub [2, 1, 0] rfl ?_
  exact hk8 (s0 ||| s1) (v2 + 1) σ
def fn_X7_forgedNow_b41 (n : Nat)  (k8 : Int32 → Int32 → Sg → Option (Int32 × Sg)) (v2 : Int32) (s0 : Int32) (s1 : Int32) (s2 : Int32) (σ : Sg) : Option (Int32 × Sg) :=
  (fn_X7_forgedNow_b46 n k8 v2 s0 (s1 <<< (s2 &&& 31)) σ)
set_option maxRecDepth 20000 in
set_option maxHeartbeats 4000000 in
theorem ev_X7_forgedNow_b41 (n : Nat)  (k8 : Int32 → Int32 → Sg → Option (Int32 × Sg)) (hk8 : ∀ (v1 : Int32) (v2 : Int32) (σ : Sg), Ev mX7_forgedNow 6 138 jW 8 [(0, .ref 53), (1, .int v1), (2, .int v2)] [] σ (k8 v1 v2 σ)) (v2 : Int32) (s0 : Int32) (s1 : Int32) (s2 : Int32) (σ : Sg) : Ev mX7_forgedNow 6 138 jW 41 [(0, .ref 53), (2, .int v2)] [.int s2, .int s1, .int s0] σ (fn_X7_forgedNow_b41 n k8 v2 s0 s1 s2 σ) := by
  unfold fn_X7_forgedNow_b41
  refine ev_ishl (pc := 41) dX7_forgedNow_41 ?_
  refine ev_goto (pc := 42) (tgt := 46) dX7_forgedNow_42 rfl ?_
  exact ev_X7_forgedNow_b46 n k8 hk8 v2 s0 (s1 <<< (s2 &&& 31)) σ
def fn_X7_forgedNow_b8 (n : Nat)   : Nat → Int32 → Int32 → Sg → Option (Int32 × Sg)
  | 0 => fun _ _ _ => none
  | i + 1 => fun v1 v2 σ =>
  (if (σ 53 2) ≤ v2 then (Option.bind (fn_X7_asTold σ) fun q382 =>
  (some (v1, q382)))
  else (Option.bind (fn_X7_isDone n (ag_up σ 53 14 v2)) fun q383 =>
  (if q383.1 = 0 then (fn_X7_forgedNow_b46 n (fn_X7_forgedNow_b8 n i) v2 v1 0 q383.2)
  else (if v2 = (-1) then (fn_X7_forgedNow_b41 n (fn_X7_forgedNow_b8 n i) v2 v1 1 10 q383.2)
  else (fn_X7_forgedNow_b41 n (fn_X7_forgedNow_b8 n i) v2 v1 1 v2 q383.2)))))
theorem fn_X7_forgedNow_b8_s (n : Nat)   (i : Nat) (v1 : Int32) (v2 : Int32) (σ : Sg) : fn_X7_forgedNow_b8 n (i + 1) v1 v2 σ =
  (if (σ 53 2) ≤ v2 then (Option.bind (fn_X7_asTold σ) fun q382 =>
  (some (v1, q382)))
  else (Option.bind (fn_X7_isDone n (ag_up σ 53 14 v2)) fun q383 =>
  (if q383.1 = 0 then (fn_X7_forgedNow_b46 n (fn_X7_forgedNow_b8 n i) v2 v1 0 q383.2)
  else (if v2 = (-1) then (fn_X7_forgedNow_b41 n (fn_X7_forgedNow_b8 n i) v2 v1 1 10 q383.2)
  else (fn_X7_forgedNow_b41 n (fn_X7_forgedNow_b8 n i) v2 v1 1 v2 q383.2))))) := rfl
set_option maxRecDepth 20000 in
set_option maxHeartbeats 4000000 in
theorem ev_X7_forgedNow_b8 (n : Nat)   : ∀ (i : Nat) (v1 : Int32) (v2 : Int32) (σ : Sg), Ev mX7_forgedNow 6 138 jW 8 [(0, .ref 53), (1, .int v1), (2, .int v2)] [] σ (fn_X7_forgedNow_b8 n i v1 v2 σ) := by
  intro i
  induction i with
  | zero =>
    intro v1 v2 σ
    exact ev_none
  | succ i ih =>
    intro v1 v2 σ
    rw [fn_X7_forgedNow_b8_s]
    refine ev_iload_n (pc := 8) (i := 2) 2 dX7_forgedNow_8 rfl rfl ?_
    refine ev_aload_n (pc := 9) (i := 0) 0 dX7_forgedNow_9 rfl rfl ?_
    refine ev_getI (pc := 10) 2 ag_C7 (rfl) (by decide) (Nat.le_of_ble_eq_true rfl) rfl rfl ag_fl_X7_93 dX7_forgedNow_10 ?_
    refine ev_icmp_ge (pc := 13) (tgt := 54) dX7_forgedNow_13 rfl ?_ ?_
    · refine ev_aload_n (pc := 54) (i := 0) 0 dX7_forgedNow_54 rfl rfl ?_
      refine ev_vV (pc := 55) (as := []) (rest := []) ⟨7, 80, 37, TX7, tyX7, ag_C7, ⟨(rfl), (by decide)⟩, mv_X7_asTold, ag_ml_X7_80, rfl, (Nat.le_of_ble_eq_true rfl), ⟨(Nat.le_of_ble_eq_true rfl), (Nat.le_of_ble_eq_true rfl)⟩, dX7_forgedNow_55⟩ (im_X7_asTold σ) (fun q382 => ?_)
      refine ev_iload_n (pc := 58) (i := 1) 1 dX7_forgedNow_58 rfl rfl ?_
      exact ev_irW rfl dX7_forgedNow_59
    · refine ev_aload_n (pc := 16) (i := 0) 0 dX7_forgedNow_16 rfl rfl ?_
      refine ev_iload_n (pc := 17) (i := 2) 2 dX7_forgedNow_17 rfl rfl ?_
      refine ev_put (pc := 18) 14 ag_C7 (rfl) (by decide) (Nat.le_of_ble_eq_true rfl) rfl rfl ag_fl_X7_140 rfl rfl rfl dX7_forgedNow_18 ?_
      refine ev_iload_n (pc := 21) (i := 1) 1 dX7_forgedNow_21 rfl rfl ?_
      refine ev_aload_n (pc := 22) (i := 0) 0 dX7_forgedNow_22 rfl rfl ?_
      refine ev_vW (pc := 23) (as := []) (rest := [.int v1]) ⟨7, 241, 37, TX7, tyX7, ag_C7, ⟨(rfl), (by decide)⟩, mv_X7_isDone, ag_ml_X7_241, rfl, (Nat.le_of_ble_eq_true rfl), ⟨(Nat.le_of_ble_eq_true rfl), (Nat.le_of_ble_eq_true rfl)⟩, dX7_forgedNow_23⟩ (im_X7_isDone n (ag_up σ 53 14 v2)) (fun q383 => ?_)
      refine ev_if_eq (pc := 26) (tgt := 45) dX7_forgedNow_26 rfl ?_ ?_
      · refine ev_iconst (pc := 45) (v := 0) dX7_forgedNow_45 (by decide) ?_
        refine ev_sub [0, 2] rfl ?_
        exact ev_X7_forgedNow_b46 n (fn_X7_forgedNow_b8 n i) ih v2 v1 0 q383.2
      · refine ev_iconst (pc := 29) (v := 1) dX7_forgedNow_29 (by decide) ?_
        refine ev_iload_n (pc := 30) (i := 2) 2 dX7_forgedNow_30 rfl rfl ?_
        refine ev_iconst (pc := 31) (v := (-1)) dX7_forgedNow_31 (by decide) ?_
        refine ev_icmp_ne (pc := 32) (tgt := 40) dX7_forgedNow_32 rfl ?_ ?_
        · refine ev_bipush (pc := 35) (v := 10) dX7_forgedNow_35 (by decide) ?_
          refine ev_goto (pc := 37) (tgt := 41) dX7_forgedNow_37 rfl ?_
          refine ev_sub [0, 2] rfl ?_
          exact ev_X7_forgedNow_b41 n (fn_X7_forgedNow_b8 n i) ih v2 v1 1 10 q383.2
        · refine ev_iload_n (pc := 40) (i := 2) 2 dX7_forgedNow_40 rfl rfl ?_
          refine ev_sub [0, 2] rfl ?_
          exact ev_X7_forgedNow_b41 n (fn_X7_forgedNow_b8 n i) ih v2 v1 1 v2 q383.2
def fn_X7_forgedNow (n : Nat)  (σ : Sg) : Option (Int32 × Sg) :=
  (Option.bind (fn_X7_reads n σ) fun q384 =>
  (fn_X7_forgedNow_b8 n n 0 (-1) q384))
set_option maxRecDepth 20000 in
set_option maxHeartbeats 4000000 in
theorem im_X7_forgedNow (n : Nat)  (σ : Sg) : Im yX7_forgedNow mX7_forgedNow 6 138 jW [.ref 53] σ (fn_X7_forgedNow n  σ) := by
  refine Im.of (by decide +kernel) rfl rfl (Nat.le_of_ble_eq_true rfl) ?_
  show Ev mX7_forgedNow 6 138 jW 0 [(0, .ref 53)] [] σ (fn_X7_forgedNow n  σ)
  unfold fn_X7_forgedNow
  refine ev_aload_n (pc := 0) (i := 0) 0 dX7_forgedNow_0 rfl rfl ?_
  refine ev_vV (pc := 1) (as := []) (rest := []) ⟨7, 104, 37, TX7, tyX7, ag_C7, ⟨(rfl), (by decide)⟩, mv_X7_reads, ag_ml_X7_104, rfl, (Nat.le_of_ble_eq_true rfl), ⟨(Nat.le_of_ble_eq_true rfl), (Nat.le_of_ble_eq_true rfl)⟩, dX7_forgedNow_1⟩ (im_X7_reads n σ) (fun q384 => ?_)
  refine ev_iconst (pc := 4) (v := 0) dX7_forgedNow_4 (by decide) ?_
  refine ev_istore_n (pc := 5) (i := 1) (lv' := [(1, .int 0), (0, .ref 53)]) dX7_forgedNow_5 rfl (Nat.le_of_ble_eq_true rfl) rfl ?_
  refine ev_iconst (pc := 6) (v := (-1)) dX7_forgedNow_6 (by decide) ?_
  refine ev_istore_n (pc := 7) (i := 2) (lv' := [(2, .int (-1)), (1, .int 0), (0, .ref 53)]) dX7_forgedNow_7 rfl (Nat.le_of_ble_eq_true rfl) rfl ?_
  refine ev_sub [2, 1, 0] rfl ?_
  exact ev_X7_forgedNow_b8 n n 0 (-1) q384
-- X7_forged
def mX7_forged : Md := (RX7, cX7_forged, 1, some .int, none)
theorem mv_X7_forged : ag_Mv yX7_forged mX7_forged 0 := ⟨ag_co_X7_forged, ag_im_X7_forged, ag_se_X7_forged, ag_ini_X7, by decide +kernel⟩
theorem dX7_forged_0 : decode mX7_forged.2.1 0 = .ok (.aload_n 0, 1) := by decide +kernel
theorem dX7_forged_1 : decode mX7_forged.2.1 1 = .ok (.invokevirtual 248, 3) := by decide +kernel
theorem dX7_forged_4 : decode mX7_forged.2.1 4 = .ok (.ireturn, 1) := by decide +kernel
def fn_X7_forged (n : Nat)  (σ : Sg) : Option (Int32 × Sg) :=
  (Option.bind (fn_X7_forgedNow n σ) fun q385 =>
  (some (q385.1, q385.2)))
set_option maxRecDepth 20000 in
set_option maxHeartbeats 4000000 in
theorem im_X7_forged (n : Nat)  (σ : Sg) : Im yX7_forged mX7_forged 7 160 jW [.ref 53] σ (fn_X7_forged n  σ) := by
  refine Im.of (by decide +kernel) rfl rfl (Nat.le_of_ble_eq_true rfl) ?_
  show Ev mX7_forged 7 160 jW 0 [(0, .ref 53)] [] σ (fn_X7_forged n  σ)
  unfold fn_X7_forged
  refine ev_aload_n (pc := 0) (i := 0) 0 dX7_forged_0 rfl rfl ?_
  refine ev_vW (pc := 1) (as := []) (rest := []) ⟨7, 248, 37, TX7, tyX7, ag_C7, ⟨(rfl), (by decide)⟩, mv_X7_forgedNow, ag_ml_X7_248, rfl, (Nat.le_of_ble_eq_true rfl), ⟨(Nat.le_of_ble_eq_true rfl), (Nat.le_of_ble_eq_true rfl)⟩, dX7_forged_1⟩ (im_X7_forgedNow n σ) (fun q385 => ?_)
  exact ev_irW rfl dX7_forged_4
-- X7_chanceOf
def mX7_chanceOf : Md := (RX7, cX7_chanceOf, 13, some .long, none)
theorem mv_X7_chanceOf : ag_Mv yX7_chanceOf mX7_chanceOf 4 := ⟨ag_co_X7_chanceOf, ag_im_X7_chanceOf, ag_se_X7_chanceOf, ag_ini_X7, by decide +kernel⟩
theorem dX7_chanceOf_0 : decode mX7_chanceOf.2.1 0 = .ok (.aload_n 0, 1) := by decide +kernel
theorem dX7_chanceOf_1 : decode mX7_chanceOf.2.1 1 = .ok (.invokevirtual 104, 3) := by decide +kernel
theorem dX7_chanceOf_4 : decode mX7_chanceOf.2.1 4 = .ok (.lconst 1, 1) := by decide +kernel
theorem dX7_chanceOf_5 : decode mX7_chanceOf.2.1 5 = .ok (.lstore 5, 2) := by decide +kernel
theorem dX7_chanceOf_7 : decode mX7_chanceOf.2.1 7 = .ok (.iconst 0, 1) := by decide +kernel
theorem dX7_chanceOf_8 : decode mX7_chanceOf.2.1 8 = .ok (.istore 7, 2) := by decide +kernel
theorem dX7_chanceOf_10 : decode mX7_chanceOf.2.1 10 = .ok (.iload 7, 2) := by decide +kernel
theorem dX7_chanceOf_12 : decode mX7_chanceOf.2.1 12 = .ok (.aload_n 0, 1) := by decide +kernel
theorem dX7_chanceOf_13 : decode mX7_chanceOf.2.1 13 = .ok (.getfield 93, 3) := by decide +kernel
theorem dX7_chanceOf_16 : decode mX7_chanceOf.2.1 16 = .ok (.if_icmp .ge 17, 3) := by decide +kernel
theorem dX7_chanceOf_19 : decode mX7_chanceOf.2.1 19 = .ok (.lload 5, 2) := by decide +kernel
theorem dX7_chanceOf_21 : decode mX7_chanceOf.2.1 21 = .ok (.ldc2_w 251, 3) := by decide +kernel
theorem dX7_chanceOf_24 : decode mX7_chanceOf.2.1 24 = .ok (.lmul, 1) := by decide +kernel
theorem dX7_chanceOf_25 : decode mX7_chanceOf.2.1 25 = .ok (.lstore 5, 2) := by decide +kernel
theorem dX7_chanceOf_27 : decode mX7_chanceOf.2.1 27 = .ok (.iinc 7 1, 3) := by decide +kernel
theorem dX7_chanceOf_30 : decode mX7_chanceOf.2.1 30 = .ok (.goto (-20), 3) := by decide +kernel
theorem dX7_chanceOf_33 : decode mX7_chanceOf.2.1 33 = .ok (.lconst 0, 1) := by decide +kernel
theorem dX7_chanceOf_34 : decode mX7_chanceOf.2.1 34 = .ok (.lstore 7, 2) := by decide +kernel
theorem dX7_chanceOf_36 : decode mX7_chanceOf.2.1 36 = .ok (.iconst 0, 1) := by decide +kernel
theorem dX7_chanceOf_37 : decode mX7_chanceOf.2.1 37 = .ok (.istore 9, 2) := by decide +kernel
theorem dX7_chanceOf_39 : decode mX7_chanceOf.2.1 39 = .ok (.iload 9, 2) := by decide +kernel
theorem dX7_chanceOf_41 : decode mX7_chanceOf.2.1 41 = .ok (.iconst 1, 1) := by decide +kernel
theorem dX7_chanceOf_42 : decode mX7_chanceOf.2.1 42 = .ok (.aload_n 0, 1) := by decide +kernel
theorem dX7_chanceOf_43 : decode mX7_chanceOf.2.1 43 = .ok (.getfield 93, 3) := by decide +kernel
theorem dX7_chanceOf_46 : decode mX7_chanceOf.2.1 46 = .ok (.ishl, 1) := by decide +kernel
theorem dX7_chanceOf_47 : decode mX7_chanceOf.2.1 47 = .ok (.if_icmp .ge 103, 3) := by decide +kernel
theorem dX7_chanceOf_50 : decode mX7_chanceOf.2.1 50 = .ok (.lconst 1, 1) := by decide +kernel
theorem dX7_chanceOf_51 : decode mX7_chanceOf.2.1 51 = .ok (.lstore 10, 2) := by decide +kernel
theorem dX7_chanceOf_53 : decode mX7_chanceOf.2.1 53 = .ok (.iconst 0, 1) := by decide +kernel
theorem dX7_chanceOf_54 : decode mX7_chanceOf.2.1 54 = .ok (.istore 12, 2) := by decide +kernel
theorem dX7_chanceOf_56 : decode mX7_chanceOf.2.1 56 = .ok (.iload 12, 2) := by decide +kernel
theorem dX7_chanceOf_58 : decode mX7_chanceOf.2.1 58 = .ok (.aload_n 0, 1) := by decide +kernel
theorem dX7_chanceOf_59 : decode mX7_chanceOf.2.1 59 = .ok (.getfield 93, 3) := by decide +kernel
theorem dX7_chanceOf_62 : decode mX7_chanceOf.2.1 62 = .ok (.if_icmp .ge 34, 3) := by decide +kernel
theorem dX7_chanceOf_65 : decode mX7_chanceOf.2.1 65 = .ok (.lload 10, 2) := by decide +kernel
theorem dX7_chanceOf_67 : decode mX7_chanceOf.2.1 67 = .ok (.iload 9, 2) := by decide +kernel
theorem dX7_chanceOf_69 : decode mX7_chanceOf.2.1 69 = .ok (.iload 12, 2) := by decide +kernel
theorem dX7_chanceOf_71 : decode mX7_chanceOf.2.1 71 = .ok (.invokestatic 155, 3) := by decide +kernel
theorem dX7_chanceOf_74 : decode mX7_chanceOf.2.1 74 = .ok (.ifCond .eq 8, 3) := by decide +kernel
theorem dX7_chanceOf_77 : decode mX7_chanceOf.2.1 77 = .ok (.iload_n 1, 1) := by decide +kernel
theorem dX7_chanceOf_78 : decode mX7_chanceOf.2.1 78 = .ok (.i2l, 1) := by decide +kernel
theorem dX7_chanceOf_79 : decode mX7_chanceOf.2.1 79 = .ok (.goto 8, 3) := by decide +kernel
theorem dX7_chanceOf_82 : decode mX7_chanceOf.2.1 82 = .ok (.bipush 16, 2) := by decide +kernel
theorem dX7_chanceOf_84 : decode mX7_chanceOf.2.1 84 = .ok (.iload_n 1, 1) := by decide +kernel
theorem dX7_chanceOf_85 : decode mX7_chanceOf.2.1 85 = .ok (.isub, 1) := by decide +kernel
theorem dX7_chanceOf_86 : decode mX7_chanceOf.2.1 86 = .ok (.i2l, 1) := by decide +kernel
theorem dX7_chanceOf_87 : decode mX7_chanceOf.2.1 87 = .ok (.lmul, 1) := by decide +kernel
theorem dX7_chanceOf_88 : decode mX7_chanceOf.2.1 88 = .ok (.lstore 10, 2) := by decide +kernel
theorem dX7_chanceOf_90 : decode mX7_chanceOf.2.1 90 = .ok (.iinc 12 1, 3) := by decide +kernel
theorem dX7_chanceOf_93 : decode mX7_chanceOf.2.1 93 = .ok (.goto (-37), 3) := by decide +kernel
theorem dX7_chanceOf_96 : decode mX7_chanceOf.2.1 96 = .ok (.lload 10, 2) := by decide +kernel
theorem dX7_chanceOf_98 : decode mX7_chanceOf.2.1 98 = .ok (.lconst 0, 1) := by decide +kernel
theorem dX7_chanceOf_99 : decode mX7_chanceOf.2.1 99 = .ok (.lcmp, 1) := by decide +kernel
theorem dX7_chanceOf_100 : decode mX7_chanceOf.2.1 100 = .ok (.ifCond .le 44, 3) := by decide +kernel
theorem dX7_chanceOf_103 : decode mX7_chanceOf.2.1 103 = .ok (.aload_n 0, 1) := by decide +kernel
theorem dX7_chanceOf_104 : decode mX7_chanceOf.2.1 104 = .ok (.iload 9, 2) := by decide +kernel
theorem dX7_chanceOf_106 : decode mX7_chanceOf.2.1 106 = .ok (.putfield 143, 3) := by decide +kernel
theorem dX7_chanceOf_109 : decode mX7_chanceOf.2.1 109 = .ok (.aload_n 0, 1) := by decide +kernel
theorem dX7_chanceOf_110 : decode mX7_chanceOf.2.1 110 = .ok (.sipush 199, 3) := by decide +kernel
theorem dX7_chanceOf_113 : decode mX7_chanceOf.2.1 113 = .ok (.aload_n 0, 1) := by decide +kernel
theorem dX7_chanceOf_114 : decode mX7_chanceOf.2.1 114 = .ok (.getfield 120, 3) := by decide +kernel
theorem dX7_chanceOf_117 : decode mX7_chanceOf.2.1 117 = .ok (.invokevirtual 173, 3) := by decide +kernel
theorem dX7_chanceOf_120 : decode mX7_chanceOf.2.1 120 = .ok (.lload 7, 2) := by decide +kernel
theorem dX7_chanceOf_122 : decode mX7_chanceOf.2.1 122 = .ok (.aload_n 0, 1) := by decide +kernel
theorem dX7_chanceOf_123 : decode mX7_chanceOf.2.1 123 = .ok (.getfield 40, 3) := by decide +kernel
theorem dX7_chanceOf_126 : decode mX7_chanceOf.2.1 126 = .ok (.iload_n 2, 1) := by decide +kernel
theorem dX7_chanceOf_127 : decode mX7_chanceOf.2.1 127 = .ok (.iaload, 1) := by decide +kernel
theorem dX7_chanceOf_128 : decode mX7_chanceOf.2.1 128 = .ok (.iload_n 3, 1) := by decide +kernel
theorem dX7_chanceOf_129 : decode mX7_chanceOf.2.1 129 = .ok (.invokestatic 155, 3) := by decide +kernel
theorem dX7_chanceOf_132 : decode mX7_chanceOf.2.1 132 = .ok (.ifCond .eq 8, 3) := by decide +kernel
theorem dX7_chanceOf_135 : decode mX7_chanceOf.2.1 135 = .ok (.lload 10, 2) := by decide +kernel
theorem dX7_chanceOf_137 : decode mX7_chanceOf.2.1 137 = .ok (.goto 4, 3) := by decide +kernel
theorem dX7_chanceOf_140 : decode mX7_chanceOf.2.1 140 = .ok (.lconst 0, 1) := by decide +kernel
theorem dX7_chanceOf_141 : decode mX7_chanceOf.2.1 141 = .ok (.ladd, 1) := by decide +kernel
theorem dX7_chanceOf_142 : decode mX7_chanceOf.2.1 142 = .ok (.lstore 7, 2) := by decide +kernel
theorem dX7_chanceOf_144 : decode mX7_chanceOf.2.1 144 = .ok (.iinc 9 1, 3) := by decide +kernel
theorem dX7_chanceOf_147 : decode mX7_chanceOf.2.1 147 = .ok (.goto (-108), 3) := by decide +kernel
theorem dX7_chanceOf_150 : decode mX7_chanceOf.2.1 150 = .ok (.aload_n 0, 1) := by decide +kernel
theorem dX7_chanceOf_151 : decode mX7_chanceOf.2.1 151 = .ok (.invokevirtual 80, 3) := by decide +kernel
theorem dX7_chanceOf_154 : decode mX7_chanceOf.2.1 154 = .ok (.lload 7, 2) := by decide +kernel
theorem dX7_chanceOf_156 : decode mX7_chanceOf.2.1 156 = .ok (.lload 5, 2) := by decide +kernel
theorem dX7_chanceOf_158 : decode mX7_chanceOf.2.1 158 = .ok (.iload 4, 2) := by decide +kernel
theorem dX7_chanceOf_160 : decode mX7_chanceOf.2.1 160 = .ok (.invokestatic 253, 3) := by decide +kernel
theorem dX7_chanceOf_163 : decode mX7_chanceOf.2.1 163 = .ok (.lreturn, 1) := by decide +kernel
def fn_X7_chanceOf_b144 (n : Nat) (x1 : Int32) (x2 : Int32) (x3 : Int32) (x4 : Int32) (k39 : Int64 → Int64 → Int32 → Sg → Option (Int64 × Sg)) (v5 : Int64) (v7 : Int64) (v9 : Int32) (σ : Sg) : Option (Int64 × Sg) :=
  (k39 v5 v7 (v9 + 1) σ)
set_option maxRecDepth 20000 in
set_option maxHeartbeats 4000000 in
theorem ev_X7_chanceOf_b144 (n : Nat) (x1 : Int32) (x2 : Int32) (x3 : Int32) (x4 : Int32) (k39 : Int64 → Int64 → Int32 → Sg → Option (Int64 × Sg)) (hk39 : ∀ (v5 : Int64) (v7 : Int64) (v9 : Int32) (σ : Sg), Ev mX7_chanceOf 5 116 jM 39 [(0, .ref 53), (1, .int x1), (2, .int x2), (3, .int x3), (4, .int x4), (5, .long v5), (7, .long v7), (9, .int v9)] [] σ (k39 v5 v7 v9 σ)) (v5 : Int64) (v7 : Int64) (v9 : Int32) (σ : Sg) : Ev mX7_chanceOf 5 116 jM 144 [(0, .ref 53), (1, .int x1), (2, .int x2), (3, .int x3), (4, .int x4), (5, .long v5), (7, .long v7), (9, .int v9)] [] σ (fn_X7_chanceOf_b144 n x1 x2 x3 x4 k39 v5 v7 v9 σ) := by
  unfold fn_X7_chanceOf_b144
  refine ev_iinc (pc := 144) (v := (v9 + 1)) (lv' := [(9, .int (v9 + 1)), (0, .ref 53), (1, .int x1), (2, .int x2), (3, .int x3), (4, .int x4), (5, .long v5), (7, .long v7)]) 7 dX7_chanceOf_144 rfl rfl (Nat.le_of_ble_eq_true rfl) rfl ?_
  refine ev_goto (pc := 147) (tgt := 39) dX7_chanceOf_147 rfl ?_
  refine ev_sub [1, 2, 3, 4, 5, 6, 7, 0] rfl ?_
  exact hk39 v5 v7 (v9 + 1) σ
def fn_X7_chanceOf_b141 (n : Nat) (x1 : Int32) (x2 : Int32) (x3 : Int32) (x4 : Int32) (k39 : Int64 → Int64 → Int32 → Sg → Option (Int64 × Sg)) (v5 : Int64) (v9 : Int32) (s0 : Int64) (s1 : Int64) (σ : Sg) : Option (Int64 × Sg) :=
  (fn_X7_chanceOf_b144 n x1 x2 x3 x4 k39 v5 (s0 + s1) v9 σ)
set_option maxRecDepth 20000 in
set_option maxHeartbeats 4000000 in
theorem ev_X7_chanceOf_b141 (n : Nat) (x1 : Int32) (x2 : Int32) (x3 : Int32) (x4 : Int32) (k39 : Int64 → Int64 → Int32 → Sg → Option (Int64 × Sg)) (hk39 : ∀ (v5 : Int64) (v7 : Int64) (v9 : Int32) (σ : Sg), Ev mX7_chanceOf 5 116 jM 39 [(0, .ref 53), (1, .int x1), (2, .int x2), (3, .int x3), (4, .int x4), (5, .long v5), (7, .long v7), (9, .int v9)] [] σ (k39 v5 v7 v9 σ)) (v5 : Int64) (v9 : Int32) (s0 : Int64) (s1 : Int64) (σ : Sg) : Ev mX7_chanceOf 5 116 jM 141 [(0, .ref 53), (1, .int x1), (2, .int x2), (3, .int x3), (4, .int x4), (5, .long v5), (9, .int v9)] [.long s1, .long s0] σ (fn_X7_chanceOf_b141 n x1 x2 x3 x4 k39 v5 v9 s0 s1 σ) := by
  unfold fn_X7_chanceOf_b141
  refine ev_ladd (pc := 141) dX7_chanceOf_141 ?_
  refine ev_lstore (pc := 142) (lv' := [(7, .long (s0 + s1)), (0, .ref 53), (1, .int x1), (2, .int x2), (3, .int x3), (4, .int x4), (5, .long v5), (9, .int v9)]) dX7_chanceOf_142 (Nat.le_of_ble_eq_true rfl) rfl ?_
  refine ev_sub [1, 2, 3, 4, 5, 6, 0, 7] rfl ?_
  exact ev_X7_chanceOf_b144 n x1 x2 x3 x4 k39 hk39 v5 (s0 + s1) v9 σ
def fn_X7_chanceOf_b87 (n : Nat) (x1 : Int32) (x2 : Int32) (x3 : Int32) (x4 : Int32) (k39 : Int64 → Int64 → Int32 → Sg → Option (Int64 × Sg)) (k56 : Int64 → Int64 → Int32 → Int64 → Int32 → Sg → Option (Int64 × Sg)) (v5 : Int64) (v7 : Int64) (v9 : Int32) (v12 : Int32) (s0 : Int64) (s1 : Int64) (σ : Sg) : Option (Int64 × Sg) :=
  (k56 v5 v7 v9 (s0 * s1) (v12 + 1) σ)
set_option maxRecDepth 20000 in
set_option maxHeartbeats 4000000 in
theorem ev_X7_chanceOf_b87 (n : Nat) (x1 : Int32) (x2 : Int32) (x3 : Int32) (x4 : Int32) (k39 : Int64 → Int64 → Int32 → Sg → Option (Int64 × Sg)) (hk39 : ∀ (v5 : Int64) (v7 : Int64) (v9 : Int32) (σ : Sg), Ev mX7_chanceOf 5 116 jM 39 [(0, .ref 53), (1, .int x1), (2, .int x2), (3, .int x3), (4, .int x4), (5, .long v5), (7, .long v7), (9, .int v9)] [] σ (k39 v5 v7 v9 σ)) (k56 : Int64 → Int64 → Int32 → Int64 → Int32 → Sg → Option (Int64 × Sg)) (hk56 : ∀ (v5 : Int64) (v7 : Int64) (v9 : Int32) (v10 : Int64) (v12 : Int32) (σ : Sg), Ev mX7_chanceOf 5 116 jM 56 [(0, .ref 53), (1, .int x1), (2, .int x2), (3, .int x3), (4, .int x4), (5, .long v5), (7, .long v7), (9, .int v9), (10, .long v10), (12, .int v12)] [] σ (k56 v5 v7 v9 v10 v12 σ)) (v5 : Int64) (v7 : Int64) (v9 : Int32) (v12 : Int32) (s0 : Int64) (s1 : Int64) (σ : Sg) : Ev mX7_chanceOf 5 116 jM 87 [(0, .ref 53), (1, .int x1), (2, .int x2), (3, .int x3), (4, .int x4), (5, .long v5), (7, .long v7), (9, .int v9), (12, .int v12)] [.long s1, .long s0] σ (fn_X7_chanceOf_b87 n x1 x2 x3 x4 k39 k56 v5 v7 v9 v12 s0 s1 σ) := by
  unfold fn_X7_chanceOf_b87
  refine ev_lmul (pc := 87) dX7_chanceOf_87 ?_
  refine ev_lstore (pc := 88) (lv' := [(10, .long (s0 * s1)), (0, .ref 53), (1, .int x1), (2, .int x2), (3, .int x3), (4, .int x4), (5, .long v5), (7, .long v7), (9, .int v9), (12, .int v12)]) dX7_chanceOf_88 (Nat.le_of_ble_eq_true rfl) rfl ?_
  refine ev_iinc (pc := 90) (v := (v12 + 1)) (lv' := [(12, .int (v12 + 1)), (10, .long (s0 * s1)), (0, .ref 53), (1, .int x1), (2, .int x2), (3, .int x3), (4, .int x4), (5, .long v5), (7, .long v7), (9, .int v9)]) 9 dX7_chanceOf_90 rfl rfl (Nat.le_of_ble_eq_true rfl) rfl ?_
  refine ev_goto (pc := 93) (tgt := 56) dX7_chanceOf_93 rfl ?_
  refine ev_sub [2, 3, 4, 5, 6, 7, 8, 9, 1, 0] rfl ?_
  exact hk56 v5 v7 v9 (s0 * s1) (v12 + 1) σ
def fn_X7_chanceOf_b56 (n : Nat) (x1 : Int32) (x2 : Int32) (x3 : Int32) (x4 : Int32) (k39 : Int64 → Int64 → Int32 → Sg → Option (Int64 × Sg)) : Nat → Int64 → Int64 → Int32 → Int64 → Int32 → Sg → Option (Int64 × Sg)
  | 0 => fun _ _ _ _ _ _ => none
  | i + 1 => fun v5 v7 v9 v10 v12 σ =>
  (if (σ 53 2) ≤ v12 then (if (lg_cmp v10 0) ≤ 0 then (fn_X7_chanceOf_b144 n x1 x2 x3 x4 k39 v5 v7 v9 σ)
  else (Option.bind (fn_X7_runs n 199 ((ag_up σ 53 15 v9) 53 7) (ag_up σ 53 15 v9)) fun q386 =>
  (if ag_ib x2 10 = true then (Option.bind (fn_X7_isIn (q386 64 x2.toNatClampNeg) x3 q386) fun q387 =>
  (if q387 = 0 then (fn_X7_chanceOf_b141 n x1 x2 x3 x4 k39 v5 v9 v7 0 q386)
  else (fn_X7_chanceOf_b141 n x1 x2 x3 x4 k39 v5 v9 v7 v10 q386))) else none)))
  else (Option.bind (fn_X7_isIn v9 v12 σ) fun q388 =>
  (if q388 = 0 then (fn_X7_chanceOf_b87 n x1 x2 x3 x4 k39 (fn_X7_chanceOf_b56 n x1 x2 x3 x4 k39 i) v5 v7 v9 v12 v10 ((16 - x1).toInt64) σ)
  else (fn_X7_chanceOf_b87 n x1 x2 x3 x4 k39 (fn_X7_chanceOf_b56 n x1 x2 x3 x4 k39 i) v5 v7 v9 v12 v10 x1.toInt64 σ))))
theorem fn_X7_chanceOf_b56_s (n : Nat) (x1 : Int32) (x2 : Int32) (x3 : Int32) (x4 : Int32) (k39 : Int64 → Int64 → Int32 → Sg → Option (Int64 × Sg)) (i : Nat) (v5 : Int64) (v7 : Int64) (v9 : Int32) (v10 : Int64) (v12 : Int32) (σ : Sg) : fn_X7_chanceOf_b56 n x1 x2 x3 x4 k39 (i + 1) v5 v7 v9 v10 v12 σ =
  (if (σ 53 2) ≤ v12 then (if (lg_cmp v10 0) ≤ 0 then (fn_X7_chanceOf_b144 n x1 x2 x3 x4 k39 v5 v7 v9 σ)
  else (Option.bind (fn_X7_runs n 199 ((ag_up σ 53 15 v9) 53 7) (ag_up σ 53 15 v9)) fun q386 =>
  (if ag_ib x2 10 = true then (Option.bind (fn_X7_isIn (q386 64 x2.toNatClampNeg) x3 q386) fun q387 =>
  (if q387 = 0 then (fn_X7_chanceOf_b141 n x1 x2 x3 x4 k39 v5 v9 v7 0 q386)
  else (fn_X7_chanceOf_b141 n x1 x2 x3 x4 k39 v5 v9 v7 v10 q386))) else none)))
  else (Option.bind (fn_X7_isIn v9 v12 σ) fun q388 =>
  (if q388 = 0 then (fn_X7_chanceOf_b87 n x1 x2 x3 x4 k39 (fn_X7_chanceOf_b56 n x1 x2 x3 x4 k39 i) v5 v7 v9 v12 v10 ((16 - x1).toInt64) σ)
  else (fn_X7_chanceOf_b87 n x1 x2 x3 x4 k39 (fn_X7_chanceOf_b56 n x1 x2 x3 x4 k39 i) v5 v7 v9 v12 v10 x1.toInt64 σ)))) := rfl
set_option maxRecDepth 20000 in
set_option maxHeartbeats 4000000 in
theorem ev_X7_chanceOf_b56 (n : Nat) (x1 : Int32) (x2 : Int32) (x3 : Int32) (x4 : Int32) (k39 : Int64 → Int64 → Int32 → Sg → Option (Int64 × Sg)) (hk39 : ∀ (v5 : Int64) (v7 : Int64) (v9 : Int32) (σ : Sg), Ev mX7_chanceOf 5 116 jM 39 [(0, .ref 53), (1, .int x1), (2, .int x2), (3, .int x3), (4, .int x4), (5, .long v5), (7, .long v7), (9, .int v9)] [] σ (k39 v5 v7 v9 σ)) : ∀ (i : Nat) (v5 : Int64) (v7 : Int64) (v9 : Int32) (v10 : Int64) (v12 : Int32) (σ : Sg), Ev mX7_chanceOf 5 116 jM 56 [(0, .ref 53), (1, .int x1), (2, .int x2), (3, .int x3), (4, .int x4), (5, .long v5), (7, .long v7), (9, .int v9), (10, .long v10), (12, .int v12)] [] σ (fn_X7_chanceOf_b56 n x1 x2 x3 x4 k39 i v5 v7 v9 v10 v12 σ) := by
  intro i
  induction i with
  | zero =>
    intro v5 v7 v9 v10 v12 σ
    exact ev_none
  | succ i ih =>
    intro v5 v7 v9 v10 v12 σ
    rw [fn_X7_chanceOf_b56_s]
    refine ev_iload (pc := 56) 9 dX7_chanceOf_56 rfl ?_
    refine ev_aload_n (pc := 58) (i := 0) 0 dX7_chanceOf_58 rfl rfl ?_
    refine ev_getI (pc := 59) 2 ag_C7 (rfl) (by decide) (Nat.le_of_ble_eq_true rfl) rfl rfl ag_fl_X7_93 dX7_chanceOf_59 ?_
    refine ev_icmp_ge (pc := 62) (tgt := 96) dX7_chanceOf_62 rfl ?_ ?_
    · refine ev_lload (pc := 96) 8 dX7_chanceOf_96 rfl ?_
      refine ev_lconst (pc := 98) (v := 0) dX7_chanceOf_98 (by decide) ?_
      refine ev_lcmp (pc := 99) dX7_chanceOf_99 ?_
      refine ev_if_le (pc := 100) (tgt := 144) dX7_chanceOf_100 rfl ?_ ?_
      · refine ev_sub [0, 1, 2, 3, 4, 5, 6, 7] rfl ?_
        exact ev_X7_chanceOf_b144 n x1 x2 x3 x4 k39 hk39 v5 v7 v9 σ
      · refine ev_aload_n (pc := 103) (i := 0) 0 dX7_chanceOf_103 rfl rfl ?_
        refine ev_iload (pc := 104) 7 dX7_chanceOf_104 rfl ?_
        refine ev_put (pc := 106) 15 ag_C7 (rfl) (by decide) (Nat.le_of_ble_eq_true rfl) rfl rfl ag_fl_X7_143 rfl rfl rfl dX7_chanceOf_106 ?_
        refine ev_aload_n (pc := 109) (i := 0) 0 dX7_chanceOf_109 rfl rfl ?_
        refine ev_sipush (pc := 110) (v := 199) dX7_chanceOf_110 (by decide) ?_
        refine ev_aload_n (pc := 113) (i := 0) 0 dX7_chanceOf_113 rfl rfl ?_
        refine ev_getI (pc := 114) 7 ag_C7 (rfl) (by decide) (Nat.le_of_ble_eq_true rfl) rfl rfl ag_fl_X7_120 dX7_chanceOf_114 ?_
        refine ev_vV (pc := 117) (as := [.int 199, .int ((ag_up σ 53 15 v9) 53 7)]) (rest := []) ⟨7, 173, 37, TX7, tyX7, ag_C7, ⟨(rfl), (by decide)⟩, mv_X7_runs, ag_ml_X7_173, rfl, (Nat.le_of_ble_eq_true rfl), ⟨(Nat.le_of_ble_eq_true rfl), (Nat.le_of_ble_eq_true rfl)⟩, dX7_chanceOf_117⟩ (im_X7_runs n 199 ((ag_up σ 53 15 v9) 53 7) (ag_up σ 53 15 v9)) (fun q386 => ?_)
        refine ev_lload (pc := 120) 6 dX7_chanceOf_120 rfl ?_
        refine ev_aload_n (pc := 122) (i := 0) 0 dX7_chanceOf_122 rfl rfl ?_
        refine ev_getR (pc := 123) (t := 64) 19 ag_C7 (rfl) (by decide) (Nat.le_of_ble_eq_true rfl) rfl rfl ag_fl_X7_40 dX7_chanceOf_123 ?_
        refine ev_iload_n (pc := 126) (i := 2) 2 dX7_chanceOf_126 rfl rfl ?_
        refine ev_iald (pc := 127) (rfl) (by decide) dX7_chanceOf_127 ?_
        refine ev_iload_n (pc := 128) (i := 3) 3 dX7_chanceOf_128 rfl rfl ?_
        refine ev_sI (pc := 129) (as := [.int (q386 64 x2.toNatClampNeg), .int x3]) (rest := [.long v7]) ⟨155, ms_X7_isIn, ag_ml_X7_155, rfl, (Nat.le_of_ble_eq_true rfl), ⟨(Nat.le_of_ble_eq_true rfl), (Nat.le_of_ble_eq_true rfl)⟩, dX7_chanceOf_129⟩ (im_X7_isIn (q386 64 x2.toNatClampNeg) x3 q386) (fun q387 => ?_)
        refine ev_if_eq (pc := 132) (tgt := 140) dX7_chanceOf_132 rfl ?_ ?_
        · refine ev_lconst (pc := 140) (v := 0) dX7_chanceOf_140 (by decide) ?_
          refine ev_sub [0, 1, 2, 3, 4, 5, 7] rfl ?_
          exact ev_X7_chanceOf_b141 n x1 x2 x3 x4 k39 hk39 v5 v9 v7 0 q386
        · refine ev_lload (pc := 135) 8 dX7_chanceOf_135 rfl ?_
          refine ev_goto (pc := 137) (tgt := 141) dX7_chanceOf_137 rfl ?_
          refine ev_sub [0, 1, 2, 3, 4, 5, 7] rfl ?_
          exact ev_X7_chanceOf_b141 n x1 x2 x3 x4 k39 hk39 v5 v9 v7 v10 q386
    · refine ev_lload (pc := 65) 8 dX7_chanceOf_65 rfl ?_
      refine ev_iload (pc := 67) 7 dX7_chanceOf_67 rfl ?_
      refine ev_iload (pc := 69) 9 dX7_chanceOf_69 rfl ?_
      refine ev_sI (pc := 71) (as := [.int v9, .int v12]) (rest := [.long v10]) ⟨155, ms_X7_isIn, ag_ml_X7_155, rfl, (Nat.le_of_ble_eq_true rfl), ⟨(Nat.le_of_ble_eq_true rfl), (Nat.le_of_ble_eq_true rfl)⟩, dX7_chanceOf_71⟩ (im_X7_isIn v9 v12 σ) (fun q388 => ?_)
      refine ev_if_eq (pc := 74) (tgt := 82) dX7_chanceOf_74 rfl ?_ ?_
      · refine ev_bipush (pc := 82) (v := 16) dX7_chanceOf_82 (by decide) ?_
        refine ev_iload_n (pc := 84) (i := 1) 1 dX7_chanceOf_84 rfl rfl ?_
        refine ev_isub (pc := 85) dX7_chanceOf_85 ?_
        refine ev_i2l (pc := 86) dX7_chanceOf_86 ?_
        refine ev_sub [0, 1, 2, 3, 4, 5, 6, 7, 9] rfl ?_
        exact ev_X7_chanceOf_b87 n x1 x2 x3 x4 k39 hk39 (fn_X7_chanceOf_b56 n x1 x2 x3 x4 k39 i) ih v5 v7 v9 v12 v10 ((16 - x1).toInt64) σ
      · refine ev_iload_n (pc := 77) (i := 1) 1 dX7_chanceOf_77 rfl rfl ?_
        refine ev_i2l (pc := 78) dX7_chanceOf_78 ?_
        refine ev_goto (pc := 79) (tgt := 87) dX7_chanceOf_79 rfl ?_
        refine ev_sub [0, 1, 2, 3, 4, 5, 6, 7, 9] rfl ?_
        exact ev_X7_chanceOf_b87 n x1 x2 x3 x4 k39 hk39 (fn_X7_chanceOf_b56 n x1 x2 x3 x4 k39 i) ih v5 v7 v9 v12 v10 x1.toInt64 σ
def fn_X7_chanceOf_b39 (n : Nat) (x1 : Int32) (x2 : Int32) (x3 : Int32) (x4 : Int32)  : Nat → Int64 → Int64 → Int32 → Sg → Option (Int64 × Sg)
  | 0 => fun _ _ _ _ => none
  | i + 1 => fun v5 v7 v9 σ =>
  (if (1 <<< ((σ 53 2) &&& 31)) ≤ v9 then (Option.bind (fn_X7_asTold σ) fun q389 =>
  (Option.bind (fn_X7_lowest n v7 v5 x4 q389) fun q390 =>
  (some (q390, q389))))
  else (fn_X7_chanceOf_b56 n x1 x2 x3 x4 (fn_X7_chanceOf_b39 n x1 x2 x3 x4 i) n v5 v7 v9 1 0 σ))
theorem fn_X7_chanceOf_b39_s (n : Nat) (x1 : Int32) (x2 : Int32) (x3 : Int32) (x4 : Int32)  (i : Nat) (v5 : Int64) (v7 : Int64) (v9 : Int32) (σ : Sg) : fn_X7_chanceOf_b39 n x1 x2 x3 x4 (i + 1) v5 v7 v9 σ =
  (if (1 <<< ((σ 53 2) &&& 31)) ≤ v9 then (Option.bind (fn_X7_asTold σ) fun q389 =>
  (Option.bind (fn_X7_lowest n v7 v5 x4 q389) fun q390 =>
  (some (q390, q389))))
  else (fn_X7_chanceOf_b56 n x1 x2 x3 x4 (fn_X7_chanceOf_b39 n x1 x2 x3 x4 i) n v5 v7 v9 1 0 σ)) := rfl
set_option maxRecDepth 20000 in
set_option maxHeartbeats 4000000 in
theorem ev_X7_chanceOf_b39 (n : Nat) (x1 : Int32) (x2 : Int32) (x3 : Int32) (x4 : Int32)  : ∀ (i : Nat) (v5 : Int64) (v7 : Int64) (v9 : Int32) (σ : Sg), Ev mX7_chanceOf 5 116 jM 39 [(0, .ref 53), (1, .int x1), (2, .int x2), (3, .int x3), (4, .int x4), (5, .long v5), (7, .long v7), (9, .int v9)] [] σ (fn_X7_chanceOf_b39 n x1 x2 x3 x4 i v5 v7 v9 σ) := by
  intro i
  induction i with
  | zero =>
    intro v5 v7 v9 σ
    exact ev_none
  | succ i ih =>
    intro v5 v7 v9 σ
    rw [fn_X7_chanceOf_b39_s]
    refine ev_iload (pc := 39) 7 dX7_chanceOf_39 rfl ?_
    refine ev_iconst (pc := 41) (v := 1) dX7_chanceOf_41 (by decide) ?_
    refine ev_aload_n (pc := 42) (i := 0) 0 dX7_chanceOf_42 rfl rfl ?_
    refine ev_getI (pc := 43) 2 ag_C7 (rfl) (by decide) (Nat.le_of_ble_eq_true rfl) rfl rfl ag_fl_X7_93 dX7_chanceOf_43 ?_
    refine ev_ishl (pc := 46) dX7_chanceOf_46 ?_
    refine ev_icmp_ge (pc := 47) (tgt := 150) dX7_chanceOf_47 rfl ?_ ?_
    · refine ev_aload_n (pc := 150) (i := 0) 0 dX7_chanceOf_150 rfl rfl ?_
      refine ev_vV (pc := 151) (as := []) (rest := []) ⟨7, 80, 37, TX7, tyX7, ag_C7, ⟨(rfl), (by decide)⟩, mv_X7_asTold, ag_ml_X7_80, rfl, (Nat.le_of_ble_eq_true rfl), ⟨(Nat.le_of_ble_eq_true rfl), (Nat.le_of_ble_eq_true rfl)⟩, dX7_chanceOf_151⟩ (im_X7_asTold σ) (fun q389 => ?_)
      refine ev_lload (pc := 154) 6 dX7_chanceOf_154 rfl ?_
      refine ev_lload (pc := 156) 5 dX7_chanceOf_156 rfl ?_
      refine ev_iload (pc := 158) 4 dX7_chanceOf_158 rfl ?_
      refine ev_sL (pc := 160) (as := [.long v7, .long v5, .int x4]) (rest := []) ⟨253, ms_X7_lowest, ag_ml_X7_253, rfl, (Nat.le_of_ble_eq_true rfl), ⟨(Nat.le_of_ble_eq_true rfl), (Nat.le_of_ble_eq_true rfl)⟩, dX7_chanceOf_160⟩ (im_X7_lowest n v7 v5 x4 q389) (fun q390 => ?_)
      exact ev_lrM rfl dX7_chanceOf_163
    · refine ev_lconst (pc := 50) (v := 1) dX7_chanceOf_50 (by decide) ?_
      refine ev_lstore (pc := 51) (lv' := [(10, .long 1), (0, .ref 53), (1, .int x1), (2, .int x2), (3, .int x3), (4, .int x4), (5, .long v5), (7, .long v7), (9, .int v9)]) dX7_chanceOf_51 (Nat.le_of_ble_eq_true rfl) rfl ?_
      refine ev_iconst (pc := 53) (v := 0) dX7_chanceOf_53 (by decide) ?_
      refine ev_istore (pc := 54) (lv' := [(12, .int 0), (10, .long 1), (0, .ref 53), (1, .int x1), (2, .int x2), (3, .int x3), (4, .int x4), (5, .long v5), (7, .long v7), (9, .int v9)]) dX7_chanceOf_54 (Nat.le_of_ble_eq_true rfl) rfl ?_
      refine ev_sub [2, 3, 4, 5, 6, 7, 8, 9, 1, 0] rfl ?_
      exact ev_X7_chanceOf_b56 n x1 x2 x3 x4 (fn_X7_chanceOf_b39 n x1 x2 x3 x4 i) ih n v5 v7 v9 1 0 σ
def fn_X7_chanceOf_b10 (n : Nat) (x1 : Int32) (x2 : Int32) (x3 : Int32) (x4 : Int32)  : Nat → Int64 → Int32 → Sg → Option (Int64 × Sg)
  | 0 => fun _ _ _ => none
  | i + 1 => fun v5 v7 σ =>
  (if (σ 53 2) ≤ v7 then (fn_X7_chanceOf_b39 n x1 x2 x3 x4 n v5 0 0 σ)
  else ((fn_X7_chanceOf_b10 n x1 x2 x3 x4 i) (v5 * 16) (v7 + 1) σ))
theorem fn_X7_chanceOf_b10_s (n : Nat) (x1 : Int32) (x2 : Int32) (x3 : Int32) (x4 : Int32)  (i : Nat) (v5 : Int64) (v7 : Int32) (σ : Sg) : fn_X7_chanceOf_b10 n x1 x2 x3 x4 (i + 1) v5 v7 σ =
  (if (σ 53 2) ≤ v7 then (fn_X7_chanceOf_b39 n x1 x2 x3 x4 n v5 0 0 σ)
  else ((fn_X7_chanceOf_b10 n x1 x2 x3 x4 i) (v5 * 16) (v7 + 1) σ)) := rfl
set_option maxRecDepth 20000 in
set_option maxHeartbeats 4000000 in
theorem ev_X7_chanceOf_b10 (n : Nat) (x1 : Int32) (x2 : Int32) (x3 : Int32) (x4 : Int32)  : ∀ (i : Nat) (v5 : Int64) (v7 : Int32) (σ : Sg), Ev mX7_chanceOf 5 116 jM 10 [(0, .ref 53), (1, .int x1), (2, .int x2), (3, .int x3), (4, .int x4), (5, .long v5), (7, .int v7)] [] σ (fn_X7_chanceOf_b10 n x1 x2 x3 x4 i v5 v7 σ) := by
  intro i
  induction i with
  | zero =>
    intro v5 v7 σ
    exact ev_none
  | succ i ih =>
    intro v5 v7 σ
    rw [fn_X7_chanceOf_b10_s]
    refine ev_iload (pc := 10) 6 dX7_chanceOf_10 rfl ?_
    refine ev_aload_n (pc := 12) (i := 0) 0 dX7_chanceOf_12 rfl rfl ?_
    refine ev_getI (pc := 13) 2 ag_C7 (rfl) (by decide) (Nat.le_of_ble_eq_true rfl) rfl rfl ag_fl_X7_93 dX7_chanceOf_13 ?_
    refine ev_icmp_ge (pc := 16) (tgt := 33) dX7_chanceOf_16 rfl ?_ ?_
    · refine ev_lconst (pc := 33) (v := 0) dX7_chanceOf_33 (by decide) ?_
      refine ev_lstore (pc := 34) (lv' := [(7, .long 0), (0, .ref 53), (1, .int x1), (2, .int x2), (3, .int x3), (4, .int x4), (5, .long v5)]) dX7_chanceOf_34 (Nat.le_of_ble_eq_true rfl) rfl ?_
      refine ev_iconst (pc := 36) (v := 0) dX7_chanceOf_36 (by decide) ?_
      refine ev_istore (pc := 37) (lv' := [(9, .int 0), (7, .long 0), (0, .ref 53), (1, .int x1), (2, .int x2), (3, .int x3), (4, .int x4), (5, .long v5)]) dX7_chanceOf_37 (Nat.le_of_ble_eq_true rfl) rfl ?_
      refine ev_sub [2, 3, 4, 5, 6, 7, 1, 0] rfl ?_
      exact ev_X7_chanceOf_b39 n x1 x2 x3 x4 n v5 0 0 σ
    · refine ev_lload (pc := 19) 5 dX7_chanceOf_19 rfl ?_
      refine ev_ldc2 (pc := 21) (v := 16) dX7_chanceOf_21 ag_kl_X7_251 ?_
      refine ev_lmul (pc := 24) dX7_chanceOf_24 ?_
      refine ev_lstore (pc := 25) (lv' := [(5, .long (v5 * 16)), (0, .ref 53), (1, .int x1), (2, .int x2), (3, .int x3), (4, .int x4), (7, .int v7)]) dX7_chanceOf_25 (Nat.le_of_ble_eq_true rfl) rfl ?_
      refine ev_iinc (pc := 27) (v := (v7 + 1)) (lv' := [(7, .int (v7 + 1)), (5, .long (v5 * 16)), (0, .ref 53), (1, .int x1), (2, .int x2), (3, .int x3), (4, .int x4)]) 6 dX7_chanceOf_27 rfl rfl (Nat.le_of_ble_eq_true rfl) rfl ?_
      refine ev_goto (pc := 30) (tgt := 10) dX7_chanceOf_30 rfl ?_
      refine ev_sub [2, 3, 4, 5, 6, 1, 0] rfl ?_
      exact ih (v5 * 16) (v7 + 1) σ
def fn_X7_chanceOf (n : Nat) (x1 : Int32) (x2 : Int32) (x3 : Int32) (x4 : Int32) (σ : Sg) : Option (Int64 × Sg) :=
  (Option.bind (fn_X7_reads n σ) fun q391 =>
  (fn_X7_chanceOf_b10 n x1 x2 x3 x4 n 1 0 q391))
set_option maxRecDepth 20000 in
set_option maxHeartbeats 4000000 in
theorem im_X7_chanceOf (n : Nat) (x1 : Int32) (x2 : Int32) (x3 : Int32) (x4 : Int32) (σ : Sg) : Im yX7_chanceOf mX7_chanceOf 5 116 jM [.ref 53, .int x1, .int x2, .int x3, .int x4] σ (fn_X7_chanceOf n x1 x2 x3 x4 σ) := by
  refine Im.of (by decide +kernel) rfl rfl (Nat.le_of_ble_eq_true rfl) ?_
  show Ev mX7_chanceOf 5 116 jM 0 [(0, .ref 53), (1, .int x1), (2, .int x2), (3, .int x3), (4, .int x4)] [] σ (fn_X7_chanceOf n x1 x2 x3 x4 σ)
  unfold fn_X7_chanceOf
  refine ev_aload_n (pc := 0) (i := 0) 0 dX7_chanceOf_0 rfl rfl ?_
  refine ev_vV (pc := 1) (as := []) (rest := []) ⟨7, 104, 37, TX7, tyX7, ag_C7, ⟨(rfl), (by decide)⟩, mv_X7_reads, ag_ml_X7_104, rfl, (Nat.le_of_ble_eq_true rfl), ⟨(Nat.le_of_ble_eq_true rfl), (Nat.le_of_ble_eq_true rfl)⟩, dX7_chanceOf_1⟩ (im_X7_reads n σ) (fun q391 => ?_)
  refine ev_lconst (pc := 4) (v := 1) dX7_chanceOf_4 (by decide) ?_
  refine ev_lstore (pc := 5) (lv' := [(5, .long 1), (0, .ref 53), (1, .int x1), (2, .int x2), (3, .int x3), (4, .int x4)]) dX7_chanceOf_5 (Nat.le_of_ble_eq_true rfl) rfl ?_
  refine ev_iconst (pc := 7) (v := 0) dX7_chanceOf_7 (by decide) ?_
  refine ev_istore (pc := 8) (lv' := [(7, .int 0), (5, .long 1), (0, .ref 53), (1, .int x1), (2, .int x2), (3, .int x3), (4, .int x4)]) dX7_chanceOf_8 (Nat.le_of_ble_eq_true rfl) rfl ?_
  refine ev_sub [2, 3, 4, 5, 6, 1, 0] rfl ?_
  exact ev_X7_chanceOf_b10 n x1 x2 x3 x4 n 1 0 q391
-- X7_chance
def mX7_chance : Md := (RX7, cX7_chance, 6, some .long, none)
theorem mv_X7_chance : ag_Mv yX7_chance mX7_chance 4 := ⟨ag_co_X7_chance, ag_im_X7_chance, ag_se_X7_chance, ag_ini_X7, by decide +kernel⟩
theorem dX7_chance_0 : decode mX7_chance.2.1 0 = .ok (.iload_n 1, 1) := by decide +kernel
theorem dX7_chance_1 : decode mX7_chance.2.1 1 = .ok (.iconst 0, 1) := by decide +kernel
theorem dX7_chance_2 : decode mX7_chance.2.1 2 = .ok (.bipush 16, 2) := by decide +kernel
theorem dX7_chance_4 : decode mX7_chance.2.1 4 = .ok (.invokestatic 85, 3) := by decide +kernel
theorem dX7_chance_7 : decode mX7_chance.2.1 7 = .ok (.ifCond .eq 22, 3) := by decide +kernel
theorem dX7_chance_10 : decode mX7_chance.2.1 10 = .ok (.aload_n 0, 1) := by decide +kernel
theorem dX7_chance_11 : decode mX7_chance.2.1 11 = .ok (.iload_n 2, 1) := by decide +kernel
theorem dX7_chance_12 : decode mX7_chance.2.1 12 = .ok (.invokevirtual 107, 3) := by decide +kernel
theorem dX7_chance_15 : decode mX7_chance.2.1 15 = .ok (.ifCond .eq 14, 3) := by decide +kernel
theorem dX7_chance_18 : decode mX7_chance.2.1 18 = .ok (.iload_n 3, 1) := by decide +kernel
theorem dX7_chance_19 : decode mX7_chance.2.1 19 = .ok (.invokestatic 117, 3) := by decide +kernel
theorem dX7_chance_22 : decode mX7_chance.2.1 22 = .ok (.ifCond .eq 7, 3) := by decide +kernel
theorem dX7_chance_25 : decode mX7_chance.2.1 25 = .ok (.iconst 1, 1) := by decide +kernel
theorem dX7_chance_26 : decode mX7_chance.2.1 26 = .ok (.goto 4, 3) := by decide +kernel
theorem dX7_chance_29 : decode mX7_chance.2.1 29 = .ok (.iconst 0, 1) := by decide +kernel
theorem dX7_chance_30 : decode mX7_chance.2.1 30 = .ok (.istore 5, 2) := by decide +kernel
theorem dX7_chance_32 : decode mX7_chance.2.1 32 = .ok (.iload 5, 2) := by decide +kernel
theorem dX7_chance_34 : decode mX7_chance.2.1 34 = .ok (.ifCond .eq 25, 3) := by decide +kernel
theorem dX7_chance_37 : decode mX7_chance.2.1 37 = .ok (.iload 4, 2) := by decide +kernel
theorem dX7_chance_39 : decode mX7_chance.2.1 39 = .ok (.iconst 0, 1) := by decide +kernel
theorem dX7_chance_40 : decode mX7_chance.2.1 40 = .ok (.iconst 1, 1) := by decide +kernel
theorem dX7_chance_41 : decode mX7_chance.2.1 41 = .ok (.invokestatic 85, 3) := by decide +kernel
theorem dX7_chance_44 : decode mX7_chance.2.1 44 = .ok (.ifCond .eq 15, 3) := by decide +kernel
theorem dX7_chance_47 : decode mX7_chance.2.1 47 = .ok (.aload_n 0, 1) := by decide +kernel
theorem dX7_chance_48 : decode mX7_chance.2.1 48 = .ok (.iload_n 1, 1) := by decide +kernel
theorem dX7_chance_49 : decode mX7_chance.2.1 49 = .ok (.iload_n 2, 1) := by decide +kernel
theorem dX7_chance_50 : decode mX7_chance.2.1 50 = .ok (.iload_n 3, 1) := by decide +kernel
theorem dX7_chance_51 : decode mX7_chance.2.1 51 = .ok (.iload 4, 2) := by decide +kernel
theorem dX7_chance_53 : decode mX7_chance.2.1 53 = .ok (.invokevirtual 257, 3) := by decide +kernel
theorem dX7_chance_56 : decode mX7_chance.2.1 56 = .ok (.goto 8, 3) := by decide +kernel
theorem dX7_chance_59 : decode mX7_chance.2.1 59 = .ok (.bipush (-2), 2) := by decide +kernel
theorem dX7_chance_61 : decode mX7_chance.2.1 61 = .ok (.invokestatic 261, 3) := by decide +kernel
theorem dX7_chance_64 : decode mX7_chance.2.1 64 = .ok (.lreturn, 1) := by decide +kernel
def fn_X7_chance_b59 (n : Nat) (x1 : Int32) (x2 : Int32) (x3 : Int32) (x4 : Int32)   (σ : Sg) : Option (Int64 × Sg) :=
  (Option.bind (fn_X7_no (-2) σ) fun q392 =>
  (some (q392, σ)))
set_option maxRecDepth 20000 in
set_option maxHeartbeats 4000000 in
theorem ev_X7_chance_b59 (n : Nat) (x1 : Int32) (x2 : Int32) (x3 : Int32) (x4 : Int32)   (σ : Sg) : Ev mX7_chance 6 148 jM 59 [(0, .ref 53), (1, .int x1), (2, .int x2), (3, .int x3), (4, .int x4)] [] σ (fn_X7_chance_b59 n x1 x2 x3 x4  σ) := by
  unfold fn_X7_chance_b59
  refine ev_bipush (pc := 59) (v := (-2)) dX7_chance_59 (by decide) ?_
  refine ev_sL (pc := 61) (as := [.int (-2)]) (rest := []) ⟨261, ms_X7_no, ag_ml_X7_261, rfl, (Nat.le_of_ble_eq_true rfl), ⟨(Nat.le_of_ble_eq_true rfl), (Nat.le_of_ble_eq_true rfl)⟩, dX7_chance_61⟩ (im_X7_no (-2) σ) (fun q392 => ?_)
  exact ev_lrM rfl dX7_chance_64
def fn_X7_chance_b30 (n : Nat) (x1 : Int32) (x2 : Int32) (x3 : Int32) (x4 : Int32)  (s0 : Int32) (σ : Sg) : Option (Int64 × Sg) :=
  (if s0 = 0 then (fn_X7_chance_b59 n x1 x2 x3 x4 σ)
  else (Option.bind (fn_X7_in x4 0 1 σ) fun q393 =>
  (if q393 = 0 then (fn_X7_chance_b59 n x1 x2 x3 x4 σ)
  else (Option.bind (fn_X7_chanceOf n x1 x2 x3 x4 σ) fun q394 =>
  (some (q394.1, q394.2))))))
set_option maxRecDepth 20000 in
set_option maxHeartbeats 4000000 in
theorem ev_X7_chance_b30 (n : Nat) (x1 : Int32) (x2 : Int32) (x3 : Int32) (x4 : Int32)  (s0 : Int32) (σ : Sg) : Ev mX7_chance 6 148 jM 30 [(0, .ref 53), (1, .int x1), (2, .int x2), (3, .int x3), (4, .int x4)] [.int s0] σ (fn_X7_chance_b30 n x1 x2 x3 x4 s0 σ) := by
  unfold fn_X7_chance_b30
  refine ev_istore (pc := 30) (lv' := [(5, .int s0), (0, .ref 53), (1, .int x1), (2, .int x2), (3, .int x3), (4, .int x4)]) dX7_chance_30 (Nat.le_of_ble_eq_true rfl) rfl ?_
  refine ev_iload (pc := 32) 0 dX7_chance_32 rfl ?_
  refine ev_if_eq (pc := 34) (tgt := 59) dX7_chance_34 rfl ?_ ?_
  · refine ev_sub [1, 2, 3, 4, 5] rfl ?_
    exact ev_X7_chance_b59 n x1 x2 x3 x4 σ
  · refine ev_iload (pc := 37) 5 dX7_chance_37 rfl ?_
    refine ev_iconst (pc := 39) (v := 0) dX7_chance_39 (by decide) ?_
    refine ev_iconst (pc := 40) (v := 1) dX7_chance_40 (by decide) ?_
    refine ev_sI (pc := 41) (as := [.int x4, .int 0, .int 1]) (rest := []) ⟨85, ms_X7_in, ag_ml_X7_85, rfl, (Nat.le_of_ble_eq_true rfl), ⟨(Nat.le_of_ble_eq_true rfl), (Nat.le_of_ble_eq_true rfl)⟩, dX7_chance_41⟩ (im_X7_in x4 0 1 σ) (fun q393 => ?_)
    refine ev_if_eq (pc := 44) (tgt := 59) dX7_chance_44 rfl ?_ ?_
    · refine ev_sub [1, 2, 3, 4, 5] rfl ?_
      exact ev_X7_chance_b59 n x1 x2 x3 x4 σ
    · refine ev_aload_n (pc := 47) (i := 0) 1 dX7_chance_47 rfl rfl ?_
      refine ev_iload_n (pc := 48) (i := 1) 2 dX7_chance_48 rfl rfl ?_
      refine ev_iload_n (pc := 49) (i := 2) 3 dX7_chance_49 rfl rfl ?_
      refine ev_iload_n (pc := 50) (i := 3) 4 dX7_chance_50 rfl rfl ?_
      refine ev_iload (pc := 51) 5 dX7_chance_51 rfl ?_
      refine ev_vM (pc := 53) (as := [.int x1, .int x2, .int x3, .int x4]) (rest := []) ⟨7, 257, 37, TX7, tyX7, ag_C7, ⟨(rfl), (by decide)⟩, mv_X7_chanceOf, ag_ml_X7_257, rfl, (Nat.le_of_ble_eq_true rfl), ⟨(Nat.le_of_ble_eq_true rfl), (Nat.le_of_ble_eq_true rfl)⟩, dX7_chance_53⟩ (im_X7_chanceOf n x1 x2 x3 x4 σ) (fun q394 => ?_)
      refine ev_goto (pc := 56) (tgt := 64) dX7_chance_56 rfl ?_
      exact ev_lrM rfl dX7_chance_64
def fn_X7_chance_b29 (n : Nat) (x1 : Int32) (x2 : Int32) (x3 : Int32) (x4 : Int32)   (σ : Sg) : Option (Int64 × Sg) :=
  (fn_X7_chance_b30 n x1 x2 x3 x4 0 σ)
set_option maxRecDepth 20000 in
set_option maxHeartbeats 4000000 in
theorem ev_X7_chance_b29 (n : Nat) (x1 : Int32) (x2 : Int32) (x3 : Int32) (x4 : Int32)   (σ : Sg) : Ev mX7_chance 6 148 jM 29 [(0, .ref 53), (1, .int x1), (2, .int x2), (3, .int x3), (4, .int x4)] [] σ (fn_X7_chance_b29 n x1 x2 x3 x4  σ) := by
  unfold fn_X7_chance_b29
  refine ev_iconst (pc := 29) (v := 0) dX7_chance_29 (by decide) ?_
  exact ev_X7_chance_b30 n x1 x2 x3 x4 0 σ
def fn_X7_chance (n : Nat) (x1 : Int32) (x2 : Int32) (x3 : Int32) (x4 : Int32) (σ : Sg) : Option (Int64 × Sg) :=
  (Option.bind (fn_X7_in x1 0 16 σ) fun q395 =>
  (if q395 = 0 then (fn_X7_chance_b29 n x1 x2 x3 x4 σ)
  else (Option.bind (fn_X7_isPerson n x2 σ) fun q396 =>
  (if q396.1 = 0 then (fn_X7_chance_b29 n x1 x2 x3 x4 q396.2)
  else (Option.bind (fn_X7_isWord x3 q396.2) fun q397 =>
  (if q397 = 0 then (fn_X7_chance_b29 n x1 x2 x3 x4 q396.2)
  else (fn_X7_chance_b30 n x1 x2 x3 x4 1 q396.2)))))))
set_option maxRecDepth 20000 in
set_option maxHeartbeats 4000000 in
theorem im_X7_chance (n : Nat) (x1 : Int32) (x2 : Int32) (x3 : Int32) (x4 : Int32) (σ : Sg) : Im yX7_chance mX7_chance 6 148 jM [.ref 53, .int x1, .int x2, .int x3, .int x4] σ (fn_X7_chance n x1 x2 x3 x4 σ) := by
  refine Im.of (by decide +kernel) rfl rfl (Nat.le_of_ble_eq_true rfl) ?_
  show Ev mX7_chance 6 148 jM 0 [(0, .ref 53), (1, .int x1), (2, .int x2), (3, .int x3), (4, .int x4)] [] σ (fn_X7_chance n x1 x2 x3 x4 σ)
  unfold fn_X7_chance
  refine ev_iload_n (pc := 0) (i := 1) 1 dX7_chance_0 rfl rfl ?_
  refine ev_iconst (pc := 1) (v := 0) dX7_chance_1 (by decide) ?_
  refine ev_bipush (pc := 2) (v := 16) dX7_chance_2 (by decide) ?_
  refine ev_sI (pc := 4) (as := [.int x1, .int 0, .int 16]) (rest := []) ⟨85, ms_X7_in, ag_ml_X7_85, rfl, (Nat.le_of_ble_eq_true rfl), ⟨(Nat.le_of_ble_eq_true rfl), (Nat.le_of_ble_eq_true rfl)⟩, dX7_chance_4⟩ (im_X7_in x1 0 16 σ) (fun q395 => ?_)
  refine ev_if_eq (pc := 7) (tgt := 29) dX7_chance_7 rfl ?_ ?_
  · exact ev_X7_chance_b29 n x1 x2 x3 x4 σ
  · refine ev_aload_n (pc := 10) (i := 0) 0 dX7_chance_10 rfl rfl ?_
    refine ev_iload_n (pc := 11) (i := 2) 2 dX7_chance_11 rfl rfl ?_
    refine ev_vW (pc := 12) (as := [.int x2]) (rest := []) ⟨7, 107, 37, TX7, tyX7, ag_C7, ⟨(rfl), (by decide)⟩, mv_X7_isPerson, ag_ml_X7_107, rfl, (Nat.le_of_ble_eq_true rfl), ⟨(Nat.le_of_ble_eq_true rfl), (Nat.le_of_ble_eq_true rfl)⟩, dX7_chance_12⟩ (im_X7_isPerson n x2 σ) (fun q396 => ?_)
    refine ev_if_eq (pc := 15) (tgt := 29) dX7_chance_15 rfl ?_ ?_
    · exact ev_X7_chance_b29 n x1 x2 x3 x4 q396.2
    · refine ev_iload_n (pc := 18) (i := 3) 3 dX7_chance_18 rfl rfl ?_
      refine ev_sI (pc := 19) (as := [.int x3]) (rest := []) ⟨117, ms_X7_isWord, ag_ml_X7_117, rfl, (Nat.le_of_ble_eq_true rfl), ⟨(Nat.le_of_ble_eq_true rfl), (Nat.le_of_ble_eq_true rfl)⟩, dX7_chance_19⟩ (im_X7_isWord x3 q396.2) (fun q397 => ?_)
      refine ev_if_eq (pc := 22) (tgt := 29) dX7_chance_22 rfl ?_ ?_
      · exact ev_X7_chance_b29 n x1 x2 x3 x4 q396.2
      · refine ev_iconst (pc := 25) (v := 1) dX7_chance_25 (by decide) ?_
        refine ev_goto (pc := 26) (tgt := 30) dX7_chance_26 rfl ?_
        exact ev_X7_chance_b30 n x1 x2 x3 x4 1 q396.2
-- X7_drawnOf
def mX7_drawnOf : Md := (RX7, cX7_drawnOf, 6, some .int, none)
theorem mv_X7_drawnOf : ag_Mv yX7_drawnOf mX7_drawnOf 2 := ⟨ag_co_X7_drawnOf, ag_im_X7_drawnOf, ag_se_X7_drawnOf, ag_ini_X7, by decide +kernel⟩
theorem dX7_drawnOf_0 : decode mX7_drawnOf.2.1 0 = .ok (.aload_n 0, 1) := by decide +kernel
theorem dX7_drawnOf_1 : decode mX7_drawnOf.2.1 1 = .ok (.invokevirtual 104, 3) := by decide +kernel
theorem dX7_drawnOf_4 : decode mX7_drawnOf.2.1 4 = .ok (.iload_n 1, 1) := by decide +kernel
theorem dX7_drawnOf_5 : decode mX7_drawnOf.2.1 5 = .ok (.istore_n 3, 1) := by decide +kernel
theorem dX7_drawnOf_6 : decode mX7_drawnOf.2.1 6 = .ok (.iconst 0, 1) := by decide +kernel
theorem dX7_drawnOf_7 : decode mX7_drawnOf.2.1 7 = .ok (.istore 4, 2) := by decide +kernel
theorem dX7_drawnOf_9 : decode mX7_drawnOf.2.1 9 = .ok (.iconst 0, 1) := by decide +kernel
theorem dX7_drawnOf_10 : decode mX7_drawnOf.2.1 10 = .ok (.istore 5, 2) := by decide +kernel
theorem dX7_drawnOf_12 : decode mX7_drawnOf.2.1 12 = .ok (.iload 5, 2) := by decide +kernel
theorem dX7_drawnOf_14 : decode mX7_drawnOf.2.1 14 = .ok (.aload_n 0, 1) := by decide +kernel
theorem dX7_drawnOf_15 : decode mX7_drawnOf.2.1 15 = .ok (.getfield 93, 3) := by decide +kernel
theorem dX7_drawnOf_18 : decode mX7_drawnOf.2.1 18 = .ok (.if_icmp .ge 43, 3) := by decide +kernel
theorem dX7_drawnOf_21 : decode mX7_drawnOf.2.1 21 = .ok (.ldc_w 265, 3) := by decide +kernel
theorem dX7_drawnOf_24 : decode mX7_drawnOf.2.1 24 = .ok (.iload_n 3, 1) := by decide +kernel
theorem dX7_drawnOf_25 : decode mX7_drawnOf.2.1 25 = .ok (.imul, 1) := by decide +kernel
theorem dX7_drawnOf_26 : decode mX7_drawnOf.2.1 26 = .ok (.sipush 12345, 3) := by decide +kernel
theorem dX7_drawnOf_29 : decode mX7_drawnOf.2.1 29 = .ok (.iadd, 1) := by decide +kernel
theorem dX7_drawnOf_30 : decode mX7_drawnOf.2.1 30 = .ok (.istore_n 3, 1) := by decide +kernel
theorem dX7_drawnOf_31 : decode mX7_drawnOf.2.1 31 = .ok (.iload 4, 2) := by decide +kernel
theorem dX7_drawnOf_33 : decode mX7_drawnOf.2.1 33 = .ok (.iload_n 3, 1) := by decide +kernel
theorem dX7_drawnOf_34 : decode mX7_drawnOf.2.1 34 = .ok (.bipush 16, 2) := by decide +kernel
theorem dX7_drawnOf_36 : decode mX7_drawnOf.2.1 36 = .ok (.iushr, 1) := by decide +kernel
theorem dX7_drawnOf_37 : decode mX7_drawnOf.2.1 37 = .ok (.bipush 16, 2) := by decide +kernel
theorem dX7_drawnOf_39 : decode mX7_drawnOf.2.1 39 = .ok (.irem, 1) := by decide +kernel
theorem dX7_drawnOf_40 : decode mX7_drawnOf.2.1 40 = .ok (.iload_n 2, 1) := by decide +kernel
theorem dX7_drawnOf_41 : decode mX7_drawnOf.2.1 41 = .ok (.if_icmp .ge 10, 3) := by decide +kernel
theorem dX7_drawnOf_44 : decode mX7_drawnOf.2.1 44 = .ok (.iconst 1, 1) := by decide +kernel
theorem dX7_drawnOf_45 : decode mX7_drawnOf.2.1 45 = .ok (.iload 5, 2) := by decide +kernel
theorem dX7_drawnOf_47 : decode mX7_drawnOf.2.1 47 = .ok (.ishl, 1) := by decide +kernel
theorem dX7_drawnOf_48 : decode mX7_drawnOf.2.1 48 = .ok (.goto 4, 3) := by decide +kernel
theorem dX7_drawnOf_51 : decode mX7_drawnOf.2.1 51 = .ok (.iconst 0, 1) := by decide +kernel
theorem dX7_drawnOf_52 : decode mX7_drawnOf.2.1 52 = .ok (.ior, 1) := by decide +kernel
theorem dX7_drawnOf_53 : decode mX7_drawnOf.2.1 53 = .ok (.istore 4, 2) := by decide +kernel
theorem dX7_drawnOf_55 : decode mX7_drawnOf.2.1 55 = .ok (.iinc 5 1, 3) := by decide +kernel
theorem dX7_drawnOf_58 : decode mX7_drawnOf.2.1 58 = .ok (.goto (-46), 3) := by decide +kernel
theorem dX7_drawnOf_61 : decode mX7_drawnOf.2.1 61 = .ok (.aload_n 0, 1) := by decide +kernel
theorem dX7_drawnOf_62 : decode mX7_drawnOf.2.1 62 = .ok (.iload 4, 2) := by decide +kernel
theorem dX7_drawnOf_64 : decode mX7_drawnOf.2.1 64 = .ok (.putfield 143, 3) := by decide +kernel
theorem dX7_drawnOf_67 : decode mX7_drawnOf.2.1 67 = .ok (.aload_n 0, 1) := by decide +kernel
theorem dX7_drawnOf_68 : decode mX7_drawnOf.2.1 68 = .ok (.sipush 199, 3) := by decide +kernel
theorem dX7_drawnOf_71 : decode mX7_drawnOf.2.1 71 = .ok (.aload_n 0, 1) := by decide +kernel
theorem dX7_drawnOf_72 : decode mX7_drawnOf.2.1 72 = .ok (.getfield 120, 3) := by decide +kernel
theorem dX7_drawnOf_75 : decode mX7_drawnOf.2.1 75 = .ok (.invokevirtual 173, 3) := by decide +kernel
theorem dX7_drawnOf_78 : decode mX7_drawnOf.2.1 78 = .ok (.aload_n 0, 1) := by decide +kernel
theorem dX7_drawnOf_79 : decode mX7_drawnOf.2.1 79 = .ok (.invokevirtual 80, 3) := by decide +kernel
theorem dX7_drawnOf_82 : decode mX7_drawnOf.2.1 82 = .ok (.aload_n 0, 1) := by decide +kernel
theorem dX7_drawnOf_83 : decode mX7_drawnOf.2.1 83 = .ok (.iconst 1, 1) := by decide +kernel
theorem dX7_drawnOf_84 : decode mX7_drawnOf.2.1 84 = .ok (.invokevirtual 189, 3) := by decide +kernel
theorem dX7_drawnOf_87 : decode mX7_drawnOf.2.1 87 = .ok (.ireturn, 1) := by decide +kernel
def fn_X7_drawnOf_b52 (n : Nat) (x1 : Int32) (x2 : Int32) (k12 : Int32 → Int32 → Int32 → Sg → Option (Int32 × Sg)) (v3 : Int32) (v5 : Int32) (s0 : Int32) (s1 : Int32) (σ : Sg) : Option (Int32 × Sg) :=
  (k12 v3 (s0 ||| s1) (v5 + 1) σ)
set_option maxRecDepth 20000 in
set_option maxHeartbeats 4000000 in
theorem ev_X7_drawnOf_b52 (n : Nat) (x1 : Int32) (x2 : Int32) (k12 : Int32 → Int32 → Int32 → Sg → Option (Int32 × Sg)) (hk12 : ∀ (v3 : Int32) (v4 : Int32) (v5 : Int32) (σ : Sg), Ev mX7_drawnOf 5 116 jW 12 [(0, .ref 53), (1, .int x1), (2, .int x2), (3, .int v3), (4, .int v4), (5, .int v5)] [] σ (k12 v3 v4 v5 σ)) (v3 : Int32) (v5 : Int32) (s0 : Int32) (s1 : Int32) (σ : Sg) : Ev mX7_drawnOf 5 116 jW 52 [(0, .ref 53), (1, .int x1), (2, .int x2), (3, .int v3), (5, .int v5)] [.int s1, .int s0] σ (fn_X7_drawnOf_b52 n x1 x2 k12 v3 v5 s0 s1 σ) := by
  unfold fn_X7_drawnOf_b52
  refine ev_ior (pc := 52) dX7_drawnOf_52 ?_
  refine ev_istore (pc := 53) (lv' := [(4, .int (s0 ||| s1)), (0, .ref 53), (1, .int x1), (2, .int x2), (3, .int v3), (5, .int v5)]) dX7_drawnOf_53 (Nat.le_of_ble_eq_true rfl) rfl ?_
  refine ev_iinc (pc := 55) (v := (v5 + 1)) (lv' := [(5, .int (v5 + 1)), (4, .int (s0 ||| s1)), (0, .ref 53), (1, .int x1), (2, .int x2), (3, .int v3)]) 5 dX7_drawnOf_55 rfl rfl (Nat.le_of_ble_eq_true rfl) rfl ?_
  refine ev_goto (pc := 58) (tgt := 12) dX7_drawnOf_58 rfl ?_
  refine ev_sub [2, 3, 4, 5, 1, 0] rfl ?_
  exact hk12 v3 (s0 ||| s1) (v5 + 1) σ
def fn_X7_drawnOf_b12 (n : Nat) (x1 : Int32) (x2 : Int32)  : Nat → Int32 → Int32 → Int32 → Sg → Option (Int32 × Sg)
  | 0 => fun _ _ _ _ => none
  | i + 1 => fun v3 v4 v5 σ =>
  (if (σ 53 2) ≤ v5 then (Option.bind (fn_X7_runs n 199 ((ag_up σ 53 15 v4) 53 7) (ag_up σ 53 15 v4)) fun q398 =>
  (Option.bind (fn_X7_asTold q398) fun q399 =>
  (Option.bind (fn_X7_bitsNow n 1 q399) fun q400 =>
  (some (q400, q399)))))
  else (if x2 ≤ ((ag_ushr ((1103515245 * v3) + 12345) 16) - (ag_ushr ((1103515245 * v3) + 12345) 16) / 16 * 16) then (fn_X7_drawnOf_b52 n x1 x2 (fn_X7_drawnOf_b12 n x1 x2 i) ((1103515245 * v3) + 12345) v5 v4 0 σ)
  else (fn_X7_drawnOf_b52 n x1 x2 (fn_X7_drawnOf_b12 n x1 x2 i) ((1103515245 * v3) + 12345) v5 v4 (1 <<< (v5 &&& 31)) σ)))
theorem fn_X7_drawnOf_b12_s (n : Nat) (x1 : Int32) (x2 : Int32)  (i : Nat) (v3 : Int32) (v4 : Int32) (v5 : Int32) (σ : Sg) : fn_X7_drawnOf_b12 n x1 x2 (i + 1) v3 v4 v5 σ =
  (if (σ 53 2) ≤ v5 then (Option.bind (fn_X7_runs n 199 ((ag_up σ 53 15 v4) 53 7) (ag_up σ 53 15 v4)) fun q398 =>
  (Option.bind (fn_X7_asTold q398) fun q399 =>
  (Option.bind (fn_X7_bitsNow n 1 q399) fun q400 =>
  (some (q400, q399)))))
  else (if x2 ≤ ((ag_ushr ((1103515245 * v3) + 12345) 16) - (ag_ushr ((1103515245 * v3) + 12345) 16) / 16 * 16) then (fn_X7_drawnOf_b52 n x1 x2 (fn_X7_drawnOf_b12 n x1 x2 i) ((1103515245 * v3) + 12345) v5 v4 0 σ)
  else (fn_X7_drawnOf_b52 n x1 x2 (fn_X7_drawnOf_b12 n x1 x2 i) ((1103515245 * v3) + 12345) v5 v4 (1 <<< (v5 &&& 31)) σ))) := rfl
set_option maxRecDepth 20000 in
set_option maxHeartbeats 4000000 in
theorem ev_X7_drawnOf_b12 (n : Nat) (x1 : Int32) (x2 : Int32)  : ∀ (i : Nat) (v3 : Int32) (v4 : Int32) (v5 : Int32) (σ : Sg), Ev mX7_drawnOf 5 116 jW 12 [(0, .ref 53), (1, .int x1), (2, .int x2), (3, .int v3), (4, .int v4), (5, .int v5)] [] σ (fn_X7_drawnOf_b12 n x1 x2 i v3 v4 v5 σ) := by
  intro i
  induction i with
  | zero =>
    intro v3 v4 v5 σ
    exact ev_none
  | succ i ih =>
    intro v3 v4 v5 σ
    rw [fn_X7_drawnOf_b12_s]
    refine ev_iload (pc := 12) 5 dX7_drawnOf_12 rfl ?_
    refine ev_aload_n (pc := 14) (i := 0) 0 dX7_drawnOf_14 rfl rfl ?_
    refine ev_getI (pc := 15) 2 ag_C7 (rfl) (by decide) (Nat.le_of_ble_eq_true rfl) rfl rfl ag_fl_X7_93 dX7_drawnOf_15 ?_
    refine ev_icmp_ge (pc := 18) (tgt := 61) dX7_drawnOf_18 rfl ?_ ?_
    · refine ev_aload_n (pc := 61) (i := 0) 0 dX7_drawnOf_61 rfl rfl ?_
      refine ev_iload (pc := 62) 4 dX7_drawnOf_62 rfl ?_
      refine ev_put (pc := 64) 15 ag_C7 (rfl) (by decide) (Nat.le_of_ble_eq_true rfl) rfl rfl ag_fl_X7_143 rfl rfl rfl dX7_drawnOf_64 ?_
      refine ev_aload_n (pc := 67) (i := 0) 0 dX7_drawnOf_67 rfl rfl ?_
      refine ev_sipush (pc := 68) (v := 199) dX7_drawnOf_68 (by decide) ?_
      refine ev_aload_n (pc := 71) (i := 0) 0 dX7_drawnOf_71 rfl rfl ?_
      refine ev_getI (pc := 72) 7 ag_C7 (rfl) (by decide) (Nat.le_of_ble_eq_true rfl) rfl rfl ag_fl_X7_120 dX7_drawnOf_72 ?_
      refine ev_vV (pc := 75) (as := [.int 199, .int ((ag_up σ 53 15 v4) 53 7)]) (rest := []) ⟨7, 173, 37, TX7, tyX7, ag_C7, ⟨(rfl), (by decide)⟩, mv_X7_runs, ag_ml_X7_173, rfl, (Nat.le_of_ble_eq_true rfl), ⟨(Nat.le_of_ble_eq_true rfl), (Nat.le_of_ble_eq_true rfl)⟩, dX7_drawnOf_75⟩ (im_X7_runs n 199 ((ag_up σ 53 15 v4) 53 7) (ag_up σ 53 15 v4)) (fun q398 => ?_)
      refine ev_aload_n (pc := 78) (i := 0) 0 dX7_drawnOf_78 rfl rfl ?_
      refine ev_vV (pc := 79) (as := []) (rest := []) ⟨7, 80, 37, TX7, tyX7, ag_C7, ⟨(rfl), (by decide)⟩, mv_X7_asTold, ag_ml_X7_80, rfl, (Nat.le_of_ble_eq_true rfl), ⟨(Nat.le_of_ble_eq_true rfl), (Nat.le_of_ble_eq_true rfl)⟩, dX7_drawnOf_79⟩ (im_X7_asTold q398) (fun q399 => ?_)
      refine ev_aload_n (pc := 82) (i := 0) 0 dX7_drawnOf_82 rfl rfl ?_
      refine ev_iconst (pc := 83) (v := 1) dX7_drawnOf_83 (by decide) ?_
      refine ev_vI (pc := 84) (as := [.int 1]) (rest := []) ⟨7, 189, 37, TX7, tyX7, ag_C7, ⟨(rfl), (by decide)⟩, mv_X7_bitsNow, ag_ml_X7_189, rfl, (Nat.le_of_ble_eq_true rfl), ⟨(Nat.le_of_ble_eq_true rfl), (Nat.le_of_ble_eq_true rfl)⟩, dX7_drawnOf_84⟩ (im_X7_bitsNow n 1 q399) (fun q400 => ?_)
      exact ev_irW rfl dX7_drawnOf_87
    · refine ev_ldcw (pc := 21) (v := 1103515245) dX7_drawnOf_21 ag_kc_X7_265 ?_
      refine ev_iload_n (pc := 24) (i := 3) 3 dX7_drawnOf_24 rfl rfl ?_
      refine ev_imul (pc := 25) dX7_drawnOf_25 ?_
      refine ev_sipush (pc := 26) (v := 12345) dX7_drawnOf_26 (by decide) ?_
      refine ev_iadd (pc := 29) dX7_drawnOf_29 ?_
      refine ev_istore_n (pc := 30) (i := 3) (lv' := [(3, .int ((1103515245 * v3) + 12345)), (0, .ref 53), (1, .int x1), (2, .int x2), (4, .int v4), (5, .int v5)]) dX7_drawnOf_30 rfl (Nat.le_of_ble_eq_true rfl) rfl ?_
      refine ev_iload (pc := 31) 4 dX7_drawnOf_31 rfl ?_
      refine ev_iload_n (pc := 33) (i := 3) 0 dX7_drawnOf_33 rfl rfl ?_
      refine ev_bipush (pc := 34) (v := 16) dX7_drawnOf_34 (by decide) ?_
      refine ev_iushr (pc := 36) dX7_drawnOf_36 ?_
      refine ev_bipush (pc := 37) (v := 16) dX7_drawnOf_37 (by decide) ?_
      refine ev_irem (pc := 39) dX7_drawnOf_39 (by decide) ?_
      refine ev_iload_n (pc := 40) (i := 2) 3 dX7_drawnOf_40 rfl rfl ?_
      refine ev_icmp_ge (pc := 41) (tgt := 51) dX7_drawnOf_41 rfl ?_ ?_
      · refine ev_iconst (pc := 51) (v := 0) dX7_drawnOf_51 (by decide) ?_
        refine ev_sub [1, 2, 3, 0, 5] rfl ?_
        exact ev_X7_drawnOf_b52 n x1 x2 (fn_X7_drawnOf_b12 n x1 x2 i) ih ((1103515245 * v3) + 12345) v5 v4 0 σ
      · refine ev_iconst (pc := 44) (v := 1) dX7_drawnOf_44 (by decide) ?_
        refine ev_iload (pc := 45) 5 dX7_drawnOf_45 rfl ?_
        refine ev_ishl (pc := 47) dX7_drawnOf_47 ?_
        refine ev_goto (pc := 48) (tgt := 52) dX7_drawnOf_48 rfl ?_
        refine ev_sub [1, 2, 3, 0, 5] rfl ?_
        exact ev_X7_drawnOf_b52 n x1 x2 (fn_X7_drawnOf_b12 n x1 x2 i) ih ((1103515245 * v3) + 12345) v5 v4 (1 <<< (v5 &&& 31)) σ
def fn_X7_drawnOf (n : Nat) (x1 : Int32) (x2 : Int32) (σ : Sg) : Option (Int32 × Sg) :=
  (Option.bind (fn_X7_reads n σ) fun q401 =>
  (fn_X7_drawnOf_b12 n x1 x2 n x1 0 0 q401))
set_option maxRecDepth 20000 in
set_option maxHeartbeats 4000000 in
theorem im_X7_drawnOf (n : Nat) (x1 : Int32) (x2 : Int32) (σ : Sg) : Im yX7_drawnOf mX7_drawnOf 5 116 jW [.ref 53, .int x1, .int x2] σ (fn_X7_drawnOf n x1 x2 σ) := by
  refine Im.of (by decide +kernel) rfl rfl (Nat.le_of_ble_eq_true rfl) ?_
  show Ev mX7_drawnOf 5 116 jW 0 [(0, .ref 53), (1, .int x1), (2, .int x2)] [] σ (fn_X7_drawnOf n x1 x2 σ)
  unfold fn_X7_drawnOf
  refine ev_aload_n (pc := 0) (i := 0) 0 dX7_drawnOf_0 rfl rfl ?_
  refine ev_vV (pc := 1) (as := []) (rest := []) ⟨7, 104, 37, TX7, tyX7, ag_C7, ⟨(rfl), (by decide)⟩, mv_X7_reads, ag_ml_X7_104, rfl, (Nat.le_of_ble_eq_true rfl), ⟨(Nat.le_of_ble_eq_true rfl), (Nat.le_of_ble_eq_true rfl)⟩, dX7_drawnOf_1⟩ (im_X7_reads n σ) (fun q401 => ?_)
  refine ev_iload_n (pc := 4) (i := 1) 1 dX7_drawnOf_4 rfl rfl ?_
  refine ev_istore_n (pc := 5) (i := 3) (lv' := [(3, .int x1), (0, .ref 53), (1, .int x1), (2, .int x2)]) dX7_drawnOf_5 rfl (Nat.le_of_ble_eq_true rfl) rfl ?_
  refine ev_iconst (pc := 6) (v := 0) dX7_drawnOf_6 (by decide) ?_
  refine ev_istore (pc := 7) (lv' := [(4, .int 0), (3, .int x1), (0, .ref 53), (1, .int x1), (2, .int x2)]) dX7_drawnOf_7 (Nat.le_of_ble_eq_true rfl) rfl ?_
  refine ev_iconst (pc := 9) (v := 0) dX7_drawnOf_9 (by decide) ?_
  refine ev_istore (pc := 10) (lv' := [(5, .int 0), (4, .int 0), (3, .int x1), (0, .ref 53), (1, .int x1), (2, .int x2)]) dX7_drawnOf_10 (Nat.le_of_ble_eq_true rfl) rfl ?_
  refine ev_sub [3, 4, 5, 2, 1, 0] rfl ?_
  exact ev_X7_drawnOf_b12 n x1 x2 n x1 0 0 q401
-- X7_drawn
def mX7_drawn : Md := (RX7, cX7_drawn, 3, some .int, none)
theorem mv_X7_drawn : ag_Mv yX7_drawn mX7_drawn 2 := ⟨ag_co_X7_drawn, ag_im_X7_drawn, ag_se_X7_drawn, ag_ini_X7, by decide +kernel⟩
theorem dX7_drawn_0 : decode mX7_drawn.2.1 0 = .ok (.iload_n 2, 1) := by decide +kernel
theorem dX7_drawn_1 : decode mX7_drawn.2.1 1 = .ok (.iconst 0, 1) := by decide +kernel
theorem dX7_drawn_2 : decode mX7_drawn.2.1 2 = .ok (.bipush 16, 2) := by decide +kernel
theorem dX7_drawn_4 : decode mX7_drawn.2.1 4 = .ok (.invokestatic 85, 3) := by decide +kernel
theorem dX7_drawn_7 : decode mX7_drawn.2.1 7 = .ok (.ifCond .eq 12, 3) := by decide +kernel
theorem dX7_drawn_10 : decode mX7_drawn.2.1 10 = .ok (.aload_n 0, 1) := by decide +kernel
theorem dX7_drawn_11 : decode mX7_drawn.2.1 11 = .ok (.iload_n 1, 1) := by decide +kernel
theorem dX7_drawn_12 : decode mX7_drawn.2.1 12 = .ok (.iload_n 2, 1) := by decide +kernel
theorem dX7_drawn_13 : decode mX7_drawn.2.1 13 = .ok (.invokevirtual 266, 3) := by decide +kernel
theorem dX7_drawn_16 : decode mX7_drawn.2.1 16 = .ok (.goto 5, 3) := by decide +kernel
theorem dX7_drawn_19 : decode mX7_drawn.2.1 19 = .ok (.bipush (-2), 2) := by decide +kernel
theorem dX7_drawn_21 : decode mX7_drawn.2.1 21 = .ok (.ireturn, 1) := by decide +kernel
def fn_X7_drawn (n : Nat) (x1 : Int32) (x2 : Int32) (σ : Sg) : Option (Int32 × Sg) :=
  (Option.bind (fn_X7_in x2 0 16 σ) fun q402 =>
  (if q402 = 0 then (some ((-2), σ))
  else (Option.bind (fn_X7_drawnOf n x1 x2 σ) fun q403 =>
  (some (q403.1, q403.2)))))
set_option maxRecDepth 20000 in
set_option maxHeartbeats 4000000 in
theorem im_X7_drawn (n : Nat) (x1 : Int32) (x2 : Int32) (σ : Sg) : Im yX7_drawn mX7_drawn 6 141 jW [.ref 53, .int x1, .int x2] σ (fn_X7_drawn n x1 x2 σ) := by
  refine Im.of (by decide +kernel) rfl rfl (Nat.le_of_ble_eq_true rfl) ?_
  show Ev mX7_drawn 6 141 jW 0 [(0, .ref 53), (1, .int x1), (2, .int x2)] [] σ (fn_X7_drawn n x1 x2 σ)
  unfold fn_X7_drawn
  refine ev_iload_n (pc := 0) (i := 2) 2 dX7_drawn_0 rfl rfl ?_
  refine ev_iconst (pc := 1) (v := 0) dX7_drawn_1 (by decide) ?_
  refine ev_bipush (pc := 2) (v := 16) dX7_drawn_2 (by decide) ?_
  refine ev_sI (pc := 4) (as := [.int x2, .int 0, .int 16]) (rest := []) ⟨85, ms_X7_in, ag_ml_X7_85, rfl, (Nat.le_of_ble_eq_true rfl), ⟨(Nat.le_of_ble_eq_true rfl), (Nat.le_of_ble_eq_true rfl)⟩, dX7_drawn_4⟩ (im_X7_in x2 0 16 σ) (fun q402 => ?_)
  refine ev_if_eq (pc := 7) (tgt := 19) dX7_drawn_7 rfl ?_ ?_
  · refine ev_bipush (pc := 19) (v := (-2)) dX7_drawn_19 (by decide) ?_
    exact ev_irW rfl dX7_drawn_21
  · refine ev_aload_n (pc := 10) (i := 0) 0 dX7_drawn_10 rfl rfl ?_
    refine ev_iload_n (pc := 11) (i := 1) 1 dX7_drawn_11 rfl rfl ?_
    refine ev_iload_n (pc := 12) (i := 2) 2 dX7_drawn_12 rfl rfl ?_
    refine ev_vW (pc := 13) (as := [.int x1, .int x2]) (rest := []) ⟨7, 266, 37, TX7, tyX7, ag_C7, ⟨(rfl), (by decide)⟩, mv_X7_drawnOf, ag_ml_X7_266, rfl, (Nat.le_of_ble_eq_true rfl), ⟨(Nat.le_of_ble_eq_true rfl), (Nat.le_of_ble_eq_true rfl)⟩, dX7_drawn_13⟩ (im_X7_drawnOf n x1 x2 σ) (fun q403 => ?_)
    refine ev_goto (pc := 16) (tgt := 21) dX7_drawn_16 rfl ?_
    exact ev_irW rfl dX7_drawn_21
-- X7_sheet
def mX7_sheet : Md := (RX7, cX7_sheet, 5, some .int, none)
theorem mv_X7_sheet : ag_Mv yX7_sheet mX7_sheet 3 := ⟨ag_co_X7_sheet, ag_im_X7_sheet, ag_se_X7_sheet, ag_ini_X7, by decide +kernel⟩
theorem dX7_sheet_0 : decode mX7_sheet.2.1 0 = .ok (.iload_n 1, 1) := by decide +kernel
theorem dX7_sheet_1 : decode mX7_sheet.2.1 1 = .ok (.invokestatic 127, 3) := by decide +kernel
theorem dX7_sheet_4 : decode mX7_sheet.2.1 4 = .ok (.ifCond .eq 18, 3) := by decide +kernel
theorem dX7_sheet_7 : decode mX7_sheet.2.1 7 = .ok (.iload_n 2, 1) := by decide +kernel
theorem dX7_sheet_8 : decode mX7_sheet.2.1 8 = .ok (.iconst 0, 1) := by decide +kernel
theorem dX7_sheet_9 : decode mX7_sheet.2.1 9 = .ok (.iconst 2, 1) := by decide +kernel
theorem dX7_sheet_10 : decode mX7_sheet.2.1 10 = .ok (.invokestatic 85, 3) := by decide +kernel
theorem dX7_sheet_13 : decode mX7_sheet.2.1 13 = .ok (.ifCond .eq 9, 3) := by decide +kernel
theorem dX7_sheet_16 : decode mX7_sheet.2.1 16 = .ok (.iload_n 3, 1) := by decide +kernel
theorem dX7_sheet_17 : decode mX7_sheet.2.1 17 = .ok (.bipush 48, 2) := by decide +kernel
theorem dX7_sheet_19 : decode mX7_sheet.2.1 19 = .ok (.if_icmp .le 6, 3) := by decide +kernel
theorem dX7_sheet_22 : decode mX7_sheet.2.1 22 = .ok (.bipush (-2), 2) := by decide +kernel
theorem dX7_sheet_24 : decode mX7_sheet.2.1 24 = .ok (.ireturn, 1) := by decide +kernel
theorem dX7_sheet_25 : decode mX7_sheet.2.1 25 = .ok (.iload_n 3, 1) := by decide +kernel
theorem dX7_sheet_26 : decode mX7_sheet.2.1 26 = .ok (.ifCond .ge 9, 3) := by decide +kernel
theorem dX7_sheet_29 : decode mX7_sheet.2.1 29 = .ok (.aload_n 0, 1) := by decide +kernel
theorem dX7_sheet_30 : decode mX7_sheet.2.1 30 = .ok (.iconst 5, 1) := by decide +kernel
theorem dX7_sheet_31 : decode mX7_sheet.2.1 31 = .ok (.invokevirtual 130, 3) := by decide +kernel
theorem dX7_sheet_34 : decode mX7_sheet.2.1 34 = .ok (.ireturn, 1) := by decide +kernel
theorem dX7_sheet_35 : decode mX7_sheet.2.1 35 = .ok (.aload_n 0, 1) := by decide +kernel
theorem dX7_sheet_36 : decode mX7_sheet.2.1 36 = .ok (.getfield 64, 3) := by decide +kernel
theorem dX7_sheet_39 : decode mX7_sheet.2.1 39 = .ok (.iload_n 1, 1) := by decide +kernel
theorem dX7_sheet_40 : decode mX7_sheet.2.1 40 = .ok (.iconst 1, 1) := by decide +kernel
theorem dX7_sheet_41 : decode mX7_sheet.2.1 41 = .ok (.bastore, 1) := by decide +kernel
theorem dX7_sheet_42 : decode mX7_sheet.2.1 42 = .ok (.aload_n 0, 1) := by decide +kernel
theorem dX7_sheet_43 : decode mX7_sheet.2.1 43 = .ok (.getfield 68, 3) := by decide +kernel
theorem dX7_sheet_46 : decode mX7_sheet.2.1 46 = .ok (.iload_n 1, 1) := by decide +kernel
theorem dX7_sheet_47 : decode mX7_sheet.2.1 47 = .ok (.iload_n 2, 1) := by decide +kernel
theorem dX7_sheet_48 : decode mX7_sheet.2.1 48 = .ok (.iastore, 1) := by decide +kernel
theorem dX7_sheet_49 : decode mX7_sheet.2.1 49 = .ok (.aload_n 0, 1) := by decide +kernel
theorem dX7_sheet_50 : decode mX7_sheet.2.1 50 = .ok (.getfield 71, 3) := by decide +kernel
theorem dX7_sheet_53 : decode mX7_sheet.2.1 53 = .ok (.iload_n 1, 1) := by decide +kernel
theorem dX7_sheet_54 : decode mX7_sheet.2.1 54 = .ok (.iload_n 3, 1) := by decide +kernel
theorem dX7_sheet_55 : decode mX7_sheet.2.1 55 = .ok (.iastore, 1) := by decide +kernel
theorem dX7_sheet_56 : decode mX7_sheet.2.1 56 = .ok (.iconst 0, 1) := by decide +kernel
theorem dX7_sheet_57 : decode mX7_sheet.2.1 57 = .ok (.istore 4, 2) := by decide +kernel
theorem dX7_sheet_59 : decode mX7_sheet.2.1 59 = .ok (.iload 4, 2) := by decide +kernel
theorem dX7_sheet_61 : decode mX7_sheet.2.1 61 = .ok (.bipush 48, 2) := by decide +kernel
theorem dX7_sheet_63 : decode mX7_sheet.2.1 63 = .ok (.if_icmp .ge 22, 3) := by decide +kernel
theorem dX7_sheet_66 : decode mX7_sheet.2.1 66 = .ok (.aload_n 0, 1) := by decide +kernel
theorem dX7_sheet_67 : decode mX7_sheet.2.1 67 = .ok (.getfield 74, 3) := by decide +kernel
theorem dX7_sheet_70 : decode mX7_sheet.2.1 70 = .ok (.bipush 48, 2) := by decide +kernel
theorem dX7_sheet_72 : decode mX7_sheet.2.1 72 = .ok (.iload_n 1, 1) := by decide +kernel
theorem dX7_sheet_73 : decode mX7_sheet.2.1 73 = .ok (.imul, 1) := by decide +kernel
theorem dX7_sheet_74 : decode mX7_sheet.2.1 74 = .ok (.iload 4, 2) := by decide +kernel
theorem dX7_sheet_76 : decode mX7_sheet.2.1 76 = .ok (.iadd, 1) := by decide +kernel
theorem dX7_sheet_77 : decode mX7_sheet.2.1 77 = .ok (.iconst 0, 1) := by decide +kernel
theorem dX7_sheet_78 : decode mX7_sheet.2.1 78 = .ok (.iastore, 1) := by decide +kernel
theorem dX7_sheet_79 : decode mX7_sheet.2.1 79 = .ok (.iinc 4 1, 3) := by decide +kernel
theorem dX7_sheet_82 : decode mX7_sheet.2.1 82 = .ok (.goto (-23), 3) := by decide +kernel
theorem dX7_sheet_85 : decode mX7_sheet.2.1 85 = .ok (.iload_n 3, 1) := by decide +kernel
theorem dX7_sheet_86 : decode mX7_sheet.2.1 86 = .ok (.ireturn, 1) := by decide +kernel
def fn_X7_sheet_b59 (n : Nat) (x1 : Int32) (x2 : Int32) (x3 : Int32)  : Nat → Int32 → Sg → Option (Int32 × Sg)
  | 0 => fun _ _ => none
  | i + 1 => fun v4 σ =>
  (if 48 ≤ v4 then (some (x3, σ))
  else (if ag_ib ((48 * x1) + v4) 192 = true then ((fn_X7_sheet_b59 n x1 x2 x3 i) (v4 + 1) (ag_up σ 75 ((48 * x1) + v4).toNatClampNeg 0)) else none))
theorem fn_X7_sheet_b59_s (n : Nat) (x1 : Int32) (x2 : Int32) (x3 : Int32)  (i : Nat) (v4 : Int32) (σ : Sg) : fn_X7_sheet_b59 n x1 x2 x3 (i + 1) v4 σ =
  (if 48 ≤ v4 then (some (x3, σ))
  else (if ag_ib ((48 * x1) + v4) 192 = true then ((fn_X7_sheet_b59 n x1 x2 x3 i) (v4 + 1) (ag_up σ 75 ((48 * x1) + v4).toNatClampNeg 0)) else none)) := rfl
set_option maxRecDepth 20000 in
set_option maxHeartbeats 4000000 in
theorem ev_X7_sheet_b59 (n : Nat) (x1 : Int32) (x2 : Int32) (x3 : Int32)  : ∀ (i : Nat) (v4 : Int32) (σ : Sg), Ev mX7_sheet 2 42 jW 59 [(0, .ref 53), (1, .int x1), (2, .int x2), (3, .int x3), (4, .int v4)] [] σ (fn_X7_sheet_b59 n x1 x2 x3 i v4 σ) := by
  intro i
  induction i with
  | zero =>
    intro v4 σ
    exact ev_none
  | succ i ih =>
    intro v4 σ
    rw [fn_X7_sheet_b59_s]
    refine ev_iload (pc := 59) 4 dX7_sheet_59 rfl ?_
    refine ev_bipush (pc := 61) (v := 48) dX7_sheet_61 (by decide) ?_
    refine ev_icmp_ge (pc := 63) (tgt := 85) dX7_sheet_63 rfl ?_ ?_
    · refine ev_iload_n (pc := 85) (i := 3) 3 dX7_sheet_85 rfl rfl ?_
      exact ev_irW rfl dX7_sheet_86
    · refine ev_aload_n (pc := 66) (i := 0) 0 dX7_sheet_66 rfl rfl ?_
      refine ev_getR (pc := 67) (t := 75) 34 ag_C7 (rfl) (by decide) (Nat.le_of_ble_eq_true rfl) rfl rfl ag_fl_X7_74 dX7_sheet_67 ?_
      refine ev_bipush (pc := 70) (v := 48) dX7_sheet_70 (by decide) ?_
      refine ev_iload_n (pc := 72) (i := 1) 1 dX7_sheet_72 rfl rfl ?_
      refine ev_imul (pc := 73) dX7_sheet_73 ?_
      refine ev_iload (pc := 74) 4 dX7_sheet_74 rfl ?_
      refine ev_iadd (pc := 76) dX7_sheet_76 ?_
      refine ev_iconst (pc := 77) (v := 0) dX7_sheet_77 (by decide) ?_
      refine ev_iast (pc := 78) (rfl) (by decide) dX7_sheet_78 ?_
      refine ev_iinc (pc := 79) (v := (v4 + 1)) (lv' := [(4, .int (v4 + 1)), (0, .ref 53), (1, .int x1), (2, .int x2), (3, .int x3)]) 4 dX7_sheet_79 rfl rfl (Nat.le_of_ble_eq_true rfl) rfl ?_
      refine ev_goto (pc := 82) (tgt := 59) dX7_sheet_82 rfl ?_
      refine ev_sub [1, 2, 3, 4, 0] rfl ?_
      exact ih (v4 + 1) (ag_up σ 75 ((48 * x1) + v4).toNatClampNeg 0)
def fn_X7_sheet (n : Nat) (x1 : Int32) (x2 : Int32) (x3 : Int32) (σ : Sg) : Option (Int32 × Sg) :=
  (Option.bind (fn_X7_isSheet x1 σ) fun q404 =>
  (if q404 = 0 then (some ((-2), σ))
  else (Option.bind (fn_X7_in x2 0 2 σ) fun q405 =>
  (if q405 = 0 then (some ((-2), σ))
  else (if x3 ≤ 48 then (if 0 ≤ x3 then (if ag_ib x1 4 = true then (if ag_ib x1 4 = true then (ag_sg (ag_up (ag_up σ 72 x1.toNatClampNeg (vp_nar .boolean 1)) 73 x1.toNatClampNeg x2) fun t406 =>
  (if ag_ib x1 4 = true then (fn_X7_sheet_b59 n x1 x2 x3 n 0 (ag_up t406 74 x1.toNatClampNeg x3)) else none)) else none) else none)
  else (Option.bind (fn_X7_meets 5 σ) fun q407 =>
  (some (q407.1, q407.2))))
  else (some ((-2), σ)))))))
set_option maxRecDepth 20000 in
set_option maxHeartbeats 4000000 in
theorem im_X7_sheet (n : Nat) (x1 : Int32) (x2 : Int32) (x3 : Int32) (σ : Sg) : Im yX7_sheet mX7_sheet 2 42 jW [.ref 53, .int x1, .int x2, .int x3] σ (fn_X7_sheet n x1 x2 x3 σ) := by
  refine Im.of (by decide +kernel) rfl rfl (Nat.le_of_ble_eq_true rfl) ?_
  show Ev mX7_sheet 2 42 jW 0 [(0, .ref 53), (1, .int x1), (2, .int x2), (3, .int x3)] [] σ (fn_X7_sheet n x1 x2 x3 σ)
  unfold fn_X7_sheet
  refine ev_iload_n (pc := 0) (i := 1) 1 dX7_sheet_0 rfl rfl ?_
  refine ev_sI (pc := 1) (as := [.int x1]) (rest := []) ⟨127, ms_X7_isSheet, ag_ml_X7_127, rfl, (Nat.le_of_ble_eq_true rfl), ⟨(Nat.le_of_ble_eq_true rfl), (Nat.le_of_ble_eq_true rfl)⟩, dX7_sheet_1⟩ (im_X7_isSheet x1 σ) (fun q404 => ?_)
  refine ev_if_eq (pc := 4) (tgt := 22) dX7_sheet_4 rfl ?_ ?_
  · refine ev_bipush (pc := 22) (v := (-2)) dX7_sheet_22 (by decide) ?_
    exact ev_irW rfl dX7_sheet_24
  · refine ev_iload_n (pc := 7) (i := 2) 2 dX7_sheet_7 rfl rfl ?_
    refine ev_iconst (pc := 8) (v := 0) dX7_sheet_8 (by decide) ?_
    refine ev_iconst (pc := 9) (v := 2) dX7_sheet_9 (by decide) ?_
    refine ev_sI (pc := 10) (as := [.int x2, .int 0, .int 2]) (rest := []) ⟨85, ms_X7_in, ag_ml_X7_85, rfl, (Nat.le_of_ble_eq_true rfl), ⟨(Nat.le_of_ble_eq_true rfl), (Nat.le_of_ble_eq_true rfl)⟩, dX7_sheet_10⟩ (im_X7_in x2 0 2 σ) (fun q405 => ?_)
    refine ev_if_eq (pc := 13) (tgt := 22) dX7_sheet_13 rfl ?_ ?_
    · refine ev_bipush (pc := 22) (v := (-2)) dX7_sheet_22 (by decide) ?_
      exact ev_irW rfl dX7_sheet_24
    · refine ev_iload_n (pc := 16) (i := 3) 3 dX7_sheet_16 rfl rfl ?_
      refine ev_bipush (pc := 17) (v := 48) dX7_sheet_17 (by decide) ?_
      refine ev_icmp_le (pc := 19) (tgt := 25) dX7_sheet_19 rfl ?_ ?_
      · refine ev_iload_n (pc := 25) (i := 3) 3 dX7_sheet_25 rfl rfl ?_
        refine ev_if_ge (pc := 26) (tgt := 35) dX7_sheet_26 rfl ?_ ?_
        · refine ev_aload_n (pc := 35) (i := 0) 0 dX7_sheet_35 rfl rfl ?_
          refine ev_getR (pc := 36) (t := 72) 31 ag_C7 (rfl) (by decide) (Nat.le_of_ble_eq_true rfl) rfl rfl ag_fl_X7_64 dX7_sheet_36 ?_
          refine ev_iload_n (pc := 39) (i := 1) 1 dX7_sheet_39 rfl rfl ?_
          refine ev_iconst (pc := 40) (v := 1) dX7_sheet_40 (by decide) ?_
          refine ev_zast (pc := 41) (rfl) (by decide) dX7_sheet_41 ?_
          refine ev_aload_n (pc := 42) (i := 0) 0 dX7_sheet_42 rfl rfl ?_
          refine ev_getR (pc := 43) (t := 73) 32 ag_C7 (rfl) (by decide) (Nat.le_of_ble_eq_true rfl) rfl rfl ag_fl_X7_68 dX7_sheet_43 ?_
          refine ev_iload_n (pc := 46) (i := 1) 1 dX7_sheet_46 rfl rfl ?_
          refine ev_iload_n (pc := 47) (i := 2) 2 dX7_sheet_47 rfl rfl ?_
          refine ev_iast (pc := 48) (rfl) (by decide) dX7_sheet_48 ?_
          refine ev_sg (fun t406 => ?_)
          refine ev_aload_n (pc := 49) (i := 0) 0 dX7_sheet_49 rfl rfl ?_
          refine ev_getR (pc := 50) (t := 74) 33 ag_C7 (rfl) (by decide) (Nat.le_of_ble_eq_true rfl) rfl rfl ag_fl_X7_71 dX7_sheet_50 ?_
          refine ev_iload_n (pc := 53) (i := 1) 1 dX7_sheet_53 rfl rfl ?_
          refine ev_iload_n (pc := 54) (i := 3) 3 dX7_sheet_54 rfl rfl ?_
          refine ev_iast (pc := 55) (rfl) (by decide) dX7_sheet_55 ?_
          refine ev_iconst (pc := 56) (v := 0) dX7_sheet_56 (by decide) ?_
          refine ev_istore (pc := 57) (lv' := [(4, .int 0), (0, .ref 53), (1, .int x1), (2, .int x2), (3, .int x3)]) dX7_sheet_57 (Nat.le_of_ble_eq_true rfl) rfl ?_
          refine ev_sub [1, 2, 3, 4, 0] rfl ?_
          exact ev_X7_sheet_b59 n x1 x2 x3 n 0 (ag_up t406 74 x1.toNatClampNeg x3)
        · refine ev_aload_n (pc := 29) (i := 0) 0 dX7_sheet_29 rfl rfl ?_
          refine ev_iconst (pc := 30) (v := 5) dX7_sheet_30 (by decide) ?_
          refine ev_vW (pc := 31) (as := [.int 5]) (rest := []) ⟨7, 130, 37, TX7, tyX7, ag_C7, ⟨(rfl), (by decide)⟩, mv_X7_meets, ag_ml_X7_130, rfl, (Nat.le_of_ble_eq_true rfl), ⟨(Nat.le_of_ble_eq_true rfl), (Nat.le_of_ble_eq_true rfl)⟩, dX7_sheet_31⟩ (im_X7_meets 5 σ) (fun q407 => ?_)
          exact ev_irW rfl dX7_sheet_34
      · refine ev_bipush (pc := 22) (v := (-2)) dX7_sheet_22 (by decide) ?_
        exact ev_irW rfl dX7_sheet_24
-- X7_lose
def mX7_lose : Md := (RX7, cX7_lose, 2, some .int, none)
theorem mv_X7_lose : ag_Mv yX7_lose mX7_lose 1 := ⟨ag_co_X7_lose, ag_im_X7_lose, ag_se_X7_lose, ag_ini_X7, by decide +kernel⟩
theorem dX7_lose_0 : decode mX7_lose.2.1 0 = .ok (.iload_n 1, 1) := by decide +kernel
theorem dX7_lose_1 : decode mX7_lose.2.1 1 = .ok (.invokestatic 127, 3) := by decide +kernel
theorem dX7_lose_4 : decode mX7_lose.2.1 4 = .ok (.ifCond .ne 6, 3) := by decide +kernel
theorem dX7_lose_7 : decode mX7_lose.2.1 7 = .ok (.bipush (-2), 2) := by decide +kernel
theorem dX7_lose_9 : decode mX7_lose.2.1 9 = .ok (.ireturn, 1) := by decide +kernel
theorem dX7_lose_10 : decode mX7_lose.2.1 10 = .ok (.aload_n 0, 1) := by decide +kernel
theorem dX7_lose_11 : decode mX7_lose.2.1 11 = .ok (.getfield 64, 3) := by decide +kernel
theorem dX7_lose_14 : decode mX7_lose.2.1 14 = .ok (.iload_n 1, 1) := by decide +kernel
theorem dX7_lose_15 : decode mX7_lose.2.1 15 = .ok (.baload, 1) := by decide +kernel
theorem dX7_lose_16 : decode mX7_lose.2.1 16 = .ok (.ifCond .ne 9, 3) := by decide +kernel
theorem dX7_lose_19 : decode mX7_lose.2.1 19 = .ok (.aload_n 0, 1) := by decide +kernel
theorem dX7_lose_20 : decode mX7_lose.2.1 20 = .ok (.iconst 1, 1) := by decide +kernel
theorem dX7_lose_21 : decode mX7_lose.2.1 21 = .ok (.invokevirtual 130, 3) := by decide +kernel
theorem dX7_lose_24 : decode mX7_lose.2.1 24 = .ok (.ireturn, 1) := by decide +kernel
theorem dX7_lose_25 : decode mX7_lose.2.1 25 = .ok (.aload_n 0, 1) := by decide +kernel
theorem dX7_lose_26 : decode mX7_lose.2.1 26 = .ok (.getfield 64, 3) := by decide +kernel
theorem dX7_lose_29 : decode mX7_lose.2.1 29 = .ok (.iload_n 1, 1) := by decide +kernel
theorem dX7_lose_30 : decode mX7_lose.2.1 30 = .ok (.iconst 0, 1) := by decide +kernel
theorem dX7_lose_31 : decode mX7_lose.2.1 31 = .ok (.bastore, 1) := by decide +kernel
theorem dX7_lose_32 : decode mX7_lose.2.1 32 = .ok (.aload_n 0, 1) := by decide +kernel
theorem dX7_lose_33 : decode mX7_lose.2.1 33 = .ok (.getfield 71, 3) := by decide +kernel
theorem dX7_lose_36 : decode mX7_lose.2.1 36 = .ok (.iload_n 1, 1) := by decide +kernel
theorem dX7_lose_37 : decode mX7_lose.2.1 37 = .ok (.iaload, 1) := by decide +kernel
theorem dX7_lose_38 : decode mX7_lose.2.1 38 = .ok (.ireturn, 1) := by decide +kernel
def fn_X7_lose (x1 : Int32) (σ : Sg) : Option (Int32 × Sg) :=
  (Option.bind (fn_X7_isSheet x1 σ) fun q408 =>
  (if q408 = 0 then (some ((-2), σ))
  else (if ag_ib x1 4 = true then (if (σ 72 x1.toNatClampNeg) = 0 then (Option.bind (fn_X7_meets 1 σ) fun q409 =>
  (some (q409.1, q409.2)))
  else (if ag_ib x1 4 = true then (if ag_ib x1 4 = true then (some (((ag_up σ 72 x1.toNatClampNeg (vp_nar .boolean 0)) 74 x1.toNatClampNeg), (ag_up σ 72 x1.toNatClampNeg (vp_nar .boolean 0)))) else none) else none)) else none)))
set_option maxRecDepth 20000 in
set_option maxHeartbeats 4000000 in
theorem im_X7_lose (x1 : Int32) (σ : Sg) : Im yX7_lose mX7_lose 2 42 jW [.ref 53, .int x1] σ (fn_X7_lose x1 σ) := by
  refine Im.of (by decide +kernel) rfl rfl (Nat.le_of_ble_eq_true rfl) ?_
  show Ev mX7_lose 2 42 jW 0 [(0, .ref 53), (1, .int x1)] [] σ (fn_X7_lose x1 σ)
  unfold fn_X7_lose
  refine ev_iload_n (pc := 0) (i := 1) 1 dX7_lose_0 rfl rfl ?_
  refine ev_sI (pc := 1) (as := [.int x1]) (rest := []) ⟨127, ms_X7_isSheet, ag_ml_X7_127, rfl, (Nat.le_of_ble_eq_true rfl), ⟨(Nat.le_of_ble_eq_true rfl), (Nat.le_of_ble_eq_true rfl)⟩, dX7_lose_1⟩ (im_X7_isSheet x1 σ) (fun q408 => ?_)
  refine ev_if_ne (pc := 4) (tgt := 10) dX7_lose_4 rfl ?_ ?_
  · refine ev_bipush (pc := 7) (v := (-2)) dX7_lose_7 (by decide) ?_
    exact ev_irW rfl dX7_lose_9
  · refine ev_aload_n (pc := 10) (i := 0) 0 dX7_lose_10 rfl rfl ?_
    refine ev_getR (pc := 11) (t := 72) 31 ag_C7 (rfl) (by decide) (Nat.le_of_ble_eq_true rfl) rfl rfl ag_fl_X7_64 dX7_lose_11 ?_
    refine ev_iload_n (pc := 14) (i := 1) 1 dX7_lose_14 rfl rfl ?_
    refine ev_zald (pc := 15) (rfl) (by decide) dX7_lose_15 ?_
    refine ev_if_ne (pc := 16) (tgt := 25) dX7_lose_16 rfl ?_ ?_
    · refine ev_aload_n (pc := 19) (i := 0) 0 dX7_lose_19 rfl rfl ?_
      refine ev_iconst (pc := 20) (v := 1) dX7_lose_20 (by decide) ?_
      refine ev_vW (pc := 21) (as := [.int 1]) (rest := []) ⟨7, 130, 37, TX7, tyX7, ag_C7, ⟨(rfl), (by decide)⟩, mv_X7_meets, ag_ml_X7_130, rfl, (Nat.le_of_ble_eq_true rfl), ⟨(Nat.le_of_ble_eq_true rfl), (Nat.le_of_ble_eq_true rfl)⟩, dX7_lose_21⟩ (im_X7_meets 1 σ) (fun q409 => ?_)
      exact ev_irW rfl dX7_lose_24
    · refine ev_aload_n (pc := 25) (i := 0) 0 dX7_lose_25 rfl rfl ?_
      refine ev_getR (pc := 26) (t := 72) 31 ag_C7 (rfl) (by decide) (Nat.le_of_ble_eq_true rfl) rfl rfl ag_fl_X7_64 dX7_lose_26 ?_
      refine ev_iload_n (pc := 29) (i := 1) 1 dX7_lose_29 rfl rfl ?_
      refine ev_iconst (pc := 30) (v := 0) dX7_lose_30 (by decide) ?_
      refine ev_zast (pc := 31) (rfl) (by decide) dX7_lose_31 ?_
      refine ev_aload_n (pc := 32) (i := 0) 0 dX7_lose_32 rfl rfl ?_
      refine ev_getR (pc := 33) (t := 74) 33 ag_C7 (rfl) (by decide) (Nat.le_of_ble_eq_true rfl) rfl rfl ag_fl_X7_71 dX7_lose_33 ?_
      refine ev_iload_n (pc := 36) (i := 1) 1 dX7_lose_36 rfl rfl ?_
      refine ev_iald (pc := 37) (rfl) (by decide) dX7_lose_37 ?_
      exact ev_irW rfl dX7_lose_38
-- X7_lacks
def mX7_lacks : Md := (RX7, cX7_lacks, 4, some .int, none)
theorem mv_X7_lacks : ag_Mv yX7_lacks mX7_lacks 3 := ⟨ag_co_X7_lacks, ag_im_X7_lacks, ag_se_X7_lacks, ag_ini_X7, by decide +kernel⟩
theorem dX7_lacks_0 : decode mX7_lacks.2.1 0 = .ok (.aload_n 0, 1) := by decide +kernel
theorem dX7_lacks_1 : decode mX7_lacks.2.1 1 = .ok (.getfield 64, 3) := by decide +kernel
theorem dX7_lacks_4 : decode mX7_lacks.2.1 4 = .ok (.iload_n 1, 1) := by decide +kernel
theorem dX7_lacks_5 : decode mX7_lacks.2.1 5 = .ok (.baload, 1) := by decide +kernel
theorem dX7_lacks_6 : decode mX7_lacks.2.1 6 = .ok (.ifCond .ne 7, 3) := by decide +kernel
theorem dX7_lacks_9 : decode mX7_lacks.2.1 9 = .ok (.iconst 1, 1) := by decide +kernel
theorem dX7_lacks_10 : decode mX7_lacks.2.1 10 = .ok (.goto 38, 3) := by decide +kernel
theorem dX7_lacks_13 : decode mX7_lacks.2.1 13 = .ok (.aload_n 0, 1) := by decide +kernel
theorem dX7_lacks_14 : decode mX7_lacks.2.1 14 = .ok (.getfield 68, 3) := by decide +kernel
theorem dX7_lacks_17 : decode mX7_lacks.2.1 17 = .ok (.iload_n 1, 1) := by decide +kernel
theorem dX7_lacks_18 : decode mX7_lacks.2.1 18 = .ok (.iaload, 1) := by decide +kernel
theorem dX7_lacks_19 : decode mX7_lacks.2.1 19 = .ok (.iload_n 2, 1) := by decide +kernel
theorem dX7_lacks_20 : decode mX7_lacks.2.1 20 = .ok (.if_icmp .eq 7, 3) := by decide +kernel
theorem dX7_lacks_23 : decode mX7_lacks.2.1 23 = .ok (.iconst 3, 1) := by decide +kernel
theorem dX7_lacks_24 : decode mX7_lacks.2.1 24 = .ok (.goto 24, 3) := by decide +kernel
theorem dX7_lacks_27 : decode mX7_lacks.2.1 27 = .ok (.iload_n 3, 1) := by decide +kernel
theorem dX7_lacks_28 : decode mX7_lacks.2.1 28 = .ok (.iconst 0, 1) := by decide +kernel
theorem dX7_lacks_29 : decode mX7_lacks.2.1 29 = .ok (.aload_n 0, 1) := by decide +kernel
theorem dX7_lacks_30 : decode mX7_lacks.2.1 30 = .ok (.getfield 71, 3) := by decide +kernel
theorem dX7_lacks_33 : decode mX7_lacks.2.1 33 = .ok (.iload_n 1, 1) := by decide +kernel
theorem dX7_lacks_34 : decode mX7_lacks.2.1 34 = .ok (.iaload, 1) := by decide +kernel
theorem dX7_lacks_35 : decode mX7_lacks.2.1 35 = .ok (.iconst 1, 1) := by decide +kernel
theorem dX7_lacks_36 : decode mX7_lacks.2.1 36 = .ok (.isub, 1) := by decide +kernel
theorem dX7_lacks_37 : decode mX7_lacks.2.1 37 = .ok (.invokestatic 85, 3) := by decide +kernel
theorem dX7_lacks_40 : decode mX7_lacks.2.1 40 = .ok (.ifCond .eq 7, 3) := by decide +kernel
theorem dX7_lacks_43 : decode mX7_lacks.2.1 43 = .ok (.iconst 0, 1) := by decide +kernel
theorem dX7_lacks_44 : decode mX7_lacks.2.1 44 = .ok (.goto 4, 3) := by decide +kernel
theorem dX7_lacks_47 : decode mX7_lacks.2.1 47 = .ok (.iconst 2, 1) := by decide +kernel
theorem dX7_lacks_48 : decode mX7_lacks.2.1 48 = .ok (.ireturn, 1) := by decide +kernel
def fn_X7_lacks (x1 : Int32) (x2 : Int32) (x3 : Int32) (σ : Sg) : Option Int32 :=
  (if ag_ib x1 4 = true then (if (σ 72 x1.toNatClampNeg) = 0 then (some 1)
  else (if ag_ib x1 4 = true then (if (σ 73 x1.toNatClampNeg) = x2 then (if ag_ib x1 4 = true then (Option.bind (fn_X7_in x3 0 ((σ 74 x1.toNatClampNeg) - 1) σ) fun q410 =>
  (if q410 = 0 then (some 2)
  else (some 0))) else none)
  else (some 3)) else none)) else none)
set_option maxRecDepth 20000 in
set_option maxHeartbeats 4000000 in
theorem im_X7_lacks (x1 : Int32) (x2 : Int32) (x3 : Int32) (σ : Sg) : Im yX7_lacks mX7_lacks 1 22 (jI σ) [.ref 53, .int x1, .int x2, .int x3] σ (fn_X7_lacks x1 x2 x3 σ) := by
  refine Im.of (by decide +kernel) rfl rfl (Nat.le_of_ble_eq_true rfl) ?_
  show Ev mX7_lacks 1 22 (jI σ) 0 [(0, .ref 53), (1, .int x1), (2, .int x2), (3, .int x3)] [] σ (fn_X7_lacks x1 x2 x3 σ)
  unfold fn_X7_lacks
  refine ev_aload_n (pc := 0) (i := 0) 0 dX7_lacks_0 rfl rfl ?_
  refine ev_getR (pc := 1) (t := 72) 31 ag_C7 (rfl) (by decide) (Nat.le_of_ble_eq_true rfl) rfl rfl ag_fl_X7_64 dX7_lacks_1 ?_
  refine ev_iload_n (pc := 4) (i := 1) 1 dX7_lacks_4 rfl rfl ?_
  refine ev_zald (pc := 5) (rfl) (by decide) dX7_lacks_5 ?_
  refine ev_if_ne (pc := 6) (tgt := 13) dX7_lacks_6 rfl ?_ ?_
  · refine ev_iconst (pc := 9) (v := 1) dX7_lacks_9 (by decide) ?_
    refine ev_goto (pc := 10) (tgt := 48) dX7_lacks_10 rfl ?_
    exact ev_irI rfl dX7_lacks_48
  · refine ev_aload_n (pc := 13) (i := 0) 0 dX7_lacks_13 rfl rfl ?_
    refine ev_getR (pc := 14) (t := 73) 32 ag_C7 (rfl) (by decide) (Nat.le_of_ble_eq_true rfl) rfl rfl ag_fl_X7_68 dX7_lacks_14 ?_
    refine ev_iload_n (pc := 17) (i := 1) 1 dX7_lacks_17 rfl rfl ?_
    refine ev_iald (pc := 18) (rfl) (by decide) dX7_lacks_18 ?_
    refine ev_iload_n (pc := 19) (i := 2) 2 dX7_lacks_19 rfl rfl ?_
    refine ev_icmp_eq (pc := 20) (tgt := 27) dX7_lacks_20 rfl ?_ ?_
    · refine ev_iload_n (pc := 27) (i := 3) 3 dX7_lacks_27 rfl rfl ?_
      refine ev_iconst (pc := 28) (v := 0) dX7_lacks_28 (by decide) ?_
      refine ev_aload_n (pc := 29) (i := 0) 0 dX7_lacks_29 rfl rfl ?_
      refine ev_getR (pc := 30) (t := 74) 33 ag_C7 (rfl) (by decide) (Nat.le_of_ble_eq_true rfl) rfl rfl ag_fl_X7_71 dX7_lacks_30 ?_
      refine ev_iload_n (pc := 33) (i := 1) 1 dX7_lacks_33 rfl rfl ?_
      refine ev_iald (pc := 34) (rfl) (by decide) dX7_lacks_34 ?_
      refine ev_iconst (pc := 35) (v := 1) dX7_lacks_35 (by decide) ?_
      refine ev_isub (pc := 36) dX7_lacks_36 ?_
      refine ev_sI (pc := 37) (as := [.int x3, .int 0, .int ((σ 74 x1.toNatClampNeg) - 1)]) (rest := []) ⟨85, ms_X7_in, ag_ml_X7_85, rfl, (Nat.le_of_ble_eq_true rfl), ⟨(Nat.le_of_ble_eq_true rfl), (Nat.le_of_ble_eq_true rfl)⟩, dX7_lacks_37⟩ (im_X7_in x3 0 ((σ 74 x1.toNatClampNeg) - 1) σ) (fun q410 => ?_)
      refine ev_if_eq (pc := 40) (tgt := 47) dX7_lacks_40 rfl ?_ ?_
      · refine ev_iconst (pc := 47) (v := 2) dX7_lacks_47 (by decide) ?_
        exact ev_irI rfl dX7_lacks_48
      · refine ev_iconst (pc := 43) (v := 0) dX7_lacks_43 (by decide) ?_
        refine ev_goto (pc := 44) (tgt := 48) dX7_lacks_44 rfl ?_
        exact ev_irI rfl dX7_lacks_48
    · refine ev_iconst (pc := 23) (v := 3) dX7_lacks_23 (by decide) ?_
      refine ev_goto (pc := 24) (tgt := 48) dX7_lacks_24 rfl ?_
      exact ev_irI rfl dX7_lacks_48
-- X7_keep
def mX7_keep : Md := (RX7, cX7_keep, 4, none, none)
theorem mv_X7_keep : ag_Mv yX7_keep mX7_keep 3 := ⟨ag_co_X7_keep, ag_im_X7_keep, ag_se_X7_keep, ag_ini_X7, by decide +kernel⟩
theorem dX7_keep_0 : decode mX7_keep.2.1 0 = .ok (.aload_n 0, 1) := by decide +kernel
theorem dX7_keep_1 : decode mX7_keep.2.1 1 = .ok (.getfield 74, 3) := by decide +kernel
theorem dX7_keep_4 : decode mX7_keep.2.1 4 = .ok (.bipush 48, 2) := by decide +kernel
theorem dX7_keep_6 : decode mX7_keep.2.1 6 = .ok (.iload_n 1, 1) := by decide +kernel
theorem dX7_keep_7 : decode mX7_keep.2.1 7 = .ok (.imul, 1) := by decide +kernel
theorem dX7_keep_8 : decode mX7_keep.2.1 8 = .ok (.iload_n 2, 1) := by decide +kernel
theorem dX7_keep_9 : decode mX7_keep.2.1 9 = .ok (.iadd, 1) := by decide +kernel
theorem dX7_keep_10 : decode mX7_keep.2.1 10 = .ok (.aload_n 0, 1) := by decide +kernel
theorem dX7_keep_11 : decode mX7_keep.2.1 11 = .ok (.getfield 68, 3) := by decide +kernel
theorem dX7_keep_14 : decode mX7_keep.2.1 14 = .ok (.iload_n 1, 1) := by decide +kernel
theorem dX7_keep_15 : decode mX7_keep.2.1 15 = .ok (.iaload, 1) := by decide +kernel
theorem dX7_keep_16 : decode mX7_keep.2.1 16 = .ok (.ifCond .ne 8, 3) := by decide +kernel
theorem dX7_keep_19 : decode mX7_keep.2.1 19 = .ok (.iload_n 3, 1) := by decide +kernel
theorem dX7_keep_20 : decode mX7_keep.2.1 20 = .ok (.i2b, 1) := by decide +kernel
theorem dX7_keep_21 : decode mX7_keep.2.1 21 = .ok (.goto 19, 3) := by decide +kernel
theorem dX7_keep_24 : decode mX7_keep.2.1 24 = .ok (.aload_n 0, 1) := by decide +kernel
theorem dX7_keep_25 : decode mX7_keep.2.1 25 = .ok (.getfield 68, 3) := by decide +kernel
theorem dX7_keep_28 : decode mX7_keep.2.1 28 = .ok (.iload_n 1, 1) := by decide +kernel
theorem dX7_keep_29 : decode mX7_keep.2.1 29 = .ok (.iaload, 1) := by decide +kernel
theorem dX7_keep_30 : decode mX7_keep.2.1 30 = .ok (.iconst 1, 1) := by decide +kernel
theorem dX7_keep_31 : decode mX7_keep.2.1 31 = .ok (.if_icmp .ne 8, 3) := by decide +kernel
theorem dX7_keep_34 : decode mX7_keep.2.1 34 = .ok (.iload_n 3, 1) := by decide +kernel
theorem dX7_keep_35 : decode mX7_keep.2.1 35 = .ok (.i2s, 1) := by decide +kernel
theorem dX7_keep_36 : decode mX7_keep.2.1 36 = .ok (.goto 4, 3) := by decide +kernel
theorem dX7_keep_39 : decode mX7_keep.2.1 39 = .ok (.iload_n 3, 1) := by decide +kernel
theorem dX7_keep_40 : decode mX7_keep.2.1 40 = .ok (.iastore, 1) := by decide +kernel
theorem dX7_keep_41 : decode mX7_keep.2.1 41 = .ok (.return_, 1) := by decide +kernel
def fn_X7_keep_b40 (x1 : Int32) (x2 : Int32) (x3 : Int32)  (s1 : Int32) (s2 : Int32) (σ : Sg) : Option Sg :=
  (if ag_ib s1 192 = true then (some (ag_up σ 75 s1.toNatClampNeg s2)) else none)
set_option maxRecDepth 20000 in
set_option maxHeartbeats 4000000 in
theorem ev_X7_keep_b40 (x1 : Int32) (x2 : Int32) (x3 : Int32)  (s1 : Int32) (s2 : Int32) (σ : Sg) : Ev mX7_keep 0 0 jV 40 [(0, .ref 53), (1, .int x1), (2, .int x2), (3, .int x3)] [.int s2, .int s1, .ref 75] σ (fn_X7_keep_b40 x1 x2 x3 s1 s2 σ) := by
  unfold fn_X7_keep_b40
  refine ev_iast (pc := 40) (rfl) (by decide) dX7_keep_40 ?_
  exact ev_rV rfl dX7_keep_41
def fn_X7_keep (x1 : Int32) (x2 : Int32) (x3 : Int32) (σ : Sg) : Option Sg :=
  (if ag_ib x1 4 = true then (if (σ 73 x1.toNatClampNeg) = 0 then (fn_X7_keep_b40 x1 x2 x3 ((48 * x1) + x2) x3.toInt8.toInt32 σ)
  else (if ag_ib x1 4 = true then (if (σ 73 x1.toNatClampNeg) = 1 then (fn_X7_keep_b40 x1 x2 x3 ((48 * x1) + x2) x3.toInt16.toInt32 σ)
  else (fn_X7_keep_b40 x1 x2 x3 ((48 * x1) + x2) x3 σ)) else none)) else none)
set_option maxRecDepth 20000 in
set_option maxHeartbeats 4000000 in
theorem im_X7_keep (x1 : Int32) (x2 : Int32) (x3 : Int32) (σ : Sg) : Im yX7_keep mX7_keep 0 0 jV [.ref 53, .int x1, .int x2, .int x3] σ (fn_X7_keep x1 x2 x3 σ) := by
  refine Im.of (by decide +kernel) rfl rfl (Nat.le_of_ble_eq_true rfl) ?_
  show Ev mX7_keep 0 0 jV 0 [(0, .ref 53), (1, .int x1), (2, .int x2), (3, .int x3)] [] σ (fn_X7_keep x1 x2 x3 σ)
  unfold fn_X7_keep
  refine ev_aload_n (pc := 0) (i := 0) 0 dX7_keep_0 rfl rfl ?_
  refine ev_getR (pc := 1) (t := 75) 34 ag_C7 (rfl) (by decide) (Nat.le_of_ble_eq_true rfl) rfl rfl ag_fl_X7_74 dX7_keep_1 ?_
  refine ev_bipush (pc := 4) (v := 48) dX7_keep_4 (by decide) ?_
  refine ev_iload_n (pc := 6) (i := 1) 1 dX7_keep_6 rfl rfl ?_
  refine ev_imul (pc := 7) dX7_keep_7 ?_
  refine ev_iload_n (pc := 8) (i := 2) 2 dX7_keep_8 rfl rfl ?_
  refine ev_iadd (pc := 9) dX7_keep_9 ?_
  refine ev_aload_n (pc := 10) (i := 0) 0 dX7_keep_10 rfl rfl ?_
  refine ev_getR (pc := 11) (t := 73) 32 ag_C7 (rfl) (by decide) (Nat.le_of_ble_eq_true rfl) rfl rfl ag_fl_X7_68 dX7_keep_11 ?_
  refine ev_iload_n (pc := 14) (i := 1) 1 dX7_keep_14 rfl rfl ?_
  refine ev_iald (pc := 15) (rfl) (by decide) dX7_keep_15 ?_
  refine ev_if_ne (pc := 16) (tgt := 24) dX7_keep_16 rfl ?_ ?_
  · refine ev_iload_n (pc := 19) (i := 3) 3 dX7_keep_19 rfl rfl ?_
    refine ev_i2b (pc := 20) dX7_keep_20 ?_
    refine ev_goto (pc := 21) (tgt := 40) dX7_keep_21 rfl ?_
    exact ev_X7_keep_b40 x1 x2 x3 ((48 * x1) + x2) x3.toInt8.toInt32 σ
  · refine ev_aload_n (pc := 24) (i := 0) 0 dX7_keep_24 rfl rfl ?_
    refine ev_getR (pc := 25) (t := 73) 32 ag_C7 (rfl) (by decide) (Nat.le_of_ble_eq_true rfl) rfl rfl ag_fl_X7_68 dX7_keep_25 ?_
    refine ev_iload_n (pc := 28) (i := 1) 1 dX7_keep_28 rfl rfl ?_
    refine ev_iald (pc := 29) (rfl) (by decide) dX7_keep_29 ?_
    refine ev_iconst (pc := 30) (v := 1) dX7_keep_30 (by decide) ?_
    refine ev_icmp_ne (pc := 31) (tgt := 39) dX7_keep_31 rfl ?_ ?_
    · refine ev_iload_n (pc := 34) (i := 3) 3 dX7_keep_34 rfl rfl ?_
      refine ev_i2s (pc := 35) dX7_keep_35 ?_
      refine ev_goto (pc := 36) (tgt := 40) dX7_keep_36 rfl ?_
      exact ev_X7_keep_b40 x1 x2 x3 ((48 * x1) + x2) x3.toInt16.toInt32 σ
    · refine ev_iload_n (pc := 39) (i := 3) 3 dX7_keep_39 rfl rfl ?_
      exact ev_X7_keep_b40 x1 x2 x3 ((48 * x1) + x2) x3 σ
-- X7_put
def mX7_put : Md := (RX7, cX7_put, 6, some .int, none)
theorem mv_X7_put : ag_Mv yX7_put mX7_put 4 := ⟨ag_co_X7_put, ag_im_X7_put, ag_se_X7_put, ag_ini_X7, by decide +kernel⟩
theorem dX7_put_0 : decode mX7_put.2.1 0 = .ok (.iload_n 1, 1) := by decide +kernel
theorem dX7_put_1 : decode mX7_put.2.1 1 = .ok (.invokestatic 127, 3) := by decide +kernel
theorem dX7_put_4 : decode mX7_put.2.1 4 = .ok (.ifCond .eq 12, 3) := by decide +kernel
theorem dX7_put_7 : decode mX7_put.2.1 7 = .ok (.iload_n 2, 1) := by decide +kernel
theorem dX7_put_8 : decode mX7_put.2.1 8 = .ok (.iconst 0, 1) := by decide +kernel
theorem dX7_put_9 : decode mX7_put.2.1 9 = .ok (.iconst 2, 1) := by decide +kernel
theorem dX7_put_10 : decode mX7_put.2.1 10 = .ok (.invokestatic 85, 3) := by decide +kernel
theorem dX7_put_13 : decode mX7_put.2.1 13 = .ok (.ifCond .ne 6, 3) := by decide +kernel
theorem dX7_put_16 : decode mX7_put.2.1 16 = .ok (.bipush (-2), 2) := by decide +kernel
theorem dX7_put_18 : decode mX7_put.2.1 18 = .ok (.ireturn, 1) := by decide +kernel
theorem dX7_put_19 : decode mX7_put.2.1 19 = .ok (.aload_n 0, 1) := by decide +kernel
theorem dX7_put_20 : decode mX7_put.2.1 20 = .ok (.iload_n 1, 1) := by decide +kernel
theorem dX7_put_21 : decode mX7_put.2.1 21 = .ok (.iload_n 2, 1) := by decide +kernel
theorem dX7_put_22 : decode mX7_put.2.1 22 = .ok (.iload_n 3, 1) := by decide +kernel
theorem dX7_put_23 : decode mX7_put.2.1 23 = .ok (.invokevirtual 272, 3) := by decide +kernel
theorem dX7_put_26 : decode mX7_put.2.1 26 = .ok (.istore 5, 2) := by decide +kernel
theorem dX7_put_28 : decode mX7_put.2.1 28 = .ok (.iload 5, 2) := by decide +kernel
theorem dX7_put_30 : decode mX7_put.2.1 30 = .ok (.ifCond .le 10, 3) := by decide +kernel
theorem dX7_put_33 : decode mX7_put.2.1 33 = .ok (.aload_n 0, 1) := by decide +kernel
theorem dX7_put_34 : decode mX7_put.2.1 34 = .ok (.iload 5, 2) := by decide +kernel
theorem dX7_put_36 : decode mX7_put.2.1 36 = .ok (.invokevirtual 130, 3) := by decide +kernel
theorem dX7_put_39 : decode mX7_put.2.1 39 = .ok (.ireturn, 1) := by decide +kernel
theorem dX7_put_40 : decode mX7_put.2.1 40 = .ok (.aload_n 0, 1) := by decide +kernel
theorem dX7_put_41 : decode mX7_put.2.1 41 = .ok (.iload_n 1, 1) := by decide +kernel
theorem dX7_put_42 : decode mX7_put.2.1 42 = .ok (.iload_n 3, 1) := by decide +kernel
theorem dX7_put_43 : decode mX7_put.2.1 43 = .ok (.iload 4, 2) := by decide +kernel
theorem dX7_put_45 : decode mX7_put.2.1 45 = .ok (.invokevirtual 275, 3) := by decide +kernel
theorem dX7_put_48 : decode mX7_put.2.1 48 = .ok (.iconst 1, 1) := by decide +kernel
theorem dX7_put_49 : decode mX7_put.2.1 49 = .ok (.ireturn, 1) := by decide +kernel
def fn_X7_put (x1 : Int32) (x2 : Int32) (x3 : Int32) (x4 : Int32) (σ : Sg) : Option (Int32 × Sg) :=
  (Option.bind (fn_X7_isSheet x1 σ) fun q411 =>
  (if q411 = 0 then (some ((-2), σ))
  else (Option.bind (fn_X7_in x2 0 2 σ) fun q412 =>
  (if q412 = 0 then (some ((-2), σ))
  else (Option.bind (fn_X7_lacks x1 x2 x3 σ) fun q413 =>
  (if q413 ≤ 0 then (Option.bind (fn_X7_keep x1 x3 x4 σ) fun q414 =>
  (some (1, q414)))
  else (Option.bind (fn_X7_meets q413 σ) fun q415 =>
  (some (q415.1, q415.2)))))))))
set_option maxRecDepth 20000 in
set_option maxHeartbeats 4000000 in
theorem im_X7_put (x1 : Int32) (x2 : Int32) (x3 : Int32) (x4 : Int32) (σ : Sg) : Im yX7_put mX7_put 2 45 jW [.ref 53, .int x1, .int x2, .int x3, .int x4] σ (fn_X7_put x1 x2 x3 x4 σ) := by
  refine Im.of (by decide +kernel) rfl rfl (Nat.le_of_ble_eq_true rfl) ?_
  show Ev mX7_put 2 45 jW 0 [(0, .ref 53), (1, .int x1), (2, .int x2), (3, .int x3), (4, .int x4)] [] σ (fn_X7_put x1 x2 x3 x4 σ)
  unfold fn_X7_put
  refine ev_iload_n (pc := 0) (i := 1) 1 dX7_put_0 rfl rfl ?_
  refine ev_sI (pc := 1) (as := [.int x1]) (rest := []) ⟨127, ms_X7_isSheet, ag_ml_X7_127, rfl, (Nat.le_of_ble_eq_true rfl), ⟨(Nat.le_of_ble_eq_true rfl), (Nat.le_of_ble_eq_true rfl)⟩, dX7_put_1⟩ (im_X7_isSheet x1 σ) (fun q411 => ?_)
  refine ev_if_eq (pc := 4) (tgt := 16) dX7_put_4 rfl ?_ ?_
  · refine ev_bipush (pc := 16) (v := (-2)) dX7_put_16 (by decide) ?_
    exact ev_irW rfl dX7_put_18
  · refine ev_iload_n (pc := 7) (i := 2) 2 dX7_put_7 rfl rfl ?_
    refine ev_iconst (pc := 8) (v := 0) dX7_put_8 (by decide) ?_
    refine ev_iconst (pc := 9) (v := 2) dX7_put_9 (by decide) ?_
    refine ev_sI (pc := 10) (as := [.int x2, .int 0, .int 2]) (rest := []) ⟨85, ms_X7_in, ag_ml_X7_85, rfl, (Nat.le_of_ble_eq_true rfl), ⟨(Nat.le_of_ble_eq_true rfl), (Nat.le_of_ble_eq_true rfl)⟩, dX7_put_10⟩ (im_X7_in x2 0 2 σ) (fun q412 => ?_)
    refine ev_if_ne (pc := 13) (tgt := 19) dX7_put_13 rfl ?_ ?_
    · refine ev_bipush (pc := 16) (v := (-2)) dX7_put_16 (by decide) ?_
      exact ev_irW rfl dX7_put_18
    · refine ev_aload_n (pc := 19) (i := 0) 0 dX7_put_19 rfl rfl ?_
      refine ev_iload_n (pc := 20) (i := 1) 1 dX7_put_20 rfl rfl ?_
      refine ev_iload_n (pc := 21) (i := 2) 2 dX7_put_21 rfl rfl ?_
      refine ev_iload_n (pc := 22) (i := 3) 3 dX7_put_22 rfl rfl ?_
      refine ev_vI (pc := 23) (as := [.int x1, .int x2, .int x3]) (rest := []) ⟨7, 272, 37, TX7, tyX7, ag_C7, ⟨(rfl), (by decide)⟩, mv_X7_lacks, ag_ml_X7_272, rfl, (Nat.le_of_ble_eq_true rfl), ⟨(Nat.le_of_ble_eq_true rfl), (Nat.le_of_ble_eq_true rfl)⟩, dX7_put_23⟩ (im_X7_lacks x1 x2 x3 σ) (fun q413 => ?_)
      refine ev_istore (pc := 26) (lv' := [(5, .int q413), (0, .ref 53), (1, .int x1), (2, .int x2), (3, .int x3), (4, .int x4)]) dX7_put_26 (Nat.le_of_ble_eq_true rfl) rfl ?_
      refine ev_iload (pc := 28) 0 dX7_put_28 rfl ?_
      refine ev_if_le (pc := 30) (tgt := 40) dX7_put_30 rfl ?_ ?_
      · refine ev_aload_n (pc := 40) (i := 0) 1 dX7_put_40 rfl rfl ?_
        refine ev_iload_n (pc := 41) (i := 1) 2 dX7_put_41 rfl rfl ?_
        refine ev_iload_n (pc := 42) (i := 3) 4 dX7_put_42 rfl rfl ?_
        refine ev_iload (pc := 43) 5 dX7_put_43 rfl ?_
        refine ev_vV (pc := 45) (as := [.int x1, .int x3, .int x4]) (rest := []) ⟨7, 275, 37, TX7, tyX7, ag_C7, ⟨(rfl), (by decide)⟩, mv_X7_keep, ag_ml_X7_275, rfl, (Nat.le_of_ble_eq_true rfl), ⟨(Nat.le_of_ble_eq_true rfl), (Nat.le_of_ble_eq_true rfl)⟩, dX7_put_45⟩ (im_X7_keep x1 x3 x4 σ) (fun q414 => ?_)
        refine ev_iconst (pc := 48) (v := 1) dX7_put_48 (by decide) ?_
        exact ev_irW rfl dX7_put_49
      · refine ev_aload_n (pc := 33) (i := 0) 1 dX7_put_33 rfl rfl ?_
        refine ev_iload (pc := 34) 0 dX7_put_34 rfl ?_
        refine ev_vW (pc := 36) (as := [.int q413]) (rest := []) ⟨7, 130, 37, TX7, tyX7, ag_C7, ⟨(rfl), (by decide)⟩, mv_X7_meets, ag_ml_X7_130, rfl, (Nat.le_of_ble_eq_true rfl), ⟨(Nat.le_of_ble_eq_true rfl), (Nat.le_of_ble_eq_true rfl)⟩, dX7_put_36⟩ (im_X7_meets q413 σ) (fun q415 => ?_)
        exact ev_irW rfl dX7_put_39
-- X7_get
def mX7_get : Md := (RX7, cX7_get, 5, some .int, none)
theorem mv_X7_get : ag_Mv yX7_get mX7_get 3 := ⟨ag_co_X7_get, ag_im_X7_get, ag_se_X7_get, ag_ini_X7, by decide +kernel⟩
theorem dX7_get_0 : decode mX7_get.2.1 0 = .ok (.iload_n 1, 1) := by decide +kernel
theorem dX7_get_1 : decode mX7_get.2.1 1 = .ok (.invokestatic 127, 3) := by decide +kernel
theorem dX7_get_4 : decode mX7_get.2.1 4 = .ok (.ifCond .eq 12, 3) := by decide +kernel
theorem dX7_get_7 : decode mX7_get.2.1 7 = .ok (.iload_n 2, 1) := by decide +kernel
theorem dX7_get_8 : decode mX7_get.2.1 8 = .ok (.iconst 0, 1) := by decide +kernel
theorem dX7_get_9 : decode mX7_get.2.1 9 = .ok (.iconst 2, 1) := by decide +kernel
theorem dX7_get_10 : decode mX7_get.2.1 10 = .ok (.invokestatic 85, 3) := by decide +kernel
theorem dX7_get_13 : decode mX7_get.2.1 13 = .ok (.ifCond .ne 7, 3) := by decide +kernel
theorem dX7_get_16 : decode mX7_get.2.1 16 = .ok (.ldc_w 279, 3) := by decide +kernel
theorem dX7_get_19 : decode mX7_get.2.1 19 = .ok (.ireturn, 1) := by decide +kernel
theorem dX7_get_20 : decode mX7_get.2.1 20 = .ok (.aload_n 0, 1) := by decide +kernel
theorem dX7_get_21 : decode mX7_get.2.1 21 = .ok (.iload_n 1, 1) := by decide +kernel
theorem dX7_get_22 : decode mX7_get.2.1 22 = .ok (.iload_n 2, 1) := by decide +kernel
theorem dX7_get_23 : decode mX7_get.2.1 23 = .ok (.iload_n 3, 1) := by decide +kernel
theorem dX7_get_24 : decode mX7_get.2.1 24 = .ok (.invokevirtual 272, 3) := by decide +kernel
theorem dX7_get_27 : decode mX7_get.2.1 27 = .ok (.istore 4, 2) := by decide +kernel
theorem dX7_get_29 : decode mX7_get.2.1 29 = .ok (.iload 4, 2) := by decide +kernel
theorem dX7_get_31 : decode mX7_get.2.1 31 = .ok (.ifCond .le 13, 3) := by decide +kernel
theorem dX7_get_34 : decode mX7_get.2.1 34 = .ok (.aload_n 0, 1) := by decide +kernel
theorem dX7_get_35 : decode mX7_get.2.1 35 = .ok (.iload 4, 2) := by decide +kernel
theorem dX7_get_37 : decode mX7_get.2.1 37 = .ok (.putfield 269, 3) := by decide +kernel
theorem dX7_get_40 : decode mX7_get.2.1 40 = .ok (.ldc_w 279, 3) := by decide +kernel
theorem dX7_get_43 : decode mX7_get.2.1 43 = .ok (.ireturn, 1) := by decide +kernel
theorem dX7_get_44 : decode mX7_get.2.1 44 = .ok (.aload_n 0, 1) := by decide +kernel
theorem dX7_get_45 : decode mX7_get.2.1 45 = .ok (.getfield 74, 3) := by decide +kernel
theorem dX7_get_48 : decode mX7_get.2.1 48 = .ok (.bipush 48, 2) := by decide +kernel
theorem dX7_get_50 : decode mX7_get.2.1 50 = .ok (.iload_n 1, 1) := by decide +kernel
theorem dX7_get_51 : decode mX7_get.2.1 51 = .ok (.imul, 1) := by decide +kernel
theorem dX7_get_52 : decode mX7_get.2.1 52 = .ok (.iload_n 3, 1) := by decide +kernel
theorem dX7_get_53 : decode mX7_get.2.1 53 = .ok (.iadd, 1) := by decide +kernel
theorem dX7_get_54 : decode mX7_get.2.1 54 = .ok (.iaload, 1) := by decide +kernel
theorem dX7_get_55 : decode mX7_get.2.1 55 = .ok (.ireturn, 1) := by decide +kernel
def fn_X7_get_b16 (x1 : Int32) (x2 : Int32) (x3 : Int32)   (σ : Sg) : Option (Int32 × Sg) :=
  (some ((-2147483648), σ))
set_option maxRecDepth 20000 in
set_option maxHeartbeats 4000000 in
theorem ev_X7_get_b16 (x1 : Int32) (x2 : Int32) (x3 : Int32)   (σ : Sg) : Ev mX7_get 2 45 jW 16 [(0, .ref 53), (1, .int x1), (2, .int x2), (3, .int x3)] [] σ (fn_X7_get_b16 x1 x2 x3  σ) := by
  unfold fn_X7_get_b16
  refine ev_ldcw (pc := 16) (v := (-2147483648)) dX7_get_16 ag_kc_X7_279 ?_
  exact ev_irW rfl dX7_get_19
def fn_X7_get (x1 : Int32) (x2 : Int32) (x3 : Int32) (σ : Sg) : Option (Int32 × Sg) :=
  (Option.bind (fn_X7_isSheet x1 σ) fun q416 =>
  (if q416 = 0 then (fn_X7_get_b16 x1 x2 x3 σ)
  else (Option.bind (fn_X7_in x2 0 2 σ) fun q417 =>
  (if q417 = 0 then (fn_X7_get_b16 x1 x2 x3 σ)
  else (Option.bind (fn_X7_lacks x1 x2 x3 σ) fun q418 =>
  (if q418 ≤ 0 then (if ag_ib ((48 * x1) + x3) 192 = true then (some ((σ 75 ((48 * x1) + x3).toNatClampNeg), σ)) else none)
  else (some ((-2147483648), (ag_up σ 53 36 q418)))))))))
set_option maxRecDepth 20000 in
set_option maxHeartbeats 4000000 in
theorem im_X7_get (x1 : Int32) (x2 : Int32) (x3 : Int32) (σ : Sg) : Im yX7_get mX7_get 2 45 jW [.ref 53, .int x1, .int x2, .int x3] σ (fn_X7_get x1 x2 x3 σ) := by
  refine Im.of (by decide +kernel) rfl rfl (Nat.le_of_ble_eq_true rfl) ?_
  show Ev mX7_get 2 45 jW 0 [(0, .ref 53), (1, .int x1), (2, .int x2), (3, .int x3)] [] σ (fn_X7_get x1 x2 x3 σ)
  unfold fn_X7_get
  refine ev_iload_n (pc := 0) (i := 1) 1 dX7_get_0 rfl rfl ?_
  refine ev_sI (pc := 1) (as := [.int x1]) (rest := []) ⟨127, ms_X7_isSheet, ag_ml_X7_127, rfl, (Nat.le_of_ble_eq_true rfl), ⟨(Nat.le_of_ble_eq_true rfl), (Nat.le_of_ble_eq_true rfl)⟩, dX7_get_1⟩ (im_X7_isSheet x1 σ) (fun q416 => ?_)
  refine ev_if_eq (pc := 4) (tgt := 16) dX7_get_4 rfl ?_ ?_
  · exact ev_X7_get_b16 x1 x2 x3 σ
  · refine ev_iload_n (pc := 7) (i := 2) 2 dX7_get_7 rfl rfl ?_
    refine ev_iconst (pc := 8) (v := 0) dX7_get_8 (by decide) ?_
    refine ev_iconst (pc := 9) (v := 2) dX7_get_9 (by decide) ?_
    refine ev_sI (pc := 10) (as := [.int x2, .int 0, .int 2]) (rest := []) ⟨85, ms_X7_in, ag_ml_X7_85, rfl, (Nat.le_of_ble_eq_true rfl), ⟨(Nat.le_of_ble_eq_true rfl), (Nat.le_of_ble_eq_true rfl)⟩, dX7_get_10⟩ (im_X7_in x2 0 2 σ) (fun q417 => ?_)
    refine ev_if_ne (pc := 13) (tgt := 20) dX7_get_13 rfl ?_ ?_
    · exact ev_X7_get_b16 x1 x2 x3 σ
    · refine ev_aload_n (pc := 20) (i := 0) 0 dX7_get_20 rfl rfl ?_
      refine ev_iload_n (pc := 21) (i := 1) 1 dX7_get_21 rfl rfl ?_
      refine ev_iload_n (pc := 22) (i := 2) 2 dX7_get_22 rfl rfl ?_
      refine ev_iload_n (pc := 23) (i := 3) 3 dX7_get_23 rfl rfl ?_
      refine ev_vI (pc := 24) (as := [.int x1, .int x2, .int x3]) (rest := []) ⟨7, 272, 37, TX7, tyX7, ag_C7, ⟨(rfl), (by decide)⟩, mv_X7_lacks, ag_ml_X7_272, rfl, (Nat.le_of_ble_eq_true rfl), ⟨(Nat.le_of_ble_eq_true rfl), (Nat.le_of_ble_eq_true rfl)⟩, dX7_get_24⟩ (im_X7_lacks x1 x2 x3 σ) (fun q418 => ?_)
      refine ev_istore (pc := 27) (lv' := [(4, .int q418), (0, .ref 53), (1, .int x1), (2, .int x2), (3, .int x3)]) dX7_get_27 (Nat.le_of_ble_eq_true rfl) rfl ?_
      refine ev_iload (pc := 29) 0 dX7_get_29 rfl ?_
      refine ev_if_le (pc := 31) (tgt := 44) dX7_get_31 rfl ?_ ?_
      · refine ev_aload_n (pc := 44) (i := 0) 1 dX7_get_44 rfl rfl ?_
        refine ev_getR (pc := 45) (t := 75) 34 ag_C7 (rfl) (by decide) (Nat.le_of_ble_eq_true rfl) rfl rfl ag_fl_X7_74 dX7_get_45 ?_
        refine ev_bipush (pc := 48) (v := 48) dX7_get_48 (by decide) ?_
        refine ev_iload_n (pc := 50) (i := 1) 2 dX7_get_50 rfl rfl ?_
        refine ev_imul (pc := 51) dX7_get_51 ?_
        refine ev_iload_n (pc := 52) (i := 3) 4 dX7_get_52 rfl rfl ?_
        refine ev_iadd (pc := 53) dX7_get_53 ?_
        refine ev_iald (pc := 54) (rfl) (by decide) dX7_get_54 ?_
        exact ev_irW rfl dX7_get_55
      · refine ev_aload_n (pc := 34) (i := 0) 1 dX7_get_34 rfl rfl ?_
        refine ev_iload (pc := 35) 0 dX7_get_35 rfl ?_
        refine ev_put (pc := 37) 36 ag_C7 (rfl) (by decide) (Nat.le_of_ble_eq_true rfl) rfl rfl ag_fl_X7_269 rfl rfl rfl dX7_get_37 ?_
        refine ev_ldcw (pc := 40) (v := (-2147483648)) dX7_get_40 ag_kc_X7_279 ?_
        exact ev_irW rfl dX7_get_43
-- X7_copy
def mX7_copy : Md := (RX7, cX7_copy, 7, some .int, none)
theorem mv_X7_copy : ag_Mv yX7_copy mX7_copy 5 := ⟨ag_co_X7_copy, ag_im_X7_copy, ag_se_X7_copy, ag_ini_X7, by decide +kernel⟩
theorem dX7_copy_0 : decode mX7_copy.2.1 0 = .ok (.iload_n 1, 1) := by decide +kernel
theorem dX7_copy_1 : decode mX7_copy.2.1 1 = .ok (.invokestatic 127, 3) := by decide +kernel
theorem dX7_copy_4 : decode mX7_copy.2.1 4 = .ok (.ifCond .eq 10, 3) := by decide +kernel
theorem dX7_copy_7 : decode mX7_copy.2.1 7 = .ok (.iload_n 3, 1) := by decide +kernel
theorem dX7_copy_8 : decode mX7_copy.2.1 8 = .ok (.invokestatic 127, 3) := by decide +kernel
theorem dX7_copy_11 : decode mX7_copy.2.1 11 = .ok (.ifCond .ne 6, 3) := by decide +kernel
theorem dX7_copy_14 : decode mX7_copy.2.1 14 = .ok (.bipush (-2), 2) := by decide +kernel
theorem dX7_copy_16 : decode mX7_copy.2.1 16 = .ok (.ireturn, 1) := by decide +kernel
theorem dX7_copy_17 : decode mX7_copy.2.1 17 = .ok (.aload_n 0, 1) := by decide +kernel
theorem dX7_copy_18 : decode mX7_copy.2.1 18 = .ok (.getfield 64, 3) := by decide +kernel
theorem dX7_copy_21 : decode mX7_copy.2.1 21 = .ok (.iload_n 1, 1) := by decide +kernel
theorem dX7_copy_22 : decode mX7_copy.2.1 22 = .ok (.baload, 1) := by decide +kernel
theorem dX7_copy_23 : decode mX7_copy.2.1 23 = .ok (.ifCond .eq 12, 3) := by decide +kernel
theorem dX7_copy_26 : decode mX7_copy.2.1 26 = .ok (.aload_n 0, 1) := by decide +kernel
theorem dX7_copy_27 : decode mX7_copy.2.1 27 = .ok (.getfield 64, 3) := by decide +kernel
theorem dX7_copy_30 : decode mX7_copy.2.1 30 = .ok (.iload_n 3, 1) := by decide +kernel
theorem dX7_copy_31 : decode mX7_copy.2.1 31 = .ok (.baload, 1) := by decide +kernel
theorem dX7_copy_32 : decode mX7_copy.2.1 32 = .ok (.ifCond .ne 9, 3) := by decide +kernel
theorem dX7_copy_35 : decode mX7_copy.2.1 35 = .ok (.aload_n 0, 1) := by decide +kernel
theorem dX7_copy_36 : decode mX7_copy.2.1 36 = .ok (.iconst 1, 1) := by decide +kernel
theorem dX7_copy_37 : decode mX7_copy.2.1 37 = .ok (.invokevirtual 130, 3) := by decide +kernel
theorem dX7_copy_40 : decode mX7_copy.2.1 40 = .ok (.ireturn, 1) := by decide +kernel
theorem dX7_copy_41 : decode mX7_copy.2.1 41 = .ok (.aload_n 0, 1) := by decide +kernel
theorem dX7_copy_42 : decode mX7_copy.2.1 42 = .ok (.getfield 68, 3) := by decide +kernel
theorem dX7_copy_45 : decode mX7_copy.2.1 45 = .ok (.iload_n 1, 1) := by decide +kernel
theorem dX7_copy_46 : decode mX7_copy.2.1 46 = .ok (.iaload, 1) := by decide +kernel
theorem dX7_copy_47 : decode mX7_copy.2.1 47 = .ok (.aload_n 0, 1) := by decide +kernel
theorem dX7_copy_48 : decode mX7_copy.2.1 48 = .ok (.getfield 68, 3) := by decide +kernel
theorem dX7_copy_51 : decode mX7_copy.2.1 51 = .ok (.iload_n 3, 1) := by decide +kernel
theorem dX7_copy_52 : decode mX7_copy.2.1 52 = .ok (.iaload, 1) := by decide +kernel
theorem dX7_copy_53 : decode mX7_copy.2.1 53 = .ok (.if_icmp .eq 9, 3) := by decide +kernel
theorem dX7_copy_56 : decode mX7_copy.2.1 56 = .ok (.aload_n 0, 1) := by decide +kernel
theorem dX7_copy_57 : decode mX7_copy.2.1 57 = .ok (.iconst 4, 1) := by decide +kernel
theorem dX7_copy_58 : decode mX7_copy.2.1 58 = .ok (.invokevirtual 130, 3) := by decide +kernel
theorem dX7_copy_61 : decode mX7_copy.2.1 61 = .ok (.ireturn, 1) := by decide +kernel
theorem dX7_copy_62 : decode mX7_copy.2.1 62 = .ok (.iload_n 2, 1) := by decide +kernel
theorem dX7_copy_63 : decode mX7_copy.2.1 63 = .ok (.ifCond .lt 48, 3) := by decide +kernel
theorem dX7_copy_66 : decode mX7_copy.2.1 66 = .ok (.iload 4, 2) := by decide +kernel
theorem dX7_copy_68 : decode mX7_copy.2.1 68 = .ok (.ifCond .lt 43, 3) := by decide +kernel
theorem dX7_copy_71 : decode mX7_copy.2.1 71 = .ok (.iload 5, 2) := by decide +kernel
theorem dX7_copy_73 : decode mX7_copy.2.1 73 = .ok (.ifCond .lt 38, 3) := by decide +kernel
theorem dX7_copy_76 : decode mX7_copy.2.1 76 = .ok (.iload_n 2, 1) := by decide +kernel
theorem dX7_copy_77 : decode mX7_copy.2.1 77 = .ok (.i2l, 1) := by decide +kernel
theorem dX7_copy_78 : decode mX7_copy.2.1 78 = .ok (.iload 5, 2) := by decide +kernel
theorem dX7_copy_80 : decode mX7_copy.2.1 80 = .ok (.i2l, 1) := by decide +kernel
theorem dX7_copy_81 : decode mX7_copy.2.1 81 = .ok (.ladd, 1) := by decide +kernel
theorem dX7_copy_82 : decode mX7_copy.2.1 82 = .ok (.aload_n 0, 1) := by decide +kernel
theorem dX7_copy_83 : decode mX7_copy.2.1 83 = .ok (.getfield 71, 3) := by decide +kernel
theorem dX7_copy_86 : decode mX7_copy.2.1 86 = .ok (.iload_n 1, 1) := by decide +kernel
theorem dX7_copy_87 : decode mX7_copy.2.1 87 = .ok (.iaload, 1) := by decide +kernel
theorem dX7_copy_88 : decode mX7_copy.2.1 88 = .ok (.i2l, 1) := by decide +kernel
theorem dX7_copy_89 : decode mX7_copy.2.1 89 = .ok (.lcmp, 1) := by decide +kernel
theorem dX7_copy_90 : decode mX7_copy.2.1 90 = .ok (.ifCond .gt 21, 3) := by decide +kernel
theorem dX7_copy_93 : decode mX7_copy.2.1 93 = .ok (.iload 4, 2) := by decide +kernel
theorem dX7_copy_95 : decode mX7_copy.2.1 95 = .ok (.i2l, 1) := by decide +kernel
theorem dX7_copy_96 : decode mX7_copy.2.1 96 = .ok (.iload 5, 2) := by decide +kernel
theorem dX7_copy_98 : decode mX7_copy.2.1 98 = .ok (.i2l, 1) := by decide +kernel
theorem dX7_copy_99 : decode mX7_copy.2.1 99 = .ok (.ladd, 1) := by decide +kernel
theorem dX7_copy_100 : decode mX7_copy.2.1 100 = .ok (.aload_n 0, 1) := by decide +kernel
theorem dX7_copy_101 : decode mX7_copy.2.1 101 = .ok (.getfield 71, 3) := by decide +kernel
theorem dX7_copy_104 : decode mX7_copy.2.1 104 = .ok (.iload_n 3, 1) := by decide +kernel
theorem dX7_copy_105 : decode mX7_copy.2.1 105 = .ok (.iaload, 1) := by decide +kernel
theorem dX7_copy_106 : decode mX7_copy.2.1 106 = .ok (.i2l, 1) := by decide +kernel
theorem dX7_copy_107 : decode mX7_copy.2.1 107 = .ok (.lcmp, 1) := by decide +kernel
theorem dX7_copy_108 : decode mX7_copy.2.1 108 = .ok (.ifCond .le 9, 3) := by decide +kernel
theorem dX7_copy_111 : decode mX7_copy.2.1 111 = .ok (.aload_n 0, 1) := by decide +kernel
theorem dX7_copy_112 : decode mX7_copy.2.1 112 = .ok (.iconst 2, 1) := by decide +kernel
theorem dX7_copy_113 : decode mX7_copy.2.1 113 = .ok (.invokevirtual 130, 3) := by decide +kernel
theorem dX7_copy_116 : decode mX7_copy.2.1 116 = .ok (.ireturn, 1) := by decide +kernel
theorem dX7_copy_117 : decode mX7_copy.2.1 117 = .ok (.iconst 0, 1) := by decide +kernel
theorem dX7_copy_118 : decode mX7_copy.2.1 118 = .ok (.istore 6, 2) := by decide +kernel
theorem dX7_copy_120 : decode mX7_copy.2.1 120 = .ok (.iload 6, 2) := by decide +kernel
theorem dX7_copy_122 : decode mX7_copy.2.1 122 = .ok (.iload 5, 2) := by decide +kernel
theorem dX7_copy_124 : decode mX7_copy.2.1 124 = .ok (.if_icmp .ge 30, 3) := by decide +kernel
theorem dX7_copy_127 : decode mX7_copy.2.1 127 = .ok (.aload_n 0, 1) := by decide +kernel
theorem dX7_copy_128 : decode mX7_copy.2.1 128 = .ok (.getfield 77, 3) := by decide +kernel
theorem dX7_copy_131 : decode mX7_copy.2.1 131 = .ok (.iload 6, 2) := by decide +kernel
theorem dX7_copy_133 : decode mX7_copy.2.1 133 = .ok (.aload_n 0, 1) := by decide +kernel
theorem dX7_copy_134 : decode mX7_copy.2.1 134 = .ok (.getfield 74, 3) := by decide +kernel
theorem dX7_copy_137 : decode mX7_copy.2.1 137 = .ok (.bipush 48, 2) := by decide +kernel
theorem dX7_copy_139 : decode mX7_copy.2.1 139 = .ok (.iload_n 1, 1) := by decide +kernel
theorem dX7_copy_140 : decode mX7_copy.2.1 140 = .ok (.imul, 1) := by decide +kernel
theorem dX7_copy_141 : decode mX7_copy.2.1 141 = .ok (.iload_n 2, 1) := by decide +kernel
theorem dX7_copy_142 : decode mX7_copy.2.1 142 = .ok (.iadd, 1) := by decide +kernel
theorem dX7_copy_143 : decode mX7_copy.2.1 143 = .ok (.iload 6, 2) := by decide +kernel
theorem dX7_copy_145 : decode mX7_copy.2.1 145 = .ok (.iadd, 1) := by decide +kernel
theorem dX7_copy_146 : decode mX7_copy.2.1 146 = .ok (.iaload, 1) := by decide +kernel
theorem dX7_copy_147 : decode mX7_copy.2.1 147 = .ok (.iastore, 1) := by decide +kernel
theorem dX7_copy_148 : decode mX7_copy.2.1 148 = .ok (.iinc 6 1, 3) := by decide +kernel
theorem dX7_copy_151 : decode mX7_copy.2.1 151 = .ok (.goto (-31), 3) := by decide +kernel
theorem dX7_copy_154 : decode mX7_copy.2.1 154 = .ok (.iconst 0, 1) := by decide +kernel
theorem dX7_copy_155 : decode mX7_copy.2.1 155 = .ok (.istore 6, 2) := by decide +kernel
theorem dX7_copy_157 : decode mX7_copy.2.1 157 = .ok (.iload 6, 2) := by decide +kernel
theorem dX7_copy_159 : decode mX7_copy.2.1 159 = .ok (.iload 5, 2) := by decide +kernel
theorem dX7_copy_161 : decode mX7_copy.2.1 161 = .ok (.if_icmp .ge 31, 3) := by decide +kernel
theorem dX7_copy_164 : decode mX7_copy.2.1 164 = .ok (.aload_n 0, 1) := by decide +kernel
theorem dX7_copy_165 : decode mX7_copy.2.1 165 = .ok (.getfield 74, 3) := by decide +kernel
theorem dX7_copy_168 : decode mX7_copy.2.1 168 = .ok (.bipush 48, 2) := by decide +kernel
theorem dX7_copy_170 : decode mX7_copy.2.1 170 = .ok (.iload_n 3, 1) := by decide +kernel
theorem dX7_copy_171 : decode mX7_copy.2.1 171 = .ok (.imul, 1) := by decide +kernel
theorem dX7_copy_172 : decode mX7_copy.2.1 172 = .ok (.iload 4, 2) := by decide +kernel
theorem dX7_copy_174 : decode mX7_copy.2.1 174 = .ok (.iadd, 1) := by decide +kernel
theorem dX7_copy_175 : decode mX7_copy.2.1 175 = .ok (.iload 6, 2) := by decide +kernel
theorem dX7_copy_177 : decode mX7_copy.2.1 177 = .ok (.iadd, 1) := by decide +kernel
theorem dX7_copy_178 : decode mX7_copy.2.1 178 = .ok (.aload_n 0, 1) := by decide +kernel
theorem dX7_copy_179 : decode mX7_copy.2.1 179 = .ok (.getfield 77, 3) := by decide +kernel
theorem dX7_copy_182 : decode mX7_copy.2.1 182 = .ok (.iload 6, 2) := by decide +kernel
theorem dX7_copy_184 : decode mX7_copy.2.1 184 = .ok (.iaload, 1) := by decide +kernel
theorem dX7_copy_185 : decode mX7_copy.2.1 185 = .ok (.iastore, 1) := by decide +kernel
theorem dX7_copy_186 : decode mX7_copy.2.1 186 = .ok (.iinc 6 1, 3) := by decide +kernel
theorem dX7_copy_189 : decode mX7_copy.2.1 189 = .ok (.goto (-32), 3) := by decide +kernel
theorem dX7_copy_192 : decode mX7_copy.2.1 192 = .ok (.iconst 1, 1) := by decide +kernel
theorem dX7_copy_193 : decode mX7_copy.2.1 193 = .ok (.ireturn, 1) := by decide +kernel
def fn_X7_copy_b157 (n : Nat) (x1 : Int32) (x2 : Int32) (x3 : Int32) (x4 : Int32) (x5 : Int32)  : Nat → Int32 → Sg → Option (Int32 × Sg)
  | 0 => fun _ _ => none
  | i + 1 => fun v6 σ =>
  (if x5 ≤ v6 then (some (1, σ))
  else (if ag_ib v6 48 = true then (if ag_ib (((48 * x3) + x4) + v6) 192 = true then ((fn_X7_copy_b157 n x1 x2 x3 x4 x5 i) (v6 + 1) (ag_up σ 75 (((48 * x3) + x4) + v6).toNatClampNeg (σ 76 v6.toNatClampNeg))) else none) else none))
theorem fn_X7_copy_b157_s (n : Nat) (x1 : Int32) (x2 : Int32) (x3 : Int32) (x4 : Int32) (x5 : Int32)  (i : Nat) (v6 : Int32) (σ : Sg) : fn_X7_copy_b157 n x1 x2 x3 x4 x5 (i + 1) v6 σ =
  (if x5 ≤ v6 then (some (1, σ))
  else (if ag_ib v6 48 = true then (if ag_ib (((48 * x3) + x4) + v6) 192 = true then ((fn_X7_copy_b157 n x1 x2 x3 x4 x5 i) (v6 + 1) (ag_up σ 75 (((48 * x3) + x4) + v6).toNatClampNeg (σ 76 v6.toNatClampNeg))) else none) else none)) := rfl
set_option maxRecDepth 20000 in
set_option maxHeartbeats 4000000 in
theorem ev_X7_copy_b157 (n : Nat) (x1 : Int32) (x2 : Int32) (x3 : Int32) (x4 : Int32) (x5 : Int32)  : ∀ (i : Nat) (v6 : Int32) (σ : Sg), Ev mX7_copy 2 42 jW 157 [(0, .ref 53), (1, .int x1), (2, .int x2), (3, .int x3), (4, .int x4), (5, .int x5), (6, .int v6)] [] σ (fn_X7_copy_b157 n x1 x2 x3 x4 x5 i v6 σ) := by
  intro i
  induction i with
  | zero =>
    intro v6 σ
    exact ev_none
  | succ i ih =>
    intro v6 σ
    rw [fn_X7_copy_b157_s]
    refine ev_iload (pc := 157) 6 dX7_copy_157 rfl ?_
    refine ev_iload (pc := 159) 5 dX7_copy_159 rfl ?_
    refine ev_icmp_ge (pc := 161) (tgt := 192) dX7_copy_161 rfl ?_ ?_
    · refine ev_iconst (pc := 192) (v := 1) dX7_copy_192 (by decide) ?_
      exact ev_irW rfl dX7_copy_193
    · refine ev_aload_n (pc := 164) (i := 0) 0 dX7_copy_164 rfl rfl ?_
      refine ev_getR (pc := 165) (t := 75) 34 ag_C7 (rfl) (by decide) (Nat.le_of_ble_eq_true rfl) rfl rfl ag_fl_X7_74 dX7_copy_165 ?_
      refine ev_bipush (pc := 168) (v := 48) dX7_copy_168 (by decide) ?_
      refine ev_iload_n (pc := 170) (i := 3) 3 dX7_copy_170 rfl rfl ?_
      refine ev_imul (pc := 171) dX7_copy_171 ?_
      refine ev_iload (pc := 172) 4 dX7_copy_172 rfl ?_
      refine ev_iadd (pc := 174) dX7_copy_174 ?_
      refine ev_iload (pc := 175) 6 dX7_copy_175 rfl ?_
      refine ev_iadd (pc := 177) dX7_copy_177 ?_
      refine ev_aload_n (pc := 178) (i := 0) 0 dX7_copy_178 rfl rfl ?_
      refine ev_getR (pc := 179) (t := 76) 35 ag_C7 (rfl) (by decide) (Nat.le_of_ble_eq_true rfl) rfl rfl ag_fl_X7_77 dX7_copy_179 ?_
      refine ev_iload (pc := 182) 6 dX7_copy_182 rfl ?_
      refine ev_iald (pc := 184) (rfl) (by decide) dX7_copy_184 ?_
      refine ev_iast (pc := 185) (rfl) (by decide) dX7_copy_185 ?_
      refine ev_iinc (pc := 186) (v := (v6 + 1)) (lv' := [(6, .int (v6 + 1)), (0, .ref 53), (1, .int x1), (2, .int x2), (3, .int x3), (4, .int x4), (5, .int x5)]) 6 dX7_copy_186 rfl rfl (Nat.le_of_ble_eq_true rfl) rfl ?_
      refine ev_goto (pc := 189) (tgt := 157) dX7_copy_189 rfl ?_
      refine ev_sub [1, 2, 3, 4, 5, 6, 0] rfl ?_
      exact ih (v6 + 1) (ag_up σ 75 (((48 * x3) + x4) + v6).toNatClampNeg (σ 76 v6.toNatClampNeg))
def fn_X7_copy_b120 (n : Nat) (x1 : Int32) (x2 : Int32) (x3 : Int32) (x4 : Int32) (x5 : Int32)  : Nat → Int32 → Sg → Option (Int32 × Sg)
  | 0 => fun _ _ => none
  | i + 1 => fun v6 σ =>
  (if x5 ≤ v6 then (fn_X7_copy_b157 n x1 x2 x3 x4 x5 n 0 σ)
  else (if ag_ib (((48 * x1) + x2) + v6) 192 = true then (if ag_ib v6 48 = true then ((fn_X7_copy_b120 n x1 x2 x3 x4 x5 i) (v6 + 1) (ag_up σ 76 v6.toNatClampNeg (σ 75 (((48 * x1) + x2) + v6).toNatClampNeg))) else none) else none))
theorem fn_X7_copy_b120_s (n : Nat) (x1 : Int32) (x2 : Int32) (x3 : Int32) (x4 : Int32) (x5 : Int32)  (i : Nat) (v6 : Int32) (σ : Sg) : fn_X7_copy_b120 n x1 x2 x3 x4 x5 (i + 1) v6 σ =
  (if x5 ≤ v6 then (fn_X7_copy_b157 n x1 x2 x3 x4 x5 n 0 σ)
  else (if ag_ib (((48 * x1) + x2) + v6) 192 = true then (if ag_ib v6 48 = true then ((fn_X7_copy_b120 n x1 x2 x3 x4 x5 i) (v6 + 1) (ag_up σ 76 v6.toNatClampNeg (σ 75 (((48 * x1) + x2) + v6).toNatClampNeg))) else none) else none)) := rfl
set_option maxRecDepth 20000 in
set_option maxHeartbeats 4000000 in
theorem ev_X7_copy_b120 (n : Nat) (x1 : Int32) (x2 : Int32) (x3 : Int32) (x4 : Int32) (x5 : Int32)  : ∀ (i : Nat) (v6 : Int32) (σ : Sg), Ev mX7_copy 2 42 jW 120 [(0, .ref 53), (1, .int x1), (2, .int x2), (3, .int x3), (4, .int x4), (5, .int x5), (6, .int v6)] [] σ (fn_X7_copy_b120 n x1 x2 x3 x4 x5 i v6 σ) := by
  intro i
  induction i with
  | zero =>
    intro v6 σ
    exact ev_none
  | succ i ih =>
    intro v6 σ
    rw [fn_X7_copy_b120_s]
    refine ev_iload (pc := 120) 6 dX7_copy_120 rfl ?_
    refine ev_iload (pc := 122) 5 dX7_copy_122 rfl ?_
    refine ev_icmp_ge (pc := 124) (tgt := 154) dX7_copy_124 rfl ?_ ?_
    · refine ev_iconst (pc := 154) (v := 0) dX7_copy_154 (by decide) ?_
      refine ev_istore (pc := 155) (lv' := [(6, .int 0), (0, .ref 53), (1, .int x1), (2, .int x2), (3, .int x3), (4, .int x4), (5, .int x5)]) dX7_copy_155 (Nat.le_of_ble_eq_true rfl) rfl ?_
      refine ev_sub [1, 2, 3, 4, 5, 6, 0] rfl ?_
      exact ev_X7_copy_b157 n x1 x2 x3 x4 x5 n 0 σ
    · refine ev_aload_n (pc := 127) (i := 0) 0 dX7_copy_127 rfl rfl ?_
      refine ev_getR (pc := 128) (t := 76) 35 ag_C7 (rfl) (by decide) (Nat.le_of_ble_eq_true rfl) rfl rfl ag_fl_X7_77 dX7_copy_128 ?_
      refine ev_iload (pc := 131) 6 dX7_copy_131 rfl ?_
      refine ev_aload_n (pc := 133) (i := 0) 0 dX7_copy_133 rfl rfl ?_
      refine ev_getR (pc := 134) (t := 75) 34 ag_C7 (rfl) (by decide) (Nat.le_of_ble_eq_true rfl) rfl rfl ag_fl_X7_74 dX7_copy_134 ?_
      refine ev_bipush (pc := 137) (v := 48) dX7_copy_137 (by decide) ?_
      refine ev_iload_n (pc := 139) (i := 1) 1 dX7_copy_139 rfl rfl ?_
      refine ev_imul (pc := 140) dX7_copy_140 ?_
      refine ev_iload_n (pc := 141) (i := 2) 2 dX7_copy_141 rfl rfl ?_
      refine ev_iadd (pc := 142) dX7_copy_142 ?_
      refine ev_iload (pc := 143) 6 dX7_copy_143 rfl ?_
      refine ev_iadd (pc := 145) dX7_copy_145 ?_
      refine ev_iald (pc := 146) (rfl) (by decide) dX7_copy_146 ?_
      refine ev_iast (pc := 147) (rfl) (by decide) dX7_copy_147 ?_
      refine ev_iinc (pc := 148) (v := (v6 + 1)) (lv' := [(6, .int (v6 + 1)), (0, .ref 53), (1, .int x1), (2, .int x2), (3, .int x3), (4, .int x4), (5, .int x5)]) 6 dX7_copy_148 rfl rfl (Nat.le_of_ble_eq_true rfl) rfl ?_
      refine ev_goto (pc := 151) (tgt := 120) dX7_copy_151 rfl ?_
      refine ev_sub [1, 2, 3, 4, 5, 6, 0] rfl ?_
      exact ih (v6 + 1) (ag_up σ 76 v6.toNatClampNeg (σ 75 (((48 * x1) + x2) + v6).toNatClampNeg))
def fn_X7_copy_b111 (n : Nat) (x1 : Int32) (x2 : Int32) (x3 : Int32) (x4 : Int32) (x5 : Int32)   (σ : Sg) : Option (Int32 × Sg) :=
  (Option.bind (fn_X7_meets 2 σ) fun q419 =>
  (some (q419.1, q419.2)))
set_option maxRecDepth 20000 in
set_option maxHeartbeats 4000000 in
theorem ev_X7_copy_b111 (n : Nat) (x1 : Int32) (x2 : Int32) (x3 : Int32) (x4 : Int32) (x5 : Int32)   (σ : Sg) : Ev mX7_copy 2 42 jW 111 [(0, .ref 53), (1, .int x1), (2, .int x2), (3, .int x3), (4, .int x4), (5, .int x5)] [] σ (fn_X7_copy_b111 n x1 x2 x3 x4 x5  σ) := by
  unfold fn_X7_copy_b111
  refine ev_aload_n (pc := 111) (i := 0) 0 dX7_copy_111 rfl rfl ?_
  refine ev_iconst (pc := 112) (v := 2) dX7_copy_112 (by decide) ?_
  refine ev_vW (pc := 113) (as := [.int 2]) (rest := []) ⟨7, 130, 37, TX7, tyX7, ag_C7, ⟨(rfl), (by decide)⟩, mv_X7_meets, ag_ml_X7_130, rfl, (Nat.le_of_ble_eq_true rfl), ⟨(Nat.le_of_ble_eq_true rfl), (Nat.le_of_ble_eq_true rfl)⟩, dX7_copy_113⟩ (im_X7_meets 2 σ) (fun q419 => ?_)
  exact ev_irW rfl dX7_copy_116
def fn_X7_copy_b35 (n : Nat) (x1 : Int32) (x2 : Int32) (x3 : Int32) (x4 : Int32) (x5 : Int32)   (σ : Sg) : Option (Int32 × Sg) :=
  (Option.bind (fn_X7_meets 1 σ) fun q420 =>
  (some (q420.1, q420.2)))
set_option maxRecDepth 20000 in
set_option maxHeartbeats 4000000 in
theorem ev_X7_copy_b35 (n : Nat) (x1 : Int32) (x2 : Int32) (x3 : Int32) (x4 : Int32) (x5 : Int32)   (σ : Sg) : Ev mX7_copy 2 42 jW 35 [(0, .ref 53), (1, .int x1), (2, .int x2), (3, .int x3), (4, .int x4), (5, .int x5)] [] σ (fn_X7_copy_b35 n x1 x2 x3 x4 x5  σ) := by
  unfold fn_X7_copy_b35
  refine ev_aload_n (pc := 35) (i := 0) 0 dX7_copy_35 rfl rfl ?_
  refine ev_iconst (pc := 36) (v := 1) dX7_copy_36 (by decide) ?_
  refine ev_vW (pc := 37) (as := [.int 1]) (rest := []) ⟨7, 130, 37, TX7, tyX7, ag_C7, ⟨(rfl), (by decide)⟩, mv_X7_meets, ag_ml_X7_130, rfl, (Nat.le_of_ble_eq_true rfl), ⟨(Nat.le_of_ble_eq_true rfl), (Nat.le_of_ble_eq_true rfl)⟩, dX7_copy_37⟩ (im_X7_meets 1 σ) (fun q420 => ?_)
  exact ev_irW rfl dX7_copy_40
def fn_X7_copy (n : Nat) (x1 : Int32) (x2 : Int32) (x3 : Int32) (x4 : Int32) (x5 : Int32) (σ : Sg) : Option (Int32 × Sg) :=
  (Option.bind (fn_X7_isSheet x1 σ) fun q421 =>
  (if q421 = 0 then (some ((-2), σ))
  else (Option.bind (fn_X7_isSheet x3 σ) fun q422 =>
  (if q422 = 0 then (some ((-2), σ))
  else (if ag_ib x1 4 = true then (if (σ 72 x1.toNatClampNeg) = 0 then (fn_X7_copy_b35 n x1 x2 x3 x4 x5 σ)
  else (if ag_ib x3 4 = true then (if (σ 72 x3.toNatClampNeg) = 0 then (fn_X7_copy_b35 n x1 x2 x3 x4 x5 σ)
  else (if ag_ib x1 4 = true then (if ag_ib x3 4 = true then (if (σ 73 x1.toNatClampNeg) = (σ 73 x3.toNatClampNeg) then (if x2 < 0 then (fn_X7_copy_b111 n x1 x2 x3 x4 x5 σ)
  else (if x4 < 0 then (fn_X7_copy_b111 n x1 x2 x3 x4 x5 σ)
  else (if x5 < 0 then (fn_X7_copy_b111 n x1 x2 x3 x4 x5 σ)
  else (if ag_ib x1 4 = true then (if 0 < (lg_cmp (x2.toInt64 + x5.toInt64) ((σ 74 x1.toNatClampNeg).toInt64)) then (fn_X7_copy_b111 n x1 x2 x3 x4 x5 σ)
  else (if ag_ib x3 4 = true then (if (lg_cmp (x4.toInt64 + x5.toInt64) ((σ 74 x3.toNatClampNeg).toInt64)) ≤ 0 then (fn_X7_copy_b120 n x1 x2 x3 x4 x5 n 0 σ)
  else (fn_X7_copy_b111 n x1 x2 x3 x4 x5 σ)) else none)) else none))))
  else (Option.bind (fn_X7_meets 4 σ) fun q423 =>
  (some (q423.1, q423.2)))) else none) else none)) else none)) else none)))))
set_option maxRecDepth 20000 in
set_option maxHeartbeats 4000000 in
theorem im_X7_copy (n : Nat) (x1 : Int32) (x2 : Int32) (x3 : Int32) (x4 : Int32) (x5 : Int32) (σ : Sg) : Im yX7_copy mX7_copy 2 42 jW [.ref 53, .int x1, .int x2, .int x3, .int x4, .int x5] σ (fn_X7_copy n x1 x2 x3 x4 x5 σ) := by
  refine Im.of (by decide +kernel) rfl rfl (Nat.le_of_ble_eq_true rfl) ?_
  show Ev mX7_copy 2 42 jW 0 [(0, .ref 53), (1, .int x1), (2, .int x2), (3, .int x3), (4, .int x4), (5, .int x5)] [] σ (fn_X7_copy n x1 x2 x3 x4 x5 σ)
  unfold fn_X7_copy
  refine ev_iload_n (pc := 0) (i := 1) 1 dX7_copy_0 rfl rfl ?_
  refine ev_sI (pc := 1) (as := [.int x1]) (rest := []) ⟨127, ms_X7_isSheet, ag_ml_X7_127, rfl, (Nat.le_of_ble_eq_true rfl), ⟨(Nat.le_of_ble_eq_true rfl), (Nat.le_of_ble_eq_true rfl)⟩, dX7_copy_1⟩ (im_X7_isSheet x1 σ) (fun q421 => ?_)
  refine ev_if_eq (pc := 4) (tgt := 14) dX7_copy_4 rfl ?_ ?_
  · refine ev_bipush (pc := 14) (v := (-2)) dX7_copy_14 (by decide) ?_
    exact ev_irW rfl dX7_copy_16
  · refine ev_iload_n (pc := 7) (i := 3) 3 dX7_copy_7 rfl rfl ?_
    refine ev_sI (pc := 8) (as := [.int x3]) (rest := []) ⟨127, ms_X7_isSheet, ag_ml_X7_127, rfl, (Nat.le_of_ble_eq_true rfl), ⟨(Nat.le_of_ble_eq_true rfl), (Nat.le_of_ble_eq_true rfl)⟩, dX7_copy_8⟩ (im_X7_isSheet x3 σ) (fun q422 => ?_)
    refine ev_if_ne (pc := 11) (tgt := 17) dX7_copy_11 rfl ?_ ?_
    · refine ev_bipush (pc := 14) (v := (-2)) dX7_copy_14 (by decide) ?_
      exact ev_irW rfl dX7_copy_16
    · refine ev_aload_n (pc := 17) (i := 0) 0 dX7_copy_17 rfl rfl ?_
      refine ev_getR (pc := 18) (t := 72) 31 ag_C7 (rfl) (by decide) (Nat.le_of_ble_eq_true rfl) rfl rfl ag_fl_X7_64 dX7_copy_18 ?_
      refine ev_iload_n (pc := 21) (i := 1) 1 dX7_copy_21 rfl rfl ?_
      refine ev_zald (pc := 22) (rfl) (by decide) dX7_copy_22 ?_
      refine ev_if_eq (pc := 23) (tgt := 35) dX7_copy_23 rfl ?_ ?_
      · exact ev_X7_copy_b35 n x1 x2 x3 x4 x5 σ
      · refine ev_aload_n (pc := 26) (i := 0) 0 dX7_copy_26 rfl rfl ?_
        refine ev_getR (pc := 27) (t := 72) 31 ag_C7 (rfl) (by decide) (Nat.le_of_ble_eq_true rfl) rfl rfl ag_fl_X7_64 dX7_copy_27 ?_
        refine ev_iload_n (pc := 30) (i := 3) 3 dX7_copy_30 rfl rfl ?_
        refine ev_zald (pc := 31) (rfl) (by decide) dX7_copy_31 ?_
        refine ev_if_ne (pc := 32) (tgt := 41) dX7_copy_32 rfl ?_ ?_
        · exact ev_X7_copy_b35 n x1 x2 x3 x4 x5 σ
        · refine ev_aload_n (pc := 41) (i := 0) 0 dX7_copy_41 rfl rfl ?_
          refine ev_getR (pc := 42) (t := 73) 32 ag_C7 (rfl) (by decide) (Nat.le_of_ble_eq_true rfl) rfl rfl ag_fl_X7_68 dX7_copy_42 ?_
          refine ev_iload_n (pc := 45) (i := 1) 1 dX7_copy_45 rfl rfl ?_
          refine ev_iald (pc := 46) (rfl) (by decide) dX7_copy_46 ?_
          refine ev_aload_n (pc := 47) (i := 0) 0 dX7_copy_47 rfl rfl ?_
          refine ev_getR (pc := 48) (t := 73) 32 ag_C7 (rfl) (by decide) (Nat.le_of_ble_eq_true rfl) rfl rfl ag_fl_X7_68 dX7_copy_48 ?_
          refine ev_iload_n (pc := 51) (i := 3) 3 dX7_copy_51 rfl rfl ?_
          refine ev_iald (pc := 52) (rfl) (by decide) dX7_copy_52 ?_
          refine ev_icmp_eq (pc := 53) (tgt := 62) dX7_copy_53 rfl ?_ ?_
          · refine ev_iload_n (pc := 62) (i := 2) 2 dX7_copy_62 rfl rfl ?_
            refine ev_if_lt (pc := 63) (tgt := 111) dX7_copy_63 rfl ?_ ?_
            · exact ev_X7_copy_b111 n x1 x2 x3 x4 x5 σ
            · refine ev_iload (pc := 66) 4 dX7_copy_66 rfl ?_
              refine ev_if_lt (pc := 68) (tgt := 111) dX7_copy_68 rfl ?_ ?_
              · exact ev_X7_copy_b111 n x1 x2 x3 x4 x5 σ
              · refine ev_iload (pc := 71) 5 dX7_copy_71 rfl ?_
                refine ev_if_lt (pc := 73) (tgt := 111) dX7_copy_73 rfl ?_ ?_
                · exact ev_X7_copy_b111 n x1 x2 x3 x4 x5 σ
                · refine ev_iload_n (pc := 76) (i := 2) 2 dX7_copy_76 rfl rfl ?_
                  refine ev_i2l (pc := 77) dX7_copy_77 ?_
                  refine ev_iload (pc := 78) 5 dX7_copy_78 rfl ?_
                  refine ev_i2l (pc := 80) dX7_copy_80 ?_
                  refine ev_ladd (pc := 81) dX7_copy_81 ?_
                  refine ev_aload_n (pc := 82) (i := 0) 0 dX7_copy_82 rfl rfl ?_
                  refine ev_getR (pc := 83) (t := 74) 33 ag_C7 (rfl) (by decide) (Nat.le_of_ble_eq_true rfl) rfl rfl ag_fl_X7_71 dX7_copy_83 ?_
                  refine ev_iload_n (pc := 86) (i := 1) 1 dX7_copy_86 rfl rfl ?_
                  refine ev_iald (pc := 87) (rfl) (by decide) dX7_copy_87 ?_
                  refine ev_i2l (pc := 88) dX7_copy_88 ?_
                  refine ev_lcmp (pc := 89) dX7_copy_89 ?_
                  refine ev_if_gt (pc := 90) (tgt := 111) dX7_copy_90 rfl ?_ ?_
                  · exact ev_X7_copy_b111 n x1 x2 x3 x4 x5 σ
                  · refine ev_iload (pc := 93) 4 dX7_copy_93 rfl ?_
                    refine ev_i2l (pc := 95) dX7_copy_95 ?_
                    refine ev_iload (pc := 96) 5 dX7_copy_96 rfl ?_
                    refine ev_i2l (pc := 98) dX7_copy_98 ?_
                    refine ev_ladd (pc := 99) dX7_copy_99 ?_
                    refine ev_aload_n (pc := 100) (i := 0) 0 dX7_copy_100 rfl rfl ?_
                    refine ev_getR (pc := 101) (t := 74) 33 ag_C7 (rfl) (by decide) (Nat.le_of_ble_eq_true rfl) rfl rfl ag_fl_X7_71 dX7_copy_101 ?_
                    refine ev_iload_n (pc := 104) (i := 3) 3 dX7_copy_104 rfl rfl ?_
                    refine ev_iald (pc := 105) (rfl) (by decide) dX7_copy_105 ?_
                    refine ev_i2l (pc := 106) dX7_copy_106 ?_
                    refine ev_lcmp (pc := 107) dX7_copy_107 ?_
                    refine ev_if_le (pc := 108) (tgt := 117) dX7_copy_108 rfl ?_ ?_
                    · refine ev_iconst (pc := 117) (v := 0) dX7_copy_117 (by decide) ?_
                      refine ev_istore (pc := 118) (lv' := [(6, .int 0), (0, .ref 53), (1, .int x1), (2, .int x2), (3, .int x3), (4, .int x4), (5, .int x5)]) dX7_copy_118 (Nat.le_of_ble_eq_true rfl) rfl ?_
                      refine ev_sub [1, 2, 3, 4, 5, 6, 0] rfl ?_
                      exact ev_X7_copy_b120 n x1 x2 x3 x4 x5 n 0 σ
                    · exact ev_X7_copy_b111 n x1 x2 x3 x4 x5 σ
          · refine ev_aload_n (pc := 56) (i := 0) 0 dX7_copy_56 rfl rfl ?_
            refine ev_iconst (pc := 57) (v := 4) dX7_copy_57 (by decide) ?_
            refine ev_vW (pc := 58) (as := [.int 4]) (rest := []) ⟨7, 130, 37, TX7, tyX7, ag_C7, ⟨(rfl), (by decide)⟩, mv_X7_meets, ag_ml_X7_130, rfl, (Nat.le_of_ble_eq_true rfl), ⟨(Nat.le_of_ble_eq_true rfl), (Nat.le_of_ble_eq_true rfl)⟩, dX7_copy_58⟩ (im_X7_meets 4 σ) (fun q423 => ?_)
            exact ev_irW rfl dX7_copy_61
-- X7_write
def mX7_write : Md := (RX7, cX7_write, 3, some .int, none)
theorem mv_X7_write : ag_Mv yX7_write mX7_write 1 := ⟨ag_co_X7_write, ag_im_X7_write, ag_se_X7_write, ag_ini_X7, by decide +kernel⟩
theorem dX7_write_0 : decode mX7_write.2.1 0 = .ok (.iload_n 1, 1) := by decide +kernel
theorem dX7_write_1 : decode mX7_write.2.1 1 = .ok (.invokestatic 127, 3) := by decide +kernel
theorem dX7_write_4 : decode mX7_write.2.1 4 = .ok (.ifCond .ne 6, 3) := by decide +kernel
theorem dX7_write_7 : decode mX7_write.2.1 7 = .ok (.bipush (-2), 2) := by decide +kernel
theorem dX7_write_9 : decode mX7_write.2.1 9 = .ok (.ireturn, 1) := by decide +kernel
theorem dX7_write_10 : decode mX7_write.2.1 10 = .ok (.aload_n 0, 1) := by decide +kernel
theorem dX7_write_11 : decode mX7_write.2.1 11 = .ok (.getfield 64, 3) := by decide +kernel
theorem dX7_write_14 : decode mX7_write.2.1 14 = .ok (.iload_n 1, 1) := by decide +kernel
theorem dX7_write_15 : decode mX7_write.2.1 15 = .ok (.baload, 1) := by decide +kernel
theorem dX7_write_16 : decode mX7_write.2.1 16 = .ok (.ifCond .ne 9, 3) := by decide +kernel
theorem dX7_write_19 : decode mX7_write.2.1 19 = .ok (.aload_n 0, 1) := by decide +kernel
theorem dX7_write_20 : decode mX7_write.2.1 20 = .ok (.iconst 1, 1) := by decide +kernel
theorem dX7_write_21 : decode mX7_write.2.1 21 = .ok (.invokevirtual 130, 3) := by decide +kernel
theorem dX7_write_24 : decode mX7_write.2.1 24 = .ok (.ireturn, 1) := by decide +kernel
theorem dX7_write_25 : decode mX7_write.2.1 25 = .ok (.aload_n 0, 1) := by decide +kernel
theorem dX7_write_26 : decode mX7_write.2.1 26 = .ok (.sipush 199, 3) := by decide +kernel
theorem dX7_write_29 : decode mX7_write.2.1 29 = .ok (.invokevirtual 179, 3) := by decide +kernel
theorem dX7_write_32 : decode mX7_write.2.1 32 = .ok (.iconst 0, 1) := by decide +kernel
theorem dX7_write_33 : decode mX7_write.2.1 33 = .ok (.istore_n 2, 1) := by decide +kernel
theorem dX7_write_34 : decode mX7_write.2.1 34 = .ok (.iload_n 2, 1) := by decide +kernel
theorem dX7_write_35 : decode mX7_write.2.1 35 = .ok (.aload_n 0, 1) := by decide +kernel
theorem dX7_write_36 : decode mX7_write.2.1 36 = .ok (.getfield 71, 3) := by decide +kernel
theorem dX7_write_39 : decode mX7_write.2.1 39 = .ok (.iload_n 1, 1) := by decide +kernel
theorem dX7_write_40 : decode mX7_write.2.1 40 = .ok (.iaload, 1) := by decide +kernel
theorem dX7_write_41 : decode mX7_write.2.1 41 = .ok (.if_icmp .ge 29, 3) := by decide +kernel
theorem dX7_write_44 : decode mX7_write.2.1 44 = .ok (.iload_n 2, 1) := by decide +kernel
theorem dX7_write_45 : decode mX7_write.2.1 45 = .ok (.aload_n 0, 1) := by decide +kernel
theorem dX7_write_46 : decode mX7_write.2.1 46 = .ok (.getfield 120, 3) := by decide +kernel
theorem dX7_write_49 : decode mX7_write.2.1 49 = .ok (.if_icmp .ge 21, 3) := by decide +kernel
theorem dX7_write_52 : decode mX7_write.2.1 52 = .ok (.aload_n 0, 1) := by decide +kernel
theorem dX7_write_53 : decode mX7_write.2.1 53 = .ok (.iload_n 1, 1) := by decide +kernel
theorem dX7_write_54 : decode mX7_write.2.1 54 = .ok (.iload_n 2, 1) := by decide +kernel
theorem dX7_write_55 : decode mX7_write.2.1 55 = .ok (.aload_n 0, 1) := by decide +kernel
theorem dX7_write_56 : decode mX7_write.2.1 56 = .ok (.getfield 43, 3) := by decide +kernel
theorem dX7_write_59 : decode mX7_write.2.1 59 = .ok (.iload_n 2, 1) := by decide +kernel
theorem dX7_write_60 : decode mX7_write.2.1 60 = .ok (.iaload, 1) := by decide +kernel
theorem dX7_write_61 : decode mX7_write.2.1 61 = .ok (.invokevirtual 275, 3) := by decide +kernel
theorem dX7_write_64 : decode mX7_write.2.1 64 = .ok (.iinc 2 1, 3) := by decide +kernel
theorem dX7_write_67 : decode mX7_write.2.1 67 = .ok (.goto (-33), 3) := by decide +kernel
theorem dX7_write_70 : decode mX7_write.2.1 70 = .ok (.iload_n 2, 1) := by decide +kernel
theorem dX7_write_71 : decode mX7_write.2.1 71 = .ok (.ireturn, 1) := by decide +kernel
def fn_X7_write_b34 (n : Nat) (x1 : Int32)  : Nat → Int32 → Sg → Option (Int32 × Sg)
  | 0 => fun _ _ => none
  | i + 1 => fun v2 σ =>
  (if ag_ib x1 4 = true then (if (σ 74 x1.toNatClampNeg) ≤ v2 then (some (v2, σ))
  else (if (σ 53 7) ≤ v2 then (some (v2, σ))
  else (if ag_ib v2 13 = true then (Option.bind (fn_X7_keep x1 v2 (σ 65 v2.toNatClampNeg) σ) fun q424 =>
  ((fn_X7_write_b34 n x1 i) (v2 + 1) q424)) else none))) else none)
theorem fn_X7_write_b34_s (n : Nat) (x1 : Int32)  (i : Nat) (v2 : Int32) (σ : Sg) : fn_X7_write_b34 n x1 (i + 1) v2 σ =
  (if ag_ib x1 4 = true then (if (σ 74 x1.toNatClampNeg) ≤ v2 then (some (v2, σ))
  else (if (σ 53 7) ≤ v2 then (some (v2, σ))
  else (if ag_ib v2 13 = true then (Option.bind (fn_X7_keep x1 v2 (σ 65 v2.toNatClampNeg) σ) fun q424 =>
  ((fn_X7_write_b34 n x1 i) (v2 + 1) q424)) else none))) else none) := rfl
set_option maxRecDepth 20000 in
set_option maxHeartbeats 4000000 in
theorem ev_X7_write_b34 (n : Nat) (x1 : Int32)  : ∀ (i : Nat) (v2 : Int32) (σ : Sg), Ev mX7_write 6 137 jW 34 [(0, .ref 53), (1, .int x1), (2, .int v2)] [] σ (fn_X7_write_b34 n x1 i v2 σ) := by
  intro i
  induction i with
  | zero =>
    intro v2 σ
    exact ev_none
  | succ i ih =>
    intro v2 σ
    rw [fn_X7_write_b34_s]
    refine ev_iload_n (pc := 34) (i := 2) 2 dX7_write_34 rfl rfl ?_
    refine ev_aload_n (pc := 35) (i := 0) 0 dX7_write_35 rfl rfl ?_
    refine ev_getR (pc := 36) (t := 74) 33 ag_C7 (rfl) (by decide) (Nat.le_of_ble_eq_true rfl) rfl rfl ag_fl_X7_71 dX7_write_36 ?_
    refine ev_iload_n (pc := 39) (i := 1) 1 dX7_write_39 rfl rfl ?_
    refine ev_iald (pc := 40) (rfl) (by decide) dX7_write_40 ?_
    refine ev_icmp_ge (pc := 41) (tgt := 70) dX7_write_41 rfl ?_ ?_
    · refine ev_iload_n (pc := 70) (i := 2) 2 dX7_write_70 rfl rfl ?_
      exact ev_irW rfl dX7_write_71
    · refine ev_iload_n (pc := 44) (i := 2) 2 dX7_write_44 rfl rfl ?_
      refine ev_aload_n (pc := 45) (i := 0) 0 dX7_write_45 rfl rfl ?_
      refine ev_getI (pc := 46) 7 ag_C7 (rfl) (by decide) (Nat.le_of_ble_eq_true rfl) rfl rfl ag_fl_X7_120 dX7_write_46 ?_
      refine ev_icmp_ge (pc := 49) (tgt := 70) dX7_write_49 rfl ?_ ?_
      · refine ev_iload_n (pc := 70) (i := 2) 2 dX7_write_70 rfl rfl ?_
        exact ev_irW rfl dX7_write_71
      · refine ev_aload_n (pc := 52) (i := 0) 0 dX7_write_52 rfl rfl ?_
        refine ev_iload_n (pc := 53) (i := 1) 1 dX7_write_53 rfl rfl ?_
        refine ev_iload_n (pc := 54) (i := 2) 2 dX7_write_54 rfl rfl ?_
        refine ev_aload_n (pc := 55) (i := 0) 0 dX7_write_55 rfl rfl ?_
        refine ev_getR (pc := 56) (t := 65) 20 ag_C7 (rfl) (by decide) (Nat.le_of_ble_eq_true rfl) rfl rfl ag_fl_X7_43 dX7_write_56 ?_
        refine ev_iload_n (pc := 59) (i := 2) 2 dX7_write_59 rfl rfl ?_
        refine ev_iald (pc := 60) (rfl) (by decide) dX7_write_60 ?_
        refine ev_vV (pc := 61) (as := [.int x1, .int v2, .int (σ 65 v2.toNatClampNeg)]) (rest := []) ⟨7, 275, 37, TX7, tyX7, ag_C7, ⟨(rfl), (by decide)⟩, mv_X7_keep, ag_ml_X7_275, rfl, (Nat.le_of_ble_eq_true rfl), ⟨(Nat.le_of_ble_eq_true rfl), (Nat.le_of_ble_eq_true rfl)⟩, dX7_write_61⟩ (im_X7_keep x1 v2 (σ 65 v2.toNatClampNeg) σ) (fun q424 => ?_)
        refine ev_iinc (pc := 64) (v := (v2 + 1)) (lv' := [(2, .int (v2 + 1)), (0, .ref 53), (1, .int x1)]) 2 dX7_write_64 rfl rfl (Nat.le_of_ble_eq_true rfl) rfl ?_
        refine ev_goto (pc := 67) (tgt := 34) dX7_write_67 rfl ?_
        refine ev_sub [1, 2, 0] rfl ?_
        exact ih (v2 + 1) q424
def fn_X7_write (n : Nat) (x1 : Int32) (σ : Sg) : Option (Int32 × Sg) :=
  (Option.bind (fn_X7_isSheet x1 σ) fun q425 =>
  (if q425 = 0 then (some ((-2), σ))
  else (if ag_ib x1 4 = true then (if (σ 72 x1.toNatClampNeg) = 0 then (Option.bind (fn_X7_meets 1 σ) fun q426 =>
  (some (q426.1, q426.2)))
  else (Option.bind (fn_X7_runsTo n 199 σ) fun q427 =>
  (fn_X7_write_b34 n x1 n 0 q427))) else none)))
set_option maxRecDepth 20000 in
set_option maxHeartbeats 4000000 in
theorem im_X7_write (n : Nat) (x1 : Int32) (σ : Sg) : Im yX7_write mX7_write 6 137 jW [.ref 53, .int x1] σ (fn_X7_write n x1 σ) := by
  refine Im.of (by decide +kernel) rfl rfl (Nat.le_of_ble_eq_true rfl) ?_
  show Ev mX7_write 6 137 jW 0 [(0, .ref 53), (1, .int x1)] [] σ (fn_X7_write n x1 σ)
  unfold fn_X7_write
  refine ev_iload_n (pc := 0) (i := 1) 1 dX7_write_0 rfl rfl ?_
  refine ev_sI (pc := 1) (as := [.int x1]) (rest := []) ⟨127, ms_X7_isSheet, ag_ml_X7_127, rfl, (Nat.le_of_ble_eq_true rfl), ⟨(Nat.le_of_ble_eq_true rfl), (Nat.le_of_ble_eq_true rfl)⟩, dX7_write_1⟩ (im_X7_isSheet x1 σ) (fun q425 => ?_)
  refine ev_if_ne (pc := 4) (tgt := 10) dX7_write_4 rfl ?_ ?_
  · refine ev_bipush (pc := 7) (v := (-2)) dX7_write_7 (by decide) ?_
    exact ev_irW rfl dX7_write_9
  · refine ev_aload_n (pc := 10) (i := 0) 0 dX7_write_10 rfl rfl ?_
    refine ev_getR (pc := 11) (t := 72) 31 ag_C7 (rfl) (by decide) (Nat.le_of_ble_eq_true rfl) rfl rfl ag_fl_X7_64 dX7_write_11 ?_
    refine ev_iload_n (pc := 14) (i := 1) 1 dX7_write_14 rfl rfl ?_
    refine ev_zald (pc := 15) (rfl) (by decide) dX7_write_15 ?_
    refine ev_if_ne (pc := 16) (tgt := 25) dX7_write_16 rfl ?_ ?_
    · refine ev_aload_n (pc := 19) (i := 0) 0 dX7_write_19 rfl rfl ?_
      refine ev_iconst (pc := 20) (v := 1) dX7_write_20 (by decide) ?_
      refine ev_vW (pc := 21) (as := [.int 1]) (rest := []) ⟨7, 130, 37, TX7, tyX7, ag_C7, ⟨(rfl), (by decide)⟩, mv_X7_meets, ag_ml_X7_130, rfl, (Nat.le_of_ble_eq_true rfl), ⟨(Nat.le_of_ble_eq_true rfl), (Nat.le_of_ble_eq_true rfl)⟩, dX7_write_21⟩ (im_X7_meets 1 σ) (fun q426 => ?_)
      exact ev_irW rfl dX7_write_24
    · refine ev_aload_n (pc := 25) (i := 0) 0 dX7_write_25 rfl rfl ?_
      refine ev_sipush (pc := 26) (v := 199) dX7_write_26 (by decide) ?_
      refine ev_vV (pc := 29) (as := [.int 199]) (rest := []) ⟨7, 179, 37, TX7, tyX7, ag_C7, ⟨(rfl), (by decide)⟩, mv_X7_runsTo, ag_ml_X7_179, rfl, (Nat.le_of_ble_eq_true rfl), ⟨(Nat.le_of_ble_eq_true rfl), (Nat.le_of_ble_eq_true rfl)⟩, dX7_write_29⟩ (im_X7_runsTo n 199 σ) (fun q427 => ?_)
      refine ev_iconst (pc := 32) (v := 0) dX7_write_32 (by decide) ?_
      refine ev_istore_n (pc := 33) (i := 2) (lv' := [(2, .int 0), (0, .ref 53), (1, .int x1)]) dX7_write_33 rfl (Nat.le_of_ble_eq_true rfl) rfl ?_
      refine ev_sub [1, 2, 0] rfl ?_
      exact ev_X7_write_b34 n x1 n 0 q427
-- X7_sumOf
def mX7_sumOf : Md := (RX7, cX7_sumOf, 4, some .int, none)
theorem mv_X7_sumOf : ag_Mv yX7_sumOf mX7_sumOf 1 := ⟨ag_co_X7_sumOf, ag_im_X7_sumOf, ag_se_X7_sumOf, ag_ini_X7, by decide +kernel⟩
theorem dX7_sumOf_0 : decode mX7_sumOf.2.1 0 = .ok (.aload_n 0, 1) := by decide +kernel
theorem dX7_sumOf_1 : decode mX7_sumOf.2.1 1 = .ok (.sipush 199, 3) := by decide +kernel
theorem dX7_sumOf_4 : decode mX7_sumOf.2.1 4 = .ok (.invokevirtual 179, 3) := by decide +kernel
theorem dX7_sumOf_7 : decode mX7_sumOf.2.1 7 = .ok (.iconst 0, 1) := by decide +kernel
theorem dX7_sumOf_8 : decode mX7_sumOf.2.1 8 = .ok (.istore_n 2, 1) := by decide +kernel
theorem dX7_sumOf_9 : decode mX7_sumOf.2.1 9 = .ok (.iconst 0, 1) := by decide +kernel
theorem dX7_sumOf_10 : decode mX7_sumOf.2.1 10 = .ok (.istore_n 3, 1) := by decide +kernel
theorem dX7_sumOf_11 : decode mX7_sumOf.2.1 11 = .ok (.iload_n 3, 1) := by decide +kernel
theorem dX7_sumOf_12 : decode mX7_sumOf.2.1 12 = .ok (.aload_n 0, 1) := by decide +kernel
theorem dX7_sumOf_13 : decode mX7_sumOf.2.1 13 = .ok (.getfield 120, 3) := by decide +kernel
theorem dX7_sumOf_16 : decode mX7_sumOf.2.1 16 = .ok (.if_icmp .ge 46, 3) := by decide +kernel
theorem dX7_sumOf_19 : decode mX7_sumOf.2.1 19 = .ok (.iload_n 1, 1) := by decide +kernel
theorem dX7_sumOf_20 : decode mX7_sumOf.2.1 20 = .ok (.iconst 5, 1) := by decide +kernel
theorem dX7_sumOf_21 : decode mX7_sumOf.2.1 21 = .ok (.if_icmp .ge 41, 3) := by decide +kernel
theorem dX7_sumOf_24 : decode mX7_sumOf.2.1 24 = .ok (.iload_n 2, 1) := by decide +kernel
theorem dX7_sumOf_25 : decode mX7_sumOf.2.1 25 = .ok (.iload_n 1, 1) := by decide +kernel
theorem dX7_sumOf_26 : decode mX7_sumOf.2.1 26 = .ok (.iconst 3, 1) := by decide +kernel
theorem dX7_sumOf_27 : decode mX7_sumOf.2.1 27 = .ok (.if_icmp .ne 12, 3) := by decide +kernel
theorem dX7_sumOf_30 : decode mX7_sumOf.2.1 30 = .ok (.aload_n 0, 1) := by decide +kernel
theorem dX7_sumOf_31 : decode mX7_sumOf.2.1 31 = .ok (.getfield 46, 3) := by decide +kernel
theorem dX7_sumOf_34 : decode mX7_sumOf.2.1 34 = .ok (.iload_n 3, 1) := by decide +kernel
theorem dX7_sumOf_35 : decode mX7_sumOf.2.1 35 = .ok (.iaload, 1) := by decide +kernel
theorem dX7_sumOf_36 : decode mX7_sumOf.2.1 36 = .ok (.goto 9, 3) := by decide +kernel
theorem dX7_sumOf_39 : decode mX7_sumOf.2.1 39 = .ok (.aload_n 0, 1) := by decide +kernel
theorem dX7_sumOf_40 : decode mX7_sumOf.2.1 40 = .ok (.getfield 43, 3) := by decide +kernel
theorem dX7_sumOf_43 : decode mX7_sumOf.2.1 43 = .ok (.iload_n 3, 1) := by decide +kernel
theorem dX7_sumOf_44 : decode mX7_sumOf.2.1 44 = .ok (.iaload, 1) := by decide +kernel
theorem dX7_sumOf_45 : decode mX7_sumOf.2.1 45 = .ok (.iconst (-1), 1) := by decide +kernel
theorem dX7_sumOf_46 : decode mX7_sumOf.2.1 46 = .ok (.if_icmp .ne 7, 3) := by decide +kernel
theorem dX7_sumOf_49 : decode mX7_sumOf.2.1 49 = .ok (.iconst 0, 1) := by decide +kernel
theorem dX7_sumOf_50 : decode mX7_sumOf.2.1 50 = .ok (.goto 4, 3) := by decide +kernel
theorem dX7_sumOf_53 : decode mX7_sumOf.2.1 53 = .ok (.iconst 1, 1) := by decide +kernel
theorem dX7_sumOf_54 : decode mX7_sumOf.2.1 54 = .ok (.iadd, 1) := by decide +kernel
theorem dX7_sumOf_55 : decode mX7_sumOf.2.1 55 = .ok (.istore_n 2, 1) := by decide +kernel
theorem dX7_sumOf_56 : decode mX7_sumOf.2.1 56 = .ok (.iinc 3 1, 3) := by decide +kernel
theorem dX7_sumOf_59 : decode mX7_sumOf.2.1 59 = .ok (.goto (-48), 3) := by decide +kernel
theorem dX7_sumOf_62 : decode mX7_sumOf.2.1 62 = .ok (.iconst 0, 1) := by decide +kernel
theorem dX7_sumOf_63 : decode mX7_sumOf.2.1 63 = .ok (.istore_n 3, 1) := by decide +kernel
theorem dX7_sumOf_64 : decode mX7_sumOf.2.1 64 = .ok (.iload_n 3, 1) := by decide +kernel
theorem dX7_sumOf_65 : decode mX7_sumOf.2.1 65 = .ok (.aload_n 0, 1) := by decide +kernel
theorem dX7_sumOf_66 : decode mX7_sumOf.2.1 66 = .ok (.getfield 93, 3) := by decide +kernel
theorem dX7_sumOf_69 : decode mX7_sumOf.2.1 69 = .ok (.if_icmp .ge 50, 3) := by decide +kernel
theorem dX7_sumOf_72 : decode mX7_sumOf.2.1 72 = .ok (.iload_n 1, 1) := by decide +kernel
theorem dX7_sumOf_73 : decode mX7_sumOf.2.1 73 = .ok (.iconst 5, 1) := by decide +kernel
theorem dX7_sumOf_74 : decode mX7_sumOf.2.1 74 = .ok (.if_icmp .le 45, 3) := by decide +kernel
theorem dX7_sumOf_77 : decode mX7_sumOf.2.1 77 = .ok (.iload_n 2, 1) := by decide +kernel
theorem dX7_sumOf_78 : decode mX7_sumOf.2.1 78 = .ok (.iload_n 1, 1) := by decide +kernel
theorem dX7_sumOf_79 : decode mX7_sumOf.2.1 79 = .ok (.bipush 6, 2) := by decide +kernel
theorem dX7_sumOf_81 : decode mX7_sumOf.2.1 81 = .ok (.if_icmp .ne 21, 3) := by decide +kernel
theorem dX7_sumOf_84 : decode mX7_sumOf.2.1 84 = .ok (.aload_n 0, 1) := by decide +kernel
theorem dX7_sumOf_85 : decode mX7_sumOf.2.1 85 = .ok (.getfield 19, 3) := by decide +kernel
theorem dX7_sumOf_88 : decode mX7_sumOf.2.1 88 = .ok (.iload_n 3, 1) := by decide +kernel
theorem dX7_sumOf_89 : decode mX7_sumOf.2.1 89 = .ok (.iaload, 1) := by decide +kernel
theorem dX7_sumOf_90 : decode mX7_sumOf.2.1 90 = .ok (.iconst 1, 1) := by decide +kernel
theorem dX7_sumOf_91 : decode mX7_sumOf.2.1 91 = .ok (.if_icmp .ne 7, 3) := by decide +kernel
theorem dX7_sumOf_94 : decode mX7_sumOf.2.1 94 = .ok (.iconst 1, 1) := by decide +kernel
theorem dX7_sumOf_95 : decode mX7_sumOf.2.1 95 = .ok (.goto 16, 3) := by decide +kernel
theorem dX7_sumOf_98 : decode mX7_sumOf.2.1 98 = .ok (.iconst 0, 1) := by decide +kernel
theorem dX7_sumOf_99 : decode mX7_sumOf.2.1 99 = .ok (.goto 12, 3) := by decide +kernel
theorem dX7_sumOf_102 : decode mX7_sumOf.2.1 102 = .ok (.aload_n 0, 1) := by decide +kernel
theorem dX7_sumOf_103 : decode mX7_sumOf.2.1 103 = .ok (.getfield 22, 3) := by decide +kernel
theorem dX7_sumOf_106 : decode mX7_sumOf.2.1 106 = .ok (.iload_n 3, 1) := by decide +kernel
theorem dX7_sumOf_107 : decode mX7_sumOf.2.1 107 = .ok (.iaload, 1) := by decide +kernel
theorem dX7_sumOf_108 : decode mX7_sumOf.2.1 108 = .ok (.invokestatic 229, 3) := by decide +kernel
theorem dX7_sumOf_111 : decode mX7_sumOf.2.1 111 = .ok (.iadd, 1) := by decide +kernel
theorem dX7_sumOf_112 : decode mX7_sumOf.2.1 112 = .ok (.istore_n 2, 1) := by decide +kernel
theorem dX7_sumOf_113 : decode mX7_sumOf.2.1 113 = .ok (.iinc 3 1, 3) := by decide +kernel
theorem dX7_sumOf_116 : decode mX7_sumOf.2.1 116 = .ok (.goto (-52), 3) := by decide +kernel
theorem dX7_sumOf_119 : decode mX7_sumOf.2.1 119 = .ok (.iload_n 1, 1) := by decide +kernel
theorem dX7_sumOf_120 : decode mX7_sumOf.2.1 120 = .ok (.ifCond .ne 10, 3) := by decide +kernel
theorem dX7_sumOf_123 : decode mX7_sumOf.2.1 123 = .ok (.aload_n 0, 1) := by decide +kernel
theorem dX7_sumOf_124 : decode mX7_sumOf.2.1 124 = .ok (.getfield 93, 3) := by decide +kernel
theorem dX7_sumOf_127 : decode mX7_sumOf.2.1 127 = .ok (.goto 4, 3) := by decide +kernel
theorem dX7_sumOf_130 : decode mX7_sumOf.2.1 130 = .ok (.iload_n 2, 1) := by decide +kernel
theorem dX7_sumOf_131 : decode mX7_sumOf.2.1 131 = .ok (.ireturn, 1) := by decide +kernel
def fn_X7_sumOf_b119 (n : Nat) (x1 : Int32)  (v2 : Int32) (σ : Sg) : Option (Int32 × Sg) :=
  (if x1 = 0 then (some ((σ 53 2), σ))
  else (some (v2, σ)))
set_option maxRecDepth 20000 in
set_option maxHeartbeats 4000000 in
theorem ev_X7_sumOf_b119 (n : Nat) (x1 : Int32)  (v2 : Int32) (σ : Sg) : Ev mX7_sumOf 6 137 jW 119 [(0, .ref 53), (1, .int x1), (2, .int v2)] [] σ (fn_X7_sumOf_b119 n x1 v2 σ) := by
  unfold fn_X7_sumOf_b119
  refine ev_iload_n (pc := 119) (i := 1) 1 dX7_sumOf_119 rfl rfl ?_
  refine ev_if_ne (pc := 120) (tgt := 130) dX7_sumOf_120 rfl ?_ ?_
  · refine ev_aload_n (pc := 123) (i := 0) 0 dX7_sumOf_123 rfl rfl ?_
    refine ev_getI (pc := 124) 2 ag_C7 (rfl) (by decide) (Nat.le_of_ble_eq_true rfl) rfl rfl ag_fl_X7_93 dX7_sumOf_124 ?_
    refine ev_goto (pc := 127) (tgt := 131) dX7_sumOf_127 rfl ?_
    exact ev_irW rfl dX7_sumOf_131
  · refine ev_iload_n (pc := 130) (i := 2) 2 dX7_sumOf_130 rfl rfl ?_
    exact ev_irW rfl dX7_sumOf_131
def fn_X7_sumOf_b111 (n : Nat) (x1 : Int32) (k64 : Int32 → Int32 → Sg → Option (Int32 × Sg)) (v3 : Int32) (s0 : Int32) (s1 : Int32) (σ : Sg) : Option (Int32 × Sg) :=
  (k64 (s0 + s1) (v3 + 1) σ)
set_option maxRecDepth 20000 in
set_option maxHeartbeats 4000000 in
theorem ev_X7_sumOf_b111 (n : Nat) (x1 : Int32) (k64 : Int32 → Int32 → Sg → Option (Int32 × Sg)) (hk64 : ∀ (v2 : Int32) (v3 : Int32) (σ : Sg), Ev mX7_sumOf 6 137 jW 64 [(0, .ref 53), (1, .int x1), (2, .int v2), (3, .int v3)] [] σ (k64 v2 v3 σ)) (v3 : Int32) (s0 : Int32) (s1 : Int32) (σ : Sg) : Ev mX7_sumOf 6 137 jW 111 [(0, .ref 53), (1, .int x1), (3, .int v3)] [.int s1, .int s0] σ (fn_X7_sumOf_b111 n x1 k64 v3 s0 s1 σ) := by
  unfold fn_X7_sumOf_b111
  refine ev_iadd (pc := 111) dX7_sumOf_111 ?_
  refine ev_istore_n (pc := 112) (i := 2) (lv' := [(2, .int (s0 + s1)), (0, .ref 53), (1, .int x1), (3, .int v3)]) dX7_sumOf_112 rfl (Nat.le_of_ble_eq_true rfl) rfl ?_
  refine ev_iinc (pc := 113) (v := (v3 + 1)) (lv' := [(3, .int (v3 + 1)), (2, .int (s0 + s1)), (0, .ref 53), (1, .int x1)]) 3 dX7_sumOf_113 rfl rfl (Nat.le_of_ble_eq_true rfl) rfl ?_
  refine ev_goto (pc := 116) (tgt := 64) dX7_sumOf_116 rfl ?_
  refine ev_sub [2, 3, 1, 0] rfl ?_
  exact hk64 (s0 + s1) (v3 + 1) σ
def fn_X7_sumOf_b64 (n : Nat) (x1 : Int32)  : Nat → Int32 → Int32 → Sg → Option (Int32 × Sg)
  | 0 => fun _ _ _ => none
  | i + 1 => fun v2 v3 σ =>
  (if (σ 53 2) ≤ v3 then (fn_X7_sumOf_b119 n x1 v2 σ)
  else (if x1 ≤ 5 then (fn_X7_sumOf_b119 n x1 v2 σ)
  else (if x1 = 6 then (if ag_ib v3 11 = true then (if (σ 57 v3.toNatClampNeg) = 1 then (fn_X7_sumOf_b111 n x1 (fn_X7_sumOf_b64 n x1 i) v3 v2 1 σ)
  else (fn_X7_sumOf_b111 n x1 (fn_X7_sumOf_b64 n x1 i) v3 v2 0 σ)) else none)
  else (if ag_ib v3 10 = true then (Option.bind (fn_X7_ones n (σ 58 v3.toNatClampNeg) σ) fun q428 =>
  (fn_X7_sumOf_b111 n x1 (fn_X7_sumOf_b64 n x1 i) v3 v2 q428 σ)) else none))))
theorem fn_X7_sumOf_b64_s (n : Nat) (x1 : Int32)  (i : Nat) (v2 : Int32) (v3 : Int32) (σ : Sg) : fn_X7_sumOf_b64 n x1 (i + 1) v2 v3 σ =
  (if (σ 53 2) ≤ v3 then (fn_X7_sumOf_b119 n x1 v2 σ)
  else (if x1 ≤ 5 then (fn_X7_sumOf_b119 n x1 v2 σ)
  else (if x1 = 6 then (if ag_ib v3 11 = true then (if (σ 57 v3.toNatClampNeg) = 1 then (fn_X7_sumOf_b111 n x1 (fn_X7_sumOf_b64 n x1 i) v3 v2 1 σ)
  else (fn_X7_sumOf_b111 n x1 (fn_X7_sumOf_b64 n x1 i) v3 v2 0 σ)) else none)
  else (if ag_ib v3 10 = true then (Option.bind (fn_X7_ones n (σ 58 v3.toNatClampNeg) σ) fun q428 =>
  (fn_X7_sumOf_b111 n x1 (fn_X7_sumOf_b64 n x1 i) v3 v2 q428 σ)) else none)))) := rfl
set_option maxRecDepth 20000 in
set_option maxHeartbeats 4000000 in
theorem ev_X7_sumOf_b64 (n : Nat) (x1 : Int32)  : ∀ (i : Nat) (v2 : Int32) (v3 : Int32) (σ : Sg), Ev mX7_sumOf 6 137 jW 64 [(0, .ref 53), (1, .int x1), (2, .int v2), (3, .int v3)] [] σ (fn_X7_sumOf_b64 n x1 i v2 v3 σ) := by
  intro i
  induction i with
  | zero =>
    intro v2 v3 σ
    exact ev_none
  | succ i ih =>
    intro v2 v3 σ
    rw [fn_X7_sumOf_b64_s]
    refine ev_iload_n (pc := 64) (i := 3) 3 dX7_sumOf_64 rfl rfl ?_
    refine ev_aload_n (pc := 65) (i := 0) 0 dX7_sumOf_65 rfl rfl ?_
    refine ev_getI (pc := 66) 2 ag_C7 (rfl) (by decide) (Nat.le_of_ble_eq_true rfl) rfl rfl ag_fl_X7_93 dX7_sumOf_66 ?_
    refine ev_icmp_ge (pc := 69) (tgt := 119) dX7_sumOf_69 rfl ?_ ?_
    · refine ev_sub [0, 1, 2] rfl ?_
      exact ev_X7_sumOf_b119 n x1 v2 σ
    · refine ev_iload_n (pc := 72) (i := 1) 1 dX7_sumOf_72 rfl rfl ?_
      refine ev_iconst (pc := 73) (v := 5) dX7_sumOf_73 (by decide) ?_
      refine ev_icmp_le (pc := 74) (tgt := 119) dX7_sumOf_74 rfl ?_ ?_
      · refine ev_sub [0, 1, 2] rfl ?_
        exact ev_X7_sumOf_b119 n x1 v2 σ
      · refine ev_iload_n (pc := 77) (i := 2) 2 dX7_sumOf_77 rfl rfl ?_
        refine ev_iload_n (pc := 78) (i := 1) 1 dX7_sumOf_78 rfl rfl ?_
        refine ev_bipush (pc := 79) (v := 6) dX7_sumOf_79 (by decide) ?_
        refine ev_icmp_ne (pc := 81) (tgt := 102) dX7_sumOf_81 rfl ?_ ?_
        · refine ev_aload_n (pc := 84) (i := 0) 0 dX7_sumOf_84 rfl rfl ?_
          refine ev_getR (pc := 85) (t := 57) 5 ag_C7 (rfl) (by decide) (Nat.le_of_ble_eq_true rfl) rfl rfl ag_fl_X7_19 dX7_sumOf_85 ?_
          refine ev_iload_n (pc := 88) (i := 3) 3 dX7_sumOf_88 rfl rfl ?_
          refine ev_iald (pc := 89) (rfl) (by decide) dX7_sumOf_89 ?_
          refine ev_iconst (pc := 90) (v := 1) dX7_sumOf_90 (by decide) ?_
          refine ev_icmp_ne (pc := 91) (tgt := 98) dX7_sumOf_91 rfl ?_ ?_
          · refine ev_iconst (pc := 94) (v := 1) dX7_sumOf_94 (by decide) ?_
            refine ev_goto (pc := 95) (tgt := 111) dX7_sumOf_95 rfl ?_
            refine ev_sub [0, 1, 3] rfl ?_
            exact ev_X7_sumOf_b111 n x1 (fn_X7_sumOf_b64 n x1 i) ih v3 v2 1 σ
          · refine ev_iconst (pc := 98) (v := 0) dX7_sumOf_98 (by decide) ?_
            refine ev_goto (pc := 99) (tgt := 111) dX7_sumOf_99 rfl ?_
            refine ev_sub [0, 1, 3] rfl ?_
            exact ev_X7_sumOf_b111 n x1 (fn_X7_sumOf_b64 n x1 i) ih v3 v2 0 σ
        · refine ev_aload_n (pc := 102) (i := 0) 0 dX7_sumOf_102 rfl rfl ?_
          refine ev_getR (pc := 103) (t := 58) 6 ag_C7 (rfl) (by decide) (Nat.le_of_ble_eq_true rfl) rfl rfl ag_fl_X7_22 dX7_sumOf_103 ?_
          refine ev_iload_n (pc := 106) (i := 3) 3 dX7_sumOf_106 rfl rfl ?_
          refine ev_iald (pc := 107) (rfl) (by decide) dX7_sumOf_107 ?_
          refine ev_sI (pc := 108) (as := [.int (σ 58 v3.toNatClampNeg)]) (rest := [.int v2]) ⟨229, ms_X7_ones, ag_ml_X7_229, rfl, (Nat.le_of_ble_eq_true rfl), ⟨(Nat.le_of_ble_eq_true rfl), (Nat.le_of_ble_eq_true rfl)⟩, dX7_sumOf_108⟩ (im_X7_ones n (σ 58 v3.toNatClampNeg) σ) (fun q428 => ?_)
          refine ev_sub [0, 1, 3] rfl ?_
          exact ev_X7_sumOf_b111 n x1 (fn_X7_sumOf_b64 n x1 i) ih v3 v2 q428 σ
def fn_X7_sumOf_b62 (n : Nat) (x1 : Int32)  (v2 : Int32) (σ : Sg) : Option (Int32 × Sg) :=
  (fn_X7_sumOf_b64 n x1 n v2 0 σ)
set_option maxRecDepth 20000 in
set_option maxHeartbeats 4000000 in
theorem ev_X7_sumOf_b62 (n : Nat) (x1 : Int32)  (v2 : Int32) (σ : Sg) : Ev mX7_sumOf 6 137 jW 62 [(0, .ref 53), (1, .int x1), (2, .int v2)] [] σ (fn_X7_sumOf_b62 n x1 v2 σ) := by
  unfold fn_X7_sumOf_b62
  refine ev_iconst (pc := 62) (v := 0) dX7_sumOf_62 (by decide) ?_
  refine ev_istore_n (pc := 63) (i := 3) (lv' := [(3, .int 0), (0, .ref 53), (1, .int x1), (2, .int v2)]) dX7_sumOf_63 rfl (Nat.le_of_ble_eq_true rfl) rfl ?_
  refine ev_sub [1, 2, 3, 0] rfl ?_
  exact ev_X7_sumOf_b64 n x1 n v2 0 σ
def fn_X7_sumOf_b54 (n : Nat) (x1 : Int32) (k11 : Int32 → Int32 → Sg → Option (Int32 × Sg)) (v3 : Int32) (s0 : Int32) (s1 : Int32) (σ : Sg) : Option (Int32 × Sg) :=
  (k11 (s0 + s1) (v3 + 1) σ)
set_option maxRecDepth 20000 in
set_option maxHeartbeats 4000000 in
theorem ev_X7_sumOf_b54 (n : Nat) (x1 : Int32) (k11 : Int32 → Int32 → Sg → Option (Int32 × Sg)) (hk11 : ∀ (v2 : Int32) (v3 : Int32) (σ : Sg), Ev mX7_sumOf 6 137 jW 11 [(0, .ref 53), (1, .int x1), (2, .int v2), (3, .int v3)] [] σ (k11 v2 v3 σ)) (v3 : Int32) (s0 : Int32) (s1 : Int32) (σ : Sg) : Ev mX7_sumOf 6 137 jW 54 [(0, .ref 53), (1, .int x1), (3, .int v3)] [.int s1, .int s0] σ (fn_X7_sumOf_b54 n x1 k11 v3 s0 s1 σ) := by
  unfold fn_X7_sumOf_b54
  refine ev_iadd (pc := 54) dX7_sumOf_54 ?_
  refine ev_istore_n (pc := 55) (i := 2) (lv' := [(2, .int (s0 + s1)), (0, .ref 53), (1, .int x1), (3, .int v3)]) dX7_sumOf_55 rfl (Nat.le_of_ble_eq_true rfl) rfl ?_
  refine ev_iinc (pc := 56) (v := (v3 + 1)) (lv' := [(3, .int (v3 + 1)), (2, .int (s0 + s1)), (0, .ref 53), (1, .int x1)]) 3 dX7_sumOf_56 rfl rfl (Nat.le_of_ble_eq_true rfl) rfl ?_
  refine ev_goto (pc := 59) (tgt := 11) dX7_sumOf_59 rfl ?_
  refine ev_sub [2, 3, 1, 0] rfl ?_
  exact hk11 (s0 + s1) (v3 + 1) σ
def fn_X7_sumOf_b45 (n : Nat) (x1 : Int32) (k11 : Int32 → Int32 → Sg → Option (Int32 × Sg)) (v3 : Int32) (s0 : Int32) (s1 : Int32) (σ : Sg) : Option (Int32 × Sg) :=
  (if s1 = (-1) then (fn_X7_sumOf_b54 n x1 k11 v3 s0 0 σ)
  else (fn_X7_sumOf_b54 n x1 k11 v3 s0 1 σ))
set_option maxRecDepth 20000 in
set_option maxHeartbeats 4000000 in
theorem ev_X7_sumOf_b45 (n : Nat) (x1 : Int32) (k11 : Int32 → Int32 → Sg → Option (Int32 × Sg)) (hk11 : ∀ (v2 : Int32) (v3 : Int32) (σ : Sg), Ev mX7_sumOf 6 137 jW 11 [(0, .ref 53), (1, .int x1), (2, .int v2), (3, .int v3)] [] σ (k11 v2 v3 σ)) (v3 : Int32) (s0 : Int32) (s1 : Int32) (σ : Sg) : Ev mX7_sumOf 6 137 jW 45 [(0, .ref 53), (1, .int x1), (3, .int v3)] [.int s1, .int s0] σ (fn_X7_sumOf_b45 n x1 k11 v3 s0 s1 σ) := by
  unfold fn_X7_sumOf_b45
  refine ev_iconst (pc := 45) (v := (-1)) dX7_sumOf_45 (by decide) ?_
  refine ev_icmp_ne (pc := 46) (tgt := 53) dX7_sumOf_46 rfl ?_ ?_
  · refine ev_iconst (pc := 49) (v := 0) dX7_sumOf_49 (by decide) ?_
    refine ev_goto (pc := 50) (tgt := 54) dX7_sumOf_50 rfl ?_
    exact ev_X7_sumOf_b54 n x1 k11 hk11 v3 s0 0 σ
  · refine ev_iconst (pc := 53) (v := 1) dX7_sumOf_53 (by decide) ?_
    exact ev_X7_sumOf_b54 n x1 k11 hk11 v3 s0 1 σ
def fn_X7_sumOf_b11 (n : Nat) (x1 : Int32)  : Nat → Int32 → Int32 → Sg → Option (Int32 × Sg)
  | 0 => fun _ _ _ => none
  | i + 1 => fun v2 v3 σ =>
  (if (σ 53 7) ≤ v3 then (fn_X7_sumOf_b62 n x1 v2 σ)
  else (if 5 ≤ x1 then (fn_X7_sumOf_b62 n x1 v2 σ)
  else (if x1 = 3 then (if ag_ib v3 13 = true then (fn_X7_sumOf_b45 n x1 (fn_X7_sumOf_b11 n x1 i) v3 v2 (σ 66 v3.toNatClampNeg) σ) else none)
  else (if ag_ib v3 13 = true then (fn_X7_sumOf_b45 n x1 (fn_X7_sumOf_b11 n x1 i) v3 v2 (σ 65 v3.toNatClampNeg) σ) else none))))
theorem fn_X7_sumOf_b11_s (n : Nat) (x1 : Int32)  (i : Nat) (v2 : Int32) (v3 : Int32) (σ : Sg) : fn_X7_sumOf_b11 n x1 (i + 1) v2 v3 σ =
  (if (σ 53 7) ≤ v3 then (fn_X7_sumOf_b62 n x1 v2 σ)
  else (if 5 ≤ x1 then (fn_X7_sumOf_b62 n x1 v2 σ)
  else (if x1 = 3 then (if ag_ib v3 13 = true then (fn_X7_sumOf_b45 n x1 (fn_X7_sumOf_b11 n x1 i) v3 v2 (σ 66 v3.toNatClampNeg) σ) else none)
  else (if ag_ib v3 13 = true then (fn_X7_sumOf_b45 n x1 (fn_X7_sumOf_b11 n x1 i) v3 v2 (σ 65 v3.toNatClampNeg) σ) else none)))) := rfl
set_option maxRecDepth 20000 in
set_option maxHeartbeats 4000000 in
theorem ev_X7_sumOf_b11 (n : Nat) (x1 : Int32)  : ∀ (i : Nat) (v2 : Int32) (v3 : Int32) (σ : Sg), Ev mX7_sumOf 6 137 jW 11 [(0, .ref 53), (1, .int x1), (2, .int v2), (3, .int v3)] [] σ (fn_X7_sumOf_b11 n x1 i v2 v3 σ) := by
  intro i
  induction i with
  | zero =>
    intro v2 v3 σ
    exact ev_none
  | succ i ih =>
    intro v2 v3 σ
    rw [fn_X7_sumOf_b11_s]
    refine ev_iload_n (pc := 11) (i := 3) 3 dX7_sumOf_11 rfl rfl ?_
    refine ev_aload_n (pc := 12) (i := 0) 0 dX7_sumOf_12 rfl rfl ?_
    refine ev_getI (pc := 13) 7 ag_C7 (rfl) (by decide) (Nat.le_of_ble_eq_true rfl) rfl rfl ag_fl_X7_120 dX7_sumOf_13 ?_
    refine ev_icmp_ge (pc := 16) (tgt := 62) dX7_sumOf_16 rfl ?_ ?_
    · refine ev_sub [0, 1, 2] rfl ?_
      exact ev_X7_sumOf_b62 n x1 v2 σ
    · refine ev_iload_n (pc := 19) (i := 1) 1 dX7_sumOf_19 rfl rfl ?_
      refine ev_iconst (pc := 20) (v := 5) dX7_sumOf_20 (by decide) ?_
      refine ev_icmp_ge (pc := 21) (tgt := 62) dX7_sumOf_21 rfl ?_ ?_
      · refine ev_sub [0, 1, 2] rfl ?_
        exact ev_X7_sumOf_b62 n x1 v2 σ
      · refine ev_iload_n (pc := 24) (i := 2) 2 dX7_sumOf_24 rfl rfl ?_
        refine ev_iload_n (pc := 25) (i := 1) 1 dX7_sumOf_25 rfl rfl ?_
        refine ev_iconst (pc := 26) (v := 3) dX7_sumOf_26 (by decide) ?_
        refine ev_icmp_ne (pc := 27) (tgt := 39) dX7_sumOf_27 rfl ?_ ?_
        · refine ev_aload_n (pc := 30) (i := 0) 0 dX7_sumOf_30 rfl rfl ?_
          refine ev_getR (pc := 31) (t := 66) 21 ag_C7 (rfl) (by decide) (Nat.le_of_ble_eq_true rfl) rfl rfl ag_fl_X7_46 dX7_sumOf_31 ?_
          refine ev_iload_n (pc := 34) (i := 3) 3 dX7_sumOf_34 rfl rfl ?_
          refine ev_iald (pc := 35) (rfl) (by decide) dX7_sumOf_35 ?_
          refine ev_goto (pc := 36) (tgt := 45) dX7_sumOf_36 rfl ?_
          refine ev_sub [0, 1, 3] rfl ?_
          exact ev_X7_sumOf_b45 n x1 (fn_X7_sumOf_b11 n x1 i) ih v3 v2 (σ 66 v3.toNatClampNeg) σ
        · refine ev_aload_n (pc := 39) (i := 0) 0 dX7_sumOf_39 rfl rfl ?_
          refine ev_getR (pc := 40) (t := 65) 20 ag_C7 (rfl) (by decide) (Nat.le_of_ble_eq_true rfl) rfl rfl ag_fl_X7_43 dX7_sumOf_40 ?_
          refine ev_iload_n (pc := 43) (i := 3) 3 dX7_sumOf_43 rfl rfl ?_
          refine ev_iald (pc := 44) (rfl) (by decide) dX7_sumOf_44 ?_
          refine ev_sub [0, 1, 3] rfl ?_
          exact ev_X7_sumOf_b45 n x1 (fn_X7_sumOf_b11 n x1 i) ih v3 v2 (σ 65 v3.toNatClampNeg) σ
def fn_X7_sumOf (n : Nat) (x1 : Int32) (σ : Sg) : Option (Int32 × Sg) :=
  (Option.bind (fn_X7_runsTo n 199 σ) fun q429 =>
  (fn_X7_sumOf_b11 n x1 n 0 0 q429))
set_option maxRecDepth 20000 in
set_option maxHeartbeats 4000000 in
theorem im_X7_sumOf (n : Nat) (x1 : Int32) (σ : Sg) : Im yX7_sumOf mX7_sumOf 6 137 jW [.ref 53, .int x1] σ (fn_X7_sumOf n x1 σ) := by
  refine Im.of (by decide +kernel) rfl rfl (Nat.le_of_ble_eq_true rfl) ?_
  show Ev mX7_sumOf 6 137 jW 0 [(0, .ref 53), (1, .int x1)] [] σ (fn_X7_sumOf n x1 σ)
  unfold fn_X7_sumOf
  refine ev_aload_n (pc := 0) (i := 0) 0 dX7_sumOf_0 rfl rfl ?_
  refine ev_sipush (pc := 1) (v := 199) dX7_sumOf_1 (by decide) ?_
  refine ev_vV (pc := 4) (as := [.int 199]) (rest := []) ⟨7, 179, 37, TX7, tyX7, ag_C7, ⟨(rfl), (by decide)⟩, mv_X7_runsTo, ag_ml_X7_179, rfl, (Nat.le_of_ble_eq_true rfl), ⟨(Nat.le_of_ble_eq_true rfl), (Nat.le_of_ble_eq_true rfl)⟩, dX7_sumOf_4⟩ (im_X7_runsTo n 199 σ) (fun q429 => ?_)
  refine ev_iconst (pc := 7) (v := 0) dX7_sumOf_7 (by decide) ?_
  refine ev_istore_n (pc := 8) (i := 2) (lv' := [(2, .int 0), (0, .ref 53), (1, .int x1)]) dX7_sumOf_8 rfl (Nat.le_of_ble_eq_true rfl) rfl ?_
  refine ev_iconst (pc := 9) (v := 0) dX7_sumOf_9 (by decide) ?_
  refine ev_istore_n (pc := 10) (i := 3) (lv' := [(3, .int 0), (2, .int 0), (0, .ref 53), (1, .int x1)]) dX7_sumOf_10 rfl (Nat.le_of_ble_eq_true rfl) rfl ?_
  refine ev_sub [2, 3, 1, 0] rfl ?_
  exact ev_X7_sumOf_b11 n x1 n 0 0 q429
-- X7_count
def mX7_count : Md := (RX7, cX7_count, 2, some .int, none)
theorem mv_X7_count : ag_Mv yX7_count mX7_count 1 := ⟨ag_co_X7_count, ag_im_X7_count, ag_se_X7_count, ag_ini_X7, by decide +kernel⟩
theorem dX7_count_0 : decode mX7_count.2.1 0 = .ok (.iload_n 1, 1) := by decide +kernel
theorem dX7_count_1 : decode mX7_count.2.1 1 = .ok (.tableswitch 77 0 8 #[51, 57, 62, 51, 51, 67, 51, 51, 72], 51) := by decide +kernel
theorem dX7_count_52 : decode mX7_count.2.1 52 = .ok (.aload_n 0, 1) := by decide +kernel
theorem dX7_count_53 : decode mX7_count.2.1 53 = .ok (.iload_n 1, 1) := by decide +kernel
theorem dX7_count_54 : decode mX7_count.2.1 54 = .ok (.invokevirtual 280, 3) := by decide +kernel
theorem dX7_count_57 : decode mX7_count.2.1 57 = .ok (.ireturn, 1) := by decide +kernel
theorem dX7_count_58 : decode mX7_count.2.1 58 = .ok (.aload_n 0, 1) := by decide +kernel
theorem dX7_count_59 : decode mX7_count.2.1 59 = .ok (.getfield 89, 3) := by decide +kernel
theorem dX7_count_62 : decode mX7_count.2.1 62 = .ok (.ireturn, 1) := by decide +kernel
theorem dX7_count_63 : decode mX7_count.2.1 63 = .ok (.aload_n 0, 1) := by decide +kernel
theorem dX7_count_64 : decode mX7_count.2.1 64 = .ok (.getfield 120, 3) := by decide +kernel
theorem dX7_count_67 : decode mX7_count.2.1 67 = .ok (.ireturn, 1) := by decide +kernel
theorem dX7_count_68 : decode mX7_count.2.1 68 = .ok (.aload_n 0, 1) := by decide +kernel
theorem dX7_count_69 : decode mX7_count.2.1 69 = .ok (.getfield 238, 3) := by decide +kernel
theorem dX7_count_72 : decode mX7_count.2.1 72 = .ok (.ireturn, 1) := by decide +kernel
theorem dX7_count_73 : decode mX7_count.2.1 73 = .ok (.aload_n 0, 1) := by decide +kernel
theorem dX7_count_74 : decode mX7_count.2.1 74 = .ok (.getfield 269, 3) := by decide +kernel
theorem dX7_count_77 : decode mX7_count.2.1 77 = .ok (.ireturn, 1) := by decide +kernel
theorem dX7_count_78 : decode mX7_count.2.1 78 = .ok (.bipush (-2), 2) := by decide +kernel
theorem dX7_count_80 : decode mX7_count.2.1 80 = .ok (.ireturn, 1) := by decide +kernel
def fn_X7_count_b52 (n : Nat) (x1 : Int32)   (σ : Sg) : Option (Int32 × Sg) :=
  (Option.bind (fn_X7_sumOf n x1 σ) fun q430 =>
  (some (q430.1, q430.2)))
set_option maxRecDepth 20000 in
set_option maxHeartbeats 4000000 in
theorem ev_X7_count_b52 (n : Nat) (x1 : Int32)   (σ : Sg) : Ev mX7_count 7 160 jW 52 [(0, .ref 53), (1, .int x1)] [] σ (fn_X7_count_b52 n x1  σ) := by
  unfold fn_X7_count_b52
  refine ev_aload_n (pc := 52) (i := 0) 0 dX7_count_52 rfl rfl ?_
  refine ev_iload_n (pc := 53) (i := 1) 1 dX7_count_53 rfl rfl ?_
  refine ev_vW (pc := 54) (as := [.int x1]) (rest := []) ⟨7, 280, 37, TX7, tyX7, ag_C7, ⟨(rfl), (by decide)⟩, mv_X7_sumOf, ag_ml_X7_280, rfl, (Nat.le_of_ble_eq_true rfl), ⟨(Nat.le_of_ble_eq_true rfl), (Nat.le_of_ble_eq_true rfl)⟩, dX7_count_54⟩ (im_X7_sumOf n x1 σ) (fun q430 => ?_)
  exact ev_irW rfl dX7_count_57
def fn_X7_count (n : Nat) (x1 : Int32) (σ : Sg) : Option (Int32 × Sg) :=
  (if x1 = 0 then (fn_X7_count_b52 n x1 σ)
  else (if x1 = 1 then (some ((σ 53 1), σ))
  else (if x1 = 2 then (some ((σ 53 7), σ))
  else (if x1 = 3 then (fn_X7_count_b52 n x1 σ)
  else (if x1 = 4 then (fn_X7_count_b52 n x1 σ)
  else (if x1 = 5 then (some ((σ 53 26), σ))
  else (if x1 = 6 then (fn_X7_count_b52 n x1 σ)
  else (if x1 = 7 then (fn_X7_count_b52 n x1 σ)
  else (if x1 = 8 then (some ((σ 53 36), σ))
  else (some ((-2), σ)))))))))))
set_option maxRecDepth 20000 in
set_option maxHeartbeats 4000000 in
theorem im_X7_count (n : Nat) (x1 : Int32) (σ : Sg) : Im yX7_count mX7_count 7 160 jW [.ref 53, .int x1] σ (fn_X7_count n x1 σ) := by
  refine Im.of (by decide +kernel) rfl rfl (Nat.le_of_ble_eq_true rfl) ?_
  show Ev mX7_count 7 160 jW 0 [(0, .ref 53), (1, .int x1)] [] σ (fn_X7_count n x1 σ)
  unfold fn_X7_count
  refine ev_iload_n (pc := 0) (i := 1) 1 dX7_count_0 rfl rfl ?_
  refine ev_ite (fun hc0 => ?_) (fun hc0 => ?_)
  · refine ev_tin (pc := 1) (tgt := 52) dX7_count_1 (by rw [hc0]; decide) (by rw [hc0]; decide) (by rw [hc0]; rfl) rfl ?_
    exact ev_X7_count_b52 n x1 σ
  · skip
    refine ev_ite (fun hc1 => ?_) (fun hc1 => ?_)
    · refine ev_tin (pc := 1) (tgt := 58) dX7_count_1 (by rw [hc1]; decide) (by rw [hc1]; decide) (by rw [hc1]; rfl) rfl ?_
      refine ev_aload_n (pc := 58) (i := 0) 0 dX7_count_58 rfl rfl ?_
      refine ev_getI (pc := 59) 1 ag_C7 (rfl) (by decide) (Nat.le_of_ble_eq_true rfl) rfl rfl ag_fl_X7_89 dX7_count_59 ?_
      exact ev_irW rfl dX7_count_62
    · skip
      refine ev_ite (fun hc2 => ?_) (fun hc2 => ?_)
      · refine ev_tin (pc := 1) (tgt := 63) dX7_count_1 (by rw [hc2]; decide) (by rw [hc2]; decide) (by rw [hc2]; rfl) rfl ?_
        refine ev_aload_n (pc := 63) (i := 0) 0 dX7_count_63 rfl rfl ?_
        refine ev_getI (pc := 64) 7 ag_C7 (rfl) (by decide) (Nat.le_of_ble_eq_true rfl) rfl rfl ag_fl_X7_120 dX7_count_64 ?_
        exact ev_irW rfl dX7_count_67
      · skip
        refine ev_ite (fun hc3 => ?_) (fun hc3 => ?_)
        · refine ev_tin (pc := 1) (tgt := 52) dX7_count_1 (by rw [hc3]; decide) (by rw [hc3]; decide) (by rw [hc3]; rfl) rfl ?_
          exact ev_X7_count_b52 n x1 σ
        · skip
          refine ev_ite (fun hc4 => ?_) (fun hc4 => ?_)
          · refine ev_tin (pc := 1) (tgt := 52) dX7_count_1 (by rw [hc4]; decide) (by rw [hc4]; decide) (by rw [hc4]; rfl) rfl ?_
            exact ev_X7_count_b52 n x1 σ
          · skip
            refine ev_ite (fun hc5 => ?_) (fun hc5 => ?_)
            · refine ev_tin (pc := 1) (tgt := 68) dX7_count_1 (by rw [hc5]; decide) (by rw [hc5]; decide) (by rw [hc5]; rfl) rfl ?_
              refine ev_aload_n (pc := 68) (i := 0) 0 dX7_count_68 rfl rfl ?_
              refine ev_getI (pc := 69) 26 ag_C7 (rfl) (by decide) (Nat.le_of_ble_eq_true rfl) rfl rfl ag_fl_X7_238 dX7_count_69 ?_
              exact ev_irW rfl dX7_count_72
            · skip
              refine ev_ite (fun hc6 => ?_) (fun hc6 => ?_)
              · refine ev_tin (pc := 1) (tgt := 52) dX7_count_1 (by rw [hc6]; decide) (by rw [hc6]; decide) (by rw [hc6]; rfl) rfl ?_
                exact ev_X7_count_b52 n x1 σ
              · skip
                refine ev_ite (fun hc7 => ?_) (fun hc7 => ?_)
                · refine ev_tin (pc := 1) (tgt := 52) dX7_count_1 (by rw [hc7]; decide) (by rw [hc7]; decide) (by rw [hc7]; rfl) rfl ?_
                  exact ev_X7_count_b52 n x1 σ
                · skip
                  refine ev_ite (fun hc8 => ?_) (fun hc8 => ?_)
                  · refine ev_tin (pc := 1) (tgt := 73) dX7_count_1 (by rw [hc8]; decide) (by rw [hc8]; decide) (by rw [hc8]; rfl) rfl ?_
                    refine ev_aload_n (pc := 73) (i := 0) 0 dX7_count_73 rfl rfl ?_
                    refine ev_getI (pc := 74) 36 ag_C7 (rfl) (by decide) (Nat.le_of_ble_eq_true rfl) rfl rfl ag_fl_X7_269 dX7_count_74 ?_
                    exact ev_irW rfl dX7_count_77
                  · have hn0 := lv_neT (a := 0) hc0 rfl
                    have hn1 := lv_neT (a := 1) hc1 rfl
                    have hn2 := lv_neT (a := 2) hc2 rfl
                    have hn3 := lv_neT (a := 3) hc3 rfl
                    have hn4 := lv_neT (a := 4) hc4 rfl
                    have hn5 := lv_neT (a := 5) hc5 rfl
                    have hn6 := lv_neT (a := 6) hc6 rfl
                    have hn7 := lv_neT (a := 7) hc7 rfl
                    have hn8 := lv_neT (a := 8) hc8 rfl
                    refine ev_tout (pc := 1) (tgt := 78) dX7_count_1 (by omega) rfl ?_
                    refine ev_bipush (pc := 78) (v := (-2)) dX7_count_78 (by decide) ?_
                    exact ev_irW rfl dX7_count_80
-- X7_digest
def mX7_digest : Md := (RX7, cX7_digest, 5, some .long, none)
theorem mv_X7_digest : ag_Mv yX7_digest mX7_digest 0 := ⟨ag_co_X7_digest, ag_im_X7_digest, ag_se_X7_digest, ag_ini_X7, by decide +kernel⟩
theorem dX7_digest_0 : decode mX7_digest.2.1 0 = .ok (.ldc2_w 283, 3) := by decide +kernel
theorem dX7_digest_3 : decode mX7_digest.2.1 3 = .ok (.lstore_n 1, 1) := by decide +kernel
theorem dX7_digest_4 : decode mX7_digest.2.1 4 = .ok (.iconst 0, 1) := by decide +kernel
theorem dX7_digest_5 : decode mX7_digest.2.1 5 = .ok (.istore_n 3, 1) := by decide +kernel
theorem dX7_digest_6 : decode mX7_digest.2.1 6 = .ok (.iload_n 3, 1) := by decide +kernel
theorem dX7_digest_7 : decode mX7_digest.2.1 7 = .ok (.bipush 8, 2) := by decide +kernel
theorem dX7_digest_9 : decode mX7_digest.2.1 9 = .ok (.if_icmp .ge 22, 3) := by decide +kernel
theorem dX7_digest_12 : decode mX7_digest.2.1 12 = .ok (.ldc2_w 285, 3) := by decide +kernel
theorem dX7_digest_15 : decode mX7_digest.2.1 15 = .ok (.lload_n 1, 1) := by decide +kernel
theorem dX7_digest_16 : decode mX7_digest.2.1 16 = .ok (.lmul, 1) := by decide +kernel
theorem dX7_digest_17 : decode mX7_digest.2.1 17 = .ok (.aload_n 0, 1) := by decide +kernel
theorem dX7_digest_18 : decode mX7_digest.2.1 18 = .ok (.iload_n 3, 1) := by decide +kernel
theorem dX7_digest_19 : decode mX7_digest.2.1 19 = .ok (.invokevirtual 287, 3) := by decide +kernel
theorem dX7_digest_22 : decode mX7_digest.2.1 22 = .ok (.i2l, 1) := by decide +kernel
theorem dX7_digest_23 : decode mX7_digest.2.1 23 = .ok (.ladd, 1) := by decide +kernel
theorem dX7_digest_24 : decode mX7_digest.2.1 24 = .ok (.lstore_n 1, 1) := by decide +kernel
theorem dX7_digest_25 : decode mX7_digest.2.1 25 = .ok (.iinc 3 1, 3) := by decide +kernel
theorem dX7_digest_28 : decode mX7_digest.2.1 28 = .ok (.goto (-22), 3) := by decide +kernel
theorem dX7_digest_31 : decode mX7_digest.2.1 31 = .ok (.ldc2_w 285, 3) := by decide +kernel
theorem dX7_digest_34 : decode mX7_digest.2.1 34 = .ok (.lload_n 1, 1) := by decide +kernel
theorem dX7_digest_35 : decode mX7_digest.2.1 35 = .ok (.lmul, 1) := by decide +kernel
theorem dX7_digest_36 : decode mX7_digest.2.1 36 = .ok (.aload_n 0, 1) := by decide +kernel
theorem dX7_digest_37 : decode mX7_digest.2.1 37 = .ok (.invokevirtual 100, 3) := by decide +kernel
theorem dX7_digest_40 : decode mX7_digest.2.1 40 = .ok (.i2l, 1) := by decide +kernel
theorem dX7_digest_41 : decode mX7_digest.2.1 41 = .ok (.ladd, 1) := by decide +kernel
theorem dX7_digest_42 : decode mX7_digest.2.1 42 = .ok (.lstore_n 1, 1) := by decide +kernel
theorem dX7_digest_43 : decode mX7_digest.2.1 43 = .ok (.iconst 0, 1) := by decide +kernel
theorem dX7_digest_44 : decode mX7_digest.2.1 44 = .ok (.istore_n 3, 1) := by decide +kernel
theorem dX7_digest_45 : decode mX7_digest.2.1 45 = .ok (.iload_n 3, 1) := by decide +kernel
theorem dX7_digest_46 : decode mX7_digest.2.1 46 = .ok (.aload_n 0, 1) := by decide +kernel
theorem dX7_digest_47 : decode mX7_digest.2.1 47 = .ok (.getfield 93, 3) := by decide +kernel
theorem dX7_digest_50 : decode mX7_digest.2.1 50 = .ok (.if_icmp .ge 99, 3) := by decide +kernel
theorem dX7_digest_53 : decode mX7_digest.2.1 53 = .ok (.iconst 0, 1) := by decide +kernel
theorem dX7_digest_54 : decode mX7_digest.2.1 54 = .ok (.istore 4, 2) := by decide +kernel
theorem dX7_digest_56 : decode mX7_digest.2.1 56 = .ok (.iload 4, 2) := by decide +kernel
theorem dX7_digest_58 : decode mX7_digest.2.1 58 = .ok (.iconst 3, 1) := by decide +kernel
theorem dX7_digest_59 : decode mX7_digest.2.1 59 = .ok (.if_icmp .ge 24, 3) := by decide +kernel
theorem dX7_digest_62 : decode mX7_digest.2.1 62 = .ok (.ldc2_w 285, 3) := by decide +kernel
theorem dX7_digest_65 : decode mX7_digest.2.1 65 = .ok (.lload_n 1, 1) := by decide +kernel
theorem dX7_digest_66 : decode mX7_digest.2.1 66 = .ok (.lmul, 1) := by decide +kernel
theorem dX7_digest_67 : decode mX7_digest.2.1 67 = .ok (.aload_n 0, 1) := by decide +kernel
theorem dX7_digest_68 : decode mX7_digest.2.1 68 = .ok (.iload_n 3, 1) := by decide +kernel
theorem dX7_digest_69 : decode mX7_digest.2.1 69 = .ok (.iload 4, 2) := by decide +kernel
theorem dX7_digest_71 : decode mX7_digest.2.1 71 = .ok (.invokevirtual 290, 3) := by decide +kernel
theorem dX7_digest_74 : decode mX7_digest.2.1 74 = .ok (.i2l, 1) := by decide +kernel
theorem dX7_digest_75 : decode mX7_digest.2.1 75 = .ok (.ladd, 1) := by decide +kernel
theorem dX7_digest_76 : decode mX7_digest.2.1 76 = .ok (.lstore_n 1, 1) := by decide +kernel
theorem dX7_digest_77 : decode mX7_digest.2.1 77 = .ok (.iinc 4 1, 3) := by decide +kernel
theorem dX7_digest_80 : decode mX7_digest.2.1 80 = .ok (.goto (-24), 3) := by decide +kernel
theorem dX7_digest_83 : decode mX7_digest.2.1 83 = .ok (.ldc2_w 285, 3) := by decide +kernel
theorem dX7_digest_86 : decode mX7_digest.2.1 86 = .ok (.lload_n 1, 1) := by decide +kernel
theorem dX7_digest_87 : decode mX7_digest.2.1 87 = .ok (.lmul, 1) := by decide +kernel
theorem dX7_digest_88 : decode mX7_digest.2.1 88 = .ok (.aload_n 0, 1) := by decide +kernel
theorem dX7_digest_89 : decode mX7_digest.2.1 89 = .ok (.bipush 50, 2) := by decide +kernel
theorem dX7_digest_91 : decode mX7_digest.2.1 91 = .ok (.iload_n 3, 1) := by decide +kernel
theorem dX7_digest_92 : decode mX7_digest.2.1 92 = .ok (.invokevirtual 195, 3) := by decide +kernel
theorem dX7_digest_95 : decode mX7_digest.2.1 95 = .ok (.i2l, 1) := by decide +kernel
theorem dX7_digest_96 : decode mX7_digest.2.1 96 = .ok (.ladd, 1) := by decide +kernel
theorem dX7_digest_97 : decode mX7_digest.2.1 97 = .ok (.lstore_n 1, 1) := by decide +kernel
theorem dX7_digest_98 : decode mX7_digest.2.1 98 = .ok (.ldc2_w 285, 3) := by decide +kernel
theorem dX7_digest_101 : decode mX7_digest.2.1 101 = .ok (.lload_n 1, 1) := by decide +kernel
theorem dX7_digest_102 : decode mX7_digest.2.1 102 = .ok (.lmul, 1) := by decide +kernel
theorem dX7_digest_103 : decode mX7_digest.2.1 103 = .ok (.aload_n 0, 1) := by decide +kernel
theorem dX7_digest_104 : decode mX7_digest.2.1 104 = .ok (.sipush 199, 3) := by decide +kernel
theorem dX7_digest_107 : decode mX7_digest.2.1 107 = .ok (.iload_n 3, 1) := by decide +kernel
theorem dX7_digest_108 : decode mX7_digest.2.1 108 = .ok (.invokevirtual 195, 3) := by decide +kernel
theorem dX7_digest_111 : decode mX7_digest.2.1 111 = .ok (.i2l, 1) := by decide +kernel
theorem dX7_digest_112 : decode mX7_digest.2.1 112 = .ok (.ladd, 1) := by decide +kernel
theorem dX7_digest_113 : decode mX7_digest.2.1 113 = .ok (.lstore_n 1, 1) := by decide +kernel
theorem dX7_digest_114 : decode mX7_digest.2.1 114 = .ok (.ldc2_w 285, 3) := by decide +kernel
theorem dX7_digest_117 : decode mX7_digest.2.1 117 = .ok (.lload_n 1, 1) := by decide +kernel
theorem dX7_digest_118 : decode mX7_digest.2.1 118 = .ok (.lmul, 1) := by decide +kernel
theorem dX7_digest_119 : decode mX7_digest.2.1 119 = .ok (.aload_n 0, 1) := by decide +kernel
theorem dX7_digest_120 : decode mX7_digest.2.1 120 = .ok (.iload_n 3, 1) := by decide +kernel
theorem dX7_digest_121 : decode mX7_digest.2.1 121 = .ok (.iconst 0, 1) := by decide +kernel
theorem dX7_digest_122 : decode mX7_digest.2.1 122 = .ok (.invokevirtual 202, 3) := by decide +kernel
theorem dX7_digest_125 : decode mX7_digest.2.1 125 = .ok (.i2l, 1) := by decide +kernel
theorem dX7_digest_126 : decode mX7_digest.2.1 126 = .ok (.ladd, 1) := by decide +kernel
theorem dX7_digest_127 : decode mX7_digest.2.1 127 = .ok (.lstore_n 1, 1) := by decide +kernel
theorem dX7_digest_128 : decode mX7_digest.2.1 128 = .ok (.ldc2_w 285, 3) := by decide +kernel
theorem dX7_digest_131 : decode mX7_digest.2.1 131 = .ok (.lload_n 1, 1) := by decide +kernel
theorem dX7_digest_132 : decode mX7_digest.2.1 132 = .ok (.lmul, 1) := by decide +kernel
theorem dX7_digest_133 : decode mX7_digest.2.1 133 = .ok (.aload_n 0, 1) := by decide +kernel
theorem dX7_digest_134 : decode mX7_digest.2.1 134 = .ok (.iload_n 3, 1) := by decide +kernel
theorem dX7_digest_135 : decode mX7_digest.2.1 135 = .ok (.bipush 40, 2) := by decide +kernel
theorem dX7_digest_137 : decode mX7_digest.2.1 137 = .ok (.invokevirtual 176, 3) := by decide +kernel
theorem dX7_digest_140 : decode mX7_digest.2.1 140 = .ok (.i2l, 1) := by decide +kernel
theorem dX7_digest_141 : decode mX7_digest.2.1 141 = .ok (.ladd, 1) := by decide +kernel
theorem dX7_digest_142 : decode mX7_digest.2.1 142 = .ok (.lstore_n 1, 1) := by decide +kernel
theorem dX7_digest_143 : decode mX7_digest.2.1 143 = .ok (.iinc 3 1, 3) := by decide +kernel
theorem dX7_digest_146 : decode mX7_digest.2.1 146 = .ok (.goto (-101), 3) := by decide +kernel
theorem dX7_digest_149 : decode mX7_digest.2.1 149 = .ok (.iconst 0, 1) := by decide +kernel
theorem dX7_digest_150 : decode mX7_digest.2.1 150 = .ok (.istore_n 3, 1) := by decide +kernel
theorem dX7_digest_151 : decode mX7_digest.2.1 151 = .ok (.iload_n 3, 1) := by decide +kernel
theorem dX7_digest_152 : decode mX7_digest.2.1 152 = .ok (.aload_n 0, 1) := by decide +kernel
theorem dX7_digest_153 : decode mX7_digest.2.1 153 = .ok (.getfield 120, 3) := by decide +kernel
theorem dX7_digest_156 : decode mX7_digest.2.1 156 = .ok (.if_icmp .ge 48, 3) := by decide +kernel
theorem dX7_digest_159 : decode mX7_digest.2.1 159 = .ok (.ldc2_w 285, 3) := by decide +kernel
theorem dX7_digest_162 : decode mX7_digest.2.1 162 = .ok (.lload_n 1, 1) := by decide +kernel
theorem dX7_digest_163 : decode mX7_digest.2.1 163 = .ok (.lmul, 1) := by decide +kernel
theorem dX7_digest_164 : decode mX7_digest.2.1 164 = .ok (.aload_n 0, 1) := by decide +kernel
theorem dX7_digest_165 : decode mX7_digest.2.1 165 = .ok (.iload_n 3, 1) := by decide +kernel
theorem dX7_digest_166 : decode mX7_digest.2.1 166 = .ok (.invokevirtual 183, 3) := by decide +kernel
theorem dX7_digest_169 : decode mX7_digest.2.1 169 = .ok (.i2l, 1) := by decide +kernel
theorem dX7_digest_170 : decode mX7_digest.2.1 170 = .ok (.ladd, 1) := by decide +kernel
theorem dX7_digest_171 : decode mX7_digest.2.1 171 = .ok (.lstore_n 1, 1) := by decide +kernel
theorem dX7_digest_172 : decode mX7_digest.2.1 172 = .ok (.ldc2_w 285, 3) := by decide +kernel
theorem dX7_digest_175 : decode mX7_digest.2.1 175 = .ok (.lload_n 1, 1) := by decide +kernel
theorem dX7_digest_176 : decode mX7_digest.2.1 176 = .ok (.lmul, 1) := by decide +kernel
theorem dX7_digest_177 : decode mX7_digest.2.1 177 = .ok (.aload_n 0, 1) := by decide +kernel
theorem dX7_digest_178 : decode mX7_digest.2.1 178 = .ok (.iload_n 3, 1) := by decide +kernel
theorem dX7_digest_179 : decode mX7_digest.2.1 179 = .ok (.invokevirtual 186, 3) := by decide +kernel
theorem dX7_digest_182 : decode mX7_digest.2.1 182 = .ok (.i2l, 1) := by decide +kernel
theorem dX7_digest_183 : decode mX7_digest.2.1 183 = .ok (.ladd, 1) := by decide +kernel
theorem dX7_digest_184 : decode mX7_digest.2.1 184 = .ok (.lstore_n 1, 1) := by decide +kernel
theorem dX7_digest_185 : decode mX7_digest.2.1 185 = .ok (.ldc2_w 285, 3) := by decide +kernel
theorem dX7_digest_188 : decode mX7_digest.2.1 188 = .ok (.lload_n 1, 1) := by decide +kernel
theorem dX7_digest_189 : decode mX7_digest.2.1 189 = .ok (.lmul, 1) := by decide +kernel
theorem dX7_digest_190 : decode mX7_digest.2.1 190 = .ok (.aload_n 0, 1) := by decide +kernel
theorem dX7_digest_191 : decode mX7_digest.2.1 191 = .ok (.iload_n 3, 1) := by decide +kernel
theorem dX7_digest_192 : decode mX7_digest.2.1 192 = .ok (.invokevirtual 245, 3) := by decide +kernel
theorem dX7_digest_195 : decode mX7_digest.2.1 195 = .ok (.i2l, 1) := by decide +kernel
theorem dX7_digest_196 : decode mX7_digest.2.1 196 = .ok (.ladd, 1) := by decide +kernel
theorem dX7_digest_197 : decode mX7_digest.2.1 197 = .ok (.lstore_n 1, 1) := by decide +kernel
theorem dX7_digest_198 : decode mX7_digest.2.1 198 = .ok (.iinc 3 1, 3) := by decide +kernel
theorem dX7_digest_201 : decode mX7_digest.2.1 201 = .ok (.goto (-50), 3) := by decide +kernel
theorem dX7_digest_204 : decode mX7_digest.2.1 204 = .ok (.ldc2_w 285, 3) := by decide +kernel
theorem dX7_digest_207 : decode mX7_digest.2.1 207 = .ok (.lload_n 1, 1) := by decide +kernel
theorem dX7_digest_208 : decode mX7_digest.2.1 208 = .ok (.lmul, 1) := by decide +kernel
theorem dX7_digest_209 : decode mX7_digest.2.1 209 = .ok (.aload_n 0, 1) := by decide +kernel
theorem dX7_digest_210 : decode mX7_digest.2.1 210 = .ok (.invokevirtual 205, 3) := by decide +kernel
theorem dX7_digest_213 : decode mX7_digest.2.1 213 = .ok (.i2l, 1) := by decide +kernel
theorem dX7_digest_214 : decode mX7_digest.2.1 214 = .ok (.ladd, 1) := by decide +kernel
theorem dX7_digest_215 : decode mX7_digest.2.1 215 = .ok (.lstore_n 1, 1) := by decide +kernel
theorem dX7_digest_216 : decode mX7_digest.2.1 216 = .ok (.ldc2_w 285, 3) := by decide +kernel
theorem dX7_digest_219 : decode mX7_digest.2.1 219 = .ok (.lload_n 1, 1) := by decide +kernel
theorem dX7_digest_220 : decode mX7_digest.2.1 220 = .ok (.lmul, 1) := by decide +kernel
theorem dX7_digest_221 : decode mX7_digest.2.1 221 = .ok (.aload_n 0, 1) := by decide +kernel
theorem dX7_digest_222 : decode mX7_digest.2.1 222 = .ok (.iconst 0, 1) := by decide +kernel
theorem dX7_digest_223 : decode mX7_digest.2.1 223 = .ok (.invokevirtual 208, 3) := by decide +kernel
theorem dX7_digest_226 : decode mX7_digest.2.1 226 = .ok (.i2l, 1) := by decide +kernel
theorem dX7_digest_227 : decode mX7_digest.2.1 227 = .ok (.ladd, 1) := by decide +kernel
theorem dX7_digest_228 : decode mX7_digest.2.1 228 = .ok (.lstore_n 1, 1) := by decide +kernel
theorem dX7_digest_229 : decode mX7_digest.2.1 229 = .ok (.ldc2_w 285, 3) := by decide +kernel
theorem dX7_digest_232 : decode mX7_digest.2.1 232 = .ok (.lload_n 1, 1) := by decide +kernel
theorem dX7_digest_233 : decode mX7_digest.2.1 233 = .ok (.lmul, 1) := by decide +kernel
theorem dX7_digest_234 : decode mX7_digest.2.1 234 = .ok (.aload_n 0, 1) := by decide +kernel
theorem dX7_digest_235 : decode mX7_digest.2.1 235 = .ok (.iconst 1, 1) := by decide +kernel
theorem dX7_digest_236 : decode mX7_digest.2.1 236 = .ok (.invokevirtual 208, 3) := by decide +kernel
theorem dX7_digest_239 : decode mX7_digest.2.1 239 = .ok (.i2l, 1) := by decide +kernel
theorem dX7_digest_240 : decode mX7_digest.2.1 240 = .ok (.ladd, 1) := by decide +kernel
theorem dX7_digest_241 : decode mX7_digest.2.1 241 = .ok (.lstore_n 1, 1) := by decide +kernel
theorem dX7_digest_242 : decode mX7_digest.2.1 242 = .ok (.ldc2_w 285, 3) := by decide +kernel
theorem dX7_digest_245 : decode mX7_digest.2.1 245 = .ok (.lload_n 1, 1) := by decide +kernel
theorem dX7_digest_246 : decode mX7_digest.2.1 246 = .ok (.lmul, 1) := by decide +kernel
theorem dX7_digest_247 : decode mX7_digest.2.1 247 = .ok (.aload_n 0, 1) := by decide +kernel
theorem dX7_digest_248 : decode mX7_digest.2.1 248 = .ok (.invokevirtual 211, 3) := by decide +kernel
theorem dX7_digest_251 : decode mX7_digest.2.1 251 = .ok (.i2l, 1) := by decide +kernel
theorem dX7_digest_252 : decode mX7_digest.2.1 252 = .ok (.ladd, 1) := by decide +kernel
theorem dX7_digest_253 : decode mX7_digest.2.1 253 = .ok (.lstore_n 1, 1) := by decide +kernel
theorem dX7_digest_254 : decode mX7_digest.2.1 254 = .ok (.ldc2_w 285, 3) := by decide +kernel
theorem dX7_digest_257 : decode mX7_digest.2.1 257 = .ok (.lload_n 1, 1) := by decide +kernel
theorem dX7_digest_258 : decode mX7_digest.2.1 258 = .ok (.lmul, 1) := by decide +kernel
theorem dX7_digest_259 : decode mX7_digest.2.1 259 = .ok (.aload_n 0, 1) := by decide +kernel
theorem dX7_digest_260 : decode mX7_digest.2.1 260 = .ok (.bipush 60, 2) := by decide +kernel
theorem dX7_digest_262 : decode mX7_digest.2.1 262 = .ok (.iconst 0, 1) := by decide +kernel
theorem dX7_digest_263 : decode mX7_digest.2.1 263 = .ok (.invokevirtual 192, 3) := by decide +kernel
theorem dX7_digest_266 : decode mX7_digest.2.1 266 = .ok (.i2l, 1) := by decide +kernel
theorem dX7_digest_267 : decode mX7_digest.2.1 267 = .ok (.ladd, 1) := by decide +kernel
theorem dX7_digest_268 : decode mX7_digest.2.1 268 = .ok (.lstore_n 1, 1) := by decide +kernel
theorem dX7_digest_269 : decode mX7_digest.2.1 269 = .ok (.ldc2_w 285, 3) := by decide +kernel
theorem dX7_digest_272 : decode mX7_digest.2.1 272 = .ok (.lload_n 1, 1) := by decide +kernel
theorem dX7_digest_273 : decode mX7_digest.2.1 273 = .ok (.lmul, 1) := by decide +kernel
theorem dX7_digest_274 : decode mX7_digest.2.1 274 = .ok (.aload_n 0, 1) := by decide +kernel
theorem dX7_digest_275 : decode mX7_digest.2.1 275 = .ok (.bipush 60, 2) := by decide +kernel
theorem dX7_digest_277 : decode mX7_digest.2.1 277 = .ok (.iconst 1, 1) := by decide +kernel
theorem dX7_digest_278 : decode mX7_digest.2.1 278 = .ok (.invokevirtual 192, 3) := by decide +kernel
theorem dX7_digest_281 : decode mX7_digest.2.1 281 = .ok (.i2l, 1) := by decide +kernel
theorem dX7_digest_282 : decode mX7_digest.2.1 282 = .ok (.ladd, 1) := by decide +kernel
theorem dX7_digest_283 : decode mX7_digest.2.1 283 = .ok (.lstore_n 1, 1) := by decide +kernel
theorem dX7_digest_284 : decode mX7_digest.2.1 284 = .ok (.aload_n 0, 1) := by decide +kernel
theorem dX7_digest_285 : decode mX7_digest.2.1 285 = .ok (.iconst 0, 1) := by decide +kernel
theorem dX7_digest_286 : decode mX7_digest.2.1 286 = .ok (.iconst 0, 1) := by decide +kernel
theorem dX7_digest_287 : decode mX7_digest.2.1 287 = .ok (.iconst 0, 1) := by decide +kernel
theorem dX7_digest_288 : decode mX7_digest.2.1 288 = .ok (.invokevirtual 293, 3) := by decide +kernel
theorem dX7_digest_291 : decode mX7_digest.2.1 291 = .ok (.istore_n 3, 1) := by decide +kernel
theorem dX7_digest_292 : decode mX7_digest.2.1 292 = .ok (.ldc2_w 285, 3) := by decide +kernel
theorem dX7_digest_295 : decode mX7_digest.2.1 295 = .ok (.lload_n 1, 1) := by decide +kernel
theorem dX7_digest_296 : decode mX7_digest.2.1 296 = .ok (.lmul, 1) := by decide +kernel
theorem dX7_digest_297 : decode mX7_digest.2.1 297 = .ok (.iload_n 3, 1) := by decide +kernel
theorem dX7_digest_298 : decode mX7_digest.2.1 298 = .ok (.i2l, 1) := by decide +kernel
theorem dX7_digest_299 : decode mX7_digest.2.1 299 = .ok (.ladd, 1) := by decide +kernel
theorem dX7_digest_300 : decode mX7_digest.2.1 300 = .ok (.lstore_n 1, 1) := by decide +kernel
theorem dX7_digest_301 : decode mX7_digest.2.1 301 = .ok (.ldc2_w 285, 3) := by decide +kernel
theorem dX7_digest_304 : decode mX7_digest.2.1 304 = .ok (.lload_n 1, 1) := by decide +kernel
theorem dX7_digest_305 : decode mX7_digest.2.1 305 = .ok (.lmul, 1) := by decide +kernel
theorem dX7_digest_306 : decode mX7_digest.2.1 306 = .ok (.iload_n 3, 1) := by decide +kernel
theorem dX7_digest_307 : decode mX7_digest.2.1 307 = .ok (.bipush (-2), 2) := by decide +kernel
theorem dX7_digest_309 : decode mX7_digest.2.1 309 = .ok (.if_icmp .ne 8, 3) := by decide +kernel
theorem dX7_digest_312 : decode mX7_digest.2.1 312 = .ok (.bipush (-2), 2) := by decide +kernel
theorem dX7_digest_314 : decode mX7_digest.2.1 314 = .ok (.goto 7, 3) := by decide +kernel
theorem dX7_digest_317 : decode mX7_digest.2.1 317 = .ok (.aload_n 0, 1) := by decide +kernel
theorem dX7_digest_318 : decode mX7_digest.2.1 318 = .ok (.getfield 217, 3) := by decide +kernel
theorem dX7_digest_321 : decode mX7_digest.2.1 321 = .ok (.i2l, 1) := by decide +kernel
theorem dX7_digest_322 : decode mX7_digest.2.1 322 = .ok (.ladd, 1) := by decide +kernel
theorem dX7_digest_323 : decode mX7_digest.2.1 323 = .ok (.lstore_n 1, 1) := by decide +kernel
theorem dX7_digest_324 : decode mX7_digest.2.1 324 = .ok (.ldc2_w 285, 3) := by decide +kernel
theorem dX7_digest_327 : decode mX7_digest.2.1 327 = .ok (.lload_n 1, 1) := by decide +kernel
theorem dX7_digest_328 : decode mX7_digest.2.1 328 = .ok (.lmul, 1) := by decide +kernel
theorem dX7_digest_329 : decode mX7_digest.2.1 329 = .ok (.iload_n 3, 1) := by decide +kernel
theorem dX7_digest_330 : decode mX7_digest.2.1 330 = .ok (.bipush (-2), 2) := by decide +kernel
theorem dX7_digest_332 : decode mX7_digest.2.1 332 = .ok (.if_icmp .ne 8, 3) := by decide +kernel
theorem dX7_digest_335 : decode mX7_digest.2.1 335 = .ok (.bipush (-2), 2) := by decide +kernel
theorem dX7_digest_337 : decode mX7_digest.2.1 337 = .ok (.goto 7, 3) := by decide +kernel
theorem dX7_digest_340 : decode mX7_digest.2.1 340 = .ok (.aload_n 0, 1) := by decide +kernel
theorem dX7_digest_341 : decode mX7_digest.2.1 341 = .ok (.getfield 220, 3) := by decide +kernel
theorem dX7_digest_344 : decode mX7_digest.2.1 344 = .ok (.i2l, 1) := by decide +kernel
theorem dX7_digest_345 : decode mX7_digest.2.1 345 = .ok (.ladd, 1) := by decide +kernel
theorem dX7_digest_346 : decode mX7_digest.2.1 346 = .ok (.lstore_n 1, 1) := by decide +kernel
theorem dX7_digest_347 : decode mX7_digest.2.1 347 = .ok (.ldc2_w 285, 3) := by decide +kernel
theorem dX7_digest_350 : decode mX7_digest.2.1 350 = .ok (.lload_n 1, 1) := by decide +kernel
theorem dX7_digest_351 : decode mX7_digest.2.1 351 = .ok (.lmul, 1) := by decide +kernel
theorem dX7_digest_352 : decode mX7_digest.2.1 352 = .ok (.aload_n 0, 1) := by decide +kernel
theorem dX7_digest_353 : decode mX7_digest.2.1 353 = .ok (.iconst 0, 1) := by decide +kernel
theorem dX7_digest_354 : decode mX7_digest.2.1 354 = .ok (.iconst 0, 1) := by decide +kernel
theorem dX7_digest_355 : decode mX7_digest.2.1 355 = .ok (.invokevirtual 296, 3) := by decide +kernel
theorem dX7_digest_358 : decode mX7_digest.2.1 358 = .ok (.i2l, 1) := by decide +kernel
theorem dX7_digest_359 : decode mX7_digest.2.1 359 = .ok (.ladd, 1) := by decide +kernel
theorem dX7_digest_360 : decode mX7_digest.2.1 360 = .ok (.lstore_n 1, 1) := by decide +kernel
theorem dX7_digest_361 : decode mX7_digest.2.1 361 = .ok (.ldc2_w 285, 3) := by decide +kernel
theorem dX7_digest_364 : decode mX7_digest.2.1 364 = .ok (.lload_n 1, 1) := by decide +kernel
theorem dX7_digest_365 : decode mX7_digest.2.1 365 = .ok (.lmul, 1) := by decide +kernel
theorem dX7_digest_366 : decode mX7_digest.2.1 366 = .ok (.aload_n 0, 1) := by decide +kernel
theorem dX7_digest_367 : decode mX7_digest.2.1 367 = .ok (.iconst 0, 1) := by decide +kernel
theorem dX7_digest_368 : decode mX7_digest.2.1 368 = .ok (.iconst 1, 1) := by decide +kernel
theorem dX7_digest_369 : decode mX7_digest.2.1 369 = .ok (.bipush 30, 2) := by decide +kernel
theorem dX7_digest_371 : decode mX7_digest.2.1 371 = .ok (.invokevirtual 299, 3) := by decide +kernel
theorem dX7_digest_374 : decode mX7_digest.2.1 374 = .ok (.i2l, 1) := by decide +kernel
theorem dX7_digest_375 : decode mX7_digest.2.1 375 = .ok (.ladd, 1) := by decide +kernel
theorem dX7_digest_376 : decode mX7_digest.2.1 376 = .ok (.lstore_n 1, 1) := by decide +kernel
theorem dX7_digest_377 : decode mX7_digest.2.1 377 = .ok (.ldc2_w 285, 3) := by decide +kernel
theorem dX7_digest_380 : decode mX7_digest.2.1 380 = .ok (.lload_n 1, 1) := by decide +kernel
theorem dX7_digest_381 : decode mX7_digest.2.1 381 = .ok (.lmul, 1) := by decide +kernel
theorem dX7_digest_382 : decode mX7_digest.2.1 382 = .ok (.aload_n 0, 1) := by decide +kernel
theorem dX7_digest_383 : decode mX7_digest.2.1 383 = .ok (.invokevirtual 248, 3) := by decide +kernel
theorem dX7_digest_386 : decode mX7_digest.2.1 386 = .ok (.i2l, 1) := by decide +kernel
theorem dX7_digest_387 : decode mX7_digest.2.1 387 = .ok (.ladd, 1) := by decide +kernel
theorem dX7_digest_388 : decode mX7_digest.2.1 388 = .ok (.lstore_n 1, 1) := by decide +kernel
theorem dX7_digest_389 : decode mX7_digest.2.1 389 = .ok (.ldc2_w 285, 3) := by decide +kernel
theorem dX7_digest_392 : decode mX7_digest.2.1 392 = .ok (.lload_n 1, 1) := by decide +kernel
theorem dX7_digest_393 : decode mX7_digest.2.1 393 = .ok (.lmul, 1) := by decide +kernel
theorem dX7_digest_394 : decode mX7_digest.2.1 394 = .ok (.aload_n 0, 1) := by decide +kernel
theorem dX7_digest_395 : decode mX7_digest.2.1 395 = .ok (.iconst 4, 1) := by decide +kernel
theorem dX7_digest_396 : decode mX7_digest.2.1 396 = .ok (.iconst 0, 1) := by decide +kernel
theorem dX7_digest_397 : decode mX7_digest.2.1 397 = .ok (.iconst 0, 1) := by decide +kernel
theorem dX7_digest_398 : decode mX7_digest.2.1 398 = .ok (.iconst 0, 1) := by decide +kernel
theorem dX7_digest_399 : decode mX7_digest.2.1 399 = .ok (.invokevirtual 302, 3) := by decide +kernel
theorem dX7_digest_402 : decode mX7_digest.2.1 402 = .ok (.ladd, 1) := by decide +kernel
theorem dX7_digest_403 : decode mX7_digest.2.1 403 = .ok (.lstore_n 1, 1) := by decide +kernel
theorem dX7_digest_404 : decode mX7_digest.2.1 404 = .ok (.ldc2_w 285, 3) := by decide +kernel
theorem dX7_digest_407 : decode mX7_digest.2.1 407 = .ok (.lload_n 1, 1) := by decide +kernel
theorem dX7_digest_408 : decode mX7_digest.2.1 408 = .ok (.lmul, 1) := by decide +kernel
theorem dX7_digest_409 : decode mX7_digest.2.1 409 = .ok (.aload_n 0, 1) := by decide +kernel
theorem dX7_digest_410 : decode mX7_digest.2.1 410 = .ok (.iconst 4, 1) := by decide +kernel
theorem dX7_digest_411 : decode mX7_digest.2.1 411 = .ok (.iconst 0, 1) := by decide +kernel
theorem dX7_digest_412 : decode mX7_digest.2.1 412 = .ok (.iconst 0, 1) := by decide +kernel
theorem dX7_digest_413 : decode mX7_digest.2.1 413 = .ok (.iconst 1, 1) := by decide +kernel
theorem dX7_digest_414 : decode mX7_digest.2.1 414 = .ok (.invokevirtual 302, 3) := by decide +kernel
theorem dX7_digest_417 : decode mX7_digest.2.1 417 = .ok (.ladd, 1) := by decide +kernel
theorem dX7_digest_418 : decode mX7_digest.2.1 418 = .ok (.lstore_n 1, 1) := by decide +kernel
theorem dX7_digest_419 : decode mX7_digest.2.1 419 = .ok (.ldc2_w 285, 3) := by decide +kernel
theorem dX7_digest_422 : decode mX7_digest.2.1 422 = .ok (.lload_n 1, 1) := by decide +kernel
theorem dX7_digest_423 : decode mX7_digest.2.1 423 = .ok (.lmul, 1) := by decide +kernel
theorem dX7_digest_424 : decode mX7_digest.2.1 424 = .ok (.aload_n 0, 1) := by decide +kernel
theorem dX7_digest_425 : decode mX7_digest.2.1 425 = .ok (.bipush 7, 2) := by decide +kernel
theorem dX7_digest_427 : decode mX7_digest.2.1 427 = .ok (.iconst 4, 1) := by decide +kernel
theorem dX7_digest_428 : decode mX7_digest.2.1 428 = .ok (.invokevirtual 266, 3) := by decide +kernel
theorem dX7_digest_431 : decode mX7_digest.2.1 431 = .ok (.i2l, 1) := by decide +kernel
theorem dX7_digest_432 : decode mX7_digest.2.1 432 = .ok (.ladd, 1) := by decide +kernel
theorem dX7_digest_433 : decode mX7_digest.2.1 433 = .ok (.lreturn, 1) := by decide +kernel
def fn_X7_digest_b344 (n : Nat)   (s0 : Int64) (s1 : Int32) (σ : Sg) : Option (Int64 × Sg) :=
  (Option.bind (fn_X7_trust n 0 0 σ) fun q431 =>
  (Option.bind (fn_X7_teach n 0 1 30 q431.2) fun q432 =>
  (Option.bind (fn_X7_forgedNow n q432.2) fun q433 =>
  (Option.bind (fn_X7_chance n 4 0 0 0 q433.2) fun q434 =>
  (Option.bind (fn_X7_chance n 4 0 0 1 q434.2) fun q435 =>
  (Option.bind (fn_X7_drawnOf n 7 4 q435.2) fun q436 =>
  (some (((31 * ((31 * ((31 * ((31 * ((31 * ((31 * (s0 + s1.toInt64)) + q431.1.toInt64)) + q432.1.toInt64)) + q433.1.toInt64)) + q434.1)) + q435.1)) + q436.1.toInt64), q436.2))))))))
set_option maxRecDepth 20000 in
set_option maxHeartbeats 4000000 in
theorem ev_X7_digest_b344 (n : Nat)   (s0 : Int64) (s1 : Int32) (σ : Sg) : Ev mX7_digest 9 217 jM 344 [(0, .ref 53)] [.int s1, .long s0] σ (fn_X7_digest_b344 n s0 s1 σ) := by
  unfold fn_X7_digest_b344
  refine ev_i2l (pc := 344) dX7_digest_344 ?_
  refine ev_ladd (pc := 345) dX7_digest_345 ?_
  refine ev_lstore_n (pc := 346) (i := 1) (lv' := [(1, .long (s0 + s1.toInt64)), (0, .ref 53)]) dX7_digest_346 rfl (Nat.le_of_ble_eq_true rfl) rfl ?_
  refine ev_ldc2 (pc := 347) (v := 31) dX7_digest_347 ag_kl_X7_285 ?_
  refine ev_lload_n (pc := 350) (i := 1) 0 dX7_digest_350 rfl rfl ?_
  refine ev_lmul (pc := 351) dX7_digest_351 ?_
  refine ev_aload_n (pc := 352) (i := 0) 1 dX7_digest_352 rfl rfl ?_
  refine ev_iconst (pc := 353) (v := 0) dX7_digest_353 (by decide) ?_
  refine ev_iconst (pc := 354) (v := 0) dX7_digest_354 (by decide) ?_
  refine ev_vW (pc := 355) (as := [.int 0, .int 0]) (rest := [.long (31 * (s0 + s1.toInt64))]) ⟨7, 296, 37, TX7, tyX7, ag_C7, ⟨(rfl), (by decide)⟩, mv_X7_trust, ag_ml_X7_296, rfl, (Nat.le_of_ble_eq_true rfl), ⟨(Nat.le_of_ble_eq_true rfl), (Nat.le_of_ble_eq_true rfl)⟩, dX7_digest_355⟩ (im_X7_trust n 0 0 σ) (fun q431 => ?_)
  refine ev_i2l (pc := 358) dX7_digest_358 ?_
  refine ev_ladd (pc := 359) dX7_digest_359 ?_
  refine ev_lstore_n (pc := 360) (i := 1) (lv' := [(1, .long ((31 * (s0 + s1.toInt64)) + q431.1.toInt64)), (0, .ref 53)]) dX7_digest_360 rfl (Nat.le_of_ble_eq_true rfl) rfl ?_
  refine ev_ldc2 (pc := 361) (v := 31) dX7_digest_361 ag_kl_X7_285 ?_
  refine ev_lload_n (pc := 364) (i := 1) 0 dX7_digest_364 rfl rfl ?_
  refine ev_lmul (pc := 365) dX7_digest_365 ?_
  refine ev_aload_n (pc := 366) (i := 0) 1 dX7_digest_366 rfl rfl ?_
  refine ev_iconst (pc := 367) (v := 0) dX7_digest_367 (by decide) ?_
  refine ev_iconst (pc := 368) (v := 1) dX7_digest_368 (by decide) ?_
  refine ev_bipush (pc := 369) (v := 30) dX7_digest_369 (by decide) ?_
  refine ev_vW (pc := 371) (as := [.int 0, .int 1, .int 30]) (rest := [.long (31 * ((31 * (s0 + s1.toInt64)) + q431.1.toInt64))]) ⟨7, 299, 37, TX7, tyX7, ag_C7, ⟨(rfl), (by decide)⟩, mv_X7_teach, ag_ml_X7_299, rfl, (Nat.le_of_ble_eq_true rfl), ⟨(Nat.le_of_ble_eq_true rfl), (Nat.le_of_ble_eq_true rfl)⟩, dX7_digest_371⟩ (im_X7_teach n 0 1 30 q431.2) (fun q432 => ?_)
  refine ev_i2l (pc := 374) dX7_digest_374 ?_
  refine ev_ladd (pc := 375) dX7_digest_375 ?_
  refine ev_lstore_n (pc := 376) (i := 1) (lv' := [(1, .long ((31 * ((31 * (s0 + s1.toInt64)) + q431.1.toInt64)) + q432.1.toInt64)), (0, .ref 53)]) dX7_digest_376 rfl (Nat.le_of_ble_eq_true rfl) rfl ?_
  refine ev_ldc2 (pc := 377) (v := 31) dX7_digest_377 ag_kl_X7_285 ?_
  refine ev_lload_n (pc := 380) (i := 1) 0 dX7_digest_380 rfl rfl ?_
  refine ev_lmul (pc := 381) dX7_digest_381 ?_
  refine ev_aload_n (pc := 382) (i := 0) 1 dX7_digest_382 rfl rfl ?_
  refine ev_vW (pc := 383) (as := []) (rest := [.long (31 * ((31 * ((31 * (s0 + s1.toInt64)) + q431.1.toInt64)) + q432.1.toInt64))]) ⟨7, 248, 37, TX7, tyX7, ag_C7, ⟨(rfl), (by decide)⟩, mv_X7_forgedNow, ag_ml_X7_248, rfl, (Nat.le_of_ble_eq_true rfl), ⟨(Nat.le_of_ble_eq_true rfl), (Nat.le_of_ble_eq_true rfl)⟩, dX7_digest_383⟩ (im_X7_forgedNow n q432.2) (fun q433 => ?_)
  refine ev_i2l (pc := 386) dX7_digest_386 ?_
  refine ev_ladd (pc := 387) dX7_digest_387 ?_
  refine ev_lstore_n (pc := 388) (i := 1) (lv' := [(1, .long ((31 * ((31 * ((31 * (s0 + s1.toInt64)) + q431.1.toInt64)) + q432.1.toInt64)) + q433.1.toInt64)), (0, .ref 53)]) dX7_digest_388 rfl (Nat.le_of_ble_eq_true rfl) rfl ?_
  refine ev_ldc2 (pc := 389) (v := 31) dX7_digest_389 ag_kl_X7_285 ?_
  refine ev_lload_n (pc := 392) (i := 1) 0 dX7_digest_392 rfl rfl ?_
  refine ev_lmul (pc := 393) dX7_digest_393 ?_
  refine ev_aload_n (pc := 394) (i := 0) 1 dX7_digest_394 rfl rfl ?_
  refine ev_iconst (pc := 395) (v := 4) dX7_digest_395 (by decide) ?_
  refine ev_iconst (pc := 396) (v := 0) dX7_digest_396 (by decide) ?_
  refine ev_iconst (pc := 397) (v := 0) dX7_digest_397 (by decide) ?_
  refine ev_iconst (pc := 398) (v := 0) dX7_digest_398 (by decide) ?_
  refine ev_vM (pc := 399) (as := [.int 4, .int 0, .int 0, .int 0]) (rest := [.long (31 * ((31 * ((31 * ((31 * (s0 + s1.toInt64)) + q431.1.toInt64)) + q432.1.toInt64)) + q433.1.toInt64))]) ⟨7, 302, 37, TX7, tyX7, ag_C7, ⟨(rfl), (by decide)⟩, mv_X7_chance, ag_ml_X7_302, rfl, (Nat.le_of_ble_eq_true rfl), ⟨(Nat.le_of_ble_eq_true rfl), (Nat.le_of_ble_eq_true rfl)⟩, dX7_digest_399⟩ (im_X7_chance n 4 0 0 0 q433.2) (fun q434 => ?_)
  refine ev_ladd (pc := 402) dX7_digest_402 ?_
  refine ev_lstore_n (pc := 403) (i := 1) (lv' := [(1, .long ((31 * ((31 * ((31 * ((31 * (s0 + s1.toInt64)) + q431.1.toInt64)) + q432.1.toInt64)) + q433.1.toInt64)) + q434.1)), (0, .ref 53)]) dX7_digest_403 rfl (Nat.le_of_ble_eq_true rfl) rfl ?_
  refine ev_ldc2 (pc := 404) (v := 31) dX7_digest_404 ag_kl_X7_285 ?_
  refine ev_lload_n (pc := 407) (i := 1) 0 dX7_digest_407 rfl rfl ?_
  refine ev_lmul (pc := 408) dX7_digest_408 ?_
  refine ev_aload_n (pc := 409) (i := 0) 1 dX7_digest_409 rfl rfl ?_
  refine ev_iconst (pc := 410) (v := 4) dX7_digest_410 (by decide) ?_
  refine ev_iconst (pc := 411) (v := 0) dX7_digest_411 (by decide) ?_
  refine ev_iconst (pc := 412) (v := 0) dX7_digest_412 (by decide) ?_
  refine ev_iconst (pc := 413) (v := 1) dX7_digest_413 (by decide) ?_
  refine ev_vM (pc := 414) (as := [.int 4, .int 0, .int 0, .int 1]) (rest := [.long (31 * ((31 * ((31 * ((31 * ((31 * (s0 + s1.toInt64)) + q431.1.toInt64)) + q432.1.toInt64)) + q433.1.toInt64)) + q434.1))]) ⟨7, 302, 37, TX7, tyX7, ag_C7, ⟨(rfl), (by decide)⟩, mv_X7_chance, ag_ml_X7_302, rfl, (Nat.le_of_ble_eq_true rfl), ⟨(Nat.le_of_ble_eq_true rfl), (Nat.le_of_ble_eq_true rfl)⟩, dX7_digest_414⟩ (im_X7_chance n 4 0 0 1 q434.2) (fun q435 => ?_)
  refine ev_ladd (pc := 417) dX7_digest_417 ?_
  refine ev_lstore_n (pc := 418) (i := 1) (lv' := [(1, .long ((31 * ((31 * ((31 * ((31 * ((31 * (s0 + s1.toInt64)) + q431.1.toInt64)) + q432.1.toInt64)) + q433.1.toInt64)) + q434.1)) + q435.1)), (0, .ref 53)]) dX7_digest_418 rfl (Nat.le_of_ble_eq_true rfl) rfl ?_
  refine ev_ldc2 (pc := 419) (v := 31) dX7_digest_419 ag_kl_X7_285 ?_
  refine ev_lload_n (pc := 422) (i := 1) 0 dX7_digest_422 rfl rfl ?_
  refine ev_lmul (pc := 423) dX7_digest_423 ?_
  refine ev_aload_n (pc := 424) (i := 0) 1 dX7_digest_424 rfl rfl ?_
  refine ev_bipush (pc := 425) (v := 7) dX7_digest_425 (by decide) ?_
  refine ev_iconst (pc := 427) (v := 4) dX7_digest_427 (by decide) ?_
  refine ev_vW (pc := 428) (as := [.int 7, .int 4]) (rest := [.long (31 * ((31 * ((31 * ((31 * ((31 * ((31 * (s0 + s1.toInt64)) + q431.1.toInt64)) + q432.1.toInt64)) + q433.1.toInt64)) + q434.1)) + q435.1))]) ⟨7, 266, 37, TX7, tyX7, ag_C7, ⟨(rfl), (by decide)⟩, mv_X7_drawnOf, ag_ml_X7_266, rfl, (Nat.le_of_ble_eq_true rfl), ⟨(Nat.le_of_ble_eq_true rfl), (Nat.le_of_ble_eq_true rfl)⟩, dX7_digest_428⟩ (im_X7_drawnOf n 7 4 q435.2) (fun q436 => ?_)
  refine ev_i2l (pc := 431) dX7_digest_431 ?_
  refine ev_ladd (pc := 432) dX7_digest_432 ?_
  exact ev_lrM rfl dX7_digest_433
def fn_X7_digest_b321 (n : Nat)   (v3 : Int32) (s0 : Int64) (s1 : Int32) (σ : Sg) : Option (Int64 × Sg) :=
  (if v3 = (-2) then (fn_X7_digest_b344 n (31 * (s0 + s1.toInt64)) (-2) σ)
  else (fn_X7_digest_b344 n (31 * (s0 + s1.toInt64)) (σ 53 24) σ))
set_option maxRecDepth 20000 in
set_option maxHeartbeats 4000000 in
theorem ev_X7_digest_b321 (n : Nat)   (v3 : Int32) (s0 : Int64) (s1 : Int32) (σ : Sg) : Ev mX7_digest 9 217 jM 321 [(0, .ref 53), (3, .int v3)] [.int s1, .long s0] σ (fn_X7_digest_b321 n v3 s0 s1 σ) := by
  unfold fn_X7_digest_b321
  refine ev_i2l (pc := 321) dX7_digest_321 ?_
  refine ev_ladd (pc := 322) dX7_digest_322 ?_
  refine ev_lstore_n (pc := 323) (i := 1) (lv' := [(1, .long (s0 + s1.toInt64)), (0, .ref 53), (3, .int v3)]) dX7_digest_323 rfl (Nat.le_of_ble_eq_true rfl) rfl ?_
  refine ev_ldc2 (pc := 324) (v := 31) dX7_digest_324 ag_kl_X7_285 ?_
  refine ev_lload_n (pc := 327) (i := 1) 0 dX7_digest_327 rfl rfl ?_
  refine ev_lmul (pc := 328) dX7_digest_328 ?_
  refine ev_iload_n (pc := 329) (i := 3) 2 dX7_digest_329 rfl rfl ?_
  refine ev_bipush (pc := 330) (v := (-2)) dX7_digest_330 (by decide) ?_
  refine ev_icmp_ne (pc := 332) (tgt := 340) dX7_digest_332 rfl ?_ ?_
  · refine ev_bipush (pc := 335) (v := (-2)) dX7_digest_335 (by decide) ?_
    refine ev_goto (pc := 337) (tgt := 344) dX7_digest_337 rfl ?_
    refine ev_sub [1] rfl ?_
    exact ev_X7_digest_b344 n (31 * (s0 + s1.toInt64)) (-2) σ
  · refine ev_aload_n (pc := 340) (i := 0) 1 dX7_digest_340 rfl rfl ?_
    refine ev_getI (pc := 341) 24 ag_C7 (rfl) (by decide) (Nat.le_of_ble_eq_true rfl) rfl rfl ag_fl_X7_220 dX7_digest_341 ?_
    refine ev_sub [1] rfl ?_
    exact ev_X7_digest_b344 n (31 * (s0 + s1.toInt64)) (σ 53 24) σ
def fn_X7_digest_b151 (n : Nat)   : Nat → Int64 → Int32 → Sg → Option (Int64 × Sg)
  | 0 => fun _ _ _ => none
  | i + 1 => fun v1 v3 σ =>
  (if (σ 53 7) ≤ v3 then (Option.bind (fn_X7_sealedNow n σ) fun q437 =>
  (Option.bind (fn_X7_loudOf n 0 q437.2) fun q438 =>
  (Option.bind (fn_X7_loudOf n 1 q438.2) fun q439 =>
  (Option.bind (fn_X7_tooSoonNow n q439.2) fun q440 =>
  (Option.bind (fn_X7_waitsOf n 60 0 q440.2) fun q441 =>
  (Option.bind (fn_X7_waitsOf n 60 1 q441.2) fun q442 =>
  (Option.bind (fn_X7_send n 0 0 0 q442.2) fun q443 =>
  (if q443.1 = (-2) then (fn_X7_digest_b321 n q443.1 (31 * ((31 * ((31 * ((31 * ((31 * ((31 * ((31 * ((31 * v1) + q437.1.toInt64)) + q438.1.toInt64)) + q439.1.toInt64)) + q440.1.toInt64)) + q441.1.toInt64)) + q442.1.toInt64)) + q443.1.toInt64)) (-2) q443.2)
  else (fn_X7_digest_b321 n q443.1 (31 * ((31 * ((31 * ((31 * ((31 * ((31 * ((31 * ((31 * v1) + q437.1.toInt64)) + q438.1.toInt64)) + q439.1.toInt64)) + q440.1.toInt64)) + q441.1.toInt64)) + q442.1.toInt64)) + q443.1.toInt64)) (q443.2 53 23) q443.2)))))))))
  else (Option.bind (fn_X7_openedOf n v3 σ) fun q444 =>
  (Option.bind (fn_X7_writtenOf n v3 q444.2) fun q445 =>
  (Option.bind (fn_X7_saidOf n v3 q445.2) fun q446 =>
  ((fn_X7_digest_b151 n i) ((31 * ((31 * ((31 * v1) + q444.1.toInt64)) + q445.1.toInt64)) + q446.1.toInt64) (v3 + 1) q446.2)))))
theorem fn_X7_digest_b151_s (n : Nat)   (i : Nat) (v1 : Int64) (v3 : Int32) (σ : Sg) : fn_X7_digest_b151 n (i + 1) v1 v3 σ =
  (if (σ 53 7) ≤ v3 then (Option.bind (fn_X7_sealedNow n σ) fun q437 =>
  (Option.bind (fn_X7_loudOf n 0 q437.2) fun q438 =>
  (Option.bind (fn_X7_loudOf n 1 q438.2) fun q439 =>
  (Option.bind (fn_X7_tooSoonNow n q439.2) fun q440 =>
  (Option.bind (fn_X7_waitsOf n 60 0 q440.2) fun q441 =>
  (Option.bind (fn_X7_waitsOf n 60 1 q441.2) fun q442 =>
  (Option.bind (fn_X7_send n 0 0 0 q442.2) fun q443 =>
  (if q443.1 = (-2) then (fn_X7_digest_b321 n q443.1 (31 * ((31 * ((31 * ((31 * ((31 * ((31 * ((31 * ((31 * v1) + q437.1.toInt64)) + q438.1.toInt64)) + q439.1.toInt64)) + q440.1.toInt64)) + q441.1.toInt64)) + q442.1.toInt64)) + q443.1.toInt64)) (-2) q443.2)
  else (fn_X7_digest_b321 n q443.1 (31 * ((31 * ((31 * ((31 * ((31 * ((31 * ((31 * ((31 * v1) + q437.1.toInt64)) + q438.1.toInt64)) + q439.1.toInt64)) + q440.1.toInt64)) + q441.1.toInt64)) + q442.1.toInt64)) + q443.1.toInt64)) (q443.2 53 23) q443.2)))))))))
  else (Option.bind (fn_X7_openedOf n v3 σ) fun q444 =>
  (Option.bind (fn_X7_writtenOf n v3 q444.2) fun q445 =>
  (Option.bind (fn_X7_saidOf n v3 q445.2) fun q446 =>
  ((fn_X7_digest_b151 n i) ((31 * ((31 * ((31 * v1) + q444.1.toInt64)) + q445.1.toInt64)) + q446.1.toInt64) (v3 + 1) q446.2))))) := rfl
set_option maxRecDepth 20000 in
set_option maxHeartbeats 4000000 in
theorem ev_X7_digest_b151 (n : Nat)   : ∀ (i : Nat) (v1 : Int64) (v3 : Int32) (σ : Sg), Ev mX7_digest 9 217 jM 151 [(0, .ref 53), (1, .long v1), (3, .int v3)] [] σ (fn_X7_digest_b151 n i v1 v3 σ) := by
  intro i
  induction i with
  | zero =>
    intro v1 v3 σ
    exact ev_none
  | succ i ih =>
    intro v1 v3 σ
    rw [fn_X7_digest_b151_s]
    refine ev_iload_n (pc := 151) (i := 3) 2 dX7_digest_151 rfl rfl ?_
    refine ev_aload_n (pc := 152) (i := 0) 0 dX7_digest_152 rfl rfl ?_
    refine ev_getI (pc := 153) 7 ag_C7 (rfl) (by decide) (Nat.le_of_ble_eq_true rfl) rfl rfl ag_fl_X7_120 dX7_digest_153 ?_
    refine ev_icmp_ge (pc := 156) (tgt := 204) dX7_digest_156 rfl ?_ ?_
    · refine ev_ldc2 (pc := 204) (v := 31) dX7_digest_204 ag_kl_X7_285 ?_
      refine ev_lload_n (pc := 207) (i := 1) 1 dX7_digest_207 rfl rfl ?_
      refine ev_lmul (pc := 208) dX7_digest_208 ?_
      refine ev_aload_n (pc := 209) (i := 0) 0 dX7_digest_209 rfl rfl ?_
      refine ev_vW (pc := 210) (as := []) (rest := [.long (31 * v1)]) ⟨7, 205, 37, TX7, tyX7, ag_C7, ⟨(rfl), (by decide)⟩, mv_X7_sealedNow, ag_ml_X7_205, rfl, (Nat.le_of_ble_eq_true rfl), ⟨(Nat.le_of_ble_eq_true rfl), (Nat.le_of_ble_eq_true rfl)⟩, dX7_digest_210⟩ (im_X7_sealedNow n σ) (fun q437 => ?_)
      refine ev_i2l (pc := 213) dX7_digest_213 ?_
      refine ev_ladd (pc := 214) dX7_digest_214 ?_
      refine ev_lstore_n (pc := 215) (i := 1) (lv' := [(1, .long ((31 * v1) + q437.1.toInt64)), (0, .ref 53), (3, .int v3)]) dX7_digest_215 rfl (Nat.le_of_ble_eq_true rfl) rfl ?_
      refine ev_ldc2 (pc := 216) (v := 31) dX7_digest_216 ag_kl_X7_285 ?_
      refine ev_lload_n (pc := 219) (i := 1) 0 dX7_digest_219 rfl rfl ?_
      refine ev_lmul (pc := 220) dX7_digest_220 ?_
      refine ev_aload_n (pc := 221) (i := 0) 1 dX7_digest_221 rfl rfl ?_
      refine ev_iconst (pc := 222) (v := 0) dX7_digest_222 (by decide) ?_
      refine ev_vW (pc := 223) (as := [.int 0]) (rest := [.long (31 * ((31 * v1) + q437.1.toInt64))]) ⟨7, 208, 37, TX7, tyX7, ag_C7, ⟨(rfl), (by decide)⟩, mv_X7_loudOf, ag_ml_X7_208, rfl, (Nat.le_of_ble_eq_true rfl), ⟨(Nat.le_of_ble_eq_true rfl), (Nat.le_of_ble_eq_true rfl)⟩, dX7_digest_223⟩ (im_X7_loudOf n 0 q437.2) (fun q438 => ?_)
      refine ev_i2l (pc := 226) dX7_digest_226 ?_
      refine ev_ladd (pc := 227) dX7_digest_227 ?_
      refine ev_lstore_n (pc := 228) (i := 1) (lv' := [(1, .long ((31 * ((31 * v1) + q437.1.toInt64)) + q438.1.toInt64)), (0, .ref 53), (3, .int v3)]) dX7_digest_228 rfl (Nat.le_of_ble_eq_true rfl) rfl ?_
      refine ev_ldc2 (pc := 229) (v := 31) dX7_digest_229 ag_kl_X7_285 ?_
      refine ev_lload_n (pc := 232) (i := 1) 0 dX7_digest_232 rfl rfl ?_
      refine ev_lmul (pc := 233) dX7_digest_233 ?_
      refine ev_aload_n (pc := 234) (i := 0) 1 dX7_digest_234 rfl rfl ?_
      refine ev_iconst (pc := 235) (v := 1) dX7_digest_235 (by decide) ?_
      refine ev_vW (pc := 236) (as := [.int 1]) (rest := [.long (31 * ((31 * ((31 * v1) + q437.1.toInt64)) + q438.1.toInt64))]) ⟨7, 208, 37, TX7, tyX7, ag_C7, ⟨(rfl), (by decide)⟩, mv_X7_loudOf, ag_ml_X7_208, rfl, (Nat.le_of_ble_eq_true rfl), ⟨(Nat.le_of_ble_eq_true rfl), (Nat.le_of_ble_eq_true rfl)⟩, dX7_digest_236⟩ (im_X7_loudOf n 1 q438.2) (fun q439 => ?_)
      refine ev_i2l (pc := 239) dX7_digest_239 ?_
      refine ev_ladd (pc := 240) dX7_digest_240 ?_
      refine ev_lstore_n (pc := 241) (i := 1) (lv' := [(1, .long ((31 * ((31 * ((31 * v1) + q437.1.toInt64)) + q438.1.toInt64)) + q439.1.toInt64)), (0, .ref 53), (3, .int v3)]) dX7_digest_241 rfl (Nat.le_of_ble_eq_true rfl) rfl ?_
      refine ev_ldc2 (pc := 242) (v := 31) dX7_digest_242 ag_kl_X7_285 ?_
      refine ev_lload_n (pc := 245) (i := 1) 0 dX7_digest_245 rfl rfl ?_
      refine ev_lmul (pc := 246) dX7_digest_246 ?_
      refine ev_aload_n (pc := 247) (i := 0) 1 dX7_digest_247 rfl rfl ?_
      refine ev_vW (pc := 248) (as := []) (rest := [.long (31 * ((31 * ((31 * ((31 * v1) + q437.1.toInt64)) + q438.1.toInt64)) + q439.1.toInt64))]) ⟨7, 211, 37, TX7, tyX7, ag_C7, ⟨(rfl), (by decide)⟩, mv_X7_tooSoonNow, ag_ml_X7_211, rfl, (Nat.le_of_ble_eq_true rfl), ⟨(Nat.le_of_ble_eq_true rfl), (Nat.le_of_ble_eq_true rfl)⟩, dX7_digest_248⟩ (im_X7_tooSoonNow n q439.2) (fun q440 => ?_)
      refine ev_i2l (pc := 251) dX7_digest_251 ?_
      refine ev_ladd (pc := 252) dX7_digest_252 ?_
      refine ev_lstore_n (pc := 253) (i := 1) (lv' := [(1, .long ((31 * ((31 * ((31 * ((31 * v1) + q437.1.toInt64)) + q438.1.toInt64)) + q439.1.toInt64)) + q440.1.toInt64)), (0, .ref 53), (3, .int v3)]) dX7_digest_253 rfl (Nat.le_of_ble_eq_true rfl) rfl ?_
      refine ev_ldc2 (pc := 254) (v := 31) dX7_digest_254 ag_kl_X7_285 ?_
      refine ev_lload_n (pc := 257) (i := 1) 0 dX7_digest_257 rfl rfl ?_
      refine ev_lmul (pc := 258) dX7_digest_258 ?_
      refine ev_aload_n (pc := 259) (i := 0) 1 dX7_digest_259 rfl rfl ?_
      refine ev_bipush (pc := 260) (v := 60) dX7_digest_260 (by decide) ?_
      refine ev_iconst (pc := 262) (v := 0) dX7_digest_262 (by decide) ?_
      refine ev_vW (pc := 263) (as := [.int 60, .int 0]) (rest := [.long (31 * ((31 * ((31 * ((31 * ((31 * v1) + q437.1.toInt64)) + q438.1.toInt64)) + q439.1.toInt64)) + q440.1.toInt64))]) ⟨7, 192, 37, TX7, tyX7, ag_C7, ⟨(rfl), (by decide)⟩, mv_X7_waitsOf, ag_ml_X7_192, rfl, (Nat.le_of_ble_eq_true rfl), ⟨(Nat.le_of_ble_eq_true rfl), (Nat.le_of_ble_eq_true rfl)⟩, dX7_digest_263⟩ (im_X7_waitsOf n 60 0 q440.2) (fun q441 => ?_)
      refine ev_i2l (pc := 266) dX7_digest_266 ?_
      refine ev_ladd (pc := 267) dX7_digest_267 ?_
      refine ev_lstore_n (pc := 268) (i := 1) (lv' := [(1, .long ((31 * ((31 * ((31 * ((31 * ((31 * v1) + q437.1.toInt64)) + q438.1.toInt64)) + q439.1.toInt64)) + q440.1.toInt64)) + q441.1.toInt64)), (0, .ref 53), (3, .int v3)]) dX7_digest_268 rfl (Nat.le_of_ble_eq_true rfl) rfl ?_
      refine ev_ldc2 (pc := 269) (v := 31) dX7_digest_269 ag_kl_X7_285 ?_
      refine ev_lload_n (pc := 272) (i := 1) 0 dX7_digest_272 rfl rfl ?_
      refine ev_lmul (pc := 273) dX7_digest_273 ?_
      refine ev_aload_n (pc := 274) (i := 0) 1 dX7_digest_274 rfl rfl ?_
      refine ev_bipush (pc := 275) (v := 60) dX7_digest_275 (by decide) ?_
      refine ev_iconst (pc := 277) (v := 1) dX7_digest_277 (by decide) ?_
      refine ev_vW (pc := 278) (as := [.int 60, .int 1]) (rest := [.long (31 * ((31 * ((31 * ((31 * ((31 * ((31 * v1) + q437.1.toInt64)) + q438.1.toInt64)) + q439.1.toInt64)) + q440.1.toInt64)) + q441.1.toInt64))]) ⟨7, 192, 37, TX7, tyX7, ag_C7, ⟨(rfl), (by decide)⟩, mv_X7_waitsOf, ag_ml_X7_192, rfl, (Nat.le_of_ble_eq_true rfl), ⟨(Nat.le_of_ble_eq_true rfl), (Nat.le_of_ble_eq_true rfl)⟩, dX7_digest_278⟩ (im_X7_waitsOf n 60 1 q441.2) (fun q442 => ?_)
      refine ev_i2l (pc := 281) dX7_digest_281 ?_
      refine ev_ladd (pc := 282) dX7_digest_282 ?_
      refine ev_lstore_n (pc := 283) (i := 1) (lv' := [(1, .long ((31 * ((31 * ((31 * ((31 * ((31 * ((31 * v1) + q437.1.toInt64)) + q438.1.toInt64)) + q439.1.toInt64)) + q440.1.toInt64)) + q441.1.toInt64)) + q442.1.toInt64)), (0, .ref 53), (3, .int v3)]) dX7_digest_283 rfl (Nat.le_of_ble_eq_true rfl) rfl ?_
      refine ev_aload_n (pc := 284) (i := 0) 1 dX7_digest_284 rfl rfl ?_
      refine ev_iconst (pc := 285) (v := 0) dX7_digest_285 (by decide) ?_
      refine ev_iconst (pc := 286) (v := 0) dX7_digest_286 (by decide) ?_
      refine ev_iconst (pc := 287) (v := 0) dX7_digest_287 (by decide) ?_
      refine ev_vW (pc := 288) (as := [.int 0, .int 0, .int 0]) (rest := []) ⟨7, 293, 37, TX7, tyX7, ag_C7, ⟨(rfl), (by decide)⟩, mv_X7_send, ag_ml_X7_293, rfl, (Nat.le_of_ble_eq_true rfl), ⟨(Nat.le_of_ble_eq_true rfl), (Nat.le_of_ble_eq_true rfl)⟩, dX7_digest_288⟩ (im_X7_send n 0 0 0 q442.2) (fun q443 => ?_)
      refine ev_istore_n (pc := 291) (i := 3) (lv' := [(3, .int q443.1), (1, .long ((31 * ((31 * ((31 * ((31 * ((31 * ((31 * v1) + q437.1.toInt64)) + q438.1.toInt64)) + q439.1.toInt64)) + q440.1.toInt64)) + q441.1.toInt64)) + q442.1.toInt64)), (0, .ref 53)]) dX7_digest_291 rfl (Nat.le_of_ble_eq_true rfl) rfl ?_
      refine ev_ldc2 (pc := 292) (v := 31) dX7_digest_292 ag_kl_X7_285 ?_
      refine ev_lload_n (pc := 295) (i := 1) 1 dX7_digest_295 rfl rfl ?_
      refine ev_lmul (pc := 296) dX7_digest_296 ?_
      refine ev_iload_n (pc := 297) (i := 3) 0 dX7_digest_297 rfl rfl ?_
      refine ev_i2l (pc := 298) dX7_digest_298 ?_
      refine ev_ladd (pc := 299) dX7_digest_299 ?_
      refine ev_lstore_n (pc := 300) (i := 1) (lv' := [(1, .long ((31 * ((31 * ((31 * ((31 * ((31 * ((31 * ((31 * v1) + q437.1.toInt64)) + q438.1.toInt64)) + q439.1.toInt64)) + q440.1.toInt64)) + q441.1.toInt64)) + q442.1.toInt64)) + q443.1.toInt64)), (3, .int q443.1), (0, .ref 53)]) dX7_digest_300 rfl (Nat.le_of_ble_eq_true rfl) rfl ?_
      refine ev_ldc2 (pc := 301) (v := 31) dX7_digest_301 ag_kl_X7_285 ?_
      refine ev_lload_n (pc := 304) (i := 1) 0 dX7_digest_304 rfl rfl ?_
      refine ev_lmul (pc := 305) dX7_digest_305 ?_
      refine ev_iload_n (pc := 306) (i := 3) 1 dX7_digest_306 rfl rfl ?_
      refine ev_bipush (pc := 307) (v := (-2)) dX7_digest_307 (by decide) ?_
      refine ev_icmp_ne (pc := 309) (tgt := 317) dX7_digest_309 rfl ?_ ?_
      · refine ev_bipush (pc := 312) (v := (-2)) dX7_digest_312 (by decide) ?_
        refine ev_goto (pc := 314) (tgt := 321) dX7_digest_314 rfl ?_
        refine ev_sub [2, 1] rfl ?_
        exact ev_X7_digest_b321 n q443.1 (31 * ((31 * ((31 * ((31 * ((31 * ((31 * ((31 * ((31 * v1) + q437.1.toInt64)) + q438.1.toInt64)) + q439.1.toInt64)) + q440.1.toInt64)) + q441.1.toInt64)) + q442.1.toInt64)) + q443.1.toInt64)) (-2) q443.2
      · refine ev_aload_n (pc := 317) (i := 0) 2 dX7_digest_317 rfl rfl ?_
        refine ev_getI (pc := 318) 23 ag_C7 (rfl) (by decide) (Nat.le_of_ble_eq_true rfl) rfl rfl ag_fl_X7_217 dX7_digest_318 ?_
        refine ev_sub [2, 1] rfl ?_
        exact ev_X7_digest_b321 n q443.1 (31 * ((31 * ((31 * ((31 * ((31 * ((31 * ((31 * ((31 * v1) + q437.1.toInt64)) + q438.1.toInt64)) + q439.1.toInt64)) + q440.1.toInt64)) + q441.1.toInt64)) + q442.1.toInt64)) + q443.1.toInt64)) (q443.2 53 23) q443.2
    · refine ev_ldc2 (pc := 159) (v := 31) dX7_digest_159 ag_kl_X7_285 ?_
      refine ev_lload_n (pc := 162) (i := 1) 1 dX7_digest_162 rfl rfl ?_
      refine ev_lmul (pc := 163) dX7_digest_163 ?_
      refine ev_aload_n (pc := 164) (i := 0) 0 dX7_digest_164 rfl rfl ?_
      refine ev_iload_n (pc := 165) (i := 3) 2 dX7_digest_165 rfl rfl ?_
      refine ev_vW (pc := 166) (as := [.int v3]) (rest := [.long (31 * v1)]) ⟨7, 183, 37, TX7, tyX7, ag_C7, ⟨(rfl), (by decide)⟩, mv_X7_openedOf, ag_ml_X7_183, rfl, (Nat.le_of_ble_eq_true rfl), ⟨(Nat.le_of_ble_eq_true rfl), (Nat.le_of_ble_eq_true rfl)⟩, dX7_digest_166⟩ (im_X7_openedOf n v3 σ) (fun q444 => ?_)
      refine ev_i2l (pc := 169) dX7_digest_169 ?_
      refine ev_ladd (pc := 170) dX7_digest_170 ?_
      refine ev_lstore_n (pc := 171) (i := 1) (lv' := [(1, .long ((31 * v1) + q444.1.toInt64)), (0, .ref 53), (3, .int v3)]) dX7_digest_171 rfl (Nat.le_of_ble_eq_true rfl) rfl ?_
      refine ev_ldc2 (pc := 172) (v := 31) dX7_digest_172 ag_kl_X7_285 ?_
      refine ev_lload_n (pc := 175) (i := 1) 0 dX7_digest_175 rfl rfl ?_
      refine ev_lmul (pc := 176) dX7_digest_176 ?_
      refine ev_aload_n (pc := 177) (i := 0) 1 dX7_digest_177 rfl rfl ?_
      refine ev_iload_n (pc := 178) (i := 3) 2 dX7_digest_178 rfl rfl ?_
      refine ev_vW (pc := 179) (as := [.int v3]) (rest := [.long (31 * ((31 * v1) + q444.1.toInt64))]) ⟨7, 186, 37, TX7, tyX7, ag_C7, ⟨(rfl), (by decide)⟩, mv_X7_writtenOf, ag_ml_X7_186, rfl, (Nat.le_of_ble_eq_true rfl), ⟨(Nat.le_of_ble_eq_true rfl), (Nat.le_of_ble_eq_true rfl)⟩, dX7_digest_179⟩ (im_X7_writtenOf n v3 q444.2) (fun q445 => ?_)
      refine ev_i2l (pc := 182) dX7_digest_182 ?_
      refine ev_ladd (pc := 183) dX7_digest_183 ?_
      refine ev_lstore_n (pc := 184) (i := 1) (lv' := [(1, .long ((31 * ((31 * v1) + q444.1.toInt64)) + q445.1.toInt64)), (0, .ref 53), (3, .int v3)]) dX7_digest_184 rfl (Nat.le_of_ble_eq_true rfl) rfl ?_
      refine ev_ldc2 (pc := 185) (v := 31) dX7_digest_185 ag_kl_X7_285 ?_
      refine ev_lload_n (pc := 188) (i := 1) 0 dX7_digest_188 rfl rfl ?_
      refine ev_lmul (pc := 189) dX7_digest_189 ?_
      refine ev_aload_n (pc := 190) (i := 0) 1 dX7_digest_190 rfl rfl ?_
      refine ev_iload_n (pc := 191) (i := 3) 2 dX7_digest_191 rfl rfl ?_
      refine ev_vW (pc := 192) (as := [.int v3]) (rest := [.long (31 * ((31 * ((31 * v1) + q444.1.toInt64)) + q445.1.toInt64))]) ⟨7, 245, 37, TX7, tyX7, ag_C7, ⟨(rfl), (by decide)⟩, mv_X7_saidOf, ag_ml_X7_245, rfl, (Nat.le_of_ble_eq_true rfl), ⟨(Nat.le_of_ble_eq_true rfl), (Nat.le_of_ble_eq_true rfl)⟩, dX7_digest_192⟩ (im_X7_saidOf n v3 q445.2) (fun q446 => ?_)
      refine ev_i2l (pc := 195) dX7_digest_195 ?_
      refine ev_ladd (pc := 196) dX7_digest_196 ?_
      refine ev_lstore_n (pc := 197) (i := 1) (lv' := [(1, .long ((31 * ((31 * ((31 * v1) + q444.1.toInt64)) + q445.1.toInt64)) + q446.1.toInt64)), (0, .ref 53), (3, .int v3)]) dX7_digest_197 rfl (Nat.le_of_ble_eq_true rfl) rfl ?_
      refine ev_iinc (pc := 198) (v := (v3 + 1)) (lv' := [(3, .int (v3 + 1)), (1, .long ((31 * ((31 * ((31 * v1) + q444.1.toInt64)) + q445.1.toInt64)) + q446.1.toInt64)), (0, .ref 53)]) 2 dX7_digest_198 rfl rfl (Nat.le_of_ble_eq_true rfl) rfl ?_
      refine ev_goto (pc := 201) (tgt := 151) dX7_digest_201 rfl ?_
      refine ev_sub [2, 1, 0] rfl ?_
      exact ih ((31 * ((31 * ((31 * v1) + q444.1.toInt64)) + q445.1.toInt64)) + q446.1.toInt64) (v3 + 1) q446.2
def fn_X7_digest_b56 (n : Nat)  (k45 : Int64 → Int32 → Sg → Option (Int64 × Sg)) : Nat → Int64 → Int32 → Int32 → Sg → Option (Int64 × Sg)
  | 0 => fun _ _ _ _ => none
  | i + 1 => fun v1 v3 v4 σ =>
  (if 3 ≤ v4 then (Option.bind (fn_X7_knownOf n 50 v3 σ) fun q447 =>
  (Option.bind (fn_X7_knownOf n 199 v3 q447.2) fun q448 =>
  (Option.bind (fn_X7_learnedOf n v3 0 q448.2) fun q449 =>
  (Option.bind (fn_X7_ageOf v3 40 q449.2) fun q450 =>
  (k45 ((31 * ((31 * ((31 * ((31 * v1) + q447.1.toInt64)) + q448.1.toInt64)) + q449.1.toInt64)) + q450.toInt64) (v3 + 1) q449.2)))))
  else (Option.bind (fn_X7_person n v3 v4 σ) fun q451 =>
  ((fn_X7_digest_b56 n k45 i) ((31 * v1) + q451.1.toInt64) v3 (v4 + 1) q451.2)))
theorem fn_X7_digest_b56_s (n : Nat)  (k45 : Int64 → Int32 → Sg → Option (Int64 × Sg)) (i : Nat) (v1 : Int64) (v3 : Int32) (v4 : Int32) (σ : Sg) : fn_X7_digest_b56 n k45 (i + 1) v1 v3 v4 σ =
  (if 3 ≤ v4 then (Option.bind (fn_X7_knownOf n 50 v3 σ) fun q447 =>
  (Option.bind (fn_X7_knownOf n 199 v3 q447.2) fun q448 =>
  (Option.bind (fn_X7_learnedOf n v3 0 q448.2) fun q449 =>
  (Option.bind (fn_X7_ageOf v3 40 q449.2) fun q450 =>
  (k45 ((31 * ((31 * ((31 * ((31 * v1) + q447.1.toInt64)) + q448.1.toInt64)) + q449.1.toInt64)) + q450.toInt64) (v3 + 1) q449.2)))))
  else (Option.bind (fn_X7_person n v3 v4 σ) fun q451 =>
  ((fn_X7_digest_b56 n k45 i) ((31 * v1) + q451.1.toInt64) v3 (v4 + 1) q451.2))) := rfl
set_option maxRecDepth 20000 in
set_option maxHeartbeats 4000000 in
theorem ev_X7_digest_b56 (n : Nat)  (k45 : Int64 → Int32 → Sg → Option (Int64 × Sg)) (hk45 : ∀ (v1 : Int64) (v3 : Int32) (σ : Sg), Ev mX7_digest 9 217 jM 45 [(0, .ref 53), (1, .long v1), (3, .int v3)] [] σ (k45 v1 v3 σ)) : ∀ (i : Nat) (v1 : Int64) (v3 : Int32) (v4 : Int32) (σ : Sg), Ev mX7_digest 9 217 jM 56 [(0, .ref 53), (1, .long v1), (3, .int v3), (4, .int v4)] [] σ (fn_X7_digest_b56 n k45 i v1 v3 v4 σ) := by
  intro i
  induction i with
  | zero =>
    intro v1 v3 v4 σ
    exact ev_none
  | succ i ih =>
    intro v1 v3 v4 σ
    rw [fn_X7_digest_b56_s]
    refine ev_iload (pc := 56) 3 dX7_digest_56 rfl ?_
    refine ev_iconst (pc := 58) (v := 3) dX7_digest_58 (by decide) ?_
    refine ev_icmp_ge (pc := 59) (tgt := 83) dX7_digest_59 rfl ?_ ?_
    · refine ev_ldc2 (pc := 83) (v := 31) dX7_digest_83 ag_kl_X7_285 ?_
      refine ev_lload_n (pc := 86) (i := 1) 1 dX7_digest_86 rfl rfl ?_
      refine ev_lmul (pc := 87) dX7_digest_87 ?_
      refine ev_aload_n (pc := 88) (i := 0) 0 dX7_digest_88 rfl rfl ?_
      refine ev_bipush (pc := 89) (v := 50) dX7_digest_89 (by decide) ?_
      refine ev_iload_n (pc := 91) (i := 3) 2 dX7_digest_91 rfl rfl ?_
      refine ev_vW (pc := 92) (as := [.int 50, .int v3]) (rest := [.long (31 * v1)]) ⟨7, 195, 37, TX7, tyX7, ag_C7, ⟨(rfl), (by decide)⟩, mv_X7_knownOf, ag_ml_X7_195, rfl, (Nat.le_of_ble_eq_true rfl), ⟨(Nat.le_of_ble_eq_true rfl), (Nat.le_of_ble_eq_true rfl)⟩, dX7_digest_92⟩ (im_X7_knownOf n 50 v3 σ) (fun q447 => ?_)
      refine ev_i2l (pc := 95) dX7_digest_95 ?_
      refine ev_ladd (pc := 96) dX7_digest_96 ?_
      refine ev_lstore_n (pc := 97) (i := 1) (lv' := [(1, .long ((31 * v1) + q447.1.toInt64)), (0, .ref 53), (3, .int v3), (4, .int v4)]) dX7_digest_97 rfl (Nat.le_of_ble_eq_true rfl) rfl ?_
      refine ev_ldc2 (pc := 98) (v := 31) dX7_digest_98 ag_kl_X7_285 ?_
      refine ev_lload_n (pc := 101) (i := 1) 0 dX7_digest_101 rfl rfl ?_
      refine ev_lmul (pc := 102) dX7_digest_102 ?_
      refine ev_aload_n (pc := 103) (i := 0) 1 dX7_digest_103 rfl rfl ?_
      refine ev_sipush (pc := 104) (v := 199) dX7_digest_104 (by decide) ?_
      refine ev_iload_n (pc := 107) (i := 3) 2 dX7_digest_107 rfl rfl ?_
      refine ev_vW (pc := 108) (as := [.int 199, .int v3]) (rest := [.long (31 * ((31 * v1) + q447.1.toInt64))]) ⟨7, 195, 37, TX7, tyX7, ag_C7, ⟨(rfl), (by decide)⟩, mv_X7_knownOf, ag_ml_X7_195, rfl, (Nat.le_of_ble_eq_true rfl), ⟨(Nat.le_of_ble_eq_true rfl), (Nat.le_of_ble_eq_true rfl)⟩, dX7_digest_108⟩ (im_X7_knownOf n 199 v3 q447.2) (fun q448 => ?_)
      refine ev_i2l (pc := 111) dX7_digest_111 ?_
      refine ev_ladd (pc := 112) dX7_digest_112 ?_
      refine ev_lstore_n (pc := 113) (i := 1) (lv' := [(1, .long ((31 * ((31 * v1) + q447.1.toInt64)) + q448.1.toInt64)), (0, .ref 53), (3, .int v3), (4, .int v4)]) dX7_digest_113 rfl (Nat.le_of_ble_eq_true rfl) rfl ?_
      refine ev_ldc2 (pc := 114) (v := 31) dX7_digest_114 ag_kl_X7_285 ?_
      refine ev_lload_n (pc := 117) (i := 1) 0 dX7_digest_117 rfl rfl ?_
      refine ev_lmul (pc := 118) dX7_digest_118 ?_
      refine ev_aload_n (pc := 119) (i := 0) 1 dX7_digest_119 rfl rfl ?_
      refine ev_iload_n (pc := 120) (i := 3) 2 dX7_digest_120 rfl rfl ?_
      refine ev_iconst (pc := 121) (v := 0) dX7_digest_121 (by decide) ?_
      refine ev_vW (pc := 122) (as := [.int v3, .int 0]) (rest := [.long (31 * ((31 * ((31 * v1) + q447.1.toInt64)) + q448.1.toInt64))]) ⟨7, 202, 37, TX7, tyX7, ag_C7, ⟨(rfl), (by decide)⟩, mv_X7_learnedOf, ag_ml_X7_202, rfl, (Nat.le_of_ble_eq_true rfl), ⟨(Nat.le_of_ble_eq_true rfl), (Nat.le_of_ble_eq_true rfl)⟩, dX7_digest_122⟩ (im_X7_learnedOf n v3 0 q448.2) (fun q449 => ?_)
      refine ev_i2l (pc := 125) dX7_digest_125 ?_
      refine ev_ladd (pc := 126) dX7_digest_126 ?_
      refine ev_lstore_n (pc := 127) (i := 1) (lv' := [(1, .long ((31 * ((31 * ((31 * v1) + q447.1.toInt64)) + q448.1.toInt64)) + q449.1.toInt64)), (0, .ref 53), (3, .int v3), (4, .int v4)]) dX7_digest_127 rfl (Nat.le_of_ble_eq_true rfl) rfl ?_
      refine ev_ldc2 (pc := 128) (v := 31) dX7_digest_128 ag_kl_X7_285 ?_
      refine ev_lload_n (pc := 131) (i := 1) 0 dX7_digest_131 rfl rfl ?_
      refine ev_lmul (pc := 132) dX7_digest_132 ?_
      refine ev_aload_n (pc := 133) (i := 0) 1 dX7_digest_133 rfl rfl ?_
      refine ev_iload_n (pc := 134) (i := 3) 2 dX7_digest_134 rfl rfl ?_
      refine ev_bipush (pc := 135) (v := 40) dX7_digest_135 (by decide) ?_
      refine ev_vI (pc := 137) (as := [.int v3, .int 40]) (rest := [.long (31 * ((31 * ((31 * ((31 * v1) + q447.1.toInt64)) + q448.1.toInt64)) + q449.1.toInt64))]) ⟨7, 176, 37, TX7, tyX7, ag_C7, ⟨(rfl), (by decide)⟩, mv_X7_ageOf, ag_ml_X7_176, rfl, (Nat.le_of_ble_eq_true rfl), ⟨(Nat.le_of_ble_eq_true rfl), (Nat.le_of_ble_eq_true rfl)⟩, dX7_digest_137⟩ (im_X7_ageOf v3 40 q449.2) (fun q450 => ?_)
      refine ev_i2l (pc := 140) dX7_digest_140 ?_
      refine ev_ladd (pc := 141) dX7_digest_141 ?_
      refine ev_lstore_n (pc := 142) (i := 1) (lv' := [(1, .long ((31 * ((31 * ((31 * ((31 * v1) + q447.1.toInt64)) + q448.1.toInt64)) + q449.1.toInt64)) + q450.toInt64)), (0, .ref 53), (3, .int v3), (4, .int v4)]) dX7_digest_142 rfl (Nat.le_of_ble_eq_true rfl) rfl ?_
      refine ev_iinc (pc := 143) (v := (v3 + 1)) (lv' := [(3, .int (v3 + 1)), (1, .long ((31 * ((31 * ((31 * ((31 * v1) + q447.1.toInt64)) + q448.1.toInt64)) + q449.1.toInt64)) + q450.toInt64)), (0, .ref 53), (4, .int v4)]) 2 dX7_digest_143 rfl rfl (Nat.le_of_ble_eq_true rfl) rfl ?_
      refine ev_goto (pc := 146) (tgt := 45) dX7_digest_146 rfl ?_
      refine ev_sub [2, 1, 0] rfl ?_
      exact hk45 ((31 * ((31 * ((31 * ((31 * v1) + q447.1.toInt64)) + q448.1.toInt64)) + q449.1.toInt64)) + q450.toInt64) (v3 + 1) q449.2
    · refine ev_ldc2 (pc := 62) (v := 31) dX7_digest_62 ag_kl_X7_285 ?_
      refine ev_lload_n (pc := 65) (i := 1) 1 dX7_digest_65 rfl rfl ?_
      refine ev_lmul (pc := 66) dX7_digest_66 ?_
      refine ev_aload_n (pc := 67) (i := 0) 0 dX7_digest_67 rfl rfl ?_
      refine ev_iload_n (pc := 68) (i := 3) 2 dX7_digest_68 rfl rfl ?_
      refine ev_iload (pc := 69) 3 dX7_digest_69 rfl ?_
      refine ev_vW (pc := 71) (as := [.int v3, .int v4]) (rest := [.long (31 * v1)]) ⟨7, 290, 37, TX7, tyX7, ag_C7, ⟨(rfl), (by decide)⟩, mv_X7_person, ag_ml_X7_290, rfl, (Nat.le_of_ble_eq_true rfl), ⟨(Nat.le_of_ble_eq_true rfl), (Nat.le_of_ble_eq_true rfl)⟩, dX7_digest_71⟩ (im_X7_person n v3 v4 σ) (fun q451 => ?_)
      refine ev_i2l (pc := 74) dX7_digest_74 ?_
      refine ev_ladd (pc := 75) dX7_digest_75 ?_
      refine ev_lstore_n (pc := 76) (i := 1) (lv' := [(1, .long ((31 * v1) + q451.1.toInt64)), (0, .ref 53), (3, .int v3), (4, .int v4)]) dX7_digest_76 rfl (Nat.le_of_ble_eq_true rfl) rfl ?_
      refine ev_iinc (pc := 77) (v := (v4 + 1)) (lv' := [(4, .int (v4 + 1)), (1, .long ((31 * v1) + q451.1.toInt64)), (0, .ref 53), (3, .int v3)]) 3 dX7_digest_77 rfl rfl (Nat.le_of_ble_eq_true rfl) rfl ?_
      refine ev_goto (pc := 80) (tgt := 56) dX7_digest_80 rfl ?_
      refine ev_sub [2, 1, 3, 0] rfl ?_
      exact ih ((31 * v1) + q451.1.toInt64) v3 (v4 + 1) q451.2
def fn_X7_digest_b45 (n : Nat)   : Nat → Int64 → Int32 → Sg → Option (Int64 × Sg)
  | 0 => fun _ _ _ => none
  | i + 1 => fun v1 v3 σ =>
  (if (σ 53 2) ≤ v3 then (fn_X7_digest_b151 n n v1 0 σ)
  else (fn_X7_digest_b56 n (fn_X7_digest_b45 n i) n v1 v3 0 σ))
theorem fn_X7_digest_b45_s (n : Nat)   (i : Nat) (v1 : Int64) (v3 : Int32) (σ : Sg) : fn_X7_digest_b45 n (i + 1) v1 v3 σ =
  (if (σ 53 2) ≤ v3 then (fn_X7_digest_b151 n n v1 0 σ)
  else (fn_X7_digest_b56 n (fn_X7_digest_b45 n i) n v1 v3 0 σ)) := rfl
set_option maxRecDepth 20000 in
set_option maxHeartbeats 4000000 in
theorem ev_X7_digest_b45 (n : Nat)   : ∀ (i : Nat) (v1 : Int64) (v3 : Int32) (σ : Sg), Ev mX7_digest 9 217 jM 45 [(0, .ref 53), (1, .long v1), (3, .int v3)] [] σ (fn_X7_digest_b45 n i v1 v3 σ) := by
  intro i
  induction i with
  | zero =>
    intro v1 v3 σ
    exact ev_none
  | succ i ih =>
    intro v1 v3 σ
    rw [fn_X7_digest_b45_s]
    refine ev_iload_n (pc := 45) (i := 3) 2 dX7_digest_45 rfl rfl ?_
    refine ev_aload_n (pc := 46) (i := 0) 0 dX7_digest_46 rfl rfl ?_
    refine ev_getI (pc := 47) 2 ag_C7 (rfl) (by decide) (Nat.le_of_ble_eq_true rfl) rfl rfl ag_fl_X7_93 dX7_digest_47 ?_
    refine ev_icmp_ge (pc := 50) (tgt := 149) dX7_digest_50 rfl ?_ ?_
    · refine ev_iconst (pc := 149) (v := 0) dX7_digest_149 (by decide) ?_
      refine ev_istore_n (pc := 150) (i := 3) (lv' := [(3, .int 0), (0, .ref 53), (1, .long v1)]) dX7_digest_150 rfl (Nat.le_of_ble_eq_true rfl) rfl ?_
      refine ev_sub [1, 2, 0] rfl ?_
      exact ev_X7_digest_b151 n n v1 0 σ
    · refine ev_iconst (pc := 53) (v := 0) dX7_digest_53 (by decide) ?_
      refine ev_istore (pc := 54) (lv' := [(4, .int 0), (0, .ref 53), (1, .long v1), (3, .int v3)]) dX7_digest_54 (Nat.le_of_ble_eq_true rfl) rfl ?_
      refine ev_sub [1, 2, 3, 0] rfl ?_
      exact ev_X7_digest_b56 n (fn_X7_digest_b45 n i) ih n v1 v3 0 σ
def fn_X7_digest_b6 (n : Nat)   : Nat → Int64 → Int32 → Sg → Option (Int64 × Sg)
  | 0 => fun _ _ _ => none
  | i + 1 => fun v1 v3 σ =>
  (if 8 ≤ v3 then (Option.bind (fn_X7_faultNow n σ) fun q452 =>
  (fn_X7_digest_b45 n n ((31 * v1) + q452.1.toInt64) 0 q452.2))
  else (Option.bind (fn_X7_count n v3 σ) fun q453 =>
  ((fn_X7_digest_b6 n i) ((31 * v1) + q453.1.toInt64) (v3 + 1) q453.2)))
theorem fn_X7_digest_b6_s (n : Nat)   (i : Nat) (v1 : Int64) (v3 : Int32) (σ : Sg) : fn_X7_digest_b6 n (i + 1) v1 v3 σ =
  (if 8 ≤ v3 then (Option.bind (fn_X7_faultNow n σ) fun q452 =>
  (fn_X7_digest_b45 n n ((31 * v1) + q452.1.toInt64) 0 q452.2))
  else (Option.bind (fn_X7_count n v3 σ) fun q453 =>
  ((fn_X7_digest_b6 n i) ((31 * v1) + q453.1.toInt64) (v3 + 1) q453.2))) := rfl
set_option maxRecDepth 20000 in
set_option maxHeartbeats 4000000 in
theorem ev_X7_digest_b6 (n : Nat)   : ∀ (i : Nat) (v1 : Int64) (v3 : Int32) (σ : Sg), Ev mX7_digest 9 217 jM 6 [(0, .ref 53), (1, .long v1), (3, .int v3)] [] σ (fn_X7_digest_b6 n i v1 v3 σ) := by
  intro i
  induction i with
  | zero =>
    intro v1 v3 σ
    exact ev_none
  | succ i ih =>
    intro v1 v3 σ
    rw [fn_X7_digest_b6_s]
    refine ev_iload_n (pc := 6) (i := 3) 2 dX7_digest_6 rfl rfl ?_
    refine ev_bipush (pc := 7) (v := 8) dX7_digest_7 (by decide) ?_
    refine ev_icmp_ge (pc := 9) (tgt := 31) dX7_digest_9 rfl ?_ ?_
    · refine ev_ldc2 (pc := 31) (v := 31) dX7_digest_31 ag_kl_X7_285 ?_
      refine ev_lload_n (pc := 34) (i := 1) 1 dX7_digest_34 rfl rfl ?_
      refine ev_lmul (pc := 35) dX7_digest_35 ?_
      refine ev_aload_n (pc := 36) (i := 0) 0 dX7_digest_36 rfl rfl ?_
      refine ev_vW (pc := 37) (as := []) (rest := [.long (31 * v1)]) ⟨7, 100, 37, TX7, tyX7, ag_C7, ⟨(rfl), (by decide)⟩, mv_X7_faultNow, ag_ml_X7_100, rfl, (Nat.le_of_ble_eq_true rfl), ⟨(Nat.le_of_ble_eq_true rfl), (Nat.le_of_ble_eq_true rfl)⟩, dX7_digest_37⟩ (im_X7_faultNow n σ) (fun q452 => ?_)
      refine ev_i2l (pc := 40) dX7_digest_40 ?_
      refine ev_ladd (pc := 41) dX7_digest_41 ?_
      refine ev_lstore_n (pc := 42) (i := 1) (lv' := [(1, .long ((31 * v1) + q452.1.toInt64)), (0, .ref 53), (3, .int v3)]) dX7_digest_42 rfl (Nat.le_of_ble_eq_true rfl) rfl ?_
      refine ev_iconst (pc := 43) (v := 0) dX7_digest_43 (by decide) ?_
      refine ev_istore_n (pc := 44) (i := 3) (lv' := [(3, .int 0), (1, .long ((31 * v1) + q452.1.toInt64)), (0, .ref 53)]) dX7_digest_44 rfl (Nat.le_of_ble_eq_true rfl) rfl ?_
      refine ev_sub [2, 1, 0] rfl ?_
      exact ev_X7_digest_b45 n n ((31 * v1) + q452.1.toInt64) 0 q452.2
    · refine ev_ldc2 (pc := 12) (v := 31) dX7_digest_12 ag_kl_X7_285 ?_
      refine ev_lload_n (pc := 15) (i := 1) 1 dX7_digest_15 rfl rfl ?_
      refine ev_lmul (pc := 16) dX7_digest_16 ?_
      refine ev_aload_n (pc := 17) (i := 0) 0 dX7_digest_17 rfl rfl ?_
      refine ev_iload_n (pc := 18) (i := 3) 2 dX7_digest_18 rfl rfl ?_
      refine ev_vW (pc := 19) (as := [.int v3]) (rest := [.long (31 * v1)]) ⟨7, 287, 37, TX7, tyX7, ag_C7, ⟨(rfl), (by decide)⟩, mv_X7_count, ag_ml_X7_287, rfl, (Nat.le_of_ble_eq_true rfl), ⟨(Nat.le_of_ble_eq_true rfl), (Nat.le_of_ble_eq_true rfl)⟩, dX7_digest_19⟩ (im_X7_count n v3 σ) (fun q453 => ?_)
      refine ev_i2l (pc := 22) dX7_digest_22 ?_
      refine ev_ladd (pc := 23) dX7_digest_23 ?_
      refine ev_lstore_n (pc := 24) (i := 1) (lv' := [(1, .long ((31 * v1) + q453.1.toInt64)), (0, .ref 53), (3, .int v3)]) dX7_digest_24 rfl (Nat.le_of_ble_eq_true rfl) rfl ?_
      refine ev_iinc (pc := 25) (v := (v3 + 1)) (lv' := [(3, .int (v3 + 1)), (1, .long ((31 * v1) + q453.1.toInt64)), (0, .ref 53)]) 2 dX7_digest_25 rfl rfl (Nat.le_of_ble_eq_true rfl) rfl ?_
      refine ev_goto (pc := 28) (tgt := 6) dX7_digest_28 rfl ?_
      refine ev_sub [2, 1, 0] rfl ?_
      exact ih ((31 * v1) + q453.1.toInt64) (v3 + 1) q453.2
def fn_X7_digest (n : Nat)  (σ : Sg) : Option (Int64 × Sg) :=
  (fn_X7_digest_b6 n n 17 0 σ)
set_option maxRecDepth 20000 in
set_option maxHeartbeats 4000000 in
theorem im_X7_digest (n : Nat)  (σ : Sg) : Im yX7_digest mX7_digest 9 217 jM [.ref 53] σ (fn_X7_digest n  σ) := by
  refine Im.of (by decide +kernel) rfl rfl (Nat.le_of_ble_eq_true rfl) ?_
  show Ev mX7_digest 9 217 jM 0 [(0, .ref 53)] [] σ (fn_X7_digest n  σ)
  unfold fn_X7_digest
  refine ev_ldc2 (pc := 0) (v := 17) dX7_digest_0 ag_kl_X7_283 ?_
  refine ev_lstore_n (pc := 3) (i := 1) (lv' := [(1, .long 17), (0, .ref 53)]) dX7_digest_3 rfl (Nat.le_of_ble_eq_true rfl) rfl ?_
  refine ev_iconst (pc := 4) (v := 0) dX7_digest_4 (by decide) ?_
  refine ev_istore_n (pc := 5) (i := 3) (lv' := [(3, .int 0), (1, .long 17), (0, .ref 53)]) dX7_digest_5 rfl (Nat.le_of_ble_eq_true rfl) rfl ?_
  refine ev_sub [2, 1, 0] rfl ?_
  exact ev_X7_digest_b6 n n 17 0 σ
