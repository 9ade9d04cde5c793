theorem mL_code (Ls : Nat) (xs : Nat → Int32) : (mL_law Ls xs).2.1 = code := rfl
theorem mL_d {Ls : Nat} {xs : Nat → Int32} {pc n : Nat} {i : Instr} (h : decode code pc = .ok (i, n)) : decode (mL_law Ls xs).2.1 pc = .ok (i, n) := by
  rw [mL_code]
  exact h
def fn_L_law_b1235 (n Ls : Nat) (xs : Nat → Int32) (k18 : Int32 → Sg → Option (Int32 × Sg)) (v3 : Int32) (σ : Sg) : Option (Int32 × Sg) :=
  (k18 (v3 + 6) σ)
set_option maxRecDepth 20000 in
set_option maxHeartbeats 4000000 in
theorem ev_L_law_b1235 (n Ls : Nat) (xs : Nat → Int32) (k18 : Int32 → Sg → Option (Int32 × Sg)) (hk18 : ∀ (v3 : Int32) (σ : Sg), Ev (mL_law Ls xs) 10 241 jW 18 [(0, .ref 77), (1, .ref 0), (2, .ref 53), (3, .int v3)] [] σ (k18 v3 σ)) (v3 : Int32) (σ : Sg) : Ev (mL_law Ls xs) 10 241 jW 1235 [(0, .ref 77), (1, .ref 0), (2, .ref 53), (3, .int v3)] [] σ (fn_L_law_b1235 n Ls xs k18 v3 σ) := by
  unfold fn_L_law_b1235
  refine ev_iinc (pc := 1235) (v := (v3 + 6)) (lv' := [(3, .int (v3 + 6)), (0, .ref 77), (1, .ref 0), (2, .ref 53)]) 3 (mL_d dL_law_1235) rfl rfl (Nat.le_of_ble_eq_true rfl) rfl ?_
  refine ev_goto (pc := 1238) (tgt := 18) (mL_d dL_law_1238) rfl ?_
  refine ev_sub [1, 2, 3, 0] rfl ?_
  exact hk18 (v3 + 6) σ
def fn_L_law_b1221 (n Ls : Nat) (xs : Nat → Int32) (k18 : Int32 → Sg → Option (Int32 × Sg)) (v3 : Int32) (σ : Sg) : Option (Int32 × Sg) :=
  (Option.bind (fn_X6_digest n σ) fun q1 =>
  (Option.bind (fn_X7_digest n q1.2) fun q2 =>
  (if (lg_cmp q1.1 q2.1) = 0 then (fn_L_law_b1235 n Ls xs k18 v3 q2.2)
  else (some (0, q2.2)))))
set_option maxRecDepth 20000 in
set_option maxHeartbeats 4000000 in
theorem ev_L_law_b1221 (n Ls : Nat) (xs : Nat → Int32) (k18 : Int32 → Sg → Option (Int32 × Sg)) (hk18 : ∀ (v3 : Int32) (σ : Sg), Ev (mL_law Ls xs) 10 241 jW 18 [(0, .ref 77), (1, .ref 0), (2, .ref 53), (3, .int v3)] [] σ (k18 v3 σ)) (v3 : Int32) (σ : Sg) : Ev (mL_law Ls xs) 10 241 jW 1221 [(0, .ref 77), (1, .ref 0), (2, .ref 53), (3, .int v3)] [] σ (fn_L_law_b1221 n Ls xs k18 v3 σ) := by
  unfold fn_L_law_b1221
  refine ev_aload_n (pc := 1221) (i := 1) 1 (mL_d dL_law_1221) rfl rfl ?_
  refine ev_vM (pc := 1222) (as := []) (rest := []) ⟨6, 156, 8, TX6, tyX6, ag_C6, ⟨(rfl), (by decide)⟩, mv_X6_digest, ag_ml_L_156, rfl, (Nat.le_of_ble_eq_true rfl), ⟨(Nat.le_of_ble_eq_true rfl), (Nat.le_of_ble_eq_true rfl)⟩, (mL_d dL_law_1222)⟩ (im_X6_digest n σ) (fun q1 => ?_)
  refine ev_aload_n (pc := 1225) (i := 2) 2 (mL_d dL_law_1225) rfl rfl ?_
  refine ev_vM (pc := 1226) (as := []) (rest := [.long q1.1]) ⟨7, 160, 37, TX7, tyX7, ag_C7, ⟨(rfl), (by decide)⟩, mv_X7_digest, ag_ml_L_160, rfl, (Nat.le_of_ble_eq_true rfl), ⟨(Nat.le_of_ble_eq_true rfl), (Nat.le_of_ble_eq_true rfl)⟩, (mL_d dL_law_1226)⟩ (im_X7_digest n q1.2) (fun q2 => ?_)
  refine ev_lcmp (pc := 1229) (mL_d dL_law_1229) ?_
  refine ev_if_eq (pc := 1230) (tgt := 1235) (mL_d dL_law_1230) rfl ?_ ?_
  · exact ev_L_law_b1235 n Ls xs k18 hk18 v3 q2.2
  · refine ev_iconst (pc := 1233) (v := 0) (mL_d dL_law_1233) (by decide) ?_
    exact ev_brW rfl rfl (mL_d dL_law_1234)
def fn_L_law_b1198 (n Ls : Nat) (xs : Nat → Int32) (k18 : Int32 → Sg → Option (Int32 × Sg)) (v3 : Int32) (σ : Sg) : Option (Int32 × Sg) :=
  (if ag_ib (v3 + 1) Ls = true then (Option.bind (fn_X6_count n (xs (v3 + 1).toNatClampNeg) σ) fun q3 =>
  (if ag_ib (v3 + 1) Ls = true then (Option.bind (fn_X7_count n (xs (v3 + 1).toNatClampNeg) σ) fun q4 =>
  (if q3 = q4.1 then (fn_L_law_b1235 n Ls xs k18 v3 q4.2)
  else (some (0, q4.2)))) else none)) else none)
set_option maxRecDepth 20000 in
set_option maxHeartbeats 4000000 in
theorem ev_L_law_b1198 (n Ls : Nat) (xs : Nat → Int32) (k18 : Int32 → Sg → Option (Int32 × Sg)) (hk18 : ∀ (v3 : Int32) (σ : Sg), Ev (mL_law Ls xs) 10 241 jW 18 [(0, .ref 77), (1, .ref 0), (2, .ref 53), (3, .int v3)] [] σ (k18 v3 σ)) (v3 : Int32) (σ : Sg) : Ev (mL_law Ls xs) 10 241 jW 1198 [(0, .ref 77), (1, .ref 0), (2, .ref 53), (3, .int v3)] [] σ (fn_L_law_b1198 n Ls xs k18 v3 σ) := by
  unfold fn_L_law_b1198
  refine ev_aload_n (pc := 1198) (i := 1) 1 (mL_d dL_law_1198) rfl rfl ?_
  refine ev_aload_n (pc := 1199) (i := 0) 0 (mL_d dL_law_1199) rfl rfl ?_
  refine ev_iload_n (pc := 1200) (i := 3) 3 (mL_d dL_law_1200) rfl rfl ?_
  refine ev_iconst (pc := 1201) (v := 1) (mL_d dL_law_1201) (by decide) ?_
  refine ev_iadd (pc := 1202) (mL_d dL_law_1202) ?_
  refine ev_sld (pc := 1203) (Ls := Ls) (xs := xs) rfl (mL_d dL_law_1203) ?_
  refine ev_vI (pc := 1204) (as := [.int (xs (v3 + 1).toNatClampNeg)]) (rest := []) ⟨6, 152, 8, TX6, tyX6, ag_C6, ⟨(rfl), (by decide)⟩, mv_X6_count, ag_ml_L_152, rfl, (Nat.le_of_ble_eq_true rfl), ⟨(Nat.le_of_ble_eq_true rfl), (Nat.le_of_ble_eq_true rfl)⟩, (mL_d dL_law_1204)⟩ (im_X6_count n (xs (v3 + 1).toNatClampNeg) σ) (fun q3 => ?_)
  refine ev_aload_n (pc := 1207) (i := 2) 2 (mL_d dL_law_1207) rfl rfl ?_
  refine ev_aload_n (pc := 1208) (i := 0) 0 (mL_d dL_law_1208) rfl rfl ?_
  refine ev_iload_n (pc := 1209) (i := 3) 3 (mL_d dL_law_1209) rfl rfl ?_
  refine ev_iconst (pc := 1210) (v := 1) (mL_d dL_law_1210) (by decide) ?_
  refine ev_iadd (pc := 1211) (mL_d dL_law_1211) ?_
  refine ev_sld (pc := 1212) (Ls := Ls) (xs := xs) rfl (mL_d dL_law_1212) ?_
  refine ev_vW (pc := 1213) (as := [.int (xs (v3 + 1).toNatClampNeg)]) (rest := [.int q3]) ⟨7, 155, 37, TX7, tyX7, ag_C7, ⟨(rfl), (by decide)⟩, mv_X7_count, ag_ml_L_155, rfl, (Nat.le_of_ble_eq_true rfl), ⟨(Nat.le_of_ble_eq_true rfl), (Nat.le_of_ble_eq_true rfl)⟩, (mL_d dL_law_1213)⟩ (im_X7_count n (xs (v3 + 1).toNatClampNeg) σ) (fun q4 => ?_)
  refine ev_icmp_eq (pc := 1216) (tgt := 1235) (mL_d dL_law_1216) rfl ?_ ?_
  · exact ev_L_law_b1235 n Ls xs k18 hk18 v3 q4.2
  · refine ev_iconst (pc := 1219) (v := 0) (mL_d dL_law_1219) (by decide) ?_
    exact ev_brW rfl rfl (mL_d dL_law_1220)
def fn_L_law_b1175 (n Ls : Nat) (xs : Nat → Int32) (k18 : Int32 → Sg → Option (Int32 × Sg)) (v3 : Int32) (σ : Sg) : Option (Int32 × Sg) :=
  (if ag_ib (v3 + 1) Ls = true then (Option.bind (fn_X6_write n (xs (v3 + 1).toNatClampNeg) σ) fun q5 =>
  (if ag_ib (v3 + 1) Ls = true then (Option.bind (fn_X7_write n (xs (v3 + 1).toNatClampNeg) q5.2) fun q6 =>
  (if q5.1 = q6.1 then (fn_L_law_b1235 n Ls xs k18 v3 q6.2)
  else (some (0, q6.2)))) else none)) else none)
set_option maxRecDepth 20000 in
set_option maxHeartbeats 4000000 in
theorem ev_L_law_b1175 (n Ls : Nat) (xs : Nat → Int32) (k18 : Int32 → Sg → Option (Int32 × Sg)) (hk18 : ∀ (v3 : Int32) (σ : Sg), Ev (mL_law Ls xs) 10 241 jW 18 [(0, .ref 77), (1, .ref 0), (2, .ref 53), (3, .int v3)] [] σ (k18 v3 σ)) (v3 : Int32) (σ : Sg) : Ev (mL_law Ls xs) 10 241 jW 1175 [(0, .ref 77), (1, .ref 0), (2, .ref 53), (3, .int v3)] [] σ (fn_L_law_b1175 n Ls xs k18 v3 σ) := by
  unfold fn_L_law_b1175
  refine ev_aload_n (pc := 1175) (i := 1) 1 (mL_d dL_law_1175) rfl rfl ?_
  refine ev_aload_n (pc := 1176) (i := 0) 0 (mL_d dL_law_1176) rfl rfl ?_
  refine ev_iload_n (pc := 1177) (i := 3) 3 (mL_d dL_law_1177) rfl rfl ?_
  refine ev_iconst (pc := 1178) (v := 1) (mL_d dL_law_1178) (by decide) ?_
  refine ev_iadd (pc := 1179) (mL_d dL_law_1179) ?_
  refine ev_sld (pc := 1180) (Ls := Ls) (xs := xs) rfl (mL_d dL_law_1180) ?_
  refine ev_vW (pc := 1181) (as := [.int (xs (v3 + 1).toNatClampNeg)]) (rest := []) ⟨6, 148, 8, TX6, tyX6, ag_C6, ⟨(rfl), (by decide)⟩, mv_X6_write, ag_ml_L_148, rfl, (Nat.le_of_ble_eq_true rfl), ⟨(Nat.le_of_ble_eq_true rfl), (Nat.le_of_ble_eq_true rfl)⟩, (mL_d dL_law_1181)⟩ (im_X6_write n (xs (v3 + 1).toNatClampNeg) σ) (fun q5 => ?_)
  refine ev_aload_n (pc := 1184) (i := 2) 2 (mL_d dL_law_1184) rfl rfl ?_
  refine ev_aload_n (pc := 1185) (i := 0) 0 (mL_d dL_law_1185) rfl rfl ?_
  refine ev_iload_n (pc := 1186) (i := 3) 3 (mL_d dL_law_1186) rfl rfl ?_
  refine ev_iconst (pc := 1187) (v := 1) (mL_d dL_law_1187) (by decide) ?_
  refine ev_iadd (pc := 1188) (mL_d dL_law_1188) ?_
  refine ev_sld (pc := 1189) (Ls := Ls) (xs := xs) rfl (mL_d dL_law_1189) ?_
  refine ev_vW (pc := 1190) (as := [.int (xs (v3 + 1).toNatClampNeg)]) (rest := [.int q5.1]) ⟨7, 151, 37, TX7, tyX7, ag_C7, ⟨(rfl), (by decide)⟩, mv_X7_write, ag_ml_L_151, rfl, (Nat.le_of_ble_eq_true rfl), ⟨(Nat.le_of_ble_eq_true rfl), (Nat.le_of_ble_eq_true rfl)⟩, (mL_d dL_law_1190)⟩ (im_X7_write n (xs (v3 + 1).toNatClampNeg) q5.2) (fun q6 => ?_)
  refine ev_icmp_eq (pc := 1193) (tgt := 1235) (mL_d dL_law_1193) rfl ?_ ?_
  · exact ev_L_law_b1235 n Ls xs k18 hk18 v3 q6.2
  · refine ev_iconst (pc := 1196) (v := 0) (mL_d dL_law_1196) (by decide) ?_
    exact ev_brW rfl rfl (mL_d dL_law_1197)
def fn_L_law_b1112 (n Ls : Nat) (xs : Nat → Int32) (k18 : Int32 → Sg → Option (Int32 × Sg)) (v3 : Int32) (σ : Sg) : Option (Int32 × Sg) :=
  (if ag_ib (v3 + 1) Ls = true then (if ag_ib (v3 + 2) Ls = true then (if ag_ib (v3 + 3) Ls = true then (if ag_ib (v3 + 4) Ls = true then (if ag_ib (v3 + 5) Ls = true then (Option.bind (fn_X6_copy (xs (v3 + 1).toNatClampNeg) (xs (v3 + 2).toNatClampNeg) (xs (v3 + 3).toNatClampNeg) (xs (v3 + 4).toNatClampNeg) (xs (v3 + 5).toNatClampNeg) σ) fun q7 =>
  (if ag_ib (v3 + 1) Ls = true then (if ag_ib (v3 + 2) Ls = true then (if ag_ib (v3 + 3) Ls = true then (if ag_ib (v3 + 4) Ls = true then (if ag_ib (v3 + 5) Ls = true then (Option.bind (fn_X7_copy n (xs (v3 + 1).toNatClampNeg) (xs (v3 + 2).toNatClampNeg) (xs (v3 + 3).toNatClampNeg) (xs (v3 + 4).toNatClampNeg) (xs (v3 + 5).toNatClampNeg) q7.2) fun q8 =>
  (if q7.1 = q8.1 then (fn_L_law_b1235 n Ls xs k18 v3 q8.2)
  else (some (0, q8.2)))) else none) else none) else none) else none) else none)) else none) else none) else none) else none) else none)
set_option maxRecDepth 20000 in
set_option maxHeartbeats 4000000 in
theorem ev_L_law_b1112 (n Ls : Nat) (xs : Nat → Int32) (k18 : Int32 → Sg → Option (Int32 × Sg)) (hk18 : ∀ (v3 : Int32) (σ : Sg), Ev (mL_law Ls xs) 10 241 jW 18 [(0, .ref 77), (1, .ref 0), (2, .ref 53), (3, .int v3)] [] σ (k18 v3 σ)) (v3 : Int32) (σ : Sg) : Ev (mL_law Ls xs) 10 241 jW 1112 [(0, .ref 77), (1, .ref 0), (2, .ref 53), (3, .int v3)] [] σ (fn_L_law_b1112 n Ls xs k18 v3 σ) := by
  unfold fn_L_law_b1112
  refine ev_aload_n (pc := 1112) (i := 1) 1 (mL_d dL_law_1112) rfl rfl ?_
  refine ev_aload_n (pc := 1113) (i := 0) 0 (mL_d dL_law_1113) rfl rfl ?_
  refine ev_iload_n (pc := 1114) (i := 3) 3 (mL_d dL_law_1114) rfl rfl ?_
  refine ev_iconst (pc := 1115) (v := 1) (mL_d dL_law_1115) (by decide) ?_
  refine ev_iadd (pc := 1116) (mL_d dL_law_1116) ?_
  refine ev_sld (pc := 1117) (Ls := Ls) (xs := xs) rfl (mL_d dL_law_1117) ?_
  refine ev_aload_n (pc := 1118) (i := 0) 0 (mL_d dL_law_1118) rfl rfl ?_
  refine ev_iload_n (pc := 1119) (i := 3) 3 (mL_d dL_law_1119) rfl rfl ?_
  refine ev_iconst (pc := 1120) (v := 2) (mL_d dL_law_1120) (by decide) ?_
  refine ev_iadd (pc := 1121) (mL_d dL_law_1121) ?_
  refine ev_sld (pc := 1122) (Ls := Ls) (xs := xs) rfl (mL_d dL_law_1122) ?_
  refine ev_aload_n (pc := 1123) (i := 0) 0 (mL_d dL_law_1123) rfl rfl ?_
  refine ev_iload_n (pc := 1124) (i := 3) 3 (mL_d dL_law_1124) rfl rfl ?_
  refine ev_iconst (pc := 1125) (v := 3) (mL_d dL_law_1125) (by decide) ?_
  refine ev_iadd (pc := 1126) (mL_d dL_law_1126) ?_
  refine ev_sld (pc := 1127) (Ls := Ls) (xs := xs) rfl (mL_d dL_law_1127) ?_
  refine ev_aload_n (pc := 1128) (i := 0) 0 (mL_d dL_law_1128) rfl rfl ?_
  refine ev_iload_n (pc := 1129) (i := 3) 3 (mL_d dL_law_1129) rfl rfl ?_
  refine ev_iconst (pc := 1130) (v := 4) (mL_d dL_law_1130) (by decide) ?_
  refine ev_iadd (pc := 1131) (mL_d dL_law_1131) ?_
  refine ev_sld (pc := 1132) (Ls := Ls) (xs := xs) rfl (mL_d dL_law_1132) ?_
  refine ev_aload_n (pc := 1133) (i := 0) 0 (mL_d dL_law_1133) rfl rfl ?_
  refine ev_iload_n (pc := 1134) (i := 3) 3 (mL_d dL_law_1134) rfl rfl ?_
  refine ev_iconst (pc := 1135) (v := 5) (mL_d dL_law_1135) (by decide) ?_
  refine ev_iadd (pc := 1136) (mL_d dL_law_1136) ?_
  refine ev_sld (pc := 1137) (Ls := Ls) (xs := xs) rfl (mL_d dL_law_1137) ?_
  refine ev_vW (pc := 1138) (as := [.int (xs (v3 + 1).toNatClampNeg), .int (xs (v3 + 2).toNatClampNeg), .int (xs (v3 + 3).toNatClampNeg), .int (xs (v3 + 4).toNatClampNeg), .int (xs (v3 + 5).toNatClampNeg)]) (rest := []) ⟨6, 144, 8, TX6, tyX6, ag_C6, ⟨(rfl), (by decide)⟩, mv_X6_copy, ag_ml_L_144, rfl, (Nat.le_of_ble_eq_true rfl), ⟨(Nat.le_of_ble_eq_true rfl), (Nat.le_of_ble_eq_true rfl)⟩, (mL_d dL_law_1138)⟩ (im_X6_copy (xs (v3 + 1).toNatClampNeg) (xs (v3 + 2).toNatClampNeg) (xs (v3 + 3).toNatClampNeg) (xs (v3 + 4).toNatClampNeg) (xs (v3 + 5).toNatClampNeg) σ) (fun q7 => ?_)
  refine ev_aload_n (pc := 1141) (i := 2) 2 (mL_d dL_law_1141) rfl rfl ?_
  refine ev_aload_n (pc := 1142) (i := 0) 0 (mL_d dL_law_1142) rfl rfl ?_
  refine ev_iload_n (pc := 1143) (i := 3) 3 (mL_d dL_law_1143) rfl rfl ?_
  refine ev_iconst (pc := 1144) (v := 1) (mL_d dL_law_1144) (by decide) ?_
  refine ev_iadd (pc := 1145) (mL_d dL_law_1145) ?_
  refine ev_sld (pc := 1146) (Ls := Ls) (xs := xs) rfl (mL_d dL_law_1146) ?_
  refine ev_aload_n (pc := 1147) (i := 0) 0 (mL_d dL_law_1147) rfl rfl ?_
  refine ev_iload_n (pc := 1148) (i := 3) 3 (mL_d dL_law_1148) rfl rfl ?_
  refine ev_iconst (pc := 1149) (v := 2) (mL_d dL_law_1149) (by decide) ?_
  refine ev_iadd (pc := 1150) (mL_d dL_law_1150) ?_
  refine ev_sld (pc := 1151) (Ls := Ls) (xs := xs) rfl (mL_d dL_law_1151) ?_
  refine ev_aload_n (pc := 1152) (i := 0) 0 (mL_d dL_law_1152) rfl rfl ?_
  refine ev_iload_n (pc := 1153) (i := 3) 3 (mL_d dL_law_1153) rfl rfl ?_
  refine ev_iconst (pc := 1154) (v := 3) (mL_d dL_law_1154) (by decide) ?_
  refine ev_iadd (pc := 1155) (mL_d dL_law_1155) ?_
  refine ev_sld (pc := 1156) (Ls := Ls) (xs := xs) rfl (mL_d dL_law_1156) ?_
  refine ev_aload_n (pc := 1157) (i := 0) 0 (mL_d dL_law_1157) rfl rfl ?_
  refine ev_iload_n (pc := 1158) (i := 3) 3 (mL_d dL_law_1158) rfl rfl ?_
  refine ev_iconst (pc := 1159) (v := 4) (mL_d dL_law_1159) (by decide) ?_
  refine ev_iadd (pc := 1160) (mL_d dL_law_1160) ?_
  refine ev_sld (pc := 1161) (Ls := Ls) (xs := xs) rfl (mL_d dL_law_1161) ?_
  refine ev_aload_n (pc := 1162) (i := 0) 0 (mL_d dL_law_1162) rfl rfl ?_
  refine ev_iload_n (pc := 1163) (i := 3) 3 (mL_d dL_law_1163) rfl rfl ?_
  refine ev_iconst (pc := 1164) (v := 5) (mL_d dL_law_1164) (by decide) ?_
  refine ev_iadd (pc := 1165) (mL_d dL_law_1165) ?_
  refine ev_sld (pc := 1166) (Ls := Ls) (xs := xs) rfl (mL_d dL_law_1166) ?_
  refine ev_vW (pc := 1167) (as := [.int (xs (v3 + 1).toNatClampNeg), .int (xs (v3 + 2).toNatClampNeg), .int (xs (v3 + 3).toNatClampNeg), .int (xs (v3 + 4).toNatClampNeg), .int (xs (v3 + 5).toNatClampNeg)]) (rest := [.int q7.1]) ⟨7, 147, 37, TX7, tyX7, ag_C7, ⟨(rfl), (by decide)⟩, mv_X7_copy, ag_ml_L_147, rfl, (Nat.le_of_ble_eq_true rfl), ⟨(Nat.le_of_ble_eq_true rfl), (Nat.le_of_ble_eq_true rfl)⟩, (mL_d dL_law_1167)⟩ (im_X7_copy n (xs (v3 + 1).toNatClampNeg) (xs (v3 + 2).toNatClampNeg) (xs (v3 + 3).toNatClampNeg) (xs (v3 + 4).toNatClampNeg) (xs (v3 + 5).toNatClampNeg) q7.2) (fun q8 => ?_)
  refine ev_icmp_eq (pc := 1170) (tgt := 1235) (mL_d dL_law_1170) rfl ?_ ?_
  · exact ev_L_law_b1235 n Ls xs k18 hk18 v3 q8.2
  · refine ev_iconst (pc := 1173) (v := 0) (mL_d dL_law_1173) (by decide) ?_
    exact ev_brW rfl rfl (mL_d dL_law_1174)
def fn_L_law_b1069 (n Ls : Nat) (xs : Nat → Int32) (k18 : Int32 → Sg → Option (Int32 × Sg)) (v3 : Int32) (σ : Sg) : Option (Int32 × Sg) :=
  (if ag_ib (v3 + 1) Ls = true then (if ag_ib (v3 + 2) Ls = true then (if ag_ib (v3 + 3) Ls = true then (Option.bind (fn_X6_get (xs (v3 + 1).toNatClampNeg) (xs (v3 + 2).toNatClampNeg) (xs (v3 + 3).toNatClampNeg) σ) fun q9 =>
  (if ag_ib (v3 + 1) Ls = true then (if ag_ib (v3 + 2) Ls = true then (if ag_ib (v3 + 3) Ls = true then (Option.bind (fn_X7_get (xs (v3 + 1).toNatClampNeg) (xs (v3 + 2).toNatClampNeg) (xs (v3 + 3).toNatClampNeg) q9.2) fun q10 =>
  (if q9.1 = q10.1 then (fn_L_law_b1235 n Ls xs k18 v3 q10.2)
  else (some (0, q10.2)))) else none) else none) else none)) else none) else none) else none)
set_option maxRecDepth 20000 in
set_option maxHeartbeats 4000000 in
theorem ev_L_law_b1069 (n Ls : Nat) (xs : Nat → Int32) (k18 : Int32 → Sg → Option (Int32 × Sg)) (hk18 : ∀ (v3 : Int32) (σ : Sg), Ev (mL_law Ls xs) 10 241 jW 18 [(0, .ref 77), (1, .ref 0), (2, .ref 53), (3, .int v3)] [] σ (k18 v3 σ)) (v3 : Int32) (σ : Sg) : Ev (mL_law Ls xs) 10 241 jW 1069 [(0, .ref 77), (1, .ref 0), (2, .ref 53), (3, .int v3)] [] σ (fn_L_law_b1069 n Ls xs k18 v3 σ) := by
  unfold fn_L_law_b1069
  refine ev_aload_n (pc := 1069) (i := 1) 1 (mL_d dL_law_1069) rfl rfl ?_
  refine ev_aload_n (pc := 1070) (i := 0) 0 (mL_d dL_law_1070) rfl rfl ?_
  refine ev_iload_n (pc := 1071) (i := 3) 3 (mL_d dL_law_1071) rfl rfl ?_
  refine ev_iconst (pc := 1072) (v := 1) (mL_d dL_law_1072) (by decide) ?_
  refine ev_iadd (pc := 1073) (mL_d dL_law_1073) ?_
  refine ev_sld (pc := 1074) (Ls := Ls) (xs := xs) rfl (mL_d dL_law_1074) ?_
  refine ev_aload_n (pc := 1075) (i := 0) 0 (mL_d dL_law_1075) rfl rfl ?_
  refine ev_iload_n (pc := 1076) (i := 3) 3 (mL_d dL_law_1076) rfl rfl ?_
  refine ev_iconst (pc := 1077) (v := 2) (mL_d dL_law_1077) (by decide) ?_
  refine ev_iadd (pc := 1078) (mL_d dL_law_1078) ?_
  refine ev_sld (pc := 1079) (Ls := Ls) (xs := xs) rfl (mL_d dL_law_1079) ?_
  refine ev_aload_n (pc := 1080) (i := 0) 0 (mL_d dL_law_1080) rfl rfl ?_
  refine ev_iload_n (pc := 1081) (i := 3) 3 (mL_d dL_law_1081) rfl rfl ?_
  refine ev_iconst (pc := 1082) (v := 3) (mL_d dL_law_1082) (by decide) ?_
  refine ev_iadd (pc := 1083) (mL_d dL_law_1083) ?_
  refine ev_sld (pc := 1084) (Ls := Ls) (xs := xs) rfl (mL_d dL_law_1084) ?_
  refine ev_vW (pc := 1085) (as := [.int (xs (v3 + 1).toNatClampNeg), .int (xs (v3 + 2).toNatClampNeg), .int (xs (v3 + 3).toNatClampNeg)]) (rest := []) ⟨6, 140, 8, TX6, tyX6, ag_C6, ⟨(rfl), (by decide)⟩, mv_X6_get, ag_ml_L_140, rfl, (Nat.le_of_ble_eq_true rfl), ⟨(Nat.le_of_ble_eq_true rfl), (Nat.le_of_ble_eq_true rfl)⟩, (mL_d dL_law_1085)⟩ (im_X6_get (xs (v3 + 1).toNatClampNeg) (xs (v3 + 2).toNatClampNeg) (xs (v3 + 3).toNatClampNeg) σ) (fun q9 => ?_)
  refine ev_aload_n (pc := 1088) (i := 2) 2 (mL_d dL_law_1088) rfl rfl ?_
  refine ev_aload_n (pc := 1089) (i := 0) 0 (mL_d dL_law_1089) rfl rfl ?_
  refine ev_iload_n (pc := 1090) (i := 3) 3 (mL_d dL_law_1090) rfl rfl ?_
  refine ev_iconst (pc := 1091) (v := 1) (mL_d dL_law_1091) (by decide) ?_
  refine ev_iadd (pc := 1092) (mL_d dL_law_1092) ?_
  refine ev_sld (pc := 1093) (Ls := Ls) (xs := xs) rfl (mL_d dL_law_1093) ?_
  refine ev_aload_n (pc := 1094) (i := 0) 0 (mL_d dL_law_1094) rfl rfl ?_
  refine ev_iload_n (pc := 1095) (i := 3) 3 (mL_d dL_law_1095) rfl rfl ?_
  refine ev_iconst (pc := 1096) (v := 2) (mL_d dL_law_1096) (by decide) ?_
  refine ev_iadd (pc := 1097) (mL_d dL_law_1097) ?_
  refine ev_sld (pc := 1098) (Ls := Ls) (xs := xs) rfl (mL_d dL_law_1098) ?_
  refine ev_aload_n (pc := 1099) (i := 0) 0 (mL_d dL_law_1099) rfl rfl ?_
  refine ev_iload_n (pc := 1100) (i := 3) 3 (mL_d dL_law_1100) rfl rfl ?_
  refine ev_iconst (pc := 1101) (v := 3) (mL_d dL_law_1101) (by decide) ?_
  refine ev_iadd (pc := 1102) (mL_d dL_law_1102) ?_
  refine ev_sld (pc := 1103) (Ls := Ls) (xs := xs) rfl (mL_d dL_law_1103) ?_
  refine ev_vW (pc := 1104) (as := [.int (xs (v3 + 1).toNatClampNeg), .int (xs (v3 + 2).toNatClampNeg), .int (xs (v3 + 3).toNatClampNeg)]) (rest := [.int q9.1]) ⟨7, 143, 37, TX7, tyX7, ag_C7, ⟨(rfl), (by decide)⟩, mv_X7_get, ag_ml_L_143, rfl, (Nat.le_of_ble_eq_true rfl), ⟨(Nat.le_of_ble_eq_true rfl), (Nat.le_of_ble_eq_true rfl)⟩, (mL_d dL_law_1104)⟩ (im_X7_get (xs (v3 + 1).toNatClampNeg) (xs (v3 + 2).toNatClampNeg) (xs (v3 + 3).toNatClampNeg) q9.2) (fun q10 => ?_)
  refine ev_icmp_eq (pc := 1107) (tgt := 1235) (mL_d dL_law_1107) rfl ?_ ?_
  · exact ev_L_law_b1235 n Ls xs k18 hk18 v3 q10.2
  · refine ev_iconst (pc := 1110) (v := 0) (mL_d dL_law_1110) (by decide) ?_
    exact ev_brW rfl rfl (mL_d dL_law_1111)
def fn_L_law_b1016 (n Ls : Nat) (xs : Nat → Int32) (k18 : Int32 → Sg → Option (Int32 × Sg)) (v3 : Int32) (σ : Sg) : Option (Int32 × Sg) :=
  (if ag_ib (v3 + 1) Ls = true then (if ag_ib (v3 + 2) Ls = true then (if ag_ib (v3 + 3) Ls = true then (if ag_ib (v3 + 4) Ls = true then (Option.bind (fn_X6_put (xs (v3 + 1).toNatClampNeg) (xs (v3 + 2).toNatClampNeg) (xs (v3 + 3).toNatClampNeg) (xs (v3 + 4).toNatClampNeg) σ) fun q11 =>
  (if ag_ib (v3 + 1) Ls = true then (if ag_ib (v3 + 2) Ls = true then (if ag_ib (v3 + 3) Ls = true then (if ag_ib (v3 + 4) Ls = true then (Option.bind (fn_X7_put (xs (v3 + 1).toNatClampNeg) (xs (v3 + 2).toNatClampNeg) (xs (v3 + 3).toNatClampNeg) (xs (v3 + 4).toNatClampNeg) q11.2) fun q12 =>
  (if q11.1 = q12.1 then (fn_L_law_b1235 n Ls xs k18 v3 q12.2)
  else (some (0, q12.2)))) else none) else none) else none) else none)) else none) else none) else none) else none)
set_option maxRecDepth 20000 in
set_option maxHeartbeats 4000000 in
theorem ev_L_law_b1016 (n Ls : Nat) (xs : Nat → Int32) (k18 : Int32 → Sg → Option (Int32 × Sg)) (hk18 : ∀ (v3 : Int32) (σ : Sg), Ev (mL_law Ls xs) 10 241 jW 18 [(0, .ref 77), (1, .ref 0), (2, .ref 53), (3, .int v3)] [] σ (k18 v3 σ)) (v3 : Int32) (σ : Sg) : Ev (mL_law Ls xs) 10 241 jW 1016 [(0, .ref 77), (1, .ref 0), (2, .ref 53), (3, .int v3)] [] σ (fn_L_law_b1016 n Ls xs k18 v3 σ) := by
  unfold fn_L_law_b1016
  refine ev_aload_n (pc := 1016) (i := 1) 1 (mL_d dL_law_1016) rfl rfl ?_
  refine ev_aload_n (pc := 1017) (i := 0) 0 (mL_d dL_law_1017) rfl rfl ?_
  refine ev_iload_n (pc := 1018) (i := 3) 3 (mL_d dL_law_1018) rfl rfl ?_
  refine ev_iconst (pc := 1019) (v := 1) (mL_d dL_law_1019) (by decide) ?_
  refine ev_iadd (pc := 1020) (mL_d dL_law_1020) ?_
  refine ev_sld (pc := 1021) (Ls := Ls) (xs := xs) rfl (mL_d dL_law_1021) ?_
  refine ev_aload_n (pc := 1022) (i := 0) 0 (mL_d dL_law_1022) rfl rfl ?_
  refine ev_iload_n (pc := 1023) (i := 3) 3 (mL_d dL_law_1023) rfl rfl ?_
  refine ev_iconst (pc := 1024) (v := 2) (mL_d dL_law_1024) (by decide) ?_
  refine ev_iadd (pc := 1025) (mL_d dL_law_1025) ?_
  refine ev_sld (pc := 1026) (Ls := Ls) (xs := xs) rfl (mL_d dL_law_1026) ?_
  refine ev_aload_n (pc := 1027) (i := 0) 0 (mL_d dL_law_1027) rfl rfl ?_
  refine ev_iload_n (pc := 1028) (i := 3) 3 (mL_d dL_law_1028) rfl rfl ?_
  refine ev_iconst (pc := 1029) (v := 3) (mL_d dL_law_1029) (by decide) ?_
  refine ev_iadd (pc := 1030) (mL_d dL_law_1030) ?_
  refine ev_sld (pc := 1031) (Ls := Ls) (xs := xs) rfl (mL_d dL_law_1031) ?_
  refine ev_aload_n (pc := 1032) (i := 0) 0 (mL_d dL_law_1032) rfl rfl ?_
  refine ev_iload_n (pc := 1033) (i := 3) 3 (mL_d dL_law_1033) rfl rfl ?_
  refine ev_iconst (pc := 1034) (v := 4) (mL_d dL_law_1034) (by decide) ?_
  refine ev_iadd (pc := 1035) (mL_d dL_law_1035) ?_
  refine ev_sld (pc := 1036) (Ls := Ls) (xs := xs) rfl (mL_d dL_law_1036) ?_
  refine ev_vW (pc := 1037) (as := [.int (xs (v3 + 1).toNatClampNeg), .int (xs (v3 + 2).toNatClampNeg), .int (xs (v3 + 3).toNatClampNeg), .int (xs (v3 + 4).toNatClampNeg)]) (rest := []) ⟨6, 136, 8, TX6, tyX6, ag_C6, ⟨(rfl), (by decide)⟩, mv_X6_put, ag_ml_L_136, rfl, (Nat.le_of_ble_eq_true rfl), ⟨(Nat.le_of_ble_eq_true rfl), (Nat.le_of_ble_eq_true rfl)⟩, (mL_d dL_law_1037)⟩ (im_X6_put (xs (v3 + 1).toNatClampNeg) (xs (v3 + 2).toNatClampNeg) (xs (v3 + 3).toNatClampNeg) (xs (v3 + 4).toNatClampNeg) σ) (fun q11 => ?_)
  refine ev_aload_n (pc := 1040) (i := 2) 2 (mL_d dL_law_1040) rfl rfl ?_
  refine ev_aload_n (pc := 1041) (i := 0) 0 (mL_d dL_law_1041) rfl rfl ?_
  refine ev_iload_n (pc := 1042) (i := 3) 3 (mL_d dL_law_1042) rfl rfl ?_
  refine ev_iconst (pc := 1043) (v := 1) (mL_d dL_law_1043) (by decide) ?_
  refine ev_iadd (pc := 1044) (mL_d dL_law_1044) ?_
  refine ev_sld (pc := 1045) (Ls := Ls) (xs := xs) rfl (mL_d dL_law_1045) ?_
  refine ev_aload_n (pc := 1046) (i := 0) 0 (mL_d dL_law_1046) rfl rfl ?_
  refine ev_iload_n (pc := 1047) (i := 3) 3 (mL_d dL_law_1047) rfl rfl ?_
  refine ev_iconst (pc := 1048) (v := 2) (mL_d dL_law_1048) (by decide) ?_
  refine ev_iadd (pc := 1049) (mL_d dL_law_1049) ?_
  refine ev_sld (pc := 1050) (Ls := Ls) (xs := xs) rfl (mL_d dL_law_1050) ?_
  refine ev_aload_n (pc := 1051) (i := 0) 0 (mL_d dL_law_1051) rfl rfl ?_
  refine ev_iload_n (pc := 1052) (i := 3) 3 (mL_d dL_law_1052) rfl rfl ?_
  refine ev_iconst (pc := 1053) (v := 3) (mL_d dL_law_1053) (by decide) ?_
  refine ev_iadd (pc := 1054) (mL_d dL_law_1054) ?_
  refine ev_sld (pc := 1055) (Ls := Ls) (xs := xs) rfl (mL_d dL_law_1055) ?_
  refine ev_aload_n (pc := 1056) (i := 0) 0 (mL_d dL_law_1056) rfl rfl ?_
  refine ev_iload_n (pc := 1057) (i := 3) 3 (mL_d dL_law_1057) rfl rfl ?_
  refine ev_iconst (pc := 1058) (v := 4) (mL_d dL_law_1058) (by decide) ?_
  refine ev_iadd (pc := 1059) (mL_d dL_law_1059) ?_
  refine ev_sld (pc := 1060) (Ls := Ls) (xs := xs) rfl (mL_d dL_law_1060) ?_
  refine ev_vW (pc := 1061) (as := [.int (xs (v3 + 1).toNatClampNeg), .int (xs (v3 + 2).toNatClampNeg), .int (xs (v3 + 3).toNatClampNeg), .int (xs (v3 + 4).toNatClampNeg)]) (rest := [.int q11.1]) ⟨7, 139, 37, TX7, tyX7, ag_C7, ⟨(rfl), (by decide)⟩, mv_X7_put, ag_ml_L_139, rfl, (Nat.le_of_ble_eq_true rfl), ⟨(Nat.le_of_ble_eq_true rfl), (Nat.le_of_ble_eq_true rfl)⟩, (mL_d dL_law_1061)⟩ (im_X7_put (xs (v3 + 1).toNatClampNeg) (xs (v3 + 2).toNatClampNeg) (xs (v3 + 3).toNatClampNeg) (xs (v3 + 4).toNatClampNeg) q11.2) (fun q12 => ?_)
  refine ev_icmp_eq (pc := 1064) (tgt := 1235) (mL_d dL_law_1064) rfl ?_ ?_
  · exact ev_L_law_b1235 n Ls xs k18 hk18 v3 q12.2
  · refine ev_iconst (pc := 1067) (v := 0) (mL_d dL_law_1067) (by decide) ?_
    exact ev_brW rfl rfl (mL_d dL_law_1068)
def fn_L_law_b993 (n Ls : Nat) (xs : Nat → Int32) (k18 : Int32 → Sg → Option (Int32 × Sg)) (v3 : Int32) (σ : Sg) : Option (Int32 × Sg) :=
  (if ag_ib (v3 + 1) Ls = true then (Option.bind (fn_X6_lose (xs (v3 + 1).toNatClampNeg) σ) fun q13 =>
  (if ag_ib (v3 + 1) Ls = true then (Option.bind (fn_X7_lose (xs (v3 + 1).toNatClampNeg) q13.2) fun q14 =>
  (if q13.1 = q14.1 then (fn_L_law_b1235 n Ls xs k18 v3 q14.2)
  else (some (0, q14.2)))) else none)) else none)
set_option maxRecDepth 20000 in
set_option maxHeartbeats 4000000 in
theorem ev_L_law_b993 (n Ls : Nat) (xs : Nat → Int32) (k18 : Int32 → Sg → Option (Int32 × Sg)) (hk18 : ∀ (v3 : Int32) (σ : Sg), Ev (mL_law Ls xs) 10 241 jW 18 [(0, .ref 77), (1, .ref 0), (2, .ref 53), (3, .int v3)] [] σ (k18 v3 σ)) (v3 : Int32) (σ : Sg) : Ev (mL_law Ls xs) 10 241 jW 993 [(0, .ref 77), (1, .ref 0), (2, .ref 53), (3, .int v3)] [] σ (fn_L_law_b993 n Ls xs k18 v3 σ) := by
  unfold fn_L_law_b993
  refine ev_aload_n (pc := 993) (i := 1) 1 (mL_d dL_law_993) rfl rfl ?_
  refine ev_aload_n (pc := 994) (i := 0) 0 (mL_d dL_law_994) rfl rfl ?_
  refine ev_iload_n (pc := 995) (i := 3) 3 (mL_d dL_law_995) rfl rfl ?_
  refine ev_iconst (pc := 996) (v := 1) (mL_d dL_law_996) (by decide) ?_
  refine ev_iadd (pc := 997) (mL_d dL_law_997) ?_
  refine ev_sld (pc := 998) (Ls := Ls) (xs := xs) rfl (mL_d dL_law_998) ?_
  refine ev_vW (pc := 999) (as := [.int (xs (v3 + 1).toNatClampNeg)]) (rest := []) ⟨6, 132, 8, TX6, tyX6, ag_C6, ⟨(rfl), (by decide)⟩, mv_X6_lose, ag_ml_L_132, rfl, (Nat.le_of_ble_eq_true rfl), ⟨(Nat.le_of_ble_eq_true rfl), (Nat.le_of_ble_eq_true rfl)⟩, (mL_d dL_law_999)⟩ (im_X6_lose (xs (v3 + 1).toNatClampNeg) σ) (fun q13 => ?_)
  refine ev_aload_n (pc := 1002) (i := 2) 2 (mL_d dL_law_1002) rfl rfl ?_
  refine ev_aload_n (pc := 1003) (i := 0) 0 (mL_d dL_law_1003) rfl rfl ?_
  refine ev_iload_n (pc := 1004) (i := 3) 3 (mL_d dL_law_1004) rfl rfl ?_
  refine ev_iconst (pc := 1005) (v := 1) (mL_d dL_law_1005) (by decide) ?_
  refine ev_iadd (pc := 1006) (mL_d dL_law_1006) ?_
  refine ev_sld (pc := 1007) (Ls := Ls) (xs := xs) rfl (mL_d dL_law_1007) ?_
  refine ev_vW (pc := 1008) (as := [.int (xs (v3 + 1).toNatClampNeg)]) (rest := [.int q13.1]) ⟨7, 135, 37, TX7, tyX7, ag_C7, ⟨(rfl), (by decide)⟩, mv_X7_lose, ag_ml_L_135, rfl, (Nat.le_of_ble_eq_true rfl), ⟨(Nat.le_of_ble_eq_true rfl), (Nat.le_of_ble_eq_true rfl)⟩, (mL_d dL_law_1008)⟩ (im_X7_lose (xs (v3 + 1).toNatClampNeg) q13.2) (fun q14 => ?_)
  refine ev_icmp_eq (pc := 1011) (tgt := 1235) (mL_d dL_law_1011) rfl ?_ ?_
  · exact ev_L_law_b1235 n Ls xs k18 hk18 v3 q14.2
  · refine ev_iconst (pc := 1014) (v := 0) (mL_d dL_law_1014) (by decide) ?_
    exact ev_brW rfl rfl (mL_d dL_law_1015)
def fn_L_law_b950 (n Ls : Nat) (xs : Nat → Int32) (k18 : Int32 → Sg → Option (Int32 × Sg)) (v3 : Int32) (σ : Sg) : Option (Int32 × Sg) :=
  (if ag_ib (v3 + 1) Ls = true then (if ag_ib (v3 + 2) Ls = true then (if ag_ib (v3 + 3) Ls = true then (Option.bind (fn_X6_sheet n (xs (v3 + 1).toNatClampNeg) (xs (v3 + 2).toNatClampNeg) (xs (v3 + 3).toNatClampNeg) σ) fun q15 =>
  (if ag_ib (v3 + 1) Ls = true then (if ag_ib (v3 + 2) Ls = true then (if ag_ib (v3 + 3) Ls = true then (Option.bind (fn_X7_sheet n (xs (v3 + 1).toNatClampNeg) (xs (v3 + 2).toNatClampNeg) (xs (v3 + 3).toNatClampNeg) q15.2) fun q16 =>
  (if q15.1 = q16.1 then (fn_L_law_b1235 n Ls xs k18 v3 q16.2)
  else (some (0, q16.2)))) else none) else none) else none)) else none) else none) else none)
set_option maxRecDepth 20000 in
set_option maxHeartbeats 4000000 in
theorem ev_L_law_b950 (n Ls : Nat) (xs : Nat → Int32) (k18 : Int32 → Sg → Option (Int32 × Sg)) (hk18 : ∀ (v3 : Int32) (σ : Sg), Ev (mL_law Ls xs) 10 241 jW 18 [(0, .ref 77), (1, .ref 0), (2, .ref 53), (3, .int v3)] [] σ (k18 v3 σ)) (v3 : Int32) (σ : Sg) : Ev (mL_law Ls xs) 10 241 jW 950 [(0, .ref 77), (1, .ref 0), (2, .ref 53), (3, .int v3)] [] σ (fn_L_law_b950 n Ls xs k18 v3 σ) := by
  unfold fn_L_law_b950
  refine ev_aload_n (pc := 950) (i := 1) 1 (mL_d dL_law_950) rfl rfl ?_
  refine ev_aload_n (pc := 951) (i := 0) 0 (mL_d dL_law_951) rfl rfl ?_
  refine ev_iload_n (pc := 952) (i := 3) 3 (mL_d dL_law_952) rfl rfl ?_
  refine ev_iconst (pc := 953) (v := 1) (mL_d dL_law_953) (by decide) ?_
  refine ev_iadd (pc := 954) (mL_d dL_law_954) ?_
  refine ev_sld (pc := 955) (Ls := Ls) (xs := xs) rfl (mL_d dL_law_955) ?_
  refine ev_aload_n (pc := 956) (i := 0) 0 (mL_d dL_law_956) rfl rfl ?_
  refine ev_iload_n (pc := 957) (i := 3) 3 (mL_d dL_law_957) rfl rfl ?_
  refine ev_iconst (pc := 958) (v := 2) (mL_d dL_law_958) (by decide) ?_
  refine ev_iadd (pc := 959) (mL_d dL_law_959) ?_
  refine ev_sld (pc := 960) (Ls := Ls) (xs := xs) rfl (mL_d dL_law_960) ?_
  refine ev_aload_n (pc := 961) (i := 0) 0 (mL_d dL_law_961) rfl rfl ?_
  refine ev_iload_n (pc := 962) (i := 3) 3 (mL_d dL_law_962) rfl rfl ?_
  refine ev_iconst (pc := 963) (v := 3) (mL_d dL_law_963) (by decide) ?_
  refine ev_iadd (pc := 964) (mL_d dL_law_964) ?_
  refine ev_sld (pc := 965) (Ls := Ls) (xs := xs) rfl (mL_d dL_law_965) ?_
  refine ev_vW (pc := 966) (as := [.int (xs (v3 + 1).toNatClampNeg), .int (xs (v3 + 2).toNatClampNeg), .int (xs (v3 + 3).toNatClampNeg)]) (rest := []) ⟨6, 128, 8, TX6, tyX6, ag_C6, ⟨(rfl), (by decide)⟩, mv_X6_sheet, ag_ml_L_128, rfl, (Nat.le_of_ble_eq_true rfl), ⟨(Nat.le_of_ble_eq_true rfl), (Nat.le_of_ble_eq_true rfl)⟩, (mL_d dL_law_966)⟩ (im_X6_sheet n (xs (v3 + 1).toNatClampNeg) (xs (v3 + 2).toNatClampNeg) (xs (v3 + 3).toNatClampNeg) σ) (fun q15 => ?_)
  refine ev_aload_n (pc := 969) (i := 2) 2 (mL_d dL_law_969) rfl rfl ?_
  refine ev_aload_n (pc := 970) (i := 0) 0 (mL_d dL_law_970) rfl rfl ?_
  refine ev_iload_n (pc := 971) (i := 3) 3 (mL_d dL_law_971) rfl rfl ?_
  refine ev_iconst (pc := 972) (v := 1) (mL_d dL_law_972) (by decide) ?_
  refine ev_iadd (pc := 973) (mL_d dL_law_973) ?_
  refine ev_sld (pc := 974) (Ls := Ls) (xs := xs) rfl (mL_d dL_law_974) ?_
  refine ev_aload_n (pc := 975) (i := 0) 0 (mL_d dL_law_975) rfl rfl ?_
  refine ev_iload_n (pc := 976) (i := 3) 3 (mL_d dL_law_976) rfl rfl ?_
  refine ev_iconst (pc := 977) (v := 2) (mL_d dL_law_977) (by decide) ?_
  refine ev_iadd (pc := 978) (mL_d dL_law_978) ?_
  refine ev_sld (pc := 979) (Ls := Ls) (xs := xs) rfl (mL_d dL_law_979) ?_
  refine ev_aload_n (pc := 980) (i := 0) 0 (mL_d dL_law_980) rfl rfl ?_
  refine ev_iload_n (pc := 981) (i := 3) 3 (mL_d dL_law_981) rfl rfl ?_
  refine ev_iconst (pc := 982) (v := 3) (mL_d dL_law_982) (by decide) ?_
  refine ev_iadd (pc := 983) (mL_d dL_law_983) ?_
  refine ev_sld (pc := 984) (Ls := Ls) (xs := xs) rfl (mL_d dL_law_984) ?_
  refine ev_vW (pc := 985) (as := [.int (xs (v3 + 1).toNatClampNeg), .int (xs (v3 + 2).toNatClampNeg), .int (xs (v3 + 3).toNatClampNeg)]) (rest := [.int q15.1]) ⟨7, 131, 37, TX7, tyX7, ag_C7, ⟨(rfl), (by decide)⟩, mv_X7_sheet, ag_ml_L_131, rfl, (Nat.le_of_ble_eq_true rfl), ⟨(Nat.le_of_ble_eq_true rfl), (Nat.le_of_ble_eq_true rfl)⟩, (mL_d dL_law_985)⟩ (im_X7_sheet n (xs (v3 + 1).toNatClampNeg) (xs (v3 + 2).toNatClampNeg) (xs (v3 + 3).toNatClampNeg) q15.2) (fun q16 => ?_)
  refine ev_icmp_eq (pc := 988) (tgt := 1235) (mL_d dL_law_988) rfl ?_ ?_
  · exact ev_L_law_b1235 n Ls xs k18 hk18 v3 q16.2
  · refine ev_iconst (pc := 991) (v := 0) (mL_d dL_law_991) (by decide) ?_
    exact ev_brW rfl rfl (mL_d dL_law_992)
def fn_L_law_b917 (n Ls : Nat) (xs : Nat → Int32) (k18 : Int32 → Sg → Option (Int32 × Sg)) (v3 : Int32) (σ : Sg) : Option (Int32 × Sg) :=
  (if ag_ib (v3 + 1) Ls = true then (if ag_ib (v3 + 2) Ls = true then (Option.bind (fn_X6_drawn n (xs (v3 + 1).toNatClampNeg) (xs (v3 + 2).toNatClampNeg) σ) fun q17 =>
  (if ag_ib (v3 + 1) Ls = true then (if ag_ib (v3 + 2) Ls = true then (Option.bind (fn_X7_drawn n (xs (v3 + 1).toNatClampNeg) (xs (v3 + 2).toNatClampNeg) q17.2) fun q18 =>
  (if q17.1 = q18.1 then (fn_L_law_b1235 n Ls xs k18 v3 q18.2)
  else (some (0, q18.2)))) else none) else none)) else none) else none)
set_option maxRecDepth 20000 in
set_option maxHeartbeats 4000000 in
theorem ev_L_law_b917 (n Ls : Nat) (xs : Nat → Int32) (k18 : Int32 → Sg → Option (Int32 × Sg)) (hk18 : ∀ (v3 : Int32) (σ : Sg), Ev (mL_law Ls xs) 10 241 jW 18 [(0, .ref 77), (1, .ref 0), (2, .ref 53), (3, .int v3)] [] σ (k18 v3 σ)) (v3 : Int32) (σ : Sg) : Ev (mL_law Ls xs) 10 241 jW 917 [(0, .ref 77), (1, .ref 0), (2, .ref 53), (3, .int v3)] [] σ (fn_L_law_b917 n Ls xs k18 v3 σ) := by
  unfold fn_L_law_b917
  refine ev_aload_n (pc := 917) (i := 1) 1 (mL_d dL_law_917) rfl rfl ?_
  refine ev_aload_n (pc := 918) (i := 0) 0 (mL_d dL_law_918) rfl rfl ?_
  refine ev_iload_n (pc := 919) (i := 3) 3 (mL_d dL_law_919) rfl rfl ?_
  refine ev_iconst (pc := 920) (v := 1) (mL_d dL_law_920) (by decide) ?_
  refine ev_iadd (pc := 921) (mL_d dL_law_921) ?_
  refine ev_sld (pc := 922) (Ls := Ls) (xs := xs) rfl (mL_d dL_law_922) ?_
  refine ev_aload_n (pc := 923) (i := 0) 0 (mL_d dL_law_923) rfl rfl ?_
  refine ev_iload_n (pc := 924) (i := 3) 3 (mL_d dL_law_924) rfl rfl ?_
  refine ev_iconst (pc := 925) (v := 2) (mL_d dL_law_925) (by decide) ?_
  refine ev_iadd (pc := 926) (mL_d dL_law_926) ?_
  refine ev_sld (pc := 927) (Ls := Ls) (xs := xs) rfl (mL_d dL_law_927) ?_
  refine ev_vW (pc := 928) (as := [.int (xs (v3 + 1).toNatClampNeg), .int (xs (v3 + 2).toNatClampNeg)]) (rest := []) ⟨6, 124, 8, TX6, tyX6, ag_C6, ⟨(rfl), (by decide)⟩, mv_X6_drawn, ag_ml_L_124, rfl, (Nat.le_of_ble_eq_true rfl), ⟨(Nat.le_of_ble_eq_true rfl), (Nat.le_of_ble_eq_true rfl)⟩, (mL_d dL_law_928)⟩ (im_X6_drawn n (xs (v3 + 1).toNatClampNeg) (xs (v3 + 2).toNatClampNeg) σ) (fun q17 => ?_)
  refine ev_aload_n (pc := 931) (i := 2) 2 (mL_d dL_law_931) rfl rfl ?_
  refine ev_aload_n (pc := 932) (i := 0) 0 (mL_d dL_law_932) rfl rfl ?_
  refine ev_iload_n (pc := 933) (i := 3) 3 (mL_d dL_law_933) rfl rfl ?_
  refine ev_iconst (pc := 934) (v := 1) (mL_d dL_law_934) (by decide) ?_
  refine ev_iadd (pc := 935) (mL_d dL_law_935) ?_
  refine ev_sld (pc := 936) (Ls := Ls) (xs := xs) rfl (mL_d dL_law_936) ?_
  refine ev_aload_n (pc := 937) (i := 0) 0 (mL_d dL_law_937) rfl rfl ?_
  refine ev_iload_n (pc := 938) (i := 3) 3 (mL_d dL_law_938) rfl rfl ?_
  refine ev_iconst (pc := 939) (v := 2) (mL_d dL_law_939) (by decide) ?_
  refine ev_iadd (pc := 940) (mL_d dL_law_940) ?_
  refine ev_sld (pc := 941) (Ls := Ls) (xs := xs) rfl (mL_d dL_law_941) ?_
  refine ev_vW (pc := 942) (as := [.int (xs (v3 + 1).toNatClampNeg), .int (xs (v3 + 2).toNatClampNeg)]) (rest := [.int q17.1]) ⟨7, 127, 37, TX7, tyX7, ag_C7, ⟨(rfl), (by decide)⟩, mv_X7_drawn, ag_ml_L_127, rfl, (Nat.le_of_ble_eq_true rfl), ⟨(Nat.le_of_ble_eq_true rfl), (Nat.le_of_ble_eq_true rfl)⟩, (mL_d dL_law_942)⟩ (im_X7_drawn n (xs (v3 + 1).toNatClampNeg) (xs (v3 + 2).toNatClampNeg) q17.2) (fun q18 => ?_)
  refine ev_icmp_eq (pc := 945) (tgt := 1235) (mL_d dL_law_945) rfl ?_ ?_
  · exact ev_L_law_b1235 n Ls xs k18 hk18 v3 q18.2
  · refine ev_iconst (pc := 948) (v := 0) (mL_d dL_law_948) (by decide) ?_
    exact ev_brW rfl rfl (mL_d dL_law_949)
def fn_L_law_b863 (n Ls : Nat) (xs : Nat → Int32) (k18 : Int32 → Sg → Option (Int32 × Sg)) (v3 : Int32) (σ : Sg) : Option (Int32 × Sg) :=
  (if ag_ib (v3 + 1) Ls = true then (if ag_ib (v3 + 2) Ls = true then (if ag_ib (v3 + 3) Ls = true then (if ag_ib (v3 + 4) Ls = true then (Option.bind (fn_X6_chance n (xs (v3 + 1).toNatClampNeg) (xs (v3 + 2).toNatClampNeg) (xs (v3 + 3).toNatClampNeg) (xs (v3 + 4).toNatClampNeg) σ) fun q19 =>
  (if ag_ib (v3 + 1) Ls = true then (if ag_ib (v3 + 2) Ls = true then (if ag_ib (v3 + 3) Ls = true then (if ag_ib (v3 + 4) Ls = true then (Option.bind (fn_X7_chance n (xs (v3 + 1).toNatClampNeg) (xs (v3 + 2).toNatClampNeg) (xs (v3 + 3).toNatClampNeg) (xs (v3 + 4).toNatClampNeg) q19.2) fun q20 =>
  (if (lg_cmp q19.1 q20.1) = 0 then (fn_L_law_b1235 n Ls xs k18 v3 q20.2)
  else (some (0, q20.2)))) else none) else none) else none) else none)) else none) else none) else none) else none)
set_option maxRecDepth 20000 in
set_option maxHeartbeats 4000000 in
theorem ev_L_law_b863 (n Ls : Nat) (xs : Nat → Int32) (k18 : Int32 → Sg → Option (Int32 × Sg)) (hk18 : ∀ (v3 : Int32) (σ : Sg), Ev (mL_law Ls xs) 10 241 jW 18 [(0, .ref 77), (1, .ref 0), (2, .ref 53), (3, .int v3)] [] σ (k18 v3 σ)) (v3 : Int32) (σ : Sg) : Ev (mL_law Ls xs) 10 241 jW 863 [(0, .ref 77), (1, .ref 0), (2, .ref 53), (3, .int v3)] [] σ (fn_L_law_b863 n Ls xs k18 v3 σ) := by
  unfold fn_L_law_b863
  refine ev_aload_n (pc := 863) (i := 1) 1 (mL_d dL_law_863) rfl rfl ?_
  refine ev_aload_n (pc := 864) (i := 0) 0 (mL_d dL_law_864) rfl rfl ?_
  refine ev_iload_n (pc := 865) (i := 3) 3 (mL_d dL_law_865) rfl rfl ?_
  refine ev_iconst (pc := 866) (v := 1) (mL_d dL_law_866) (by decide) ?_
  refine ev_iadd (pc := 867) (mL_d dL_law_867) ?_
  refine ev_sld (pc := 868) (Ls := Ls) (xs := xs) rfl (mL_d dL_law_868) ?_
  refine ev_aload_n (pc := 869) (i := 0) 0 (mL_d dL_law_869) rfl rfl ?_
  refine ev_iload_n (pc := 870) (i := 3) 3 (mL_d dL_law_870) rfl rfl ?_
  refine ev_iconst (pc := 871) (v := 2) (mL_d dL_law_871) (by decide) ?_
  refine ev_iadd (pc := 872) (mL_d dL_law_872) ?_
  refine ev_sld (pc := 873) (Ls := Ls) (xs := xs) rfl (mL_d dL_law_873) ?_
  refine ev_aload_n (pc := 874) (i := 0) 0 (mL_d dL_law_874) rfl rfl ?_
  refine ev_iload_n (pc := 875) (i := 3) 3 (mL_d dL_law_875) rfl rfl ?_
  refine ev_iconst (pc := 876) (v := 3) (mL_d dL_law_876) (by decide) ?_
  refine ev_iadd (pc := 877) (mL_d dL_law_877) ?_
  refine ev_sld (pc := 878) (Ls := Ls) (xs := xs) rfl (mL_d dL_law_878) ?_
  refine ev_aload_n (pc := 879) (i := 0) 0 (mL_d dL_law_879) rfl rfl ?_
  refine ev_iload_n (pc := 880) (i := 3) 3 (mL_d dL_law_880) rfl rfl ?_
  refine ev_iconst (pc := 881) (v := 4) (mL_d dL_law_881) (by decide) ?_
  refine ev_iadd (pc := 882) (mL_d dL_law_882) ?_
  refine ev_sld (pc := 883) (Ls := Ls) (xs := xs) rfl (mL_d dL_law_883) ?_
  refine ev_vM (pc := 884) (as := [.int (xs (v3 + 1).toNatClampNeg), .int (xs (v3 + 2).toNatClampNeg), .int (xs (v3 + 3).toNatClampNeg), .int (xs (v3 + 4).toNatClampNeg)]) (rest := []) ⟨6, 119, 8, TX6, tyX6, ag_C6, ⟨(rfl), (by decide)⟩, mv_X6_chance, ag_ml_L_119, rfl, (Nat.le_of_ble_eq_true rfl), ⟨(Nat.le_of_ble_eq_true rfl), (Nat.le_of_ble_eq_true rfl)⟩, (mL_d dL_law_884)⟩ (im_X6_chance n (xs (v3 + 1).toNatClampNeg) (xs (v3 + 2).toNatClampNeg) (xs (v3 + 3).toNatClampNeg) (xs (v3 + 4).toNatClampNeg) σ) (fun q19 => ?_)
  refine ev_aload_n (pc := 887) (i := 2) 2 (mL_d dL_law_887) rfl rfl ?_
  refine ev_aload_n (pc := 888) (i := 0) 0 (mL_d dL_law_888) rfl rfl ?_
  refine ev_iload_n (pc := 889) (i := 3) 3 (mL_d dL_law_889) rfl rfl ?_
  refine ev_iconst (pc := 890) (v := 1) (mL_d dL_law_890) (by decide) ?_
  refine ev_iadd (pc := 891) (mL_d dL_law_891) ?_
  refine ev_sld (pc := 892) (Ls := Ls) (xs := xs) rfl (mL_d dL_law_892) ?_
  refine ev_aload_n (pc := 893) (i := 0) 0 (mL_d dL_law_893) rfl rfl ?_
  refine ev_iload_n (pc := 894) (i := 3) 3 (mL_d dL_law_894) rfl rfl ?_
  refine ev_iconst (pc := 895) (v := 2) (mL_d dL_law_895) (by decide) ?_
  refine ev_iadd (pc := 896) (mL_d dL_law_896) ?_
  refine ev_sld (pc := 897) (Ls := Ls) (xs := xs) rfl (mL_d dL_law_897) ?_
  refine ev_aload_n (pc := 898) (i := 0) 0 (mL_d dL_law_898) rfl rfl ?_
  refine ev_iload_n (pc := 899) (i := 3) 3 (mL_d dL_law_899) rfl rfl ?_
  refine ev_iconst (pc := 900) (v := 3) (mL_d dL_law_900) (by decide) ?_
  refine ev_iadd (pc := 901) (mL_d dL_law_901) ?_
  refine ev_sld (pc := 902) (Ls := Ls) (xs := xs) rfl (mL_d dL_law_902) ?_
  refine ev_aload_n (pc := 903) (i := 0) 0 (mL_d dL_law_903) rfl rfl ?_
  refine ev_iload_n (pc := 904) (i := 3) 3 (mL_d dL_law_904) rfl rfl ?_
  refine ev_iconst (pc := 905) (v := 4) (mL_d dL_law_905) (by decide) ?_
  refine ev_iadd (pc := 906) (mL_d dL_law_906) ?_
  refine ev_sld (pc := 907) (Ls := Ls) (xs := xs) rfl (mL_d dL_law_907) ?_
  refine ev_vM (pc := 908) (as := [.int (xs (v3 + 1).toNatClampNeg), .int (xs (v3 + 2).toNatClampNeg), .int (xs (v3 + 3).toNatClampNeg), .int (xs (v3 + 4).toNatClampNeg)]) (rest := [.long q19.1]) ⟨7, 123, 37, TX7, tyX7, ag_C7, ⟨(rfl), (by decide)⟩, mv_X7_chance, ag_ml_L_123, rfl, (Nat.le_of_ble_eq_true rfl), ⟨(Nat.le_of_ble_eq_true rfl), (Nat.le_of_ble_eq_true rfl)⟩, (mL_d dL_law_908)⟩ (im_X7_chance n (xs (v3 + 1).toNatClampNeg) (xs (v3 + 2).toNatClampNeg) (xs (v3 + 3).toNatClampNeg) (xs (v3 + 4).toNatClampNeg) q19.2) (fun q20 => ?_)
  refine ev_lcmp (pc := 911) (mL_d dL_law_911) ?_
  refine ev_if_eq (pc := 912) (tgt := 1235) (mL_d dL_law_912) rfl ?_ ?_
  · exact ev_L_law_b1235 n Ls xs k18 hk18 v3 q20.2
  · refine ev_iconst (pc := 915) (v := 0) (mL_d dL_law_915) (by decide) ?_
    exact ev_brW rfl rfl (mL_d dL_law_916)
def fn_L_law_b850 (n Ls : Nat) (xs : Nat → Int32) (k18 : Int32 → Sg → Option (Int32 × Sg)) (v3 : Int32) (σ : Sg) : Option (Int32 × Sg) :=
  (Option.bind (fn_X6_forged n σ) fun q21 =>
  (Option.bind (fn_X7_forged n q21.2) fun q22 =>
  (if q21.1 = q22.1 then (fn_L_law_b1235 n Ls xs k18 v3 q22.2)
  else (some (0, q22.2)))))
set_option maxRecDepth 20000 in
set_option maxHeartbeats 4000000 in
theorem ev_L_law_b850 (n Ls : Nat) (xs : Nat → Int32) (k18 : Int32 → Sg → Option (Int32 × Sg)) (hk18 : ∀ (v3 : Int32) (σ : Sg), Ev (mL_law Ls xs) 10 241 jW 18 [(0, .ref 77), (1, .ref 0), (2, .ref 53), (3, .int v3)] [] σ (k18 v3 σ)) (v3 : Int32) (σ : Sg) : Ev (mL_law Ls xs) 10 241 jW 850 [(0, .ref 77), (1, .ref 0), (2, .ref 53), (3, .int v3)] [] σ (fn_L_law_b850 n Ls xs k18 v3 σ) := by
  unfold fn_L_law_b850
  refine ev_aload_n (pc := 850) (i := 1) 1 (mL_d dL_law_850) rfl rfl ?_
  refine ev_vW (pc := 851) (as := []) (rest := []) ⟨6, 115, 8, TX6, tyX6, ag_C6, ⟨(rfl), (by decide)⟩, mv_X6_forged, ag_ml_L_115, rfl, (Nat.le_of_ble_eq_true rfl), ⟨(Nat.le_of_ble_eq_true rfl), (Nat.le_of_ble_eq_true rfl)⟩, (mL_d dL_law_851)⟩ (im_X6_forged n σ) (fun q21 => ?_)
  refine ev_aload_n (pc := 854) (i := 2) 2 (mL_d dL_law_854) rfl rfl ?_
  refine ev_vW (pc := 855) (as := []) (rest := [.int q21.1]) ⟨7, 118, 37, TX7, tyX7, ag_C7, ⟨(rfl), (by decide)⟩, mv_X7_forged, ag_ml_L_118, rfl, (Nat.le_of_ble_eq_true rfl), ⟨(Nat.le_of_ble_eq_true rfl), (Nat.le_of_ble_eq_true rfl)⟩, (mL_d dL_law_855)⟩ (im_X7_forged n q21.2) (fun q22 => ?_)
  refine ev_icmp_eq (pc := 858) (tgt := 1235) (mL_d dL_law_858) rfl ?_ ?_
  · exact ev_L_law_b1235 n Ls xs k18 hk18 v3 q22.2
  · refine ev_iconst (pc := 861) (v := 0) (mL_d dL_law_861) (by decide) ?_
    exact ev_brW rfl rfl (mL_d dL_law_862)
def fn_L_law_b827 (n Ls : Nat) (xs : Nat → Int32) (k18 : Int32 → Sg → Option (Int32 × Sg)) (v3 : Int32) (σ : Sg) : Option (Int32 × Sg) :=
  (if ag_ib (v3 + 1) Ls = true then (Option.bind (fn_X6_said n (xs (v3 + 1).toNatClampNeg) σ) fun q23 =>
  (if ag_ib (v3 + 1) Ls = true then (Option.bind (fn_X7_said n (xs (v3 + 1).toNatClampNeg) q23.2) fun q24 =>
  (if q23.1 = q24.1 then (fn_L_law_b1235 n Ls xs k18 v3 q24.2)
  else (some (0, q24.2)))) else none)) else none)
set_option maxRecDepth 20000 in
set_option maxHeartbeats 4000000 in
theorem ev_L_law_b827 (n Ls : Nat) (xs : Nat → Int32) (k18 : Int32 → Sg → Option (Int32 × Sg)) (hk18 : ∀ (v3 : Int32) (σ : Sg), Ev (mL_law Ls xs) 10 241 jW 18 [(0, .ref 77), (1, .ref 0), (2, .ref 53), (3, .int v3)] [] σ (k18 v3 σ)) (v3 : Int32) (σ : Sg) : Ev (mL_law Ls xs) 10 241 jW 827 [(0, .ref 77), (1, .ref 0), (2, .ref 53), (3, .int v3)] [] σ (fn_L_law_b827 n Ls xs k18 v3 σ) := by
  unfold fn_L_law_b827
  refine ev_aload_n (pc := 827) (i := 1) 1 (mL_d dL_law_827) rfl rfl ?_
  refine ev_aload_n (pc := 828) (i := 0) 0 (mL_d dL_law_828) rfl rfl ?_
  refine ev_iload_n (pc := 829) (i := 3) 3 (mL_d dL_law_829) rfl rfl ?_
  refine ev_iconst (pc := 830) (v := 1) (mL_d dL_law_830) (by decide) ?_
  refine ev_iadd (pc := 831) (mL_d dL_law_831) ?_
  refine ev_sld (pc := 832) (Ls := Ls) (xs := xs) rfl (mL_d dL_law_832) ?_
  refine ev_vW (pc := 833) (as := [.int (xs (v3 + 1).toNatClampNeg)]) (rest := []) ⟨6, 111, 8, TX6, tyX6, ag_C6, ⟨(rfl), (by decide)⟩, mv_X6_said, ag_ml_L_111, rfl, (Nat.le_of_ble_eq_true rfl), ⟨(Nat.le_of_ble_eq_true rfl), (Nat.le_of_ble_eq_true rfl)⟩, (mL_d dL_law_833)⟩ (im_X6_said n (xs (v3 + 1).toNatClampNeg) σ) (fun q23 => ?_)
  refine ev_aload_n (pc := 836) (i := 2) 2 (mL_d dL_law_836) rfl rfl ?_
  refine ev_aload_n (pc := 837) (i := 0) 0 (mL_d dL_law_837) rfl rfl ?_
  refine ev_iload_n (pc := 838) (i := 3) 3 (mL_d dL_law_838) rfl rfl ?_
  refine ev_iconst (pc := 839) (v := 1) (mL_d dL_law_839) (by decide) ?_
  refine ev_iadd (pc := 840) (mL_d dL_law_840) ?_
  refine ev_sld (pc := 841) (Ls := Ls) (xs := xs) rfl (mL_d dL_law_841) ?_
  refine ev_vW (pc := 842) (as := [.int (xs (v3 + 1).toNatClampNeg)]) (rest := [.int q23.1]) ⟨7, 114, 37, TX7, tyX7, ag_C7, ⟨(rfl), (by decide)⟩, mv_X7_said, ag_ml_L_114, rfl, (Nat.le_of_ble_eq_true rfl), ⟨(Nat.le_of_ble_eq_true rfl), (Nat.le_of_ble_eq_true rfl)⟩, (mL_d dL_law_842)⟩ (im_X7_said n (xs (v3 + 1).toNatClampNeg) q23.2) (fun q24 => ?_)
  refine ev_icmp_eq (pc := 845) (tgt := 1235) (mL_d dL_law_845) rfl ?_ ?_
  · exact ev_L_law_b1235 n Ls xs k18 hk18 v3 q24.2
  · refine ev_iconst (pc := 848) (v := 0) (mL_d dL_law_848) (by decide) ?_
    exact ev_brW rfl rfl (mL_d dL_law_849)
def fn_L_law_b814 (n Ls : Nat) (xs : Nat → Int32) (k18 : Int32 → Sg → Option (Int32 × Sg)) (v3 : Int32) (σ : Sg) : Option (Int32 × Sg) :=
  (Option.bind (fn_X6_forget σ) fun q25 =>
  (Option.bind (fn_X7_forget q25.2) fun q26 =>
  (if q25.1 = q26.1 then (fn_L_law_b1235 n Ls xs k18 v3 q26.2)
  else (some (0, q26.2)))))
set_option maxRecDepth 20000 in
set_option maxHeartbeats 4000000 in
theorem ev_L_law_b814 (n Ls : Nat) (xs : Nat → Int32) (k18 : Int32 → Sg → Option (Int32 × Sg)) (hk18 : ∀ (v3 : Int32) (σ : Sg), Ev (mL_law Ls xs) 10 241 jW 18 [(0, .ref 77), (1, .ref 0), (2, .ref 53), (3, .int v3)] [] σ (k18 v3 σ)) (v3 : Int32) (σ : Sg) : Ev (mL_law Ls xs) 10 241 jW 814 [(0, .ref 77), (1, .ref 0), (2, .ref 53), (3, .int v3)] [] σ (fn_L_law_b814 n Ls xs k18 v3 σ) := by
  unfold fn_L_law_b814
  refine ev_aload_n (pc := 814) (i := 1) 1 (mL_d dL_law_814) rfl rfl ?_
  refine ev_vW (pc := 815) (as := []) (rest := []) ⟨6, 107, 8, TX6, tyX6, ag_C6, ⟨(rfl), (by decide)⟩, mv_X6_forget, ag_ml_L_107, rfl, (Nat.le_of_ble_eq_true rfl), ⟨(Nat.le_of_ble_eq_true rfl), (Nat.le_of_ble_eq_true rfl)⟩, (mL_d dL_law_815)⟩ (im_X6_forget σ) (fun q25 => ?_)
  refine ev_aload_n (pc := 818) (i := 2) 2 (mL_d dL_law_818) rfl rfl ?_
  refine ev_vW (pc := 819) (as := []) (rest := [.int q25.1]) ⟨7, 110, 37, TX7, tyX7, ag_C7, ⟨(rfl), (by decide)⟩, mv_X7_forget, ag_ml_L_110, rfl, (Nat.le_of_ble_eq_true rfl), ⟨(Nat.le_of_ble_eq_true rfl), (Nat.le_of_ble_eq_true rfl)⟩, (mL_d dL_law_819)⟩ (im_X7_forget q25.2) (fun q26 => ?_)
  refine ev_icmp_eq (pc := 822) (tgt := 1235) (mL_d dL_law_822) rfl ?_ ?_
  · exact ev_L_law_b1235 n Ls xs k18 hk18 v3 q26.2
  · refine ev_iconst (pc := 825) (v := 0) (mL_d dL_law_825) (by decide) ?_
    exact ev_brW rfl rfl (mL_d dL_law_826)
def fn_L_law_b761 (n Ls : Nat) (xs : Nat → Int32) (k18 : Int32 → Sg → Option (Int32 × Sg)) (v3 : Int32) (σ : Sg) : Option (Int32 × Sg) :=
  (if ag_ib (v3 + 1) Ls = true then (if ag_ib (v3 + 2) Ls = true then (if ag_ib (v3 + 3) Ls = true then (if ag_ib (v3 + 4) Ls = true then (Option.bind (fn_X6_done (xs (v3 + 1).toNatClampNeg) (xs (v3 + 2).toNatClampNeg) (xs (v3 + 3).toNatClampNeg) (xs (v3 + 4).toNatClampNeg) σ) fun q27 =>
  (if ag_ib (v3 + 1) Ls = true then (if ag_ib (v3 + 2) Ls = true then (if ag_ib (v3 + 3) Ls = true then (if ag_ib (v3 + 4) Ls = true then (Option.bind (fn_X7_done (xs (v3 + 1).toNatClampNeg) (xs (v3 + 2).toNatClampNeg) (xs (v3 + 3).toNatClampNeg) (xs (v3 + 4).toNatClampNeg) q27.2) fun q28 =>
  (if q27.1 = q28.1 then (fn_L_law_b1235 n Ls xs k18 v3 q28.2)
  else (some (0, q28.2)))) else none) else none) else none) else none)) else none) else none) else none) else none)
set_option maxRecDepth 20000 in
set_option maxHeartbeats 4000000 in
theorem ev_L_law_b761 (n Ls : Nat) (xs : Nat → Int32) (k18 : Int32 → Sg → Option (Int32 × Sg)) (hk18 : ∀ (v3 : Int32) (σ : Sg), Ev (mL_law Ls xs) 10 241 jW 18 [(0, .ref 77), (1, .ref 0), (2, .ref 53), (3, .int v3)] [] σ (k18 v3 σ)) (v3 : Int32) (σ : Sg) : Ev (mL_law Ls xs) 10 241 jW 761 [(0, .ref 77), (1, .ref 0), (2, .ref 53), (3, .int v3)] [] σ (fn_L_law_b761 n Ls xs k18 v3 σ) := by
  unfold fn_L_law_b761
  refine ev_aload_n (pc := 761) (i := 1) 1 (mL_d dL_law_761) rfl rfl ?_
  refine ev_aload_n (pc := 762) (i := 0) 0 (mL_d dL_law_762) rfl rfl ?_
  refine ev_iload_n (pc := 763) (i := 3) 3 (mL_d dL_law_763) rfl rfl ?_
  refine ev_iconst (pc := 764) (v := 1) (mL_d dL_law_764) (by decide) ?_
  refine ev_iadd (pc := 765) (mL_d dL_law_765) ?_
  refine ev_sld (pc := 766) (Ls := Ls) (xs := xs) rfl (mL_d dL_law_766) ?_
  refine ev_aload_n (pc := 767) (i := 0) 0 (mL_d dL_law_767) rfl rfl ?_
  refine ev_iload_n (pc := 768) (i := 3) 3 (mL_d dL_law_768) rfl rfl ?_
  refine ev_iconst (pc := 769) (v := 2) (mL_d dL_law_769) (by decide) ?_
  refine ev_iadd (pc := 770) (mL_d dL_law_770) ?_
  refine ev_sld (pc := 771) (Ls := Ls) (xs := xs) rfl (mL_d dL_law_771) ?_
  refine ev_aload_n (pc := 772) (i := 0) 0 (mL_d dL_law_772) rfl rfl ?_
  refine ev_iload_n (pc := 773) (i := 3) 3 (mL_d dL_law_773) rfl rfl ?_
  refine ev_iconst (pc := 774) (v := 3) (mL_d dL_law_774) (by decide) ?_
  refine ev_iadd (pc := 775) (mL_d dL_law_775) ?_
  refine ev_sld (pc := 776) (Ls := Ls) (xs := xs) rfl (mL_d dL_law_776) ?_
  refine ev_aload_n (pc := 777) (i := 0) 0 (mL_d dL_law_777) rfl rfl ?_
  refine ev_iload_n (pc := 778) (i := 3) 3 (mL_d dL_law_778) rfl rfl ?_
  refine ev_iconst (pc := 779) (v := 4) (mL_d dL_law_779) (by decide) ?_
  refine ev_iadd (pc := 780) (mL_d dL_law_780) ?_
  refine ev_sld (pc := 781) (Ls := Ls) (xs := xs) rfl (mL_d dL_law_781) ?_
  refine ev_vW (pc := 782) (as := [.int (xs (v3 + 1).toNatClampNeg), .int (xs (v3 + 2).toNatClampNeg), .int (xs (v3 + 3).toNatClampNeg), .int (xs (v3 + 4).toNatClampNeg)]) (rest := []) ⟨6, 102, 8, TX6, tyX6, ag_C6, ⟨(rfl), (by decide)⟩, mv_X6_done, ag_ml_L_102, rfl, (Nat.le_of_ble_eq_true rfl), ⟨(Nat.le_of_ble_eq_true rfl), (Nat.le_of_ble_eq_true rfl)⟩, (mL_d dL_law_782)⟩ (im_X6_done (xs (v3 + 1).toNatClampNeg) (xs (v3 + 2).toNatClampNeg) (xs (v3 + 3).toNatClampNeg) (xs (v3 + 4).toNatClampNeg) σ) (fun q27 => ?_)
  refine ev_aload_n (pc := 785) (i := 2) 2 (mL_d dL_law_785) rfl rfl ?_
  refine ev_aload_n (pc := 786) (i := 0) 0 (mL_d dL_law_786) rfl rfl ?_
  refine ev_iload_n (pc := 787) (i := 3) 3 (mL_d dL_law_787) rfl rfl ?_
  refine ev_iconst (pc := 788) (v := 1) (mL_d dL_law_788) (by decide) ?_
  refine ev_iadd (pc := 789) (mL_d dL_law_789) ?_
  refine ev_sld (pc := 790) (Ls := Ls) (xs := xs) rfl (mL_d dL_law_790) ?_
  refine ev_aload_n (pc := 791) (i := 0) 0 (mL_d dL_law_791) rfl rfl ?_
  refine ev_iload_n (pc := 792) (i := 3) 3 (mL_d dL_law_792) rfl rfl ?_
  refine ev_iconst (pc := 793) (v := 2) (mL_d dL_law_793) (by decide) ?_
  refine ev_iadd (pc := 794) (mL_d dL_law_794) ?_
  refine ev_sld (pc := 795) (Ls := Ls) (xs := xs) rfl (mL_d dL_law_795) ?_
  refine ev_aload_n (pc := 796) (i := 0) 0 (mL_d dL_law_796) rfl rfl ?_
  refine ev_iload_n (pc := 797) (i := 3) 3 (mL_d dL_law_797) rfl rfl ?_
  refine ev_iconst (pc := 798) (v := 3) (mL_d dL_law_798) (by decide) ?_
  refine ev_iadd (pc := 799) (mL_d dL_law_799) ?_
  refine ev_sld (pc := 800) (Ls := Ls) (xs := xs) rfl (mL_d dL_law_800) ?_
  refine ev_aload_n (pc := 801) (i := 0) 0 (mL_d dL_law_801) rfl rfl ?_
  refine ev_iload_n (pc := 802) (i := 3) 3 (mL_d dL_law_802) rfl rfl ?_
  refine ev_iconst (pc := 803) (v := 4) (mL_d dL_law_803) (by decide) ?_
  refine ev_iadd (pc := 804) (mL_d dL_law_804) ?_
  refine ev_sld (pc := 805) (Ls := Ls) (xs := xs) rfl (mL_d dL_law_805) ?_
  refine ev_vW (pc := 806) (as := [.int (xs (v3 + 1).toNatClampNeg), .int (xs (v3 + 2).toNatClampNeg), .int (xs (v3 + 3).toNatClampNeg), .int (xs (v3 + 4).toNatClampNeg)]) (rest := [.int q27.1]) ⟨7, 106, 37, TX7, tyX7, ag_C7, ⟨(rfl), (by decide)⟩, mv_X7_done, ag_ml_L_106, rfl, (Nat.le_of_ble_eq_true rfl), ⟨(Nat.le_of_ble_eq_true rfl), (Nat.le_of_ble_eq_true rfl)⟩, (mL_d dL_law_806)⟩ (im_X7_done (xs (v3 + 1).toNatClampNeg) (xs (v3 + 2).toNatClampNeg) (xs (v3 + 3).toNatClampNeg) (xs (v3 + 4).toNatClampNeg) q27.2) (fun q28 => ?_)
  refine ev_icmp_eq (pc := 809) (tgt := 1235) (mL_d dL_law_809) rfl ?_ ?_
  · exact ev_L_law_b1235 n Ls xs k18 hk18 v3 q28.2
  · refine ev_iconst (pc := 812) (v := 0) (mL_d dL_law_812) (by decide) ?_
    exact ev_brW rfl rfl (mL_d dL_law_813)
def fn_L_law_b718 (n Ls : Nat) (xs : Nat → Int32) (k18 : Int32 → Sg → Option (Int32 × Sg)) (v3 : Int32) (σ : Sg) : Option (Int32 × Sg) :=
  (if ag_ib (v3 + 1) Ls = true then (if ag_ib (v3 + 2) Ls = true then (if ag_ib (v3 + 3) Ls = true then (Option.bind (fn_X6_teach n (xs (v3 + 1).toNatClampNeg) (xs (v3 + 2).toNatClampNeg) (xs (v3 + 3).toNatClampNeg) σ) fun q29 =>
  (if ag_ib (v3 + 1) Ls = true then (if ag_ib (v3 + 2) Ls = true then (if ag_ib (v3 + 3) Ls = true then (Option.bind (fn_X7_teach n (xs (v3 + 1).toNatClampNeg) (xs (v3 + 2).toNatClampNeg) (xs (v3 + 3).toNatClampNeg) q29.2) fun q30 =>
  (if q29.1 = q30.1 then (fn_L_law_b1235 n Ls xs k18 v3 q30.2)
  else (some (0, q30.2)))) else none) else none) else none)) else none) else none) else none)
set_option maxRecDepth 20000 in
set_option maxHeartbeats 4000000 in
theorem ev_L_law_b718 (n Ls : Nat) (xs : Nat → Int32) (k18 : Int32 → Sg → Option (Int32 × Sg)) (hk18 : ∀ (v3 : Int32) (σ : Sg), Ev (mL_law Ls xs) 10 241 jW 18 [(0, .ref 77), (1, .ref 0), (2, .ref 53), (3, .int v3)] [] σ (k18 v3 σ)) (v3 : Int32) (σ : Sg) : Ev (mL_law Ls xs) 10 241 jW 718 [(0, .ref 77), (1, .ref 0), (2, .ref 53), (3, .int v3)] [] σ (fn_L_law_b718 n Ls xs k18 v3 σ) := by
  unfold fn_L_law_b718
  refine ev_aload_n (pc := 718) (i := 1) 1 (mL_d dL_law_718) rfl rfl ?_
  refine ev_aload_n (pc := 719) (i := 0) 0 (mL_d dL_law_719) rfl rfl ?_
  refine ev_iload_n (pc := 720) (i := 3) 3 (mL_d dL_law_720) rfl rfl ?_
  refine ev_iconst (pc := 721) (v := 1) (mL_d dL_law_721) (by decide) ?_
  refine ev_iadd (pc := 722) (mL_d dL_law_722) ?_
  refine ev_sld (pc := 723) (Ls := Ls) (xs := xs) rfl (mL_d dL_law_723) ?_
  refine ev_aload_n (pc := 724) (i := 0) 0 (mL_d dL_law_724) rfl rfl ?_
  refine ev_iload_n (pc := 725) (i := 3) 3 (mL_d dL_law_725) rfl rfl ?_
  refine ev_iconst (pc := 726) (v := 2) (mL_d dL_law_726) (by decide) ?_
  refine ev_iadd (pc := 727) (mL_d dL_law_727) ?_
  refine ev_sld (pc := 728) (Ls := Ls) (xs := xs) rfl (mL_d dL_law_728) ?_
  refine ev_aload_n (pc := 729) (i := 0) 0 (mL_d dL_law_729) rfl rfl ?_
  refine ev_iload_n (pc := 730) (i := 3) 3 (mL_d dL_law_730) rfl rfl ?_
  refine ev_iconst (pc := 731) (v := 3) (mL_d dL_law_731) (by decide) ?_
  refine ev_iadd (pc := 732) (mL_d dL_law_732) ?_
  refine ev_sld (pc := 733) (Ls := Ls) (xs := xs) rfl (mL_d dL_law_733) ?_
  refine ev_vW (pc := 734) (as := [.int (xs (v3 + 1).toNatClampNeg), .int (xs (v3 + 2).toNatClampNeg), .int (xs (v3 + 3).toNatClampNeg)]) (rest := []) ⟨6, 98, 8, TX6, tyX6, ag_C6, ⟨(rfl), (by decide)⟩, mv_X6_teach, ag_ml_L_98, rfl, (Nat.le_of_ble_eq_true rfl), ⟨(Nat.le_of_ble_eq_true rfl), (Nat.le_of_ble_eq_true rfl)⟩, (mL_d dL_law_734)⟩ (im_X6_teach n (xs (v3 + 1).toNatClampNeg) (xs (v3 + 2).toNatClampNeg) (xs (v3 + 3).toNatClampNeg) σ) (fun q29 => ?_)
  refine ev_aload_n (pc := 737) (i := 2) 2 (mL_d dL_law_737) rfl rfl ?_
  refine ev_aload_n (pc := 738) (i := 0) 0 (mL_d dL_law_738) rfl rfl ?_
  refine ev_iload_n (pc := 739) (i := 3) 3 (mL_d dL_law_739) rfl rfl ?_
  refine ev_iconst (pc := 740) (v := 1) (mL_d dL_law_740) (by decide) ?_
  refine ev_iadd (pc := 741) (mL_d dL_law_741) ?_
  refine ev_sld (pc := 742) (Ls := Ls) (xs := xs) rfl (mL_d dL_law_742) ?_
  refine ev_aload_n (pc := 743) (i := 0) 0 (mL_d dL_law_743) rfl rfl ?_
  refine ev_iload_n (pc := 744) (i := 3) 3 (mL_d dL_law_744) rfl rfl ?_
  refine ev_iconst (pc := 745) (v := 2) (mL_d dL_law_745) (by decide) ?_
  refine ev_iadd (pc := 746) (mL_d dL_law_746) ?_
  refine ev_sld (pc := 747) (Ls := Ls) (xs := xs) rfl (mL_d dL_law_747) ?_
  refine ev_aload_n (pc := 748) (i := 0) 0 (mL_d dL_law_748) rfl rfl ?_
  refine ev_iload_n (pc := 749) (i := 3) 3 (mL_d dL_law_749) rfl rfl ?_
  refine ev_iconst (pc := 750) (v := 3) (mL_d dL_law_750) (by decide) ?_
  refine ev_iadd (pc := 751) (mL_d dL_law_751) ?_
  refine ev_sld (pc := 752) (Ls := Ls) (xs := xs) rfl (mL_d dL_law_752) ?_
  refine ev_vW (pc := 753) (as := [.int (xs (v3 + 1).toNatClampNeg), .int (xs (v3 + 2).toNatClampNeg), .int (xs (v3 + 3).toNatClampNeg)]) (rest := [.int q29.1]) ⟨7, 101, 37, TX7, tyX7, ag_C7, ⟨(rfl), (by decide)⟩, mv_X7_teach, ag_ml_L_101, rfl, (Nat.le_of_ble_eq_true rfl), ⟨(Nat.le_of_ble_eq_true rfl), (Nat.le_of_ble_eq_true rfl)⟩, (mL_d dL_law_753)⟩ (im_X7_teach n (xs (v3 + 1).toNatClampNeg) (xs (v3 + 2).toNatClampNeg) (xs (v3 + 3).toNatClampNeg) q29.2) (fun q30 => ?_)
  refine ev_icmp_eq (pc := 756) (tgt := 1235) (mL_d dL_law_756) rfl ?_ ?_
  · exact ev_L_law_b1235 n Ls xs k18 hk18 v3 q30.2
  · refine ev_iconst (pc := 759) (v := 0) (mL_d dL_law_759) (by decide) ?_
    exact ev_brW rfl rfl (mL_d dL_law_760)
def fn_L_law_b685 (n Ls : Nat) (xs : Nat → Int32) (k18 : Int32 → Sg → Option (Int32 × Sg)) (v3 : Int32) (σ : Sg) : Option (Int32 × Sg) :=
  (if ag_ib (v3 + 1) Ls = true then (if ag_ib (v3 + 2) Ls = true then (Option.bind (fn_X6_trust n (xs (v3 + 1).toNatClampNeg) (xs (v3 + 2).toNatClampNeg) σ) fun q31 =>
  (if ag_ib (v3 + 1) Ls = true then (if ag_ib (v3 + 2) Ls = true then (Option.bind (fn_X7_trust n (xs (v3 + 1).toNatClampNeg) (xs (v3 + 2).toNatClampNeg) q31.2) fun q32 =>
  (if q31.1 = q32.1 then (fn_L_law_b1235 n Ls xs k18 v3 q32.2)
  else (some (0, q32.2)))) else none) else none)) else none) else none)
set_option maxRecDepth 20000 in
set_option maxHeartbeats 4000000 in
theorem ev_L_law_b685 (n Ls : Nat) (xs : Nat → Int32) (k18 : Int32 → Sg → Option (Int32 × Sg)) (hk18 : ∀ (v3 : Int32) (σ : Sg), Ev (mL_law Ls xs) 10 241 jW 18 [(0, .ref 77), (1, .ref 0), (2, .ref 53), (3, .int v3)] [] σ (k18 v3 σ)) (v3 : Int32) (σ : Sg) : Ev (mL_law Ls xs) 10 241 jW 685 [(0, .ref 77), (1, .ref 0), (2, .ref 53), (3, .int v3)] [] σ (fn_L_law_b685 n Ls xs k18 v3 σ) := by
  unfold fn_L_law_b685
  refine ev_aload_n (pc := 685) (i := 1) 1 (mL_d dL_law_685) rfl rfl ?_
  refine ev_aload_n (pc := 686) (i := 0) 0 (mL_d dL_law_686) rfl rfl ?_
  refine ev_iload_n (pc := 687) (i := 3) 3 (mL_d dL_law_687) rfl rfl ?_
  refine ev_iconst (pc := 688) (v := 1) (mL_d dL_law_688) (by decide) ?_
  refine ev_iadd (pc := 689) (mL_d dL_law_689) ?_
  refine ev_sld (pc := 690) (Ls := Ls) (xs := xs) rfl (mL_d dL_law_690) ?_
  refine ev_aload_n (pc := 691) (i := 0) 0 (mL_d dL_law_691) rfl rfl ?_
  refine ev_iload_n (pc := 692) (i := 3) 3 (mL_d dL_law_692) rfl rfl ?_
  refine ev_iconst (pc := 693) (v := 2) (mL_d dL_law_693) (by decide) ?_
  refine ev_iadd (pc := 694) (mL_d dL_law_694) ?_
  refine ev_sld (pc := 695) (Ls := Ls) (xs := xs) rfl (mL_d dL_law_695) ?_
  refine ev_vW (pc := 696) (as := [.int (xs (v3 + 1).toNatClampNeg), .int (xs (v3 + 2).toNatClampNeg)]) (rest := []) ⟨6, 94, 8, TX6, tyX6, ag_C6, ⟨(rfl), (by decide)⟩, mv_X6_trust, ag_ml_L_94, rfl, (Nat.le_of_ble_eq_true rfl), ⟨(Nat.le_of_ble_eq_true rfl), (Nat.le_of_ble_eq_true rfl)⟩, (mL_d dL_law_696)⟩ (im_X6_trust n (xs (v3 + 1).toNatClampNeg) (xs (v3 + 2).toNatClampNeg) σ) (fun q31 => ?_)
  refine ev_aload_n (pc := 699) (i := 2) 2 (mL_d dL_law_699) rfl rfl ?_
  refine ev_aload_n (pc := 700) (i := 0) 0 (mL_d dL_law_700) rfl rfl ?_
  refine ev_iload_n (pc := 701) (i := 3) 3 (mL_d dL_law_701) rfl rfl ?_
  refine ev_iconst (pc := 702) (v := 1) (mL_d dL_law_702) (by decide) ?_
  refine ev_iadd (pc := 703) (mL_d dL_law_703) ?_
  refine ev_sld (pc := 704) (Ls := Ls) (xs := xs) rfl (mL_d dL_law_704) ?_
  refine ev_aload_n (pc := 705) (i := 0) 0 (mL_d dL_law_705) rfl rfl ?_
  refine ev_iload_n (pc := 706) (i := 3) 3 (mL_d dL_law_706) rfl rfl ?_
  refine ev_iconst (pc := 707) (v := 2) (mL_d dL_law_707) (by decide) ?_
  refine ev_iadd (pc := 708) (mL_d dL_law_708) ?_
  refine ev_sld (pc := 709) (Ls := Ls) (xs := xs) rfl (mL_d dL_law_709) ?_
  refine ev_vW (pc := 710) (as := [.int (xs (v3 + 1).toNatClampNeg), .int (xs (v3 + 2).toNatClampNeg)]) (rest := [.int q31.1]) ⟨7, 97, 37, TX7, tyX7, ag_C7, ⟨(rfl), (by decide)⟩, mv_X7_trust, ag_ml_L_97, rfl, (Nat.le_of_ble_eq_true rfl), ⟨(Nat.le_of_ble_eq_true rfl), (Nat.le_of_ble_eq_true rfl)⟩, (mL_d dL_law_710)⟩ (im_X7_trust n (xs (v3 + 1).toNatClampNeg) (xs (v3 + 2).toNatClampNeg) q31.2) (fun q32 => ?_)
  refine ev_icmp_eq (pc := 713) (tgt := 1235) (mL_d dL_law_713) rfl ?_ ?_
  · exact ev_L_law_b1235 n Ls xs k18 hk18 v3 q32.2
  · refine ev_iconst (pc := 716) (v := 0) (mL_d dL_law_716) (by decide) ?_
    exact ev_brW rfl rfl (mL_d dL_law_717)
def fn_L_law_b642 (n Ls : Nat) (xs : Nat → Int32) (k18 : Int32 → Sg → Option (Int32 × Sg)) (v3 : Int32) (σ : Sg) : Option (Int32 × Sg) :=
  (if ag_ib (v3 + 1) Ls = true then (if ag_ib (v3 + 2) Ls = true then (if ag_ib (v3 + 3) Ls = true then (Option.bind (fn_X6_send n (xs (v3 + 1).toNatClampNeg) (xs (v3 + 2).toNatClampNeg) (xs (v3 + 3).toNatClampNeg) σ) fun q33 =>
  (if ag_ib (v3 + 1) Ls = true then (if ag_ib (v3 + 2) Ls = true then (if ag_ib (v3 + 3) Ls = true then (Option.bind (fn_X7_send n (xs (v3 + 1).toNatClampNeg) (xs (v3 + 2).toNatClampNeg) (xs (v3 + 3).toNatClampNeg) q33.2) fun q34 =>
  (if q33.1 = q34.1 then (fn_L_law_b1235 n Ls xs k18 v3 q34.2)
  else (some (0, q34.2)))) else none) else none) else none)) else none) else none) else none)
set_option maxRecDepth 20000 in
set_option maxHeartbeats 4000000 in
theorem ev_L_law_b642 (n Ls : Nat) (xs : Nat → Int32) (k18 : Int32 → Sg → Option (Int32 × Sg)) (hk18 : ∀ (v3 : Int32) (σ : Sg), Ev (mL_law Ls xs) 10 241 jW 18 [(0, .ref 77), (1, .ref 0), (2, .ref 53), (3, .int v3)] [] σ (k18 v3 σ)) (v3 : Int32) (σ : Sg) : Ev (mL_law Ls xs) 10 241 jW 642 [(0, .ref 77), (1, .ref 0), (2, .ref 53), (3, .int v3)] [] σ (fn_L_law_b642 n Ls xs k18 v3 σ) := by
  unfold fn_L_law_b642
  refine ev_aload_n (pc := 642) (i := 1) 1 (mL_d dL_law_642) rfl rfl ?_
  refine ev_aload_n (pc := 643) (i := 0) 0 (mL_d dL_law_643) rfl rfl ?_
  refine ev_iload_n (pc := 644) (i := 3) 3 (mL_d dL_law_644) rfl rfl ?_
  refine ev_iconst (pc := 645) (v := 1) (mL_d dL_law_645) (by decide) ?_
  refine ev_iadd (pc := 646) (mL_d dL_law_646) ?_
  refine ev_sld (pc := 647) (Ls := Ls) (xs := xs) rfl (mL_d dL_law_647) ?_
  refine ev_aload_n (pc := 648) (i := 0) 0 (mL_d dL_law_648) rfl rfl ?_
  refine ev_iload_n (pc := 649) (i := 3) 3 (mL_d dL_law_649) rfl rfl ?_
  refine ev_iconst (pc := 650) (v := 2) (mL_d dL_law_650) (by decide) ?_
  refine ev_iadd (pc := 651) (mL_d dL_law_651) ?_
  refine ev_sld (pc := 652) (Ls := Ls) (xs := xs) rfl (mL_d dL_law_652) ?_
  refine ev_aload_n (pc := 653) (i := 0) 0 (mL_d dL_law_653) rfl rfl ?_
  refine ev_iload_n (pc := 654) (i := 3) 3 (mL_d dL_law_654) rfl rfl ?_
  refine ev_iconst (pc := 655) (v := 3) (mL_d dL_law_655) (by decide) ?_
  refine ev_iadd (pc := 656) (mL_d dL_law_656) ?_
  refine ev_sld (pc := 657) (Ls := Ls) (xs := xs) rfl (mL_d dL_law_657) ?_
  refine ev_vW (pc := 658) (as := [.int (xs (v3 + 1).toNatClampNeg), .int (xs (v3 + 2).toNatClampNeg), .int (xs (v3 + 3).toNatClampNeg)]) (rest := []) ⟨6, 89, 8, TX6, tyX6, ag_C6, ⟨(rfl), (by decide)⟩, mv_X6_send, ag_ml_L_89, rfl, (Nat.le_of_ble_eq_true rfl), ⟨(Nat.le_of_ble_eq_true rfl), (Nat.le_of_ble_eq_true rfl)⟩, (mL_d dL_law_658)⟩ (im_X6_send n (xs (v3 + 1).toNatClampNeg) (xs (v3 + 2).toNatClampNeg) (xs (v3 + 3).toNatClampNeg) σ) (fun q33 => ?_)
  refine ev_aload_n (pc := 661) (i := 2) 2 (mL_d dL_law_661) rfl rfl ?_
  refine ev_aload_n (pc := 662) (i := 0) 0 (mL_d dL_law_662) rfl rfl ?_
  refine ev_iload_n (pc := 663) (i := 3) 3 (mL_d dL_law_663) rfl rfl ?_
  refine ev_iconst (pc := 664) (v := 1) (mL_d dL_law_664) (by decide) ?_
  refine ev_iadd (pc := 665) (mL_d dL_law_665) ?_
  refine ev_sld (pc := 666) (Ls := Ls) (xs := xs) rfl (mL_d dL_law_666) ?_
  refine ev_aload_n (pc := 667) (i := 0) 0 (mL_d dL_law_667) rfl rfl ?_
  refine ev_iload_n (pc := 668) (i := 3) 3 (mL_d dL_law_668) rfl rfl ?_
  refine ev_iconst (pc := 669) (v := 2) (mL_d dL_law_669) (by decide) ?_
  refine ev_iadd (pc := 670) (mL_d dL_law_670) ?_
  refine ev_sld (pc := 671) (Ls := Ls) (xs := xs) rfl (mL_d dL_law_671) ?_
  refine ev_aload_n (pc := 672) (i := 0) 0 (mL_d dL_law_672) rfl rfl ?_
  refine ev_iload_n (pc := 673) (i := 3) 3 (mL_d dL_law_673) rfl rfl ?_
  refine ev_iconst (pc := 674) (v := 3) (mL_d dL_law_674) (by decide) ?_
  refine ev_iadd (pc := 675) (mL_d dL_law_675) ?_
  refine ev_sld (pc := 676) (Ls := Ls) (xs := xs) rfl (mL_d dL_law_676) ?_
  refine ev_vW (pc := 677) (as := [.int (xs (v3 + 1).toNatClampNeg), .int (xs (v3 + 2).toNatClampNeg), .int (xs (v3 + 3).toNatClampNeg)]) (rest := [.int q33.1]) ⟨7, 93, 37, TX7, tyX7, ag_C7, ⟨(rfl), (by decide)⟩, mv_X7_send, ag_ml_L_93, rfl, (Nat.le_of_ble_eq_true rfl), ⟨(Nat.le_of_ble_eq_true rfl), (Nat.le_of_ble_eq_true rfl)⟩, (mL_d dL_law_677)⟩ (im_X7_send n (xs (v3 + 1).toNatClampNeg) (xs (v3 + 2).toNatClampNeg) (xs (v3 + 3).toNatClampNeg) q33.2) (fun q34 => ?_)
  refine ev_icmp_eq (pc := 680) (tgt := 1235) (mL_d dL_law_680) rfl ?_ ?_
  · exact ev_L_law_b1235 n Ls xs k18 hk18 v3 q34.2
  · refine ev_iconst (pc := 683) (v := 0) (mL_d dL_law_683) (by decide) ?_
    exact ev_brW rfl rfl (mL_d dL_law_684)
def fn_L_law_b629 (n Ls : Nat) (xs : Nat → Int32) (k18 : Int32 → Sg → Option (Int32 × Sg)) (v3 : Int32) (σ : Sg) : Option (Int32 × Sg) :=
  (Option.bind (fn_X6_tooSoon n σ) fun q35 =>
  (Option.bind (fn_X7_tooSoon n q35.2) fun q36 =>
  (if q35.1 = q36.1 then (fn_L_law_b1235 n Ls xs k18 v3 q36.2)
  else (some (0, q36.2)))))
set_option maxRecDepth 20000 in
set_option maxHeartbeats 4000000 in
theorem ev_L_law_b629 (n Ls : Nat) (xs : Nat → Int32) (k18 : Int32 → Sg → Option (Int32 × Sg)) (hk18 : ∀ (v3 : Int32) (σ : Sg), Ev (mL_law Ls xs) 10 241 jW 18 [(0, .ref 77), (1, .ref 0), (2, .ref 53), (3, .int v3)] [] σ (k18 v3 σ)) (v3 : Int32) (σ : Sg) : Ev (mL_law Ls xs) 10 241 jW 629 [(0, .ref 77), (1, .ref 0), (2, .ref 53), (3, .int v3)] [] σ (fn_L_law_b629 n Ls xs k18 v3 σ) := by
  unfold fn_L_law_b629
  refine ev_aload_n (pc := 629) (i := 1) 1 (mL_d dL_law_629) rfl rfl ?_
  refine ev_vW (pc := 630) (as := []) (rest := []) ⟨6, 85, 8, TX6, tyX6, ag_C6, ⟨(rfl), (by decide)⟩, mv_X6_tooSoon, ag_ml_L_85, rfl, (Nat.le_of_ble_eq_true rfl), ⟨(Nat.le_of_ble_eq_true rfl), (Nat.le_of_ble_eq_true rfl)⟩, (mL_d dL_law_630)⟩ (im_X6_tooSoon n σ) (fun q35 => ?_)
  refine ev_aload_n (pc := 633) (i := 2) 2 (mL_d dL_law_633) rfl rfl ?_
  refine ev_vW (pc := 634) (as := []) (rest := [.int q35.1]) ⟨7, 88, 37, TX7, tyX7, ag_C7, ⟨(rfl), (by decide)⟩, mv_X7_tooSoon, ag_ml_L_88, rfl, (Nat.le_of_ble_eq_true rfl), ⟨(Nat.le_of_ble_eq_true rfl), (Nat.le_of_ble_eq_true rfl)⟩, (mL_d dL_law_634)⟩ (im_X7_tooSoon n q35.2) (fun q36 => ?_)
  refine ev_icmp_eq (pc := 637) (tgt := 1235) (mL_d dL_law_637) rfl ?_ ?_
  · exact ev_L_law_b1235 n Ls xs k18 hk18 v3 q36.2
  · refine ev_iconst (pc := 640) (v := 0) (mL_d dL_law_640) (by decide) ?_
    exact ev_brW rfl rfl (mL_d dL_law_641)
def fn_L_law_b606 (n Ls : Nat) (xs : Nat → Int32) (k18 : Int32 → Sg → Option (Int32 × Sg)) (v3 : Int32) (σ : Sg) : Option (Int32 × Sg) :=
  (if ag_ib (v3 + 1) Ls = true then (Option.bind (fn_X6_loud n (xs (v3 + 1).toNatClampNeg) σ) fun q37 =>
  (if ag_ib (v3 + 1) Ls = true then (Option.bind (fn_X7_loud n (xs (v3 + 1).toNatClampNeg) σ) fun q38 =>
  (if q37 = q38.1 then (fn_L_law_b1235 n Ls xs k18 v3 q38.2)
  else (some (0, q38.2)))) else none)) else none)
set_option maxRecDepth 20000 in
set_option maxHeartbeats 4000000 in
theorem ev_L_law_b606 (n Ls : Nat) (xs : Nat → Int32) (k18 : Int32 → Sg → Option (Int32 × Sg)) (hk18 : ∀ (v3 : Int32) (σ : Sg), Ev (mL_law Ls xs) 10 241 jW 18 [(0, .ref 77), (1, .ref 0), (2, .ref 53), (3, .int v3)] [] σ (k18 v3 σ)) (v3 : Int32) (σ : Sg) : Ev (mL_law Ls xs) 10 241 jW 606 [(0, .ref 77), (1, .ref 0), (2, .ref 53), (3, .int v3)] [] σ (fn_L_law_b606 n Ls xs k18 v3 σ) := by
  unfold fn_L_law_b606
  refine ev_aload_n (pc := 606) (i := 1) 1 (mL_d dL_law_606) rfl rfl ?_
  refine ev_aload_n (pc := 607) (i := 0) 0 (mL_d dL_law_607) rfl rfl ?_
  refine ev_iload_n (pc := 608) (i := 3) 3 (mL_d dL_law_608) rfl rfl ?_
  refine ev_iconst (pc := 609) (v := 1) (mL_d dL_law_609) (by decide) ?_
  refine ev_iadd (pc := 610) (mL_d dL_law_610) ?_
  refine ev_sld (pc := 611) (Ls := Ls) (xs := xs) rfl (mL_d dL_law_611) ?_
  refine ev_vI (pc := 612) (as := [.int (xs (v3 + 1).toNatClampNeg)]) (rest := []) ⟨6, 81, 8, TX6, tyX6, ag_C6, ⟨(rfl), (by decide)⟩, mv_X6_loud, ag_ml_L_81, rfl, (Nat.le_of_ble_eq_true rfl), ⟨(Nat.le_of_ble_eq_true rfl), (Nat.le_of_ble_eq_true rfl)⟩, (mL_d dL_law_612)⟩ (im_X6_loud n (xs (v3 + 1).toNatClampNeg) σ) (fun q37 => ?_)
  refine ev_aload_n (pc := 615) (i := 2) 2 (mL_d dL_law_615) rfl rfl ?_
  refine ev_aload_n (pc := 616) (i := 0) 0 (mL_d dL_law_616) rfl rfl ?_
  refine ev_iload_n (pc := 617) (i := 3) 3 (mL_d dL_law_617) rfl rfl ?_
  refine ev_iconst (pc := 618) (v := 1) (mL_d dL_law_618) (by decide) ?_
  refine ev_iadd (pc := 619) (mL_d dL_law_619) ?_
  refine ev_sld (pc := 620) (Ls := Ls) (xs := xs) rfl (mL_d dL_law_620) ?_
  refine ev_vW (pc := 621) (as := [.int (xs (v3 + 1).toNatClampNeg)]) (rest := [.int q37]) ⟨7, 84, 37, TX7, tyX7, ag_C7, ⟨(rfl), (by decide)⟩, mv_X7_loud, ag_ml_L_84, rfl, (Nat.le_of_ble_eq_true rfl), ⟨(Nat.le_of_ble_eq_true rfl), (Nat.le_of_ble_eq_true rfl)⟩, (mL_d dL_law_621)⟩ (im_X7_loud n (xs (v3 + 1).toNatClampNeg) σ) (fun q38 => ?_)
  refine ev_icmp_eq (pc := 624) (tgt := 1235) (mL_d dL_law_624) rfl ?_ ?_
  · exact ev_L_law_b1235 n Ls xs k18 hk18 v3 q38.2
  · refine ev_iconst (pc := 627) (v := 0) (mL_d dL_law_627) (by decide) ?_
    exact ev_brW rfl rfl (mL_d dL_law_628)
def fn_L_law_b593 (n Ls : Nat) (xs : Nat → Int32) (k18 : Int32 → Sg → Option (Int32 × Sg)) (v3 : Int32) (σ : Sg) : Option (Int32 × Sg) :=
  (Option.bind (fn_X6_sealed σ) fun q39 =>
  (Option.bind (fn_X7_sealed n σ) fun q40 =>
  (if q39 = q40.1 then (fn_L_law_b1235 n Ls xs k18 v3 q40.2)
  else (some (0, q40.2)))))
set_option maxRecDepth 20000 in
set_option maxHeartbeats 4000000 in
theorem ev_L_law_b593 (n Ls : Nat) (xs : Nat → Int32) (k18 : Int32 → Sg → Option (Int32 × Sg)) (hk18 : ∀ (v3 : Int32) (σ : Sg), Ev (mL_law Ls xs) 10 241 jW 18 [(0, .ref 77), (1, .ref 0), (2, .ref 53), (3, .int v3)] [] σ (k18 v3 σ)) (v3 : Int32) (σ : Sg) : Ev (mL_law Ls xs) 10 241 jW 593 [(0, .ref 77), (1, .ref 0), (2, .ref 53), (3, .int v3)] [] σ (fn_L_law_b593 n Ls xs k18 v3 σ) := by
  unfold fn_L_law_b593
  refine ev_aload_n (pc := 593) (i := 1) 1 (mL_d dL_law_593) rfl rfl ?_
  refine ev_vI (pc := 594) (as := []) (rest := []) ⟨6, 77, 8, TX6, tyX6, ag_C6, ⟨(rfl), (by decide)⟩, mv_X6_sealed, ag_ml_L_77, rfl, (Nat.le_of_ble_eq_true rfl), ⟨(Nat.le_of_ble_eq_true rfl), (Nat.le_of_ble_eq_true rfl)⟩, (mL_d dL_law_594)⟩ (im_X6_sealed σ) (fun q39 => ?_)
  refine ev_aload_n (pc := 597) (i := 2) 2 (mL_d dL_law_597) rfl rfl ?_
  refine ev_vW (pc := 598) (as := []) (rest := [.int q39]) ⟨7, 80, 37, TX7, tyX7, ag_C7, ⟨(rfl), (by decide)⟩, mv_X7_sealed, ag_ml_L_80, rfl, (Nat.le_of_ble_eq_true rfl), ⟨(Nat.le_of_ble_eq_true rfl), (Nat.le_of_ble_eq_true rfl)⟩, (mL_d dL_law_598)⟩ (im_X7_sealed n σ) (fun q40 => ?_)
  refine ev_icmp_eq (pc := 601) (tgt := 1235) (mL_d dL_law_601) rfl ?_ ?_
  · exact ev_L_law_b1235 n Ls xs k18 hk18 v3 q40.2
  · refine ev_iconst (pc := 604) (v := 0) (mL_d dL_law_604) (by decide) ?_
    exact ev_brW rfl rfl (mL_d dL_law_605)
def fn_L_law_b560 (n Ls : Nat) (xs : Nat → Int32) (k18 : Int32 → Sg → Option (Int32 × Sg)) (v3 : Int32) (σ : Sg) : Option (Int32 × Sg) :=
  (if ag_ib (v3 + 1) Ls = true then (if ag_ib (v3 + 2) Ls = true then (Option.bind (fn_X6_learned (xs (v3 + 1).toNatClampNeg) (xs (v3 + 2).toNatClampNeg) σ) fun q41 =>
  (if ag_ib (v3 + 1) Ls = true then (if ag_ib (v3 + 2) Ls = true then (Option.bind (fn_X7_learned n (xs (v3 + 1).toNatClampNeg) (xs (v3 + 2).toNatClampNeg) σ) fun q42 =>
  (if q41 = q42.1 then (fn_L_law_b1235 n Ls xs k18 v3 q42.2)
  else (some (0, q42.2)))) else none) else none)) else none) else none)
set_option maxRecDepth 20000 in
set_option maxHeartbeats 4000000 in
theorem ev_L_law_b560 (n Ls : Nat) (xs : Nat → Int32) (k18 : Int32 → Sg → Option (Int32 × Sg)) (hk18 : ∀ (v3 : Int32) (σ : Sg), Ev (mL_law Ls xs) 10 241 jW 18 [(0, .ref 77), (1, .ref 0), (2, .ref 53), (3, .int v3)] [] σ (k18 v3 σ)) (v3 : Int32) (σ : Sg) : Ev (mL_law Ls xs) 10 241 jW 560 [(0, .ref 77), (1, .ref 0), (2, .ref 53), (3, .int v3)] [] σ (fn_L_law_b560 n Ls xs k18 v3 σ) := by
  unfold fn_L_law_b560
  refine ev_aload_n (pc := 560) (i := 1) 1 (mL_d dL_law_560) rfl rfl ?_
  refine ev_aload_n (pc := 561) (i := 0) 0 (mL_d dL_law_561) rfl rfl ?_
  refine ev_iload_n (pc := 562) (i := 3) 3 (mL_d dL_law_562) rfl rfl ?_
  refine ev_iconst (pc := 563) (v := 1) (mL_d dL_law_563) (by decide) ?_
  refine ev_iadd (pc := 564) (mL_d dL_law_564) ?_
  refine ev_sld (pc := 565) (Ls := Ls) (xs := xs) rfl (mL_d dL_law_565) ?_
  refine ev_aload_n (pc := 566) (i := 0) 0 (mL_d dL_law_566) rfl rfl ?_
  refine ev_iload_n (pc := 567) (i := 3) 3 (mL_d dL_law_567) rfl rfl ?_
  refine ev_iconst (pc := 568) (v := 2) (mL_d dL_law_568) (by decide) ?_
  refine ev_iadd (pc := 569) (mL_d dL_law_569) ?_
  refine ev_sld (pc := 570) (Ls := Ls) (xs := xs) rfl (mL_d dL_law_570) ?_
  refine ev_vI (pc := 571) (as := [.int (xs (v3 + 1).toNatClampNeg), .int (xs (v3 + 2).toNatClampNeg)]) (rest := []) ⟨6, 73, 8, TX6, tyX6, ag_C6, ⟨(rfl), (by decide)⟩, mv_X6_learned, ag_ml_L_73, rfl, (Nat.le_of_ble_eq_true rfl), ⟨(Nat.le_of_ble_eq_true rfl), (Nat.le_of_ble_eq_true rfl)⟩, (mL_d dL_law_571)⟩ (im_X6_learned (xs (v3 + 1).toNatClampNeg) (xs (v3 + 2).toNatClampNeg) σ) (fun q41 => ?_)
  refine ev_aload_n (pc := 574) (i := 2) 2 (mL_d dL_law_574) rfl rfl ?_
  refine ev_aload_n (pc := 575) (i := 0) 0 (mL_d dL_law_575) rfl rfl ?_
  refine ev_iload_n (pc := 576) (i := 3) 3 (mL_d dL_law_576) rfl rfl ?_
  refine ev_iconst (pc := 577) (v := 1) (mL_d dL_law_577) (by decide) ?_
  refine ev_iadd (pc := 578) (mL_d dL_law_578) ?_
  refine ev_sld (pc := 579) (Ls := Ls) (xs := xs) rfl (mL_d dL_law_579) ?_
  refine ev_aload_n (pc := 580) (i := 0) 0 (mL_d dL_law_580) rfl rfl ?_
  refine ev_iload_n (pc := 581) (i := 3) 3 (mL_d dL_law_581) rfl rfl ?_
  refine ev_iconst (pc := 582) (v := 2) (mL_d dL_law_582) (by decide) ?_
  refine ev_iadd (pc := 583) (mL_d dL_law_583) ?_
  refine ev_sld (pc := 584) (Ls := Ls) (xs := xs) rfl (mL_d dL_law_584) ?_
  refine ev_vW (pc := 585) (as := [.int (xs (v3 + 1).toNatClampNeg), .int (xs (v3 + 2).toNatClampNeg)]) (rest := [.int q41]) ⟨7, 76, 37, TX7, tyX7, ag_C7, ⟨(rfl), (by decide)⟩, mv_X7_learned, ag_ml_L_76, rfl, (Nat.le_of_ble_eq_true rfl), ⟨(Nat.le_of_ble_eq_true rfl), (Nat.le_of_ble_eq_true rfl)⟩, (mL_d dL_law_585)⟩ (im_X7_learned n (xs (v3 + 1).toNatClampNeg) (xs (v3 + 2).toNatClampNeg) σ) (fun q42 => ?_)
  refine ev_icmp_eq (pc := 588) (tgt := 1235) (mL_d dL_law_588) rfl ?_ ?_
  · exact ev_L_law_b1235 n Ls xs k18 hk18 v3 q42.2
  · refine ev_iconst (pc := 591) (v := 0) (mL_d dL_law_591) (by decide) ?_
    exact ev_brW rfl rfl (mL_d dL_law_592)
def fn_L_law_b527 (n Ls : Nat) (xs : Nat → Int32) (k18 : Int32 → Sg → Option (Int32 × Sg)) (v3 : Int32) (σ : Sg) : Option (Int32 × Sg) :=
  (if ag_ib (v3 + 1) Ls = true then (if ag_ib (v3 + 2) Ls = true then (Option.bind (fn_X6_known n (xs (v3 + 1).toNatClampNeg) (xs (v3 + 2).toNatClampNeg) σ) fun q43 =>
  (if ag_ib (v3 + 1) Ls = true then (if ag_ib (v3 + 2) Ls = true then (Option.bind (fn_X7_known n (xs (v3 + 1).toNatClampNeg) (xs (v3 + 2).toNatClampNeg) σ) fun q44 =>
  (if q43 = q44.1 then (fn_L_law_b1235 n Ls xs k18 v3 q44.2)
  else (some (0, q44.2)))) else none) else none)) else none) else none)
set_option maxRecDepth 20000 in
set_option maxHeartbeats 4000000 in
theorem ev_L_law_b527 (n Ls : Nat) (xs : Nat → Int32) (k18 : Int32 → Sg → Option (Int32 × Sg)) (hk18 : ∀ (v3 : Int32) (σ : Sg), Ev (mL_law Ls xs) 10 241 jW 18 [(0, .ref 77), (1, .ref 0), (2, .ref 53), (3, .int v3)] [] σ (k18 v3 σ)) (v3 : Int32) (σ : Sg) : Ev (mL_law Ls xs) 10 241 jW 527 [(0, .ref 77), (1, .ref 0), (2, .ref 53), (3, .int v3)] [] σ (fn_L_law_b527 n Ls xs k18 v3 σ) := by
  unfold fn_L_law_b527
  refine ev_aload_n (pc := 527) (i := 1) 1 (mL_d dL_law_527) rfl rfl ?_
  refine ev_aload_n (pc := 528) (i := 0) 0 (mL_d dL_law_528) rfl rfl ?_
  refine ev_iload_n (pc := 529) (i := 3) 3 (mL_d dL_law_529) rfl rfl ?_
  refine ev_iconst (pc := 530) (v := 1) (mL_d dL_law_530) (by decide) ?_
  refine ev_iadd (pc := 531) (mL_d dL_law_531) ?_
  refine ev_sld (pc := 532) (Ls := Ls) (xs := xs) rfl (mL_d dL_law_532) ?_
  refine ev_aload_n (pc := 533) (i := 0) 0 (mL_d dL_law_533) rfl rfl ?_
  refine ev_iload_n (pc := 534) (i := 3) 3 (mL_d dL_law_534) rfl rfl ?_
  refine ev_iconst (pc := 535) (v := 2) (mL_d dL_law_535) (by decide) ?_
  refine ev_iadd (pc := 536) (mL_d dL_law_536) ?_
  refine ev_sld (pc := 537) (Ls := Ls) (xs := xs) rfl (mL_d dL_law_537) ?_
  refine ev_vI (pc := 538) (as := [.int (xs (v3 + 1).toNatClampNeg), .int (xs (v3 + 2).toNatClampNeg)]) (rest := []) ⟨6, 69, 8, TX6, tyX6, ag_C6, ⟨(rfl), (by decide)⟩, mv_X6_known, ag_ml_L_69, rfl, (Nat.le_of_ble_eq_true rfl), ⟨(Nat.le_of_ble_eq_true rfl), (Nat.le_of_ble_eq_true rfl)⟩, (mL_d dL_law_538)⟩ (im_X6_known n (xs (v3 + 1).toNatClampNeg) (xs (v3 + 2).toNatClampNeg) σ) (fun q43 => ?_)
  refine ev_aload_n (pc := 541) (i := 2) 2 (mL_d dL_law_541) rfl rfl ?_
  refine ev_aload_n (pc := 542) (i := 0) 0 (mL_d dL_law_542) rfl rfl ?_
  refine ev_iload_n (pc := 543) (i := 3) 3 (mL_d dL_law_543) rfl rfl ?_
  refine ev_iconst (pc := 544) (v := 1) (mL_d dL_law_544) (by decide) ?_
  refine ev_iadd (pc := 545) (mL_d dL_law_545) ?_
  refine ev_sld (pc := 546) (Ls := Ls) (xs := xs) rfl (mL_d dL_law_546) ?_
  refine ev_aload_n (pc := 547) (i := 0) 0 (mL_d dL_law_547) rfl rfl ?_
  refine ev_iload_n (pc := 548) (i := 3) 3 (mL_d dL_law_548) rfl rfl ?_
  refine ev_iconst (pc := 549) (v := 2) (mL_d dL_law_549) (by decide) ?_
  refine ev_iadd (pc := 550) (mL_d dL_law_550) ?_
  refine ev_sld (pc := 551) (Ls := Ls) (xs := xs) rfl (mL_d dL_law_551) ?_
  refine ev_vW (pc := 552) (as := [.int (xs (v3 + 1).toNatClampNeg), .int (xs (v3 + 2).toNatClampNeg)]) (rest := [.int q43]) ⟨7, 72, 37, TX7, tyX7, ag_C7, ⟨(rfl), (by decide)⟩, mv_X7_known, ag_ml_L_72, rfl, (Nat.le_of_ble_eq_true rfl), ⟨(Nat.le_of_ble_eq_true rfl), (Nat.le_of_ble_eq_true rfl)⟩, (mL_d dL_law_552)⟩ (im_X7_known n (xs (v3 + 1).toNatClampNeg) (xs (v3 + 2).toNatClampNeg) σ) (fun q44 => ?_)
  refine ev_icmp_eq (pc := 555) (tgt := 1235) (mL_d dL_law_555) rfl ?_ ?_
  · exact ev_L_law_b1235 n Ls xs k18 hk18 v3 q44.2
  · refine ev_iconst (pc := 558) (v := 0) (mL_d dL_law_558) (by decide) ?_
    exact ev_brW rfl rfl (mL_d dL_law_559)
def fn_L_law_b494 (n Ls : Nat) (xs : Nat → Int32) (k18 : Int32 → Sg → Option (Int32 × Sg)) (v3 : Int32) (σ : Sg) : Option (Int32 × Sg) :=
  (if ag_ib (v3 + 1) Ls = true then (if ag_ib (v3 + 2) Ls = true then (Option.bind (fn_X6_waits n (xs (v3 + 1).toNatClampNeg) (xs (v3 + 2).toNatClampNeg) σ) fun q45 =>
  (if ag_ib (v3 + 1) Ls = true then (if ag_ib (v3 + 2) Ls = true then (Option.bind (fn_X7_waits n (xs (v3 + 1).toNatClampNeg) (xs (v3 + 2).toNatClampNeg) σ) fun q46 =>
  (if q45 = q46.1 then (fn_L_law_b1235 n Ls xs k18 v3 q46.2)
  else (some (0, q46.2)))) else none) else none)) else none) else none)
set_option maxRecDepth 20000 in
set_option maxHeartbeats 4000000 in
theorem ev_L_law_b494 (n Ls : Nat) (xs : Nat → Int32) (k18 : Int32 → Sg → Option (Int32 × Sg)) (hk18 : ∀ (v3 : Int32) (σ : Sg), Ev (mL_law Ls xs) 10 241 jW 18 [(0, .ref 77), (1, .ref 0), (2, .ref 53), (3, .int v3)] [] σ (k18 v3 σ)) (v3 : Int32) (σ : Sg) : Ev (mL_law Ls xs) 10 241 jW 494 [(0, .ref 77), (1, .ref 0), (2, .ref 53), (3, .int v3)] [] σ (fn_L_law_b494 n Ls xs k18 v3 σ) := by
  unfold fn_L_law_b494
  refine ev_aload_n (pc := 494) (i := 1) 1 (mL_d dL_law_494) rfl rfl ?_
  refine ev_aload_n (pc := 495) (i := 0) 0 (mL_d dL_law_495) rfl rfl ?_
  refine ev_iload_n (pc := 496) (i := 3) 3 (mL_d dL_law_496) rfl rfl ?_
  refine ev_iconst (pc := 497) (v := 1) (mL_d dL_law_497) (by decide) ?_
  refine ev_iadd (pc := 498) (mL_d dL_law_498) ?_
  refine ev_sld (pc := 499) (Ls := Ls) (xs := xs) rfl (mL_d dL_law_499) ?_
  refine ev_aload_n (pc := 500) (i := 0) 0 (mL_d dL_law_500) rfl rfl ?_
  refine ev_iload_n (pc := 501) (i := 3) 3 (mL_d dL_law_501) rfl rfl ?_
  refine ev_iconst (pc := 502) (v := 2) (mL_d dL_law_502) (by decide) ?_
  refine ev_iadd (pc := 503) (mL_d dL_law_503) ?_
  refine ev_sld (pc := 504) (Ls := Ls) (xs := xs) rfl (mL_d dL_law_504) ?_
  refine ev_vI (pc := 505) (as := [.int (xs (v3 + 1).toNatClampNeg), .int (xs (v3 + 2).toNatClampNeg)]) (rest := []) ⟨6, 65, 8, TX6, tyX6, ag_C6, ⟨(rfl), (by decide)⟩, mv_X6_waits, ag_ml_L_65, rfl, (Nat.le_of_ble_eq_true rfl), ⟨(Nat.le_of_ble_eq_true rfl), (Nat.le_of_ble_eq_true rfl)⟩, (mL_d dL_law_505)⟩ (im_X6_waits n (xs (v3 + 1).toNatClampNeg) (xs (v3 + 2).toNatClampNeg) σ) (fun q45 => ?_)
  refine ev_aload_n (pc := 508) (i := 2) 2 (mL_d dL_law_508) rfl rfl ?_
  refine ev_aload_n (pc := 509) (i := 0) 0 (mL_d dL_law_509) rfl rfl ?_
  refine ev_iload_n (pc := 510) (i := 3) 3 (mL_d dL_law_510) rfl rfl ?_
  refine ev_iconst (pc := 511) (v := 1) (mL_d dL_law_511) (by decide) ?_
  refine ev_iadd (pc := 512) (mL_d dL_law_512) ?_
  refine ev_sld (pc := 513) (Ls := Ls) (xs := xs) rfl (mL_d dL_law_513) ?_
  refine ev_aload_n (pc := 514) (i := 0) 0 (mL_d dL_law_514) rfl rfl ?_
  refine ev_iload_n (pc := 515) (i := 3) 3 (mL_d dL_law_515) rfl rfl ?_
  refine ev_iconst (pc := 516) (v := 2) (mL_d dL_law_516) (by decide) ?_
  refine ev_iadd (pc := 517) (mL_d dL_law_517) ?_
  refine ev_sld (pc := 518) (Ls := Ls) (xs := xs) rfl (mL_d dL_law_518) ?_
  refine ev_vW (pc := 519) (as := [.int (xs (v3 + 1).toNatClampNeg), .int (xs (v3 + 2).toNatClampNeg)]) (rest := [.int q45]) ⟨7, 68, 37, TX7, tyX7, ag_C7, ⟨(rfl), (by decide)⟩, mv_X7_waits, ag_ml_L_68, rfl, (Nat.le_of_ble_eq_true rfl), ⟨(Nat.le_of_ble_eq_true rfl), (Nat.le_of_ble_eq_true rfl)⟩, (mL_d dL_law_519)⟩ (im_X7_waits n (xs (v3 + 1).toNatClampNeg) (xs (v3 + 2).toNatClampNeg) σ) (fun q46 => ?_)
  refine ev_icmp_eq (pc := 522) (tgt := 1235) (mL_d dL_law_522) rfl ?_ ?_
  · exact ev_L_law_b1235 n Ls xs k18 hk18 v3 q46.2
  · refine ev_iconst (pc := 525) (v := 0) (mL_d dL_law_525) (by decide) ?_
    exact ev_brW rfl rfl (mL_d dL_law_526)
def fn_L_law_b471 (n Ls : Nat) (xs : Nat → Int32) (k18 : Int32 → Sg → Option (Int32 × Sg)) (v3 : Int32) (σ : Sg) : Option (Int32 × Sg) :=
  (if ag_ib (v3 + 1) Ls = true then (Option.bind (fn_X6_written (xs (v3 + 1).toNatClampNeg) σ) fun q47 =>
  (if ag_ib (v3 + 1) Ls = true then (Option.bind (fn_X7_written n (xs (v3 + 1).toNatClampNeg) σ) fun q48 =>
  (if q47 = q48.1 then (fn_L_law_b1235 n Ls xs k18 v3 q48.2)
  else (some (0, q48.2)))) else none)) else none)
set_option maxRecDepth 20000 in
set_option maxHeartbeats 4000000 in
theorem ev_L_law_b471 (n Ls : Nat) (xs : Nat → Int32) (k18 : Int32 → Sg → Option (Int32 × Sg)) (hk18 : ∀ (v3 : Int32) (σ : Sg), Ev (mL_law Ls xs) 10 241 jW 18 [(0, .ref 77), (1, .ref 0), (2, .ref 53), (3, .int v3)] [] σ (k18 v3 σ)) (v3 : Int32) (σ : Sg) : Ev (mL_law Ls xs) 10 241 jW 471 [(0, .ref 77), (1, .ref 0), (2, .ref 53), (3, .int v3)] [] σ (fn_L_law_b471 n Ls xs k18 v3 σ) := by
  unfold fn_L_law_b471
  refine ev_aload_n (pc := 471) (i := 1) 1 (mL_d dL_law_471) rfl rfl ?_
  refine ev_aload_n (pc := 472) (i := 0) 0 (mL_d dL_law_472) rfl rfl ?_
  refine ev_iload_n (pc := 473) (i := 3) 3 (mL_d dL_law_473) rfl rfl ?_
  refine ev_iconst (pc := 474) (v := 1) (mL_d dL_law_474) (by decide) ?_
  refine ev_iadd (pc := 475) (mL_d dL_law_475) ?_
  refine ev_sld (pc := 476) (Ls := Ls) (xs := xs) rfl (mL_d dL_law_476) ?_
  refine ev_vI (pc := 477) (as := [.int (xs (v3 + 1).toNatClampNeg)]) (rest := []) ⟨6, 61, 8, TX6, tyX6, ag_C6, ⟨(rfl), (by decide)⟩, mv_X6_written, ag_ml_L_61, rfl, (Nat.le_of_ble_eq_true rfl), ⟨(Nat.le_of_ble_eq_true rfl), (Nat.le_of_ble_eq_true rfl)⟩, (mL_d dL_law_477)⟩ (im_X6_written (xs (v3 + 1).toNatClampNeg) σ) (fun q47 => ?_)
  refine ev_aload_n (pc := 480) (i := 2) 2 (mL_d dL_law_480) rfl rfl ?_
  refine ev_aload_n (pc := 481) (i := 0) 0 (mL_d dL_law_481) rfl rfl ?_
  refine ev_iload_n (pc := 482) (i := 3) 3 (mL_d dL_law_482) rfl rfl ?_
  refine ev_iconst (pc := 483) (v := 1) (mL_d dL_law_483) (by decide) ?_
  refine ev_iadd (pc := 484) (mL_d dL_law_484) ?_
  refine ev_sld (pc := 485) (Ls := Ls) (xs := xs) rfl (mL_d dL_law_485) ?_
  refine ev_vW (pc := 486) (as := [.int (xs (v3 + 1).toNatClampNeg)]) (rest := [.int q47]) ⟨7, 64, 37, TX7, tyX7, ag_C7, ⟨(rfl), (by decide)⟩, mv_X7_written, ag_ml_L_64, rfl, (Nat.le_of_ble_eq_true rfl), ⟨(Nat.le_of_ble_eq_true rfl), (Nat.le_of_ble_eq_true rfl)⟩, (mL_d dL_law_486)⟩ (im_X7_written n (xs (v3 + 1).toNatClampNeg) σ) (fun q48 => ?_)
  refine ev_icmp_eq (pc := 489) (tgt := 1235) (mL_d dL_law_489) rfl ?_ ?_
  · exact ev_L_law_b1235 n Ls xs k18 hk18 v3 q48.2
  · refine ev_iconst (pc := 492) (v := 0) (mL_d dL_law_492) (by decide) ?_
    exact ev_brW rfl rfl (mL_d dL_law_493)
def fn_L_law_b448 (n Ls : Nat) (xs : Nat → Int32) (k18 : Int32 → Sg → Option (Int32 × Sg)) (v3 : Int32) (σ : Sg) : Option (Int32 × Sg) :=
  (if ag_ib (v3 + 1) Ls = true then (Option.bind (fn_X6_opened (xs (v3 + 1).toNatClampNeg) σ) fun q49 =>
  (if ag_ib (v3 + 1) Ls = true then (Option.bind (fn_X7_opened n (xs (v3 + 1).toNatClampNeg) σ) fun q50 =>
  (if q49 = q50.1 then (fn_L_law_b1235 n Ls xs k18 v3 q50.2)
  else (some (0, q50.2)))) else none)) else none)
set_option maxRecDepth 20000 in
set_option maxHeartbeats 4000000 in
theorem ev_L_law_b448 (n Ls : Nat) (xs : Nat → Int32) (k18 : Int32 → Sg → Option (Int32 × Sg)) (hk18 : ∀ (v3 : Int32) (σ : Sg), Ev (mL_law Ls xs) 10 241 jW 18 [(0, .ref 77), (1, .ref 0), (2, .ref 53), (3, .int v3)] [] σ (k18 v3 σ)) (v3 : Int32) (σ : Sg) : Ev (mL_law Ls xs) 10 241 jW 448 [(0, .ref 77), (1, .ref 0), (2, .ref 53), (3, .int v3)] [] σ (fn_L_law_b448 n Ls xs k18 v3 σ) := by
  unfold fn_L_law_b448
  refine ev_aload_n (pc := 448) (i := 1) 1 (mL_d dL_law_448) rfl rfl ?_
  refine ev_aload_n (pc := 449) (i := 0) 0 (mL_d dL_law_449) rfl rfl ?_
  refine ev_iload_n (pc := 450) (i := 3) 3 (mL_d dL_law_450) rfl rfl ?_
  refine ev_iconst (pc := 451) (v := 1) (mL_d dL_law_451) (by decide) ?_
  refine ev_iadd (pc := 452) (mL_d dL_law_452) ?_
  refine ev_sld (pc := 453) (Ls := Ls) (xs := xs) rfl (mL_d dL_law_453) ?_
  refine ev_vI (pc := 454) (as := [.int (xs (v3 + 1).toNatClampNeg)]) (rest := []) ⟨6, 57, 8, TX6, tyX6, ag_C6, ⟨(rfl), (by decide)⟩, mv_X6_opened, ag_ml_L_57, rfl, (Nat.le_of_ble_eq_true rfl), ⟨(Nat.le_of_ble_eq_true rfl), (Nat.le_of_ble_eq_true rfl)⟩, (mL_d dL_law_454)⟩ (im_X6_opened (xs (v3 + 1).toNatClampNeg) σ) (fun q49 => ?_)
  refine ev_aload_n (pc := 457) (i := 2) 2 (mL_d dL_law_457) rfl rfl ?_
  refine ev_aload_n (pc := 458) (i := 0) 0 (mL_d dL_law_458) rfl rfl ?_
  refine ev_iload_n (pc := 459) (i := 3) 3 (mL_d dL_law_459) rfl rfl ?_
  refine ev_iconst (pc := 460) (v := 1) (mL_d dL_law_460) (by decide) ?_
  refine ev_iadd (pc := 461) (mL_d dL_law_461) ?_
  refine ev_sld (pc := 462) (Ls := Ls) (xs := xs) rfl (mL_d dL_law_462) ?_
  refine ev_vW (pc := 463) (as := [.int (xs (v3 + 1).toNatClampNeg)]) (rest := [.int q49]) ⟨7, 60, 37, TX7, tyX7, ag_C7, ⟨(rfl), (by decide)⟩, mv_X7_opened, ag_ml_L_60, rfl, (Nat.le_of_ble_eq_true rfl), ⟨(Nat.le_of_ble_eq_true rfl), (Nat.le_of_ble_eq_true rfl)⟩, (mL_d dL_law_463)⟩ (im_X7_opened n (xs (v3 + 1).toNatClampNeg) σ) (fun q50 => ?_)
  refine ev_icmp_eq (pc := 466) (tgt := 1235) (mL_d dL_law_466) rfl ?_ ?_
  · exact ev_L_law_b1235 n Ls xs k18 hk18 v3 q50.2
  · refine ev_iconst (pc := 469) (v := 0) (mL_d dL_law_469) (by decide) ?_
    exact ev_brW rfl rfl (mL_d dL_law_470)
def fn_L_law_b415 (n Ls : Nat) (xs : Nat → Int32) (k18 : Int32 → Sg → Option (Int32 × Sg)) (v3 : Int32) (σ : Sg) : Option (Int32 × Sg) :=
  (if ag_ib (v3 + 1) Ls = true then (if ag_ib (v3 + 2) Ls = true then (Option.bind (fn_X6_age (xs (v3 + 1).toNatClampNeg) (xs (v3 + 2).toNatClampNeg) σ) fun q51 =>
  (if ag_ib (v3 + 1) Ls = true then (if ag_ib (v3 + 2) Ls = true then (Option.bind (fn_X7_age n (xs (v3 + 1).toNatClampNeg) (xs (v3 + 2).toNatClampNeg) σ) fun q52 =>
  (if q51 = q52.1 then (fn_L_law_b1235 n Ls xs k18 v3 q52.2)
  else (some (0, q52.2)))) else none) else none)) else none) else none)
set_option maxRecDepth 20000 in
set_option maxHeartbeats 4000000 in
theorem ev_L_law_b415 (n Ls : Nat) (xs : Nat → Int32) (k18 : Int32 → Sg → Option (Int32 × Sg)) (hk18 : ∀ (v3 : Int32) (σ : Sg), Ev (mL_law Ls xs) 10 241 jW 18 [(0, .ref 77), (1, .ref 0), (2, .ref 53), (3, .int v3)] [] σ (k18 v3 σ)) (v3 : Int32) (σ : Sg) : Ev (mL_law Ls xs) 10 241 jW 415 [(0, .ref 77), (1, .ref 0), (2, .ref 53), (3, .int v3)] [] σ (fn_L_law_b415 n Ls xs k18 v3 σ) := by
  unfold fn_L_law_b415
  refine ev_aload_n (pc := 415) (i := 1) 1 (mL_d dL_law_415) rfl rfl ?_
  refine ev_aload_n (pc := 416) (i := 0) 0 (mL_d dL_law_416) rfl rfl ?_
  refine ev_iload_n (pc := 417) (i := 3) 3 (mL_d dL_law_417) rfl rfl ?_
  refine ev_iconst (pc := 418) (v := 1) (mL_d dL_law_418) (by decide) ?_
  refine ev_iadd (pc := 419) (mL_d dL_law_419) ?_
  refine ev_sld (pc := 420) (Ls := Ls) (xs := xs) rfl (mL_d dL_law_420) ?_
  refine ev_aload_n (pc := 421) (i := 0) 0 (mL_d dL_law_421) rfl rfl ?_
  refine ev_iload_n (pc := 422) (i := 3) 3 (mL_d dL_law_422) rfl rfl ?_
  refine ev_iconst (pc := 423) (v := 2) (mL_d dL_law_423) (by decide) ?_
  refine ev_iadd (pc := 424) (mL_d dL_law_424) ?_
  refine ev_sld (pc := 425) (Ls := Ls) (xs := xs) rfl (mL_d dL_law_425) ?_
  refine ev_vI (pc := 426) (as := [.int (xs (v3 + 1).toNatClampNeg), .int (xs (v3 + 2).toNatClampNeg)]) (rest := []) ⟨6, 53, 8, TX6, tyX6, ag_C6, ⟨(rfl), (by decide)⟩, mv_X6_age, ag_ml_L_53, rfl, (Nat.le_of_ble_eq_true rfl), ⟨(Nat.le_of_ble_eq_true rfl), (Nat.le_of_ble_eq_true rfl)⟩, (mL_d dL_law_426)⟩ (im_X6_age (xs (v3 + 1).toNatClampNeg) (xs (v3 + 2).toNatClampNeg) σ) (fun q51 => ?_)
  refine ev_aload_n (pc := 429) (i := 2) 2 (mL_d dL_law_429) rfl rfl ?_
  refine ev_aload_n (pc := 430) (i := 0) 0 (mL_d dL_law_430) rfl rfl ?_
  refine ev_iload_n (pc := 431) (i := 3) 3 (mL_d dL_law_431) rfl rfl ?_
  refine ev_iconst (pc := 432) (v := 1) (mL_d dL_law_432) (by decide) ?_
  refine ev_iadd (pc := 433) (mL_d dL_law_433) ?_
  refine ev_sld (pc := 434) (Ls := Ls) (xs := xs) rfl (mL_d dL_law_434) ?_
  refine ev_aload_n (pc := 435) (i := 0) 0 (mL_d dL_law_435) rfl rfl ?_
  refine ev_iload_n (pc := 436) (i := 3) 3 (mL_d dL_law_436) rfl rfl ?_
  refine ev_iconst (pc := 437) (v := 2) (mL_d dL_law_437) (by decide) ?_
  refine ev_iadd (pc := 438) (mL_d dL_law_438) ?_
  refine ev_sld (pc := 439) (Ls := Ls) (xs := xs) rfl (mL_d dL_law_439) ?_
  refine ev_vW (pc := 440) (as := [.int (xs (v3 + 1).toNatClampNeg), .int (xs (v3 + 2).toNatClampNeg)]) (rest := [.int q51]) ⟨7, 56, 37, TX7, tyX7, ag_C7, ⟨(rfl), (by decide)⟩, mv_X7_age, ag_ml_L_56, rfl, (Nat.le_of_ble_eq_true rfl), ⟨(Nat.le_of_ble_eq_true rfl), (Nat.le_of_ble_eq_true rfl)⟩, (mL_d dL_law_440)⟩ (im_X7_age n (xs (v3 + 1).toNatClampNeg) (xs (v3 + 2).toNatClampNeg) σ) (fun q52 => ?_)
  refine ev_icmp_eq (pc := 443) (tgt := 1235) (mL_d dL_law_443) rfl ?_ ?_
  · exact ev_L_law_b1235 n Ls xs k18 hk18 v3 q52.2
  · refine ev_iconst (pc := 446) (v := 0) (mL_d dL_law_446) (by decide) ?_
    exact ev_brW rfl rfl (mL_d dL_law_447)
def fn_L_law_b392 (n Ls : Nat) (xs : Nat → Int32) (k18 : Int32 → Sg → Option (Int32 × Sg)) (v3 : Int32) (σ : Sg) : Option (Int32 × Sg) :=
  (if ag_ib (v3 + 1) Ls = true then (Option.bind (fn_X6_read n (xs (v3 + 1).toNatClampNeg) σ) fun q53 =>
  (if ag_ib (v3 + 1) Ls = true then (Option.bind (fn_X7_read n (xs (v3 + 1).toNatClampNeg) q53.2) fun q54 =>
  (if q53.1 = q54.1 then (fn_L_law_b1235 n Ls xs k18 v3 q54.2)
  else (some (0, q54.2)))) else none)) else none)
set_option maxRecDepth 20000 in
set_option maxHeartbeats 4000000 in
theorem ev_L_law_b392 (n Ls : Nat) (xs : Nat → Int32) (k18 : Int32 → Sg → Option (Int32 × Sg)) (hk18 : ∀ (v3 : Int32) (σ : Sg), Ev (mL_law Ls xs) 10 241 jW 18 [(0, .ref 77), (1, .ref 0), (2, .ref 53), (3, .int v3)] [] σ (k18 v3 σ)) (v3 : Int32) (σ : Sg) : Ev (mL_law Ls xs) 10 241 jW 392 [(0, .ref 77), (1, .ref 0), (2, .ref 53), (3, .int v3)] [] σ (fn_L_law_b392 n Ls xs k18 v3 σ) := by
  unfold fn_L_law_b392
  refine ev_aload_n (pc := 392) (i := 1) 1 (mL_d dL_law_392) rfl rfl ?_
  refine ev_aload_n (pc := 393) (i := 0) 0 (mL_d dL_law_393) rfl rfl ?_
  refine ev_iload_n (pc := 394) (i := 3) 3 (mL_d dL_law_394) rfl rfl ?_
  refine ev_iconst (pc := 395) (v := 1) (mL_d dL_law_395) (by decide) ?_
  refine ev_iadd (pc := 396) (mL_d dL_law_396) ?_
  refine ev_sld (pc := 397) (Ls := Ls) (xs := xs) rfl (mL_d dL_law_397) ?_
  refine ev_vW (pc := 398) (as := [.int (xs (v3 + 1).toNatClampNeg)]) (rest := []) ⟨6, 49, 8, TX6, tyX6, ag_C6, ⟨(rfl), (by decide)⟩, mv_X6_read, ag_ml_L_49, rfl, (Nat.le_of_ble_eq_true rfl), ⟨(Nat.le_of_ble_eq_true rfl), (Nat.le_of_ble_eq_true rfl)⟩, (mL_d dL_law_398)⟩ (im_X6_read n (xs (v3 + 1).toNatClampNeg) σ) (fun q53 => ?_)
  refine ev_aload_n (pc := 401) (i := 2) 2 (mL_d dL_law_401) rfl rfl ?_
  refine ev_aload_n (pc := 402) (i := 0) 0 (mL_d dL_law_402) rfl rfl ?_
  refine ev_iload_n (pc := 403) (i := 3) 3 (mL_d dL_law_403) rfl rfl ?_
  refine ev_iconst (pc := 404) (v := 1) (mL_d dL_law_404) (by decide) ?_
  refine ev_iadd (pc := 405) (mL_d dL_law_405) ?_
  refine ev_sld (pc := 406) (Ls := Ls) (xs := xs) rfl (mL_d dL_law_406) ?_
  refine ev_vW (pc := 407) (as := [.int (xs (v3 + 1).toNatClampNeg)]) (rest := [.int q53.1]) ⟨7, 52, 37, TX7, tyX7, ag_C7, ⟨(rfl), (by decide)⟩, mv_X7_read, ag_ml_L_52, rfl, (Nat.le_of_ble_eq_true rfl), ⟨(Nat.le_of_ble_eq_true rfl), (Nat.le_of_ble_eq_true rfl)⟩, (mL_d dL_law_407)⟩ (im_X7_read n (xs (v3 + 1).toNatClampNeg) q53.2) (fun q54 => ?_)
  refine ev_icmp_eq (pc := 410) (tgt := 1235) (mL_d dL_law_410) rfl ?_ ?_
  · exact ev_L_law_b1235 n Ls xs k18 hk18 v3 q54.2
  · refine ev_iconst (pc := 413) (v := 0) (mL_d dL_law_413) (by decide) ?_
    exact ev_brW rfl rfl (mL_d dL_law_414)
def fn_L_law_b379 (n Ls : Nat) (xs : Nat → Int32) (k18 : Int32 → Sg → Option (Int32 × Sg)) (v3 : Int32) (σ : Sg) : Option (Int32 × Sg) :=
  (Option.bind (fn_X6_back n σ) fun q55 =>
  (Option.bind (fn_X7_back q55.2) fun q56 =>
  (if q55.1 = q56.1 then (fn_L_law_b1235 n Ls xs k18 v3 q56.2)
  else (some (0, q56.2)))))
set_option maxRecDepth 20000 in
set_option maxHeartbeats 4000000 in
theorem ev_L_law_b379 (n Ls : Nat) (xs : Nat → Int32) (k18 : Int32 → Sg → Option (Int32 × Sg)) (hk18 : ∀ (v3 : Int32) (σ : Sg), Ev (mL_law Ls xs) 10 241 jW 18 [(0, .ref 77), (1, .ref 0), (2, .ref 53), (3, .int v3)] [] σ (k18 v3 σ)) (v3 : Int32) (σ : Sg) : Ev (mL_law Ls xs) 10 241 jW 379 [(0, .ref 77), (1, .ref 0), (2, .ref 53), (3, .int v3)] [] σ (fn_L_law_b379 n Ls xs k18 v3 σ) := by
  unfold fn_L_law_b379
  refine ev_aload_n (pc := 379) (i := 1) 1 (mL_d dL_law_379) rfl rfl ?_
  refine ev_vW (pc := 380) (as := []) (rest := []) ⟨6, 45, 8, TX6, tyX6, ag_C6, ⟨(rfl), (by decide)⟩, mv_X6_back, ag_ml_L_45, rfl, (Nat.le_of_ble_eq_true rfl), ⟨(Nat.le_of_ble_eq_true rfl), (Nat.le_of_ble_eq_true rfl)⟩, (mL_d dL_law_380)⟩ (im_X6_back n σ) (fun q55 => ?_)
  refine ev_aload_n (pc := 383) (i := 2) 2 (mL_d dL_law_383) rfl rfl ?_
  refine ev_vW (pc := 384) (as := []) (rest := [.int q55.1]) ⟨7, 48, 37, TX7, tyX7, ag_C7, ⟨(rfl), (by decide)⟩, mv_X7_back, ag_ml_L_48, rfl, (Nat.le_of_ble_eq_true rfl), ⟨(Nat.le_of_ble_eq_true rfl), (Nat.le_of_ble_eq_true rfl)⟩, (mL_d dL_law_384)⟩ (im_X7_back q55.2) (fun q56 => ?_)
  refine ev_icmp_eq (pc := 387) (tgt := 1235) (mL_d dL_law_387) rfl ?_ ?_
  · exact ev_L_law_b1235 n Ls xs k18 hk18 v3 q56.2
  · refine ev_iconst (pc := 390) (v := 0) (mL_d dL_law_390) (by decide) ?_
    exact ev_brW rfl rfl (mL_d dL_law_391)
def fn_L_law_b316 (n Ls : Nat) (xs : Nat → Int32) (k18 : Int32 → Sg → Option (Int32 × Sg)) (v3 : Int32) (σ : Sg) : Option (Int32 × Sg) :=
  (if ag_ib (v3 + 1) Ls = true then (if ag_ib (v3 + 2) Ls = true then (if ag_ib (v3 + 3) Ls = true then (if ag_ib (v3 + 4) Ls = true then (if ag_ib (v3 + 5) Ls = true then (Option.bind (fn_X6_letter n (xs (v3 + 1).toNatClampNeg) (xs (v3 + 2).toNatClampNeg) (xs (v3 + 3).toNatClampNeg) (xs (v3 + 4).toNatClampNeg) (xs (v3 + 5).toNatClampNeg) σ) fun q57 =>
  (if ag_ib (v3 + 1) Ls = true then (if ag_ib (v3 + 2) Ls = true then (if ag_ib (v3 + 3) Ls = true then (if ag_ib (v3 + 4) Ls = true then (if ag_ib (v3 + 5) Ls = true then (Option.bind (fn_X7_letter (xs (v3 + 1).toNatClampNeg) (xs (v3 + 2).toNatClampNeg) (xs (v3 + 3).toNatClampNeg) (xs (v3 + 4).toNatClampNeg) (xs (v3 + 5).toNatClampNeg) q57.2) fun q58 =>
  (if q57.1 = q58.1 then (fn_L_law_b1235 n Ls xs k18 v3 q58.2)
  else (some (0, q58.2)))) else none) else none) else none) else none) else none)) else none) else none) else none) else none) else none)
set_option maxRecDepth 20000 in
set_option maxHeartbeats 4000000 in
theorem ev_L_law_b316 (n Ls : Nat) (xs : Nat → Int32) (k18 : Int32 → Sg → Option (Int32 × Sg)) (hk18 : ∀ (v3 : Int32) (σ : Sg), Ev (mL_law Ls xs) 10 241 jW 18 [(0, .ref 77), (1, .ref 0), (2, .ref 53), (3, .int v3)] [] σ (k18 v3 σ)) (v3 : Int32) (σ : Sg) : Ev (mL_law Ls xs) 10 241 jW 316 [(0, .ref 77), (1, .ref 0), (2, .ref 53), (3, .int v3)] [] σ (fn_L_law_b316 n Ls xs k18 v3 σ) := by
  unfold fn_L_law_b316
  refine ev_aload_n (pc := 316) (i := 1) 1 (mL_d dL_law_316) rfl rfl ?_
  refine ev_aload_n (pc := 317) (i := 0) 0 (mL_d dL_law_317) rfl rfl ?_
  refine ev_iload_n (pc := 318) (i := 3) 3 (mL_d dL_law_318) rfl rfl ?_
  refine ev_iconst (pc := 319) (v := 1) (mL_d dL_law_319) (by decide) ?_
  refine ev_iadd (pc := 320) (mL_d dL_law_320) ?_
  refine ev_sld (pc := 321) (Ls := Ls) (xs := xs) rfl (mL_d dL_law_321) ?_
  refine ev_aload_n (pc := 322) (i := 0) 0 (mL_d dL_law_322) rfl rfl ?_
  refine ev_iload_n (pc := 323) (i := 3) 3 (mL_d dL_law_323) rfl rfl ?_
  refine ev_iconst (pc := 324) (v := 2) (mL_d dL_law_324) (by decide) ?_
  refine ev_iadd (pc := 325) (mL_d dL_law_325) ?_
  refine ev_sld (pc := 326) (Ls := Ls) (xs := xs) rfl (mL_d dL_law_326) ?_
  refine ev_aload_n (pc := 327) (i := 0) 0 (mL_d dL_law_327) rfl rfl ?_
  refine ev_iload_n (pc := 328) (i := 3) 3 (mL_d dL_law_328) rfl rfl ?_
  refine ev_iconst (pc := 329) (v := 3) (mL_d dL_law_329) (by decide) ?_
  refine ev_iadd (pc := 330) (mL_d dL_law_330) ?_
  refine ev_sld (pc := 331) (Ls := Ls) (xs := xs) rfl (mL_d dL_law_331) ?_
  refine ev_aload_n (pc := 332) (i := 0) 0 (mL_d dL_law_332) rfl rfl ?_
  refine ev_iload_n (pc := 333) (i := 3) 3 (mL_d dL_law_333) rfl rfl ?_
  refine ev_iconst (pc := 334) (v := 4) (mL_d dL_law_334) (by decide) ?_
  refine ev_iadd (pc := 335) (mL_d dL_law_335) ?_
  refine ev_sld (pc := 336) (Ls := Ls) (xs := xs) rfl (mL_d dL_law_336) ?_
  refine ev_aload_n (pc := 337) (i := 0) 0 (mL_d dL_law_337) rfl rfl ?_
  refine ev_iload_n (pc := 338) (i := 3) 3 (mL_d dL_law_338) rfl rfl ?_
  refine ev_iconst (pc := 339) (v := 5) (mL_d dL_law_339) (by decide) ?_
  refine ev_iadd (pc := 340) (mL_d dL_law_340) ?_
  refine ev_sld (pc := 341) (Ls := Ls) (xs := xs) rfl (mL_d dL_law_341) ?_
  refine ev_vW (pc := 342) (as := [.int (xs (v3 + 1).toNatClampNeg), .int (xs (v3 + 2).toNatClampNeg), .int (xs (v3 + 3).toNatClampNeg), .int (xs (v3 + 4).toNatClampNeg), .int (xs (v3 + 5).toNatClampNeg)]) (rest := []) ⟨6, 40, 8, TX6, tyX6, ag_C6, ⟨(rfl), (by decide)⟩, mv_X6_letter, ag_ml_L_40, rfl, (Nat.le_of_ble_eq_true rfl), ⟨(Nat.le_of_ble_eq_true rfl), (Nat.le_of_ble_eq_true rfl)⟩, (mL_d dL_law_342)⟩ (im_X6_letter n (xs (v3 + 1).toNatClampNeg) (xs (v3 + 2).toNatClampNeg) (xs (v3 + 3).toNatClampNeg) (xs (v3 + 4).toNatClampNeg) (xs (v3 + 5).toNatClampNeg) σ) (fun q57 => ?_)
  refine ev_aload_n (pc := 345) (i := 2) 2 (mL_d dL_law_345) rfl rfl ?_
  refine ev_aload_n (pc := 346) (i := 0) 0 (mL_d dL_law_346) rfl rfl ?_
  refine ev_iload_n (pc := 347) (i := 3) 3 (mL_d dL_law_347) rfl rfl ?_
  refine ev_iconst (pc := 348) (v := 1) (mL_d dL_law_348) (by decide) ?_
  refine ev_iadd (pc := 349) (mL_d dL_law_349) ?_
  refine ev_sld (pc := 350) (Ls := Ls) (xs := xs) rfl (mL_d dL_law_350) ?_
  refine ev_aload_n (pc := 351) (i := 0) 0 (mL_d dL_law_351) rfl rfl ?_
  refine ev_iload_n (pc := 352) (i := 3) 3 (mL_d dL_law_352) rfl rfl ?_
  refine ev_iconst (pc := 353) (v := 2) (mL_d dL_law_353) (by decide) ?_
  refine ev_iadd (pc := 354) (mL_d dL_law_354) ?_
  refine ev_sld (pc := 355) (Ls := Ls) (xs := xs) rfl (mL_d dL_law_355) ?_
  refine ev_aload_n (pc := 356) (i := 0) 0 (mL_d dL_law_356) rfl rfl ?_
  refine ev_iload_n (pc := 357) (i := 3) 3 (mL_d dL_law_357) rfl rfl ?_
  refine ev_iconst (pc := 358) (v := 3) (mL_d dL_law_358) (by decide) ?_
  refine ev_iadd (pc := 359) (mL_d dL_law_359) ?_
  refine ev_sld (pc := 360) (Ls := Ls) (xs := xs) rfl (mL_d dL_law_360) ?_
  refine ev_aload_n (pc := 361) (i := 0) 0 (mL_d dL_law_361) rfl rfl ?_
  refine ev_iload_n (pc := 362) (i := 3) 3 (mL_d dL_law_362) rfl rfl ?_
  refine ev_iconst (pc := 363) (v := 4) (mL_d dL_law_363) (by decide) ?_
  refine ev_iadd (pc := 364) (mL_d dL_law_364) ?_
  refine ev_sld (pc := 365) (Ls := Ls) (xs := xs) rfl (mL_d dL_law_365) ?_
  refine ev_aload_n (pc := 366) (i := 0) 0 (mL_d dL_law_366) rfl rfl ?_
  refine ev_iload_n (pc := 367) (i := 3) 3 (mL_d dL_law_367) rfl rfl ?_
  refine ev_iconst (pc := 368) (v := 5) (mL_d dL_law_368) (by decide) ?_
  refine ev_iadd (pc := 369) (mL_d dL_law_369) ?_
  refine ev_sld (pc := 370) (Ls := Ls) (xs := xs) rfl (mL_d dL_law_370) ?_
  refine ev_vW (pc := 371) (as := [.int (xs (v3 + 1).toNatClampNeg), .int (xs (v3 + 2).toNatClampNeg), .int (xs (v3 + 3).toNatClampNeg), .int (xs (v3 + 4).toNatClampNeg), .int (xs (v3 + 5).toNatClampNeg)]) (rest := [.int q57.1]) ⟨7, 44, 37, TX7, tyX7, ag_C7, ⟨(rfl), (by decide)⟩, mv_X7_letter, ag_ml_L_44, rfl, (Nat.le_of_ble_eq_true rfl), ⟨(Nat.le_of_ble_eq_true rfl), (Nat.le_of_ble_eq_true rfl)⟩, (mL_d dL_law_371)⟩ (im_X7_letter (xs (v3 + 1).toNatClampNeg) (xs (v3 + 2).toNatClampNeg) (xs (v3 + 3).toNatClampNeg) (xs (v3 + 4).toNatClampNeg) (xs (v3 + 5).toNatClampNeg) q57.2) (fun q58 => ?_)
  refine ev_icmp_eq (pc := 374) (tgt := 1235) (mL_d dL_law_374) rfl ?_ ?_
  · exact ev_L_law_b1235 n Ls xs k18 hk18 v3 q58.2
  · refine ev_iconst (pc := 377) (v := 0) (mL_d dL_law_377) (by decide) ?_
    exact ev_brW rfl rfl (mL_d dL_law_378)
def fn_L_law_b283 (n Ls : Nat) (xs : Nat → Int32) (k18 : Int32 → Sg → Option (Int32 × Sg)) (v3 : Int32) (σ : Sg) : Option (Int32 × Sg) :=
  (if ag_ib (v3 + 1) Ls = true then (if ag_ib (v3 + 2) Ls = true then (Option.bind (fn_X6_knows n (xs (v3 + 1).toNatClampNeg) (xs (v3 + 2).toNatClampNeg) σ) fun q59 =>
  (if ag_ib (v3 + 1) Ls = true then (if ag_ib (v3 + 2) Ls = true then (Option.bind (fn_X7_knows (xs (v3 + 1).toNatClampNeg) (xs (v3 + 2).toNatClampNeg) q59.2) fun q60 =>
  (if q59.1 = q60.1 then (fn_L_law_b1235 n Ls xs k18 v3 q60.2)
  else (some (0, q60.2)))) else none) else none)) else none) else none)
set_option maxRecDepth 20000 in
set_option maxHeartbeats 4000000 in
theorem ev_L_law_b283 (n Ls : Nat) (xs : Nat → Int32) (k18 : Int32 → Sg → Option (Int32 × Sg)) (hk18 : ∀ (v3 : Int32) (σ : Sg), Ev (mL_law Ls xs) 10 241 jW 18 [(0, .ref 77), (1, .ref 0), (2, .ref 53), (3, .int v3)] [] σ (k18 v3 σ)) (v3 : Int32) (σ : Sg) : Ev (mL_law Ls xs) 10 241 jW 283 [(0, .ref 77), (1, .ref 0), (2, .ref 53), (3, .int v3)] [] σ (fn_L_law_b283 n Ls xs k18 v3 σ) := by
  unfold fn_L_law_b283
  refine ev_aload_n (pc := 283) (i := 1) 1 (mL_d dL_law_283) rfl rfl ?_
  refine ev_aload_n (pc := 284) (i := 0) 0 (mL_d dL_law_284) rfl rfl ?_
  refine ev_iload_n (pc := 285) (i := 3) 3 (mL_d dL_law_285) rfl rfl ?_
  refine ev_iconst (pc := 286) (v := 1) (mL_d dL_law_286) (by decide) ?_
  refine ev_iadd (pc := 287) (mL_d dL_law_287) ?_
  refine ev_sld (pc := 288) (Ls := Ls) (xs := xs) rfl (mL_d dL_law_288) ?_
  refine ev_aload_n (pc := 289) (i := 0) 0 (mL_d dL_law_289) rfl rfl ?_
  refine ev_iload_n (pc := 290) (i := 3) 3 (mL_d dL_law_290) rfl rfl ?_
  refine ev_iconst (pc := 291) (v := 2) (mL_d dL_law_291) (by decide) ?_
  refine ev_iadd (pc := 292) (mL_d dL_law_292) ?_
  refine ev_sld (pc := 293) (Ls := Ls) (xs := xs) rfl (mL_d dL_law_293) ?_
  refine ev_vW (pc := 294) (as := [.int (xs (v3 + 1).toNatClampNeg), .int (xs (v3 + 2).toNatClampNeg)]) (rest := []) ⟨6, 36, 8, TX6, tyX6, ag_C6, ⟨(rfl), (by decide)⟩, mv_X6_knows, ag_ml_L_36, rfl, (Nat.le_of_ble_eq_true rfl), ⟨(Nat.le_of_ble_eq_true rfl), (Nat.le_of_ble_eq_true rfl)⟩, (mL_d dL_law_294)⟩ (im_X6_knows n (xs (v3 + 1).toNatClampNeg) (xs (v3 + 2).toNatClampNeg) σ) (fun q59 => ?_)
  refine ev_aload_n (pc := 297) (i := 2) 2 (mL_d dL_law_297) rfl rfl ?_
  refine ev_aload_n (pc := 298) (i := 0) 0 (mL_d dL_law_298) rfl rfl ?_
  refine ev_iload_n (pc := 299) (i := 3) 3 (mL_d dL_law_299) rfl rfl ?_
  refine ev_iconst (pc := 300) (v := 1) (mL_d dL_law_300) (by decide) ?_
  refine ev_iadd (pc := 301) (mL_d dL_law_301) ?_
  refine ev_sld (pc := 302) (Ls := Ls) (xs := xs) rfl (mL_d dL_law_302) ?_
  refine ev_aload_n (pc := 303) (i := 0) 0 (mL_d dL_law_303) rfl rfl ?_
  refine ev_iload_n (pc := 304) (i := 3) 3 (mL_d dL_law_304) rfl rfl ?_
  refine ev_iconst (pc := 305) (v := 2) (mL_d dL_law_305) (by decide) ?_
  refine ev_iadd (pc := 306) (mL_d dL_law_306) ?_
  refine ev_sld (pc := 307) (Ls := Ls) (xs := xs) rfl (mL_d dL_law_307) ?_
  refine ev_vW (pc := 308) (as := [.int (xs (v3 + 1).toNatClampNeg), .int (xs (v3 + 2).toNatClampNeg)]) (rest := [.int q59.1]) ⟨7, 39, 37, TX7, tyX7, ag_C7, ⟨(rfl), (by decide)⟩, mv_X7_knows, ag_ml_L_39, rfl, (Nat.le_of_ble_eq_true rfl), ⟨(Nat.le_of_ble_eq_true rfl), (Nat.le_of_ble_eq_true rfl)⟩, (mL_d dL_law_308)⟩ (im_X7_knows (xs (v3 + 1).toNatClampNeg) (xs (v3 + 2).toNatClampNeg) q59.2) (fun q60 => ?_)
  refine ev_icmp_eq (pc := 311) (tgt := 1235) (mL_d dL_law_311) rfl ?_ ?_
  · exact ev_L_law_b1235 n Ls xs k18 hk18 v3 q60.2
  · refine ev_iconst (pc := 314) (v := 0) (mL_d dL_law_314) (by decide) ?_
    exact ev_brW rfl rfl (mL_d dL_law_315)
def fn_L_law_b250 (n Ls : Nat) (xs : Nat → Int32) (k18 : Int32 → Sg → Option (Int32 × Sg)) (v3 : Int32) (σ : Sg) : Option (Int32 × Sg) :=
  (if ag_ib (v3 + 1) Ls = true then (if ag_ib (v3 + 2) Ls = true then (Option.bind (fn_X6_person (xs (v3 + 1).toNatClampNeg) (xs (v3 + 2).toNatClampNeg) σ) fun q61 =>
  (if ag_ib (v3 + 1) Ls = true then (if ag_ib (v3 + 2) Ls = true then (Option.bind (fn_X7_person n (xs (v3 + 1).toNatClampNeg) (xs (v3 + 2).toNatClampNeg) σ) fun q62 =>
  (if q61 = q62.1 then (fn_L_law_b1235 n Ls xs k18 v3 q62.2)
  else (some (0, q62.2)))) else none) else none)) else none) else none)
set_option maxRecDepth 20000 in
set_option maxHeartbeats 4000000 in
theorem ev_L_law_b250 (n Ls : Nat) (xs : Nat → Int32) (k18 : Int32 → Sg → Option (Int32 × Sg)) (hk18 : ∀ (v3 : Int32) (σ : Sg), Ev (mL_law Ls xs) 10 241 jW 18 [(0, .ref 77), (1, .ref 0), (2, .ref 53), (3, .int v3)] [] σ (k18 v3 σ)) (v3 : Int32) (σ : Sg) : Ev (mL_law Ls xs) 10 241 jW 250 [(0, .ref 77), (1, .ref 0), (2, .ref 53), (3, .int v3)] [] σ (fn_L_law_b250 n Ls xs k18 v3 σ) := by
  unfold fn_L_law_b250
  refine ev_aload_n (pc := 250) (i := 1) 1 (mL_d dL_law_250) rfl rfl ?_
  refine ev_aload_n (pc := 251) (i := 0) 0 (mL_d dL_law_251) rfl rfl ?_
  refine ev_iload_n (pc := 252) (i := 3) 3 (mL_d dL_law_252) rfl rfl ?_
  refine ev_iconst (pc := 253) (v := 1) (mL_d dL_law_253) (by decide) ?_
  refine ev_iadd (pc := 254) (mL_d dL_law_254) ?_
  refine ev_sld (pc := 255) (Ls := Ls) (xs := xs) rfl (mL_d dL_law_255) ?_
  refine ev_aload_n (pc := 256) (i := 0) 0 (mL_d dL_law_256) rfl rfl ?_
  refine ev_iload_n (pc := 257) (i := 3) 3 (mL_d dL_law_257) rfl rfl ?_
  refine ev_iconst (pc := 258) (v := 2) (mL_d dL_law_258) (by decide) ?_
  refine ev_iadd (pc := 259) (mL_d dL_law_259) ?_
  refine ev_sld (pc := 260) (Ls := Ls) (xs := xs) rfl (mL_d dL_law_260) ?_
  refine ev_vI (pc := 261) (as := [.int (xs (v3 + 1).toNatClampNeg), .int (xs (v3 + 2).toNatClampNeg)]) (rest := []) ⟨6, 31, 8, TX6, tyX6, ag_C6, ⟨(rfl), (by decide)⟩, mv_X6_person, ag_ml_L_31, rfl, (Nat.le_of_ble_eq_true rfl), ⟨(Nat.le_of_ble_eq_true rfl), (Nat.le_of_ble_eq_true rfl)⟩, (mL_d dL_law_261)⟩ (im_X6_person (xs (v3 + 1).toNatClampNeg) (xs (v3 + 2).toNatClampNeg) σ) (fun q61 => ?_)
  refine ev_aload_n (pc := 264) (i := 2) 2 (mL_d dL_law_264) rfl rfl ?_
  refine ev_aload_n (pc := 265) (i := 0) 0 (mL_d dL_law_265) rfl rfl ?_
  refine ev_iload_n (pc := 266) (i := 3) 3 (mL_d dL_law_266) rfl rfl ?_
  refine ev_iconst (pc := 267) (v := 1) (mL_d dL_law_267) (by decide) ?_
  refine ev_iadd (pc := 268) (mL_d dL_law_268) ?_
  refine ev_sld (pc := 269) (Ls := Ls) (xs := xs) rfl (mL_d dL_law_269) ?_
  refine ev_aload_n (pc := 270) (i := 0) 0 (mL_d dL_law_270) rfl rfl ?_
  refine ev_iload_n (pc := 271) (i := 3) 3 (mL_d dL_law_271) rfl rfl ?_
  refine ev_iconst (pc := 272) (v := 2) (mL_d dL_law_272) (by decide) ?_
  refine ev_iadd (pc := 273) (mL_d dL_law_273) ?_
  refine ev_sld (pc := 274) (Ls := Ls) (xs := xs) rfl (mL_d dL_law_274) ?_
  refine ev_vW (pc := 275) (as := [.int (xs (v3 + 1).toNatClampNeg), .int (xs (v3 + 2).toNatClampNeg)]) (rest := [.int q61]) ⟨7, 35, 37, TX7, tyX7, ag_C7, ⟨(rfl), (by decide)⟩, mv_X7_person, ag_ml_L_35, rfl, (Nat.le_of_ble_eq_true rfl), ⟨(Nat.le_of_ble_eq_true rfl), (Nat.le_of_ble_eq_true rfl)⟩, (mL_d dL_law_275)⟩ (im_X7_person n (xs (v3 + 1).toNatClampNeg) (xs (v3 + 2).toNatClampNeg) σ) (fun q62 => ?_)
  refine ev_icmp_eq (pc := 278) (tgt := 1235) (mL_d dL_law_278) rfl ?_ ?_
  · exact ev_L_law_b1235 n Ls xs k18 hk18 v3 q62.2
  · refine ev_iconst (pc := 281) (v := 0) (mL_d dL_law_281) (by decide) ?_
    exact ev_brW rfl rfl (mL_d dL_law_282)
def fn_L_law_b237 (n Ls : Nat) (xs : Nat → Int32) (k18 : Int32 → Sg → Option (Int32 × Sg)) (v3 : Int32) (σ : Sg) : Option (Int32 × Sg) :=
  (Option.bind (fn_X6_fault n σ) fun q63 =>
  (Option.bind (fn_X7_fault n σ) fun q64 =>
  (if q63 = q64.1 then (fn_L_law_b1235 n Ls xs k18 v3 q64.2)
  else (some (0, q64.2)))))
set_option maxRecDepth 20000 in
set_option maxHeartbeats 4000000 in
theorem ev_L_law_b237 (n Ls : Nat) (xs : Nat → Int32) (k18 : Int32 → Sg → Option (Int32 × Sg)) (hk18 : ∀ (v3 : Int32) (σ : Sg), Ev (mL_law Ls xs) 10 241 jW 18 [(0, .ref 77), (1, .ref 0), (2, .ref 53), (3, .int v3)] [] σ (k18 v3 σ)) (v3 : Int32) (σ : Sg) : Ev (mL_law Ls xs) 10 241 jW 237 [(0, .ref 77), (1, .ref 0), (2, .ref 53), (3, .int v3)] [] σ (fn_L_law_b237 n Ls xs k18 v3 σ) := by
  unfold fn_L_law_b237
  refine ev_aload_n (pc := 237) (i := 1) 1 (mL_d dL_law_237) rfl rfl ?_
  refine ev_vI (pc := 238) (as := []) (rest := []) ⟨6, 27, 8, TX6, tyX6, ag_C6, ⟨(rfl), (by decide)⟩, mv_X6_fault, ag_ml_L_27, rfl, (Nat.le_of_ble_eq_true rfl), ⟨(Nat.le_of_ble_eq_true rfl), (Nat.le_of_ble_eq_true rfl)⟩, (mL_d dL_law_238)⟩ (im_X6_fault n σ) (fun q63 => ?_)
  refine ev_aload_n (pc := 241) (i := 2) 2 (mL_d dL_law_241) rfl rfl ?_
  refine ev_vW (pc := 242) (as := []) (rest := [.int q63]) ⟨7, 30, 37, TX7, tyX7, ag_C7, ⟨(rfl), (by decide)⟩, mv_X7_fault, ag_ml_L_30, rfl, (Nat.le_of_ble_eq_true rfl), ⟨(Nat.le_of_ble_eq_true rfl), (Nat.le_of_ble_eq_true rfl)⟩, (mL_d dL_law_242)⟩ (im_X7_fault n σ) (fun q64 => ?_)
  refine ev_icmp_eq (pc := 245) (tgt := 1235) (mL_d dL_law_245) rfl ?_ ?_
  · exact ev_L_law_b1235 n Ls xs k18 hk18 v3 q64.2
  · refine ev_iconst (pc := 248) (v := 0) (mL_d dL_law_248) (by decide) ?_
    exact ev_brW rfl rfl (mL_d dL_law_249)
def fn_L_law_b224 (n Ls : Nat) (xs : Nat → Int32) (k18 : Int32 → Sg → Option (Int32 × Sg)) (v3 : Int32) (σ : Sg) : Option (Int32 × Sg) :=
  (Option.bind (fn_X6_undo n σ) fun q65 =>
  (Option.bind (fn_X7_undo q65.2) fun q66 =>
  (if q65.1 = q66.1 then (fn_L_law_b1235 n Ls xs k18 v3 q66.2)
  else (some (0, q66.2)))))
set_option maxRecDepth 20000 in
set_option maxHeartbeats 4000000 in
theorem ev_L_law_b224 (n Ls : Nat) (xs : Nat → Int32) (k18 : Int32 → Sg → Option (Int32 × Sg)) (hk18 : ∀ (v3 : Int32) (σ : Sg), Ev (mL_law Ls xs) 10 241 jW 18 [(0, .ref 77), (1, .ref 0), (2, .ref 53), (3, .int v3)] [] σ (k18 v3 σ)) (v3 : Int32) (σ : Sg) : Ev (mL_law Ls xs) 10 241 jW 224 [(0, .ref 77), (1, .ref 0), (2, .ref 53), (3, .int v3)] [] σ (fn_L_law_b224 n Ls xs k18 v3 σ) := by
  unfold fn_L_law_b224
  refine ev_aload_n (pc := 224) (i := 1) 1 (mL_d dL_law_224) rfl rfl ?_
  refine ev_vW (pc := 225) (as := []) (rest := []) ⟨6, 23, 8, TX6, tyX6, ag_C6, ⟨(rfl), (by decide)⟩, mv_X6_undo, ag_ml_L_23, rfl, (Nat.le_of_ble_eq_true rfl), ⟨(Nat.le_of_ble_eq_true rfl), (Nat.le_of_ble_eq_true rfl)⟩, (mL_d dL_law_225)⟩ (im_X6_undo n σ) (fun q65 => ?_)
  refine ev_aload_n (pc := 228) (i := 2) 2 (mL_d dL_law_228) rfl rfl ?_
  refine ev_vW (pc := 229) (as := []) (rest := [.int q65.1]) ⟨7, 26, 37, TX7, tyX7, ag_C7, ⟨(rfl), (by decide)⟩, mv_X7_undo, ag_ml_L_26, rfl, (Nat.le_of_ble_eq_true rfl), ⟨(Nat.le_of_ble_eq_true rfl), (Nat.le_of_ble_eq_true rfl)⟩, (mL_d dL_law_229)⟩ (im_X7_undo q65.2) (fun q66 => ?_)
  refine ev_icmp_eq (pc := 232) (tgt := 1235) (mL_d dL_law_232) rfl ?_ ?_
  · exact ev_L_law_b1235 n Ls xs k18 hk18 v3 q66.2
  · refine ev_iconst (pc := 235) (v := 0) (mL_d dL_law_235) (by decide) ?_
    exact ev_brW rfl rfl (mL_d dL_law_236)
def fn_L_law_b211 (n Ls : Nat) (xs : Nat → Int32) (k18 : Int32 → Sg → Option (Int32 × Sg)) (v3 : Int32) (σ : Sg) : Option (Int32 × Sg) :=
  (Option.bind (fn_X6_wipe n σ) fun q67 =>
  (Option.bind (fn_X7_wipe q67.2) fun q68 =>
  (if q67.1 = q68.1 then (fn_L_law_b1235 n Ls xs k18 v3 q68.2)
  else (some (0, q68.2)))))
set_option maxRecDepth 20000 in
set_option maxHeartbeats 4000000 in
theorem ev_L_law_b211 (n Ls : Nat) (xs : Nat → Int32) (k18 : Int32 → Sg → Option (Int32 × Sg)) (hk18 : ∀ (v3 : Int32) (σ : Sg), Ev (mL_law Ls xs) 10 241 jW 18 [(0, .ref 77), (1, .ref 0), (2, .ref 53), (3, .int v3)] [] σ (k18 v3 σ)) (v3 : Int32) (σ : Sg) : Ev (mL_law Ls xs) 10 241 jW 211 [(0, .ref 77), (1, .ref 0), (2, .ref 53), (3, .int v3)] [] σ (fn_L_law_b211 n Ls xs k18 v3 σ) := by
  unfold fn_L_law_b211
  refine ev_aload_n (pc := 211) (i := 1) 1 (mL_d dL_law_211) rfl rfl ?_
  refine ev_vW (pc := 212) (as := []) (rest := []) ⟨6, 18, 8, TX6, tyX6, ag_C6, ⟨(rfl), (by decide)⟩, mv_X6_wipe, ag_ml_L_18, rfl, (Nat.le_of_ble_eq_true rfl), ⟨(Nat.le_of_ble_eq_true rfl), (Nat.le_of_ble_eq_true rfl)⟩, (mL_d dL_law_212)⟩ (im_X6_wipe n σ) (fun q67 => ?_)
  refine ev_aload_n (pc := 215) (i := 2) 2 (mL_d dL_law_215) rfl rfl ?_
  refine ev_vW (pc := 216) (as := []) (rest := [.int q67.1]) ⟨7, 22, 37, TX7, tyX7, ag_C7, ⟨(rfl), (by decide)⟩, mv_X7_wipe, ag_ml_L_22, rfl, (Nat.le_of_ble_eq_true rfl), ⟨(Nat.le_of_ble_eq_true rfl), (Nat.le_of_ble_eq_true rfl)⟩, (mL_d dL_law_216)⟩ (im_X7_wipe q67.2) (fun q68 => ?_)
  refine ev_icmp_eq (pc := 219) (tgt := 1235) (mL_d dL_law_219) rfl ?_ ?_
  · exact ev_L_law_b1235 n Ls xs k18 hk18 v3 q68.2
  · refine ev_iconst (pc := 222) (v := 0) (mL_d dL_law_222) (by decide) ?_
    exact ev_brW rfl rfl (mL_d dL_law_223)
def fn_L_law_b188 (n Ls : Nat) (xs : Nat → Int32) (k18 : Int32 → Sg → Option (Int32 × Sg)) (v3 : Int32) (σ : Sg) : Option (Int32 × Sg) :=
  (if ag_ib (v3 + 1) Ls = true then (Option.bind (fn_X6_type n (xs (v3 + 1).toNatClampNeg) σ) fun q69 =>
  (if ag_ib (v3 + 1) Ls = true then (Option.bind (fn_X7_type (xs (v3 + 1).toNatClampNeg) q69.2) fun q70 =>
  (if q69.1 = q70.1 then (fn_L_law_b1235 n Ls xs k18 v3 q70.2)
  else (some (0, q70.2)))) else none)) else none)
set_option maxRecDepth 20000 in
set_option maxHeartbeats 4000000 in
theorem ev_L_law_b188 (n Ls : Nat) (xs : Nat → Int32) (k18 : Int32 → Sg → Option (Int32 × Sg)) (hk18 : ∀ (v3 : Int32) (σ : Sg), Ev (mL_law Ls xs) 10 241 jW 18 [(0, .ref 77), (1, .ref 0), (2, .ref 53), (3, .int v3)] [] σ (k18 v3 σ)) (v3 : Int32) (σ : Sg) : Ev (mL_law Ls xs) 10 241 jW 188 [(0, .ref 77), (1, .ref 0), (2, .ref 53), (3, .int v3)] [] σ (fn_L_law_b188 n Ls xs k18 v3 σ) := by
  unfold fn_L_law_b188
  refine ev_aload_n (pc := 188) (i := 1) 1 (mL_d dL_law_188) rfl rfl ?_
  refine ev_aload_n (pc := 189) (i := 0) 0 (mL_d dL_law_189) rfl rfl ?_
  refine ev_iload_n (pc := 190) (i := 3) 3 (mL_d dL_law_190) rfl rfl ?_
  refine ev_iconst (pc := 191) (v := 1) (mL_d dL_law_191) (by decide) ?_
  refine ev_iadd (pc := 192) (mL_d dL_law_192) ?_
  refine ev_sld (pc := 193) (Ls := Ls) (xs := xs) rfl (mL_d dL_law_193) ?_
  refine ev_vW (pc := 194) (as := [.int (xs (v3 + 1).toNatClampNeg)]) (rest := []) ⟨6, 13, 8, TX6, tyX6, ag_C6, ⟨(rfl), (by decide)⟩, mv_X6_type, ag_ml_L_13, rfl, (Nat.le_of_ble_eq_true rfl), ⟨(Nat.le_of_ble_eq_true rfl), (Nat.le_of_ble_eq_true rfl)⟩, (mL_d dL_law_194)⟩ (im_X6_type n (xs (v3 + 1).toNatClampNeg) σ) (fun q69 => ?_)
  refine ev_aload_n (pc := 197) (i := 2) 2 (mL_d dL_law_197) rfl rfl ?_
  refine ev_aload_n (pc := 198) (i := 0) 0 (mL_d dL_law_198) rfl rfl ?_
  refine ev_iload_n (pc := 199) (i := 3) 3 (mL_d dL_law_199) rfl rfl ?_
  refine ev_iconst (pc := 200) (v := 1) (mL_d dL_law_200) (by decide) ?_
  refine ev_iadd (pc := 201) (mL_d dL_law_201) ?_
  refine ev_sld (pc := 202) (Ls := Ls) (xs := xs) rfl (mL_d dL_law_202) ?_
  refine ev_vW (pc := 203) (as := [.int (xs (v3 + 1).toNatClampNeg)]) (rest := [.int q69.1]) ⟨7, 17, 37, TX7, tyX7, ag_C7, ⟨(rfl), (by decide)⟩, mv_X7_type, ag_ml_L_17, rfl, (Nat.le_of_ble_eq_true rfl), ⟨(Nat.le_of_ble_eq_true rfl), (Nat.le_of_ble_eq_true rfl)⟩, (mL_d dL_law_203)⟩ (im_X7_type (xs (v3 + 1).toNatClampNeg) q69.2) (fun q70 => ?_)
  refine ev_icmp_eq (pc := 206) (tgt := 1235) (mL_d dL_law_206) rfl ?_ ?_
  · exact ev_L_law_b1235 n Ls xs k18 hk18 v3 q70.2
  · refine ev_iconst (pc := 209) (v := 0) (mL_d dL_law_209) (by decide) ?_
    exact ev_brW rfl rfl (mL_d dL_law_210)
