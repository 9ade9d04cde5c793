def fn_L_law_b18 (n Ls : Nat) (xs : Nat → Int32) : Nat → Int32 → Sg → Option (Int32 × Sg)
  | 0 => fun _ _ => none
  | i + 1 => fun v3 σ =>
  (if ((Int32.ofNat Ls) - 6) < v3 then (some (1, σ))
  else (if ag_ib v3 Ls = true then (if ((xs v3.toNatClampNeg) &&& 63) = 0 then (fn_L_law_b188 n Ls xs (fn_L_law_b18 n Ls xs i) v3 σ)
  else (if ((xs v3.toNatClampNeg) &&& 63) = 1 then (fn_L_law_b211 n Ls xs (fn_L_law_b18 n Ls xs i) v3 σ)
  else (if ((xs v3.toNatClampNeg) &&& 63) = 2 then (fn_L_law_b224 n Ls xs (fn_L_law_b18 n Ls xs i) v3 σ)
  else (if ((xs v3.toNatClampNeg) &&& 63) = 3 then (fn_L_law_b237 n Ls xs (fn_L_law_b18 n Ls xs i) v3 σ)
  else (if ((xs v3.toNatClampNeg) &&& 63) = 4 then (fn_L_law_b250 n Ls xs (fn_L_law_b18 n Ls xs i) v3 σ)
  else (if ((xs v3.toNatClampNeg) &&& 63) = 5 then (fn_L_law_b283 n Ls xs (fn_L_law_b18 n Ls xs i) v3 σ)
  else (if ((xs v3.toNatClampNeg) &&& 63) = 6 then (fn_L_law_b316 n Ls xs (fn_L_law_b18 n Ls xs i) v3 σ)
  else (if ((xs v3.toNatClampNeg) &&& 63) = 7 then (fn_L_law_b379 n Ls xs (fn_L_law_b18 n Ls xs i) v3 σ)
  else (if ((xs v3.toNatClampNeg) &&& 63) = 8 then (fn_L_law_b392 n Ls xs (fn_L_law_b18 n Ls xs i) v3 σ)
  else (if ((xs v3.toNatClampNeg) &&& 63) = 9 then (fn_L_law_b415 n Ls xs (fn_L_law_b18 n Ls xs i) v3 σ)
  else (if ((xs v3.toNatClampNeg) &&& 63) = 10 then (fn_L_law_b448 n Ls xs (fn_L_law_b18 n Ls xs i) v3 σ)
  else (if ((xs v3.toNatClampNeg) &&& 63) = 11 then (fn_L_law_b471 n Ls xs (fn_L_law_b18 n Ls xs i) v3 σ)
  else (if ((xs v3.toNatClampNeg) &&& 63) = 12 then (fn_L_law_b494 n Ls xs (fn_L_law_b18 n Ls xs i) v3 σ)
  else (if ((xs v3.toNatClampNeg) &&& 63) = 13 then (fn_L_law_b527 n Ls xs (fn_L_law_b18 n Ls xs i) v3 σ)
  else (if ((xs v3.toNatClampNeg) &&& 63) = 14 then (fn_L_law_b560 n Ls xs (fn_L_law_b18 n Ls xs i) v3 σ)
  else (if ((xs v3.toNatClampNeg) &&& 63) = 15 then (fn_L_law_b593 n Ls xs (fn_L_law_b18 n Ls xs i) v3 σ)
  else (if ((xs v3.toNatClampNeg) &&& 63) = 16 then (fn_L_law_b606 n Ls xs (fn_L_law_b18 n Ls xs i) v3 σ)
  else (if ((xs v3.toNatClampNeg) &&& 63) = 17 then (fn_L_law_b629 n Ls xs (fn_L_law_b18 n Ls xs i) v3 σ)
  else (if ((xs v3.toNatClampNeg) &&& 63) = 18 then (fn_L_law_b642 n Ls xs (fn_L_law_b18 n Ls xs i) v3 σ)
  else (if ((xs v3.toNatClampNeg) &&& 63) = 19 then (fn_L_law_b685 n Ls xs (fn_L_law_b18 n Ls xs i) v3 σ)
  else (if ((xs v3.toNatClampNeg) &&& 63) = 20 then (fn_L_law_b718 n Ls xs (fn_L_law_b18 n Ls xs i) v3 σ)
  else (if ((xs v3.toNatClampNeg) &&& 63) = 21 then (fn_L_law_b761 n Ls xs (fn_L_law_b18 n Ls xs i) v3 σ)
  else (if ((xs v3.toNatClampNeg) &&& 63) = 22 then (fn_L_law_b814 n Ls xs (fn_L_law_b18 n Ls xs i) v3 σ)
  else (if ((xs v3.toNatClampNeg) &&& 63) = 23 then (fn_L_law_b827 n Ls xs (fn_L_law_b18 n Ls xs i) v3 σ)
  else (if ((xs v3.toNatClampNeg) &&& 63) = 24 then (fn_L_law_b850 n Ls xs (fn_L_law_b18 n Ls xs i) v3 σ)
  else (if ((xs v3.toNatClampNeg) &&& 63) = 25 then (fn_L_law_b863 n Ls xs (fn_L_law_b18 n Ls xs i) v3 σ)
  else (if ((xs v3.toNatClampNeg) &&& 63) = 26 then (fn_L_law_b917 n Ls xs (fn_L_law_b18 n Ls xs i) v3 σ)
  else (if ((xs v3.toNatClampNeg) &&& 63) = 27 then (fn_L_law_b950 n Ls xs (fn_L_law_b18 n Ls xs i) v3 σ)
  else (if ((xs v3.toNatClampNeg) &&& 63) = 28 then (fn_L_law_b993 n Ls xs (fn_L_law_b18 n Ls xs i) v3 σ)
  else (if ((xs v3.toNatClampNeg) &&& 63) = 29 then (fn_L_law_b1016 n Ls xs (fn_L_law_b18 n Ls xs i) v3 σ)
  else (if ((xs v3.toNatClampNeg) &&& 63) = 30 then (fn_L_law_b1069 n Ls xs (fn_L_law_b18 n Ls xs i) v3 σ)
  else (if ((xs v3.toNatClampNeg) &&& 63) = 31 then (fn_L_law_b1112 n Ls xs (fn_L_law_b18 n Ls xs i) v3 σ)
  else (if ((xs v3.toNatClampNeg) &&& 63) = 32 then (fn_L_law_b1175 n Ls xs (fn_L_law_b18 n Ls xs i) v3 σ)
  else (if ((xs v3.toNatClampNeg) &&& 63) = 33 then (fn_L_law_b1198 n Ls xs (fn_L_law_b18 n Ls xs i) v3 σ)
  else (if ((xs v3.toNatClampNeg) &&& 63) = 34 then (fn_L_law_b1221 n Ls xs (fn_L_law_b18 n Ls xs i) v3 σ)
  else (fn_L_law_b1235 n Ls xs (fn_L_law_b18 n Ls xs i) v3 σ)))))))))))))))))))))))))))))))))))) else none))
theorem fn_L_law_b18_s (n Ls : Nat) (xs : Nat → Int32) (i : Nat) (v3 : Int32) (σ : Sg) : fn_L_law_b18 n Ls xs (i + 1) v3 σ =
  (if ((Int32.ofNat Ls) - 6) < v3 then (some (1, σ))
  else (if ag_ib v3 Ls = true then (if ((xs v3.toNatClampNeg) &&& 63) = 0 then (fn_L_law_b188 n Ls xs (fn_L_law_b18 n Ls xs i) v3 σ)
  else (if ((xs v3.toNatClampNeg) &&& 63) = 1 then (fn_L_law_b211 n Ls xs (fn_L_law_b18 n Ls xs i) v3 σ)
  else (if ((xs v3.toNatClampNeg) &&& 63) = 2 then (fn_L_law_b224 n Ls xs (fn_L_law_b18 n Ls xs i) v3 σ)
  else (if ((xs v3.toNatClampNeg) &&& 63) = 3 then (fn_L_law_b237 n Ls xs (fn_L_law_b18 n Ls xs i) v3 σ)
  else (if ((xs v3.toNatClampNeg) &&& 63) = 4 then (fn_L_law_b250 n Ls xs (fn_L_law_b18 n Ls xs i) v3 σ)
  else (if ((xs v3.toNatClampNeg) &&& 63) = 5 then (fn_L_law_b283 n Ls xs (fn_L_law_b18 n Ls xs i) v3 σ)
  else (if ((xs v3.toNatClampNeg) &&& 63) = 6 then (fn_L_law_b316 n Ls xs (fn_L_law_b18 n Ls xs i) v3 σ)
  else (if ((xs v3.toNatClampNeg) &&& 63) = 7 then (fn_L_law_b379 n Ls xs (fn_L_law_b18 n Ls xs i) v3 σ)
  else (if ((xs v3.toNatClampNeg) &&& 63) = 8 then (fn_L_law_b392 n Ls xs (fn_L_law_b18 n Ls xs i) v3 σ)
  else (if ((xs v3.toNatClampNeg) &&& 63) = 9 then (fn_L_law_b415 n Ls xs (fn_L_law_b18 n Ls xs i) v3 σ)
  else (if ((xs v3.toNatClampNeg) &&& 63) = 10 then (fn_L_law_b448 n Ls xs (fn_L_law_b18 n Ls xs i) v3 σ)
  else (if ((xs v3.toNatClampNeg) &&& 63) = 11 then (fn_L_law_b471 n Ls xs (fn_L_law_b18 n Ls xs i) v3 σ)
  else (if ((xs v3.toNatClampNeg) &&& 63) = 12 then (fn_L_law_b494 n Ls xs (fn_L_law_b18 n Ls xs i) v3 σ)
  else (if ((xs v3.toNatClampNeg) &&& 63) = 13 then (fn_L_law_b527 n Ls xs (fn_L_law_b18 n Ls xs i) v3 σ)
  else (if ((xs v3.toNatClampNeg) &&& 63) = 14 then (fn_L_law_b560 n Ls xs (fn_L_law_b18 n Ls xs i) v3 σ)
  else (if ((xs v3.toNatClampNeg) &&& 63) = 15 then (fn_L_law_b593 n Ls xs (fn_L_law_b18 n Ls xs i) v3 σ)
  else (if ((xs v3.toNatClampNeg) &&& 63) = 16 then (fn_L_law_b606 n Ls xs (fn_L_law_b18 n Ls xs i) v3 σ)
  else (if ((xs v3.toNatClampNeg) &&& 63) = 17 then (fn_L_law_b629 n Ls xs (fn_L_law_b18 n Ls xs i) v3 σ)
  else (if ((xs v3.toNatClampNeg) &&& 63) = 18 then (fn_L_law_b642 n Ls xs (fn_L_law_b18 n Ls xs i) v3 σ)
  else (if ((xs v3.toNatClampNeg) &&& 63) = 19 then (fn_L_law_b685 n Ls xs (fn_L_law_b18 n Ls xs i) v3 σ)
  else (if ((xs v3.toNatClampNeg) &&& 63) = 20 then (fn_L_law_b718 n Ls xs (fn_L_law_b18 n Ls xs i) v3 σ)
  else (if ((xs v3.toNatClampNeg) &&& 63) = 21 then (fn_L_law_b761 n Ls xs (fn_L_law_b18 n Ls xs i) v3 σ)
  else (if ((xs v3.toNatClampNeg) &&& 63) = 22 then (fn_L_law_b814 n Ls xs (fn_L_law_b18 n Ls xs i) v3 σ)
  else (if ((xs v3.toNatClampNeg) &&& 63) = 23 then (fn_L_law_b827 n Ls xs (fn_L_law_b18 n Ls xs i) v3 σ)
  else (if ((xs v3.toNatClampNeg) &&& 63) = 24 then (fn_L_law_b850 n Ls xs (fn_L_law_b18 n Ls xs i) v3 σ)
  else (if ((xs v3.toNatClampNeg) &&& 63) = 25 then (fn_L_law_b863 n Ls xs (fn_L_law_b18 n Ls xs i) v3 σ)
  else (if ((xs v3.toNatClampNeg) &&& 63) = 26 then (fn_L_law_b917 n Ls xs (fn_L_law_b18 n Ls xs i) v3 σ)
  else (if ((xs v3.toNatClampNeg) &&& 63) = 27 then (fn_L_law_b950 n Ls xs (fn_L_law_b18 n Ls xs i) v3 σ)
  else (if ((xs v3.toNatClampNeg) &&& 63) = 28 then (fn_L_law_b993 n Ls xs (fn_L_law_b18 n Ls xs i) v3 σ)
  else (if ((xs v3.toNatClampNeg) &&& 63) = 29 then (fn_L_law_b1016 n Ls xs (fn_L_law_b18 n Ls xs i) v3 σ)
  else (if ((xs v3.toNatClampNeg) &&& 63) = 30 then (fn_L_law_b1069 n Ls xs (fn_L_law_b18 n Ls xs i) v3 σ)
  else (if ((xs v3.toNatClampNeg) &&& 63) = 31 then (fn_L_law_b1112 n Ls xs (fn_L_law_b18 n Ls xs i) v3 σ)
  else (if ((xs v3.toNatClampNeg) &&& 63) = 32 then (fn_L_law_b1175 n Ls xs (fn_L_law_b18 n Ls xs i) v3 σ)
  else (if ((xs v3.toNatClampNeg) &&& 63) = 33 then (fn_L_law_b1198 n Ls xs (fn_L_law_b18 n Ls xs i) v3 σ)
  else (if ((xs v3.toNatClampNeg) &&& 63) = 34 then (fn_L_law_b1221 n Ls xs (fn_L_law_b18 n Ls xs i) v3 σ)
  else (fn_L_law_b1235 n Ls xs (fn_L_law_b18 n Ls xs i) v3 σ)))))))))))))))))))))))))))))))))))) else none)) := rfl
set_option maxRecDepth 20000 in
set_option maxHeartbeats 4000000 in
theorem ev_L_law_b18 (n Ls : Nat) (xs : Nat → Int32) : ∀ (i : Nat) (v3 : Int32) (σ : Sg), Ev (mL_law Ls xs) 10 241 jW 18 [(0, .ref 77), (1, .ref 0), (2, .ref 53), (3, .int v3)] [] σ (fn_L_law_b18 n Ls xs i v3 σ) := by
  intro i
  induction i with
  | zero =>
    intro v3 σ
    exact ev_none
  | succ i ih =>
    intro v3 σ
    rw [fn_L_law_b18_s]
    refine ev_iload_n (pc := 18) (i := 3) 3 (mL_d dL_law_18) rfl rfl ?_
    refine ev_aload_n (pc := 19) (i := 0) 0 (mL_d dL_law_19) rfl rfl ?_
    refine ev_slen (pc := 20) (Ls := Ls) (xs := xs) rfl (mL_d dL_law_20) ?_
    refine ev_bipush (pc := 21) (v := 6) (mL_d dL_law_21) (by decide) ?_
    refine ev_isub (pc := 23) (mL_d dL_law_23) ?_
    refine ev_icmp_gt (pc := 24) (tgt := 1241) (mL_d dL_law_24) rfl ?_ ?_
    · refine ev_iconst (pc := 1241) (v := 1) (mL_d dL_law_1241) (by decide) ?_
      exact ev_brW rfl rfl (mL_d dL_law_1242)
    · refine ev_aload_n (pc := 27) (i := 0) 0 (mL_d dL_law_27) rfl rfl ?_
      refine ev_iload_n (pc := 28) (i := 3) 3 (mL_d dL_law_28) rfl rfl ?_
      refine ev_sld (pc := 29) (Ls := Ls) (xs := xs) rfl (mL_d dL_law_29) ?_
      refine ev_bipush (pc := 30) (v := 63) (mL_d dL_law_30) (by decide) ?_
      refine ev_iand (pc := 32) (mL_d dL_law_32) ?_
      refine ev_ite (fun hc0 => ?_) (fun hc0 => ?_)
      · refine ev_tin (pc := 33) (tgt := 188) (mL_d dL_law_33) (by rw [hc0]; decide) (by rw [hc0]; decide) (by rw [hc0]; rfl) rfl ?_
        exact ev_L_law_b188 n Ls xs (fn_L_law_b18 n Ls xs i) ih v3 σ
      · skip
        refine ev_ite (fun hc1 => ?_) (fun hc1 => ?_)
        · refine ev_tin (pc := 33) (tgt := 211) (mL_d dL_law_33) (by rw [hc1]; decide) (by rw [hc1]; decide) (by rw [hc1]; rfl) rfl ?_
          exact ev_L_law_b211 n Ls xs (fn_L_law_b18 n Ls xs i) ih v3 σ
        · skip
          refine ev_ite (fun hc2 => ?_) (fun hc2 => ?_)
          · refine ev_tin (pc := 33) (tgt := 224) (mL_d dL_law_33) (by rw [hc2]; decide) (by rw [hc2]; decide) (by rw [hc2]; rfl) rfl ?_
            exact ev_L_law_b224 n Ls xs (fn_L_law_b18 n Ls xs i) ih v3 σ
          · skip
            refine ev_ite (fun hc3 => ?_) (fun hc3 => ?_)
            · refine ev_tin (pc := 33) (tgt := 237) (mL_d dL_law_33) (by rw [hc3]; decide) (by rw [hc3]; decide) (by rw [hc3]; rfl) rfl ?_
              exact ev_L_law_b237 n Ls xs (fn_L_law_b18 n Ls xs i) ih v3 σ
            · skip
              refine ev_ite (fun hc4 => ?_) (fun hc4 => ?_)
              · refine ev_tin (pc := 33) (tgt := 250) (mL_d dL_law_33) (by rw [hc4]; decide) (by rw [hc4]; decide) (by rw [hc4]; rfl) rfl ?_
                exact ev_L_law_b250 n Ls xs (fn_L_law_b18 n Ls xs i) ih v3 σ
              · skip
                refine ev_ite (fun hc5 => ?_) (fun hc5 => ?_)
                · refine ev_tin (pc := 33) (tgt := 283) (mL_d dL_law_33) (by rw [hc5]; decide) (by rw [hc5]; decide) (by rw [hc5]; rfl) rfl ?_
                  exact ev_L_law_b283 n Ls xs (fn_L_law_b18 n Ls xs i) ih v3 σ
                · skip
                  refine ev_ite (fun hc6 => ?_) (fun hc6 => ?_)
                  · refine ev_tin (pc := 33) (tgt := 316) (mL_d dL_law_33) (by rw [hc6]; decide) (by rw [hc6]; decide) (by rw [hc6]; rfl) rfl ?_
                    exact ev_L_law_b316 n Ls xs (fn_L_law_b18 n Ls xs i) ih v3 σ
                  · skip
                    refine ev_ite (fun hc7 => ?_) (fun hc7 => ?_)
                    · refine ev_tin (pc := 33) (tgt := 379) (mL_d dL_law_33) (by rw [hc7]; decide) (by rw [hc7]; decide) (by rw [hc7]; rfl) rfl ?_
                      exact ev_L_law_b379 n Ls xs (fn_L_law_b18 n Ls xs i) ih v3 σ
                    · skip
                      refine ev_ite (fun hc8 => ?_) (fun hc8 => ?_)
                      · refine ev_tin (pc := 33) (tgt := 392) (mL_d dL_law_33) (by rw [hc8]; decide) (by rw [hc8]; decide) (by rw [hc8]; rfl) rfl ?_
                        exact ev_L_law_b392 n Ls xs (fn_L_law_b18 n Ls xs i) ih v3 σ
                      · skip
                        refine ev_ite (fun hc9 => ?_) (fun hc9 => ?_)
                        · refine ev_tin (pc := 33) (tgt := 415) (mL_d dL_law_33) (by rw [hc9]; decide) (by rw [hc9]; decide) (by rw [hc9]; rfl) rfl ?_
                          exact ev_L_law_b415 n Ls xs (fn_L_law_b18 n Ls xs i) ih v3 σ
                        · skip
                          refine ev_ite (fun hc10 => ?_) (fun hc10 => ?_)
                          · refine ev_tin (pc := 33) (tgt := 448) (mL_d dL_law_33) (by rw [hc10]; decide) (by rw [hc10]; decide) (by rw [hc10]; rfl) rfl ?_
                            exact ev_L_law_b448 n Ls xs (fn_L_law_b18 n Ls xs i) ih v3 σ
                          · skip
                            refine ev_ite (fun hc11 => ?_) (fun hc11 => ?_)
                            · refine ev_tin (pc := 33) (tgt := 471) (mL_d dL_law_33) (by rw [hc11]; decide) (by rw [hc11]; decide) (by rw [hc11]; rfl) rfl ?_
                              exact ev_L_law_b471 n Ls xs (fn_L_law_b18 n Ls xs i) ih v3 σ
                            · skip
                              refine ev_ite (fun hc12 => ?_) (fun hc12 => ?_)
                              · refine ev_tin (pc := 33) (tgt := 494) (mL_d dL_law_33) (by rw [hc12]; decide) (by rw [hc12]; decide) (by rw [hc12]; rfl) rfl ?_
                                exact ev_L_law_b494 n Ls xs (fn_L_law_b18 n Ls xs i) ih v3 σ
                              · skip
                                refine ev_ite (fun hc13 => ?_) (fun hc13 => ?_)
                                · refine ev_tin (pc := 33) (tgt := 527) (mL_d dL_law_33) (by rw [hc13]; decide) (by rw [hc13]; decide) (by rw [hc13]; rfl) rfl ?_
                                  exact ev_L_law_b527 n Ls xs (fn_L_law_b18 n Ls xs i) ih v3 σ
                                · skip
                                  refine ev_ite (fun hc14 => ?_) (fun hc14 => ?_)
                                  · refine ev_tin (pc := 33) (tgt := 560) (mL_d dL_law_33) (by rw [hc14]; decide) (by rw [hc14]; decide) (by rw [hc14]; rfl) rfl ?_
                                    exact ev_L_law_b560 n Ls xs (fn_L_law_b18 n Ls xs i) ih v3 σ
                                  · skip
                                    refine ev_ite (fun hc15 => ?_) (fun hc15 => ?_)
                                    · refine ev_tin (pc := 33) (tgt := 593) (mL_d dL_law_33) (by rw [hc15]; decide) (by rw [hc15]; decide) (by rw [hc15]; rfl) rfl ?_
                                      exact ev_L_law_b593 n Ls xs (fn_L_law_b18 n Ls xs i) ih v3 σ
                                    · skip
                                      refine ev_ite (fun hc16 => ?_) (fun hc16 => ?_)
                                      · refine ev_tin (pc := 33) (tgt := 606) (mL_d dL_law_33) (by rw [hc16]; decide) (by rw [hc16]; decide) (by rw [hc16]; rfl) rfl ?_
                                        exact ev_L_law_b606 n Ls xs (fn_L_law_b18 n Ls xs i) ih v3 σ
                                      · skip
                                        refine ev_ite (fun hc17 => ?_) (fun hc17 => ?_)
                                        · refine ev_tin (pc := 33) (tgt := 629) (mL_d dL_law_33) (by rw [hc17]; decide) (by rw [hc17]; decide) (by rw [hc17]; rfl) rfl ?_
                                          exact ev_L_law_b629 n Ls xs (fn_L_law_b18 n Ls xs i) ih v3 σ
                                        · skip
                                          refine ev_ite (fun hc18 => ?_) (fun hc18 => ?_)
                                          · refine ev_tin (pc := 33) (tgt := 642) (mL_d dL_law_33) (by rw [hc18]; decide) (by rw [hc18]; decide) (by rw [hc18]; rfl) rfl ?_
                                            exact ev_L_law_b642 n Ls xs (fn_L_law_b18 n Ls xs i) ih v3 σ
                                          · skip
                                            refine ev_ite (fun hc19 => ?_) (fun hc19 => ?_)
                                            · refine ev_tin (pc := 33) (tgt := 685) (mL_d dL_law_33) (by rw [hc19]; decide) (by rw [hc19]; decide) (by rw [hc19]; rfl) rfl ?_
                                              exact ev_L_law_b685 n Ls xs (fn_L_law_b18 n Ls xs i) ih v3 σ
                                            · skip
                                              refine ev_ite (fun hc20 => ?_) (fun hc20 => ?_)
                                              · refine ev_tin (pc := 33) (tgt := 718) (mL_d dL_law_33) (by rw [hc20]; decide) (by rw [hc20]; decide) (by rw [hc20]; rfl) rfl ?_
                                                exact ev_L_law_b718 n Ls xs (fn_L_law_b18 n Ls xs i) ih v3 σ
                                              · skip
                                                refine ev_ite (fun hc21 => ?_) (fun hc21 => ?_)
                                                · refine ev_tin (pc := 33) (tgt := 761) (mL_d dL_law_33) (by rw [hc21]; decide) (by rw [hc21]; decide) (by rw [hc21]; rfl) rfl ?_
                                                  exact ev_L_law_b761 n Ls xs (fn_L_law_b18 n Ls xs i) ih v3 σ
                                                · skip
                                                  refine ev_ite (fun hc22 => ?_) (fun hc22 => ?_)
                                                  · refine ev_tin (pc := 33) (tgt := 814) (mL_d dL_law_33) (by rw [hc22]; decide) (by rw [hc22]; decide) (by rw [hc22]; rfl) rfl ?_
                                                    exact ev_L_law_b814 n Ls xs (fn_L_law_b18 n Ls xs i) ih v3 σ
                                                  · skip
                                                    refine ev_ite (fun hc23 => ?_) (fun hc23 => ?_)
                                                    · refine ev_tin (pc := 33) (tgt := 827) (mL_d dL_law_33) (by rw [hc23]; decide) (by rw [hc23]; decide) (by rw [hc23]; rfl) rfl ?_
                                                      exact ev_L_law_b827 n Ls xs (fn_L_law_b18 n Ls xs i) ih v3 σ
                                                    · skip
                                                      refine ev_ite (fun hc24 => ?_) (fun hc24 => ?_)
                                                      · refine ev_tin (pc := 33) (tgt := 850) (mL_d dL_law_33) (by rw [hc24]; decide) (by rw [hc24]; decide) (by rw [hc24]; rfl) rfl ?_
                                                        exact ev_L_law_b850 n Ls xs (fn_L_law_b18 n Ls xs i) ih v3 σ
                                                      · skip
                                                        refine ev_ite (fun hc25 => ?_) (fun hc25 => ?_)
                                                        · refine ev_tin (pc := 33) (tgt := 863) (mL_d dL_law_33) (by rw [hc25]; decide) (by rw [hc25]; decide) (by rw [hc25]; rfl) rfl ?_
                                                          exact ev_L_law_b863 n Ls xs (fn_L_law_b18 n Ls xs i) ih v3 σ
                                                        · skip
                                                          refine ev_ite (fun hc26 => ?_) (fun hc26 => ?_)
                                                          · refine ev_tin (pc := 33) (tgt := 917) (mL_d dL_law_33) (by rw [hc26]; decide) (by rw [hc26]; decide) (by rw [hc26]; rfl) rfl ?_
                                                            exact ev_L_law_b917 n Ls xs (fn_L_law_b18 n Ls xs i) ih v3 σ
                                                          · skip
                                                            refine ev_ite (fun hc27 => ?_) (fun hc27 => ?_)
                                                            · refine ev_tin (pc := 33) (tgt := 950) (mL_d dL_law_33) (by rw [hc27]; decide) (by rw [hc27]; decide) (by rw [hc27]; rfl) rfl ?_
                                                              exact ev_L_law_b950 n Ls xs (fn_L_law_b18 n Ls xs i) ih v3 σ
                                                            · skip
                                                              refine ev_ite (fun hc28 => ?_) (fun hc28 => ?_)
                                                              · refine ev_tin (pc := 33) (tgt := 993) (mL_d dL_law_33) (by rw [hc28]; decide) (by rw [hc28]; decide) (by rw [hc28]; rfl) rfl ?_
                                                                exact ev_L_law_b993 n Ls xs (fn_L_law_b18 n Ls xs i) ih v3 σ
                                                              · skip
                                                                refine ev_ite (fun hc29 => ?_) (fun hc29 => ?_)
                                                                · refine ev_tin (pc := 33) (tgt := 1016) (mL_d dL_law_33) (by rw [hc29]; decide) (by rw [hc29]; decide) (by rw [hc29]; rfl) rfl ?_
                                                                  exact ev_L_law_b1016 n Ls xs (fn_L_law_b18 n Ls xs i) ih v3 σ
                                                                · skip
                                                                  refine ev_ite (fun hc30 => ?_) (fun hc30 => ?_)
                                                                  · refine ev_tin (pc := 33) (tgt := 1069) (mL_d dL_law_33) (by rw [hc30]; decide) (by rw [hc30]; decide) (by rw [hc30]; rfl) rfl ?_
                                                                    exact ev_L_law_b1069 n Ls xs (fn_L_law_b18 n Ls xs i) ih v3 σ
                                                                  · skip
                                                                    refine ev_ite (fun hc31 => ?_) (fun hc31 => ?_)
                                                                    · refine ev_tin (pc := 33) (tgt := 1112) (mL_d dL_law_33) (by rw [hc31]; decide) (by rw [hc31]; decide) (by rw [hc31]; rfl) rfl ?_
                                                                      exact ev_L_law_b1112 n Ls xs (fn_L_law_b18 n Ls xs i) ih v3 σ
                                                                    · skip
                                                                      refine ev_ite (fun hc32 => ?_) (fun hc32 => ?_)
                                                                      · refine ev_tin (pc := 33) (tgt := 1175) (mL_d dL_law_33) (by rw [hc32]; decide) (by rw [hc32]; decide) (by rw [hc32]; rfl) rfl ?_
                                                                        exact ev_L_law_b1175 n Ls xs (fn_L_law_b18 n Ls xs i) ih v3 σ
                                                                      · skip
                                                                        refine ev_ite (fun hc33 => ?_) (fun hc33 => ?_)
                                                                        · refine ev_tin (pc := 33) (tgt := 1198) (mL_d dL_law_33) (by rw [hc33]; decide) (by rw [hc33]; decide) (by rw [hc33]; rfl) rfl ?_
                                                                          exact ev_L_law_b1198 n Ls xs (fn_L_law_b18 n Ls xs i) ih v3 σ
                                                                        · skip
                                                                          refine ev_ite (fun hc34 => ?_) (fun hc34 => ?_)
                                                                          · refine ev_tin (pc := 33) (tgt := 1221) (mL_d dL_law_33) (by rw [hc34]; decide) (by rw [hc34]; decide) (by rw [hc34]; rfl) rfl ?_
                                                                            exact ev_L_law_b1221 n Ls xs (fn_L_law_b18 n Ls xs i) ih v3 σ
                                                                          · have hn0 := lv_neT (a := 0) hc0 rfl
                                                                            have hn1 := lv_neT (a := 1) hc1 rfl
                                                                            have hn2 := lv_neT (a := 2) hc2 rfl
                                                                            have hn3 := lv_neT (a := 3) hc3 rfl
                                                                            have hn4 := lv_neT (a := 4) hc4 rfl
                                                                            have hn5 := lv_neT (a := 5) hc5 rfl
                                                                            have hn6 := lv_neT (a := 6) hc6 rfl
                                                                            have hn7 := lv_neT (a := 7) hc7 rfl
                                                                            have hn8 := lv_neT (a := 8) hc8 rfl
                                                                            have hn9 := lv_neT (a := 9) hc9 rfl
                                                                            have hn10 := lv_neT (a := 10) hc10 rfl
                                                                            have hn11 := lv_neT (a := 11) hc11 rfl
                                                                            have hn12 := lv_neT (a := 12) hc12 rfl
                                                                            have hn13 := lv_neT (a := 13) hc13 rfl
                                                                            have hn14 := lv_neT (a := 14) hc14 rfl
                                                                            have hn15 := lv_neT (a := 15) hc15 rfl
                                                                            have hn16 := lv_neT (a := 16) hc16 rfl
                                                                            have hn17 := lv_neT (a := 17) hc17 rfl
                                                                            have hn18 := lv_neT (a := 18) hc18 rfl
                                                                            have hn19 := lv_neT (a := 19) hc19 rfl
                                                                            have hn20 := lv_neT (a := 20) hc20 rfl
                                                                            have hn21 := lv_neT (a := 21) hc21 rfl
                                                                            have hn22 := lv_neT (a := 22) hc22 rfl
                                                                            have hn23 := lv_neT (a := 23) hc23 rfl
                                                                            have hn24 := lv_neT (a := 24) hc24 rfl
                                                                            have hn25 := lv_neT (a := 25) hc25 rfl
                                                                            have hn26 := lv_neT (a := 26) hc26 rfl
                                                                            have hn27 := lv_neT (a := 27) hc27 rfl
                                                                            have hn28 := lv_neT (a := 28) hc28 rfl
                                                                            have hn29 := lv_neT (a := 29) hc29 rfl
                                                                            have hn30 := lv_neT (a := 30) hc30 rfl
                                                                            have hn31 := lv_neT (a := 31) hc31 rfl
                                                                            have hn32 := lv_neT (a := 32) hc32 rfl
                                                                            have hn33 := lv_neT (a := 33) hc33 rfl
                                                                            have hn34 := lv_neT (a := 34) hc34 rfl
                                                                            refine ev_tout (pc := 33) (tgt := 1235) (mL_d dL_law_33) (by omega) rfl ?_
                                                                            exact ev_L_law_b1235 n Ls xs (fn_L_law_b18 n Ls xs i) ih v3 σ
