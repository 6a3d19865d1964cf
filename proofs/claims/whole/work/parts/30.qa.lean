theorem q0_0 (C : am_C) (σ : am_M) (v1 : Int32) : am_go am_X0 C M0 0 [.ref 6, .int v1, .null] [] σ = am_bV (C 276 [.ref 27, .int (nI 0)] σ) (fun t1 => am_go am_X0 C M0 10 [.ref 6, .int v1, .int (nI 0)] [] t1) := by
  refine Eq.trans (g_A dX0_gatherBeside_0 rfl rfl) ?_
  refine Eq.trans (g_getR dX0_gatherBeside_1 f42 sh6 rfl rfl) ?_
  refine Eq.trans (g_K (v := nI 0) dX0_gatherBeside_4 rfl rfl) ?_
  refine Eq.trans (g_sV (as := [.ref 27, .int (nI 0)]) (rest := []) dX0_gatherBeside_5 rfl cl153 m276 rfl rfl rfl rfl (Nat.le_of_ble_eq_true rfl) rfl rfl rfl) ?_
  refine am_bV_c (fun t1 => ?_)
  refine Eq.trans (g_K (v := nI 0) dX0_gatherBeside_8 rfl rfl) ?_
  refine Eq.trans (g_isn (k := 2) dX0_gatherBeside_9 rfl (Nat.le_of_ble_eq_true rfl) rfl rfl rfl) ?_
  rfl
theorem q0_10 (C : am_C) (σ : am_M) (v1 v2 : Int32) : am_go am_X0 C M0 10 [.ref 6, .int v1, .int v2] [] σ = am_bI (C 32 [.ref 4] σ) (fun r1 t1 => if r1 ≤ v2 then (some (.inl none, t1)) else (if v2 = v1 then (am_go am_X0 C M0 10 [.ref 6, .int v1, .int (v2 + nI 1)] [] t1) else (am_bI (C 35 [.ref 4, .int v2] t1) (fun r2 t2 => if r2 = nI 0 then (am_go am_X0 C M0 10 [.ref 6, .int v1, .int (v2 + nI 1)] [] t2) else (am_bV (C 9 [.ref 6, .int v2] t2) (fun t3 => am_go am_X0 C M0 10 [.ref 6, .int v1, .int (v2 + nI 1)] [] t3)))))) := by
  refine Eq.trans (g_A dX0_gatherBeside_10 rfl rfl) ?_
  refine Eq.trans (g_A dX0_gatherBeside_11 rfl rfl) ?_
  refine Eq.trans (g_getR dX0_gatherBeside_12 f43 sh6 rfl rfl) ?_
  refine Eq.trans (g_vI (a := 4) (as := []) (rest := [.int v2]) dX0_gatherBeside_15 cl154 m32 rfl rfl rfl rfl (Nat.le_of_ble_eq_true rfl) rfl rfl rfl rfl) ?_
  refine am_bI_c (fun r1 t1 => ?_)
  refine Eq.trans (g_icge (t := 48) dX0_gatherBeside_18 rfl rfl) ?_
  refine am_ite ?_ ?_
  · exact g_vret dX0_gatherBeside_48 rfl
  · refine Eq.trans (g_A dX0_gatherBeside_21 rfl rfl) ?_
    refine Eq.trans (g_A dX0_gatherBeside_22 rfl rfl) ?_
    refine Eq.trans (g_iceq (t := 42) dX0_gatherBeside_23 rfl rfl) ?_
    refine am_ite ?_ ?_
    · refine Eq.trans (g_inc (v := v2 + nI 1) dX0_gatherBeside_42 rfl (Nat.le_of_ble_eq_true rfl) rfl rfl rfl rfl) ?_
      refine Eq.trans (g_goto (pc' := 10) dX0_gatherBeside_45 rfl) ?_
      rfl
    · refine Eq.trans (g_A dX0_gatherBeside_26 rfl rfl) ?_
      refine Eq.trans (g_getR dX0_gatherBeside_27 f43 sh6 rfl rfl) ?_
      refine Eq.trans (g_A dX0_gatherBeside_30 rfl rfl) ?_
      refine Eq.trans (g_vI (a := 4) (as := [.int v2]) (rest := []) dX0_gatherBeside_31 cl155 m35 rfl rfl rfl rfl (Nat.le_of_ble_eq_true rfl) rfl rfl rfl rfl) ?_
      refine am_bI_c (fun r2 t2 => ?_)
      refine Eq.trans (g_ifeq (t := 42) dX0_gatherBeside_34 rfl rfl) ?_
      refine am_ite ?_ ?_
      · refine Eq.trans (g_inc (v := v2 + nI 1) dX0_gatherBeside_42 rfl (Nat.le_of_ble_eq_true rfl) rfl rfl rfl rfl) ?_
        refine Eq.trans (g_goto (pc' := 10) dX0_gatherBeside_45 rfl) ?_
        rfl
      · refine Eq.trans (g_A dX0_gatherBeside_37 rfl rfl) ?_
        refine Eq.trans (g_A dX0_gatherBeside_38 rfl rfl) ?_
        refine Eq.trans (g_vV (a := 6) (as := [.int v2]) (rest := []) dX0_gatherBeside_39 cl156 m9 rfl rfl rfl rfl (Nat.le_of_ble_eq_true rfl) rfl rfl rfl rfl) ?_
        refine am_bV_c (fun t3 => ?_)
        refine Eq.trans (g_inc (v := v2 + nI 1) dX0_gatherBeside_42 rfl (Nat.le_of_ble_eq_true rfl) rfl rfl rfl rfl) ?_
        refine Eq.trans (g_goto (pc' := 10) dX0_gatherBeside_45 rfl) ?_
        rfl
theorem q1_0 (C : am_C) (σ : am_M) (v1 v2 : Int32) : am_go am_X0 C M1 0 [.ref 6, .int v1, .int v2, .null, .null, .null] [] σ = am_bI (C 11 [.ref 6, .int ((nI 85) + v1)] σ) (fun r1 t1 => am_nI (C 164 [.int v1] t1) (fun r2 t2 => am_go am_X0 C M1 20 [.ref 6, .int v1, .int v2, .int (r1 &&& v2), .int r2, .int (nI 3)] [] t2)) := by
  refine Eq.trans (g_A dX0_canRead_0 rfl rfl) ?_
  refine Eq.trans (g_K (v := nI 85) dX0_canRead_1 rfl rfl) ?_
  refine Eq.trans (g_A dX0_canRead_3 rfl rfl) ?_
  refine Eq.trans (g_iadd dX0_canRead_4 rfl) ?_
  refine Eq.trans (g_vI (a := 6) (as := [.int ((nI 85) + v1)]) (rest := []) dX0_canRead_5 cl157 m11 rfl rfl rfl rfl (Nat.le_of_ble_eq_true rfl) rfl rfl rfl rfl) ?_
  refine am_bI_c (fun r1 t1 => ?_)
  refine Eq.trans (g_A dX0_canRead_8 rfl rfl) ?_
  refine Eq.trans (g_iand dX0_canRead_9 rfl) ?_
  refine Eq.trans (g_isn (k := 3) dX0_canRead_10 rfl (Nat.le_of_ble_eq_true rfl) rfl rfl rfl) ?_
  refine Eq.trans (g_A dX0_canRead_11 rfl rfl) ?_
  refine Eq.trans (g_sN (as := [.int v1]) (rest := []) dX0_canRead_12 rfl cl158 m164 rfl rfl rfl rfl (Nat.le_of_ble_eq_true rfl) rfl rfl) ?_
  refine am_nI_c (fun r2 t2 => ?_)
  refine Eq.trans (g_ist (k := 4) dX0_canRead_15 (Nat.le_of_ble_eq_true rfl) rfl rfl rfl) ?_
  refine Eq.trans (g_K (v := nI 3) dX0_canRead_17 rfl rfl) ?_
  refine Eq.trans (g_ist (k := 5) dX0_canRead_18 (Nat.le_of_ble_eq_true rfl) rfl rfl rfl) ?_
  rfl
theorem q1_20 (C : am_C) (σ : am_M) (v1 v2 v3 v4 v5 : Int32) : am_go am_X0 C M1 20 [.ref 6, .int v1, .int v2, .int v3, .int v4, .int v5] [] σ = if v5 ≤ (nI 0) then (am_go am_X0 C M1 51 [.ref 6, .int v1, .int v2, .int v3, .int v4, .int v5] [] σ) else (if v3 = nI 0 then (am_go am_X0 C M1 51 [.ref 6, .int v1, .int v2, .int v3, .int v4, .int v5] [] σ) else (am_bI (C 11 [.ref 6, .int v4] σ) (fun r1 t1 => am_nI (C 166 [.int v4] t1) (fun r2 t2 => am_go am_X0 C M1 20 [.ref 6, .int v1, .int v2, .int (r1 &&& v2), .int r2, .int (v5 + (-1))] [] t2)))) := by
  refine Eq.trans (g_A dX0_canRead_20 rfl rfl) ?_
  refine Eq.trans (g_ifle (t := 51) dX0_canRead_22 rfl rfl) ?_
  refine am_ite ?_ ?_
  · rfl
  · refine Eq.trans (g_A dX0_canRead_25 rfl rfl) ?_
    refine Eq.trans (g_ifeq (t := 51) dX0_canRead_26 rfl rfl) ?_
    refine am_ite ?_ ?_
    · rfl
    · refine Eq.trans (g_A dX0_canRead_29 rfl rfl) ?_
      refine Eq.trans (g_A dX0_canRead_30 rfl rfl) ?_
      refine Eq.trans (g_vI (a := 6) (as := [.int v4]) (rest := []) dX0_canRead_32 cl157 m11 rfl rfl rfl rfl (Nat.le_of_ble_eq_true rfl) rfl rfl rfl rfl) ?_
      refine am_bI_c (fun r1 t1 => ?_)
      refine Eq.trans (g_A dX0_canRead_35 rfl rfl) ?_
      refine Eq.trans (g_iand dX0_canRead_36 rfl) ?_
      refine Eq.trans (g_isn (k := 3) dX0_canRead_37 rfl (Nat.le_of_ble_eq_true rfl) rfl rfl rfl) ?_
      refine Eq.trans (g_A dX0_canRead_38 rfl rfl) ?_
      refine Eq.trans (g_sN (as := [.int v4]) (rest := []) dX0_canRead_40 rfl cl159 m166 rfl rfl rfl rfl (Nat.le_of_ble_eq_true rfl) rfl rfl) ?_
      refine am_nI_c (fun r2 t2 => ?_)
      refine Eq.trans (g_ist (k := 4) dX0_canRead_43 (Nat.le_of_ble_eq_true rfl) rfl rfl rfl) ?_
      refine Eq.trans (g_inc (v := v5 + (-1)) dX0_canRead_45 rfl (Nat.le_of_ble_eq_true rfl) rfl rfl rfl rfl) ?_
      refine Eq.trans (g_goto (pc' := 20) dX0_canRead_48 rfl) ?_
      rfl
theorem q1_51 (C : am_C) (σ : am_M) (v1 v2 v3 v4 v5 : Int32) : am_go am_X0 C M1 51 [.ref 6, .int v1, .int v2, .int v3, .int v4, .int v5] [] σ = if v3 = nI 0 then (some (.inl (some (.int (nI 0))), σ)) else (some (.inl (some (.int (nI 1))), σ)) := by
  refine Eq.trans (g_A dX0_canRead_51 rfl rfl) ?_
  refine Eq.trans (g_ifeq (t := 59) dX0_canRead_52 rfl rfl) ?_
  refine am_ite ?_ ?_
  · refine Eq.trans (g_K (v := nI 0) dX0_canRead_59 rfl rfl) ?_
    exact g_zl dX0_canRead_60 rfl (Or.inl rfl)
  · refine Eq.trans (g_K (v := nI 1) dX0_canRead_55 rfl rfl) ?_
    refine Eq.trans (g_goto (pc' := 60) dX0_canRead_56 rfl) ?_
    exact g_zl dX0_canRead_60 rfl (Or.inr rfl)
theorem q2_0 (C : am_C) (σ : am_M) (v1 : Int32) : am_go am_X0 C M2 0 [.ref 6, .int v1, .null, .null] [] σ = am_go am_X0 C M2 4 [.ref 6, .int v1, .int (nI 0), .int (nI 0)] [] σ := by
  refine Eq.trans (g_K (v := nI 0) dX0_countReadable_0 rfl rfl) ?_
  refine Eq.trans (g_isn (k := 2) dX0_countReadable_1 rfl (Nat.le_of_ble_eq_true rfl) rfl rfl rfl) ?_
  refine Eq.trans (g_K (v := nI 0) dX0_countReadable_2 rfl rfl) ?_
  refine Eq.trans (g_isn (k := 3) dX0_countReadable_3 rfl (Nat.le_of_ble_eq_true rfl) rfl rfl rfl) ?_
  rfl
theorem q2_4 (C : am_C) (σ : am_M) (v1 v2 v3 : Int32) : am_go am_X0 C M2 4 [.ref 6, .int v1, .int v2, .int v3] [] σ = if (nI 64) ≤ v3 then (some (.inl (some (.int v2)), σ)) else (am_bI (C 1 [.ref 6, .int v3, .int v1] σ) (fun r1 t1 => if r1 = nI 0 then (am_go am_X0 C M2 4 [.ref 6, .int v1, .int v2, .int (v3 + nI 1)] [] t1) else (am_go am_X0 C M2 4 [.ref 6, .int v1, .int (v2 + nI 1), .int (v3 + nI 1)] [] t1))) := by
  refine Eq.trans (g_A dX0_countReadable_4 rfl rfl) ?_
  refine Eq.trans (g_K (v := nI 64) dX0_countReadable_5 rfl rfl) ?_
  refine Eq.trans (g_icge (t := 28) dX0_countReadable_7 rfl rfl) ?_
  refine am_ite ?_ ?_
  · refine Eq.trans (g_A dX0_countReadable_28 rfl rfl) ?_
    exact g_iret dX0_countReadable_29 rfl
  · refine Eq.trans (g_A dX0_countReadable_10 rfl rfl) ?_
    refine Eq.trans (g_A dX0_countReadable_11 rfl rfl) ?_
    refine Eq.trans (g_A dX0_countReadable_12 rfl rfl) ?_
    refine Eq.trans (g_vI (a := 6) (as := [.int v3, .int v1]) (rest := []) dX0_countReadable_13 cl160 m1 rfl rfl rfl rfl (Nat.le_of_ble_eq_true rfl) rfl rfl rfl rfl) ?_
    refine am_bI_c (fun r1 t1 => ?_)
    refine Eq.trans (g_ifeq (t := 22) dX0_countReadable_16 rfl rfl) ?_
    refine am_ite ?_ ?_
    · refine Eq.trans (g_inc (v := v3 + nI 1) dX0_countReadable_22 rfl (Nat.le_of_ble_eq_true rfl) rfl rfl rfl rfl) ?_
      refine Eq.trans (g_goto (pc' := 4) dX0_countReadable_25 rfl) ?_
      rfl
    · refine Eq.trans (g_inc (v := v2 + nI 1) dX0_countReadable_19 rfl (Nat.le_of_ble_eq_true rfl) rfl rfl rfl rfl) ?_
      refine Eq.trans (g_inc (v := v3 + nI 1) dX0_countReadable_22 rfl (Nat.le_of_ble_eq_true rfl) rfl rfl rfl rfl) ?_
      refine Eq.trans (g_goto (pc' := 4) dX0_countReadable_25 rfl) ?_
      rfl
theorem q3_0 (C : am_C) (σ : am_M) (v1 : Int32) : am_go am_X0 C M3 0 [.ref 6, .int v1, .null, .null, .null] [] σ = am_bI (C 11 [.ref 6, .int ((nI 85) + v1)] σ) (fun r1 t1 => am_bI (C 275 [.int r1] t1) (fun r2 t2 => am_nI (C 164 [.int v1] t2) (fun r3 t3 => am_go am_X0 C M3 20 [.ref 6, .int v1, .int r2, .int r3, .int (nI 3)] [] t3))) := by
  refine Eq.trans (g_A dX0_leastMedia_0 rfl rfl) ?_
  refine Eq.trans (g_K (v := nI 85) dX0_leastMedia_1 rfl rfl) ?_
  refine Eq.trans (g_A dX0_leastMedia_3 rfl rfl) ?_
  refine Eq.trans (g_iadd dX0_leastMedia_4 rfl) ?_
  refine Eq.trans (g_vI (a := 6) (as := [.int ((nI 85) + v1)]) (rest := []) dX0_leastMedia_5 cl157 m11 rfl rfl rfl rfl (Nat.le_of_ble_eq_true rfl) rfl rfl rfl rfl) ?_
  refine am_bI_c (fun r1 t1 => ?_)
  refine Eq.trans (g_sI (as := [.int r1]) (rest := []) dX0_leastMedia_8 rfl cl161 m275 rfl rfl rfl rfl (Nat.le_of_ble_eq_true rfl) rfl rfl rfl) ?_
  refine am_bI_c (fun r2 t2 => ?_)
  refine Eq.trans (g_isn (k := 2) dX0_leastMedia_11 rfl (Nat.le_of_ble_eq_true rfl) rfl rfl rfl) ?_
  refine Eq.trans (g_A dX0_leastMedia_12 rfl rfl) ?_
  refine Eq.trans (g_sN (as := [.int v1]) (rest := []) dX0_leastMedia_13 rfl cl158 m164 rfl rfl rfl rfl (Nat.le_of_ble_eq_true rfl) rfl rfl) ?_
  refine am_nI_c (fun r3 t3 => ?_)
  refine Eq.trans (g_isn (k := 3) dX0_leastMedia_16 rfl (Nat.le_of_ble_eq_true rfl) rfl rfl rfl) ?_
  refine Eq.trans (g_K (v := nI 3) dX0_leastMedia_17 rfl rfl) ?_
  refine Eq.trans (g_ist (k := 4) dX0_leastMedia_18 (Nat.le_of_ble_eq_true rfl) rfl rfl rfl) ?_
  rfl
theorem q3_20 (C : am_C) (σ : am_M) (v1 v2 v3 v4 : Int32) : am_go am_X0 C M3 20 [.ref 6, .int v1, .int v2, .int v3, .int v4] [] σ = if v4 ≤ (nI 0) then (some (.inl (some (.int v2)), σ)) else (am_bI (C 11 [.ref 6, .int v3] σ) (fun r1 t1 => am_bI (C 275 [.int r1] t1) (fun r2 t2 => am_nI (C 166 [.int v3] t2) (fun r3 t3 => am_go am_X0 C M3 20 [.ref 6, .int v1, .int (if r2 < v2 then r2 else v2), .int r3, .int (v4 + (-1))] [] t3)))) := by
  refine Eq.trans (g_A dX0_leastMedia_20 rfl rfl) ?_
  refine Eq.trans (g_ifle (t := 49) dX0_leastMedia_22 rfl rfl) ?_
  refine am_ite ?_ ?_
  · refine Eq.trans (g_A dX0_leastMedia_49 rfl rfl) ?_
    exact g_iret dX0_leastMedia_50 rfl
  · refine Eq.trans (g_A dX0_leastMedia_25 rfl rfl) ?_
    refine Eq.trans (g_A dX0_leastMedia_26 rfl rfl) ?_
    refine Eq.trans (g_A dX0_leastMedia_27 rfl rfl) ?_
    refine Eq.trans (g_vI (a := 6) (as := [.int v3]) (rest := [.int v2]) dX0_leastMedia_28 cl157 m11 rfl rfl rfl rfl (Nat.le_of_ble_eq_true rfl) rfl rfl rfl rfl) ?_
    refine am_bI_c (fun r1 t1 => ?_)
    refine Eq.trans (g_sI (as := [.int r1]) (rest := [.int v2]) dX0_leastMedia_31 rfl cl161 m275 rfl rfl rfl rfl (Nat.le_of_ble_eq_true rfl) rfl rfl rfl) ?_
    refine am_bI_c (fun r2 t2 => ?_)
    refine Eq.trans (g_min dX0_leastMedia_34 rfl (Nat.le_of_ble_eq_true rfl) rfl) ?_
    refine Eq.trans (g_isn (k := 2) dX0_leastMedia_37 rfl (Nat.le_of_ble_eq_true rfl) rfl rfl rfl) ?_
    refine Eq.trans (g_A dX0_leastMedia_38 rfl rfl) ?_
    refine Eq.trans (g_sN (as := [.int v3]) (rest := []) dX0_leastMedia_39 rfl cl159 m166 rfl rfl rfl rfl (Nat.le_of_ble_eq_true rfl) rfl rfl) ?_
    refine am_nI_c (fun r3 t3 => ?_)
    refine Eq.trans (g_isn (k := 3) dX0_leastMedia_42 rfl (Nat.le_of_ble_eq_true rfl) rfl rfl rfl) ?_
    refine Eq.trans (g_inc (v := v4 + (-1)) dX0_leastMedia_43 rfl (Nat.le_of_ble_eq_true rfl) rfl rfl rfl rfl) ?_
    refine Eq.trans (g_goto (pc' := 20) dX0_leastMedia_46 rfl) ?_
    rfl
theorem q4_0 (C : am_C) (σ : am_M) (v1 v2 : Int32) : am_go am_X0 C M4 0 [.ref 6, .int v1, .int v2, .null] [] σ = am_bI (C 11 [.ref 6, .int v1] σ) (fun r1 t1 => if r1 = nI 0 then (some (.inl (some (.int (nI 0))), t1)) else (if v2 < (nI 0) then (some (.inl (some (.int (nI 0))), t1)) else (if r1 &&& ((nI 1) <<< (v2 &&& 31)) = nI 0 then (some (.inl (some (.int (nI 1))), t1)) else (some (.inl (some (.int (nI 0))), t1))))) := by
  refine Eq.trans (g_A dX0_isMissing_0 rfl rfl) ?_
  refine Eq.trans (g_A dX0_isMissing_1 rfl rfl) ?_
  refine Eq.trans (g_vI (a := 6) (as := [.int v1]) (rest := []) dX0_isMissing_2 cl157 m11 rfl rfl rfl rfl (Nat.le_of_ble_eq_true rfl) rfl rfl rfl rfl) ?_
  refine am_bI_c (fun r1 t1 => ?_)
  refine Eq.trans (g_isn (k := 3) dX0_isMissing_5 rfl (Nat.le_of_ble_eq_true rfl) rfl rfl rfl) ?_
  refine Eq.trans (g_A dX0_isMissing_6 rfl rfl) ?_
  refine Eq.trans (g_ifeq (t := 26) dX0_isMissing_7 rfl rfl) ?_
  refine am_ite ?_ ?_
  · refine Eq.trans (g_K (v := nI 0) dX0_isMissing_26 rfl rfl) ?_
    exact g_zl dX0_isMissing_27 rfl (Or.inl rfl)
  · refine Eq.trans (g_A dX0_isMissing_10 rfl rfl) ?_
    refine Eq.trans (g_iflt (t := 26) dX0_isMissing_11 rfl rfl) ?_
    refine am_ite ?_ ?_
    · refine Eq.trans (g_K (v := nI 0) dX0_isMissing_26 rfl rfl) ?_
      exact g_zl dX0_isMissing_27 rfl (Or.inl rfl)
    · refine Eq.trans (g_A dX0_isMissing_14 rfl rfl) ?_
      refine Eq.trans (g_K (v := nI 1) dX0_isMissing_15 rfl rfl) ?_
      refine Eq.trans (g_A dX0_isMissing_16 rfl rfl) ?_
      refine Eq.trans (g_ishl dX0_isMissing_17 rfl) ?_
      refine Eq.trans (g_iand dX0_isMissing_18 rfl) ?_
      refine Eq.trans (g_ifne (t := 26) dX0_isMissing_19 rfl rfl) ?_
      refine am_ite ?_ ?_
      · refine Eq.trans (g_K (v := nI 1) dX0_isMissing_22 rfl rfl) ?_
        refine Eq.trans (g_goto (pc' := 27) dX0_isMissing_23 rfl) ?_
        exact g_zl dX0_isMissing_27 rfl (Or.inr rfl)
      · refine Eq.trans (g_K (v := nI 0) dX0_isMissing_26 rfl rfl) ?_
        exact g_zl dX0_isMissing_27 rfl (Or.inl rfl)
theorem q5_0 (C : am_C) (σ : am_M) (v1 : Int32) : am_go am_X0 C M5 0 [.ref 6, .int v1, .null, .null] [] σ = am_go am_X0 C M5 4 [.ref 6, .int v1, .int (nI 0), .int (nI 1)] [] σ := by
  refine Eq.trans (g_K (v := nI 0) dX0_countMissing_0 rfl rfl) ?_
  refine Eq.trans (g_isn (k := 2) dX0_countMissing_1 rfl (Nat.le_of_ble_eq_true rfl) rfl rfl rfl) ?_
  refine Eq.trans (g_K (v := nI 1) dX0_countMissing_2 rfl rfl) ?_
  refine Eq.trans (g_isn (k := 3) dX0_countMissing_3 rfl (Nat.le_of_ble_eq_true rfl) rfl rfl rfl) ?_
  rfl
theorem q5_4 (C : am_C) (σ : am_M) (v1 v2 v3 : Int32) : am_go am_X0 C M5 4 [.ref 6, .int v1, .int v2, .int v3] [] σ = if (nI 149) ≤ v3 then (some (.inl (some (.int v2)), σ)) else (am_bI (C 4 [.ref 6, .int v3, .int v1] σ) (fun r1 t1 => if r1 = nI 0 then (am_go am_X0 C M5 4 [.ref 6, .int v1, .int v2, .int (v3 + nI 1)] [] t1) else (am_go am_X0 C M5 4 [.ref 6, .int v1, .int (v2 + nI 1), .int (v3 + nI 1)] [] t1))) := by
  refine Eq.trans (g_A dX0_countMissing_4 rfl rfl) ?_
  refine Eq.trans (g_K (v := nI 149) dX0_countMissing_5 rfl rfl) ?_
  refine Eq.trans (g_icge (t := 29) dX0_countMissing_8 rfl rfl) ?_
  refine am_ite ?_ ?_
  · refine Eq.trans (g_A dX0_countMissing_29 rfl rfl) ?_
    exact g_iret dX0_countMissing_30 rfl
  · refine Eq.trans (g_A dX0_countMissing_11 rfl rfl) ?_
    refine Eq.trans (g_A dX0_countMissing_12 rfl rfl) ?_
    refine Eq.trans (g_A dX0_countMissing_13 rfl rfl) ?_
    refine Eq.trans (g_vI (a := 6) (as := [.int v3, .int v1]) (rest := []) dX0_countMissing_14 cl162 m4 rfl rfl rfl rfl (Nat.le_of_ble_eq_true rfl) rfl rfl rfl rfl) ?_
    refine am_bI_c (fun r1 t1 => ?_)
    refine Eq.trans (g_ifeq (t := 23) dX0_countMissing_17 rfl rfl) ?_
    refine am_ite ?_ ?_
    · refine Eq.trans (g_inc (v := v3 + nI 1) dX0_countMissing_23 rfl (Nat.le_of_ble_eq_true rfl) rfl rfl rfl rfl) ?_
      refine Eq.trans (g_goto (pc' := 4) dX0_countMissing_26 rfl) ?_
      rfl
    · refine Eq.trans (g_inc (v := v2 + nI 1) dX0_countMissing_20 rfl (Nat.le_of_ble_eq_true rfl) rfl rfl rfl rfl) ?_
      refine Eq.trans (g_inc (v := v3 + nI 1) dX0_countMissing_23 rfl (Nat.le_of_ble_eq_true rfl) rfl rfl rfl rfl) ?_
      refine Eq.trans (g_goto (pc' := 4) dX0_countMissing_26 rfl) ?_
      rfl
theorem q6_0 (C : am_C) (σ : am_M) (v1 : Int32) : am_go am_X0 C M6 0 [.ref 6, .int v1, .null, .null] [] σ = am_go am_X0 C M6 4 [.ref 6, .int v1, .int (nI 0), .int (nI 0)] [] σ := by
  refine Eq.trans (g_K (v := nI 0) dX0_countLive_0 rfl rfl) ?_
  refine Eq.trans (g_isn (k := 2) dX0_countLive_1 rfl (Nat.le_of_ble_eq_true rfl) rfl rfl rfl) ?_
  refine Eq.trans (g_K (v := nI 0) dX0_countLive_2 rfl rfl) ?_
  refine Eq.trans (g_isn (k := 3) dX0_countLive_3 rfl (Nat.le_of_ble_eq_true rfl) rfl rfl rfl) ?_
  rfl
theorem q6_4 (C : am_C) (σ : am_M) (v1 v2 v3 : Int32) : am_go am_X0 C M6 4 [.ref 6, .int v1, .int v2, .int v3] [] σ = am_bI (C 36 [.ref 4, .int v1] σ) (fun r1 t1 => if r1 ≤ v3 then (some (.inl (some (.int v2)), t1)) else (am_bI (C 42 [.ref 4, .int v1, .int v3] t1) (fun r2 t2 => am_bI (C 12 [.ref 6, .int r2] t2) (fun r3 t3 => if r3 = (-1) then (am_go am_X0 C M6 4 [.ref 6, .int v1, .int v2, .int (v3 + nI 1)] [] t3) else (am_go am_X0 C M6 4 [.ref 6, .int v1, .int (v2 + nI 1), .int (v3 + nI 1)] [] t3))))) := by
  refine Eq.trans (g_A dX0_countLive_4 rfl rfl) ?_
  refine Eq.trans (g_A dX0_countLive_5 rfl rfl) ?_
  refine Eq.trans (g_getR dX0_countLive_6 f43 sh6 rfl rfl) ?_
  refine Eq.trans (g_A dX0_countLive_9 rfl rfl) ?_
  refine Eq.trans (g_vI (a := 4) (as := [.int v1]) (rest := [.int v3]) dX0_countLive_10 cl163 m36 rfl rfl rfl rfl (Nat.le_of_ble_eq_true rfl) rfl rfl rfl rfl) ?_
  refine am_bI_c (fun r1 t1 => ?_)
  refine Eq.trans (g_icge (t := 42) dX0_countLive_13 rfl rfl) ?_
  refine am_ite ?_ ?_
  · refine Eq.trans (g_A dX0_countLive_42 rfl rfl) ?_
    exact g_iret dX0_countLive_43 rfl
  · refine Eq.trans (g_A dX0_countLive_16 rfl rfl) ?_
    refine Eq.trans (g_A dX0_countLive_17 rfl rfl) ?_
    refine Eq.trans (g_getR dX0_countLive_18 f43 sh6 rfl rfl) ?_
    refine Eq.trans (g_A dX0_countLive_21 rfl rfl) ?_
    refine Eq.trans (g_A dX0_countLive_22 rfl rfl) ?_
    refine Eq.trans (g_vI (a := 4) (as := [.int v1, .int v3]) (rest := [.ref 6]) dX0_countLive_23 cl164 m42 rfl rfl rfl rfl (Nat.le_of_ble_eq_true rfl) rfl rfl rfl rfl) ?_
    refine am_bI_c (fun r2 t2 => ?_)
    refine Eq.trans (g_vI (a := 6) (as := [.int r2]) (rest := []) dX0_countLive_26 cl165 m12 rfl rfl rfl rfl (Nat.le_of_ble_eq_true rfl) rfl rfl rfl rfl) ?_
    refine am_bI_c (fun r3 t3 => ?_)
    refine Eq.trans (g_K (v := (-1)) dX0_countLive_29 rfl rfl) ?_
    refine Eq.trans (g_iceq (t := 36) dX0_countLive_30 rfl rfl) ?_
    refine am_ite ?_ ?_
    · refine Eq.trans (g_inc (v := v3 + nI 1) dX0_countLive_36 rfl (Nat.le_of_ble_eq_true rfl) rfl rfl rfl rfl) ?_
      refine Eq.trans (g_goto (pc' := 4) dX0_countLive_39 rfl) ?_
      rfl
    · refine Eq.trans (g_inc (v := v2 + nI 1) dX0_countLive_33 rfl (Nat.le_of_ble_eq_true rfl) rfl rfl rfl rfl) ?_
      refine Eq.trans (g_inc (v := v3 + nI 1) dX0_countLive_36 rfl (Nat.le_of_ble_eq_true rfl) rfl rfl rfl rfl) ?_
      refine Eq.trans (g_goto (pc' := 4) dX0_countLive_39 rfl) ?_
      rfl
theorem q7_0 (C : am_C) (σ : am_M) (v1 : Int32) : am_go am_X0 C M7 0 [.ref 6, .int v1, .null, .null, .null, .null] [] σ = am_bV (C 0 [.ref 6, .int v1] σ) (fun t1 => am_go am_X0 C M7 9 [.ref 6, .int v1, .int (nI 0), .int (nI 0), .null, .null] [] t1) := by
  refine Eq.trans (g_A dX0_chooseToMigrate_0 rfl rfl) ?_
  refine Eq.trans (g_A dX0_chooseToMigrate_1 rfl rfl) ?_
  refine Eq.trans (g_vV (a := 6) (as := [.int v1]) (rest := []) dX0_chooseToMigrate_2 cl166 m0 rfl rfl rfl rfl (Nat.le_of_ble_eq_true rfl) rfl rfl rfl rfl) ?_
  refine am_bV_c (fun t1 => ?_)
  refine Eq.trans (g_K (v := nI 0) dX0_chooseToMigrate_5 rfl rfl) ?_
  refine Eq.trans (g_isn (k := 2) dX0_chooseToMigrate_6 rfl (Nat.le_of_ble_eq_true rfl) rfl rfl rfl) ?_
  refine Eq.trans (g_K (v := nI 0) dX0_chooseToMigrate_7 rfl rfl) ?_
  refine Eq.trans (g_isn (k := 3) dX0_chooseToMigrate_8 rfl (Nat.le_of_ble_eq_true rfl) rfl rfl rfl) ?_
  rfl
theorem q7_9 (C : am_C) (σ : am_M) (v1 v2 v3 : Int32) {u4 : Value} (hu4 : (!(u4.category == 2)) = true) {u5 : Value} (hu5 : (!(u5.category == 2)) = true) : am_go am_X0 C M7 9 [.ref 6, .int v1, .int v2, .int v3, u4, u5] [] σ = am_bI (C 36 [.ref 4, .int v1] σ) (fun r1 t1 => if r1 ≤ v3 then (some (.inl (some (.int v2)), t1)) else (am_bI (C 42 [.ref 4, .int v1, .int v3] t1) (fun r2 t2 => am_bI (C 12 [.ref 6, .int r2] t2) (fun r3 t3 => if r3 = (-1) then (am_go am_X0 C M7 9 [.ref 6, .int v1, .int v2, .int (v3 + nI 1), .int r2, .int r3] [] t3) else (am_bI (C 11 [.ref 6, .int r3] t3) (fun r4 t4 => if r4 = nI 0 then (if (nI 150) ≤ v2 then (am_go am_X0 C M7 9 [.ref 6, .int v1, .int v2, .int (v3 + nI 1), .int r2, .int r3] [] t4) else (if am_in v2 150 = true then (am_bV (C 10 [.ref 6, .int r3, .int v1] (am_wI t4 28 (v2 : Int32).toNatClampNeg r2)) (fun t5 => am_go am_X0 C M7 9 [.ref 6, .int v1, .int (v2 + nI 1), .int (v3 + nI 1), .int r2, .int r3] [] t5)) else none)) else (am_go am_X0 C M7 9 [.ref 6, .int v1, .int v2, .int (v3 + nI 1), .int r2, .int r3] [] t4))))))) := by
  refine Eq.trans (g_A dX0_chooseToMigrate_9 rfl rfl) ?_
  refine Eq.trans (g_A dX0_chooseToMigrate_10 rfl rfl) ?_
  refine Eq.trans (g_getR dX0_chooseToMigrate_11 f43 sh6 rfl rfl) ?_
  refine Eq.trans (g_A dX0_chooseToMigrate_14 rfl rfl) ?_
  refine Eq.trans (g_vI (a := 4) (as := [.int v1]) (rest := [.int v3]) dX0_chooseToMigrate_15 cl163 m36 rfl rfl rfl rfl (Nat.le_of_ble_eq_true rfl) rfl rfl rfl rfl) ?_
  refine am_bI_c (fun r1 t1 => ?_)
  refine Eq.trans (g_icge (t := 86) dX0_chooseToMigrate_18 rfl rfl) ?_
  refine am_ite ?_ ?_
  · refine Eq.trans (g_A dX0_chooseToMigrate_86 rfl rfl) ?_
    exact g_iret dX0_chooseToMigrate_87 rfl
  · refine Eq.trans (g_A dX0_chooseToMigrate_21 rfl rfl) ?_
    refine Eq.trans (g_getR dX0_chooseToMigrate_22 f43 sh6 rfl rfl) ?_
    refine Eq.trans (g_A dX0_chooseToMigrate_25 rfl rfl) ?_
    refine Eq.trans (g_A dX0_chooseToMigrate_26 rfl rfl) ?_
    refine Eq.trans (g_vI (a := 4) (as := [.int v1, .int v3]) (rest := []) dX0_chooseToMigrate_27 cl164 m42 rfl rfl rfl rfl (Nat.le_of_ble_eq_true rfl) rfl rfl rfl rfl) ?_
    refine am_bI_c (fun r2 t2 => ?_)
    refine Eq.trans (g_ist (k := 4) dX0_chooseToMigrate_30 (Nat.le_of_ble_eq_true rfl) rfl rfl rfl) ?_
    refine Eq.trans (g_A dX0_chooseToMigrate_32 rfl rfl) ?_
    refine Eq.trans (g_A dX0_chooseToMigrate_33 rfl rfl) ?_
    refine Eq.trans (g_vI (a := 6) (as := [.int r2]) (rest := []) dX0_chooseToMigrate_35 cl165 m12 rfl rfl rfl rfl (Nat.le_of_ble_eq_true rfl) rfl rfl rfl rfl) ?_
    refine am_bI_c (fun r3 t3 => ?_)
    refine Eq.trans (g_ist (k := 5) dX0_chooseToMigrate_38 (Nat.le_of_ble_eq_true rfl) rfl rfl rfl) ?_
    refine Eq.trans (g_A dX0_chooseToMigrate_40 rfl rfl) ?_
    refine Eq.trans (g_K (v := (-1)) dX0_chooseToMigrate_42 rfl rfl) ?_
    refine Eq.trans (g_iceq (t := 80) dX0_chooseToMigrate_43 rfl rfl) ?_
    refine am_ite ?_ ?_
    · refine Eq.trans (g_inc (v := v3 + nI 1) dX0_chooseToMigrate_80 rfl (Nat.le_of_ble_eq_true rfl) rfl rfl rfl rfl) ?_
      refine Eq.trans (g_goto (pc' := 9) dX0_chooseToMigrate_83 rfl) ?_
      rfl
    · refine Eq.trans (g_A dX0_chooseToMigrate_46 rfl rfl) ?_
      refine Eq.trans (g_A dX0_chooseToMigrate_47 rfl rfl) ?_
      refine Eq.trans (g_vI (a := 6) (as := [.int r3]) (rest := []) dX0_chooseToMigrate_49 cl157 m11 rfl rfl rfl rfl (Nat.le_of_ble_eq_true rfl) rfl rfl rfl rfl) ?_
      refine am_bI_c (fun r4 t4 => ?_)
      refine Eq.trans (g_ifne (t := 80) dX0_chooseToMigrate_52 rfl rfl) ?_
      refine am_ite ?_ ?_
      · refine Eq.trans (g_A dX0_chooseToMigrate_55 rfl rfl) ?_
        refine Eq.trans (g_K (v := nI 150) dX0_chooseToMigrate_56 rfl rfl) ?_
        refine Eq.trans (g_icge (t := 80) dX0_chooseToMigrate_59 rfl rfl) ?_
        refine am_ite ?_ ?_
        · refine Eq.trans (g_inc (v := v3 + nI 1) dX0_chooseToMigrate_80 rfl (Nat.le_of_ble_eq_true rfl) rfl rfl rfl rfl) ?_
          refine Eq.trans (g_goto (pc' := 9) dX0_chooseToMigrate_83 rfl) ?_
          rfl
        · refine Eq.trans (g_A dX0_chooseToMigrate_62 rfl rfl) ?_
          refine Eq.trans (g_getR dX0_chooseToMigrate_63 f44 sh6 rfl rfl) ?_
          refine Eq.trans (g_A dX0_chooseToMigrate_66 rfl rfl) ?_
          refine Eq.trans (g_A dX0_chooseToMigrate_67 rfl rfl) ?_
          refine Eq.trans (g_iast dX0_chooseToMigrate_69 sh28 rfl) ?_
          refine am_ite ?_ rfl
          refine Eq.trans (g_inc (v := v2 + nI 1) dX0_chooseToMigrate_70 rfl (Nat.le_of_ble_eq_true rfl) rfl rfl rfl rfl) ?_
          refine Eq.trans (g_A dX0_chooseToMigrate_73 rfl rfl) ?_
          refine Eq.trans (g_A dX0_chooseToMigrate_74 rfl rfl) ?_
          refine Eq.trans (g_A dX0_chooseToMigrate_76 rfl rfl) ?_
          refine Eq.trans (g_vV (a := 6) (as := [.int r3, .int v1]) (rest := []) dX0_chooseToMigrate_77 cl167 m10 rfl rfl rfl rfl (Nat.le_of_ble_eq_true rfl) rfl rfl rfl rfl) ?_
          refine am_bV_c (fun t5 => ?_)
          refine Eq.trans (g_inc (v := v3 + nI 1) dX0_chooseToMigrate_80 rfl (Nat.le_of_ble_eq_true rfl) rfl rfl rfl rfl) ?_
          refine Eq.trans (g_goto (pc' := 9) dX0_chooseToMigrate_83 rfl) ?_
          rfl
      · refine Eq.trans (g_inc (v := v3 + nI 1) dX0_chooseToMigrate_80 rfl (Nat.le_of_ble_eq_true rfl) rfl rfl rfl rfl) ?_
        refine Eq.trans (g_goto (pc' := 9) dX0_chooseToMigrate_83 rfl) ?_
        rfl
theorem q8_0 (C : am_C) (σ : am_M) (v1 : Int32) : am_go am_X0 C M8 0 [.ref 6, .int v1] [] σ = if v1 < (nI 0) then (some (.inl (some (.int (-1))), σ)) else (if (nI 150) ≤ v1 then (some (.inl (some (.int (-1))), σ)) else (if am_in v1 150 = true then (some (.inl (some (.int (σ.1 28 (v1 : Int32).toNatClampNeg))), σ)) else none)) := by
  refine Eq.trans (g_A dX0_chosen_0 rfl rfl) ?_
  refine Eq.trans (g_iflt (t := 20) dX0_chosen_1 rfl rfl) ?_
  refine am_ite ?_ ?_
  · refine Eq.trans (g_K (v := (-1)) dX0_chosen_20 rfl rfl) ?_
    exact g_iret dX0_chosen_21 rfl
  · refine Eq.trans (g_A dX0_chosen_4 rfl rfl) ?_
    refine Eq.trans (g_K (v := nI 150) dX0_chosen_5 rfl rfl) ?_
    refine Eq.trans (g_icge (t := 20) dX0_chosen_8 rfl rfl) ?_
    refine am_ite ?_ ?_
    · refine Eq.trans (g_K (v := (-1)) dX0_chosen_20 rfl rfl) ?_
      exact g_iret dX0_chosen_21 rfl
    · refine Eq.trans (g_A dX0_chosen_11 rfl rfl) ?_
      refine Eq.trans (g_getR dX0_chosen_12 f44 sh6 rfl rfl) ?_
      refine Eq.trans (g_A dX0_chosen_15 rfl rfl) ?_
      refine Eq.trans (g_iald dX0_chosen_16 sh28 rfl) ?_
      refine am_ite ?_ rfl
      refine Eq.trans (g_goto (pc' := 21) dX0_chosen_17 rfl) ?_
      exact g_iret dX0_chosen_21 rfl
theorem q9_0 (C : am_C) (σ : am_M) (v1 : Int32) : am_go am_X0 C M9 0 [.ref 6, .int v1, .null] [] σ = am_go am_X0 C M9 2 [.ref 6, .int v1, .int (nI 0)] [] σ := by
  refine Eq.trans (g_K (v := nI 0) dX0_gatherFrom_0 rfl rfl) ?_
  refine Eq.trans (g_isn (k := 2) dX0_gatherFrom_1 rfl (Nat.le_of_ble_eq_true rfl) rfl rfl rfl) ?_
  rfl
theorem q9_2 (C : am_C) (σ : am_M) (v1 v2 : Int32) : am_go am_X0 C M9 2 [.ref 6, .int v1, .int v2] [] σ = am_bI (C 36 [.ref 4, .int v1] σ) (fun r1 t1 => if r1 ≤ v2 then (some (.inl none, t1)) else (am_bI (C 42 [.ref 4, .int v1, .int v2] t1) (fun r2 t2 => am_bI (C 12 [.ref 6, .int r2] t2) (fun r3 t3 => am_bV (C 10 [.ref 6, .int r3, .int v1] t3) (fun t4 => am_go am_X0 C M9 2 [.ref 6, .int v1, .int (v2 + nI 1)] [] t4))))) := by
  refine Eq.trans (g_A dX0_gatherFrom_2 rfl rfl) ?_
  refine Eq.trans (g_A dX0_gatherFrom_3 rfl rfl) ?_
  refine Eq.trans (g_getR dX0_gatherFrom_4 f43 sh6 rfl rfl) ?_
  refine Eq.trans (g_A dX0_gatherFrom_7 rfl rfl) ?_
  refine Eq.trans (g_vI (a := 4) (as := [.int v1]) (rest := [.int v2]) dX0_gatherFrom_8 cl163 m36 rfl rfl rfl rfl (Nat.le_of_ble_eq_true rfl) rfl rfl rfl rfl) ?_
  refine am_bI_c (fun r1 t1 => ?_)
  refine Eq.trans (g_icge (t := 38) dX0_gatherFrom_11 rfl rfl) ?_
  refine am_ite ?_ ?_
  · exact g_vret dX0_gatherFrom_38 rfl
  · refine Eq.trans (g_A dX0_gatherFrom_14 rfl rfl) ?_
    refine Eq.trans (g_A dX0_gatherFrom_15 rfl rfl) ?_
    refine Eq.trans (g_A dX0_gatherFrom_16 rfl rfl) ?_
    refine Eq.trans (g_getR dX0_gatherFrom_17 f43 sh6 rfl rfl) ?_
    refine Eq.trans (g_A dX0_gatherFrom_20 rfl rfl) ?_
    refine Eq.trans (g_A dX0_gatherFrom_21 rfl rfl) ?_
    refine Eq.trans (g_vI (a := 4) (as := [.int v1, .int v2]) (rest := [.ref 6, .ref 6]) dX0_gatherFrom_22 cl164 m42 rfl rfl rfl rfl (Nat.le_of_ble_eq_true rfl) rfl rfl rfl rfl) ?_
    refine am_bI_c (fun r2 t2 => ?_)
    refine Eq.trans (g_vI (a := 6) (as := [.int r2]) (rest := [.ref 6]) dX0_gatherFrom_25 cl165 m12 rfl rfl rfl rfl (Nat.le_of_ble_eq_true rfl) rfl rfl rfl rfl) ?_
    refine am_bI_c (fun r3 t3 => ?_)
    refine Eq.trans (g_A dX0_gatherFrom_28 rfl rfl) ?_
    refine Eq.trans (g_vV (a := 6) (as := [.int r3, .int v1]) (rest := []) dX0_gatherFrom_29 cl167 m10 rfl rfl rfl rfl (Nat.le_of_ble_eq_true rfl) rfl rfl rfl rfl) ?_
    refine am_bV_c (fun t4 => ?_)
    refine Eq.trans (g_inc (v := v2 + nI 1) dX0_gatherFrom_32 rfl (Nat.le_of_ble_eq_true rfl) rfl rfl rfl rfl) ?_
    refine Eq.trans (g_goto (pc' := 2) dX0_gatherFrom_35 rfl) ?_
    rfl
theorem q10_0 (C : am_C) (σ : am_M) (v1 v2 : Int32) : am_go am_X0 C M10 0 [.ref 6, .int v1, .int v2] [] σ = if v1 < (nI 0) then (some (.inl none, σ)) else (if (nI 149) ≤ v1 then (some (.inl none, σ)) else (if am_in v1 149 = true then (if am_in v1 149 = true then (some (.inl none, am_wI σ 27 (v1 : Int32).toNatClampNeg ((σ.1 27 (v1 : Int32).toNatClampNeg) ||| ((nI 1) <<< (v2 &&& 31))))) else none) else none)) := by
  refine Eq.trans (g_A dX0_cover_0 rfl rfl) ?_
  refine Eq.trans (g_iflt (t := 23) dX0_cover_1 rfl rfl) ?_
  refine am_ite ?_ ?_
  · exact g_vret dX0_cover_23 rfl
  · refine Eq.trans (g_A dX0_cover_4 rfl rfl) ?_
    refine Eq.trans (g_K (v := nI 149) dX0_cover_5 rfl rfl) ?_
    refine Eq.trans (g_icge (t := 23) dX0_cover_8 rfl rfl) ?_
    refine am_ite ?_ ?_
    · exact g_vret dX0_cover_23 rfl
    · refine Eq.trans (g_A dX0_cover_11 rfl rfl) ?_
      refine Eq.trans (g_getR dX0_cover_12 f42 sh6 rfl rfl) ?_
      refine Eq.trans (g_A dX0_cover_15 rfl rfl) ?_
      refine Eq.trans (g_B dX0_cover_16 rfl rfl rfl) ?_
      refine Eq.trans (g_iald dX0_cover_17 sh27 rfl) ?_
      refine am_ite ?_ rfl
      refine Eq.trans (g_K (v := nI 1) dX0_cover_18 rfl rfl) ?_
      refine Eq.trans (g_A dX0_cover_19 rfl rfl) ?_
      refine Eq.trans (g_ishl dX0_cover_20 rfl) ?_
      refine Eq.trans (g_ior dX0_cover_21 rfl) ?_
      refine Eq.trans (g_iast dX0_cover_22 sh27 rfl) ?_
      refine am_ite ?_ rfl
      exact g_vret dX0_cover_23 rfl
theorem q11_0 (C : am_C) (σ : am_M) (v1 : Int32) : am_go am_X0 C M11 0 [.ref 6, .int v1] [] σ = if v1 < (nI 0) then (some (.inl (some (.int (nI 0))), σ)) else (if (nI 149) ≤ v1 then (some (.inl (some (.int (nI 0))), σ)) else (if am_in v1 149 = true then (some (.inl (some (.int (σ.1 27 (v1 : Int32).toNatClampNeg))), σ)) else none)) := by
  refine Eq.trans (g_A dX0_maskOf_0 rfl rfl) ?_
  refine Eq.trans (g_iflt (t := 20) dX0_maskOf_1 rfl rfl) ?_
  refine am_ite ?_ ?_
  · refine Eq.trans (g_K (v := nI 0) dX0_maskOf_20 rfl rfl) ?_
    exact g_iret dX0_maskOf_21 rfl
  · refine Eq.trans (g_A dX0_maskOf_4 rfl rfl) ?_
    refine Eq.trans (g_K (v := nI 149) dX0_maskOf_5 rfl rfl) ?_
    refine Eq.trans (g_icge (t := 20) dX0_maskOf_8 rfl rfl) ?_
    refine am_ite ?_ ?_
    · refine Eq.trans (g_K (v := nI 0) dX0_maskOf_20 rfl rfl) ?_
      exact g_iret dX0_maskOf_21 rfl
    · refine Eq.trans (g_A dX0_maskOf_11 rfl rfl) ?_
      refine Eq.trans (g_getR dX0_maskOf_12 f42 sh6 rfl rfl) ?_
      refine Eq.trans (g_A dX0_maskOf_15 rfl rfl) ?_
      refine Eq.trans (g_iald dX0_maskOf_16 sh27 rfl) ?_
      refine am_ite ?_ rfl
      refine Eq.trans (g_goto (pc' := 21) dX0_maskOf_17 rfl) ?_
      exact g_iret dX0_maskOf_21 rfl
theorem q12_0 (C : am_C) (σ : am_M) (v1 : Int32) : am_go am_X0 C M12 0 [.ref 6, .int v1, .null, .null, .null] [] σ = am_bI (C 45 [.ref 4, .int v1] σ) (fun r1 t1 => am_bI (C 43 [.ref 4, .int v1] t1) (fun r2 t2 => if r2 = nI 1 then (am_bI (C 44 [.ref 4, .int v1] t2) (fun r7 t7 => am_bI (C 62 [.ref 2, .int r7] t7) (fun r8 t8 => if r8 = (-1) then (am_go am_X0 C M12 61 [.ref 6, .int v1, .int r1, .int r8, .null] [] t8) else (am_nI (C 164 [.int r8] t8) (fun r9 t9 => am_bI (C 77 [.ref 3, .int r9] t9) (fun r10 t10 => if r10 = r1 then (am_go am_X0 C M12 62 [.ref 6, .int v1, .int r1, .int r8, .null] [.int (nI 1)] t10) else (am_go am_X0 C M12 61 [.ref 6, .int v1, .int r1, .int r8, .null] [] t10))))))) else (am_bI (C 44 [.ref 4, .int v1] t2) (fun r3 t3 => am_bI (C 28 [.ref 1, .int r3] t3) (fun r4 t4 => if r4 ≤ (nI 0) then (some (.inl (some (.int (-1))), t4)) else (am_nI (C 166 [.int r4] t4) (fun r5 t5 => am_bI (C 77 [.ref 3, .int r5] t5) (fun r6 t6 => if r6 = r1 then (some (.inl (some (.int r4)), t6)) else (some (.inl (some (.int (-1))), t6)))))))))) := by
  refine Eq.trans (g_A dX0_spotOf_0 rfl rfl) ?_
  refine Eq.trans (g_getR dX0_spotOf_1 f43 sh6 rfl rfl) ?_
  refine Eq.trans (g_A dX0_spotOf_4 rfl rfl) ?_
  refine Eq.trans (g_vI (a := 4) (as := [.int v1]) (rest := []) dX0_spotOf_5 cl168 m45 rfl rfl rfl rfl (Nat.le_of_ble_eq_true rfl) rfl rfl rfl rfl) ?_
  refine am_bI_c (fun r1 t1 => ?_)
  refine Eq.trans (g_isn (k := 2) dX0_spotOf_8 rfl (Nat.le_of_ble_eq_true rfl) rfl rfl rfl) ?_
  refine Eq.trans (g_A dX0_spotOf_9 rfl rfl) ?_
  refine Eq.trans (g_getR dX0_spotOf_10 f43 sh6 rfl rfl) ?_
  refine Eq.trans (g_A dX0_spotOf_13 rfl rfl) ?_
  refine Eq.trans (g_vI (a := 4) (as := [.int v1]) (rest := []) dX0_spotOf_14 cl169 m43 rfl rfl rfl rfl (Nat.le_of_ble_eq_true rfl) rfl rfl rfl rfl) ?_
  refine am_bI_c (fun r2 t2 => ?_)
  refine Eq.trans (g_K (v := nI 1) dX0_spotOf_17 rfl rfl) ?_
  refine Eq.trans (g_icne (t := 78) dX0_spotOf_18 rfl rfl) ?_
  refine am_ite ?_ ?_
  · refine Eq.trans (g_A dX0_spotOf_21 rfl rfl) ?_
    refine Eq.trans (g_getR dX0_spotOf_22 f45 sh6 rfl rfl) ?_
    refine Eq.trans (g_A dX0_spotOf_25 rfl rfl) ?_
    refine Eq.trans (g_getR dX0_spotOf_26 f43 sh6 rfl rfl) ?_
    refine Eq.trans (g_A dX0_spotOf_29 rfl rfl) ?_
    refine Eq.trans (g_vI (a := 4) (as := [.int v1]) (rest := [.ref 2]) dX0_spotOf_30 cl170 m44 rfl rfl rfl rfl (Nat.le_of_ble_eq_true rfl) rfl rfl rfl rfl) ?_
    refine am_bI_c (fun r7 t7 => ?_)
    refine Eq.trans (g_vI (a := 2) (as := [.int r7]) (rest := []) dX0_spotOf_33 cl171 m62 rfl rfl rfl rfl (Nat.le_of_ble_eq_true rfl) rfl rfl rfl rfl) ?_
    refine am_bI_c (fun r8 t8 => ?_)
    refine Eq.trans (g_isn (k := 3) dX0_spotOf_36 rfl (Nat.le_of_ble_eq_true rfl) rfl rfl rfl) ?_
    refine Eq.trans (g_A dX0_spotOf_37 rfl rfl) ?_
    refine Eq.trans (g_K (v := (-1)) dX0_spotOf_38 rfl rfl) ?_
    refine Eq.trans (g_iceq (t := 61) dX0_spotOf_39 rfl rfl) ?_
    refine am_ite ?_ ?_
    · rfl
    · refine Eq.trans (g_A dX0_spotOf_42 rfl rfl) ?_
      refine Eq.trans (g_getR dX0_spotOf_43 f46 sh6 rfl rfl) ?_
      refine Eq.trans (g_A dX0_spotOf_46 rfl rfl) ?_
      refine Eq.trans (g_sN (as := [.int r8]) (rest := [.ref 3]) dX0_spotOf_47 rfl cl158 m164 rfl rfl rfl rfl (Nat.le_of_ble_eq_true rfl) rfl rfl) ?_
      refine am_nI_c (fun r9 t9 => ?_)
      refine Eq.trans (g_vI (a := 3) (as := [.int r9]) (rest := []) dX0_spotOf_50 cl172 m77 rfl rfl rfl rfl (Nat.le_of_ble_eq_true rfl) rfl rfl rfl rfl) ?_
      refine am_bI_c (fun r10 t10 => ?_)
      refine Eq.trans (g_A dX0_spotOf_53 rfl rfl) ?_
      refine Eq.trans (g_icne (t := 61) dX0_spotOf_54 rfl rfl) ?_
      refine am_ite ?_ ?_
      · refine Eq.trans (g_K (v := nI 1) dX0_spotOf_57 rfl rfl) ?_
        refine Eq.trans (g_goto (pc' := 62) dX0_spotOf_58 rfl) ?_
        rfl
      · rfl
  · refine Eq.trans (g_A dX0_spotOf_78 rfl rfl) ?_
    refine Eq.trans (g_getR dX0_spotOf_79 f47 sh6 rfl rfl) ?_
    refine Eq.trans (g_A dX0_spotOf_82 rfl rfl) ?_
    refine Eq.trans (g_getR dX0_spotOf_83 f43 sh6 rfl rfl) ?_
    refine Eq.trans (g_A dX0_spotOf_86 rfl rfl) ?_
    refine Eq.trans (g_vI (a := 4) (as := [.int v1]) (rest := [.ref 1]) dX0_spotOf_87 cl170 m44 rfl rfl rfl rfl (Nat.le_of_ble_eq_true rfl) rfl rfl rfl rfl) ?_
    refine am_bI_c (fun r3 t3 => ?_)
    refine Eq.trans (g_vI (a := 1) (as := [.int r3]) (rest := []) dX0_spotOf_90 cl173 m28 rfl rfl rfl rfl (Nat.le_of_ble_eq_true rfl) rfl rfl rfl rfl) ?_
    refine am_bI_c (fun r4 t4 => ?_)
    refine Eq.trans (g_isn (k := 3) dX0_spotOf_93 rfl (Nat.le_of_ble_eq_true rfl) rfl rfl rfl) ?_
    refine Eq.trans (g_A dX0_spotOf_94 rfl rfl) ?_
    refine Eq.trans (g_ifle (t := 117) dX0_spotOf_95 rfl rfl) ?_
    refine am_ite ?_ ?_
    · refine Eq.trans (g_K (v := (-1)) dX0_spotOf_117 rfl rfl) ?_
      exact g_iret dX0_spotOf_118 rfl
    · refine Eq.trans (g_A dX0_spotOf_98 rfl rfl) ?_
      refine Eq.trans (g_getR dX0_spotOf_99 f46 sh6 rfl rfl) ?_
      refine Eq.trans (g_A dX0_spotOf_102 rfl rfl) ?_
      refine Eq.trans (g_sN (as := [.int r4]) (rest := [.ref 3]) dX0_spotOf_103 rfl cl159 m166 rfl rfl rfl rfl (Nat.le_of_ble_eq_true rfl) rfl rfl) ?_
      refine am_nI_c (fun r5 t5 => ?_)
      refine Eq.trans (g_vI (a := 3) (as := [.int r5]) (rest := []) dX0_spotOf_106 cl172 m77 rfl rfl rfl rfl (Nat.le_of_ble_eq_true rfl) rfl rfl rfl rfl) ?_
      refine am_bI_c (fun r6 t6 => ?_)
      refine Eq.trans (g_A dX0_spotOf_109 rfl rfl) ?_
      refine Eq.trans (g_icne (t := 117) dX0_spotOf_110 rfl rfl) ?_
      refine am_ite ?_ ?_
      · refine Eq.trans (g_A dX0_spotOf_113 rfl rfl) ?_
        refine Eq.trans (g_goto (pc' := 118) dX0_spotOf_114 rfl) ?_
        exact g_iret dX0_spotOf_118 rfl
      · refine Eq.trans (g_K (v := (-1)) dX0_spotOf_117 rfl rfl) ?_
        exact g_iret dX0_spotOf_118 rfl
theorem q12_61 (C : am_C) (σ : am_M) (v1 v2 v3 : Int32) : am_go am_X0 C M12 61 [.ref 6, .int v1, .int v2, .int v3, .null] [] σ = am_go am_X0 C M12 62 [.ref 6, .int v1, .int v2, .int v3, .null] [.int (nI 0)] σ := by
  refine Eq.trans (g_K (v := nI 0) dX0_spotOf_61 rfl rfl) ?_
  rfl
theorem q12_62 (C : am_C) (σ : am_M) (v1 v2 v3 s0 : Int32) : am_go am_X0 C M12 62 [.ref 6, .int v1, .int v2, .int v3, .null] [.int s0] σ = if s0 = nI 0 then (some (.inl (some (.int (-1))), σ)) else (some (.inl (some (.int ((nI 85) + v3))), σ)) := by
  refine Eq.trans (g_ist (k := 4) dX0_spotOf_62 (Nat.le_of_ble_eq_true rfl) rfl rfl rfl) ?_
  refine Eq.trans (g_A dX0_spotOf_64 rfl rfl) ?_
  refine Eq.trans (g_ifeq (t := 76) dX0_spotOf_66 rfl rfl) ?_
  refine am_ite ?_ ?_
  · refine Eq.trans (g_K (v := (-1)) dX0_spotOf_76 rfl rfl) ?_
    exact g_iret dX0_spotOf_77 rfl
  · refine Eq.trans (g_K (v := nI 85) dX0_spotOf_69 rfl rfl) ?_
    refine Eq.trans (g_A dX0_spotOf_71 rfl rfl) ?_
    refine Eq.trans (g_iadd dX0_spotOf_72 rfl) ?_
    refine Eq.trans (g_goto (pc' := 77) dX0_spotOf_73 rfl) ?_
    exact g_iret dX0_spotOf_77 rfl
theorem q13_0 (C : am_C) (σ : am_M) (v1 : Int32) : am_go am_X0 C M13 0 [.ref 7, .int v1, .null] [] σ = am_bV (C 64 [.ref 5] (am_wI σ 7 4 (nI 1))) (fun t1 => am_go am_X0 C M13 14 [.ref 7, .int v1, .int (nI 0)] [] t1) := by
  refine Eq.trans (g_A dX1_make_0 rfl rfl) ?_
  refine Eq.trans (g_K (v := nI 1) dX1_make_1 rfl rfl) ?_
  refine Eq.trans (g_put dX1_make_2 f48 sh7 rfl rfl rfl) ?_
  refine Eq.trans (g_A dX1_make_5 rfl rfl) ?_
  refine Eq.trans (g_getR dX1_make_6 f49 sh7 rfl rfl) ?_
  refine Eq.trans (g_vV (a := 5) (as := []) (rest := []) dX1_make_9 cl174 m64 rfl rfl rfl rfl (Nat.le_of_ble_eq_true rfl) rfl rfl rfl rfl) ?_
  refine am_bV_c (fun t1 => ?_)
  refine Eq.trans (g_K (v := nI 0) dX1_make_12 rfl rfl) ?_
  refine Eq.trans (g_isn (k := 2) dX1_make_13 rfl (Nat.le_of_ble_eq_true rfl) rfl rfl rfl) ?_
  rfl
theorem q13_14 (C : am_C) (σ : am_M) (v1 v2 : Int32) : am_go am_X0 C M13 14 [.ref 7, .int v1, .int v2] [] σ = if (nI 64) ≤ v2 then (am_bV (C 69 [.ref 5] σ) (fun t1 => am_go am_X0 C M13 72 [.ref 7, .int v1, .int (nI 84)] [] t1)) else (am_bI (C 82 [.ref 3, .int v2] σ) (fun r2 t2 => if r2 = nI 0 then (if v2 = v1 then (am_go am_X0 C M13 36 [.ref 7, .int v1, .int v2] [] t2) else (am_go am_X0 C M13 14 [.ref 7, .int v1, .int (v2 + nI 1)] [] t2)) else (am_go am_X0 C M13 36 [.ref 7, .int v1, .int v2] [] t2))) := by
  refine Eq.trans (g_A dX1_make_14 rfl rfl) ?_
  refine Eq.trans (g_K (v := nI 64) dX1_make_15 rfl rfl) ?_
  refine Eq.trans (g_icge (t := 62) dX1_make_17 rfl rfl) ?_
  refine am_ite ?_ ?_
  · refine Eq.trans (g_A dX1_make_62 rfl rfl) ?_
    refine Eq.trans (g_getR dX1_make_63 f49 sh7 rfl rfl) ?_
    refine Eq.trans (g_vV (a := 5) (as := []) (rest := []) dX1_make_66 cl178 m69 rfl rfl rfl rfl (Nat.le_of_ble_eq_true rfl) rfl rfl rfl rfl) ?_
    refine am_bV_c (fun t1 => ?_)
    refine Eq.trans (g_K (v := nI 84) dX1_make_69 rfl rfl) ?_
    refine Eq.trans (g_isn (k := 2) dX1_make_71 rfl (Nat.le_of_ble_eq_true rfl) rfl rfl rfl) ?_
    rfl
  · refine Eq.trans (g_A dX1_make_20 rfl rfl) ?_
    refine Eq.trans (g_getR dX1_make_21 f50 sh7 rfl rfl) ?_
    refine Eq.trans (g_A dX1_make_24 rfl rfl) ?_
    refine Eq.trans (g_vI (a := 3) (as := [.int v2]) (rest := []) dX1_make_25 cl175 m82 rfl rfl rfl rfl (Nat.le_of_ble_eq_true rfl) rfl rfl rfl rfl) ?_
    refine am_bI_c (fun r2 t2 => ?_)
    refine Eq.trans (g_ifne (t := 36) dX1_make_28 rfl rfl) ?_
    refine am_ite ?_ ?_
    · refine Eq.trans (g_A dX1_make_31 rfl rfl) ?_
      refine Eq.trans (g_A dX1_make_32 rfl rfl) ?_
      refine Eq.trans (g_icne (t := 56) dX1_make_33 rfl rfl) ?_
      refine am_ite ?_ ?_
      · rfl
      · refine Eq.trans (g_inc (v := v2 + nI 1) dX1_make_56 rfl (Nat.le_of_ble_eq_true rfl) rfl rfl rfl rfl) ?_
        refine Eq.trans (g_goto (pc' := 14) dX1_make_59 rfl) ?_
        rfl
    · rfl
theorem q13_36 (C : am_C) (σ : am_M) (v1 v2 : Int32) : am_go am_X0 C M13 36 [.ref 7, .int v1, .int v2] [] σ = am_bI (C 79 [.ref 3, .int v2] (am_wI σ 7 4 (nI 0))) (fun r1 t1 => am_bV (C 65 [.ref 5, .int r1] t1) (fun t2 => am_go am_X0 C M13 14 [.ref 7, .int v1, .int (v2 + nI 1)] [] t2)) := by
  refine Eq.trans (g_A dX1_make_36 rfl rfl) ?_
  refine Eq.trans (g_K (v := nI 0) dX1_make_37 rfl rfl) ?_
  refine Eq.trans (g_put dX1_make_38 f48 sh7 rfl rfl rfl) ?_
  refine Eq.trans (g_A dX1_make_41 rfl rfl) ?_
  refine Eq.trans (g_getR dX1_make_42 f49 sh7 rfl rfl) ?_
  refine Eq.trans (g_A dX1_make_45 rfl rfl) ?_
  refine Eq.trans (g_getR dX1_make_46 f50 sh7 rfl rfl) ?_
  refine Eq.trans (g_A dX1_make_49 rfl rfl) ?_
  refine Eq.trans (g_vI (a := 3) (as := [.int v2]) (rest := [.ref 5]) dX1_make_50 cl176 m79 rfl rfl rfl rfl (Nat.le_of_ble_eq_true rfl) rfl rfl rfl rfl) ?_
  refine am_bI_c (fun r1 t1 => ?_)
  refine Eq.trans (g_vV (a := 5) (as := [.int r1]) (rest := []) dX1_make_53 cl177 m65 rfl rfl rfl rfl (Nat.le_of_ble_eq_true rfl) rfl rfl rfl rfl) ?_
  refine am_bV_c (fun t2 => ?_)
  refine Eq.trans (g_inc (v := v2 + nI 1) dX1_make_56 rfl (Nat.le_of_ble_eq_true rfl) rfl rfl rfl rfl) ?_
  refine Eq.trans (g_goto (pc' := 14) dX1_make_59 rfl) ?_
  rfl
theorem q13_72 (C : am_C) (σ : am_M) (v1 v2 : Int32) : am_go am_X0 C M13 72 [.ref 7, .int v1, .int v2] [] σ = if v2 < (nI 0) then (some (.inl none, σ)) else (if v2 = nI 0 then (am_go am_X0 C M13 103 [.ref 7, .int v1, .int v2] [.int v2, .ref 30] σ) else (am_bI (C 77 [.ref 3, .int v2] σ) (fun r1 t1 => am_bI (C 67 [.ref 5, .int r1] t1) (fun r2 t2 => if r2 ≤ (nI 0) then (am_go am_X0 C M13 108 [.ref 7, .int v1, .int v2] [.int (nI 0), .int v2, .ref 30] t2) else (am_go am_X0 C M13 103 [.ref 7, .int v1, .int v2] [.int v2, .ref 30] t2))))) := by
  refine Eq.trans (g_A dX1_make_72 rfl rfl) ?_
  refine Eq.trans (g_iflt (t := 138) dX1_make_73 rfl rfl) ?_
  refine am_ite ?_ ?_
  · exact g_vret dX1_make_138 rfl
  · refine Eq.trans (g_A dX1_make_76 rfl rfl) ?_
    refine Eq.trans (g_getR dX1_make_77 f51 sh7 rfl rfl) ?_
    refine Eq.trans (g_A dX1_make_80 rfl rfl) ?_
    refine Eq.trans (g_A dX1_make_81 rfl rfl) ?_
    refine Eq.trans (g_ifeq (t := 103) dX1_make_82 rfl rfl) ?_
    refine am_ite ?_ ?_
    · rfl
    · refine Eq.trans (g_A dX1_make_85 rfl rfl) ?_
      refine Eq.trans (g_getR dX1_make_86 f49 sh7 rfl rfl) ?_
      refine Eq.trans (g_A dX1_make_89 rfl rfl) ?_
      refine Eq.trans (g_getR dX1_make_90 f50 sh7 rfl rfl) ?_
      refine Eq.trans (g_A dX1_make_93 rfl rfl) ?_
      refine Eq.trans (g_vI (a := 3) (as := [.int v2]) (rest := [.ref 5, .int v2, .ref 30]) dX1_make_94 cl179 m77 rfl rfl rfl rfl (Nat.le_of_ble_eq_true rfl) rfl rfl rfl rfl) ?_
      refine am_bI_c (fun r1 t1 => ?_)
      refine Eq.trans (g_vI (a := 5) (as := [.int r1]) (rest := [.int v2, .ref 30]) dX1_make_97 cl180 m67 rfl rfl rfl rfl (Nat.le_of_ble_eq_true rfl) rfl rfl rfl rfl) ?_
      refine am_bI_c (fun r2 t2 => ?_)
      refine Eq.trans (g_ifle (t := 107) dX1_make_100 rfl rfl) ?_
      refine am_ite ?_ ?_
      · refine Eq.trans (g_K (v := nI 0) dX1_make_107 rfl rfl) ?_
        rfl
      · rfl
theorem q13_103 (C : am_C) (σ : am_M) (v1 v2 s0 : Int32) : am_go am_X0 C M13 103 [.ref 7, .int v1, .int v2] [.int s0, .ref 30] σ = am_go am_X0 C M13 108 [.ref 7, .int v1, .int v2] [.int (nI 1), .int s0, .ref 30] σ := by
  refine Eq.trans (g_K (v := nI 1) dX1_make_103 rfl rfl) ?_
  refine Eq.trans (g_goto (pc' := 108) dX1_make_104 rfl) ?_
  rfl
theorem q13_108 (C : am_C) (σ : am_M) (v1 v2 s0 s1 : Int32) : am_go am_X0 C M13 108 [.ref 7, .int v1, .int v2] [.int s0, .int s1, .ref 30] σ = if am_in s1 85 = true then (if v2 = nI 0 then (am_go am_X0 C M13 126 [.ref 7, .int v1, .int v2] [.int v2, .ref 29] (am_wI σ 30 (s1 : Int32).toNatClampNeg (vp_nar .boolean s0))) else (am_bI (C 18 [.ref 7, .int v2] (am_wI σ 30 (s1 : Int32).toNatClampNeg (vp_nar .boolean s0))) (fun r1 t1 => if r1 = nI 0 then (am_go am_X0 C M13 131 [.ref 7, .int v1, .int v2] [.int (nI 0), .int v2, .ref 29] t1) else (am_go am_X0 C M13 126 [.ref 7, .int v1, .int v2] [.int v2, .ref 29] t1)))) else none := by
  refine Eq.trans (g_bast dX1_make_108 sh30 rfl) ?_
  refine am_ite ?_ rfl
  refine Eq.trans (g_A dX1_make_109 rfl rfl) ?_
  refine Eq.trans (g_getR dX1_make_110 f52 sh7 rfl rfl) ?_
  refine Eq.trans (g_A dX1_make_113 rfl rfl) ?_
  refine Eq.trans (g_A dX1_make_114 rfl rfl) ?_
  refine Eq.trans (g_ifeq (t := 126) dX1_make_115 rfl rfl) ?_
  refine am_ite ?_ ?_
  · rfl
  · refine Eq.trans (g_A dX1_make_118 rfl rfl) ?_
    refine Eq.trans (g_A dX1_make_119 rfl rfl) ?_
    refine Eq.trans (g_vI (a := 7) (as := [.int v2]) (rest := [.int v2, .ref 29]) dX1_make_120 cl181 m18 rfl rfl rfl rfl (Nat.le_of_ble_eq_true rfl) rfl rfl rfl rfl) ?_
    refine am_bI_c (fun r1 t1 => ?_)
    refine Eq.trans (g_ifeq (t := 130) dX1_make_123 rfl rfl) ?_
    refine am_ite ?_ ?_
    · refine Eq.trans (g_K (v := nI 0) dX1_make_130 rfl rfl) ?_
      rfl
    · rfl
theorem q13_126 (C : am_C) (σ : am_M) (v1 v2 s0 : Int32) : am_go am_X0 C M13 126 [.ref 7, .int v1, .int v2] [.int s0, .ref 29] σ = am_go am_X0 C M13 131 [.ref 7, .int v1, .int v2] [.int (nI 1), .int s0, .ref 29] σ := by
  refine Eq.trans (g_K (v := nI 1) dX1_make_126 rfl rfl) ?_
  refine Eq.trans (g_goto (pc' := 131) dX1_make_127 rfl) ?_
  rfl
theorem q13_131 (C : am_C) (σ : am_M) (v1 v2 s0 s1 : Int32) : am_go am_X0 C M13 131 [.ref 7, .int v1, .int v2] [.int s0, .int s1, .ref 29] σ = if am_in s1 85 = true then (am_go am_X0 C M13 72 [.ref 7, .int v1, .int (v2 + (-1))] [] (am_wI σ 29 (s1 : Int32).toNatClampNeg (vp_nar .boolean s0))) else none := by
  refine Eq.trans (g_bast dX1_make_131 sh29 rfl) ?_
  refine am_ite ?_ rfl
  refine Eq.trans (g_inc (v := v2 + (-1)) dX1_make_132 rfl (Nat.le_of_ble_eq_true rfl) rfl rfl rfl rfl) ?_
  refine Eq.trans (g_goto (pc' := 72) dX1_make_135 rfl) ?_
  rfl
theorem q14_0 (C : am_C) (σ : am_M) : am_go am_X0 C M14 0 [.ref 7] [] σ = if σ.1 7 4 = nI 0 ∨ σ.1 7 4 = nI 1 then some (.inl (some (.int (σ.1 7 4))), σ) else none := by
  refine Eq.trans (g_A dX1_isIdle_0 rfl rfl) ?_
  refine Eq.trans (g_getI dX1_isIdle_1 f48 sh7 rfl rfl) ?_
  exact g_zret dX1_isIdle_4 rfl
theorem q15_0 (C : am_C) (σ : am_M) (v1 : Int32) : am_go am_X0 C M15 0 [.ref 7, .int v1] [] σ = am_nI (C 162 [.int v1] σ) (fun r1 t1 => if r1 = nI 0 then (some (.inl (some (.int (nI 0))), t1)) else (if am_in v1 85 = true then (if t1.1 29 (v1 : Int32).toNatClampNeg = nI 0 then (some (.inl (some (.int (nI 0))), t1)) else (some (.inl (some (.int (nI 1))), t1))) else none)) := by
  refine Eq.trans (g_A dX1_keepsNode_0 rfl rfl) ?_
  refine Eq.trans (g_sN (as := [.int v1]) (rest := []) dX1_keepsNode_1 rfl cl182 m162 rfl rfl rfl rfl (Nat.le_of_ble_eq_true rfl) rfl rfl) ?_
  refine am_nI_c (fun r1 t1 => ?_)
  refine Eq.trans (g_ifeq (t := 20) dX1_keepsNode_4 rfl rfl) ?_
  refine am_ite ?_ ?_
  · refine Eq.trans (g_K (v := nI 0) dX1_keepsNode_20 rfl rfl) ?_
    exact g_zl dX1_keepsNode_21 rfl (Or.inl rfl)
  · refine Eq.trans (g_A dX1_keepsNode_7 rfl rfl) ?_
    refine Eq.trans (g_getR dX1_keepsNode_8 f52 sh7 rfl rfl) ?_
    refine Eq.trans (g_A dX1_keepsNode_11 rfl rfl) ?_
    refine Eq.trans (g_bald dX1_keepsNode_12 sh29 rfl) ?_
    refine am_ite ?_ rfl
    refine Eq.trans (g_ifeq (t := 20) dX1_keepsNode_13 rfl rfl) ?_
    refine am_ite ?_ ?_
    · refine Eq.trans (g_K (v := nI 0) dX1_keepsNode_20 rfl rfl) ?_
      exact g_zl dX1_keepsNode_21 rfl (Or.inl rfl)
    · refine Eq.trans (g_K (v := nI 1) dX1_keepsNode_16 rfl rfl) ?_
      refine Eq.trans (g_goto (pc' := 21) dX1_keepsNode_17 rfl) ?_
      exact g_zl dX1_keepsNode_21 rfl (Or.inr rfl)
theorem q16_0 (C : am_C) (σ : am_M) (v1 : Int32) : am_go am_X0 C M16 0 [.ref 7, .int v1] [] σ = if σ.1 7 4 = nI 0 then (am_nI (C 162 [.int v1] σ) (fun r1 t1 => if r1 = nI 0 then (some (.inl (some (.int (nI 0))), t1)) else (if am_in v1 85 = true then (if t1.1 30 (v1 : Int32).toNatClampNeg = nI 0 then (some (.inl (some (.int (nI 0))), t1)) else (if am_in v1 85 = true then (if t1.1 29 (v1 : Int32).toNatClampNeg = nI 0 then (some (.inl (some (.int (nI 0))), t1)) else (some (.inl (some (.int (nI 1))), t1))) else none)) else none))) else (some (.inl (some (.int (nI 0))), σ)) := by
  refine Eq.trans (g_A dX1_givesNewKey_0 rfl rfl) ?_
  refine Eq.trans (g_getI dX1_givesNewKey_1 f48 sh7 rfl rfl) ?_
  refine Eq.trans (g_ifne (t := 36) dX1_givesNewKey_4 rfl rfl) ?_
  refine am_ite ?_ ?_
  · refine Eq.trans (g_A dX1_givesNewKey_7 rfl rfl) ?_
    refine Eq.trans (g_sN (as := [.int v1]) (rest := []) dX1_givesNewKey_8 rfl cl182 m162 rfl rfl rfl rfl (Nat.le_of_ble_eq_true rfl) rfl rfl) ?_
    refine am_nI_c (fun r1 t1 => ?_)
    refine Eq.trans (g_ifeq (t := 36) dX1_givesNewKey_11 rfl rfl) ?_
    refine am_ite ?_ ?_
    · refine Eq.trans (g_K (v := nI 0) dX1_givesNewKey_36 rfl rfl) ?_
      exact g_zl dX1_givesNewKey_37 rfl (Or.inl rfl)
    · refine Eq.trans (g_A dX1_givesNewKey_14 rfl rfl) ?_
      refine Eq.trans (g_getR dX1_givesNewKey_15 f51 sh7 rfl rfl) ?_
      refine Eq.trans (g_A dX1_givesNewKey_18 rfl rfl) ?_
      refine Eq.trans (g_bald dX1_givesNewKey_19 sh30 rfl) ?_
      refine am_ite ?_ rfl
      refine Eq.trans (g_ifeq (t := 36) dX1_givesNewKey_20 rfl rfl) ?_
      refine am_ite ?_ ?_
      · refine Eq.trans (g_K (v := nI 0) dX1_givesNewKey_36 rfl rfl) ?_
        exact g_zl dX1_givesNewKey_37 rfl (Or.inl rfl)
      · refine Eq.trans (g_A dX1_givesNewKey_23 rfl rfl) ?_
        refine Eq.trans (g_getR dX1_givesNewKey_24 f52 sh7 rfl rfl) ?_
        refine Eq.trans (g_A dX1_givesNewKey_27 rfl rfl) ?_
        refine Eq.trans (g_bald dX1_givesNewKey_28 sh29 rfl) ?_
        refine am_ite ?_ rfl
        refine Eq.trans (g_ifeq (t := 36) dX1_givesNewKey_29 rfl rfl) ?_
        refine am_ite ?_ ?_
        · refine Eq.trans (g_K (v := nI 0) dX1_givesNewKey_36 rfl rfl) ?_
          exact g_zl dX1_givesNewKey_37 rfl (Or.inl rfl)
        · refine Eq.trans (g_K (v := nI 1) dX1_givesNewKey_32 rfl rfl) ?_
          refine Eq.trans (g_goto (pc' := 37) dX1_givesNewKey_33 rfl) ?_
          exact g_zl dX1_givesNewKey_37 rfl (Or.inr rfl)
  · refine Eq.trans (g_K (v := nI 0) dX1_givesNewKey_36 rfl rfl) ?_
    exact g_zl dX1_givesNewKey_37 rfl (Or.inl rfl)
theorem q17_0 (C : am_C) (σ : am_M) : am_go am_X0 C M17 0 [.ref 7, .null, .null] [] σ = am_go am_X0 C M17 4 [.ref 7, .int (nI 0), .int (nI 0)] [] σ := by
  refine Eq.trans (g_K (v := nI 0) dX1_cost_0 rfl rfl) ?_
  refine Eq.trans (g_isn (k := 1) dX1_cost_1 rfl (Nat.le_of_ble_eq_true rfl) rfl rfl rfl) ?_
  refine Eq.trans (g_K (v := nI 0) dX1_cost_2 rfl rfl) ?_
  refine Eq.trans (g_isn (k := 2) dX1_cost_3 rfl (Nat.le_of_ble_eq_true rfl) rfl rfl rfl) ?_
  rfl
theorem q17_4 (C : am_C) (σ : am_M) (v1 v2 : Int32) : am_go am_X0 C M17 4 [.ref 7, .int v1, .int v2] [] σ = if (nI 21) ≤ v2 then (some (.inl (some (.int v1)), σ)) else (am_bI (C 16 [.ref 7, .int v2] σ) (fun r1 t1 => if r1 = nI 0 then (am_go am_X0 C M17 4 [.ref 7, .int v1, .int (v2 + nI 1)] [] t1) else (am_bI (C 19 [.ref 7, .int v2] t1) (fun r2 t2 => am_go am_X0 C M17 4 [.ref 7, .int (v1 + r2), .int (v2 + nI 1)] [] t2)))) := by
  refine Eq.trans (g_A dX1_cost_4 rfl rfl) ?_
  refine Eq.trans (g_K (v := nI 21) dX1_cost_5 rfl rfl) ?_
  refine Eq.trans (g_icge (t := 32) dX1_cost_7 rfl rfl) ?_
  refine am_ite ?_ ?_
  · refine Eq.trans (g_A dX1_cost_32 rfl rfl) ?_
    exact g_iret dX1_cost_33 rfl
  · refine Eq.trans (g_A dX1_cost_10 rfl rfl) ?_
    refine Eq.trans (g_A dX1_cost_11 rfl rfl) ?_
    refine Eq.trans (g_vI (a := 7) (as := [.int v2]) (rest := []) dX1_cost_12 cl183 m16 rfl rfl rfl rfl (Nat.le_of_ble_eq_true rfl) rfl rfl rfl rfl) ?_
    refine am_bI_c (fun r1 t1 => ?_)
    refine Eq.trans (g_ifeq (t := 26) dX1_cost_15 rfl rfl) ?_
    refine am_ite ?_ ?_
    · refine Eq.trans (g_inc (v := v2 + nI 1) dX1_cost_26 rfl (Nat.le_of_ble_eq_true rfl) rfl rfl rfl rfl) ?_
      refine Eq.trans (g_goto (pc' := 4) dX1_cost_29 rfl) ?_
      rfl
    · refine Eq.trans (g_A dX1_cost_18 rfl rfl) ?_
      refine Eq.trans (g_A dX1_cost_19 rfl rfl) ?_
      refine Eq.trans (g_A dX1_cost_20 rfl rfl) ?_
      refine Eq.trans (g_vI (a := 7) (as := [.int v2]) (rest := [.int v1]) dX1_cost_21 cl184 m19 rfl rfl rfl rfl (Nat.le_of_ble_eq_true rfl) rfl rfl rfl rfl) ?_
      refine am_bI_c (fun r2 t2 => ?_)
      refine Eq.trans (g_iadd dX1_cost_24 rfl) ?_
      refine Eq.trans (g_isn (k := 1) dX1_cost_25 rfl (Nat.le_of_ble_eq_true rfl) rfl rfl rfl) ?_
      refine Eq.trans (g_inc (v := v2 + nI 1) dX1_cost_26 rfl (Nat.le_of_ble_eq_true rfl) rfl rfl rfl rfl) ?_
      refine Eq.trans (g_goto (pc' := 4) dX1_cost_29 rfl) ?_
      rfl
theorem q18_0 (C : am_C) (σ : am_M) (v1 : Int32) : am_go am_X0 C M18 0 [.ref 7, .int v1, .null, .null] [] σ = am_nI (C 163 [.int (v1 - (nI 21))] σ) (fun r1 t1 => if r1 = nI 0 then (am_bI (C 19 [.ref 7, .int v1] t1) (fun r2 t2 => if r2 ≤ (nI 0) then (some (.inl (some (.int (nI 0))), t2)) else (some (.inl (some (.int (nI 1))), t2)))) else (am_bI (C 79 [.ref 3, .int (v1 - (nI 21))] t1) (fun r3 t3 => if r3 = (-1) then (some (.inl (some (.int (nI 0))), t3)) else (am_bI (C 66 [.ref 5, .int r3] t3) (fun r4 t4 => if r4 = nI 0 then (some (.inl (some (.int (nI 1))), t4)) else (some (.inl (some (.int (nI 0))), t4))))))) := by
  refine Eq.trans (g_A dX1_staysAt_0 rfl rfl) ?_
  refine Eq.trans (g_K (v := nI 21) dX1_staysAt_1 rfl rfl) ?_
  refine Eq.trans (g_isub dX1_staysAt_3 rfl) ?_
  refine Eq.trans (g_isn (k := 2) dX1_staysAt_4 rfl (Nat.le_of_ble_eq_true rfl) rfl rfl rfl) ?_
  refine Eq.trans (g_A dX1_staysAt_5 rfl rfl) ?_
  refine Eq.trans (g_sN (as := [.int (v1 - (nI 21))]) (rest := []) dX1_staysAt_6 rfl cl185 m163 rfl rfl rfl rfl (Nat.le_of_ble_eq_true rfl) rfl rfl) ?_
  refine am_nI_c (fun r1 t1 => ?_)
  refine Eq.trans (g_ifeq (t := 43) dX1_staysAt_9 rfl rfl) ?_
  refine am_ite ?_ ?_
  · refine Eq.trans (g_A dX1_staysAt_43 rfl rfl) ?_
    refine Eq.trans (g_A dX1_staysAt_44 rfl rfl) ?_
    refine Eq.trans (g_vI (a := 7) (as := [.int v1]) (rest := []) dX1_staysAt_45 cl184 m19 rfl rfl rfl rfl (Nat.le_of_ble_eq_true rfl) rfl rfl rfl rfl) ?_
    refine am_bI_c (fun r2 t2 => ?_)
    refine Eq.trans (g_ifle (t := 55) dX1_staysAt_48 rfl rfl) ?_
    refine am_ite ?_ ?_
    · refine Eq.trans (g_K (v := nI 0) dX1_staysAt_55 rfl rfl) ?_
      exact g_zl dX1_staysAt_56 rfl (Or.inl rfl)
    · refine Eq.trans (g_K (v := nI 1) dX1_staysAt_51 rfl rfl) ?_
      refine Eq.trans (g_goto (pc' := 56) dX1_staysAt_52 rfl) ?_
      exact g_zl dX1_staysAt_56 rfl (Or.inr rfl)
  · refine Eq.trans (g_A dX1_staysAt_12 rfl rfl) ?_
    refine Eq.trans (g_getR dX1_staysAt_13 f50 sh7 rfl rfl) ?_
    refine Eq.trans (g_A dX1_staysAt_16 rfl rfl) ?_
    refine Eq.trans (g_vI (a := 3) (as := [.int (v1 - (nI 21))]) (rest := []) dX1_staysAt_17 cl176 m79 rfl rfl rfl rfl (Nat.le_of_ble_eq_true rfl) rfl rfl rfl rfl) ?_
    refine am_bI_c (fun r3 t3 => ?_)
    refine Eq.trans (g_isn (k := 3) dX1_staysAt_20 rfl (Nat.le_of_ble_eq_true rfl) rfl rfl rfl) ?_
    refine Eq.trans (g_A dX1_staysAt_21 rfl rfl) ?_
    refine Eq.trans (g_K (v := (-1)) dX1_staysAt_22 rfl rfl) ?_
    refine Eq.trans (g_iceq (t := 41) dX1_staysAt_23 rfl rfl) ?_
    refine am_ite ?_ ?_
    · refine Eq.trans (g_K (v := nI 0) dX1_staysAt_41 rfl rfl) ?_
      exact g_zl dX1_staysAt_42 rfl (Or.inl rfl)
    · refine Eq.trans (g_A dX1_staysAt_26 rfl rfl) ?_
      refine Eq.trans (g_getR dX1_staysAt_27 f49 sh7 rfl rfl) ?_
      refine Eq.trans (g_A dX1_staysAt_30 rfl rfl) ?_
      refine Eq.trans (g_vI (a := 5) (as := [.int r3]) (rest := []) dX1_staysAt_31 cl186 m66 rfl rfl rfl rfl (Nat.le_of_ble_eq_true rfl) rfl rfl rfl rfl) ?_
      refine am_bI_c (fun r4 t4 => ?_)
      refine Eq.trans (g_ifne (t := 41) dX1_staysAt_34 rfl rfl) ?_
      refine am_ite ?_ ?_
      · refine Eq.trans (g_K (v := nI 1) dX1_staysAt_37 rfl rfl) ?_
        refine Eq.trans (g_goto (pc' := 42) dX1_staysAt_38 rfl) ?_
        exact g_zl dX1_staysAt_42 rfl (Or.inr rfl)
      · refine Eq.trans (g_K (v := nI 0) dX1_staysAt_41 rfl rfl) ?_
        exact g_zl dX1_staysAt_42 rfl (Or.inl rfl)
theorem q19_0 (C : am_C) (σ : am_M) (v1 : Int32) : am_go am_X0 C M19 0 [.ref 7, .int v1, .null, .null, .null] [] σ = am_nI (C 167 [.int v1] σ) (fun r1 t1 => am_go am_X0 C M19 10 [.ref 7, .int v1, .int r1, .int (nI 0), .int r1] [] t1) := by
  refine Eq.trans (g_A dX1_countStayingChildren_0 rfl rfl) ?_
  refine Eq.trans (g_sN (as := [.int v1]) (rest := []) dX1_countStayingChildren_1 rfl cl187 m167 rfl rfl rfl rfl (Nat.le_of_ble_eq_true rfl) rfl rfl) ?_
  refine am_nI_c (fun r1 t1 => ?_)
  refine Eq.trans (g_isn (k := 2) dX1_countStayingChildren_4 rfl (Nat.le_of_ble_eq_true rfl) rfl rfl rfl) ?_
  refine Eq.trans (g_K (v := nI 0) dX1_countStayingChildren_5 rfl rfl) ?_
  refine Eq.trans (g_isn (k := 3) dX1_countStayingChildren_6 rfl (Nat.le_of_ble_eq_true rfl) rfl rfl rfl) ?_
  refine Eq.trans (g_A dX1_countStayingChildren_7 rfl rfl) ?_
  refine Eq.trans (g_ist (k := 4) dX1_countStayingChildren_8 (Nat.le_of_ble_eq_true rfl) rfl rfl rfl) ?_
  rfl
theorem q19_10 (C : am_C) (σ : am_M) (v1 v2 v3 v4 : Int32) : am_go am_X0 C M19 10 [.ref 7, .int v1, .int v2, .int v3, .int v4] [] σ = if (v2 + (nI 4)) ≤ v4 then (some (.inl (some (.int v3)), σ)) else (am_bI (C 15 [.ref 7, .int v4] σ) (fun r1 t1 => if r1 = nI 0 then (am_go am_X0 C M19 10 [.ref 7, .int v1, .int v2, .int v3, .int (v4 + nI 1)] [] t1) else (am_go am_X0 C M19 10 [.ref 7, .int v1, .int v2, .int (v3 + nI 1), .int (v4 + nI 1)] [] t1))) := by
  refine Eq.trans (g_A dX1_countStayingChildren_10 rfl rfl) ?_
  refine Eq.trans (g_A dX1_countStayingChildren_12 rfl rfl) ?_
  refine Eq.trans (g_K (v := nI 4) dX1_countStayingChildren_13 rfl rfl) ?_
  refine Eq.trans (g_iadd dX1_countStayingChildren_14 rfl) ?_
  refine Eq.trans (g_icge (t := 36) dX1_countStayingChildren_15 rfl rfl) ?_
  refine am_ite ?_ ?_
  · refine Eq.trans (g_A dX1_countStayingChildren_36 rfl rfl) ?_
    exact g_iret dX1_countStayingChildren_37 rfl
  · refine Eq.trans (g_A dX1_countStayingChildren_18 rfl rfl) ?_
    refine Eq.trans (g_A dX1_countStayingChildren_19 rfl rfl) ?_
    refine Eq.trans (g_vI (a := 7) (as := [.int v4]) (rest := []) dX1_countStayingChildren_21 cl188 m15 rfl rfl rfl rfl (Nat.le_of_ble_eq_true rfl) rfl rfl rfl rfl) ?_
    refine am_bI_c (fun r1 t1 => ?_)
    refine Eq.trans (g_ifeq (t := 30) dX1_countStayingChildren_24 rfl rfl) ?_
    refine am_ite ?_ ?_
    · refine Eq.trans (g_inc (v := v4 + nI 1) dX1_countStayingChildren_30 rfl (Nat.le_of_ble_eq_true rfl) rfl rfl rfl rfl) ?_
      refine Eq.trans (g_goto (pc' := 10) dX1_countStayingChildren_33 rfl) ?_
      rfl
    · refine Eq.trans (g_inc (v := v3 + nI 1) dX1_countStayingChildren_27 rfl (Nat.le_of_ble_eq_true rfl) rfl rfl rfl rfl) ?_
      refine Eq.trans (g_inc (v := v4 + nI 1) dX1_countStayingChildren_30 rfl (Nat.le_of_ble_eq_true rfl) rfl rfl rfl rfl) ?_
      refine Eq.trans (g_goto (pc' := 10) dX1_countStayingChildren_33 rfl) ?_
      rfl
theorem q20_0 (C : am_C) (σ : am_M) : am_go am_X0 C M20 0 [.ref 8, .null] [] σ = am_go am_X0 C M20 3 [.ref 8, .int (nI 84)] [] σ := by
  refine Eq.trans (g_K (v := nI 84) dX2_compute_0 rfl rfl) ?_
  refine Eq.trans (g_isn (k := 1) dX2_compute_2 rfl (Nat.le_of_ble_eq_true rfl) rfl rfl rfl) ?_
  rfl
theorem q20_3 (C : am_C) (σ : am_M) (v1 : Int32) : am_go am_X0 C M20 3 [.ref 8, .int v1] [] σ = if v1 < (nI 0) then (some (.inl none, σ)) else (am_bI (C 78 [.ref 3, .int v1] σ) (fun r1 t1 => if r1 = nI 0 then (am_go am_X0 C M20 32 [.ref 8, .int v1] [.int (nI 0), .int v1, .ref 31] t1) else (am_bI (C 22 [.ref 8, .int v1] t1) (fun r2 t2 => am_go am_X0 C M20 32 [.ref 8, .int v1] [.int r2, .int v1, .ref 31] t2)))) := by
  refine Eq.trans (g_A dX2_compute_3 rfl rfl) ?_
  refine Eq.trans (g_iflt (t := 39) dX2_compute_4 rfl rfl) ?_
  refine am_ite ?_ ?_
  · exact g_vret dX2_compute_39 rfl
  · refine Eq.trans (g_A dX2_compute_7 rfl rfl) ?_
    refine Eq.trans (g_getR dX2_compute_8 f53 sh8 rfl rfl) ?_
    refine Eq.trans (g_A dX2_compute_11 rfl rfl) ?_
    refine Eq.trans (g_A dX2_compute_12 rfl rfl) ?_
    refine Eq.trans (g_getR dX2_compute_13 f54 sh8 rfl rfl) ?_
    refine Eq.trans (g_A dX2_compute_16 rfl rfl) ?_
    refine Eq.trans (g_vI (a := 3) (as := [.int v1]) (rest := [.int v1, .ref 31]) dX2_compute_17 cl189 m78 rfl rfl rfl rfl (Nat.le_of_ble_eq_true rfl) rfl rfl rfl rfl) ?_
    refine am_bI_c (fun r1 t1 => ?_)
    refine Eq.trans (g_ifeq (t := 31) dX2_compute_20 rfl rfl) ?_
    refine am_ite ?_ ?_
    · refine Eq.trans (g_K (v := nI 0) dX2_compute_31 rfl rfl) ?_
      rfl
    · refine Eq.trans (g_A dX2_compute_23 rfl rfl) ?_
      refine Eq.trans (g_A dX2_compute_24 rfl rfl) ?_
      refine Eq.trans (g_vI (a := 8) (as := [.int v1]) (rest := [.int v1, .ref 31]) dX2_compute_25 cl190 m22 rfl rfl rfl rfl (Nat.le_of_ble_eq_true rfl) rfl rfl rfl rfl) ?_
      refine am_bI_c (fun r2 t2 => ?_)
      refine Eq.trans (g_goto (pc' := 32) dX2_compute_28 rfl) ?_
      rfl
theorem q20_32 (C : am_C) (σ : am_M) (v1 s0 s1 : Int32) : am_go am_X0 C M20 32 [.ref 8, .int v1] [.int s0, .int s1, .ref 31] σ = if am_in s1 85 = true then (am_go am_X0 C M20 3 [.ref 8, .int (v1 + (-1))] [] (am_wI σ 31 (s1 : Int32).toNatClampNeg s0)) else none := by
  refine Eq.trans (g_iast dX2_compute_32 sh31 rfl) ?_
  refine am_ite ?_ rfl
  refine Eq.trans (g_inc (v := v1 + (-1)) dX2_compute_33 rfl (Nat.le_of_ble_eq_true rfl) rfl rfl rfl rfl) ?_
  refine Eq.trans (g_goto (pc' := 3) dX2_compute_36 rfl) ?_
  rfl
theorem q21_0 (C : am_C) (σ : am_M) (v1 : Int32) : am_go am_X0 C M21 0 [.ref 8, .int v1] [] σ = am_nI (C 162 [.int v1] σ) (fun r1 t1 => if r1 = nI 0 then (some (.inl (some (.int (nI 0))), t1)) else (if am_in v1 85 = true then (some (.inl (some (.int (t1.1 31 (v1 : Int32).toNatClampNeg))), t1)) else none)) := by
  refine Eq.trans (g_A dX2_of_0 rfl rfl) ?_
  refine Eq.trans (g_sN (as := [.int v1]) (rest := []) dX2_of_1 rfl cl191 m162 rfl rfl rfl rfl (Nat.le_of_ble_eq_true rfl) rfl rfl) ?_
  refine am_nI_c (fun r1 t1 => ?_)
  refine Eq.trans (g_ifeq (t := 16) dX2_of_4 rfl rfl) ?_
  refine am_ite ?_ ?_
  · refine Eq.trans (g_K (v := nI 0) dX2_of_16 rfl rfl) ?_
    exact g_iret dX2_of_17 rfl
  · refine Eq.trans (g_A dX2_of_7 rfl rfl) ?_
    refine Eq.trans (g_getR dX2_of_8 f53 sh8 rfl rfl) ?_
    refine Eq.trans (g_A dX2_of_11 rfl rfl) ?_
    refine Eq.trans (g_iald dX2_of_12 sh31 rfl) ?_
    refine am_ite ?_ rfl
    refine Eq.trans (g_goto (pc' := 17) dX2_of_13 rfl) ?_
    exact g_iret dX2_of_17 rfl
theorem q22_0 (C : am_C) (σ : am_M) (v1 : Int32) : am_go am_X0 C M22 0 [.ref 8, .int v1, .null, .null, .null, .null] [] σ = am_bI (C 77 [.ref 3, .int v1] σ) (fun r1 t1 => am_nI (C 161 [.int r1] t1) (fun r2 t2 => am_nI (C 163 [.int (v1 - (nI 21))] t2) (fun r3 t3 => if r3 = nI 0 then (am_nI (C 167 [.int v1] t3) (fun r4 t4 => am_go am_X0 C M22 50 [.ref 8, .int v1, .int r2, .int (v1 - (nI 21)), .int r4, .int r4] [] t4)) else (am_bI (C 79 [.ref 3, .int (v1 - (nI 21))] t3) (fun r5 t5 => am_nI (C 161 [.int (r2 ^^^ (r5 + (nI 1)))] t5) (fun r6 t6 => some (.inl (some (.int r6)), t6))))))) := by
  refine Eq.trans (g_A dX2_hashAt_0 rfl rfl) ?_
  refine Eq.trans (g_getR dX2_hashAt_1 f54 sh8 rfl rfl) ?_
  refine Eq.trans (g_A dX2_hashAt_4 rfl rfl) ?_
  refine Eq.trans (g_vI (a := 3) (as := [.int v1]) (rest := []) dX2_hashAt_5 cl192 m77 rfl rfl rfl rfl (Nat.le_of_ble_eq_true rfl) rfl rfl rfl rfl) ?_
  refine am_bI_c (fun r1 t1 => ?_)
  refine Eq.trans (g_sN (as := [.int r1]) (rest := []) dX2_hashAt_8 rfl cl193 m161 rfl rfl rfl rfl (Nat.le_of_ble_eq_true rfl) rfl rfl) ?_
  refine am_nI_c (fun r2 t2 => ?_)
  refine Eq.trans (g_isn (k := 2) dX2_hashAt_11 rfl (Nat.le_of_ble_eq_true rfl) rfl rfl rfl) ?_
  refine Eq.trans (g_A dX2_hashAt_12 rfl rfl) ?_
  refine Eq.trans (g_K (v := nI 21) dX2_hashAt_13 rfl rfl) ?_
  refine Eq.trans (g_isub dX2_hashAt_15 rfl) ?_
  refine Eq.trans (g_isn (k := 3) dX2_hashAt_16 rfl (Nat.le_of_ble_eq_true rfl) rfl rfl rfl) ?_
  refine Eq.trans (g_A dX2_hashAt_17 rfl rfl) ?_
  refine Eq.trans (g_sN (as := [.int (v1 - (nI 21))]) (rest := []) dX2_hashAt_18 rfl cl194 m163 rfl rfl rfl rfl (Nat.le_of_ble_eq_true rfl) rfl rfl) ?_
  refine am_nI_c (fun r3 t3 => ?_)
  refine Eq.trans (g_ifeq (t := 40) dX2_hashAt_21 rfl rfl) ?_
  refine am_ite ?_ ?_
  · refine Eq.trans (g_A dX2_hashAt_40 rfl rfl) ?_
    refine Eq.trans (g_sN (as := [.int v1]) (rest := []) dX2_hashAt_41 rfl cl196 m167 rfl rfl rfl rfl (Nat.le_of_ble_eq_true rfl) rfl rfl) ?_
    refine am_nI_c (fun r4 t4 => ?_)
    refine Eq.trans (g_ist (k := 4) dX2_hashAt_44 (Nat.le_of_ble_eq_true rfl) rfl rfl rfl) ?_
    refine Eq.trans (g_A dX2_hashAt_46 rfl rfl) ?_
    refine Eq.trans (g_ist (k := 5) dX2_hashAt_48 (Nat.le_of_ble_eq_true rfl) rfl rfl rfl) ?_
    rfl
  · refine Eq.trans (g_A dX2_hashAt_24 rfl rfl) ?_
    refine Eq.trans (g_A dX2_hashAt_25 rfl rfl) ?_
    refine Eq.trans (g_getR dX2_hashAt_26 f54 sh8 rfl rfl) ?_
    refine Eq.trans (g_A dX2_hashAt_29 rfl rfl) ?_
    refine Eq.trans (g_vI (a := 3) (as := [.int (v1 - (nI 21))]) (rest := [.int r2]) dX2_hashAt_30 cl195 m79 rfl rfl rfl rfl (Nat.le_of_ble_eq_true rfl) rfl rfl rfl rfl) ?_
    refine am_bI_c (fun r5 t5 => ?_)
    refine Eq.trans (g_K (v := nI 1) dX2_hashAt_33 rfl rfl) ?_
    refine Eq.trans (g_iadd dX2_hashAt_34 rfl) ?_
    refine Eq.trans (g_ixor dX2_hashAt_35 rfl) ?_
    refine Eq.trans (g_sN (as := [.int (r2 ^^^ (r5 + (nI 1)))]) (rest := []) dX2_hashAt_36 rfl cl193 m161 rfl rfl rfl rfl (Nat.le_of_ble_eq_true rfl) rfl rfl) ?_
    refine am_nI_c (fun r6 t6 => ?_)
    exact g_iret dX2_hashAt_39 rfl
theorem q22_50 (C : am_C) (σ : am_M) (v1 v2 v3 v4 v5 : Int32) : am_go am_X0 C M22 50 [.ref 8, .int v1, .int v2, .int v3, .int v4, .int v5] [] σ = if (v4 + (nI 4)) ≤ v5 then (some (.inl (some (.int v2)), σ)) else (am_bI (C 21 [.ref 8, .int v5] σ) (fun r1 t1 => am_nI (C 161 [.int (v2 ^^^ r1)] t1) (fun r2 t2 => am_go am_X0 C M22 50 [.ref 8, .int v1, .int r2, .int v3, .int v4, .int (v5 + nI 1)] [] t2))) := by
  refine Eq.trans (g_A dX2_hashAt_50 rfl rfl) ?_
  refine Eq.trans (g_A dX2_hashAt_52 rfl rfl) ?_
  refine Eq.trans (g_K (v := nI 4) dX2_hashAt_54 rfl rfl) ?_
  refine Eq.trans (g_iadd dX2_hashAt_55 rfl) ?_
  refine Eq.trans (g_icge (t := 77) dX2_hashAt_56 rfl rfl) ?_
  refine am_ite ?_ ?_
  · refine Eq.trans (g_A dX2_hashAt_77 rfl rfl) ?_
    exact g_iret dX2_hashAt_78 rfl
  · refine Eq.trans (g_A dX2_hashAt_59 rfl rfl) ?_
    refine Eq.trans (g_A dX2_hashAt_60 rfl rfl) ?_
    refine Eq.trans (g_A dX2_hashAt_61 rfl rfl) ?_
    refine Eq.trans (g_vI (a := 8) (as := [.int v5]) (rest := [.int v2]) dX2_hashAt_63 cl197 m21 rfl rfl rfl rfl (Nat.le_of_ble_eq_true rfl) rfl rfl rfl rfl) ?_
    refine am_bI_c (fun r1 t1 => ?_)
    refine Eq.trans (g_ixor dX2_hashAt_66 rfl) ?_
    refine Eq.trans (g_sN (as := [.int (v2 ^^^ r1)]) (rest := []) dX2_hashAt_67 rfl cl193 m161 rfl rfl rfl rfl (Nat.le_of_ble_eq_true rfl) rfl rfl) ?_
    refine am_nI_c (fun r2 t2 => ?_)
    refine Eq.trans (g_isn (k := 2) dX2_hashAt_70 rfl (Nat.le_of_ble_eq_true rfl) rfl rfl rfl) ?_
    refine Eq.trans (g_inc (v := v5 + nI 1) dX2_hashAt_71 rfl (Nat.le_of_ble_eq_true rfl) rfl rfl rfl rfl) ?_
    refine Eq.trans (g_goto (pc' := 50) dX2_hashAt_74 rfl) ?_
    rfl
theorem q23_0 (C : am_C) (σ : am_M) (v1 : Int32) : am_go am_X0 C M23 0 [.ref 1, .int v1] [] σ = some (.inl none, am_wI (am_wI σ 1 1 v1) 1 2 (nI 0)) := by
  refine Eq.trans (g_A dX3_begin_0 rfl rfl) ?_
  refine Eq.trans (g_A dX3_begin_1 rfl rfl) ?_
  refine Eq.trans (g_put dX3_begin_2 f55 sh1 rfl rfl rfl) ?_
  refine Eq.trans (g_A dX3_begin_5 rfl rfl) ?_
  refine Eq.trans (g_K (v := nI 0) dX3_begin_6 rfl rfl) ?_
  refine Eq.trans (g_put dX3_begin_7 f56 sh1 rfl rfl rfl) ?_
  exact g_vret dX3_begin_10 rfl
theorem q24_0 (C : am_C) (σ : am_M) (v1 : Int32) : am_go am_X0 C M24 0 [.ref 1, .int v1] [] σ = if v1 < (nI 1) then (some (.inl (some (.int (nI 0))), σ)) else (if (σ.1 1 2) < v1 then (some (.inl (some (.int (nI 0))), σ)) else (if (nI 2048) < v1 then (some (.inl (some (.int (nI 0))), σ)) else (some (.inl (some (.int (nI 1))), σ)))) := by
  refine Eq.trans (g_A dX3_isMade_0 rfl rfl) ?_
  refine Eq.trans (g_K (v := nI 1) dX3_isMade_1 rfl rfl) ?_
  refine Eq.trans (g_iclt (t := 24) dX3_isMade_2 rfl rfl) ?_
  refine am_ite ?_ ?_
  · refine Eq.trans (g_K (v := nI 0) dX3_isMade_24 rfl rfl) ?_
    exact g_zl dX3_isMade_25 rfl (Or.inl rfl)
  · refine Eq.trans (g_A dX3_isMade_5 rfl rfl) ?_
    refine Eq.trans (g_A dX3_isMade_6 rfl rfl) ?_
    refine Eq.trans (g_getI dX3_isMade_7 f56 sh1 rfl rfl) ?_
    refine Eq.trans (g_icgt (t := 24) dX3_isMade_10 rfl rfl) ?_
    refine am_ite ?_ ?_
    · refine Eq.trans (g_K (v := nI 0) dX3_isMade_24 rfl rfl) ?_
      exact g_zl dX3_isMade_25 rfl (Or.inl rfl)
    · refine Eq.trans (g_A dX3_isMade_13 rfl rfl) ?_
      refine Eq.trans (g_K (v := nI 2048) dX3_isMade_14 rfl rfl) ?_
      refine Eq.trans (g_icgt (t := 24) dX3_isMade_17 rfl rfl) ?_
      refine am_ite ?_ ?_
      · refine Eq.trans (g_K (v := nI 0) dX3_isMade_24 rfl rfl) ?_
        exact g_zl dX3_isMade_25 rfl (Or.inl rfl)
      · refine Eq.trans (g_K (v := nI 1) dX3_isMade_20 rfl rfl) ?_
        refine Eq.trans (g_goto (pc' := 25) dX3_isMade_21 rfl) ?_
        exact g_zl dX3_isMade_25 rfl (Or.inr rfl)
theorem q25_0 (C : am_C) (σ : am_M) : am_go am_X0 C M25 0 [.ref 1] [] σ = if (nI 2027) < (σ.1 1 2) then (some (.inl (some (.int (nI 0))), σ)) else (some (.inl (some (.int (nI 1))), σ)) := by
  refine Eq.trans (g_A dX3_areEnoughLeft_0 rfl rfl) ?_
  refine Eq.trans (g_getI dX3_areEnoughLeft_1 f56 sh1 rfl rfl) ?_
  refine Eq.trans (g_K (v := nI 2027) dX3_areEnoughLeft_4 rfl rfl) ?_
  refine Eq.trans (g_icgt (t := 14) dX3_areEnoughLeft_7 rfl rfl) ?_
  refine am_ite ?_ ?_
  · refine Eq.trans (g_K (v := nI 0) dX3_areEnoughLeft_14 rfl rfl) ?_
    exact g_zl dX3_areEnoughLeft_15 rfl (Or.inl rfl)
  · refine Eq.trans (g_K (v := nI 1) dX3_areEnoughLeft_10 rfl rfl) ?_
    refine Eq.trans (g_goto (pc' := 15) dX3_areEnoughLeft_11 rfl) ?_
    exact g_zl dX3_areEnoughLeft_15 rfl (Or.inr rfl)
theorem q26_0 (C : am_C) (σ : am_M) : am_go am_X0 C M26 0 [.ref 1] [] σ = some (.inl (some (.int (σ.1 1 2))), σ) := by
  refine Eq.trans (g_A dX3_number_0 rfl rfl) ?_
  refine Eq.trans (g_getI dX3_number_1 f56 sh1 rfl rfl) ?_
  exact g_iret dX3_number_4 rfl
theorem q27_0 (C : am_C) (σ : am_M) (v1 : Int32) : am_go am_X0 C M27 0 [.ref 1, .int v1] [] σ = if (nI 2048) ≤ (σ.1 1 2) then (some (.inl (some (.int (σ.1 1 2))), σ)) else (if am_in ((am_wI σ 1 2 ((σ.1 1 2) + (nI 1))).1 1 2) 2049 = true then (some (.inl (some (.int ((am_wI (am_wI σ 1 2 ((σ.1 1 2) + (nI 1))) 13 ((am_wI σ 1 2 ((σ.1 1 2) + (nI 1))).1 1 2 : Int32).toNatClampNeg v1).1 1 2))), am_wI (am_wI σ 1 2 ((σ.1 1 2) + (nI 1))) 13 ((am_wI σ 1 2 ((σ.1 1 2) + (nI 1))).1 1 2 : Int32).toNatClampNeg v1)) else none) := by
  refine Eq.trans (g_A dX3_make_0 rfl rfl) ?_
  refine Eq.trans (g_getI dX3_make_1 f56 sh1 rfl rfl) ?_
  refine Eq.trans (g_K (v := nI 2048) dX3_make_4 rfl rfl) ?_
  refine Eq.trans (g_icge (t := 30) dX3_make_7 rfl rfl) ?_
  refine am_ite ?_ ?_
  · refine Eq.trans (g_A dX3_make_30 rfl rfl) ?_
    refine Eq.trans (g_getI dX3_make_31 f56 sh1 rfl rfl) ?_
    exact g_iret dX3_make_34 rfl
  · refine Eq.trans (g_A dX3_make_10 rfl rfl) ?_
    refine Eq.trans (g_B dX3_make_11 rfl rfl rfl) ?_
    refine Eq.trans (g_getI dX3_make_12 f56 sh1 rfl rfl) ?_
    refine Eq.trans (g_K (v := nI 1) dX3_make_15 rfl rfl) ?_
    refine Eq.trans (g_iadd dX3_make_16 rfl) ?_
    refine Eq.trans (g_put dX3_make_17 f56 sh1 rfl rfl rfl) ?_
    refine Eq.trans (g_A dX3_make_20 rfl rfl) ?_
    refine Eq.trans (g_getR dX3_make_21 f57 sh1 rfl rfl) ?_
    refine Eq.trans (g_A dX3_make_24 rfl rfl) ?_
    refine Eq.trans (g_getI dX3_make_25 f56 sh1 rfl rfl) ?_
    refine Eq.trans (g_A dX3_make_28 rfl rfl) ?_
    refine Eq.trans (g_iast dX3_make_29 sh13 rfl) ?_
    refine am_ite ?_ rfl
    refine Eq.trans (g_A dX3_make_30 rfl rfl) ?_
    refine Eq.trans (g_getI dX3_make_31 f56 sh1 rfl rfl) ?_
    exact g_iret dX3_make_34 rfl
theorem q28_0 (C : am_C) (σ : am_M) (v1 : Int32) : am_go am_X0 C M28 0 [.ref 1, .int v1] [] σ = am_bI (C 24 [.ref 1, .int v1] σ) (fun r1 t1 => if r1 = nI 0 then (some (.inl (some (.int (-1))), t1)) else (if am_in v1 2049 = true then (some (.inl (some (.int (t1.1 13 (v1 : Int32).toNatClampNeg))), t1)) else none)) := by
  refine Eq.trans (g_A dX3_placeOf_0 rfl rfl) ?_
  refine Eq.trans (g_A dX3_placeOf_1 rfl rfl) ?_
  refine Eq.trans (g_vI (a := 1) (as := [.int v1]) (rest := []) dX3_placeOf_2 cl198 m24 rfl rfl rfl rfl (Nat.le_of_ble_eq_true rfl) rfl rfl rfl rfl) ?_
  refine am_bI_c (fun r1 t1 => ?_)
  refine Eq.trans (g_ifeq (t := 17) dX3_placeOf_5 rfl rfl) ?_
  refine am_ite ?_ ?_
  · refine Eq.trans (g_K (v := (-1)) dX3_placeOf_17 rfl rfl) ?_
    exact g_iret dX3_placeOf_18 rfl
  · refine Eq.trans (g_A dX3_placeOf_8 rfl rfl) ?_
    refine Eq.trans (g_getR dX3_placeOf_9 f57 sh1 rfl rfl) ?_
    refine Eq.trans (g_A dX3_placeOf_12 rfl rfl) ?_
    refine Eq.trans (g_iald dX3_placeOf_13 sh13 rfl) ?_
    refine am_ite ?_ rfl
    refine Eq.trans (g_goto (pc' := 18) dX3_placeOf_14 rfl) ?_
    exact g_iret dX3_placeOf_18 rfl
theorem q29_0 (C : am_C) (σ : am_M) (v1 v2 : Int32) : am_go am_X0 C M29 0 [.ref 1, .int v1, .int v2] [] σ = am_bI (C 24 [.ref 1, .int v1] σ) (fun r1 t1 => if r1 = nI 0 then (some (.inl none, t1)) else (if am_in v1 2049 = true then (some (.inl none, am_wI t1 13 (v1 : Int32).toNatClampNeg v2)) else none)) := by
  refine Eq.trans (g_A dX3_settle_0 rfl rfl) ?_
  refine Eq.trans (g_A dX3_settle_1 rfl rfl) ?_
  refine Eq.trans (g_vI (a := 1) (as := [.int v1]) (rest := []) dX3_settle_2 cl198 m24 rfl rfl rfl rfl (Nat.le_of_ble_eq_true rfl) rfl rfl rfl rfl) ?_
  refine am_bI_c (fun r1 t1 => ?_)
  refine Eq.trans (g_ifeq (t := 15) dX3_settle_5 rfl rfl) ?_
  refine am_ite ?_ ?_
  · exact g_vret dX3_settle_15 rfl
  · refine Eq.trans (g_A dX3_settle_8 rfl rfl) ?_
    refine Eq.trans (g_getR dX3_settle_9 f57 sh1 rfl rfl) ?_
    refine Eq.trans (g_A dX3_settle_12 rfl rfl) ?_
    refine Eq.trans (g_A dX3_settle_13 rfl rfl) ?_
    refine Eq.trans (g_iast dX3_settle_14 sh13 rfl) ?_
    refine am_ite ?_ rfl
    exact g_vret dX3_settle_15 rfl
theorem q30_0 (C : am_C) (σ : am_M) (v1 : Int32) : am_go am_X0 C M30 0 [.ref 1, .int v1] [] σ = am_nI (C 161 [.int ((σ.1 1 1) + (v1 * (-1640531527)))] σ) (fun r1 t1 => some (.inl (some (.int r1)), t1)) := by
  refine Eq.trans (g_A dX3_valueOf_0 rfl rfl) ?_
  refine Eq.trans (g_getI dX3_valueOf_1 f55 sh1 rfl rfl) ?_
  refine Eq.trans (g_A dX3_valueOf_4 rfl rfl) ?_
  refine Eq.trans (g_ldc dX3_valueOf_5 ki7 rfl) ?_
  refine Eq.trans (g_imul dX3_valueOf_7 rfl) ?_
  refine Eq.trans (g_iadd dX3_valueOf_8 rfl) ?_
  refine Eq.trans (g_sN (as := [.int ((σ.1 1 1) + (v1 * (-1640531527)))]) (rest := []) dX3_valueOf_9 rfl cl199 m161 rfl rfl rfl rfl (Nat.le_of_ble_eq_true rfl) rfl rfl) ?_
  refine am_nI_c (fun r1 t1 => ?_)
  exact g_iret dX3_valueOf_12 rfl
theorem q31_0 (C : am_C) (σ : am_M) : am_go am_X0 C M31 0 [.ref 4] [] σ = am_bI (C 33 [.ref 4] (am_wI σ 4 5 (nI 0))) (fun r1 t1 => some (.inl none, t1)) := by
  refine Eq.trans (g_A dX4_begin_0 rfl rfl) ?_
  refine Eq.trans (g_K (v := nI 0) dX4_begin_1 rfl rfl) ?_
  refine Eq.trans (g_put dX4_begin_2 f58 sh4 rfl rfl rfl) ?_
  refine Eq.trans (g_A dX4_begin_5 rfl rfl) ?_
  refine Eq.trans (g_vI (a := 4) (as := []) (rest := []) dX4_begin_6 cl200 m33 rfl rfl rfl rfl (Nat.le_of_ble_eq_true rfl) rfl rfl rfl rfl) ?_
  refine am_bI_c (fun r1 t1 => ?_)
  refine Eq.trans (g_B dX4_begin_9 rfl rfl rfl) ?_
  exact g_vret dX4_begin_10 rfl
theorem q32_0 (C : am_C) (σ : am_M) : am_go am_X0 C M32 0 [.ref 4] [] σ = some (.inl (some (.int (σ.1 4 5))), σ) := by
  refine Eq.trans (g_A dX4_number_0 rfl rfl) ?_
  refine Eq.trans (g_getI dX4_number_1 f58 sh4 rfl rfl) ?_
  exact g_iret dX4_number_4 rfl
theorem q33_0 (C : am_C) (σ : am_M) : am_go am_X0 C M33 0 [.ref 4] [] σ = if (nI 8) ≤ (σ.1 4 5) then (some (.inl (some (.int ((σ.1 4 5) - (nI 1)))), σ)) else (if am_in (σ.1 4 5) 8 = true then (if am_in ((am_wI σ 20 (σ.1 4 5 : Int32).toNatClampNeg (nI 0)).1 4 5) 8 = true then (some (.inl (some (.int (((am_wI (am_wI (am_wI σ 20 (σ.1 4 5 : Int32).toNatClampNeg (nI 0)) 21 ((am_wI σ 20 (σ.1 4 5 : Int32).toNatClampNeg (nI 0)).1 4 5 : Int32).toNatClampNeg (nI 0)) 4 5 (((am_wI (am_wI σ 20 (σ.1 4 5 : Int32).toNatClampNeg (nI 0)) 21 ((am_wI σ 20 (σ.1 4 5 : Int32).toNatClampNeg (nI 0)).1 4 5 : Int32).toNatClampNeg (nI 0)).1 4 5) + (nI 1))).1 4 5) - (nI 1)))), am_wI (am_wI (am_wI σ 20 (σ.1 4 5 : Int32).toNatClampNeg (nI 0)) 21 ((am_wI σ 20 (σ.1 4 5 : Int32).toNatClampNeg (nI 0)).1 4 5 : Int32).toNatClampNeg (nI 0)) 4 5 (((am_wI (am_wI σ 20 (σ.1 4 5 : Int32).toNatClampNeg (nI 0)) 21 ((am_wI σ 20 (σ.1 4 5 : Int32).toNatClampNeg (nI 0)).1 4 5 : Int32).toNatClampNeg (nI 0)).1 4 5) + (nI 1)))) else none) else none) := by
  refine Eq.trans (g_A dX4_add_0 rfl rfl) ?_
  refine Eq.trans (g_getI dX4_add_1 f58 sh4 rfl rfl) ?_
  refine Eq.trans (g_K (v := nI 8) dX4_add_4 rfl rfl) ?_
  refine Eq.trans (g_icge (t := 39) dX4_add_6 rfl rfl) ?_
  refine am_ite ?_ ?_
  · refine Eq.trans (g_A dX4_add_39 rfl rfl) ?_
    refine Eq.trans (g_getI dX4_add_40 f58 sh4 rfl rfl) ?_
    refine Eq.trans (g_K (v := nI 1) dX4_add_43 rfl rfl) ?_
    refine Eq.trans (g_isub dX4_add_44 rfl) ?_
    exact g_iret dX4_add_45 rfl
  · refine Eq.trans (g_A dX4_add_9 rfl rfl) ?_
    refine Eq.trans (g_getR dX4_add_10 f59 sh4 rfl rfl) ?_
    refine Eq.trans (g_A dX4_add_13 rfl rfl) ?_
    refine Eq.trans (g_getI dX4_add_14 f58 sh4 rfl rfl) ?_
    refine Eq.trans (g_K (v := nI 0) dX4_add_17 rfl rfl) ?_
    refine Eq.trans (g_iast dX4_add_18 sh20 rfl) ?_
    refine am_ite ?_ rfl
    refine Eq.trans (g_A dX4_add_19 rfl rfl) ?_
    refine Eq.trans (g_getR dX4_add_20 f60 sh4 rfl rfl) ?_
    refine Eq.trans (g_A dX4_add_23 rfl rfl) ?_
    refine Eq.trans (g_getI dX4_add_24 f58 sh4 rfl rfl) ?_
    refine Eq.trans (g_K (v := nI 0) dX4_add_27 rfl rfl) ?_
    refine Eq.trans (g_iast dX4_add_28 sh21 rfl) ?_
    refine am_ite ?_ rfl
    refine Eq.trans (g_A dX4_add_29 rfl rfl) ?_
    refine Eq.trans (g_B dX4_add_30 rfl rfl rfl) ?_
    refine Eq.trans (g_getI dX4_add_31 f58 sh4 rfl rfl) ?_
    refine Eq.trans (g_K (v := nI 1) dX4_add_34 rfl rfl) ?_
    refine Eq.trans (g_iadd dX4_add_35 rfl) ?_
    refine Eq.trans (g_put dX4_add_36 f58 sh4 rfl rfl rfl) ?_
    refine Eq.trans (g_A dX4_add_39 rfl rfl) ?_
    refine Eq.trans (g_getI dX4_add_40 f58 sh4 rfl rfl) ?_
    refine Eq.trans (g_K (v := nI 1) dX4_add_43 rfl rfl) ?_
    refine Eq.trans (g_isub dX4_add_44 rfl) ?_
    exact g_iret dX4_add_45 rfl
theorem q34_0 (C : am_C) (σ : am_M) (v1 : Int32) : am_go am_X0 C M34 0 [.ref 4, .int v1] [] σ = am_bI (C 46 [.ref 4, .int v1] σ) (fun r1 t1 => if r1 = nI 0 then (some (.inl (some (.int (nI 2))), t1)) else (if am_in v1 8 = true then (some (.inl (some (.int (t1.1 20 (v1 : Int32).toNatClampNeg))), t1)) else none)) := by
  refine Eq.trans (g_A dX4_stateOf_0 rfl rfl) ?_
  refine Eq.trans (g_A dX4_stateOf_1 rfl rfl) ?_
  refine Eq.trans (g_vI (a := 4) (as := [.int v1]) (rest := []) dX4_stateOf_2 cl201 m46 rfl rfl rfl rfl (Nat.le_of_ble_eq_true rfl) rfl rfl rfl rfl) ?_
  refine am_bI_c (fun r1 t1 => ?_)
  refine Eq.trans (g_ifeq (t := 17) dX4_stateOf_5 rfl rfl) ?_
  refine am_ite ?_ ?_
  · refine Eq.trans (g_K (v := nI 2) dX4_stateOf_17 rfl rfl) ?_
    exact g_iret dX4_stateOf_18 rfl
  · refine Eq.trans (g_A dX4_stateOf_8 rfl rfl) ?_
    refine Eq.trans (g_getR dX4_stateOf_9 f59 sh4 rfl rfl) ?_
    refine Eq.trans (g_A dX4_stateOf_12 rfl rfl) ?_
    refine Eq.trans (g_iald dX4_stateOf_13 sh20 rfl) ?_
    refine am_ite ?_ rfl
    refine Eq.trans (g_goto (pc' := 18) dX4_stateOf_14 rfl) ?_
    exact g_iret dX4_stateOf_18 rfl
theorem q35_0 (C : am_C) (σ : am_M) (v1 : Int32) : am_go am_X0 C M35 0 [.ref 4, .int v1] [] σ = am_bI (C 46 [.ref 4, .int v1] σ) (fun r1 t1 => if r1 = nI 0 then (some (.inl (some (.int (nI 0))), t1)) else (if am_in v1 8 = true then (if t1.1 20 (v1 : Int32).toNatClampNeg = nI 0 then (some (.inl (some (.int (nI 1))), t1)) else (some (.inl (some (.int (nI 0))), t1))) else none)) := by
  refine Eq.trans (g_A dX4_isIntact_0 rfl rfl) ?_
  refine Eq.trans (g_A dX4_isIntact_1 rfl rfl) ?_
  refine Eq.trans (g_vI (a := 4) (as := [.int v1]) (rest := []) dX4_isIntact_2 cl201 m46 rfl rfl rfl rfl (Nat.le_of_ble_eq_true rfl) rfl rfl rfl rfl) ?_
  refine am_bI_c (fun r1 t1 => ?_)
  refine Eq.trans (g_ifeq (t := 21) dX4_isIntact_5 rfl rfl) ?_
  refine am_ite ?_ ?_
  · refine Eq.trans (g_K (v := nI 0) dX4_isIntact_21 rfl rfl) ?_
    exact g_zl dX4_isIntact_22 rfl (Or.inl rfl)
  · refine Eq.trans (g_A dX4_isIntact_8 rfl rfl) ?_
    refine Eq.trans (g_getR dX4_isIntact_9 f59 sh4 rfl rfl) ?_
    refine Eq.trans (g_A dX4_isIntact_12 rfl rfl) ?_
    refine Eq.trans (g_iald dX4_isIntact_13 sh20 rfl) ?_
    refine am_ite ?_ rfl
    refine Eq.trans (g_ifne (t := 21) dX4_isIntact_14 rfl rfl) ?_
    refine am_ite ?_ ?_
    · refine Eq.trans (g_K (v := nI 1) dX4_isIntact_17 rfl rfl) ?_
      refine Eq.trans (g_goto (pc' := 22) dX4_isIntact_18 rfl) ?_
      exact g_zl dX4_isIntact_22 rfl (Or.inr rfl)
    · refine Eq.trans (g_K (v := nI 0) dX4_isIntact_21 rfl rfl) ?_
      exact g_zl dX4_isIntact_22 rfl (Or.inl rfl)
theorem q36_0 (C : am_C) (σ : am_M) (v1 : Int32) : am_go am_X0 C M36 0 [.ref 4, .int v1] [] σ = am_bI (C 46 [.ref 4, .int v1] σ) (fun r1 t1 => if r1 = nI 0 then (some (.inl (some (.int (nI 0))), t1)) else (if am_in v1 8 = true then (some (.inl (some (.int (t1.1 21 (v1 : Int32).toNatClampNeg))), t1)) else none)) := by
  refine Eq.trans (g_A dX4_sizeOf_0 rfl rfl) ?_
  refine Eq.trans (g_A dX4_sizeOf_1 rfl rfl) ?_
  refine Eq.trans (g_vI (a := 4) (as := [.int v1]) (rest := []) dX4_sizeOf_2 cl201 m46 rfl rfl rfl rfl (Nat.le_of_ble_eq_true rfl) rfl rfl rfl rfl) ?_
  refine am_bI_c (fun r1 t1 => ?_)
  refine Eq.trans (g_ifeq (t := 17) dX4_sizeOf_5 rfl rfl) ?_
  refine am_ite ?_ ?_
  · refine Eq.trans (g_K (v := nI 0) dX4_sizeOf_17 rfl rfl) ?_
    exact g_iret dX4_sizeOf_18 rfl
  · refine Eq.trans (g_A dX4_sizeOf_8 rfl rfl) ?_
    refine Eq.trans (g_getR dX4_sizeOf_9 f60 sh4 rfl rfl) ?_
    refine Eq.trans (g_A dX4_sizeOf_12 rfl rfl) ?_
    refine Eq.trans (g_iald dX4_sizeOf_13 sh21 rfl) ?_
    refine am_ite ?_ rfl
    refine Eq.trans (g_goto (pc' := 18) dX4_sizeOf_14 rfl) ?_
    exact g_iret dX4_sizeOf_18 rfl
theorem q37_0 (C : am_C) (σ : am_M) (v1 : Int32) : am_go am_X0 C M37 0 [.ref 4, .int v1] [] σ = am_bI (C 46 [.ref 4, .int v1] σ) (fun r1 t1 => if r1 = nI 0 then (some (.inl (some (.int (nI 0))), t1)) else (if am_in v1 8 = true then (if t1.1 20 (v1 : Int32).toNatClampNeg = nI 0 then (if am_in v1 8 = true then (some (.inl (some (.int ((nI 150) - (t1.1 21 (v1 : Int32).toNatClampNeg)))), t1)) else none) else (some (.inl (some (.int (nI 0))), t1))) else none)) := by
  refine Eq.trans (g_A dX4_roomOn_0 rfl rfl) ?_
  refine Eq.trans (g_A dX4_roomOn_1 rfl rfl) ?_
  refine Eq.trans (g_vI (a := 4) (as := [.int v1]) (rest := []) dX4_roomOn_2 cl201 m46 rfl rfl rfl rfl (Nat.le_of_ble_eq_true rfl) rfl rfl rfl rfl) ?_
  refine am_bI_c (fun r1 t1 => ?_)
  refine Eq.trans (g_ifeq (t := 30) dX4_roomOn_5 rfl rfl) ?_
  refine am_ite ?_ ?_
  · refine Eq.trans (g_K (v := nI 0) dX4_roomOn_30 rfl rfl) ?_
    exact g_iret dX4_roomOn_31 rfl
  · refine Eq.trans (g_A dX4_roomOn_8 rfl rfl) ?_
    refine Eq.trans (g_getR dX4_roomOn_9 f59 sh4 rfl rfl) ?_
    refine Eq.trans (g_A dX4_roomOn_12 rfl rfl) ?_
    refine Eq.trans (g_iald dX4_roomOn_13 sh20 rfl) ?_
    refine am_ite ?_ rfl
    refine Eq.trans (g_ifne (t := 30) dX4_roomOn_14 rfl rfl) ?_
    refine am_ite ?_ ?_
    · refine Eq.trans (g_K (v := nI 150) dX4_roomOn_17 rfl rfl) ?_
      refine Eq.trans (g_A dX4_roomOn_20 rfl rfl) ?_
      refine Eq.trans (g_getR dX4_roomOn_21 f60 sh4 rfl rfl) ?_
      refine Eq.trans (g_A dX4_roomOn_24 rfl rfl) ?_
      refine Eq.trans (g_iald dX4_roomOn_25 sh21 rfl) ?_
      refine am_ite ?_ rfl
      refine Eq.trans (g_isub dX4_roomOn_26 rfl) ?_
      refine Eq.trans (g_goto (pc' := 31) dX4_roomOn_27 rfl) ?_
      exact g_iret dX4_roomOn_31 rfl
    · refine Eq.trans (g_K (v := nI 0) dX4_roomOn_30 rfl rfl) ?_
      exact g_iret dX4_roomOn_31 rfl
theorem q38_0 (C : am_C) (σ : am_M) (v1 : Int32) : am_go am_X0 C M38 0 [.ref 4, .int v1, .null] [] σ = am_go am_X0 C M38 7 [.ref 4, .int v1, .int ((σ.1 4 5) - (nI 1))] [] σ := by
  refine Eq.trans (g_A dX4_writableBeside_0 rfl rfl) ?_
  refine Eq.trans (g_getI dX4_writableBeside_1 f58 sh4 rfl rfl) ?_
  refine Eq.trans (g_K (v := nI 1) dX4_writableBeside_4 rfl rfl) ?_
  refine Eq.trans (g_isub dX4_writableBeside_5 rfl) ?_
  refine Eq.trans (g_isn (k := 2) dX4_writableBeside_6 rfl (Nat.le_of_ble_eq_true rfl) rfl rfl rfl) ?_
  rfl
theorem q38_7 (C : am_C) (σ : am_M) (v1 v2 : Int32) : am_go am_X0 C M38 7 [.ref 4, .int v1, .int v2] [] σ = if v2 < (nI 0) then (some (.inl (some (.int (-1))), σ)) else (if v2 = v1 then (am_go am_X0 C M38 7 [.ref 4, .int v1, .int (v2 + (-1))] [] σ) else (am_bI (C 35 [.ref 4, .int v2] σ) (fun r1 t1 => if r1 = nI 0 then (am_go am_X0 C M38 7 [.ref 4, .int v1, .int (v2 + (-1))] [] t1) else (some (.inl (some (.int v2)), t1))))) := by
  refine Eq.trans (g_A dX4_writableBeside_7 rfl rfl) ?_
  refine Eq.trans (g_iflt (t := 32) dX4_writableBeside_8 rfl rfl) ?_
  refine am_ite ?_ ?_
  · refine Eq.trans (g_K (v := (-1)) dX4_writableBeside_32 rfl rfl) ?_
    exact g_iret dX4_writableBeside_33 rfl
  · refine Eq.trans (g_A dX4_writableBeside_11 rfl rfl) ?_
    refine Eq.trans (g_A dX4_writableBeside_12 rfl rfl) ?_
    refine Eq.trans (g_iceq (t := 26) dX4_writableBeside_13 rfl rfl) ?_
    refine am_ite ?_ ?_
    · refine Eq.trans (g_inc (v := v2 + (-1)) dX4_writableBeside_26 rfl (Nat.le_of_ble_eq_true rfl) rfl rfl rfl rfl) ?_
      refine Eq.trans (g_goto (pc' := 7) dX4_writableBeside_29 rfl) ?_
      rfl
    · refine Eq.trans (g_A dX4_writableBeside_16 rfl rfl) ?_
      refine Eq.trans (g_A dX4_writableBeside_17 rfl rfl) ?_
      refine Eq.trans (g_vI (a := 4) (as := [.int v2]) (rest := []) dX4_writableBeside_18 cl202 m35 rfl rfl rfl rfl (Nat.le_of_ble_eq_true rfl) rfl rfl rfl rfl) ?_
      refine am_bI_c (fun r1 t1 => ?_)
      refine Eq.trans (g_ifeq (t := 26) dX4_writableBeside_21 rfl rfl) ?_
      refine am_ite ?_ ?_
      · refine Eq.trans (g_inc (v := v2 + (-1)) dX4_writableBeside_26 rfl (Nat.le_of_ble_eq_true rfl) rfl rfl rfl rfl) ?_
        refine Eq.trans (g_goto (pc' := 7) dX4_writableBeside_29 rfl) ?_
        rfl
      · refine Eq.trans (g_A dX4_writableBeside_24 rfl rfl) ?_
        exact g_iret dX4_writableBeside_25 rfl
theorem q39_0 (C : am_C) (σ : am_M) (v1 v2 : Int32) : am_go am_X0 C M39 0 [.ref 4, .int v1, .int v2] [] σ = am_bI (C 46 [.ref 4, .int v1] σ) (fun r1 t1 => if r1 = nI 0 then (some (.inl none, t1)) else (if am_in v1 8 = true then (if v2 = nI 2 then (if am_in v1 8 = true then (some (.inl none, am_wI (am_wI t1 20 (v1 : Int32).toNatClampNeg v2) 21 (v1 : Int32).toNatClampNeg (nI 0))) else none) else (some (.inl none, am_wI t1 20 (v1 : Int32).toNatClampNeg v2))) else none)) := by
  refine Eq.trans (g_A dX4_end_0 rfl rfl) ?_
  refine Eq.trans (g_A dX4_end_1 rfl rfl) ?_
  refine Eq.trans (g_vI (a := 4) (as := [.int v1]) (rest := []) dX4_end_2 cl201 m46 rfl rfl rfl rfl (Nat.le_of_ble_eq_true rfl) rfl rfl rfl rfl) ?_
  refine am_bI_c (fun r1 t1 => ?_)
  refine Eq.trans (g_ifeq (t := 27) dX4_end_5 rfl rfl) ?_
  refine am_ite ?_ ?_
  · exact g_vret dX4_end_27 rfl
  · refine Eq.trans (g_A dX4_end_8 rfl rfl) ?_
    refine Eq.trans (g_getR dX4_end_9 f59 sh4 rfl rfl) ?_
    refine Eq.trans (g_A dX4_end_12 rfl rfl) ?_
    refine Eq.trans (g_A dX4_end_13 rfl rfl) ?_
    refine Eq.trans (g_iast dX4_end_14 sh20 rfl) ?_
    refine am_ite ?_ rfl
    refine Eq.trans (g_A dX4_end_15 rfl rfl) ?_
    refine Eq.trans (g_K (v := nI 2) dX4_end_16 rfl rfl) ?_
    refine Eq.trans (g_icne (t := 27) dX4_end_17 rfl rfl) ?_
    refine am_ite ?_ ?_
    · refine Eq.trans (g_A dX4_end_20 rfl rfl) ?_
      refine Eq.trans (g_getR dX4_end_21 f60 sh4 rfl rfl) ?_
      refine Eq.trans (g_A dX4_end_24 rfl rfl) ?_
      refine Eq.trans (g_K (v := nI 0) dX4_end_25 rfl rfl) ?_
      refine Eq.trans (g_iast dX4_end_26 sh21 rfl) ?_
      refine am_ite ?_ rfl
      exact g_vret dX4_end_27 rfl
    · exact g_vret dX4_end_27 rfl
theorem q40_0 (C : am_C) (σ : am_M) (v1 v2 v3 v4 : Int32) : am_go am_X0 C M40 0 [.ref 4, .int v1, .int v2, .int v3, .int v4, .null] [] σ = am_bI (C 36 [.ref 4, .int v1] σ) (fun r1 t1 => am_bI (C 42 [.ref 4, .int v1, .int r1] t1) (fun r2 t2 => am_bI (C 46 [.ref 4, .int v1] t2) (fun r3 t3 => if r3 = nI 0 then (some (.inl none, t3)) else (am_bI (C 37 [.ref 4, .int v1] t3) (fun r4 t4 => if r4 ≤ (nI 0) then (some (.inl none, t4)) else (am_bI (C 47 [.int r2] t4) (fun r5 t5 => if r5 = nI 0 then (some (.inl none, t5)) else (if am_in r2 1200 = true then (if am_in r2 1200 = true then (if am_in r2 1200 = true then (if am_in v1 8 = true then (if am_in v1 8 = true then (some (.inl none, am_wI (am_wI (am_wI (am_wI t5 22 (r2 : Int32).toNatClampNeg v2) 23 (r2 : Int32).toNatClampNeg v3) 24 (r2 : Int32).toNatClampNeg v4) 21 (v1 : Int32).toNatClampNeg (((am_wI (am_wI (am_wI t5 22 (r2 : Int32).toNatClampNeg v2) 23 (r2 : Int32).toNatClampNeg v3) 24 (r2 : Int32).toNatClampNeg v4).1 21 (v1 : Int32).toNatClampNeg) + (nI 1)))) else none) else none) else none) else none) else none)))))))) := by
  refine Eq.trans (g_A dX4_write_0 rfl rfl) ?_
  refine Eq.trans (g_A dX4_write_1 rfl rfl) ?_
  refine Eq.trans (g_A dX4_write_2 rfl rfl) ?_
  refine Eq.trans (g_A dX4_write_3 rfl rfl) ?_
  refine Eq.trans (g_vI (a := 4) (as := [.int v1]) (rest := [.int v1, .ref 4]) dX4_write_4 cl203 m36 rfl rfl rfl rfl (Nat.le_of_ble_eq_true rfl) rfl rfl rfl rfl) ?_
  refine am_bI_c (fun r1 t1 => ?_)
  refine Eq.trans (g_vI (a := 4) (as := [.int v1, .int r1]) (rest := []) dX4_write_7 cl204 m42 rfl rfl rfl rfl (Nat.le_of_ble_eq_true rfl) rfl rfl rfl rfl) ?_
  refine am_bI_c (fun r2 t2 => ?_)
  refine Eq.trans (g_ist (k := 5) dX4_write_10 (Nat.le_of_ble_eq_true rfl) rfl rfl rfl) ?_
  refine Eq.trans (g_A dX4_write_12 rfl rfl) ?_
  refine Eq.trans (g_A dX4_write_13 rfl rfl) ?_
  refine Eq.trans (g_vI (a := 4) (as := [.int v1]) (rest := []) dX4_write_14 cl201 m46 rfl rfl rfl rfl (Nat.le_of_ble_eq_true rfl) rfl rfl rfl rfl) ?_
  refine am_bI_c (fun r3 t3 => ?_)
  refine Eq.trans (g_ifeq (t := 71) dX4_write_17 rfl rfl) ?_
  refine am_ite ?_ ?_
  · exact g_vret dX4_write_71 rfl
  · refine Eq.trans (g_A dX4_write_20 rfl rfl) ?_
    refine Eq.trans (g_A dX4_write_21 rfl rfl) ?_
    refine Eq.trans (g_vI (a := 4) (as := [.int v1]) (rest := []) dX4_write_22 cl205 m37 rfl rfl rfl rfl (Nat.le_of_ble_eq_true rfl) rfl rfl rfl rfl) ?_
    refine am_bI_c (fun r4 t4 => ?_)
    refine Eq.trans (g_ifle (t := 71) dX4_write_25 rfl rfl) ?_
    refine am_ite ?_ ?_
    · exact g_vret dX4_write_71 rfl
    · refine Eq.trans (g_A dX4_write_28 rfl rfl) ?_
      refine Eq.trans (g_sI (as := [.int r2]) (rest := []) dX4_write_30 rfl cl206 m47 rfl rfl rfl rfl (Nat.le_of_ble_eq_true rfl) rfl rfl rfl) ?_
      refine am_bI_c (fun r5 t5 => ?_)
      refine Eq.trans (g_ifeq (t := 71) dX4_write_33 rfl rfl) ?_
      refine am_ite ?_ ?_
      · exact g_vret dX4_write_71 rfl
      · refine Eq.trans (g_A dX4_write_36 rfl rfl) ?_
        refine Eq.trans (g_getR dX4_write_37 f61 sh4 rfl rfl) ?_
        refine Eq.trans (g_A dX4_write_40 rfl rfl) ?_
        refine Eq.trans (g_A dX4_write_42 rfl rfl) ?_
        refine Eq.trans (g_iast dX4_write_43 sh22 rfl) ?_
        refine am_ite ?_ rfl
        refine Eq.trans (g_A dX4_write_44 rfl rfl) ?_
        refine Eq.trans (g_getR dX4_write_45 f62 sh4 rfl rfl) ?_
        refine Eq.trans (g_A dX4_write_48 rfl rfl) ?_
        refine Eq.trans (g_A dX4_write_50 rfl rfl) ?_
        refine Eq.trans (g_iast dX4_write_51 sh23 rfl) ?_
        refine am_ite ?_ rfl
        refine Eq.trans (g_A dX4_write_52 rfl rfl) ?_
        refine Eq.trans (g_getR dX4_write_53 f63 sh4 rfl rfl) ?_
        refine Eq.trans (g_A dX4_write_56 rfl rfl) ?_
        refine Eq.trans (g_A dX4_write_58 rfl rfl) ?_
        refine Eq.trans (g_iast dX4_write_60 sh24 rfl) ?_
        refine am_ite ?_ rfl
        refine Eq.trans (g_A dX4_write_61 rfl rfl) ?_
        refine Eq.trans (g_getR dX4_write_62 f60 sh4 rfl rfl) ?_
        refine Eq.trans (g_A dX4_write_65 rfl rfl) ?_
        refine Eq.trans (g_B dX4_write_66 rfl rfl rfl) ?_
        refine Eq.trans (g_iald dX4_write_67 sh21 rfl) ?_
        refine am_ite ?_ rfl
        refine Eq.trans (g_K (v := nI 1) dX4_write_68 rfl rfl) ?_
        refine Eq.trans (g_iadd dX4_write_69 rfl) ?_
        refine Eq.trans (g_iast dX4_write_70 sh21 rfl) ?_
        refine am_ite ?_ rfl
        exact g_vret dX4_write_71 rfl
theorem q41_0 (C : am_C) (σ : am_M) (v1 v2 : Int32) : am_go am_X0 C M41 0 [.ref 4, .int v1, .int v2] [] σ = am_bI (C 43 [.ref 4, .int v1] σ) (fun r1 t1 => am_bI (C 44 [.ref 4, .int v1] t1) (fun r2 t2 => am_bI (C 45 [.ref 4, .int v1] t2) (fun r3 t3 => am_bV (C 40 [.ref 4, .int v2, .int r1, .int r2, .int r3] t3) (fun t4 => some (.inl none, t4))))) := by
  refine Eq.trans (g_A dX4_copyEntry_0 rfl rfl) ?_
  refine Eq.trans (g_A dX4_copyEntry_1 rfl rfl) ?_
  refine Eq.trans (g_A dX4_copyEntry_2 rfl rfl) ?_
  refine Eq.trans (g_A dX4_copyEntry_3 rfl rfl) ?_
  refine Eq.trans (g_vI (a := 4) (as := [.int v1]) (rest := [.int v2, .ref 4]) dX4_copyEntry_4 cl207 m43 rfl rfl rfl rfl (Nat.le_of_ble_eq_true rfl) rfl rfl rfl rfl) ?_
  refine am_bI_c (fun r1 t1 => ?_)
  refine Eq.trans (g_A dX4_copyEntry_7 rfl rfl) ?_
  refine Eq.trans (g_A dX4_copyEntry_8 rfl rfl) ?_
  refine Eq.trans (g_vI (a := 4) (as := [.int v1]) (rest := [.int r1, .int v2, .ref 4]) dX4_copyEntry_9 cl208 m44 rfl rfl rfl rfl (Nat.le_of_ble_eq_true rfl) rfl rfl rfl rfl) ?_
  refine am_bI_c (fun r2 t2 => ?_)
  refine Eq.trans (g_A dX4_copyEntry_12 rfl rfl) ?_
  refine Eq.trans (g_A dX4_copyEntry_13 rfl rfl) ?_
  refine Eq.trans (g_vI (a := 4) (as := [.int v1]) (rest := [.int r2, .int r1, .int v2, .ref 4]) dX4_copyEntry_14 cl209 m45 rfl rfl rfl rfl (Nat.le_of_ble_eq_true rfl) rfl rfl rfl rfl) ?_
  refine am_bI_c (fun r3 t3 => ?_)
  refine Eq.trans (g_vV (a := 4) (as := [.int v2, .int r1, .int r2, .int r3]) (rest := []) dX4_copyEntry_17 cl210 m40 rfl rfl rfl rfl (Nat.le_of_ble_eq_true rfl) rfl rfl rfl rfl) ?_
  refine am_bV_c (fun t4 => ?_)
  exact g_vret dX4_copyEntry_20 rfl
theorem q42_0 (C : am_C) (σ : am_M) (v1 v2 : Int32) : am_go am_X0 C M42 0 [.ref 4, .int v1, .int v2] [] σ = some (.inl (some (.int ((v1 * (nI 150)) + v2))), σ) := by
  refine Eq.trans (g_A dX4_entryAt_0 rfl rfl) ?_
  refine Eq.trans (g_K (v := nI 150) dX4_entryAt_1 rfl rfl) ?_
  refine Eq.trans (g_imul dX4_entryAt_4 rfl) ?_
  refine Eq.trans (g_A dX4_entryAt_5 rfl rfl) ?_
  refine Eq.trans (g_iadd dX4_entryAt_6 rfl) ?_
  exact g_iret dX4_entryAt_7 rfl
theorem q43_0 (C : am_C) (σ : am_M) (v1 : Int32) : am_go am_X0 C M43 0 [.ref 4, .int v1] [] σ = am_bI (C 47 [.int v1] σ) (fun r1 t1 => if r1 = nI 0 then (some (.inl (some (.int (nI 0))), t1)) else (if am_in v1 1200 = true then (some (.inl (some (.int (t1.1 22 (v1 : Int32).toNatClampNeg))), t1)) else none)) := by
  refine Eq.trans (g_A dX4_kindOf_0 rfl rfl) ?_
  refine Eq.trans (g_sI (as := [.int v1]) (rest := []) dX4_kindOf_1 rfl cl206 m47 rfl rfl rfl rfl (Nat.le_of_ble_eq_true rfl) rfl rfl rfl) ?_
  refine am_bI_c (fun r1 t1 => ?_)
  refine Eq.trans (g_ifeq (t := 16) dX4_kindOf_4 rfl rfl) ?_
  refine am_ite ?_ ?_
  · refine Eq.trans (g_K (v := nI 0) dX4_kindOf_16 rfl rfl) ?_
    exact g_iret dX4_kindOf_17 rfl
  · refine Eq.trans (g_A dX4_kindOf_7 rfl rfl) ?_
    refine Eq.trans (g_getR dX4_kindOf_8 f61 sh4 rfl rfl) ?_
    refine Eq.trans (g_A dX4_kindOf_11 rfl rfl) ?_
    refine Eq.trans (g_iald dX4_kindOf_12 sh22 rfl) ?_
    refine am_ite ?_ rfl
    refine Eq.trans (g_goto (pc' := 17) dX4_kindOf_13 rfl) ?_
    exact g_iret dX4_kindOf_17 rfl
theorem q44_0 (C : am_C) (σ : am_M) (v1 : Int32) : am_go am_X0 C M44 0 [.ref 4, .int v1] [] σ = am_bI (C 47 [.int v1] σ) (fun r1 t1 => if r1 = nI 0 then (some (.inl (some (.int (-1))), t1)) else (if am_in v1 1200 = true then (some (.inl (some (.int (t1.1 23 (v1 : Int32).toNatClampNeg))), t1)) else none)) := by
  refine Eq.trans (g_A dX4_innerOf_0 rfl rfl) ?_
  refine Eq.trans (g_sI (as := [.int v1]) (rest := []) dX4_innerOf_1 rfl cl206 m47 rfl rfl rfl rfl (Nat.le_of_ble_eq_true rfl) rfl rfl rfl) ?_
  refine am_bI_c (fun r1 t1 => ?_)
  refine Eq.trans (g_ifeq (t := 16) dX4_innerOf_4 rfl rfl) ?_
  refine am_ite ?_ ?_
  · refine Eq.trans (g_K (v := (-1)) dX4_innerOf_16 rfl rfl) ?_
    exact g_iret dX4_innerOf_17 rfl
  · refine Eq.trans (g_A dX4_innerOf_7 rfl rfl) ?_
    refine Eq.trans (g_getR dX4_innerOf_8 f62 sh4 rfl rfl) ?_
    refine Eq.trans (g_A dX4_innerOf_11 rfl rfl) ?_
    refine Eq.trans (g_iald dX4_innerOf_12 sh23 rfl) ?_
    refine am_ite ?_ rfl
    refine Eq.trans (g_goto (pc' := 17) dX4_innerOf_13 rfl) ?_
    exact g_iret dX4_innerOf_17 rfl
theorem q45_0 (C : am_C) (σ : am_M) (v1 : Int32) : am_go am_X0 C M45 0 [.ref 4, .int v1] [] σ = am_bI (C 47 [.int v1] σ) (fun r1 t1 => if r1 = nI 0 then (some (.inl (some (.int (-1))), t1)) else (if am_in v1 1200 = true then (some (.inl (some (.int (t1.1 24 (v1 : Int32).toNatClampNeg))), t1)) else none)) := by
  refine Eq.trans (g_A dX4_outerOf_0 rfl rfl) ?_
  refine Eq.trans (g_sI (as := [.int v1]) (rest := []) dX4_outerOf_1 rfl cl206 m47 rfl rfl rfl rfl (Nat.le_of_ble_eq_true rfl) rfl rfl rfl) ?_
  refine am_bI_c (fun r1 t1 => ?_)
  refine Eq.trans (g_ifeq (t := 16) dX4_outerOf_4 rfl rfl) ?_
  refine am_ite ?_ ?_
  · refine Eq.trans (g_K (v := (-1)) dX4_outerOf_16 rfl rfl) ?_
    exact g_iret dX4_outerOf_17 rfl
  · refine Eq.trans (g_A dX4_outerOf_7 rfl rfl) ?_
    refine Eq.trans (g_getR dX4_outerOf_8 f63 sh4 rfl rfl) ?_
    refine Eq.trans (g_A dX4_outerOf_11 rfl rfl) ?_
    refine Eq.trans (g_iald dX4_outerOf_12 sh24 rfl) ?_
    refine am_ite ?_ rfl
    refine Eq.trans (g_goto (pc' := 17) dX4_outerOf_13 rfl) ?_
    exact g_iret dX4_outerOf_17 rfl
theorem q46_0 (C : am_C) (σ : am_M) (v1 : Int32) : am_go am_X0 C M46 0 [.ref 4, .int v1] [] σ = if v1 < (nI 0) then (some (.inl (some (.int (nI 0))), σ)) else (if (σ.1 4 5) ≤ v1 then (some (.inl (some (.int (nI 0))), σ)) else (if (nI 8) ≤ v1 then (some (.inl (some (.int (nI 0))), σ)) else (some (.inl (some (.int (nI 1))), σ)))) := by
  refine Eq.trans (g_A dX4_exists_0 rfl rfl) ?_
  refine Eq.trans (g_iflt (t := 22) dX4_exists_1 rfl rfl) ?_
  refine am_ite ?_ ?_
  · refine Eq.trans (g_K (v := nI 0) dX4_exists_22 rfl rfl) ?_
    exact g_zl dX4_exists_23 rfl (Or.inl rfl)
  · refine Eq.trans (g_A dX4_exists_4 rfl rfl) ?_
    refine Eq.trans (g_A dX4_exists_5 rfl rfl) ?_
    refine Eq.trans (g_getI dX4_exists_6 f58 sh4 rfl rfl) ?_
    refine Eq.trans (g_icge (t := 22) dX4_exists_9 rfl rfl) ?_
    refine am_ite ?_ ?_
    · refine Eq.trans (g_K (v := nI 0) dX4_exists_22 rfl rfl) ?_
      exact g_zl dX4_exists_23 rfl (Or.inl rfl)
    · refine Eq.trans (g_A dX4_exists_12 rfl rfl) ?_
      refine Eq.trans (g_K (v := nI 8) dX4_exists_13 rfl rfl) ?_
      refine Eq.trans (g_icge (t := 22) dX4_exists_15 rfl rfl) ?_
      refine am_ite ?_ ?_
      · refine Eq.trans (g_K (v := nI 0) dX4_exists_22 rfl rfl) ?_
        exact g_zl dX4_exists_23 rfl (Or.inl rfl)
      · refine Eq.trans (g_K (v := nI 1) dX4_exists_18 rfl rfl) ?_
        refine Eq.trans (g_goto (pc' := 23) dX4_exists_19 rfl) ?_
        exact g_zl dX4_exists_23 rfl (Or.inr rfl)
theorem q47_0 (C : am_C) (σ : am_M) (v0 : Int32) : am_go am_X0 C M47 0 [.int v0] [] σ = if v0 < (nI 0) then (some (.inl (some (.int (nI 0))), σ)) else (if (nI 1200) ≤ v0 then (some (.inl (some (.int (nI 0))), σ)) else (some (.inl (some (.int (nI 1))), σ))) := by
  refine Eq.trans (g_A dX4_isEntry_0 rfl rfl) ?_
  refine Eq.trans (g_iflt (t := 15) dX4_isEntry_1 rfl rfl) ?_
  refine am_ite ?_ ?_
  · refine Eq.trans (g_K (v := nI 0) dX4_isEntry_15 rfl rfl) ?_
    exact g_zl dX4_isEntry_16 rfl (Or.inl rfl)
  · refine Eq.trans (g_A dX4_isEntry_4 rfl rfl) ?_
    refine Eq.trans (g_K (v := nI 1200) dX4_isEntry_5 rfl rfl) ?_
    refine Eq.trans (g_icge (t := 15) dX4_isEntry_8 rfl rfl) ?_
    refine am_ite ?_ ?_
    · refine Eq.trans (g_K (v := nI 0) dX4_isEntry_15 rfl rfl) ?_
      exact g_zl dX4_isEntry_16 rfl (Or.inl rfl)
    · refine Eq.trans (g_K (v := nI 1) dX4_isEntry_11 rfl rfl) ?_
      refine Eq.trans (g_goto (pc' := 16) dX4_isEntry_12 rfl) ?_
      exact g_zl dX4_isEntry_16 rfl (Or.inr rfl)
