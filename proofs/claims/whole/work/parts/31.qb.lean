theorem q48_0 (C : am_C) (σ : am_M) : am_go am_X0 C M48 0 [.ref 9] [] σ = am_bV (C 276 [.ref 32, .int (-1)] σ) (fun t1 => some (.inl none, t1)) := by
  refine Eq.trans (g_A dX5_begin_0 rfl rfl) ?_
  refine Eq.trans (g_getR dX5_begin_1 f64 sh9 rfl rfl) ?_
  refine Eq.trans (g_K (v := (-1)) dX5_begin_4 rfl rfl) ?_
  refine Eq.trans (g_sV (as := [.ref 32, .int (-1)]) (rest := []) dX5_begin_5 rfl cl211 m276 rfl rfl rfl rfl (Nat.le_of_ble_eq_true rfl) rfl rfl rfl) ?_
  refine am_bV_c (fun t1 => ?_)
  exact g_vret dX5_begin_8 rfl
theorem q49_0 (C : am_C) (σ : am_M) (v1 : Int32) : am_go am_X0 C M49 0 [.ref 9, .int v1] [] σ = am_bI (C 54 [.ref 9, .int v1] σ) (fun r1 t1 => if r1 = (-1) then (some (.inl (some (.int (nI 0))), t1)) else (some (.inl (some (.int (nI 1))), t1))) := by
  refine Eq.trans (g_A dX5_isKept_0 rfl rfl) ?_
  refine Eq.trans (g_A dX5_isKept_1 rfl rfl) ?_
  refine Eq.trans (g_vI (a := 9) (as := [.int v1]) (rest := []) dX5_isKept_2 cl212 m54 rfl rfl rfl rfl (Nat.le_of_ble_eq_true rfl) rfl rfl rfl rfl) ?_
  refine am_bI_c (fun r1 t1 => ?_)
  refine Eq.trans (g_K (v := (-1)) dX5_isKept_5 rfl rfl) ?_
  refine Eq.trans (g_iceq (t := 13) dX5_isKept_6 rfl rfl) ?_
  refine am_ite ?_ ?_
  · refine Eq.trans (g_K (v := nI 0) dX5_isKept_13 rfl rfl) ?_
    exact g_zl dX5_isKept_14 rfl (Or.inl rfl)
  · refine Eq.trans (g_K (v := nI 1) dX5_isKept_9 rfl rfl) ?_
    refine Eq.trans (g_goto (pc' := 14) dX5_isKept_10 rfl) ?_
    exact g_zl dX5_isKept_14 rfl (Or.inr rfl)
theorem q50_0 (C : am_C) (σ : am_M) (v1 v2 : Int32) : am_go am_X0 C M50 0 [.ref 9, .int v1, .int v2, .null] [] σ = if ((v1 * (nI 13)) + v2) < (nI 0) then (some (.inl (some (.int (nI 0))), σ)) else (if (nI 52) ≤ ((v1 * (nI 13)) + v2) then (some (.inl (some (.int (nI 0))), σ)) else (if am_in ((v1 * (nI 13)) + v2) 52 = true then (some (.inl (some (.int (σ.1 33 ((v1 * (nI 13)) + v2 : Int32).toNatClampNeg))), σ)) else none)) := by
  refine Eq.trans (g_A dX5_numberOf_0 rfl rfl) ?_
  refine Eq.trans (g_K (v := nI 13) dX5_numberOf_1 rfl rfl) ?_
  refine Eq.trans (g_imul dX5_numberOf_3 rfl) ?_
  refine Eq.trans (g_A dX5_numberOf_4 rfl rfl) ?_
  refine Eq.trans (g_iadd dX5_numberOf_5 rfl) ?_
  refine Eq.trans (g_isn (k := 3) dX5_numberOf_6 rfl (Nat.le_of_ble_eq_true rfl) rfl rfl rfl) ?_
  refine Eq.trans (g_A dX5_numberOf_7 rfl rfl) ?_
  refine Eq.trans (g_iflt (t := 26) dX5_numberOf_8 rfl rfl) ?_
  refine am_ite ?_ ?_
  · refine Eq.trans (g_K (v := nI 0) dX5_numberOf_26 rfl rfl) ?_
    exact g_iret dX5_numberOf_27 rfl
  · refine Eq.trans (g_A dX5_numberOf_11 rfl rfl) ?_
    refine Eq.trans (g_K (v := nI 52) dX5_numberOf_12 rfl rfl) ?_
    refine Eq.trans (g_icge (t := 26) dX5_numberOf_14 rfl rfl) ?_
    refine am_ite ?_ ?_
    · refine Eq.trans (g_K (v := nI 0) dX5_numberOf_26 rfl rfl) ?_
      exact g_iret dX5_numberOf_27 rfl
    · refine Eq.trans (g_A dX5_numberOf_17 rfl rfl) ?_
      refine Eq.trans (g_getR dX5_numberOf_18 f65 sh9 rfl rfl) ?_
      refine Eq.trans (g_A dX5_numberOf_21 rfl rfl) ?_
      refine Eq.trans (g_iald dX5_numberOf_22 sh33 rfl) ?_
      refine am_ite ?_ rfl
      refine Eq.trans (g_goto (pc' := 27) dX5_numberOf_23 rfl) ?_
      exact g_iret dX5_numberOf_27 rfl
theorem q51_0 (C : am_C) (σ : am_M) (v1 v2 : Int32) : am_go am_X0 C M51 0 [.ref 9, .int v1, .int v2, .null, .null, .null, .null, .null, .null] [] σ = if v1 < (nI 0) then (some (.inl none, σ)) else (if v1 < (nI 4) then (am_bV (C 20 [.ref 8] σ) (fun t1 => if am_in v1 4 = true then (am_nI (C 164 [.int v2] (am_wI t1 32 (v1 : Int32).toNatClampNeg v2)) (fun r2 t2 => am_bI (C 21 [.ref 8, .int r2] t2) (fun r3 t3 => am_bV (C 55 [.ref 9, .int v1, .int (nI 0), .int r3] t3) (fun t4 => am_go am_X0 C M51 49 [.ref 9, .int v1, .int v2, .int r2, .int (nI 1), .int (nI 2), .null, .null, .null] [] t4)))) else none)) else (some (.inl none, σ))) := by
  refine Eq.trans (g_A dX5_fill_0 rfl rfl) ?_
  refine Eq.trans (g_iflt (t := 9) dX5_fill_1 rfl rfl) ?_
  refine am_ite ?_ ?_
  · exact g_vret dX5_fill_9 rfl
  · refine Eq.trans (g_A dX5_fill_4 rfl rfl) ?_
    refine Eq.trans (g_K (v := nI 4) dX5_fill_5 rfl rfl) ?_
    refine Eq.trans (g_iclt (t := 10) dX5_fill_6 rfl rfl) ?_
    refine am_ite ?_ ?_
    · refine Eq.trans (g_A dX5_fill_10 rfl rfl) ?_
      refine Eq.trans (g_getR dX5_fill_11 f66 sh9 rfl rfl) ?_
      refine Eq.trans (g_vV (a := 8) (as := []) (rest := []) dX5_fill_14 cl213 m20 rfl rfl rfl rfl (Nat.le_of_ble_eq_true rfl) rfl rfl rfl rfl) ?_
      refine am_bV_c (fun t1 => ?_)
      refine Eq.trans (g_A dX5_fill_17 rfl rfl) ?_
      refine Eq.trans (g_getR dX5_fill_18 f64 sh9 rfl rfl) ?_
      refine Eq.trans (g_A dX5_fill_21 rfl rfl) ?_
      refine Eq.trans (g_A dX5_fill_22 rfl rfl) ?_
      refine Eq.trans (g_iast dX5_fill_23 sh32 rfl) ?_
      refine am_ite ?_ rfl
      refine Eq.trans (g_A dX5_fill_24 rfl rfl) ?_
      refine Eq.trans (g_sN (as := [.int v2]) (rest := []) dX5_fill_25 rfl cl214 m164 rfl rfl rfl rfl (Nat.le_of_ble_eq_true rfl) rfl rfl) ?_
      refine am_nI_c (fun r2 t2 => ?_)
      refine Eq.trans (g_isn (k := 3) dX5_fill_28 rfl (Nat.le_of_ble_eq_true rfl) rfl rfl rfl) ?_
      refine Eq.trans (g_A dX5_fill_29 rfl rfl) ?_
      refine Eq.trans (g_A dX5_fill_30 rfl rfl) ?_
      refine Eq.trans (g_K (v := nI 0) dX5_fill_31 rfl rfl) ?_
      refine Eq.trans (g_A dX5_fill_32 rfl rfl) ?_
      refine Eq.trans (g_getR dX5_fill_33 f66 sh9 rfl rfl) ?_
      refine Eq.trans (g_A dX5_fill_36 rfl rfl) ?_
      refine Eq.trans (g_vI (a := 8) (as := [.int r2]) (rest := [.int (nI 0), .int v1, .ref 9]) dX5_fill_37 cl215 m21 rfl rfl rfl rfl (Nat.le_of_ble_eq_true rfl) rfl rfl rfl rfl) ?_
      refine am_bI_c (fun r3 t3 => ?_)
      refine Eq.trans (g_vV (a := 9) (as := [.int v1, .int (nI 0), .int r3]) (rest := []) dX5_fill_40 cl216 m55 rfl rfl rfl rfl (Nat.le_of_ble_eq_true rfl) rfl rfl rfl rfl) ?_
      refine am_bV_c (fun t4 => ?_)
      refine Eq.trans (g_K (v := nI 1) dX5_fill_43 rfl rfl) ?_
      refine Eq.trans (g_ist (k := 4) dX5_fill_44 (Nat.le_of_ble_eq_true rfl) rfl rfl rfl) ?_
      refine Eq.trans (g_K (v := nI 2) dX5_fill_46 rfl rfl) ?_
      refine Eq.trans (g_ist (k := 5) dX5_fill_47 (Nat.le_of_ble_eq_true rfl) rfl rfl rfl) ?_
      rfl
    · exact g_vret dX5_fill_9 rfl
theorem q51_49 (C : am_C) (σ : am_M) (v1 v2 v3 v4 v5 : Int32) {u6 : Value} (hu6 : (!(u6.category == 2)) = true) {u7 : Value} (hu7 : (!(u7.category == 2)) = true) {u8 : Value} (hu8 : (!(u8.category == 2)) = true) : am_go am_X0 C M51 49 [.ref 9, .int v1, .int v2, .int v3, .int v4, .int v5, u6, u7, u8] [] σ = if v5 < (nI 0) then (some (.inl none, σ)) else (am_nI (C 166 [.int v3] σ) (fun r1 t1 => am_bI (C 77 [.ref 3, .int r1] t1) (fun r2 t2 => am_bV (C 55 [.ref 9, .int v1, .int v4, .int r2] t2) (fun t3 => am_nI (C 167 [.int r1] t3) (fun r4 t4 => am_go am_X0 C M51 90 [.ref 9, .int v1, .int v2, .int v3, .int (v4 + nI 1), .int v5, .int r1, .int r4, .int r4] [] t4))))) := by
  refine Eq.trans (g_A dX5_fill_49 rfl rfl) ?_
  refine Eq.trans (g_iflt (t := 139) dX5_fill_51 rfl rfl) ?_
  refine am_ite ?_ ?_
  · exact g_vret dX5_fill_139 rfl
  · refine Eq.trans (g_A dX5_fill_54 rfl rfl) ?_
    refine Eq.trans (g_sN (as := [.int v3]) (rest := []) dX5_fill_55 rfl cl217 m166 rfl rfl rfl rfl (Nat.le_of_ble_eq_true rfl) rfl rfl) ?_
    refine am_nI_c (fun r1 t1 => ?_)
    refine Eq.trans (g_ist (k := 6) dX5_fill_58 (Nat.le_of_ble_eq_true rfl) rfl rfl rfl) ?_
    refine Eq.trans (g_A dX5_fill_60 rfl rfl) ?_
    refine Eq.trans (g_A dX5_fill_61 rfl rfl) ?_
    refine Eq.trans (g_A dX5_fill_62 rfl rfl) ?_
    refine Eq.trans (g_A dX5_fill_64 rfl rfl) ?_
    refine Eq.trans (g_getR dX5_fill_65 f67 sh9 rfl rfl) ?_
    refine Eq.trans (g_A dX5_fill_68 rfl rfl) ?_
    refine Eq.trans (g_vI (a := 3) (as := [.int r1]) (rest := [.int v4, .int v1, .ref 9]) dX5_fill_70 cl218 m77 rfl rfl rfl rfl (Nat.le_of_ble_eq_true rfl) rfl rfl rfl rfl) ?_
    refine am_bI_c (fun r2 t2 => ?_)
    refine Eq.trans (g_vV (a := 9) (as := [.int v1, .int v4, .int r2]) (rest := []) dX5_fill_73 cl216 m55 rfl rfl rfl rfl (Nat.le_of_ble_eq_true rfl) rfl rfl rfl rfl) ?_
    refine am_bV_c (fun t3 => ?_)
    refine Eq.trans (g_inc (v := v4 + nI 1) dX5_fill_76 rfl (Nat.le_of_ble_eq_true rfl) rfl rfl rfl rfl) ?_
    refine Eq.trans (g_A dX5_fill_79 rfl rfl) ?_
    refine Eq.trans (g_sN (as := [.int r1]) (rest := []) dX5_fill_81 rfl cl219 m167 rfl rfl rfl rfl (Nat.le_of_ble_eq_true rfl) rfl rfl) ?_
    refine am_nI_c (fun r4 t4 => ?_)
    refine Eq.trans (g_ist (k := 7) dX5_fill_84 (Nat.le_of_ble_eq_true rfl) rfl rfl rfl) ?_
    refine Eq.trans (g_A dX5_fill_86 rfl rfl) ?_
    refine Eq.trans (g_ist (k := 8) dX5_fill_88 (Nat.le_of_ble_eq_true rfl) rfl rfl rfl) ?_
    rfl
theorem q51_90 (C : am_C) (σ : am_M) (v1 v2 v3 v4 v5 v6 v7 v8 : Int32) : am_go am_X0 C M51 90 [.ref 9, .int v1, .int v2, .int v3, .int v4, .int v5, .int v6, .int v7, .int v8] [] σ = if (v7 + (nI 4)) ≤ v8 then (am_go am_X0 C M51 49 [.ref 9, .int v1, .int v2, .int v6, .int v4, .int (v5 + (-1)), .int v6, .int v7, .int v8] [] σ) else (if v8 = v3 then (am_go am_X0 C M51 90 [.ref 9, .int v1, .int v2, .int v3, .int v4, .int v5, .int v6, .int v7, .int (v8 + nI 1)] [] σ) else (am_bI (C 21 [.ref 8, .int v8] σ) (fun r1 t1 => am_bV (C 55 [.ref 9, .int v1, .int v4, .int r1] t1) (fun t2 => am_go am_X0 C M51 90 [.ref 9, .int v1, .int v2, .int v3, .int (v4 + nI 1), .int v5, .int v6, .int v7, .int (v8 + nI 1)] [] t2)))) := by
  refine Eq.trans (g_A dX5_fill_90 rfl rfl) ?_
  refine Eq.trans (g_A dX5_fill_92 rfl rfl) ?_
  refine Eq.trans (g_K (v := nI 4) dX5_fill_94 rfl rfl) ?_
  refine Eq.trans (g_iadd dX5_fill_95 rfl) ?_
  refine Eq.trans (g_icge (t := 130) dX5_fill_96 rfl rfl) ?_
  refine am_ite ?_ ?_
  · refine Eq.trans (g_A dX5_fill_130 rfl rfl) ?_
    refine Eq.trans (g_isn (k := 3) dX5_fill_132 rfl (Nat.le_of_ble_eq_true rfl) rfl rfl rfl) ?_
    refine Eq.trans (g_inc (v := v5 + (-1)) dX5_fill_133 rfl (Nat.le_of_ble_eq_true rfl) rfl rfl rfl rfl) ?_
    refine Eq.trans (g_goto (pc' := 49) dX5_fill_136 rfl) ?_
    rfl
  · refine Eq.trans (g_A dX5_fill_99 rfl rfl) ?_
    refine Eq.trans (g_A dX5_fill_101 rfl rfl) ?_
    refine Eq.trans (g_iceq (t := 124) dX5_fill_102 rfl rfl) ?_
    refine am_ite ?_ ?_
    · refine Eq.trans (g_inc (v := v8 + nI 1) dX5_fill_124 rfl (Nat.le_of_ble_eq_true rfl) rfl rfl rfl rfl) ?_
      refine Eq.trans (g_goto (pc' := 90) dX5_fill_127 rfl) ?_
      rfl
    · refine Eq.trans (g_A dX5_fill_105 rfl rfl) ?_
      refine Eq.trans (g_A dX5_fill_106 rfl rfl) ?_
      refine Eq.trans (g_A dX5_fill_107 rfl rfl) ?_
      refine Eq.trans (g_A dX5_fill_109 rfl rfl) ?_
      refine Eq.trans (g_getR dX5_fill_110 f66 sh9 rfl rfl) ?_
      refine Eq.trans (g_A dX5_fill_113 rfl rfl) ?_
      refine Eq.trans (g_vI (a := 8) (as := [.int v8]) (rest := [.int v4, .int v1, .ref 9]) dX5_fill_115 cl215 m21 rfl rfl rfl rfl (Nat.le_of_ble_eq_true rfl) rfl rfl rfl rfl) ?_
      refine am_bI_c (fun r1 t1 => ?_)
      refine Eq.trans (g_vV (a := 9) (as := [.int v1, .int v4, .int r1]) (rest := []) dX5_fill_118 cl216 m55 rfl rfl rfl rfl (Nat.le_of_ble_eq_true rfl) rfl rfl rfl rfl) ?_
      refine am_bV_c (fun t2 => ?_)
      refine Eq.trans (g_inc (v := v4 + nI 1) dX5_fill_121 rfl (Nat.le_of_ble_eq_true rfl) rfl rfl rfl rfl) ?_
      refine Eq.trans (g_inc (v := v8 + nI 1) dX5_fill_124 rfl (Nat.le_of_ble_eq_true rfl) rfl rfl rfl rfl) ?_
      refine Eq.trans (g_goto (pc' := 90) dX5_fill_127 rfl) ?_
      rfl
theorem q52_0 (C : am_C) (σ : am_M) (v1 v2 : Int32) : am_go am_X0 C M52 0 [.ref 9, .int v1, .int v2, .null, .null, .null, .null, .null] [] σ = am_bI (C 54 [.ref 9, .int v1] σ) (fun r1 t1 => am_nI (C 164 [.int r1] t1) (fun r2 t2 => am_go am_X0 C M52 18 [.ref 9, .int v1, .int v2, .int v2, .int r2, .int (nI 1), .int (nI 2), .null] [] t2)) := by
  refine Eq.trans (g_A dX5_rootHash_0 rfl rfl) ?_
  refine Eq.trans (g_isn (k := 3) dX5_rootHash_1 rfl (Nat.le_of_ble_eq_true rfl) rfl rfl rfl) ?_
  refine Eq.trans (g_A dX5_rootHash_2 rfl rfl) ?_
  refine Eq.trans (g_A dX5_rootHash_3 rfl rfl) ?_
  refine Eq.trans (g_vI (a := 9) (as := [.int v1]) (rest := []) dX5_rootHash_4 cl212 m54 rfl rfl rfl rfl (Nat.le_of_ble_eq_true rfl) rfl rfl rfl rfl) ?_
  refine am_bI_c (fun r1 t1 => ?_)
  refine Eq.trans (g_sN (as := [.int r1]) (rest := []) dX5_rootHash_7 rfl cl214 m164 rfl rfl rfl rfl (Nat.le_of_ble_eq_true rfl) rfl rfl) ?_
  refine am_nI_c (fun r2 t2 => ?_)
  refine Eq.trans (g_ist (k := 4) dX5_rootHash_10 (Nat.le_of_ble_eq_true rfl) rfl rfl rfl) ?_
  refine Eq.trans (g_K (v := nI 1) dX5_rootHash_12 rfl rfl) ?_
  refine Eq.trans (g_ist (k := 5) dX5_rootHash_13 (Nat.le_of_ble_eq_true rfl) rfl rfl rfl) ?_
  refine Eq.trans (g_K (v := nI 2) dX5_rootHash_15 rfl rfl) ?_
  refine Eq.trans (g_ist (k := 6) dX5_rootHash_16 (Nat.le_of_ble_eq_true rfl) rfl rfl rfl) ?_
  rfl
theorem q52_18 (C : am_C) (σ : am_M) (v1 v2 v3 v4 v5 v6 : Int32) {u7 : Value} (hu7 : (!(u7.category == 2)) = true) : am_go am_X0 C M52 18 [.ref 9, .int v1, .int v2, .int v3, .int v4, .int v5, .int v6, u7] [] σ = if v6 < (nI 0) then (some (.inl (some (.int v3)), σ)) else (am_nI (C 166 [.int v4] σ) (fun r1 t1 => am_nI (C 167 [.int r1] t1) (fun r2 t2 => am_bI (C 53 [.ref 9, .int v1, .int v5, .int (v4 - r2), .int v3] t2) (fun r3 t3 => am_go am_X0 C M52 18 [.ref 9, .int v1, .int v2, .int r3, .int r1, .int (v5 + nI 4), .int (v6 + (-1)), .int r1] [] t3)))) := by
  refine Eq.trans (g_A dX5_rootHash_18 rfl rfl) ?_
  refine Eq.trans (g_iflt (t := 60) dX5_rootHash_20 rfl rfl) ?_
  refine am_ite ?_ ?_
  · refine Eq.trans (g_A dX5_rootHash_60 rfl rfl) ?_
    exact g_iret dX5_rootHash_61 rfl
  · refine Eq.trans (g_A dX5_rootHash_23 rfl rfl) ?_
    refine Eq.trans (g_sN (as := [.int v4]) (rest := []) dX5_rootHash_25 rfl cl217 m166 rfl rfl rfl rfl (Nat.le_of_ble_eq_true rfl) rfl rfl) ?_
    refine am_nI_c (fun r1 t1 => ?_)
    refine Eq.trans (g_ist (k := 7) dX5_rootHash_28 (Nat.le_of_ble_eq_true rfl) rfl rfl rfl) ?_
    refine Eq.trans (g_A dX5_rootHash_30 rfl rfl) ?_
    refine Eq.trans (g_A dX5_rootHash_31 rfl rfl) ?_
    refine Eq.trans (g_A dX5_rootHash_32 rfl rfl) ?_
    refine Eq.trans (g_A dX5_rootHash_34 rfl rfl) ?_
    refine Eq.trans (g_A dX5_rootHash_36 rfl rfl) ?_
    refine Eq.trans (g_sN (as := [.int r1]) (rest := [.int v4, .int v5, .int v1, .ref 9]) dX5_rootHash_38 rfl cl219 m167 rfl rfl rfl rfl (Nat.le_of_ble_eq_true rfl) rfl rfl) ?_
    refine am_nI_c (fun r2 t2 => ?_)
    refine Eq.trans (g_isub dX5_rootHash_41 rfl) ?_
    refine Eq.trans (g_A dX5_rootHash_42 rfl rfl) ?_
    refine Eq.trans (g_vI (a := 9) (as := [.int v1, .int v5, .int (v4 - r2), .int v3]) (rest := []) dX5_rootHash_43 cl220 m53 rfl rfl rfl rfl (Nat.le_of_ble_eq_true rfl) rfl rfl rfl rfl) ?_
    refine am_bI_c (fun r3 t3 => ?_)
    refine Eq.trans (g_isn (k := 3) dX5_rootHash_46 rfl (Nat.le_of_ble_eq_true rfl) rfl rfl rfl) ?_
    refine Eq.trans (g_inc (v := v5 + nI 4) dX5_rootHash_47 rfl (Nat.le_of_ble_eq_true rfl) rfl rfl rfl rfl) ?_
    refine Eq.trans (g_A dX5_rootHash_50 rfl rfl) ?_
    refine Eq.trans (g_ist (k := 4) dX5_rootHash_52 (Nat.le_of_ble_eq_true rfl) rfl rfl rfl) ?_
    refine Eq.trans (g_inc (v := v6 + (-1)) dX5_rootHash_54 rfl (Nat.le_of_ble_eq_true rfl) rfl rfl rfl rfl) ?_
    refine Eq.trans (g_goto (pc' := 18) dX5_rootHash_57 rfl) ?_
    rfl
theorem q53_0 (C : am_C) (σ : am_M) (v1 v2 v3 v4 : Int32) : am_go am_X0 C M53 0 [.ref 9, .int v1, .int v2, .int v3, .int v4, .null, .null, .null, .null] [] σ = am_bI (C 50 [.ref 9, .int v1, .int v2] σ) (fun r1 t1 => if r1 = nI 0 then (some (.inl (some (.int (nI 0))), t1)) else (am_nI (C 161 [.int r1] t1) (fun r2 t2 => am_go am_X0 C M53 30 [.ref 9, .int v1, .int v2, .int v3, .int v4, .int r1, .int r2, .int (v2 + (nI 1)), .int (nI 0)] [] t2))) := by
  refine Eq.trans (g_A dX5_hashAbove_0 rfl rfl) ?_
  refine Eq.trans (g_A dX5_hashAbove_1 rfl rfl) ?_
  refine Eq.trans (g_A dX5_hashAbove_2 rfl rfl) ?_
  refine Eq.trans (g_vI (a := 9) (as := [.int v1, .int v2]) (rest := []) dX5_hashAbove_3 cl221 m50 rfl rfl rfl rfl (Nat.le_of_ble_eq_true rfl) rfl rfl rfl rfl) ?_
  refine am_bI_c (fun r1 t1 => ?_)
  refine Eq.trans (g_ist (k := 5) dX5_hashAbove_6 (Nat.le_of_ble_eq_true rfl) rfl rfl rfl) ?_
  refine Eq.trans (g_A dX5_hashAbove_8 rfl rfl) ?_
  refine Eq.trans (g_ifne (t := 15) dX5_hashAbove_10 rfl rfl) ?_
  refine am_ite ?_ ?_
  · refine Eq.trans (g_K (v := nI 0) dX5_hashAbove_13 rfl rfl) ?_
    exact g_iret dX5_hashAbove_14 rfl
  · refine Eq.trans (g_A dX5_hashAbove_15 rfl rfl) ?_
    refine Eq.trans (g_sN (as := [.int r1]) (rest := []) dX5_hashAbove_17 rfl cl222 m161 rfl rfl rfl rfl (Nat.le_of_ble_eq_true rfl) rfl rfl) ?_
    refine am_nI_c (fun r2 t2 => ?_)
    refine Eq.trans (g_ist (k := 6) dX5_hashAbove_20 (Nat.le_of_ble_eq_true rfl) rfl rfl rfl) ?_
    refine Eq.trans (g_A dX5_hashAbove_22 rfl rfl) ?_
    refine Eq.trans (g_K (v := nI 1) dX5_hashAbove_23 rfl rfl) ?_
    refine Eq.trans (g_iadd dX5_hashAbove_24 rfl) ?_
    refine Eq.trans (g_ist (k := 7) dX5_hashAbove_25 (Nat.le_of_ble_eq_true rfl) rfl rfl rfl) ?_
    refine Eq.trans (g_K (v := nI 0) dX5_hashAbove_27 rfl rfl) ?_
    refine Eq.trans (g_ist (k := 8) dX5_hashAbove_28 (Nat.le_of_ble_eq_true rfl) rfl rfl rfl) ?_
    rfl
theorem q53_30 (C : am_C) (σ : am_M) (v1 v2 v3 v4 v5 v6 v7 v8 : Int32) : am_go am_X0 C M53 30 [.ref 9, .int v1, .int v2, .int v3, .int v4, .int v5, .int v6, .int v7, .int v8] [] σ = if (nI 4) ≤ v8 then (some (.inl (some (.int v6)), σ)) else (if v8 = v3 then (am_nI (C 161 [.int (v6 ^^^ v4)] σ) (fun r3 t3 => am_go am_X0 C M53 30 [.ref 9, .int v1, .int v2, .int v3, .int v4, .int v5, .int r3, .int v7, .int (v8 + nI 1)] [] t3)) else (am_bI (C 50 [.ref 9, .int v1, .int v7] σ) (fun r1 t1 => am_nI (C 161 [.int (v6 ^^^ r1)] t1) (fun r2 t2 => am_go am_X0 C M53 30 [.ref 9, .int v1, .int v2, .int v3, .int v4, .int v5, .int r2, .int (v7 + nI 1), .int (v8 + nI 1)] [] t2)))) := by
  refine Eq.trans (g_A dX5_hashAbove_30 rfl rfl) ?_
  refine Eq.trans (g_K (v := nI 4) dX5_hashAbove_32 rfl rfl) ?_
  refine Eq.trans (g_icge (t := 79) dX5_hashAbove_33 rfl rfl) ?_
  refine am_ite ?_ ?_
  · refine Eq.trans (g_A dX5_hashAbove_79 rfl rfl) ?_
    exact g_iret dX5_hashAbove_81 rfl
  · refine Eq.trans (g_A dX5_hashAbove_36 rfl rfl) ?_
    refine Eq.trans (g_A dX5_hashAbove_38 rfl rfl) ?_
    refine Eq.trans (g_icne (t := 55) dX5_hashAbove_39 rfl rfl) ?_
    refine am_ite ?_ ?_
    · refine Eq.trans (g_A dX5_hashAbove_42 rfl rfl) ?_
      refine Eq.trans (g_A dX5_hashAbove_44 rfl rfl) ?_
      refine Eq.trans (g_ixor dX5_hashAbove_46 rfl) ?_
      refine Eq.trans (g_sN (as := [.int (v6 ^^^ v4)]) (rest := []) dX5_hashAbove_47 rfl cl222 m161 rfl rfl rfl rfl (Nat.le_of_ble_eq_true rfl) rfl rfl) ?_
      refine am_nI_c (fun r3 t3 => ?_)
      refine Eq.trans (g_ist (k := 6) dX5_hashAbove_50 (Nat.le_of_ble_eq_true rfl) rfl rfl rfl) ?_
      refine Eq.trans (g_goto (pc' := 73) dX5_hashAbove_52 rfl) ?_
      refine Eq.trans (g_inc (v := v8 + nI 1) dX5_hashAbove_73 rfl (Nat.le_of_ble_eq_true rfl) rfl rfl rfl rfl) ?_
      refine Eq.trans (g_goto (pc' := 30) dX5_hashAbove_76 rfl) ?_
      rfl
    · refine Eq.trans (g_A dX5_hashAbove_55 rfl rfl) ?_
      refine Eq.trans (g_A dX5_hashAbove_57 rfl rfl) ?_
      refine Eq.trans (g_A dX5_hashAbove_58 rfl rfl) ?_
      refine Eq.trans (g_A dX5_hashAbove_59 rfl rfl) ?_
      refine Eq.trans (g_vI (a := 9) (as := [.int v1, .int v7]) (rest := [.int v6]) dX5_hashAbove_61 cl221 m50 rfl rfl rfl rfl (Nat.le_of_ble_eq_true rfl) rfl rfl rfl rfl) ?_
      refine am_bI_c (fun r1 t1 => ?_)
      refine Eq.trans (g_ixor dX5_hashAbove_64 rfl) ?_
      refine Eq.trans (g_sN (as := [.int (v6 ^^^ r1)]) (rest := []) dX5_hashAbove_65 rfl cl222 m161 rfl rfl rfl rfl (Nat.le_of_ble_eq_true rfl) rfl rfl) ?_
      refine am_nI_c (fun r2 t2 => ?_)
      refine Eq.trans (g_ist (k := 6) dX5_hashAbove_68 (Nat.le_of_ble_eq_true rfl) rfl rfl rfl) ?_
      refine Eq.trans (g_inc (v := v7 + nI 1) dX5_hashAbove_70 rfl (Nat.le_of_ble_eq_true rfl) rfl rfl rfl rfl) ?_
      refine Eq.trans (g_inc (v := v8 + nI 1) dX5_hashAbove_73 rfl (Nat.le_of_ble_eq_true rfl) rfl rfl rfl rfl) ?_
      refine Eq.trans (g_goto (pc' := 30) dX5_hashAbove_76 rfl) ?_
      rfl
theorem q54_0 (C : am_C) (σ : am_M) (v1 : Int32) : am_go am_X0 C M54 0 [.ref 9, .int v1] [] σ = if v1 < (nI 0) then (some (.inl (some (.int (-1))), σ)) else (if (nI 4) ≤ v1 then (some (.inl (some (.int (-1))), σ)) else (if am_in v1 4 = true then (some (.inl (some (.int (σ.1 32 (v1 : Int32).toNatClampNeg))), σ)) else none)) := by
  refine Eq.trans (g_A dX5_leafIn_0 rfl rfl) ?_
  refine Eq.trans (g_iflt (t := 18) dX5_leafIn_1 rfl rfl) ?_
  refine am_ite ?_ ?_
  · refine Eq.trans (g_K (v := (-1)) dX5_leafIn_18 rfl rfl) ?_
    exact g_iret dX5_leafIn_19 rfl
  · refine Eq.trans (g_A dX5_leafIn_4 rfl rfl) ?_
    refine Eq.trans (g_K (v := nI 4) dX5_leafIn_5 rfl rfl) ?_
    refine Eq.trans (g_icge (t := 18) dX5_leafIn_6 rfl rfl) ?_
    refine am_ite ?_ ?_
    · refine Eq.trans (g_K (v := (-1)) dX5_leafIn_18 rfl rfl) ?_
      exact g_iret dX5_leafIn_19 rfl
    · refine Eq.trans (g_A dX5_leafIn_9 rfl rfl) ?_
      refine Eq.trans (g_getR dX5_leafIn_10 f64 sh9 rfl rfl) ?_
      refine Eq.trans (g_A dX5_leafIn_13 rfl rfl) ?_
      refine Eq.trans (g_iald dX5_leafIn_14 sh32 rfl) ?_
      refine am_ite ?_ rfl
      refine Eq.trans (g_goto (pc' := 19) dX5_leafIn_15 rfl) ?_
      exact g_iret dX5_leafIn_19 rfl
theorem q55_0 (C : am_C) (σ : am_M) (v1 v2 v3 : Int32) : am_go am_X0 C M55 0 [.ref 9, .int v1, .int v2, .int v3, .null] [] σ = if ((v1 * (nI 13)) + v2) < (nI 0) then (some (.inl none, σ)) else (if (nI 52) ≤ ((v1 * (nI 13)) + v2) then (some (.inl none, σ)) else (if am_in ((v1 * (nI 13)) + v2) 52 = true then (some (.inl none, am_wI σ 33 ((v1 * (nI 13)) + v2 : Int32).toNatClampNeg v3)) else none)) := by
  refine Eq.trans (g_A dX5_put_0 rfl rfl) ?_
  refine Eq.trans (g_K (v := nI 13) dX5_put_1 rfl rfl) ?_
  refine Eq.trans (g_imul dX5_put_3 rfl) ?_
  refine Eq.trans (g_A dX5_put_4 rfl rfl) ?_
  refine Eq.trans (g_iadd dX5_put_5 rfl) ?_
  refine Eq.trans (g_ist (k := 4) dX5_put_6 (Nat.le_of_ble_eq_true rfl) rfl rfl rfl) ?_
  refine Eq.trans (g_A dX5_put_8 rfl rfl) ?_
  refine Eq.trans (g_iflt (t := 28) dX5_put_10 rfl rfl) ?_
  refine am_ite ?_ ?_
  · exact g_vret dX5_put_28 rfl
  · refine Eq.trans (g_A dX5_put_13 rfl rfl) ?_
    refine Eq.trans (g_K (v := nI 52) dX5_put_15 rfl rfl) ?_
    refine Eq.trans (g_icge (t := 28) dX5_put_17 rfl rfl) ?_
    refine am_ite ?_ ?_
    · exact g_vret dX5_put_28 rfl
    · refine Eq.trans (g_A dX5_put_20 rfl rfl) ?_
      refine Eq.trans (g_getR dX5_put_21 f65 sh9 rfl rfl) ?_
      refine Eq.trans (g_A dX5_put_24 rfl rfl) ?_
      refine Eq.trans (g_A dX5_put_26 rfl rfl) ?_
      refine Eq.trans (g_iast dX5_put_27 sh33 rfl) ?_
      refine am_ite ?_ rfl
      exact g_vret dX5_put_28 rfl
theorem q56_0 (C : am_C) (σ : am_M) : am_go am_X0 C M56 0 [.ref 2] [] σ = some (.inl none, am_wI σ 2 2 (nI 0)) := by
  refine Eq.trans (g_A dX6_begin_0 rfl rfl) ?_
  refine Eq.trans (g_K (v := nI 0) dX6_begin_1 rfl rfl) ?_
  refine Eq.trans (g_put dX6_begin_2 f68 sh2 rfl rfl rfl) ?_
  exact g_vret dX6_begin_5 rfl
theorem q57_0 (C : am_C) (σ : am_M) : am_go am_X0 C M57 0 [.ref 2] [] σ = if (σ.1 2 2) < (nI 200) then (some (.inl (some (.int (nI 0))), σ)) else (some (.inl (some (.int (nI 1))), σ)) := by
  refine Eq.trans (g_A dX6_areAllUsed_0 rfl rfl) ?_
  refine Eq.trans (g_getI dX6_areAllUsed_1 f68 sh2 rfl rfl) ?_
  refine Eq.trans (g_K (v := nI 200) dX6_areAllUsed_4 rfl rfl) ?_
  refine Eq.trans (g_iclt (t := 14) dX6_areAllUsed_7 rfl rfl) ?_
  refine am_ite ?_ ?_
  · refine Eq.trans (g_K (v := nI 0) dX6_areAllUsed_14 rfl rfl) ?_
    exact g_zl dX6_areAllUsed_15 rfl (Or.inl rfl)
  · refine Eq.trans (g_K (v := nI 1) dX6_areAllUsed_10 rfl rfl) ?_
    refine Eq.trans (g_goto (pc' := 15) dX6_areAllUsed_11 rfl) ?_
    exact g_zl dX6_areAllUsed_15 rfl (Or.inr rfl)
theorem q58_0 (C : am_C) (σ : am_M) : am_go am_X0 C M58 0 [.ref 2] [] σ = some (.inl (some (.int (σ.1 2 2))), σ) := by
  refine Eq.trans (g_A dX6_number_0 rfl rfl) ?_
  refine Eq.trans (g_getI dX6_number_1 f68 sh2 rfl rfl) ?_
  exact g_iret dX6_number_4 rfl
theorem q59_0 (C : am_C) (σ : am_M) (v1 : Int32) (w2 : Int64) : am_go am_X0 C M59 0 [.ref 2, .int v1, .long w2, .null] [] σ = if (nI 200) ≤ (σ.1 2 2) then (some (.inl (some (.int ((σ.1 2 2) - (nI 1)))), σ)) else (if am_in (σ.1 2 2) 200 = true then (if am_in ((am_wJ σ 14 (σ.1 2 2 : Int32).toNatClampNeg w2).1 2 2) 200 = true then (some (.inl (some (.int (((am_wI (am_wI (am_wJ σ 14 (σ.1 2 2 : Int32).toNatClampNeg w2) 15 ((am_wJ σ 14 (σ.1 2 2 : Int32).toNatClampNeg w2).1 2 2 : Int32).toNatClampNeg v1) 2 2 (((am_wI (am_wJ σ 14 (σ.1 2 2 : Int32).toNatClampNeg w2) 15 ((am_wJ σ 14 (σ.1 2 2 : Int32).toNatClampNeg w2).1 2 2 : Int32).toNatClampNeg v1).1 2 2) + (nI 1))).1 2 2) - (nI 1)))), am_wI (am_wI (am_wJ σ 14 (σ.1 2 2 : Int32).toNatClampNeg w2) 15 ((am_wJ σ 14 (σ.1 2 2 : Int32).toNatClampNeg w2).1 2 2 : Int32).toNatClampNeg v1) 2 2 (((am_wI (am_wJ σ 14 (σ.1 2 2 : Int32).toNatClampNeg w2) 15 ((am_wJ σ 14 (σ.1 2 2 : Int32).toNatClampNeg w2).1 2 2 : Int32).toNatClampNeg v1).1 2 2) + (nI 1)))) else none) else none) := by
  refine Eq.trans (g_A dX6_add_0 rfl rfl) ?_
  refine Eq.trans (g_getI dX6_add_1 f68 sh2 rfl rfl) ?_
  refine Eq.trans (g_K (v := nI 200) dX6_add_4 rfl rfl) ?_
  refine Eq.trans (g_icge (t := 40) dX6_add_7 rfl rfl) ?_
  refine am_ite ?_ ?_
  · refine Eq.trans (g_A dX6_add_40 rfl rfl) ?_
    refine Eq.trans (g_getI dX6_add_41 f68 sh2 rfl rfl) ?_
    refine Eq.trans (g_K (v := nI 1) dX6_add_44 rfl rfl) ?_
    refine Eq.trans (g_isub dX6_add_45 rfl) ?_
    exact g_iret dX6_add_46 rfl
  · refine Eq.trans (g_A dX6_add_10 rfl rfl) ?_
    refine Eq.trans (g_getR dX6_add_11 f69 sh2 rfl rfl) ?_
    refine Eq.trans (g_A dX6_add_14 rfl rfl) ?_
    refine Eq.trans (g_getI dX6_add_15 f68 sh2 rfl rfl) ?_
    refine Eq.trans (g_A dX6_add_18 rfl rfl) ?_
    refine Eq.trans (g_last dX6_add_19 sh14 rfl) ?_
    refine am_ite ?_ rfl
    refine Eq.trans (g_A dX6_add_20 rfl rfl) ?_
    refine Eq.trans (g_getR dX6_add_21 f70 sh2 rfl rfl) ?_
    refine Eq.trans (g_A dX6_add_24 rfl rfl) ?_
    refine Eq.trans (g_getI dX6_add_25 f68 sh2 rfl rfl) ?_
    refine Eq.trans (g_A dX6_add_28 rfl rfl) ?_
    refine Eq.trans (g_iast dX6_add_29 sh15 rfl) ?_
    refine am_ite ?_ rfl
    refine Eq.trans (g_A dX6_add_30 rfl rfl) ?_
    refine Eq.trans (g_B dX6_add_31 rfl rfl rfl) ?_
    refine Eq.trans (g_getI dX6_add_32 f68 sh2 rfl rfl) ?_
    refine Eq.trans (g_K (v := nI 1) dX6_add_35 rfl rfl) ?_
    refine Eq.trans (g_iadd dX6_add_36 rfl) ?_
    refine Eq.trans (g_put dX6_add_37 f68 sh2 rfl rfl rfl) ?_
    refine Eq.trans (g_A dX6_add_40 rfl rfl) ?_
    refine Eq.trans (g_getI dX6_add_41 f68 sh2 rfl rfl) ?_
    refine Eq.trans (g_K (v := nI 1) dX6_add_44 rfl rfl) ?_
    refine Eq.trans (g_isub dX6_add_45 rfl) ?_
    exact g_iret dX6_add_46 rfl
theorem q60_0 (C : am_C) (σ : am_M) (v1 : Int32) : am_go am_X0 C M60 0 [.ref 2, .int v1] [] σ = if v1 < (nI 0) then (some (.inl (some (.int (nI 0))), σ)) else (if (σ.1 2 2) ≤ v1 then (some (.inl (some (.int (nI 0))), σ)) else (if (nI 200) ≤ v1 then (some (.inl (some (.int (nI 0))), σ)) else (some (.inl (some (.int (nI 1))), σ)))) := by
  refine Eq.trans (g_A dX6_isStored_0 rfl rfl) ?_
  refine Eq.trans (g_iflt (t := 23) dX6_isStored_1 rfl rfl) ?_
  refine am_ite ?_ ?_
  · refine Eq.trans (g_K (v := nI 0) dX6_isStored_23 rfl rfl) ?_
    exact g_zl dX6_isStored_24 rfl (Or.inl rfl)
  · refine Eq.trans (g_A dX6_isStored_4 rfl rfl) ?_
    refine Eq.trans (g_A dX6_isStored_5 rfl rfl) ?_
    refine Eq.trans (g_getI dX6_isStored_6 f68 sh2 rfl rfl) ?_
    refine Eq.trans (g_icge (t := 23) dX6_isStored_9 rfl rfl) ?_
    refine am_ite ?_ ?_
    · refine Eq.trans (g_K (v := nI 0) dX6_isStored_23 rfl rfl) ?_
      exact g_zl dX6_isStored_24 rfl (Or.inl rfl)
    · refine Eq.trans (g_A dX6_isStored_12 rfl rfl) ?_
      refine Eq.trans (g_K (v := nI 200) dX6_isStored_13 rfl rfl) ?_
      refine Eq.trans (g_icge (t := 23) dX6_isStored_16 rfl rfl) ?_
      refine am_ite ?_ ?_
      · refine Eq.trans (g_K (v := nI 0) dX6_isStored_23 rfl rfl) ?_
        exact g_zl dX6_isStored_24 rfl (Or.inl rfl)
      · refine Eq.trans (g_K (v := nI 1) dX6_isStored_19 rfl rfl) ?_
        refine Eq.trans (g_goto (pc' := 24) dX6_isStored_20 rfl) ?_
        exact g_zl dX6_isStored_24 rfl (Or.inr rfl)
theorem q61_0 (C : am_C) (σ : am_M) (v1 : Int32) : am_go am_X0 C M61 0 [.ref 2, .int v1] [] σ = am_bI (C 60 [.ref 2, .int v1] σ) (fun r1 t1 => if r1 = nI 0 then (some (.inl (some (.long (0 : Int64))), t1)) else (if am_in v1 200 = true then (some (.inl (some (.long (t1.2.1 14 (v1 : Int32).toNatClampNeg))), t1)) else none)) := by
  refine Eq.trans (g_A dX6_contentOf_0 rfl rfl) ?_
  refine Eq.trans (g_A dX6_contentOf_1 rfl rfl) ?_
  refine Eq.trans (g_vI (a := 2) (as := [.int v1]) (rest := []) dX6_contentOf_2 cl223 m60 rfl rfl rfl rfl (Nat.le_of_ble_eq_true rfl) rfl rfl rfl rfl) ?_
  refine am_bI_c (fun r1 t1 => ?_)
  refine Eq.trans (g_ifeq (t := 17) dX6_contentOf_5 rfl rfl) ?_
  refine am_ite ?_ ?_
  · refine Eq.trans (g_KJ (v := (0 : Int64)) dX6_contentOf_17 rfl rfl) ?_
    exact g_lret dX6_contentOf_18 rfl
  · refine Eq.trans (g_A dX6_contentOf_8 rfl rfl) ?_
    refine Eq.trans (g_getR dX6_contentOf_9 f69 sh2 rfl rfl) ?_
    refine Eq.trans (g_A dX6_contentOf_12 rfl rfl) ?_
    refine Eq.trans (g_lald dX6_contentOf_13 sh14 rfl) ?_
    refine am_ite ?_ rfl
    refine Eq.trans (g_goto (pc' := 18) dX6_contentOf_14 rfl) ?_
    exact g_lret dX6_contentOf_18 rfl
theorem q62_0 (C : am_C) (σ : am_M) (v1 : Int32) : am_go am_X0 C M62 0 [.ref 2, .int v1] [] σ = am_bI (C 60 [.ref 2, .int v1] σ) (fun r1 t1 => if r1 = nI 0 then (some (.inl (some (.int (-1))), t1)) else (if am_in v1 200 = true then (some (.inl (some (.int (t1.1 15 (v1 : Int32).toNatClampNeg))), t1)) else none)) := by
  refine Eq.trans (g_A dX6_leafWith_0 rfl rfl) ?_
  refine Eq.trans (g_A dX6_leafWith_1 rfl rfl) ?_
  refine Eq.trans (g_vI (a := 2) (as := [.int v1]) (rest := []) dX6_leafWith_2 cl223 m60 rfl rfl rfl rfl (Nat.le_of_ble_eq_true rfl) rfl rfl rfl rfl) ?_
  refine am_bI_c (fun r1 t1 => ?_)
  refine Eq.trans (g_ifeq (t := 17) dX6_leafWith_5 rfl rfl) ?_
  refine am_ite ?_ ?_
  · refine Eq.trans (g_K (v := (-1)) dX6_leafWith_17 rfl rfl) ?_
    exact g_iret dX6_leafWith_18 rfl
  · refine Eq.trans (g_A dX6_leafWith_8 rfl rfl) ?_
    refine Eq.trans (g_getR dX6_leafWith_9 f70 sh2 rfl rfl) ?_
    refine Eq.trans (g_A dX6_leafWith_12 rfl rfl) ?_
    refine Eq.trans (g_iald dX6_leafWith_13 sh15 rfl) ?_
    refine am_ite ?_ rfl
    refine Eq.trans (g_goto (pc' := 18) dX6_leafWith_14 rfl) ?_
    exact g_iret dX6_leafWith_18 rfl
theorem q63_0 (C : am_C) (σ : am_M) (v1 v2 : Int32) : am_go am_X0 C M63 0 [.ref 2, .int v1, .int v2] [] σ = am_bI (C 60 [.ref 2, .int v1] σ) (fun r1 t1 => if r1 = nI 0 then (some (.inl none, t1)) else (if am_in v1 200 = true then (some (.inl none, am_wI t1 15 (v1 : Int32).toNatClampNeg v2)) else none)) := by
  refine Eq.trans (g_A dX6_settle_0 rfl rfl) ?_
  refine Eq.trans (g_A dX6_settle_1 rfl rfl) ?_
  refine Eq.trans (g_vI (a := 2) (as := [.int v1]) (rest := []) dX6_settle_2 cl223 m60 rfl rfl rfl rfl (Nat.le_of_ble_eq_true rfl) rfl rfl rfl rfl) ?_
  refine am_bI_c (fun r1 t1 => ?_)
  refine Eq.trans (g_ifeq (t := 15) dX6_settle_5 rfl rfl) ?_
  refine am_ite ?_ ?_
  · exact g_vret dX6_settle_15 rfl
  · refine Eq.trans (g_A dX6_settle_8 rfl rfl) ?_
    refine Eq.trans (g_getR dX6_settle_9 f70 sh2 rfl rfl) ?_
    refine Eq.trans (g_A dX6_settle_12 rfl rfl) ?_
    refine Eq.trans (g_A dX6_settle_13 rfl rfl) ?_
    refine Eq.trans (g_iast dX6_settle_14 sh15 rfl) ?_
    refine am_ite ?_ rfl
    exact g_vret dX6_settle_15 rfl
theorem q64_0 (C : am_C) (σ : am_M) : am_go am_X0 C M64 0 [.ref 5, .null] [] σ = am_go am_X0 C M64 2 [.ref 5, .int (nI 0)] [] σ := by
  refine Eq.trans (g_K (v := nI 0) dX7_begin_0 rfl rfl) ?_
  refine Eq.trans (g_isn (k := 1) dX7_begin_1 rfl (Nat.le_of_ble_eq_true rfl) rfl rfl rfl) ?_
  rfl
theorem q64_2 (C : am_C) (σ : am_M) (v1 : Int32) : am_go am_X0 C M64 2 [.ref 5, .int v1] [] σ = am_bI (C 26 [.ref 1] σ) (fun r1 t1 => if r1 < v1 then (am_go am_X0 C M64 35 [.ref 5, .int (nI 0)] [] t1) else (if (nI 2048) < v1 then (am_go am_X0 C M64 35 [.ref 5, .int (nI 0)] [] t1) else (if am_in v1 2049 = true then (am_go am_X0 C M64 2 [.ref 5, .int (v1 + nI 1)] [] (am_wI t1 25 (v1 : Int32).toNatClampNeg (nI 0))) else none))) := by
  refine Eq.trans (g_A dX7_begin_2 rfl rfl) ?_
  refine Eq.trans (g_A dX7_begin_3 rfl rfl) ?_
  refine Eq.trans (g_getR dX7_begin_4 f71 sh5 rfl rfl) ?_
  refine Eq.trans (g_vI (a := 1) (as := []) (rest := [.int v1]) dX7_begin_7 cl224 m26 rfl rfl rfl rfl (Nat.le_of_ble_eq_true rfl) rfl rfl rfl rfl) ?_
  refine am_bI_c (fun r1 t1 => ?_)
  refine Eq.trans (g_icgt (t := 33) dX7_begin_10 rfl rfl) ?_
  refine am_ite ?_ ?_
  · refine Eq.trans (g_K (v := nI 0) dX7_begin_33 rfl rfl) ?_
    refine Eq.trans (g_isn (k := 1) dX7_begin_34 rfl (Nat.le_of_ble_eq_true rfl) rfl rfl rfl) ?_
    rfl
  · refine Eq.trans (g_A dX7_begin_13 rfl rfl) ?_
    refine Eq.trans (g_K (v := nI 2048) dX7_begin_14 rfl rfl) ?_
    refine Eq.trans (g_icgt (t := 33) dX7_begin_17 rfl rfl) ?_
    refine am_ite ?_ ?_
    · refine Eq.trans (g_K (v := nI 0) dX7_begin_33 rfl rfl) ?_
      refine Eq.trans (g_isn (k := 1) dX7_begin_34 rfl (Nat.le_of_ble_eq_true rfl) rfl rfl rfl) ?_
      rfl
    · refine Eq.trans (g_A dX7_begin_20 rfl rfl) ?_
      refine Eq.trans (g_getR dX7_begin_21 f72 sh5 rfl rfl) ?_
      refine Eq.trans (g_A dX7_begin_24 rfl rfl) ?_
      refine Eq.trans (g_K (v := nI 0) dX7_begin_25 rfl rfl) ?_
      refine Eq.trans (g_iast dX7_begin_26 sh25 rfl) ?_
      refine am_ite ?_ rfl
      refine Eq.trans (g_inc (v := v1 + nI 1) dX7_begin_27 rfl (Nat.le_of_ble_eq_true rfl) rfl rfl rfl rfl) ?_
      refine Eq.trans (g_goto (pc' := 2) dX7_begin_30 rfl) ?_
      rfl
theorem q64_35 (C : am_C) (σ : am_M) (v1 : Int32) : am_go am_X0 C M64 35 [.ref 5, .int v1] [] σ = if (nI 200) ≤ v1 then (some (.inl none, σ)) else (if am_in v1 200 = true then (am_go am_X0 C M64 35 [.ref 5, .int (v1 + nI 1)] [] (am_wI σ 26 (v1 : Int32).toNatClampNeg (vp_nar .boolean (nI 0)))) else none) := by
  refine Eq.trans (g_A dX7_begin_35 rfl rfl) ?_
  refine Eq.trans (g_K (v := nI 200) dX7_begin_36 rfl rfl) ?_
  refine Eq.trans (g_icge (t := 55) dX7_begin_39 rfl rfl) ?_
  refine am_ite ?_ ?_
  · exact g_vret dX7_begin_55 rfl
  · refine Eq.trans (g_A dX7_begin_42 rfl rfl) ?_
    refine Eq.trans (g_getR dX7_begin_43 f73 sh5 rfl rfl) ?_
    refine Eq.trans (g_A dX7_begin_46 rfl rfl) ?_
    refine Eq.trans (g_K (v := nI 0) dX7_begin_47 rfl rfl) ?_
    refine Eq.trans (g_bast dX7_begin_48 sh26 rfl) ?_
    refine am_ite ?_ rfl
    refine Eq.trans (g_inc (v := v1 + nI 1) dX7_begin_49 rfl (Nat.le_of_ble_eq_true rfl) rfl rfl rfl rfl) ?_
    refine Eq.trans (g_goto (pc' := 35) dX7_begin_52 rfl) ?_
    rfl
theorem q65_0 (C : am_C) (σ : am_M) (v1 : Int32) : am_go am_X0 C M65 0 [.ref 5, .int v1] [] σ = am_bI (C 60 [.ref 2, .int v1] σ) (fun r1 t1 => if r1 = nI 0 then (some (.inl none, t1)) else (if am_in v1 200 = true then (some (.inl none, am_wI t1 26 (v1 : Int32).toNatClampNeg (vp_nar .boolean (nI 1)))) else none)) := by
  refine Eq.trans (g_A dX7_want_0 rfl rfl) ?_
  refine Eq.trans (g_getR dX7_want_1 f74 sh5 rfl rfl) ?_
  refine Eq.trans (g_A dX7_want_4 rfl rfl) ?_
  refine Eq.trans (g_vI (a := 2) (as := [.int v1]) (rest := []) dX7_want_5 cl225 m60 rfl rfl rfl rfl (Nat.le_of_ble_eq_true rfl) rfl rfl rfl rfl) ?_
  refine am_bI_c (fun r1 t1 => ?_)
  refine Eq.trans (g_ifeq (t := 18) dX7_want_8 rfl rfl) ?_
  refine am_ite ?_ ?_
  · exact g_vret dX7_want_18 rfl
  · refine Eq.trans (g_A dX7_want_11 rfl rfl) ?_
    refine Eq.trans (g_getR dX7_want_12 f73 sh5 rfl rfl) ?_
    refine Eq.trans (g_A dX7_want_15 rfl rfl) ?_
    refine Eq.trans (g_K (v := nI 1) dX7_want_16 rfl rfl) ?_
    refine Eq.trans (g_bast dX7_want_17 sh26 rfl) ?_
    refine am_ite ?_ rfl
    exact g_vret dX7_want_18 rfl
theorem q66_0 (C : am_C) (σ : am_M) (v1 : Int32) : am_go am_X0 C M66 0 [.ref 5, .int v1] [] σ = am_bI (C 60 [.ref 2, .int v1] σ) (fun r1 t1 => if r1 = nI 0 then (some (.inl (some (.int (nI 0))), t1)) else (if am_in v1 200 = true then (if t1.1 26 (v1 : Int32).toNatClampNeg = nI 0 then (some (.inl (some (.int (nI 0))), t1)) else (some (.inl (some (.int (nI 1))), t1))) else none)) := by
  refine Eq.trans (g_A dX7_isWanted_0 rfl rfl) ?_
  refine Eq.trans (g_getR dX7_isWanted_1 f74 sh5 rfl rfl) ?_
  refine Eq.trans (g_A dX7_isWanted_4 rfl rfl) ?_
  refine Eq.trans (g_vI (a := 2) (as := [.int v1]) (rest := []) dX7_isWanted_5 cl225 m60 rfl rfl rfl rfl (Nat.le_of_ble_eq_true rfl) rfl rfl rfl rfl) ?_
  refine am_bI_c (fun r1 t1 => ?_)
  refine Eq.trans (g_ifeq (t := 24) dX7_isWanted_8 rfl rfl) ?_
  refine am_ite ?_ ?_
  · refine Eq.trans (g_K (v := nI 0) dX7_isWanted_24 rfl rfl) ?_
    exact g_zl dX7_isWanted_25 rfl (Or.inl rfl)
  · refine Eq.trans (g_A dX7_isWanted_11 rfl rfl) ?_
    refine Eq.trans (g_getR dX7_isWanted_12 f73 sh5 rfl rfl) ?_
    refine Eq.trans (g_A dX7_isWanted_15 rfl rfl) ?_
    refine Eq.trans (g_bald dX7_isWanted_16 sh26 rfl) ?_
    refine am_ite ?_ rfl
    refine Eq.trans (g_ifeq (t := 24) dX7_isWanted_17 rfl rfl) ?_
    refine am_ite ?_ ?_
    · refine Eq.trans (g_K (v := nI 0) dX7_isWanted_24 rfl rfl) ?_
      exact g_zl dX7_isWanted_25 rfl (Or.inl rfl)
    · refine Eq.trans (g_K (v := nI 1) dX7_isWanted_20 rfl rfl) ?_
      refine Eq.trans (g_goto (pc' := 25) dX7_isWanted_21 rfl) ?_
      exact g_zl dX7_isWanted_25 rfl (Or.inr rfl)
theorem q67_0 (C : am_C) (σ : am_M) (v1 : Int32) : am_go am_X0 C M67 0 [.ref 5, .int v1] [] σ = am_bI (C 24 [.ref 1, .int v1] σ) (fun r1 t1 => if r1 = nI 0 then (some (.inl (some (.int (nI 0))), t1)) else (if am_in v1 2049 = true then (some (.inl (some (.int (t1.1 25 (v1 : Int32).toNatClampNeg))), t1)) else none)) := by
  refine Eq.trans (g_A dX7_stepsFrom_0 rfl rfl) ?_
  refine Eq.trans (g_getR dX7_stepsFrom_1 f71 sh5 rfl rfl) ?_
  refine Eq.trans (g_A dX7_stepsFrom_4 rfl rfl) ?_
  refine Eq.trans (g_vI (a := 1) (as := [.int v1]) (rest := []) dX7_stepsFrom_5 cl226 m24 rfl rfl rfl rfl (Nat.le_of_ble_eq_true rfl) rfl rfl rfl rfl) ?_
  refine am_bI_c (fun r1 t1 => ?_)
  refine Eq.trans (g_ifeq (t := 20) dX7_stepsFrom_8 rfl rfl) ?_
  refine am_ite ?_ ?_
  · refine Eq.trans (g_K (v := nI 0) dX7_stepsFrom_20 rfl rfl) ?_
    exact g_iret dX7_stepsFrom_21 rfl
  · refine Eq.trans (g_A dX7_stepsFrom_11 rfl rfl) ?_
    refine Eq.trans (g_getR dX7_stepsFrom_12 f72 sh5 rfl rfl) ?_
    refine Eq.trans (g_A dX7_stepsFrom_15 rfl rfl) ?_
    refine Eq.trans (g_iald dX7_stepsFrom_16 sh25 rfl) ?_
    refine am_ite ?_ rfl
    refine Eq.trans (g_goto (pc' := 21) dX7_stepsFrom_17 rfl) ?_
    exact g_iret dX7_stepsFrom_21 rfl
theorem q68_0 (C : am_C) (σ : am_M) (v1 : Int32) : am_go am_X0 C M68 0 [.ref 5, .int v1] [] σ = am_bV (C 64 [.ref 5] σ) (fun t1 => am_bV (C 65 [.ref 5, .int v1] t1) (fun t2 => am_bV (C 69 [.ref 5] t2) (fun t3 => some (.inl none, t3)))) := by
  refine Eq.trans (g_A dX7_findKeysOpening_0 rfl rfl) ?_
  refine Eq.trans (g_vV (a := 5) (as := []) (rest := []) dX7_findKeysOpening_1 cl227 m64 rfl rfl rfl rfl (Nat.le_of_ble_eq_true rfl) rfl rfl rfl rfl) ?_
  refine am_bV_c (fun t1 => ?_)
  refine Eq.trans (g_A dX7_findKeysOpening_4 rfl rfl) ?_
  refine Eq.trans (g_A dX7_findKeysOpening_5 rfl rfl) ?_
  refine Eq.trans (g_vV (a := 5) (as := [.int v1]) (rest := []) dX7_findKeysOpening_6 cl228 m65 rfl rfl rfl rfl (Nat.le_of_ble_eq_true rfl) rfl rfl rfl rfl) ?_
  refine am_bV_c (fun t2 => ?_)
  refine Eq.trans (g_A dX7_findKeysOpening_9 rfl rfl) ?_
  refine Eq.trans (g_vV (a := 5) (as := []) (rest := []) dX7_findKeysOpening_10 cl229 m69 rfl rfl rfl rfl (Nat.le_of_ble_eq_true rfl) rfl rfl rfl rfl) ?_
  refine am_bV_c (fun t3 => ?_)
  exact g_vret dX7_findKeysOpening_13 rfl
theorem q69_0 (C : am_C) (σ : am_M) : am_go am_X0 C M69 0 [.ref 5, .null, .null, .null] [] σ = am_go am_X0 C M69 2 [.ref 5, .int (nI 0), .null, .null] [] σ := by
  refine Eq.trans (g_K (v := nI 0) dX7_findKeys_0 rfl rfl) ?_
  refine Eq.trans (g_isn (k := 1) dX7_findKeys_1 rfl (Nat.le_of_ble_eq_true rfl) rfl rfl rfl) ?_
  rfl
theorem q69_2 (C : am_C) (σ : am_M) (v1 : Int32) {u2 : Value} (hu2 : (!(u2.category == 2)) = true) {u3 : Value} (hu3 : (!(u3.category == 2)) = true) : am_go am_X0 C M69 2 [.ref 5, .int v1, u2, u3] [] σ = am_bI (C 32 [.ref 4] σ) (fun r1 t1 => if r1 ≤ v1 then (am_go am_X0 C M69 91 [.ref 5, .int (nI 1), u2, u3] [] t1) else (am_go am_X0 C M69 15 [.ref 5, .int v1, .int (nI 0), u3] [] t1)) := by
  refine Eq.trans (g_A dX7_findKeys_2 rfl rfl) ?_
  refine Eq.trans (g_A dX7_findKeys_3 rfl rfl) ?_
  refine Eq.trans (g_getR dX7_findKeys_4 f75 sh5 rfl rfl) ?_
  refine Eq.trans (g_vI (a := 4) (as := []) (rest := [.int v1]) dX7_findKeys_7 cl230 m32 rfl rfl rfl rfl (Nat.le_of_ble_eq_true rfl) rfl rfl rfl rfl) ?_
  refine am_bI_c (fun r1 t1 => ?_)
  refine Eq.trans (g_icge (t := 89) dX7_findKeys_10 rfl rfl) ?_
  refine am_ite ?_ ?_
  · refine Eq.trans (g_K (v := nI 1) dX7_findKeys_89 rfl rfl) ?_
    refine Eq.trans (g_isn (k := 1) dX7_findKeys_90 rfl (Nat.le_of_ble_eq_true rfl) rfl rfl rfl) ?_
    rfl
  · refine Eq.trans (g_K (v := nI 0) dX7_findKeys_13 rfl rfl) ?_
    refine Eq.trans (g_isn (k := 2) dX7_findKeys_14 rfl (Nat.le_of_ble_eq_true rfl) rfl rfl rfl) ?_
    rfl
theorem q69_15 (C : am_C) (σ : am_M) (v1 v2 : Int32) {u3 : Value} (hu3 : (!(u3.category == 2)) = true) : am_go am_X0 C M69 15 [.ref 5, .int v1, .int v2, u3] [] σ = am_bI (C 36 [.ref 4, .int v1] σ) (fun r1 t1 => if r1 ≤ v2 then (am_go am_X0 C M69 2 [.ref 5, .int (v1 + nI 1), .int v2, u3] [] t1) else (am_bI (C 42 [.ref 4, .int v1, .int v2] t1) (fun r2 t2 => am_bI (C 43 [.ref 4, .int r2] t2) (fun r3 t3 => if r3 = nI 1 then (am_bI (C 44 [.ref 4, .int r2] t3) (fun r4 t4 => am_bI (C 66 [.ref 5, .int r4] t4) (fun r5 t5 => if r5 = nI 0 then (am_go am_X0 C M69 15 [.ref 5, .int v1, .int (v2 + nI 1), .int r2] [] t5) else (am_bI (C 45 [.ref 4, .int r2] t5) (fun r6 t6 => am_bV (C 75 [.ref 5, .int r6, .int (nI 1)] t6) (fun t7 => am_go am_X0 C M69 15 [.ref 5, .int v1, .int (v2 + nI 1), .int r2] [] t7)))))) else (am_go am_X0 C M69 15 [.ref 5, .int v1, .int (v2 + nI 1), .int r2] [] t3))))) := by
  refine Eq.trans (g_A dX7_findKeys_15 rfl rfl) ?_
  refine Eq.trans (g_A dX7_findKeys_16 rfl rfl) ?_
  refine Eq.trans (g_getR dX7_findKeys_17 f75 sh5 rfl rfl) ?_
  refine Eq.trans (g_A dX7_findKeys_20 rfl rfl) ?_
  refine Eq.trans (g_vI (a := 4) (as := [.int v1]) (rest := [.int v2]) dX7_findKeys_21 cl231 m36 rfl rfl rfl rfl (Nat.le_of_ble_eq_true rfl) rfl rfl rfl rfl) ?_
  refine am_bI_c (fun r1 t1 => ?_)
  refine Eq.trans (g_icge (t := 83) dX7_findKeys_24 rfl rfl) ?_
  refine am_ite ?_ ?_
  · refine Eq.trans (g_inc (v := v1 + nI 1) dX7_findKeys_83 rfl (Nat.le_of_ble_eq_true rfl) rfl rfl rfl rfl) ?_
    refine Eq.trans (g_goto (pc' := 2) dX7_findKeys_86 rfl) ?_
    rfl
  · refine Eq.trans (g_A dX7_findKeys_27 rfl rfl) ?_
    refine Eq.trans (g_getR dX7_findKeys_28 f75 sh5 rfl rfl) ?_
    refine Eq.trans (g_A dX7_findKeys_31 rfl rfl) ?_
    refine Eq.trans (g_A dX7_findKeys_32 rfl rfl) ?_
    refine Eq.trans (g_vI (a := 4) (as := [.int v1, .int v2]) (rest := []) dX7_findKeys_33 cl232 m42 rfl rfl rfl rfl (Nat.le_of_ble_eq_true rfl) rfl rfl rfl rfl) ?_
    refine am_bI_c (fun r2 t2 => ?_)
    refine Eq.trans (g_isn (k := 3) dX7_findKeys_36 rfl (Nat.le_of_ble_eq_true rfl) rfl rfl rfl) ?_
    refine Eq.trans (g_A dX7_findKeys_37 rfl rfl) ?_
    refine Eq.trans (g_getR dX7_findKeys_38 f75 sh5 rfl rfl) ?_
    refine Eq.trans (g_A dX7_findKeys_41 rfl rfl) ?_
    refine Eq.trans (g_vI (a := 4) (as := [.int r2]) (rest := []) dX7_findKeys_42 cl233 m43 rfl rfl rfl rfl (Nat.le_of_ble_eq_true rfl) rfl rfl rfl rfl) ?_
    refine am_bI_c (fun r3 t3 => ?_)
    refine Eq.trans (g_K (v := nI 1) dX7_findKeys_45 rfl rfl) ?_
    refine Eq.trans (g_icne (t := 77) dX7_findKeys_46 rfl rfl) ?_
    refine am_ite ?_ ?_
    · refine Eq.trans (g_A dX7_findKeys_49 rfl rfl) ?_
      refine Eq.trans (g_A dX7_findKeys_50 rfl rfl) ?_
      refine Eq.trans (g_getR dX7_findKeys_51 f75 sh5 rfl rfl) ?_
      refine Eq.trans (g_A dX7_findKeys_54 rfl rfl) ?_
      refine Eq.trans (g_vI (a := 4) (as := [.int r2]) (rest := [.ref 5]) dX7_findKeys_55 cl234 m44 rfl rfl rfl rfl (Nat.le_of_ble_eq_true rfl) rfl rfl rfl rfl) ?_
      refine am_bI_c (fun r4 t4 => ?_)
      refine Eq.trans (g_vI (a := 5) (as := [.int r4]) (rest := []) dX7_findKeys_58 cl235 m66 rfl rfl rfl rfl (Nat.le_of_ble_eq_true rfl) rfl rfl rfl rfl) ?_
      refine am_bI_c (fun r5 t5 => ?_)
      refine Eq.trans (g_ifeq (t := 77) dX7_findKeys_61 rfl rfl) ?_
      refine am_ite ?_ ?_
      · refine Eq.trans (g_inc (v := v2 + nI 1) dX7_findKeys_77 rfl (Nat.le_of_ble_eq_true rfl) rfl rfl rfl rfl) ?_
        refine Eq.trans (g_goto (pc' := 15) dX7_findKeys_80 rfl) ?_
        rfl
      · refine Eq.trans (g_A dX7_findKeys_64 rfl rfl) ?_
        refine Eq.trans (g_A dX7_findKeys_65 rfl rfl) ?_
        refine Eq.trans (g_getR dX7_findKeys_66 f75 sh5 rfl rfl) ?_
        refine Eq.trans (g_A dX7_findKeys_69 rfl rfl) ?_
        refine Eq.trans (g_vI (a := 4) (as := [.int r2]) (rest := [.ref 5]) dX7_findKeys_70 cl236 m45 rfl rfl rfl rfl (Nat.le_of_ble_eq_true rfl) rfl rfl rfl rfl) ?_
        refine am_bI_c (fun r6 t6 => ?_)
        refine Eq.trans (g_K (v := nI 1) dX7_findKeys_73 rfl rfl) ?_
        refine Eq.trans (g_vV (a := 5) (as := [.int r6, .int (nI 1)]) (rest := []) dX7_findKeys_74 cl237 m75 rfl rfl rfl rfl (Nat.le_of_ble_eq_true rfl) rfl rfl rfl rfl) ?_
        refine am_bV_c (fun t7 => ?_)
        refine Eq.trans (g_inc (v := v2 + nI 1) dX7_findKeys_77 rfl (Nat.le_of_ble_eq_true rfl) rfl rfl rfl rfl) ?_
        refine Eq.trans (g_goto (pc' := 15) dX7_findKeys_80 rfl) ?_
        rfl
    · refine Eq.trans (g_inc (v := v2 + nI 1) dX7_findKeys_77 rfl (Nat.le_of_ble_eq_true rfl) rfl rfl rfl rfl) ?_
      refine Eq.trans (g_goto (pc' := 15) dX7_findKeys_80 rfl) ?_
      rfl
theorem q69_91 (C : am_C) (σ : am_M) (v1 : Int32) {u2 : Value} (hu2 : (!(u2.category == 2)) = true) {u3 : Value} (hu3 : (!(u3.category == 2)) = true) : am_go am_X0 C M69 91 [.ref 5, .int v1, u2, u3] [] σ = if (nI 3) < v1 then (some (.inl none, σ)) else (am_go am_X0 C M69 98 [.ref 5, .int v1, .int (nI 0), u3] [] σ) := by
  refine Eq.trans (g_A dX7_findKeys_91 rfl rfl) ?_
  refine Eq.trans (g_K (v := nI 3) dX7_findKeys_92 rfl rfl) ?_
  refine Eq.trans (g_icgt (t := 127) dX7_findKeys_93 rfl rfl) ?_
  refine am_ite ?_ ?_
  · exact g_vret dX7_findKeys_127 rfl
  · refine Eq.trans (g_K (v := nI 0) dX7_findKeys_96 rfl rfl) ?_
    refine Eq.trans (g_isn (k := 2) dX7_findKeys_97 rfl (Nat.le_of_ble_eq_true rfl) rfl rfl rfl) ?_
    rfl
theorem q69_98 (C : am_C) (σ : am_M) (v1 v2 : Int32) {u3 : Value} (hu3 : (!(u3.category == 2)) = true) : am_go am_X0 C M69 98 [.ref 5, .int v1, .int v2, u3] [] σ = am_bI (C 32 [.ref 4] σ) (fun r1 t1 => if r1 ≤ v2 then (am_go am_X0 C M69 91 [.ref 5, .int (v1 + nI 1), .int v2, u3] [] t1) else (am_bV (C 73 [.ref 5, .int v2, .int v1] t1) (fun t2 => am_go am_X0 C M69 98 [.ref 5, .int v1, .int (v2 + nI 1), u3] [] t2))) := by
  refine Eq.trans (g_A dX7_findKeys_98 rfl rfl) ?_
  refine Eq.trans (g_A dX7_findKeys_99 rfl rfl) ?_
  refine Eq.trans (g_getR dX7_findKeys_100 f75 sh5 rfl rfl) ?_
  refine Eq.trans (g_vI (a := 4) (as := []) (rest := [.int v2]) dX7_findKeys_103 cl230 m32 rfl rfl rfl rfl (Nat.le_of_ble_eq_true rfl) rfl rfl rfl rfl) ?_
  refine am_bI_c (fun r1 t1 => ?_)
  refine Eq.trans (g_icge (t := 121) dX7_findKeys_106 rfl rfl) ?_
  refine am_ite ?_ ?_
  · refine Eq.trans (g_inc (v := v1 + nI 1) dX7_findKeys_121 rfl (Nat.le_of_ble_eq_true rfl) rfl rfl rfl rfl) ?_
    refine Eq.trans (g_goto (pc' := 91) dX7_findKeys_124 rfl) ?_
    rfl
  · refine Eq.trans (g_A dX7_findKeys_109 rfl rfl) ?_
    refine Eq.trans (g_A dX7_findKeys_110 rfl rfl) ?_
    refine Eq.trans (g_A dX7_findKeys_111 rfl rfl) ?_
    refine Eq.trans (g_vV (a := 5) (as := [.int v2, .int v1]) (rest := []) dX7_findKeys_112 cl238 m73 rfl rfl rfl rfl (Nat.le_of_ble_eq_true rfl) rfl rfl rfl rfl) ?_
    refine am_bV_c (fun t2 => ?_)
    refine Eq.trans (g_inc (v := v2 + nI 1) dX7_findKeys_115 rfl (Nat.le_of_ble_eq_true rfl) rfl rfl rfl rfl) ?_
    refine Eq.trans (g_goto (pc' := 98) dX7_findKeys_118 rfl) ?_
    rfl
theorem q70_0 (C : am_C) (σ : am_M) (v1 v2 v3 : Int32) : am_go am_X0 C M70 0 [.ref 5, .int v1, .int v2, .int v3, .null, .null, .null] [] σ = am_bV (C 64 [.ref 5] σ) (fun t1 => am_bV (C 75 [.ref 5, .int v1, .int (nI 1)] t1) (fun t2 => am_go am_X0 C M70 13 [.ref 5, .int v1, .int v2, .int v3, .int (nI 1), .null, .null] [] t2)) := by
  refine Eq.trans (g_A dX7_findRecordsOpenedBy_0 rfl rfl) ?_
  refine Eq.trans (g_vV (a := 5) (as := []) (rest := []) dX7_findRecordsOpenedBy_1 cl227 m64 rfl rfl rfl rfl (Nat.le_of_ble_eq_true rfl) rfl rfl rfl rfl) ?_
  refine am_bV_c (fun t1 => ?_)
  refine Eq.trans (g_A dX7_findRecordsOpenedBy_4 rfl rfl) ?_
  refine Eq.trans (g_A dX7_findRecordsOpenedBy_5 rfl rfl) ?_
  refine Eq.trans (g_K (v := nI 1) dX7_findRecordsOpenedBy_6 rfl rfl) ?_
  refine Eq.trans (g_vV (a := 5) (as := [.int v1, .int (nI 1)]) (rest := []) dX7_findRecordsOpenedBy_7 cl237 m75 rfl rfl rfl rfl (Nat.le_of_ble_eq_true rfl) rfl rfl rfl rfl) ?_
  refine am_bV_c (fun t2 => ?_)
  refine Eq.trans (g_K (v := nI 1) dX7_findRecordsOpenedBy_10 rfl rfl) ?_
  refine Eq.trans (g_ist (k := 4) dX7_findRecordsOpenedBy_11 (Nat.le_of_ble_eq_true rfl) rfl rfl rfl) ?_
  rfl
theorem q70_13 (C : am_C) (σ : am_M) (v1 v2 v3 v4 : Int32) {u5 : Value} (hu5 : (!(u5.category == 2)) = true) : am_go am_X0 C M70 13 [.ref 5, .int v1, .int v2, .int v3, .int v4, u5, .null] [] σ = if (nI 3) < v4 then (am_go am_X0 C M70 51 [.ref 5, .int v1, .int v2, .int v3, .int v2, u5, .null] [] σ) else (am_go am_X0 C M70 22 [.ref 5, .int v1, .int v2, .int v3, .int v4, .int v2, .null] [] σ) := by
  refine Eq.trans (g_A dX7_findRecordsOpenedBy_13 rfl rfl) ?_
  refine Eq.trans (g_K (v := nI 3) dX7_findRecordsOpenedBy_15 rfl rfl) ?_
  refine Eq.trans (g_icgt (t := 48) dX7_findRecordsOpenedBy_16 rfl rfl) ?_
  refine am_ite ?_ ?_
  · refine Eq.trans (g_A dX7_findRecordsOpenedBy_48 rfl rfl) ?_
    refine Eq.trans (g_ist (k := 4) dX7_findRecordsOpenedBy_49 (Nat.le_of_ble_eq_true rfl) rfl rfl rfl) ?_
    rfl
  · refine Eq.trans (g_A dX7_findRecordsOpenedBy_19 rfl rfl) ?_
    refine Eq.trans (g_ist (k := 5) dX7_findRecordsOpenedBy_20 (Nat.le_of_ble_eq_true rfl) rfl rfl rfl) ?_
    rfl
theorem q70_22 (C : am_C) (σ : am_M) (v1 v2 v3 v4 v5 : Int32) : am_go am_X0 C M70 22 [.ref 5, .int v1, .int v2, .int v3, .int v4, .int v5, .null] [] σ = if v3 < v5 then (am_go am_X0 C M70 13 [.ref 5, .int v1, .int v2, .int v3, .int (v4 + nI 1), .int v5, .null] [] σ) else (am_bV (C 74 [.ref 5, .int v5, .int v4] σ) (fun t1 => am_go am_X0 C M70 22 [.ref 5, .int v1, .int v2, .int v3, .int v4, .int (v5 + nI 1), .null] [] t1)) := by
  refine Eq.trans (g_A dX7_findRecordsOpenedBy_22 rfl rfl) ?_
  refine Eq.trans (g_A dX7_findRecordsOpenedBy_24 rfl rfl) ?_
  refine Eq.trans (g_icgt (t := 42) dX7_findRecordsOpenedBy_25 rfl rfl) ?_
  refine am_ite ?_ ?_
  · refine Eq.trans (g_inc (v := v4 + nI 1) dX7_findRecordsOpenedBy_42 rfl (Nat.le_of_ble_eq_true rfl) rfl rfl rfl rfl) ?_
    refine Eq.trans (g_goto (pc' := 13) dX7_findRecordsOpenedBy_45 rfl) ?_
    rfl
  · refine Eq.trans (g_A dX7_findRecordsOpenedBy_28 rfl rfl) ?_
    refine Eq.trans (g_A dX7_findRecordsOpenedBy_29 rfl rfl) ?_
    refine Eq.trans (g_A dX7_findRecordsOpenedBy_31 rfl rfl) ?_
    refine Eq.trans (g_vV (a := 5) (as := [.int v5, .int v4]) (rest := []) dX7_findRecordsOpenedBy_33 cl239 m74 rfl rfl rfl rfl (Nat.le_of_ble_eq_true rfl) rfl rfl rfl rfl) ?_
    refine am_bV_c (fun t1 => ?_)
    refine Eq.trans (g_inc (v := v5 + nI 1) dX7_findRecordsOpenedBy_36 rfl (Nat.le_of_ble_eq_true rfl) rfl rfl rfl rfl) ?_
    refine Eq.trans (g_goto (pc' := 22) dX7_findRecordsOpenedBy_39 rfl) ?_
    rfl
theorem q70_51 (C : am_C) (σ : am_M) (v1 v2 v3 v4 : Int32) {u5 : Value} (hu5 : (!(u5.category == 2)) = true) {u6 : Value} (hu6 : (!(u6.category == 2)) = true) : am_go am_X0 C M70 51 [.ref 5, .int v1, .int v2, .int v3, .int v4, u5, u6] [] σ = if v3 < v4 then (some (.inl none, σ)) else (am_go am_X0 C M70 60 [.ref 5, .int v1, .int v2, .int v3, .int v4, .int (nI 0), u6] [] σ) := by
  refine Eq.trans (g_A dX7_findRecordsOpenedBy_51 rfl rfl) ?_
  refine Eq.trans (g_A dX7_findRecordsOpenedBy_53 rfl rfl) ?_
  refine Eq.trans (g_icgt (t := 141) dX7_findRecordsOpenedBy_54 rfl rfl) ?_
  refine am_ite ?_ ?_
  · exact g_vret dX7_findRecordsOpenedBy_141 rfl
  · refine Eq.trans (g_K (v := nI 0) dX7_findRecordsOpenedBy_57 rfl rfl) ?_
    refine Eq.trans (g_ist (k := 5) dX7_findRecordsOpenedBy_58 (Nat.le_of_ble_eq_true rfl) rfl rfl rfl) ?_
    rfl
theorem q70_60 (C : am_C) (σ : am_M) (v1 v2 v3 v4 v5 : Int32) {u6 : Value} (hu6 : (!(u6.category == 2)) = true) : am_go am_X0 C M70 60 [.ref 5, .int v1, .int v2, .int v3, .int v4, .int v5, u6] [] σ = am_bI (C 36 [.ref 4, .int v4] σ) (fun r1 t1 => if r1 ≤ v5 then (am_go am_X0 C M70 51 [.ref 5, .int v1, .int v2, .int v3, .int (v4 + nI 1), .int v5, u6] [] t1) else (am_bI (C 42 [.ref 4, .int v4, .int v5] t1) (fun r2 t2 => am_bI (C 43 [.ref 4, .int r2] t2) (fun r3 t3 => if r3 = nI 1 then (am_bI (C 45 [.ref 4, .int r2] t3) (fun r4 t4 => am_bI (C 67 [.ref 5, .int r4] t4) (fun r5 t5 => if r5 ≤ (nI 0) then (am_go am_X0 C M70 60 [.ref 5, .int v1, .int v2, .int v3, .int v4, .int (v5 + nI 1), .int r2] [] t5) else (am_bI (C 44 [.ref 4, .int r2] t5) (fun r6 t6 => am_bV (C 65 [.ref 5, .int r6] t6) (fun t7 => am_go am_X0 C M70 60 [.ref 5, .int v1, .int v2, .int v3, .int v4, .int (v5 + nI 1), .int r2] [] t7)))))) else (am_go am_X0 C M70 60 [.ref 5, .int v1, .int v2, .int v3, .int v4, .int (v5 + nI 1), .int r2] [] t3))))) := by
  refine Eq.trans (g_A dX7_findRecordsOpenedBy_60 rfl rfl) ?_
  refine Eq.trans (g_A dX7_findRecordsOpenedBy_62 rfl rfl) ?_
  refine Eq.trans (g_getR dX7_findRecordsOpenedBy_63 f75 sh5 rfl rfl) ?_
  refine Eq.trans (g_A dX7_findRecordsOpenedBy_66 rfl rfl) ?_
  refine Eq.trans (g_vI (a := 4) (as := [.int v4]) (rest := [.int v5]) dX7_findRecordsOpenedBy_68 cl231 m36 rfl rfl rfl rfl (Nat.le_of_ble_eq_true rfl) rfl rfl rfl rfl) ?_
  refine am_bI_c (fun r1 t1 => ?_)
  refine Eq.trans (g_icge (t := 135) dX7_findRecordsOpenedBy_71 rfl rfl) ?_
  refine am_ite ?_ ?_
  · refine Eq.trans (g_inc (v := v4 + nI 1) dX7_findRecordsOpenedBy_135 rfl (Nat.le_of_ble_eq_true rfl) rfl rfl rfl rfl) ?_
    refine Eq.trans (g_goto (pc' := 51) dX7_findRecordsOpenedBy_138 rfl) ?_
    rfl
  · refine Eq.trans (g_A dX7_findRecordsOpenedBy_74 rfl rfl) ?_
    refine Eq.trans (g_getR dX7_findRecordsOpenedBy_75 f75 sh5 rfl rfl) ?_
    refine Eq.trans (g_A dX7_findRecordsOpenedBy_78 rfl rfl) ?_
    refine Eq.trans (g_A dX7_findRecordsOpenedBy_80 rfl rfl) ?_
    refine Eq.trans (g_vI (a := 4) (as := [.int v4, .int v5]) (rest := []) dX7_findRecordsOpenedBy_82 cl232 m42 rfl rfl rfl rfl (Nat.le_of_ble_eq_true rfl) rfl rfl rfl rfl) ?_
    refine am_bI_c (fun r2 t2 => ?_)
    refine Eq.trans (g_ist (k := 6) dX7_findRecordsOpenedBy_85 (Nat.le_of_ble_eq_true rfl) rfl rfl rfl) ?_
    refine Eq.trans (g_A dX7_findRecordsOpenedBy_87 rfl rfl) ?_
    refine Eq.trans (g_getR dX7_findRecordsOpenedBy_88 f75 sh5 rfl rfl) ?_
    refine Eq.trans (g_A dX7_findRecordsOpenedBy_91 rfl rfl) ?_
    refine Eq.trans (g_vI (a := 4) (as := [.int r2]) (rest := []) dX7_findRecordsOpenedBy_93 cl233 m43 rfl rfl rfl rfl (Nat.le_of_ble_eq_true rfl) rfl rfl rfl rfl) ?_
    refine am_bI_c (fun r3 t3 => ?_)
    refine Eq.trans (g_K (v := nI 1) dX7_findRecordsOpenedBy_96 rfl rfl) ?_
    refine Eq.trans (g_icne (t := 129) dX7_findRecordsOpenedBy_97 rfl rfl) ?_
    refine am_ite ?_ ?_
    · refine Eq.trans (g_A dX7_findRecordsOpenedBy_100 rfl rfl) ?_
      refine Eq.trans (g_A dX7_findRecordsOpenedBy_101 rfl rfl) ?_
      refine Eq.trans (g_getR dX7_findRecordsOpenedBy_102 f75 sh5 rfl rfl) ?_
      refine Eq.trans (g_A dX7_findRecordsOpenedBy_105 rfl rfl) ?_
      refine Eq.trans (g_vI (a := 4) (as := [.int r2]) (rest := [.ref 5]) dX7_findRecordsOpenedBy_107 cl236 m45 rfl rfl rfl rfl (Nat.le_of_ble_eq_true rfl) rfl rfl rfl rfl) ?_
      refine am_bI_c (fun r4 t4 => ?_)
      refine Eq.trans (g_vI (a := 5) (as := [.int r4]) (rest := []) dX7_findRecordsOpenedBy_110 cl240 m67 rfl rfl rfl rfl (Nat.le_of_ble_eq_true rfl) rfl rfl rfl rfl) ?_
      refine am_bI_c (fun r5 t5 => ?_)
      refine Eq.trans (g_ifle (t := 129) dX7_findRecordsOpenedBy_113 rfl rfl) ?_
      refine am_ite ?_ ?_
      · refine Eq.trans (g_inc (v := v5 + nI 1) dX7_findRecordsOpenedBy_129 rfl (Nat.le_of_ble_eq_true rfl) rfl rfl rfl rfl) ?_
        refine Eq.trans (g_goto (pc' := 60) dX7_findRecordsOpenedBy_132 rfl) ?_
        rfl
      · refine Eq.trans (g_A dX7_findRecordsOpenedBy_116 rfl rfl) ?_
        refine Eq.trans (g_A dX7_findRecordsOpenedBy_117 rfl rfl) ?_
        refine Eq.trans (g_getR dX7_findRecordsOpenedBy_118 f75 sh5 rfl rfl) ?_
        refine Eq.trans (g_A dX7_findRecordsOpenedBy_121 rfl rfl) ?_
        refine Eq.trans (g_vI (a := 4) (as := [.int r2]) (rest := [.ref 5]) dX7_findRecordsOpenedBy_123 cl234 m44 rfl rfl rfl rfl (Nat.le_of_ble_eq_true rfl) rfl rfl rfl rfl) ?_
        refine am_bI_c (fun r6 t6 => ?_)
        refine Eq.trans (g_vV (a := 5) (as := [.int r6]) (rest := []) dX7_findRecordsOpenedBy_126 cl228 m65 rfl rfl rfl rfl (Nat.le_of_ble_eq_true rfl) rfl rfl rfl rfl) ?_
        refine am_bV_c (fun t7 => ?_)
        refine Eq.trans (g_inc (v := v5 + nI 1) dX7_findRecordsOpenedBy_129 rfl (Nat.le_of_ble_eq_true rfl) rfl rfl rfl rfl) ?_
        refine Eq.trans (g_goto (pc' := 60) dX7_findRecordsOpenedBy_132 rfl) ?_
        rfl
    · refine Eq.trans (g_inc (v := v5 + nI 1) dX7_findRecordsOpenedBy_129 rfl (Nat.le_of_ble_eq_true rfl) rfl rfl rfl rfl) ?_
      refine Eq.trans (g_goto (pc' := 60) dX7_findRecordsOpenedBy_132 rfl) ?_
      rfl
theorem q71_0 (C : am_C) (σ : am_M) (v1 : Int32) : am_go am_X0 C M71 0 [.ref 5, .int v1, .null, .null] [] σ = am_go am_X0 C M71 4 [.ref 5, .int v1, .int (nI 0), .int (nI 0)] [] σ := by
  refine Eq.trans (g_K (v := nI 0) dX7_countFound_0 rfl rfl) ?_
  refine Eq.trans (g_isn (k := 2) dX7_countFound_1 rfl (Nat.le_of_ble_eq_true rfl) rfl rfl rfl) ?_
  refine Eq.trans (g_K (v := nI 0) dX7_countFound_2 rfl rfl) ?_
  refine Eq.trans (g_isn (k := 3) dX7_countFound_3 rfl (Nat.le_of_ble_eq_true rfl) rfl rfl rfl) ?_
  rfl
theorem q71_4 (C : am_C) (σ : am_M) (v1 v2 v3 : Int32) : am_go am_X0 C M71 4 [.ref 5, .int v1, .int v2, .int v3] [] σ = am_bI (C 58 [.ref 2] σ) (fun r1 t1 => if r1 ≤ v3 then (some (.inl (some (.int v2)), t1)) else (am_bI (C 66 [.ref 5, .int v3] t1) (fun r2 t2 => if r2 = nI 0 then (am_go am_X0 C M71 4 [.ref 5, .int v1, .int v2, .int (v3 + nI 1)] [] t2) else (am_bI (C 62 [.ref 2, .int v3] t2) (fun r3 t3 => if r3 = (-1) then (am_go am_X0 C M71 40 [.ref 5, .int v1, .int v2, .int v3] [.int (nI 0)] t3) else (am_go am_X0 C M71 40 [.ref 5, .int v1, .int v2, .int v3] [.int (nI 1)] t3)))))) := by
  refine Eq.trans (g_A dX7_countFound_4 rfl rfl) ?_
  refine Eq.trans (g_A dX7_countFound_5 rfl rfl) ?_
  refine Eq.trans (g_getR dX7_countFound_6 f74 sh5 rfl rfl) ?_
  refine Eq.trans (g_vI (a := 2) (as := []) (rest := [.int v3]) dX7_countFound_9 cl241 m58 rfl rfl rfl rfl (Nat.le_of_ble_eq_true rfl) rfl rfl rfl rfl) ?_
  refine am_bI_c (fun r1 t1 => ?_)
  refine Eq.trans (g_icge (t := 53) dX7_countFound_12 rfl rfl) ?_
  refine am_ite ?_ ?_
  · refine Eq.trans (g_A dX7_countFound_53 rfl rfl) ?_
    exact g_iret dX7_countFound_54 rfl
  · refine Eq.trans (g_A dX7_countFound_15 rfl rfl) ?_
    refine Eq.trans (g_A dX7_countFound_16 rfl rfl) ?_
    refine Eq.trans (g_vI (a := 5) (as := [.int v3]) (rest := []) dX7_countFound_17 cl235 m66 rfl rfl rfl rfl (Nat.le_of_ble_eq_true rfl) rfl rfl rfl rfl) ?_
    refine am_bI_c (fun r2 t2 => ?_)
    refine Eq.trans (g_ifeq (t := 47) dX7_countFound_20 rfl rfl) ?_
    refine am_ite ?_ ?_
    · refine Eq.trans (g_inc (v := v3 + nI 1) dX7_countFound_47 rfl (Nat.le_of_ble_eq_true rfl) rfl rfl rfl rfl) ?_
      refine Eq.trans (g_goto (pc' := 4) dX7_countFound_50 rfl) ?_
      rfl
    · refine Eq.trans (g_A dX7_countFound_23 rfl rfl) ?_
      refine Eq.trans (g_getR dX7_countFound_24 f74 sh5 rfl rfl) ?_
      refine Eq.trans (g_A dX7_countFound_27 rfl rfl) ?_
      refine Eq.trans (g_vI (a := 2) (as := [.int v3]) (rest := []) dX7_countFound_28 cl242 m62 rfl rfl rfl rfl (Nat.le_of_ble_eq_true rfl) rfl rfl rfl rfl) ?_
      refine am_bI_c (fun r3 t3 => ?_)
      refine Eq.trans (g_K (v := (-1)) dX7_countFound_31 rfl rfl) ?_
      refine Eq.trans (g_iceq (t := 39) dX7_countFound_32 rfl rfl) ?_
      refine am_ite ?_ ?_
      · refine Eq.trans (g_K (v := nI 0) dX7_countFound_39 rfl rfl) ?_
        rfl
      · refine Eq.trans (g_K (v := nI 1) dX7_countFound_35 rfl rfl) ?_
        refine Eq.trans (g_goto (pc' := 40) dX7_countFound_36 rfl) ?_
        rfl
theorem q71_40 (C : am_C) (σ : am_M) (v1 v2 v3 s0 : Int32) : am_go am_X0 C M71 40 [.ref 5, .int v1, .int v2, .int v3] [.int s0] σ = if s0 = v1 then (am_go am_X0 C M71 4 [.ref 5, .int v1, .int (v2 + nI 1), .int (v3 + nI 1)] [] σ) else (am_go am_X0 C M71 4 [.ref 5, .int v1, .int v2, .int (v3 + nI 1)] [] σ) := by
  refine Eq.trans (g_A dX7_countFound_40 rfl rfl) ?_
  refine Eq.trans (g_icne (t := 47) dX7_countFound_41 rfl rfl) ?_
  refine am_ite ?_ ?_
  · refine Eq.trans (g_inc (v := v2 + nI 1) dX7_countFound_44 rfl (Nat.le_of_ble_eq_true rfl) rfl rfl rfl rfl) ?_
    refine Eq.trans (g_inc (v := v3 + nI 1) dX7_countFound_47 rfl (Nat.le_of_ble_eq_true rfl) rfl rfl rfl rfl) ?_
    refine Eq.trans (g_goto (pc' := 4) dX7_countFound_50 rfl) ?_
    rfl
  · refine Eq.trans (g_inc (v := v3 + nI 1) dX7_countFound_47 rfl (Nat.le_of_ble_eq_true rfl) rfl rfl rfl rfl) ?_
    refine Eq.trans (g_goto (pc' := 4) dX7_countFound_50 rfl) ?_
    rfl
theorem q72_0 (C : am_C) (σ : am_M) : am_go am_X0 C M72 0 [.ref 5, .null, .null] [] σ = am_go am_X0 C M72 4 [.ref 5, .int (nI 0), .int (nI 1)] [] σ := by
  refine Eq.trans (g_K (v := nI 0) dX7_countKeys_0 rfl rfl) ?_
  refine Eq.trans (g_isn (k := 1) dX7_countKeys_1 rfl (Nat.le_of_ble_eq_true rfl) rfl rfl rfl) ?_
  refine Eq.trans (g_K (v := nI 1) dX7_countKeys_2 rfl rfl) ?_
  refine Eq.trans (g_isn (k := 2) dX7_countKeys_3 rfl (Nat.le_of_ble_eq_true rfl) rfl rfl rfl) ?_
  rfl
theorem q72_4 (C : am_C) (σ : am_M) (v1 v2 : Int32) : am_go am_X0 C M72 4 [.ref 5, .int v1, .int v2] [] σ = am_bI (C 26 [.ref 1] σ) (fun r1 t1 => if r1 < v2 then (some (.inl (some (.int v1)), t1)) else (am_bI (C 67 [.ref 5, .int v2] t1) (fun r2 t2 => if r2 ≤ (nI 0) then (am_go am_X0 C M72 4 [.ref 5, .int v1, .int (v2 + nI 1)] [] t2) else (am_go am_X0 C M72 4 [.ref 5, .int (v1 + nI 1), .int (v2 + nI 1)] [] t2)))) := by
  refine Eq.trans (g_A dX7_countKeys_4 rfl rfl) ?_
  refine Eq.trans (g_A dX7_countKeys_5 rfl rfl) ?_
  refine Eq.trans (g_getR dX7_countKeys_6 f71 sh5 rfl rfl) ?_
  refine Eq.trans (g_vI (a := 1) (as := []) (rest := [.int v2]) dX7_countKeys_9 cl224 m26 rfl rfl rfl rfl (Nat.le_of_ble_eq_true rfl) rfl rfl rfl rfl) ?_
  refine am_bI_c (fun r1 t1 => ?_)
  refine Eq.trans (g_icgt (t := 32) dX7_countKeys_12 rfl rfl) ?_
  refine am_ite ?_ ?_
  · refine Eq.trans (g_A dX7_countKeys_32 rfl rfl) ?_
    exact g_iret dX7_countKeys_33 rfl
  · refine Eq.trans (g_A dX7_countKeys_15 rfl rfl) ?_
    refine Eq.trans (g_A dX7_countKeys_16 rfl rfl) ?_
    refine Eq.trans (g_vI (a := 5) (as := [.int v2]) (rest := []) dX7_countKeys_17 cl240 m67 rfl rfl rfl rfl (Nat.le_of_ble_eq_true rfl) rfl rfl rfl rfl) ?_
    refine am_bI_c (fun r2 t2 => ?_)
    refine Eq.trans (g_ifle (t := 26) dX7_countKeys_20 rfl rfl) ?_
    refine am_ite ?_ ?_
    · refine Eq.trans (g_inc (v := v2 + nI 1) dX7_countKeys_26 rfl (Nat.le_of_ble_eq_true rfl) rfl rfl rfl rfl) ?_
      refine Eq.trans (g_goto (pc' := 4) dX7_countKeys_29 rfl) ?_
      rfl
    · refine Eq.trans (g_inc (v := v1 + nI 1) dX7_countKeys_23 rfl (Nat.le_of_ble_eq_true rfl) rfl rfl rfl rfl) ?_
      refine Eq.trans (g_inc (v := v2 + nI 1) dX7_countKeys_26 rfl (Nat.le_of_ble_eq_true rfl) rfl rfl rfl rfl) ?_
      refine Eq.trans (g_goto (pc' := 4) dX7_countKeys_29 rfl) ?_
      rfl
theorem q73_0 (C : am_C) (σ : am_M) (v1 v2 : Int32) : am_go am_X0 C M73 0 [.ref 5, .int v1, .int v2, .null, .null] [] σ = am_go am_X0 C M73 2 [.ref 5, .int v1, .int v2, .int (nI 0), .null] [] σ := by
  refine Eq.trans (g_K (v := nI 0) dX7_stepUp_0 rfl rfl) ?_
  refine Eq.trans (g_isn (k := 3) dX7_stepUp_1 rfl (Nat.le_of_ble_eq_true rfl) rfl rfl rfl) ?_
  rfl
theorem q73_2 (C : am_C) (σ : am_M) (v1 v2 v3 : Int32) {u4 : Value} (hu4 : (!(u4.category == 2)) = true) : am_go am_X0 C M73 2 [.ref 5, .int v1, .int v2, .int v3, u4] [] σ = am_bI (C 36 [.ref 4, .int v1] σ) (fun r1 t1 => if r1 ≤ v3 then (some (.inl none, t1)) else (am_bI (C 42 [.ref 4, .int v1, .int v3] t1) (fun r2 t2 => am_bI (C 43 [.ref 4, .int r2] t2) (fun r3 t3 => if r3 = nI 0 then (am_bI (C 44 [.ref 4, .int r2] t3) (fun r4 t4 => am_bI (C 67 [.ref 5, .int r4] t4) (fun r5 t5 => if r5 = v2 then (am_bI (C 45 [.ref 4, .int r2] t5) (fun r6 t6 => am_bV (C 75 [.ref 5, .int r6, .int (v2 + (nI 1))] t6) (fun t7 => am_go am_X0 C M73 2 [.ref 5, .int v1, .int v2, .int (v3 + nI 1), .int r2] [] t7))) else (am_go am_X0 C M73 2 [.ref 5, .int v1, .int v2, .int (v3 + nI 1), .int r2] [] t5)))) else (am_go am_X0 C M73 2 [.ref 5, .int v1, .int v2, .int (v3 + nI 1), .int r2] [] t3))))) := by
  refine Eq.trans (g_A dX7_stepUp_2 rfl rfl) ?_
  refine Eq.trans (g_A dX7_stepUp_3 rfl rfl) ?_
  refine Eq.trans (g_getR dX7_stepUp_4 f75 sh5 rfl rfl) ?_
  refine Eq.trans (g_A dX7_stepUp_7 rfl rfl) ?_
  refine Eq.trans (g_vI (a := 4) (as := [.int v1]) (rest := [.int v3]) dX7_stepUp_8 cl231 m36 rfl rfl rfl rfl (Nat.le_of_ble_eq_true rfl) rfl rfl rfl rfl) ?_
  refine am_bI_c (fun r1 t1 => ?_)
  refine Eq.trans (g_icge (t := 76) dX7_stepUp_11 rfl rfl) ?_
  refine am_ite ?_ ?_
  · exact g_vret dX7_stepUp_76 rfl
  · refine Eq.trans (g_A dX7_stepUp_14 rfl rfl) ?_
    refine Eq.trans (g_getR dX7_stepUp_15 f75 sh5 rfl rfl) ?_
    refine Eq.trans (g_A dX7_stepUp_18 rfl rfl) ?_
    refine Eq.trans (g_A dX7_stepUp_19 rfl rfl) ?_
    refine Eq.trans (g_vI (a := 4) (as := [.int v1, .int v3]) (rest := []) dX7_stepUp_20 cl232 m42 rfl rfl rfl rfl (Nat.le_of_ble_eq_true rfl) rfl rfl rfl rfl) ?_
    refine am_bI_c (fun r2 t2 => ?_)
    refine Eq.trans (g_ist (k := 4) dX7_stepUp_23 (Nat.le_of_ble_eq_true rfl) rfl rfl rfl) ?_
    refine Eq.trans (g_A dX7_stepUp_25 rfl rfl) ?_
    refine Eq.trans (g_getR dX7_stepUp_26 f75 sh5 rfl rfl) ?_
    refine Eq.trans (g_A dX7_stepUp_29 rfl rfl) ?_
    refine Eq.trans (g_vI (a := 4) (as := [.int r2]) (rest := []) dX7_stepUp_31 cl233 m43 rfl rfl rfl rfl (Nat.le_of_ble_eq_true rfl) rfl rfl rfl rfl) ?_
    refine am_bI_c (fun r3 t3 => ?_)
    refine Eq.trans (g_ifne (t := 70) dX7_stepUp_34 rfl rfl) ?_
    refine am_ite ?_ ?_
    · refine Eq.trans (g_A dX7_stepUp_37 rfl rfl) ?_
      refine Eq.trans (g_A dX7_stepUp_38 rfl rfl) ?_
      refine Eq.trans (g_getR dX7_stepUp_39 f75 sh5 rfl rfl) ?_
      refine Eq.trans (g_A dX7_stepUp_42 rfl rfl) ?_
      refine Eq.trans (g_vI (a := 4) (as := [.int r2]) (rest := [.ref 5]) dX7_stepUp_44 cl234 m44 rfl rfl rfl rfl (Nat.le_of_ble_eq_true rfl) rfl rfl rfl rfl) ?_
      refine am_bI_c (fun r4 t4 => ?_)
      refine Eq.trans (g_vI (a := 5) (as := [.int r4]) (rest := []) dX7_stepUp_47 cl240 m67 rfl rfl rfl rfl (Nat.le_of_ble_eq_true rfl) rfl rfl rfl rfl) ?_
      refine am_bI_c (fun r5 t5 => ?_)
      refine Eq.trans (g_A dX7_stepUp_50 rfl rfl) ?_
      refine Eq.trans (g_icne (t := 70) dX7_stepUp_51 rfl rfl) ?_
      refine am_ite ?_ ?_
      · refine Eq.trans (g_A dX7_stepUp_54 rfl rfl) ?_
        refine Eq.trans (g_A dX7_stepUp_55 rfl rfl) ?_
        refine Eq.trans (g_getR dX7_stepUp_56 f75 sh5 rfl rfl) ?_
        refine Eq.trans (g_A dX7_stepUp_59 rfl rfl) ?_
        refine Eq.trans (g_vI (a := 4) (as := [.int r2]) (rest := [.ref 5]) dX7_stepUp_61 cl236 m45 rfl rfl rfl rfl (Nat.le_of_ble_eq_true rfl) rfl rfl rfl rfl) ?_
        refine am_bI_c (fun r6 t6 => ?_)
        refine Eq.trans (g_A dX7_stepUp_64 rfl rfl) ?_
        refine Eq.trans (g_K (v := nI 1) dX7_stepUp_65 rfl rfl) ?_
        refine Eq.trans (g_iadd dX7_stepUp_66 rfl) ?_
        refine Eq.trans (g_vV (a := 5) (as := [.int r6, .int (v2 + (nI 1))]) (rest := []) dX7_stepUp_67 cl237 m75 rfl rfl rfl rfl (Nat.le_of_ble_eq_true rfl) rfl rfl rfl rfl) ?_
        refine am_bV_c (fun t7 => ?_)
        refine Eq.trans (g_inc (v := v3 + nI 1) dX7_stepUp_70 rfl (Nat.le_of_ble_eq_true rfl) rfl rfl rfl rfl) ?_
        refine Eq.trans (g_goto (pc' := 2) dX7_stepUp_73 rfl) ?_
        rfl
      · refine Eq.trans (g_inc (v := v3 + nI 1) dX7_stepUp_70 rfl (Nat.le_of_ble_eq_true rfl) rfl rfl rfl rfl) ?_
        refine Eq.trans (g_goto (pc' := 2) dX7_stepUp_73 rfl) ?_
        rfl
    · refine Eq.trans (g_inc (v := v3 + nI 1) dX7_stepUp_70 rfl (Nat.le_of_ble_eq_true rfl) rfl rfl rfl rfl) ?_
      refine Eq.trans (g_goto (pc' := 2) dX7_stepUp_73 rfl) ?_
      rfl
theorem q74_0 (C : am_C) (σ : am_M) (v1 v2 : Int32) : am_go am_X0 C M74 0 [.ref 5, .int v1, .int v2, .null, .null] [] σ = am_go am_X0 C M74 2 [.ref 5, .int v1, .int v2, .int (nI 0), .null] [] σ := by
  refine Eq.trans (g_K (v := nI 0) dX7_stepDown_0 rfl rfl) ?_
  refine Eq.trans (g_isn (k := 3) dX7_stepDown_1 rfl (Nat.le_of_ble_eq_true rfl) rfl rfl rfl) ?_
  rfl
theorem q74_2 (C : am_C) (σ : am_M) (v1 v2 v3 : Int32) {u4 : Value} (hu4 : (!(u4.category == 2)) = true) : am_go am_X0 C M74 2 [.ref 5, .int v1, .int v2, .int v3, u4] [] σ = am_bI (C 36 [.ref 4, .int v1] σ) (fun r1 t1 => if r1 ≤ v3 then (some (.inl none, t1)) else (am_bI (C 42 [.ref 4, .int v1, .int v3] t1) (fun r2 t2 => am_bI (C 43 [.ref 4, .int r2] t2) (fun r3 t3 => if r3 = nI 0 then (am_bI (C 45 [.ref 4, .int r2] t3) (fun r4 t4 => am_bI (C 67 [.ref 5, .int r4] t4) (fun r5 t5 => if r5 = v2 then (am_bI (C 44 [.ref 4, .int r2] t5) (fun r6 t6 => am_bV (C 75 [.ref 5, .int r6, .int (v2 + (nI 1))] t6) (fun t7 => am_go am_X0 C M74 2 [.ref 5, .int v1, .int v2, .int (v3 + nI 1), .int r2] [] t7))) else (am_go am_X0 C M74 2 [.ref 5, .int v1, .int v2, .int (v3 + nI 1), .int r2] [] t5)))) else (am_go am_X0 C M74 2 [.ref 5, .int v1, .int v2, .int (v3 + nI 1), .int r2] [] t3))))) := by
  refine Eq.trans (g_A dX7_stepDown_2 rfl rfl) ?_
  refine Eq.trans (g_A dX7_stepDown_3 rfl rfl) ?_
  refine Eq.trans (g_getR dX7_stepDown_4 f75 sh5 rfl rfl) ?_
  refine Eq.trans (g_A dX7_stepDown_7 rfl rfl) ?_
  refine Eq.trans (g_vI (a := 4) (as := [.int v1]) (rest := [.int v3]) dX7_stepDown_8 cl231 m36 rfl rfl rfl rfl (Nat.le_of_ble_eq_true rfl) rfl rfl rfl rfl) ?_
  refine am_bI_c (fun r1 t1 => ?_)
  refine Eq.trans (g_icge (t := 76) dX7_stepDown_11 rfl rfl) ?_
  refine am_ite ?_ ?_
  · exact g_vret dX7_stepDown_76 rfl
  · refine Eq.trans (g_A dX7_stepDown_14 rfl rfl) ?_
    refine Eq.trans (g_getR dX7_stepDown_15 f75 sh5 rfl rfl) ?_
    refine Eq.trans (g_A dX7_stepDown_18 rfl rfl) ?_
    refine Eq.trans (g_A dX7_stepDown_19 rfl rfl) ?_
    refine Eq.trans (g_vI (a := 4) (as := [.int v1, .int v3]) (rest := []) dX7_stepDown_20 cl232 m42 rfl rfl rfl rfl (Nat.le_of_ble_eq_true rfl) rfl rfl rfl rfl) ?_
    refine am_bI_c (fun r2 t2 => ?_)
    refine Eq.trans (g_ist (k := 4) dX7_stepDown_23 (Nat.le_of_ble_eq_true rfl) rfl rfl rfl) ?_
    refine Eq.trans (g_A dX7_stepDown_25 rfl rfl) ?_
    refine Eq.trans (g_getR dX7_stepDown_26 f75 sh5 rfl rfl) ?_
    refine Eq.trans (g_A dX7_stepDown_29 rfl rfl) ?_
    refine Eq.trans (g_vI (a := 4) (as := [.int r2]) (rest := []) dX7_stepDown_31 cl233 m43 rfl rfl rfl rfl (Nat.le_of_ble_eq_true rfl) rfl rfl rfl rfl) ?_
    refine am_bI_c (fun r3 t3 => ?_)
    refine Eq.trans (g_ifne (t := 70) dX7_stepDown_34 rfl rfl) ?_
    refine am_ite ?_ ?_
    · refine Eq.trans (g_A dX7_stepDown_37 rfl rfl) ?_
      refine Eq.trans (g_A dX7_stepDown_38 rfl rfl) ?_
      refine Eq.trans (g_getR dX7_stepDown_39 f75 sh5 rfl rfl) ?_
      refine Eq.trans (g_A dX7_stepDown_42 rfl rfl) ?_
      refine Eq.trans (g_vI (a := 4) (as := [.int r2]) (rest := [.ref 5]) dX7_stepDown_44 cl236 m45 rfl rfl rfl rfl (Nat.le_of_ble_eq_true rfl) rfl rfl rfl rfl) ?_
      refine am_bI_c (fun r4 t4 => ?_)
      refine Eq.trans (g_vI (a := 5) (as := [.int r4]) (rest := []) dX7_stepDown_47 cl240 m67 rfl rfl rfl rfl (Nat.le_of_ble_eq_true rfl) rfl rfl rfl rfl) ?_
      refine am_bI_c (fun r5 t5 => ?_)
      refine Eq.trans (g_A dX7_stepDown_50 rfl rfl) ?_
      refine Eq.trans (g_icne (t := 70) dX7_stepDown_51 rfl rfl) ?_
      refine am_ite ?_ ?_
      · refine Eq.trans (g_A dX7_stepDown_54 rfl rfl) ?_
        refine Eq.trans (g_A dX7_stepDown_55 rfl rfl) ?_
        refine Eq.trans (g_getR dX7_stepDown_56 f75 sh5 rfl rfl) ?_
        refine Eq.trans (g_A dX7_stepDown_59 rfl rfl) ?_
        refine Eq.trans (g_vI (a := 4) (as := [.int r2]) (rest := [.ref 5]) dX7_stepDown_61 cl234 m44 rfl rfl rfl rfl (Nat.le_of_ble_eq_true rfl) rfl rfl rfl rfl) ?_
        refine am_bI_c (fun r6 t6 => ?_)
        refine Eq.trans (g_A dX7_stepDown_64 rfl rfl) ?_
        refine Eq.trans (g_K (v := nI 1) dX7_stepDown_65 rfl rfl) ?_
        refine Eq.trans (g_iadd dX7_stepDown_66 rfl) ?_
        refine Eq.trans (g_vV (a := 5) (as := [.int r6, .int (v2 + (nI 1))]) (rest := []) dX7_stepDown_67 cl237 m75 rfl rfl rfl rfl (Nat.le_of_ble_eq_true rfl) rfl rfl rfl rfl) ?_
        refine am_bV_c (fun t7 => ?_)
        refine Eq.trans (g_inc (v := v3 + nI 1) dX7_stepDown_70 rfl (Nat.le_of_ble_eq_true rfl) rfl rfl rfl rfl) ?_
        refine Eq.trans (g_goto (pc' := 2) dX7_stepDown_73 rfl) ?_
        rfl
      · refine Eq.trans (g_inc (v := v3 + nI 1) dX7_stepDown_70 rfl (Nat.le_of_ble_eq_true rfl) rfl rfl rfl rfl) ?_
        refine Eq.trans (g_goto (pc' := 2) dX7_stepDown_73 rfl) ?_
        rfl
    · refine Eq.trans (g_inc (v := v3 + nI 1) dX7_stepDown_70 rfl (Nat.le_of_ble_eq_true rfl) rfl rfl rfl rfl) ?_
      refine Eq.trans (g_goto (pc' := 2) dX7_stepDown_73 rfl) ?_
      rfl
theorem q75_0 (C : am_C) (σ : am_M) (v1 v2 : Int32) : am_go am_X0 C M75 0 [.ref 5, .int v1, .int v2] [] σ = am_bI (C 24 [.ref 1, .int v1] σ) (fun r1 t1 => if r1 = nI 0 then (some (.inl none, t1)) else (if am_in v1 2049 = true then (if t1.1 25 (v1 : Int32).toNatClampNeg = nI 0 then (if am_in v1 2049 = true then (some (.inl none, am_wI t1 25 (v1 : Int32).toNatClampNeg v2)) else none) else (some (.inl none, t1))) else none)) := by
  refine Eq.trans (g_A dX7_reach_0 rfl rfl) ?_
  refine Eq.trans (g_getR dX7_reach_1 f71 sh5 rfl rfl) ?_
  refine Eq.trans (g_A dX7_reach_4 rfl rfl) ?_
  refine Eq.trans (g_vI (a := 1) (as := [.int v1]) (rest := []) dX7_reach_5 cl226 m24 rfl rfl rfl rfl (Nat.le_of_ble_eq_true rfl) rfl rfl rfl rfl) ?_
  refine am_bI_c (fun r1 t1 => ?_)
  refine Eq.trans (g_ifeq (t := 27) dX7_reach_8 rfl rfl) ?_
  refine am_ite ?_ ?_
  · exact g_vret dX7_reach_27 rfl
  · refine Eq.trans (g_A dX7_reach_11 rfl rfl) ?_
    refine Eq.trans (g_getR dX7_reach_12 f72 sh5 rfl rfl) ?_
    refine Eq.trans (g_A dX7_reach_15 rfl rfl) ?_
    refine Eq.trans (g_iald dX7_reach_16 sh25 rfl) ?_
    refine am_ite ?_ rfl
    refine Eq.trans (g_ifne (t := 27) dX7_reach_17 rfl rfl) ?_
    refine am_ite ?_ ?_
    · refine Eq.trans (g_A dX7_reach_20 rfl rfl) ?_
      refine Eq.trans (g_getR dX7_reach_21 f72 sh5 rfl rfl) ?_
      refine Eq.trans (g_A dX7_reach_24 rfl rfl) ?_
      refine Eq.trans (g_A dX7_reach_25 rfl rfl) ?_
      refine Eq.trans (g_iast dX7_reach_26 sh25 rfl) ?_
      refine am_ite ?_ rfl
      exact g_vret dX7_reach_27 rfl
    · exact g_vret dX7_reach_27 rfl
theorem q76_0 (C : am_C) (σ : am_M) : am_go am_X0 C M76 0 [.ref 3] [] σ = am_bV (C 276 [.ref 16, .int (nI 0)] σ) (fun t1 => am_bV (C 276 [.ref 17, .int (-1)] t1) (fun t2 => am_bV (C 276 [.ref 18, .int (-1)] t2) (fun t3 => am_bV (C 86 [.ref 3, .int (nI 0), .int (nI 64)] t3) (fun t4 => am_bV (C 91 [.ref 3, .int (nI 0)] t4) (fun t5 => some (.inl none, t5)))))) := by
  refine Eq.trans (g_A dX8_begin_0 rfl rfl) ?_
  refine Eq.trans (g_getR dX8_begin_1 f76 sh3 rfl rfl) ?_
  refine Eq.trans (g_K (v := nI 0) dX8_begin_4 rfl rfl) ?_
  refine Eq.trans (g_sV (as := [.ref 16, .int (nI 0)]) (rest := []) dX8_begin_5 rfl cl243 m276 rfl rfl rfl rfl (Nat.le_of_ble_eq_true rfl) rfl rfl rfl) ?_
  refine am_bV_c (fun t1 => ?_)
  refine Eq.trans (g_A dX8_begin_8 rfl rfl) ?_
  refine Eq.trans (g_getR dX8_begin_9 f77 sh3 rfl rfl) ?_
  refine Eq.trans (g_K (v := (-1)) dX8_begin_12 rfl rfl) ?_
  refine Eq.trans (g_sV (as := [.ref 17, .int (-1)]) (rest := []) dX8_begin_13 rfl cl243 m276 rfl rfl rfl rfl (Nat.le_of_ble_eq_true rfl) rfl rfl rfl) ?_
  refine am_bV_c (fun t2 => ?_)
  refine Eq.trans (g_A dX8_begin_16 rfl rfl) ?_
  refine Eq.trans (g_getR dX8_begin_17 f78 sh3 rfl rfl) ?_
  refine Eq.trans (g_K (v := (-1)) dX8_begin_20 rfl rfl) ?_
  refine Eq.trans (g_sV (as := [.ref 18, .int (-1)]) (rest := []) dX8_begin_21 rfl cl243 m276 rfl rfl rfl rfl (Nat.le_of_ble_eq_true rfl) rfl rfl rfl) ?_
  refine am_bV_c (fun t3 => ?_)
  refine Eq.trans (g_A dX8_begin_24 rfl rfl) ?_
  refine Eq.trans (g_K (v := nI 0) dX8_begin_25 rfl rfl) ?_
  refine Eq.trans (g_K (v := nI 64) dX8_begin_26 rfl rfl) ?_
  refine Eq.trans (g_vV (a := 3) (as := [.int (nI 0), .int (nI 64)]) (rest := []) dX8_begin_28 cl244 m86 rfl rfl rfl rfl (Nat.le_of_ble_eq_true rfl) rfl rfl rfl rfl) ?_
  refine am_bV_c (fun t4 => ?_)
  refine Eq.trans (g_A dX8_begin_31 rfl rfl) ?_
  refine Eq.trans (g_K (v := nI 0) dX8_begin_32 rfl rfl) ?_
  refine Eq.trans (g_vV (a := 3) (as := [.int (nI 0)]) (rest := []) dX8_begin_33 cl245 m91 rfl rfl rfl rfl (Nat.le_of_ble_eq_true rfl) rfl rfl rfl rfl) ?_
  refine am_bV_c (fun t5 => ?_)
  exact g_vret dX8_begin_36 rfl
theorem q77_0 (C : am_C) (σ : am_M) (v1 : Int32) : am_go am_X0 C M77 0 [.ref 3, .int v1] [] σ = am_nI (C 162 [.int v1] σ) (fun r1 t1 => if r1 = nI 0 then (some (.inl (some (.int (nI 0))), t1)) else (if am_in v1 85 = true then (some (.inl (some (.int (t1.1 16 (v1 : Int32).toNatClampNeg))), t1)) else none)) := by
  refine Eq.trans (g_A dX8_keyOf_0 rfl rfl) ?_
  refine Eq.trans (g_sN (as := [.int v1]) (rest := []) dX8_keyOf_1 rfl cl246 m162 rfl rfl rfl rfl (Nat.le_of_ble_eq_true rfl) rfl rfl) ?_
  refine am_nI_c (fun r1 t1 => ?_)
  refine Eq.trans (g_ifeq (t := 16) dX8_keyOf_4 rfl rfl) ?_
  refine am_ite ?_ ?_
  · refine Eq.trans (g_K (v := nI 0) dX8_keyOf_16 rfl rfl) ?_
    exact g_iret dX8_keyOf_17 rfl
  · refine Eq.trans (g_A dX8_keyOf_7 rfl rfl) ?_
    refine Eq.trans (g_getR dX8_keyOf_8 f76 sh3 rfl rfl) ?_
    refine Eq.trans (g_A dX8_keyOf_11 rfl rfl) ?_
    refine Eq.trans (g_iald dX8_keyOf_12 sh16 rfl) ?_
    refine am_ite ?_ rfl
    refine Eq.trans (g_goto (pc' := 17) dX8_keyOf_13 rfl) ?_
    exact g_iret dX8_keyOf_17 rfl
theorem q78_0 (C : am_C) (σ : am_M) (v1 : Int32) : am_go am_X0 C M78 0 [.ref 3, .int v1] [] σ = am_bI (C 77 [.ref 3, .int v1] σ) (fun r1 t1 => if r1 = nI 0 then (some (.inl (some (.int (nI 0))), t1)) else (some (.inl (some (.int (nI 1))), t1))) := by
  refine Eq.trans (g_A dX8_hasNode_0 rfl rfl) ?_
  refine Eq.trans (g_A dX8_hasNode_1 rfl rfl) ?_
  refine Eq.trans (g_vI (a := 3) (as := [.int v1]) (rest := []) dX8_hasNode_2 cl247 m77 rfl rfl rfl rfl (Nat.le_of_ble_eq_true rfl) rfl rfl rfl rfl) ?_
  refine am_bI_c (fun r1 t1 => ?_)
  refine Eq.trans (g_ifeq (t := 12) dX8_hasNode_5 rfl rfl) ?_
  refine am_ite ?_ ?_
  · refine Eq.trans (g_K (v := nI 0) dX8_hasNode_12 rfl rfl) ?_
    exact g_zl dX8_hasNode_13 rfl (Or.inl rfl)
  · refine Eq.trans (g_K (v := nI 1) dX8_hasNode_8 rfl rfl) ?_
    refine Eq.trans (g_goto (pc' := 13) dX8_hasNode_9 rfl) ?_
    exact g_zl dX8_hasNode_13 rfl (Or.inr rfl)
theorem q79_0 (C : am_C) (σ : am_M) (v1 : Int32) : am_go am_X0 C M79 0 [.ref 3, .int v1] [] σ = am_nI (C 163 [.int v1] σ) (fun r1 t1 => if r1 = nI 0 then (some (.inl (some (.int (-1))), t1)) else (if am_in v1 64 = true then (some (.inl (some (.int (t1.1 17 (v1 : Int32).toNatClampNeg))), t1)) else none)) := by
  refine Eq.trans (g_A dX8_recordOn_0 rfl rfl) ?_
  refine Eq.trans (g_sN (as := [.int v1]) (rest := []) dX8_recordOn_1 rfl cl248 m163 rfl rfl rfl rfl (Nat.le_of_ble_eq_true rfl) rfl rfl) ?_
  refine am_nI_c (fun r1 t1 => ?_)
  refine Eq.trans (g_ifeq (t := 16) dX8_recordOn_4 rfl rfl) ?_
  refine am_ite ?_ ?_
  · refine Eq.trans (g_K (v := (-1)) dX8_recordOn_16 rfl rfl) ?_
    exact g_iret dX8_recordOn_17 rfl
  · refine Eq.trans (g_A dX8_recordOn_7 rfl rfl) ?_
    refine Eq.trans (g_getR dX8_recordOn_8 f77 sh3 rfl rfl) ?_
    refine Eq.trans (g_A dX8_recordOn_11 rfl rfl) ?_
    refine Eq.trans (g_iald dX8_recordOn_12 sh17 rfl) ?_
    refine am_ite ?_ rfl
    refine Eq.trans (g_goto (pc' := 17) dX8_recordOn_13 rfl) ?_
    exact g_iret dX8_recordOn_17 rfl
theorem q80_0 (C : am_C) (σ : am_M) (v1 : Int32) : am_go am_X0 C M80 0 [.ref 3, .int v1] [] σ = am_nI (C 163 [.int v1] σ) (fun r1 t1 => if r1 = nI 0 then (some (.inl (some (.int (-1))), t1)) else (if am_in v1 64 = true then (some (.inl (some (.int (t1.1 18 (v1 : Int32).toNatClampNeg))), t1)) else none)) := by
  refine Eq.trans (g_A dX8_dueDayOn_0 rfl rfl) ?_
  refine Eq.trans (g_sN (as := [.int v1]) (rest := []) dX8_dueDayOn_1 rfl cl248 m163 rfl rfl rfl rfl (Nat.le_of_ble_eq_true rfl) rfl rfl) ?_
  refine am_nI_c (fun r1 t1 => ?_)
  refine Eq.trans (g_ifeq (t := 16) dX8_dueDayOn_4 rfl rfl) ?_
  refine am_ite ?_ ?_
  · refine Eq.trans (g_K (v := (-1)) dX8_dueDayOn_16 rfl rfl) ?_
    exact g_iret dX8_dueDayOn_17 rfl
  · refine Eq.trans (g_A dX8_dueDayOn_7 rfl rfl) ?_
    refine Eq.trans (g_getR dX8_dueDayOn_8 f78 sh3 rfl rfl) ?_
    refine Eq.trans (g_A dX8_dueDayOn_11 rfl rfl) ?_
    refine Eq.trans (g_iald dX8_dueDayOn_12 sh18 rfl) ?_
    refine am_ite ?_ rfl
    refine Eq.trans (g_goto (pc' := 17) dX8_dueDayOn_13 rfl) ?_
    exact g_iret dX8_dueDayOn_17 rfl
theorem q81_0 (C : am_C) (σ : am_M) (v1 v2 : Int32) : am_go am_X0 C M81 0 [.ref 3, .int v1, .int v2, .null] [] σ = am_bI (C 80 [.ref 3, .int v1] σ) (fun r1 t1 => if r1 = (-1) then (some (.inl (some (.int (nI 0))), t1)) else (if v2 < r1 then (some (.inl (some (.int (nI 0))), t1)) else (some (.inl (some (.int (nI 1))), t1)))) := by
  refine Eq.trans (g_A dX8_isDue_0 rfl rfl) ?_
  refine Eq.trans (g_A dX8_isDue_1 rfl rfl) ?_
  refine Eq.trans (g_vI (a := 3) (as := [.int v1]) (rest := []) dX8_isDue_2 cl249 m80 rfl rfl rfl rfl (Nat.le_of_ble_eq_true rfl) rfl rfl rfl rfl) ?_
  refine am_bI_c (fun r1 t1 => ?_)
  refine Eq.trans (g_isn (k := 3) dX8_isDue_5 rfl (Nat.le_of_ble_eq_true rfl) rfl rfl rfl) ?_
  refine Eq.trans (g_A dX8_isDue_6 rfl rfl) ?_
  refine Eq.trans (g_K (v := (-1)) dX8_isDue_7 rfl rfl) ?_
  refine Eq.trans (g_iceq (t := 20) dX8_isDue_8 rfl rfl) ?_
  refine am_ite ?_ ?_
  · refine Eq.trans (g_K (v := nI 0) dX8_isDue_20 rfl rfl) ?_
    exact g_zl dX8_isDue_21 rfl (Or.inl rfl)
  · refine Eq.trans (g_A dX8_isDue_11 rfl rfl) ?_
    refine Eq.trans (g_A dX8_isDue_12 rfl rfl) ?_
    refine Eq.trans (g_icgt (t := 20) dX8_isDue_13 rfl rfl) ?_
    refine am_ite ?_ ?_
    · refine Eq.trans (g_K (v := nI 0) dX8_isDue_20 rfl rfl) ?_
      exact g_zl dX8_isDue_21 rfl (Or.inl rfl)
    · refine Eq.trans (g_K (v := nI 1) dX8_isDue_16 rfl rfl) ?_
      refine Eq.trans (g_goto (pc' := 21) dX8_isDue_17 rfl) ?_
      exact g_zl dX8_isDue_21 rfl (Or.inr rfl)
theorem q82_0 (C : am_C) (σ : am_M) (v1 : Int32) : am_go am_X0 C M82 0 [.ref 3, .int v1] [] σ = am_nI (C 163 [.int v1] σ) (fun r1 t1 => if r1 = nI 0 then (some (.inl (some (.int (nI 0))), t1)) else (if am_in v1 64 = true then (if t1.1 19 (v1 : Int32).toNatClampNeg = nI 0 then (some (.inl (some (.int (nI 0))), t1)) else (some (.inl (some (.int (nI 1))), t1))) else none)) := by
  refine Eq.trans (g_A dX8_isMarked_0 rfl rfl) ?_
  refine Eq.trans (g_sN (as := [.int v1]) (rest := []) dX8_isMarked_1 rfl cl248 m163 rfl rfl rfl rfl (Nat.le_of_ble_eq_true rfl) rfl rfl) ?_
  refine am_nI_c (fun r1 t1 => ?_)
  refine Eq.trans (g_ifeq (t := 20) dX8_isMarked_4 rfl rfl) ?_
  refine am_ite ?_ ?_
  · refine Eq.trans (g_K (v := nI 0) dX8_isMarked_20 rfl rfl) ?_
    exact g_zl dX8_isMarked_21 rfl (Or.inl rfl)
  · refine Eq.trans (g_A dX8_isMarked_7 rfl rfl) ?_
    refine Eq.trans (g_getR dX8_isMarked_8 f79 sh3 rfl rfl) ?_
    refine Eq.trans (g_A dX8_isMarked_11 rfl rfl) ?_
    refine Eq.trans (g_bald dX8_isMarked_12 sh19 rfl) ?_
    refine am_ite ?_ rfl
    refine Eq.trans (g_ifeq (t := 20) dX8_isMarked_13 rfl rfl) ?_
    refine am_ite ?_ ?_
    · refine Eq.trans (g_K (v := nI 0) dX8_isMarked_20 rfl rfl) ?_
      exact g_zl dX8_isMarked_21 rfl (Or.inl rfl)
    · refine Eq.trans (g_K (v := nI 1) dX8_isMarked_16 rfl rfl) ?_
      refine Eq.trans (g_goto (pc' := 21) dX8_isMarked_17 rfl) ?_
      exact g_zl dX8_isMarked_21 rfl (Or.inr rfl)
theorem q83_0 (C : am_C) (σ : am_M) (v1 v2 : Int32) : am_go am_X0 C M83 0 [.ref 3, .int v1, .int v2] [] σ = am_nI (C 163 [.int v1] σ) (fun r1 t1 => if r1 = nI 0 then (some (.inl none, t1)) else (if am_in v1 64 = true then (some (.inl none, am_wI t1 17 (v1 : Int32).toNatClampNeg v2)) else none)) := by
  refine Eq.trans (g_A dX8_putRecord_0 rfl rfl) ?_
  refine Eq.trans (g_sN (as := [.int v1]) (rest := []) dX8_putRecord_1 rfl cl248 m163 rfl rfl rfl rfl (Nat.le_of_ble_eq_true rfl) rfl rfl) ?_
  refine am_nI_c (fun r1 t1 => ?_)
  refine Eq.trans (g_ifeq (t := 14) dX8_putRecord_4 rfl rfl) ?_
  refine am_ite ?_ ?_
  · exact g_vret dX8_putRecord_14 rfl
  · refine Eq.trans (g_A dX8_putRecord_7 rfl rfl) ?_
    refine Eq.trans (g_getR dX8_putRecord_8 f77 sh3 rfl rfl) ?_
    refine Eq.trans (g_A dX8_putRecord_11 rfl rfl) ?_
    refine Eq.trans (g_A dX8_putRecord_12 rfl rfl) ?_
    refine Eq.trans (g_iast dX8_putRecord_13 sh17 rfl) ?_
    refine am_ite ?_ rfl
    exact g_vret dX8_putRecord_14 rfl
theorem q84_0 (C : am_C) (σ : am_M) (v1 v2 : Int32) : am_go am_X0 C M84 0 [.ref 3, .int v1, .int v2] [] σ = am_nI (C 163 [.int v1] σ) (fun r1 t1 => if r1 = nI 0 then (some (.inl none, t1)) else (if am_in v1 64 = true then (some (.inl none, am_wI t1 18 (v1 : Int32).toNatClampNeg v2)) else none)) := by
  refine Eq.trans (g_A dX8_setDueDay_0 rfl rfl) ?_
  refine Eq.trans (g_sN (as := [.int v1]) (rest := []) dX8_setDueDay_1 rfl cl248 m163 rfl rfl rfl rfl (Nat.le_of_ble_eq_true rfl) rfl rfl) ?_
  refine am_nI_c (fun r1 t1 => ?_)
  refine Eq.trans (g_ifeq (t := 14) dX8_setDueDay_4 rfl rfl) ?_
  refine am_ite ?_ ?_
  · exact g_vret dX8_setDueDay_14 rfl
  · refine Eq.trans (g_A dX8_setDueDay_7 rfl rfl) ?_
    refine Eq.trans (g_getR dX8_setDueDay_8 f78 sh3 rfl rfl) ?_
    refine Eq.trans (g_A dX8_setDueDay_11 rfl rfl) ?_
    refine Eq.trans (g_A dX8_setDueDay_12 rfl rfl) ?_
    refine Eq.trans (g_iast dX8_setDueDay_13 sh18 rfl) ?_
    refine am_ite ?_ rfl
    exact g_vret dX8_setDueDay_14 rfl
theorem q85_0 (C : am_C) (σ : am_M) (v1 v2 : Int32) : am_go am_X0 C M85 0 [.ref 3, .int v1, .int v2] [] σ = am_nI (C 163 [.int v1] σ) (fun r1 t1 => if r1 = nI 0 then (some (.inl none, t1)) else (if am_in v1 64 = true then (some (.inl none, am_wI t1 19 (v1 : Int32).toNatClampNeg (vp_nar .boolean v2))) else none)) := by
  refine Eq.trans (g_A dX8_setMark_0 rfl rfl) ?_
  refine Eq.trans (g_sN (as := [.int v1]) (rest := []) dX8_setMark_1 rfl cl248 m163 rfl rfl rfl rfl (Nat.le_of_ble_eq_true rfl) rfl rfl) ?_
  refine am_nI_c (fun r1 t1 => ?_)
  refine Eq.trans (g_ifeq (t := 14) dX8_setMark_4 rfl rfl) ?_
  refine am_ite ?_ ?_
  · exact g_vret dX8_setMark_14 rfl
  · refine Eq.trans (g_A dX8_setMark_7 rfl rfl) ?_
    refine Eq.trans (g_getR dX8_setMark_8 f79 sh3 rfl rfl) ?_
    refine Eq.trans (g_A dX8_setMark_11 rfl rfl) ?_
    refine Eq.trans (g_A dX8_setMark_12 rfl rfl) ?_
    refine Eq.trans (g_bast dX8_setMark_13 sh19 rfl) ?_
    refine am_ite ?_ rfl
    exact g_vret dX8_setMark_14 rfl
theorem q86_0 (C : am_C) (σ : am_M) (v1 v2 : Int32) : am_go am_X0 C M86 0 [.ref 3, .int v1, .int v2, .null] [] σ = am_go am_X0 C M86 2 [.ref 3, .int v1, .int v2, .int v1] [] σ := by
  refine Eq.trans (g_A dX8_unmark_0 rfl rfl) ?_
  refine Eq.trans (g_isn (k := 3) dX8_unmark_1 rfl (Nat.le_of_ble_eq_true rfl) rfl rfl rfl) ?_
  rfl
theorem q86_2 (C : am_C) (σ : am_M) (v1 v2 v3 : Int32) : am_go am_X0 C M86 2 [.ref 3, .int v1, .int v2, .int v3] [] σ = if v2 ≤ v3 then (some (.inl none, σ)) else (am_bV (C 85 [.ref 3, .int v3, .int (nI 0)] σ) (fun t1 => am_go am_X0 C M86 2 [.ref 3, .int v1, .int v2, .int (v3 + nI 1)] [] t1)) := by
  refine Eq.trans (g_A dX8_unmark_2 rfl rfl) ?_
  refine Eq.trans (g_A dX8_unmark_3 rfl rfl) ?_
  refine Eq.trans (g_icge (t := 19) dX8_unmark_4 rfl rfl) ?_
  refine am_ite ?_ ?_
  · exact g_vret dX8_unmark_19 rfl
  · refine Eq.trans (g_A dX8_unmark_7 rfl rfl) ?_
    refine Eq.trans (g_A dX8_unmark_8 rfl rfl) ?_
    refine Eq.trans (g_K (v := nI 0) dX8_unmark_9 rfl rfl) ?_
    refine Eq.trans (g_vV (a := 3) (as := [.int v3, .int (nI 0)]) (rest := []) dX8_unmark_10 cl250 m85 rfl rfl rfl rfl (Nat.le_of_ble_eq_true rfl) rfl rfl rfl rfl) ?_
    refine am_bV_c (fun t1 => ?_)
    refine Eq.trans (g_inc (v := v3 + nI 1) dX8_unmark_13 rfl (Nat.le_of_ble_eq_true rfl) rfl rfl rfl rfl) ?_
    refine Eq.trans (g_goto (pc' := 2) dX8_unmark_16 rfl) ?_
    rfl
theorem q87_0 (C : am_C) (σ : am_M) : am_go am_X0 C M87 0 [.ref 3, .null, .null] [] σ = am_go am_X0 C M87 4 [.ref 3, .int (nI 0), .int (nI 0)] [] σ := by
  refine Eq.trans (g_K (v := nI 0) dX8_countMarks_0 rfl rfl) ?_
  refine Eq.trans (g_isn (k := 1) dX8_countMarks_1 rfl (Nat.le_of_ble_eq_true rfl) rfl rfl rfl) ?_
  refine Eq.trans (g_K (v := nI 0) dX8_countMarks_2 rfl rfl) ?_
  refine Eq.trans (g_isn (k := 2) dX8_countMarks_3 rfl (Nat.le_of_ble_eq_true rfl) rfl rfl rfl) ?_
  rfl
theorem q87_4 (C : am_C) (σ : am_M) (v1 v2 : Int32) : am_go am_X0 C M87 4 [.ref 3, .int v1, .int v2] [] σ = if (nI 64) ≤ v2 then (some (.inl (some (.int v1)), σ)) else (if am_in v2 64 = true then (if σ.1 19 (v2 : Int32).toNatClampNeg = nI 0 then (am_go am_X0 C M87 4 [.ref 3, .int v1, .int (v2 + nI 1)] [] σ) else (am_go am_X0 C M87 4 [.ref 3, .int (v1 + nI 1), .int (v2 + nI 1)] [] σ)) else none) := by
  refine Eq.trans (g_A dX8_countMarks_4 rfl rfl) ?_
  refine Eq.trans (g_K (v := nI 64) dX8_countMarks_5 rfl rfl) ?_
  refine Eq.trans (g_icge (t := 28) dX8_countMarks_7 rfl rfl) ?_
  refine am_ite ?_ ?_
  · refine Eq.trans (g_A dX8_countMarks_28 rfl rfl) ?_
    exact g_iret dX8_countMarks_29 rfl
  · refine Eq.trans (g_A dX8_countMarks_10 rfl rfl) ?_
    refine Eq.trans (g_getR dX8_countMarks_11 f79 sh3 rfl rfl) ?_
    refine Eq.trans (g_A dX8_countMarks_14 rfl rfl) ?_
    refine Eq.trans (g_bald dX8_countMarks_15 sh19 rfl) ?_
    refine am_ite ?_ rfl
    refine Eq.trans (g_ifeq (t := 22) dX8_countMarks_16 rfl rfl) ?_
    refine am_ite ?_ ?_
    · refine Eq.trans (g_inc (v := v2 + nI 1) dX8_countMarks_22 rfl (Nat.le_of_ble_eq_true rfl) rfl rfl rfl rfl) ?_
      refine Eq.trans (g_goto (pc' := 4) dX8_countMarks_25 rfl) ?_
      rfl
    · refine Eq.trans (g_inc (v := v1 + nI 1) dX8_countMarks_19 rfl (Nat.le_of_ble_eq_true rfl) rfl rfl rfl rfl) ?_
      refine Eq.trans (g_inc (v := v2 + nI 1) dX8_countMarks_22 rfl (Nat.le_of_ble_eq_true rfl) rfl rfl rfl rfl) ?_
      refine Eq.trans (g_goto (pc' := 4) dX8_countMarks_25 rfl) ?_
      rfl
theorem q88_0 (C : am_C) (σ : am_M) (v1 v2 : Int32) : am_go am_X0 C M88 0 [.ref 3, .int v1, .int v2, .null, .null] [] σ = am_go am_X0 C M88 5 [.ref 3, .int v1, .int v2, .int (nI 0), .int v1] [] σ := by
  refine Eq.trans (g_K (v := nI 0) dX8_countRecords_0 rfl rfl) ?_
  refine Eq.trans (g_isn (k := 3) dX8_countRecords_1 rfl (Nat.le_of_ble_eq_true rfl) rfl rfl rfl) ?_
  refine Eq.trans (g_A dX8_countRecords_2 rfl rfl) ?_
  refine Eq.trans (g_ist (k := 4) dX8_countRecords_3 (Nat.le_of_ble_eq_true rfl) rfl rfl rfl) ?_
  rfl
theorem q88_5 (C : am_C) (σ : am_M) (v1 v2 v3 v4 : Int32) : am_go am_X0 C M88 5 [.ref 3, .int v1, .int v2, .int v3, .int v4] [] σ = if v2 ≤ v4 then (some (.inl (some (.int v3)), σ)) else (am_bI (C 79 [.ref 3, .int v4] σ) (fun r1 t1 => if r1 = (-1) then (am_go am_X0 C M88 5 [.ref 3, .int v1, .int v2, .int v3, .int (v4 + nI 1)] [] t1) else (am_go am_X0 C M88 5 [.ref 3, .int v1, .int v2, .int (v3 + nI 1), .int (v4 + nI 1)] [] t1))) := by
  refine Eq.trans (g_A dX8_countRecords_5 rfl rfl) ?_
  refine Eq.trans (g_A dX8_countRecords_7 rfl rfl) ?_
  refine Eq.trans (g_icge (t := 30) dX8_countRecords_8 rfl rfl) ?_
  refine am_ite ?_ ?_
  · refine Eq.trans (g_A dX8_countRecords_30 rfl rfl) ?_
    exact g_iret dX8_countRecords_31 rfl
  · refine Eq.trans (g_A dX8_countRecords_11 rfl rfl) ?_
    refine Eq.trans (g_A dX8_countRecords_12 rfl rfl) ?_
    refine Eq.trans (g_vI (a := 3) (as := [.int v4]) (rest := []) dX8_countRecords_14 cl251 m79 rfl rfl rfl rfl (Nat.le_of_ble_eq_true rfl) rfl rfl rfl rfl) ?_
    refine am_bI_c (fun r1 t1 => ?_)
    refine Eq.trans (g_K (v := (-1)) dX8_countRecords_17 rfl rfl) ?_
    refine Eq.trans (g_iceq (t := 24) dX8_countRecords_18 rfl rfl) ?_
    refine am_ite ?_ ?_
    · refine Eq.trans (g_inc (v := v4 + nI 1) dX8_countRecords_24 rfl (Nat.le_of_ble_eq_true rfl) rfl rfl rfl rfl) ?_
      refine Eq.trans (g_goto (pc' := 5) dX8_countRecords_27 rfl) ?_
      rfl
    · refine Eq.trans (g_inc (v := v3 + nI 1) dX8_countRecords_21 rfl (Nat.le_of_ble_eq_true rfl) rfl rfl rfl rfl) ?_
      refine Eq.trans (g_inc (v := v4 + nI 1) dX8_countRecords_24 rfl (Nat.le_of_ble_eq_true rfl) rfl rfl rfl rfl) ?_
      refine Eq.trans (g_goto (pc' := 5) dX8_countRecords_27 rfl) ?_
      rfl
theorem q89_0 (C : am_C) (σ : am_M) (v1 : Int32) : am_go am_X0 C M89 0 [.ref 3, .int v1, .null, .null, .null] [] σ = am_nI (C 167 [.int v1] σ) (fun r1 t1 => am_go am_X0 C M89 10 [.ref 3, .int v1, .int r1, .int (nI 0), .int r1] [] t1) := by
  refine Eq.trans (g_A dX8_countChildren_0 rfl rfl) ?_
  refine Eq.trans (g_sN (as := [.int v1]) (rest := []) dX8_countChildren_1 rfl cl252 m167 rfl rfl rfl rfl (Nat.le_of_ble_eq_true rfl) rfl rfl) ?_
  refine am_nI_c (fun r1 t1 => ?_)
  refine Eq.trans (g_isn (k := 2) dX8_countChildren_4 rfl (Nat.le_of_ble_eq_true rfl) rfl rfl rfl) ?_
  refine Eq.trans (g_K (v := nI 0) dX8_countChildren_5 rfl rfl) ?_
  refine Eq.trans (g_isn (k := 3) dX8_countChildren_6 rfl (Nat.le_of_ble_eq_true rfl) rfl rfl rfl) ?_
  refine Eq.trans (g_A dX8_countChildren_7 rfl rfl) ?_
  refine Eq.trans (g_ist (k := 4) dX8_countChildren_8 (Nat.le_of_ble_eq_true rfl) rfl rfl rfl) ?_
  rfl
theorem q89_10 (C : am_C) (σ : am_M) (v1 v2 v3 v4 : Int32) : am_go am_X0 C M89 10 [.ref 3, .int v1, .int v2, .int v3, .int v4] [] σ = if (v2 + (nI 4)) ≤ v4 then (some (.inl (some (.int v3)), σ)) else (am_bI (C 78 [.ref 3, .int v4] σ) (fun r1 t1 => if r1 = nI 0 then (am_go am_X0 C M89 10 [.ref 3, .int v1, .int v2, .int v3, .int (v4 + nI 1)] [] t1) else (am_go am_X0 C M89 10 [.ref 3, .int v1, .int v2, .int (v3 + nI 1), .int (v4 + nI 1)] [] t1))) := by
  refine Eq.trans (g_A dX8_countChildren_10 rfl rfl) ?_
  refine Eq.trans (g_A dX8_countChildren_12 rfl rfl) ?_
  refine Eq.trans (g_K (v := nI 4) dX8_countChildren_13 rfl rfl) ?_
  refine Eq.trans (g_iadd dX8_countChildren_14 rfl) ?_
  refine Eq.trans (g_icge (t := 36) dX8_countChildren_15 rfl rfl) ?_
  refine am_ite ?_ ?_
  · refine Eq.trans (g_A dX8_countChildren_36 rfl rfl) ?_
    exact g_iret dX8_countChildren_37 rfl
  · refine Eq.trans (g_A dX8_countChildren_18 rfl rfl) ?_
    refine Eq.trans (g_A dX8_countChildren_19 rfl rfl) ?_
    refine Eq.trans (g_vI (a := 3) (as := [.int v4]) (rest := []) dX8_countChildren_21 cl253 m78 rfl rfl rfl rfl (Nat.le_of_ble_eq_true rfl) rfl rfl rfl rfl) ?_
    refine am_bI_c (fun r1 t1 => ?_)
    refine Eq.trans (g_ifeq (t := 30) dX8_countChildren_24 rfl rfl) ?_
    refine am_ite ?_ ?_
    · refine Eq.trans (g_inc (v := v4 + nI 1) dX8_countChildren_30 rfl (Nat.le_of_ble_eq_true rfl) rfl rfl rfl rfl) ?_
      refine Eq.trans (g_goto (pc' := 10) dX8_countChildren_33 rfl) ?_
      rfl
    · refine Eq.trans (g_inc (v := v3 + nI 1) dX8_countChildren_27 rfl (Nat.le_of_ble_eq_true rfl) rfl rfl rfl rfl) ?_
      refine Eq.trans (g_inc (v := v4 + nI 1) dX8_countChildren_30 rfl (Nat.le_of_ble_eq_true rfl) rfl rfl rfl rfl) ?_
      refine Eq.trans (g_goto (pc' := 10) dX8_countChildren_33 rfl) ?_
      rfl
theorem q90_0 (C : am_C) (σ : am_M) (v1 : Int32) : am_go am_X0 C M90 0 [.ref 3, .int v1, .null, .null] [] σ = am_nI (C 165 [.int v1] σ) (fun r1 t1 => am_go am_X0 C M90 7 [.ref 3, .int v1, .int (nI 0), .int r1] [] t1) := by
  refine Eq.trans (g_K (v := nI 0) dX8_emptyOnWayTo_0 rfl rfl) ?_
  refine Eq.trans (g_isn (k := 2) dX8_emptyOnWayTo_1 rfl (Nat.le_of_ble_eq_true rfl) rfl rfl rfl) ?_
  refine Eq.trans (g_A dX8_emptyOnWayTo_2 rfl rfl) ?_
  refine Eq.trans (g_sN (as := [.int v1]) (rest := []) dX8_emptyOnWayTo_3 rfl cl254 m165 rfl rfl rfl rfl (Nat.le_of_ble_eq_true rfl) rfl rfl) ?_
  refine am_nI_c (fun r1 t1 => ?_)
  refine Eq.trans (g_isn (k := 3) dX8_emptyOnWayTo_6 rfl (Nat.le_of_ble_eq_true rfl) rfl rfl rfl) ?_
  rfl
theorem q90_7 (C : am_C) (σ : am_M) (v1 v2 v3 : Int32) : am_go am_X0 C M90 7 [.ref 3, .int v1, .int v2, .int v3] [] σ = if v3 ≤ (nI 0) then (some (.inl (some (.int v2)), σ)) else (am_nI (C 168 [.int v1, .int v3] σ) (fun r1 t1 => am_bI (C 78 [.ref 3, .int r1] t1) (fun r2 t2 => if r2 = nI 0 then (am_go am_X0 C M90 7 [.ref 3, .int v1, .int (v2 + nI 1), .int (v3 + (-1))] [] t2) else (am_go am_X0 C M90 7 [.ref 3, .int v1, .int v2, .int (v3 + (-1))] [] t2)))) := by
  refine Eq.trans (g_A dX8_emptyOnWayTo_7 rfl rfl) ?_
  refine Eq.trans (g_ifle (t := 32) dX8_emptyOnWayTo_8 rfl rfl) ?_
  refine am_ite ?_ ?_
  · refine Eq.trans (g_A dX8_emptyOnWayTo_32 rfl rfl) ?_
    exact g_iret dX8_emptyOnWayTo_33 rfl
  · refine Eq.trans (g_A dX8_emptyOnWayTo_11 rfl rfl) ?_
    refine Eq.trans (g_A dX8_emptyOnWayTo_12 rfl rfl) ?_
    refine Eq.trans (g_A dX8_emptyOnWayTo_13 rfl rfl) ?_
    refine Eq.trans (g_sN (as := [.int v1, .int v3]) (rest := [.ref 3]) dX8_emptyOnWayTo_14 rfl cl255 m168 rfl rfl rfl rfl (Nat.le_of_ble_eq_true rfl) rfl rfl) ?_
    refine am_nI_c (fun r1 t1 => ?_)
    refine Eq.trans (g_vI (a := 3) (as := [.int r1]) (rest := []) dX8_emptyOnWayTo_17 cl253 m78 rfl rfl rfl rfl (Nat.le_of_ble_eq_true rfl) rfl rfl rfl rfl) ?_
    refine am_bI_c (fun r2 t2 => ?_)
    refine Eq.trans (g_ifne (t := 26) dX8_emptyOnWayTo_20 rfl rfl) ?_
    refine am_ite ?_ ?_
    · refine Eq.trans (g_inc (v := v2 + nI 1) dX8_emptyOnWayTo_23 rfl (Nat.le_of_ble_eq_true rfl) rfl rfl rfl rfl) ?_
      refine Eq.trans (g_inc (v := v3 + (-1)) dX8_emptyOnWayTo_26 rfl (Nat.le_of_ble_eq_true rfl) rfl rfl rfl rfl) ?_
      refine Eq.trans (g_goto (pc' := 7) dX8_emptyOnWayTo_29 rfl) ?_
      rfl
    · refine Eq.trans (g_inc (v := v3 + (-1)) dX8_emptyOnWayTo_26 rfl (Nat.le_of_ble_eq_true rfl) rfl rfl rfl rfl) ?_
      refine Eq.trans (g_goto (pc' := 7) dX8_emptyOnWayTo_29 rfl) ?_
      rfl
theorem q91_0 (C : am_C) (σ : am_M) (v1 : Int32) : am_go am_X0 C M91 0 [.ref 3, .int v1] [] σ = am_nI (C 162 [.int v1] σ) (fun r1 t1 => if r1 = nI 0 then (some (.inl none, t1)) else (if am_in v1 85 = true then (am_bV (C 29 [.ref 1, .int (t1.1 16 (v1 : Int32).toNatClampNeg), .int (-1)] t1) (fun t2 => am_bI (C 27 [.ref 1, .int v1] t2) (fun r3 t3 => if am_in v1 85 = true then (some (.inl none, am_wI t3 16 (v1 : Int32).toNatClampNeg r3)) else none))) else none)) := by
  refine Eq.trans (g_A dX8_renew_0 rfl rfl) ?_
  refine Eq.trans (g_sN (as := [.int v1]) (rest := []) dX8_renew_1 rfl cl246 m162 rfl rfl rfl rfl (Nat.le_of_ble_eq_true rfl) rfl rfl) ?_
  refine am_nI_c (fun r1 t1 => ?_)
  refine Eq.trans (g_ifeq (t := 35) dX8_renew_4 rfl rfl) ?_
  refine am_ite ?_ ?_
  · exact g_vret dX8_renew_35 rfl
  · refine Eq.trans (g_A dX8_renew_7 rfl rfl) ?_
    refine Eq.trans (g_getR dX8_renew_8 f80 sh3 rfl rfl) ?_
    refine Eq.trans (g_A dX8_renew_11 rfl rfl) ?_
    refine Eq.trans (g_getR dX8_renew_12 f76 sh3 rfl rfl) ?_
    refine Eq.trans (g_A dX8_renew_15 rfl rfl) ?_
    refine Eq.trans (g_iald dX8_renew_16 sh16 rfl) ?_
    refine am_ite ?_ rfl
    refine Eq.trans (g_K (v := (-1)) dX8_renew_17 rfl rfl) ?_
    refine Eq.trans (g_vV (a := 1) (as := [.int (t1.1 16 (v1 : Int32).toNatClampNeg), .int (-1)]) (rest := []) dX8_renew_18 cl256 m29 rfl rfl rfl rfl (Nat.le_of_ble_eq_true rfl) rfl rfl rfl rfl) ?_
    refine am_bV_c (fun t2 => ?_)
    refine Eq.trans (g_A dX8_renew_21 rfl rfl) ?_
    refine Eq.trans (g_getR dX8_renew_22 f76 sh3 rfl rfl) ?_
    refine Eq.trans (g_A dX8_renew_25 rfl rfl) ?_
    refine Eq.trans (g_A dX8_renew_26 rfl rfl) ?_
    refine Eq.trans (g_getR dX8_renew_27 f80 sh3 rfl rfl) ?_
    refine Eq.trans (g_A dX8_renew_30 rfl rfl) ?_
    refine Eq.trans (g_vI (a := 1) (as := [.int v1]) (rest := [.int v1, .ref 16]) dX8_renew_31 cl257 m27 rfl rfl rfl rfl (Nat.le_of_ble_eq_true rfl) rfl rfl rfl rfl) ?_
    refine am_bI_c (fun r3 t3 => ?_)
    refine Eq.trans (g_iast dX8_renew_34 sh16 rfl) ?_
    refine am_ite ?_ rfl
    exact g_vret dX8_renew_35 rfl
theorem q92_0 (C : am_C) (σ : am_M) (v1 v2 : Int32) : am_go am_X0 C M92 0 [.ref 3, .int v1, .int v2, .null, .null, .null, .null, .null] [] σ = am_nI (C 165 [.int v1] σ) (fun r1 t1 => am_go am_X0 C M92 14 [.ref 3, .int v1, .int v2, .int v1, .int v2, .int (nI 1), .int r1, .null] [] t1) := by
  refine Eq.trans (g_A dX8_moveNodes_0 rfl rfl) ?_
  refine Eq.trans (g_isn (k := 3) dX8_moveNodes_1 rfl (Nat.le_of_ble_eq_true rfl) rfl rfl rfl) ?_
  refine Eq.trans (g_A dX8_moveNodes_2 rfl rfl) ?_
  refine Eq.trans (g_ist (k := 4) dX8_moveNodes_3 (Nat.le_of_ble_eq_true rfl) rfl rfl rfl) ?_
  refine Eq.trans (g_K (v := nI 1) dX8_moveNodes_5 rfl rfl) ?_
  refine Eq.trans (g_ist (k := 5) dX8_moveNodes_6 (Nat.le_of_ble_eq_true rfl) rfl rfl rfl) ?_
  refine Eq.trans (g_A dX8_moveNodes_8 rfl rfl) ?_
  refine Eq.trans (g_sN (as := [.int v1]) (rest := []) dX8_moveNodes_9 rfl cl254 m165 rfl rfl rfl rfl (Nat.le_of_ble_eq_true rfl) rfl rfl) ?_
  refine am_nI_c (fun r1 t1 => ?_)
  refine Eq.trans (g_ist (k := 6) dX8_moveNodes_12 (Nat.le_of_ble_eq_true rfl) rfl rfl rfl) ?_
  rfl
theorem q92_14 (C : am_C) (σ : am_M) (v1 v2 v3 v4 v5 v6 : Int32) {u7 : Value} (hu7 : (!(u7.category == 2)) = true) : am_go am_X0 C M92 14 [.ref 3, .int v1, .int v2, .int v3, .int v4, .int v5, .int v6, u7] [] σ = if (nI 3) < v6 then (some (.inl none, σ)) else (am_go am_X0 C M92 23 [.ref 3, .int v1, .int v2, .int v3, .int v4, .int v5, .int v6, .int (nI 0)] [] σ) := by
  refine Eq.trans (g_A dX8_moveNodes_14 rfl rfl) ?_
  refine Eq.trans (g_K (v := nI 3) dX8_moveNodes_16 rfl rfl) ?_
  refine Eq.trans (g_icgt (t := 73) dX8_moveNodes_17 rfl rfl) ?_
  refine am_ite ?_ ?_
  · exact g_vret dX8_moveNodes_73 rfl
  · refine Eq.trans (g_K (v := nI 0) dX8_moveNodes_20 rfl rfl) ?_
    refine Eq.trans (g_ist (k := 7) dX8_moveNodes_21 (Nat.le_of_ble_eq_true rfl) rfl rfl rfl) ?_
    rfl
theorem q92_23 (C : am_C) (σ : am_M) (v1 v2 v3 v4 v5 v6 v7 : Int32) : am_go am_X0 C M92 23 [.ref 3, .int v1, .int v2, .int v3, .int v4, .int v5, .int v6, .int v7] [] σ = if v5 ≤ v7 then (am_nI (C 167 [.int v3] σ) (fun r1 t1 => am_nI (C 167 [.int v4] t1) (fun r2 t2 => am_go am_X0 C M92 14 [.ref 3, .int v1, .int v2, .int r1, .int r2, .int (v5 * (nI 4)), .int (v6 + nI 1), .int v7] [] t2))) else (am_bV (C 96 [.ref 3, .int (v3 + v7), .int (v4 + v7)] σ) (fun t3 => am_go am_X0 C M92 23 [.ref 3, .int v1, .int v2, .int v3, .int v4, .int v5, .int v6, .int (v7 + nI 1)] [] t3)) := by
  refine Eq.trans (g_A dX8_moveNodes_23 rfl rfl) ?_
  refine Eq.trans (g_A dX8_moveNodes_25 rfl rfl) ?_
  refine Eq.trans (g_icge (t := 49) dX8_moveNodes_27 rfl rfl) ?_
  refine am_ite ?_ ?_
  · refine Eq.trans (g_A dX8_moveNodes_49 rfl rfl) ?_
    refine Eq.trans (g_sN (as := [.int v3]) (rest := []) dX8_moveNodes_50 rfl cl252 m167 rfl rfl rfl rfl (Nat.le_of_ble_eq_true rfl) rfl rfl) ?_
    refine am_nI_c (fun r1 t1 => ?_)
    refine Eq.trans (g_isn (k := 3) dX8_moveNodes_53 rfl (Nat.le_of_ble_eq_true rfl) rfl rfl rfl) ?_
    refine Eq.trans (g_A dX8_moveNodes_54 rfl rfl) ?_
    refine Eq.trans (g_sN (as := [.int v4]) (rest := []) dX8_moveNodes_56 rfl cl252 m167 rfl rfl rfl rfl (Nat.le_of_ble_eq_true rfl) rfl rfl) ?_
    refine am_nI_c (fun r2 t2 => ?_)
    refine Eq.trans (g_ist (k := 4) dX8_moveNodes_59 (Nat.le_of_ble_eq_true rfl) rfl rfl rfl) ?_
    refine Eq.trans (g_A dX8_moveNodes_61 rfl rfl) ?_
    refine Eq.trans (g_K (v := nI 4) dX8_moveNodes_63 rfl rfl) ?_
    refine Eq.trans (g_imul dX8_moveNodes_64 rfl) ?_
    refine Eq.trans (g_ist (k := 5) dX8_moveNodes_65 (Nat.le_of_ble_eq_true rfl) rfl rfl rfl) ?_
    refine Eq.trans (g_inc (v := v6 + nI 1) dX8_moveNodes_67 rfl (Nat.le_of_ble_eq_true rfl) rfl rfl rfl rfl) ?_
    refine Eq.trans (g_goto (pc' := 14) dX8_moveNodes_70 rfl) ?_
    rfl
  · refine Eq.trans (g_A dX8_moveNodes_30 rfl rfl) ?_
    refine Eq.trans (g_A dX8_moveNodes_31 rfl rfl) ?_
    refine Eq.trans (g_A dX8_moveNodes_32 rfl rfl) ?_
    refine Eq.trans (g_iadd dX8_moveNodes_34 rfl) ?_
    refine Eq.trans (g_A dX8_moveNodes_35 rfl rfl) ?_
    refine Eq.trans (g_A dX8_moveNodes_37 rfl rfl) ?_
    refine Eq.trans (g_iadd dX8_moveNodes_39 rfl) ?_
    refine Eq.trans (g_vV (a := 3) (as := [.int (v3 + v7), .int (v4 + v7)]) (rest := []) dX8_moveNodes_40 cl258 m96 rfl rfl rfl rfl (Nat.le_of_ble_eq_true rfl) rfl rfl rfl rfl) ?_
    refine am_bV_c (fun t3 => ?_)
    refine Eq.trans (g_inc (v := v7 + nI 1) dX8_moveNodes_43 rfl (Nat.le_of_ble_eq_true rfl) rfl rfl rfl rfl) ?_
    refine Eq.trans (g_goto (pc' := 23) dX8_moveNodes_46 rfl) ?_
    rfl
theorem q93_0 (C : am_C) (σ : am_M) (v1 : Int32) : am_go am_X0 C M93 0 [.ref 3, .int v1, .null, .null] [] σ = am_nI (C 165 [.int v1] σ) (fun r1 t1 => am_go am_X0 C M93 7 [.ref 3, .int v1, .int (r1 - (nI 1)), .null] [] t1) := by
  refine Eq.trans (g_A dX8_pruneAbove_0 rfl rfl) ?_
  refine Eq.trans (g_sN (as := [.int v1]) (rest := []) dX8_pruneAbove_1 rfl cl254 m165 rfl rfl rfl rfl (Nat.le_of_ble_eq_true rfl) rfl rfl) ?_
  refine am_nI_c (fun r1 t1 => ?_)
  refine Eq.trans (g_K (v := nI 1) dX8_pruneAbove_4 rfl rfl) ?_
  refine Eq.trans (g_isub dX8_pruneAbove_5 rfl) ?_
  refine Eq.trans (g_isn (k := 2) dX8_pruneAbove_6 rfl (Nat.le_of_ble_eq_true rfl) rfl rfl rfl) ?_
  rfl
theorem q93_7 (C : am_C) (σ : am_M) (v1 v2 : Int32) {u3 : Value} (hu3 : (!(u3.category == 2)) = true) : am_go am_X0 C M93 7 [.ref 3, .int v1, .int v2, u3] [] σ = if v2 ≤ (nI 0) then (some (.inl none, σ)) else (am_nI (C 168 [.int v1, .int v2] σ) (fun r1 t1 => am_bI (C 89 [.ref 3, .int r1] t1) (fun r2 t2 => if r2 = nI 0 then (am_bV (C 95 [.ref 3, .int r1] t2) (fun t3 => am_go am_X0 C M93 7 [.ref 3, .int v1, .int (v2 + (-1)), .int r1] [] t3)) else (am_go am_X0 C M93 7 [.ref 3, .int v1, .int (v2 + (-1)), .int r1] [] t2)))) := by
  refine Eq.trans (g_A dX8_pruneAbove_7 rfl rfl) ?_
  refine Eq.trans (g_ifle (t := 36) dX8_pruneAbove_8 rfl rfl) ?_
  refine am_ite ?_ ?_
  · exact g_vret dX8_pruneAbove_36 rfl
  · refine Eq.trans (g_A dX8_pruneAbove_11 rfl rfl) ?_
    refine Eq.trans (g_A dX8_pruneAbove_12 rfl rfl) ?_
    refine Eq.trans (g_sN (as := [.int v1, .int v2]) (rest := []) dX8_pruneAbove_13 rfl cl255 m168 rfl rfl rfl rfl (Nat.le_of_ble_eq_true rfl) rfl rfl) ?_
    refine am_nI_c (fun r1 t1 => ?_)
    refine Eq.trans (g_isn (k := 3) dX8_pruneAbove_16 rfl (Nat.le_of_ble_eq_true rfl) rfl rfl rfl) ?_
    refine Eq.trans (g_A dX8_pruneAbove_17 rfl rfl) ?_
    refine Eq.trans (g_A dX8_pruneAbove_18 rfl rfl) ?_
    refine Eq.trans (g_vI (a := 3) (as := [.int r1]) (rest := []) dX8_pruneAbove_19 cl259 m89 rfl rfl rfl rfl (Nat.le_of_ble_eq_true rfl) rfl rfl rfl rfl) ?_
    refine am_bI_c (fun r2 t2 => ?_)
    refine Eq.trans (g_ifne (t := 30) dX8_pruneAbove_22 rfl rfl) ?_
    refine am_ite ?_ ?_
    · refine Eq.trans (g_A dX8_pruneAbove_25 rfl rfl) ?_
      refine Eq.trans (g_A dX8_pruneAbove_26 rfl rfl) ?_
      refine Eq.trans (g_vV (a := 3) (as := [.int r1]) (rest := []) dX8_pruneAbove_27 cl260 m95 rfl rfl rfl rfl (Nat.le_of_ble_eq_true rfl) rfl rfl rfl rfl) ?_
      refine am_bV_c (fun t3 => ?_)
      refine Eq.trans (g_inc (v := v2 + (-1)) dX8_pruneAbove_30 rfl (Nat.le_of_ble_eq_true rfl) rfl rfl rfl rfl) ?_
      refine Eq.trans (g_goto (pc' := 7) dX8_pruneAbove_33 rfl) ?_
      rfl
    · refine Eq.trans (g_inc (v := v2 + (-1)) dX8_pruneAbove_30 rfl (Nat.le_of_ble_eq_true rfl) rfl rfl rfl rfl) ?_
      refine Eq.trans (g_goto (pc' := 7) dX8_pruneAbove_33 rfl) ?_
      rfl
theorem q94_0 (C : am_C) (σ : am_M) : am_go am_X0 C M94 0 [.ref 3, .ref 7, .null] [] σ = am_go am_X0 C M94 2 [.ref 3, .ref 7, .int (nI 1)] [] σ := by
  refine Eq.trans (g_K (v := nI 1) dX8_clearAllBut_0 rfl rfl) ?_
  refine Eq.trans (g_isn (k := 2) dX8_clearAllBut_1 rfl (Nat.le_of_ble_eq_true rfl) rfl rfl rfl) ?_
  rfl
theorem q94_2 (C : am_C) (σ : am_M) (v2 : Int32) : am_go am_X0 C M94 2 [.ref 3, .ref 7, .int v2] [] σ = if (nI 85) ≤ v2 then (some (.inl none, σ)) else (am_bI (C 15 [.ref 7, .int v2] σ) (fun r1 t1 => if r1 = nI 0 then (am_bV (C 95 [.ref 3, .int v2] t1) (fun t2 => am_go am_X0 C M94 2 [.ref 3, .ref 7, .int (v2 + nI 1)] [] t2)) else (am_go am_X0 C M94 2 [.ref 3, .ref 7, .int (v2 + nI 1)] [] t1))) := by
  refine Eq.trans (g_A dX8_clearAllBut_2 rfl rfl) ?_
  refine Eq.trans (g_K (v := nI 85) dX8_clearAllBut_3 rfl rfl) ?_
  refine Eq.trans (g_icge (t := 27) dX8_clearAllBut_5 rfl rfl) ?_
  refine am_ite ?_ ?_
  · exact g_vret dX8_clearAllBut_27 rfl
  · refine Eq.trans (g_A dX8_clearAllBut_8 rfl rfl) ?_
    refine Eq.trans (g_A dX8_clearAllBut_9 rfl rfl) ?_
    refine Eq.trans (g_vI (a := 7) (as := [.int v2]) (rest := []) dX8_clearAllBut_10 cl261 m15 rfl rfl rfl rfl (Nat.le_of_ble_eq_true rfl) rfl rfl rfl rfl) ?_
    refine am_bI_c (fun r1 t1 => ?_)
    refine Eq.trans (g_ifne (t := 21) dX8_clearAllBut_13 rfl rfl) ?_
    refine am_ite ?_ ?_
    · refine Eq.trans (g_A dX8_clearAllBut_16 rfl rfl) ?_
      refine Eq.trans (g_A dX8_clearAllBut_17 rfl rfl) ?_
      refine Eq.trans (g_vV (a := 3) (as := [.int v2]) (rest := []) dX8_clearAllBut_18 cl260 m95 rfl rfl rfl rfl (Nat.le_of_ble_eq_true rfl) rfl rfl rfl rfl) ?_
      refine am_bV_c (fun t2 => ?_)
      refine Eq.trans (g_inc (v := v2 + nI 1) dX8_clearAllBut_21 rfl (Nat.le_of_ble_eq_true rfl) rfl rfl rfl rfl) ?_
      refine Eq.trans (g_goto (pc' := 2) dX8_clearAllBut_24 rfl) ?_
      rfl
    · refine Eq.trans (g_inc (v := v2 + nI 1) dX8_clearAllBut_21 rfl (Nat.le_of_ble_eq_true rfl) rfl rfl rfl rfl) ?_
      refine Eq.trans (g_goto (pc' := 2) dX8_clearAllBut_24 rfl) ?_
      rfl
theorem q95_0 (C : am_C) (σ : am_M) (v1 : Int32) : am_go am_X0 C M95 0 [.ref 3, .int v1, .null] [] σ = am_nI (C 162 [.int v1] σ) (fun r1 t1 => if r1 = nI 0 then (some (.inl none, t1)) else (if am_in v1 85 = true then (am_bV (C 29 [.ref 1, .int (t1.1 16 (v1 : Int32).toNatClampNeg), .int (-1)] t1) (fun t2 => if am_in v1 85 = true then (am_nI (C 163 [.int (v1 - (nI 21))] (am_wI t2 16 (v1 : Int32).toNatClampNeg (nI 0))) (fun r3 t3 => if r3 = nI 0 then (some (.inl none, t3)) else (if am_in (v1 - (nI 21)) 64 = true then (am_bV (C 63 [.ref 2, .int (t3.1 17 (v1 - (nI 21) : Int32).toNatClampNeg), .int (-1)] t3) (fun t4 => if am_in (v1 - (nI 21)) 64 = true then (if am_in (v1 - (nI 21)) 64 = true then (if am_in (v1 - (nI 21)) 64 = true then (some (.inl none, am_wI (am_wI (am_wI t4 17 (v1 - (nI 21) : Int32).toNatClampNeg (-1)) 18 (v1 - (nI 21) : Int32).toNatClampNeg (-1)) 19 (v1 - (nI 21) : Int32).toNatClampNeg (vp_nar .boolean (nI 0)))) else none) else none) else none)) else none))) else none)) else none)) := by
  refine Eq.trans (g_A dX8_clear_0 rfl rfl) ?_
  refine Eq.trans (g_sN (as := [.int v1]) (rest := []) dX8_clear_1 rfl cl246 m162 rfl rfl rfl rfl (Nat.le_of_ble_eq_true rfl) rfl rfl) ?_
  refine am_nI_c (fun r1 t1 => ?_)
  refine Eq.trans (g_ifne (t := 8) dX8_clear_4 rfl rfl) ?_
  refine am_ite ?_ ?_
  · exact g_vret dX8_clear_7 rfl
  · refine Eq.trans (g_A dX8_clear_8 rfl rfl) ?_
    refine Eq.trans (g_getR dX8_clear_9 f80 sh3 rfl rfl) ?_
    refine Eq.trans (g_A dX8_clear_12 rfl rfl) ?_
    refine Eq.trans (g_getR dX8_clear_13 f76 sh3 rfl rfl) ?_
    refine Eq.trans (g_A dX8_clear_16 rfl rfl) ?_
    refine Eq.trans (g_iald dX8_clear_17 sh16 rfl) ?_
    refine am_ite ?_ rfl
    refine Eq.trans (g_K (v := (-1)) dX8_clear_18 rfl rfl) ?_
    refine Eq.trans (g_vV (a := 1) (as := [.int (t1.1 16 (v1 : Int32).toNatClampNeg), .int (-1)]) (rest := []) dX8_clear_19 cl256 m29 rfl rfl rfl rfl (Nat.le_of_ble_eq_true rfl) rfl rfl rfl rfl) ?_
    refine am_bV_c (fun t2 => ?_)
    refine Eq.trans (g_A dX8_clear_22 rfl rfl) ?_
    refine Eq.trans (g_getR dX8_clear_23 f76 sh3 rfl rfl) ?_
    refine Eq.trans (g_A dX8_clear_26 rfl rfl) ?_
    refine Eq.trans (g_K (v := nI 0) dX8_clear_27 rfl rfl) ?_
    refine Eq.trans (g_iast dX8_clear_28 sh16 rfl) ?_
    refine am_ite ?_ rfl
    refine Eq.trans (g_A dX8_clear_29 rfl rfl) ?_
    refine Eq.trans (g_K (v := nI 21) dX8_clear_30 rfl rfl) ?_
    refine Eq.trans (g_isub dX8_clear_32 rfl) ?_
    refine Eq.trans (g_isn (k := 2) dX8_clear_33 rfl (Nat.le_of_ble_eq_true rfl) rfl rfl rfl) ?_
    refine Eq.trans (g_A dX8_clear_34 rfl rfl) ?_
    refine Eq.trans (g_sN (as := [.int (v1 - (nI 21))]) (rest := []) dX8_clear_35 rfl cl248 m163 rfl rfl rfl rfl (Nat.le_of_ble_eq_true rfl) rfl rfl) ?_
    refine am_nI_c (fun r3 t3 => ?_)
    refine Eq.trans (g_ifeq (t := 76) dX8_clear_38 rfl rfl) ?_
    refine am_ite ?_ ?_
    · exact g_vret dX8_clear_76 rfl
    · refine Eq.trans (g_A dX8_clear_41 rfl rfl) ?_
      refine Eq.trans (g_getR dX8_clear_42 f81 sh3 rfl rfl) ?_
      refine Eq.trans (g_A dX8_clear_45 rfl rfl) ?_
      refine Eq.trans (g_getR dX8_clear_46 f77 sh3 rfl rfl) ?_
      refine Eq.trans (g_A dX8_clear_49 rfl rfl) ?_
      refine Eq.trans (g_iald dX8_clear_50 sh17 rfl) ?_
      refine am_ite ?_ rfl
      refine Eq.trans (g_K (v := (-1)) dX8_clear_51 rfl rfl) ?_
      refine Eq.trans (g_vV (a := 2) (as := [.int (t3.1 17 (v1 - (nI 21) : Int32).toNatClampNeg), .int (-1)]) (rest := []) dX8_clear_52 cl262 m63 rfl rfl rfl rfl (Nat.le_of_ble_eq_true rfl) rfl rfl rfl rfl) ?_
      refine am_bV_c (fun t4 => ?_)
      refine Eq.trans (g_A dX8_clear_55 rfl rfl) ?_
      refine Eq.trans (g_getR dX8_clear_56 f77 sh3 rfl rfl) ?_
      refine Eq.trans (g_A dX8_clear_59 rfl rfl) ?_
      refine Eq.trans (g_K (v := (-1)) dX8_clear_60 rfl rfl) ?_
      refine Eq.trans (g_iast dX8_clear_61 sh17 rfl) ?_
      refine am_ite ?_ rfl
      refine Eq.trans (g_A dX8_clear_62 rfl rfl) ?_
      refine Eq.trans (g_getR dX8_clear_63 f78 sh3 rfl rfl) ?_
      refine Eq.trans (g_A dX8_clear_66 rfl rfl) ?_
      refine Eq.trans (g_K (v := (-1)) dX8_clear_67 rfl rfl) ?_
      refine Eq.trans (g_iast dX8_clear_68 sh18 rfl) ?_
      refine am_ite ?_ rfl
      refine Eq.trans (g_A dX8_clear_69 rfl rfl) ?_
      refine Eq.trans (g_getR dX8_clear_70 f79 sh3 rfl rfl) ?_
      refine Eq.trans (g_A dX8_clear_73 rfl rfl) ?_
      refine Eq.trans (g_K (v := nI 0) dX8_clear_74 rfl rfl) ?_
      refine Eq.trans (g_bast dX8_clear_75 sh19 rfl) ?_
      refine am_ite ?_ rfl
      exact g_vret dX8_clear_76 rfl
theorem q96_0 (C : am_C) (σ : am_M) (v1 v2 : Int32) : am_go am_X0 C M96 0 [.ref 3, .int v1, .int v2, .null, .null] [] σ = am_nI (C 162 [.int v1] σ) (fun r1 t1 => if r1 = nI 0 then (some (.inl none, t1)) else (am_nI (C 162 [.int v2] t1) (fun r2 t2 => if r2 = nI 0 then (some (.inl none, t2)) else (if am_in v1 85 = true then (am_bV (C 29 [.ref 1, .int (t2.1 16 (v1 : Int32).toNatClampNeg), .int v2] t2) (fun t3 => if am_in v1 85 = true then (if am_in v2 85 = true then (if am_in v1 85 = true then (am_nI (C 163 [.int (v1 - (nI 21))] (am_wI (am_wI t3 16 (v2 : Int32).toNatClampNeg (t3.1 16 (v1 : Int32).toNatClampNeg)) 16 (v1 : Int32).toNatClampNeg (nI 0))) (fun r4 t4 => if r4 = nI 0 then (some (.inl none, t4)) else (am_nI (C 163 [.int (v2 - (nI 21))] t4) (fun r5 t5 => if r5 = nI 0 then (some (.inl none, t5)) else (if am_in (v1 - (nI 21)) 64 = true then (am_bV (C 63 [.ref 2, .int (t5.1 17 (v1 - (nI 21) : Int32).toNatClampNeg), .int (v2 - (nI 21))] t5) (fun t6 => if am_in (v1 - (nI 21)) 64 = true then (if am_in (v2 - (nI 21)) 64 = true then (if am_in (v1 - (nI 21)) 64 = true then (if am_in (v1 - (nI 21)) 64 = true then (if am_in (v2 - (nI 21)) 64 = true then (if am_in (v1 - (nI 21)) 64 = true then (some (.inl none, am_wI (am_wI (am_wI (am_wI t6 17 (v2 - (nI 21) : Int32).toNatClampNeg (t6.1 17 (v1 - (nI 21) : Int32).toNatClampNeg)) 17 (v1 - (nI 21) : Int32).toNatClampNeg (-1)) 18 (v2 - (nI 21) : Int32).toNatClampNeg ((am_wI (am_wI t6 17 (v2 - (nI 21) : Int32).toNatClampNeg (t6.1 17 (v1 - (nI 21) : Int32).toNatClampNeg)) 17 (v1 - (nI 21) : Int32).toNatClampNeg (-1)).1 18 (v1 - (nI 21) : Int32).toNatClampNeg)) 18 (v1 - (nI 21) : Int32).toNatClampNeg (-1))) else none) else none) else none) else none) else none) else none)) else none))))) else none) else none) else none)) else none)))) := by
  refine Eq.trans (g_A dX8_moveNode_0 rfl rfl) ?_
  refine Eq.trans (g_sN (as := [.int v1]) (rest := []) dX8_moveNode_1 rfl cl246 m162 rfl rfl rfl rfl (Nat.le_of_ble_eq_true rfl) rfl rfl) ?_
  refine am_nI_c (fun r1 t1 => ?_)
  refine Eq.trans (g_ifeq (t := 14) dX8_moveNode_4 rfl rfl) ?_
  refine am_ite ?_ ?_
  · exact g_vret dX8_moveNode_14 rfl
  · refine Eq.trans (g_A dX8_moveNode_7 rfl rfl) ?_
    refine Eq.trans (g_sN (as := [.int v2]) (rest := []) dX8_moveNode_8 rfl cl246 m162 rfl rfl rfl rfl (Nat.le_of_ble_eq_true rfl) rfl rfl) ?_
    refine am_nI_c (fun r2 t2 => ?_)
    refine Eq.trans (g_ifne (t := 15) dX8_moveNode_11 rfl rfl) ?_
    refine am_ite ?_ ?_
    · exact g_vret dX8_moveNode_14 rfl
    · refine Eq.trans (g_A dX8_moveNode_15 rfl rfl) ?_
      refine Eq.trans (g_getR dX8_moveNode_16 f80 sh3 rfl rfl) ?_
      refine Eq.trans (g_A dX8_moveNode_19 rfl rfl) ?_
      refine Eq.trans (g_getR dX8_moveNode_20 f76 sh3 rfl rfl) ?_
      refine Eq.trans (g_A dX8_moveNode_23 rfl rfl) ?_
      refine Eq.trans (g_iald dX8_moveNode_24 sh16 rfl) ?_
      refine am_ite ?_ rfl
      refine Eq.trans (g_A dX8_moveNode_25 rfl rfl) ?_
      refine Eq.trans (g_vV (a := 1) (as := [.int (t2.1 16 (v1 : Int32).toNatClampNeg), .int v2]) (rest := []) dX8_moveNode_26 cl256 m29 rfl rfl rfl rfl (Nat.le_of_ble_eq_true rfl) rfl rfl rfl rfl) ?_
      refine am_bV_c (fun t3 => ?_)
      refine Eq.trans (g_A dX8_moveNode_29 rfl rfl) ?_
      refine Eq.trans (g_getR dX8_moveNode_30 f76 sh3 rfl rfl) ?_
      refine Eq.trans (g_A dX8_moveNode_33 rfl rfl) ?_
      refine Eq.trans (g_A dX8_moveNode_34 rfl rfl) ?_
      refine Eq.trans (g_getR dX8_moveNode_35 f76 sh3 rfl rfl) ?_
      refine Eq.trans (g_A dX8_moveNode_38 rfl rfl) ?_
      refine Eq.trans (g_iald dX8_moveNode_39 sh16 rfl) ?_
      refine am_ite ?_ rfl
      refine Eq.trans (g_iast dX8_moveNode_40 sh16 rfl) ?_
      refine am_ite ?_ rfl
      refine Eq.trans (g_A dX8_moveNode_41 rfl rfl) ?_
      refine Eq.trans (g_getR dX8_moveNode_42 f76 sh3 rfl rfl) ?_
      refine Eq.trans (g_A dX8_moveNode_45 rfl rfl) ?_
      refine Eq.trans (g_K (v := nI 0) dX8_moveNode_46 rfl rfl) ?_
      refine Eq.trans (g_iast dX8_moveNode_47 sh16 rfl) ?_
      refine am_ite ?_ rfl
      refine Eq.trans (g_A dX8_moveNode_48 rfl rfl) ?_
      refine Eq.trans (g_K (v := nI 21) dX8_moveNode_49 rfl rfl) ?_
      refine Eq.trans (g_isub dX8_moveNode_51 rfl) ?_
      refine Eq.trans (g_isn (k := 3) dX8_moveNode_52 rfl (Nat.le_of_ble_eq_true rfl) rfl rfl rfl) ?_
      refine Eq.trans (g_A dX8_moveNode_53 rfl rfl) ?_
      refine Eq.trans (g_K (v := nI 21) dX8_moveNode_54 rfl rfl) ?_
      refine Eq.trans (g_isub dX8_moveNode_56 rfl) ?_
      refine Eq.trans (g_ist (k := 4) dX8_moveNode_57 (Nat.le_of_ble_eq_true rfl) rfl rfl rfl) ?_
      refine Eq.trans (g_A dX8_moveNode_59 rfl rfl) ?_
      refine Eq.trans (g_sN (as := [.int (v1 - (nI 21))]) (rest := []) dX8_moveNode_60 rfl cl248 m163 rfl rfl rfl rfl (Nat.le_of_ble_eq_true rfl) rfl rfl) ?_
      refine am_nI_c (fun r4 t4 => ?_)
      refine Eq.trans (g_ifeq (t := 129) dX8_moveNode_63 rfl rfl) ?_
      refine am_ite ?_ ?_
      · exact g_vret dX8_moveNode_129 rfl
      · refine Eq.trans (g_A dX8_moveNode_66 rfl rfl) ?_
        refine Eq.trans (g_sN (as := [.int (v2 - (nI 21))]) (rest := []) dX8_moveNode_68 rfl cl248 m163 rfl rfl rfl rfl (Nat.le_of_ble_eq_true rfl) rfl rfl) ?_
        refine am_nI_c (fun r5 t5 => ?_)
        refine Eq.trans (g_ifeq (t := 129) dX8_moveNode_71 rfl rfl) ?_
        refine am_ite ?_ ?_
        · exact g_vret dX8_moveNode_129 rfl
        · refine Eq.trans (g_A dX8_moveNode_74 rfl rfl) ?_
          refine Eq.trans (g_getR dX8_moveNode_75 f81 sh3 rfl rfl) ?_
          refine Eq.trans (g_A dX8_moveNode_78 rfl rfl) ?_
          refine Eq.trans (g_getR dX8_moveNode_79 f77 sh3 rfl rfl) ?_
          refine Eq.trans (g_A dX8_moveNode_82 rfl rfl) ?_
          refine Eq.trans (g_iald dX8_moveNode_83 sh17 rfl) ?_
          refine am_ite ?_ rfl
          refine Eq.trans (g_A dX8_moveNode_84 rfl rfl) ?_
          refine Eq.trans (g_vV (a := 2) (as := [.int (t5.1 17 (v1 - (nI 21) : Int32).toNatClampNeg), .int (v2 - (nI 21))]) (rest := []) dX8_moveNode_86 cl262 m63 rfl rfl rfl rfl (Nat.le_of_ble_eq_true rfl) rfl rfl rfl rfl) ?_
          refine am_bV_c (fun t6 => ?_)
          refine Eq.trans (g_A dX8_moveNode_89 rfl rfl) ?_
          refine Eq.trans (g_getR dX8_moveNode_90 f77 sh3 rfl rfl) ?_
          refine Eq.trans (g_A dX8_moveNode_93 rfl rfl) ?_
          refine Eq.trans (g_A dX8_moveNode_95 rfl rfl) ?_
          refine Eq.trans (g_getR dX8_moveNode_96 f77 sh3 rfl rfl) ?_
          refine Eq.trans (g_A dX8_moveNode_99 rfl rfl) ?_
          refine Eq.trans (g_iald dX8_moveNode_100 sh17 rfl) ?_
          refine am_ite ?_ rfl
          refine Eq.trans (g_iast dX8_moveNode_101 sh17 rfl) ?_
          refine am_ite ?_ rfl
          refine Eq.trans (g_A dX8_moveNode_102 rfl rfl) ?_
          refine Eq.trans (g_getR dX8_moveNode_103 f77 sh3 rfl rfl) ?_
          refine Eq.trans (g_A dX8_moveNode_106 rfl rfl) ?_
          refine Eq.trans (g_K (v := (-1)) dX8_moveNode_107 rfl rfl) ?_
          refine Eq.trans (g_iast dX8_moveNode_108 sh17 rfl) ?_
          refine am_ite ?_ rfl
          refine Eq.trans (g_A dX8_moveNode_109 rfl rfl) ?_
          refine Eq.trans (g_getR dX8_moveNode_110 f78 sh3 rfl rfl) ?_
          refine Eq.trans (g_A dX8_moveNode_113 rfl rfl) ?_
          refine Eq.trans (g_A dX8_moveNode_115 rfl rfl) ?_
          refine Eq.trans (g_getR dX8_moveNode_116 f78 sh3 rfl rfl) ?_
          refine Eq.trans (g_A dX8_moveNode_119 rfl rfl) ?_
          refine Eq.trans (g_iald dX8_moveNode_120 sh18 rfl) ?_
          refine am_ite ?_ rfl
          refine Eq.trans (g_iast dX8_moveNode_121 sh18 rfl) ?_
          refine am_ite ?_ rfl
          refine Eq.trans (g_A dX8_moveNode_122 rfl rfl) ?_
          refine Eq.trans (g_getR dX8_moveNode_123 f78 sh3 rfl rfl) ?_
          refine Eq.trans (g_A dX8_moveNode_126 rfl rfl) ?_
          refine Eq.trans (g_K (v := (-1)) dX8_moveNode_127 rfl rfl) ?_
          refine Eq.trans (g_iast dX8_moveNode_128 sh18 rfl) ?_
          refine am_ite ?_ rfl
          exact g_vret dX8_moveNode_129 rfl
