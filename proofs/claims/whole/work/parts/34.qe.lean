theorem q215_0 (C : am_C) (σ : am_M) (v1 : Int32) : am_go am_X0 C M215 0 [.ref 34, .int v1] [] σ = if am_in v1 64 = true then (if σ.1 37 (v1 : Int32).toNatClampNeg = (-1) then (some (.inl (some (.int (nI 0))), σ)) else (if am_in v1 64 = true then (if am_in (σ.1 37 (v1 : Int32).toNatClampNeg) 200 = true then (if σ.1 52 (σ.1 37 (v1 : Int32).toNatClampNeg : Int32).toNatClampNeg = (-1) then (some (.inl (some (.int (nI 0))), σ)) else (if am_in v1 64 = true then (if am_in (σ.1 37 (v1 : Int32).toNatClampNeg) 200 = true then (if (σ.1 34 24) < (σ.1 52 (σ.1 37 (v1 : Int32).toNatClampNeg : Int32).toNatClampNeg) then (some (.inl (some (.int (nI 0))), σ)) else (some (.inl (some (.int (nI 1))), σ))) else none) else none)) else none) else none)) else none := by
  refine Eq.trans (g_A dX10_isDue_0 rfl rfl) ?_
  refine Eq.trans (g_getR dX10_isDue_1 f16 sh34 rfl rfl) ?_
  refine Eq.trans (g_A dX10_isDue_4 rfl rfl) ?_
  refine Eq.trans (g_iald dX10_isDue_5 sh37 rfl) ?_
  refine am_ite ?_ rfl
  refine Eq.trans (g_K (v := (-1)) dX10_isDue_6 rfl rfl) ?_
  refine Eq.trans (g_iceq (t := 47) dX10_isDue_7 rfl rfl) ?_
  refine am_ite ?_ ?_
  · refine Eq.trans (g_K (v := nI 0) dX10_isDue_47 rfl rfl) ?_
    exact g_zl dX10_isDue_48 rfl (Or.inl rfl)
  · refine Eq.trans (g_A dX10_isDue_10 rfl rfl) ?_
    refine Eq.trans (g_getR dX10_isDue_11 f35 sh34 rfl rfl) ?_
    refine Eq.trans (g_A dX10_isDue_14 rfl rfl) ?_
    refine Eq.trans (g_getR dX10_isDue_15 f16 sh34 rfl rfl) ?_
    refine Eq.trans (g_A dX10_isDue_18 rfl rfl) ?_
    refine Eq.trans (g_iald dX10_isDue_19 sh37 rfl) ?_
    refine am_ite ?_ rfl
    refine Eq.trans (g_iald dX10_isDue_20 sh52 rfl) ?_
    refine am_ite ?_ rfl
    refine Eq.trans (g_K (v := (-1)) dX10_isDue_21 rfl rfl) ?_
    refine Eq.trans (g_iceq (t := 47) dX10_isDue_22 rfl rfl) ?_
    refine am_ite ?_ ?_
    · refine Eq.trans (g_K (v := nI 0) dX10_isDue_47 rfl rfl) ?_
      exact g_zl dX10_isDue_48 rfl (Or.inl rfl)
    · refine Eq.trans (g_A dX10_isDue_25 rfl rfl) ?_
      refine Eq.trans (g_getR dX10_isDue_26 f35 sh34 rfl rfl) ?_
      refine Eq.trans (g_A dX10_isDue_29 rfl rfl) ?_
      refine Eq.trans (g_getR dX10_isDue_30 f16 sh34 rfl rfl) ?_
      refine Eq.trans (g_A dX10_isDue_33 rfl rfl) ?_
      refine Eq.trans (g_iald dX10_isDue_34 sh37 rfl) ?_
      refine am_ite ?_ rfl
      refine Eq.trans (g_iald dX10_isDue_35 sh52 rfl) ?_
      refine am_ite ?_ rfl
      refine Eq.trans (g_A dX10_isDue_36 rfl rfl) ?_
      refine Eq.trans (g_getI dX10_isDue_37 f24 sh34 rfl rfl) ?_
      refine Eq.trans (g_icgt (t := 47) dX10_isDue_40 rfl rfl) ?_
      refine am_ite ?_ ?_
      · refine Eq.trans (g_K (v := nI 0) dX10_isDue_47 rfl rfl) ?_
        exact g_zl dX10_isDue_48 rfl (Or.inl rfl)
      · refine Eq.trans (g_K (v := nI 1) dX10_isDue_43 rfl rfl) ?_
        refine Eq.trans (g_goto (pc' := 48) dX10_isDue_44 rfl) ?_
        exact g_zl dX10_isDue_48 rfl (Or.inr rfl)
theorem q216_0 (C : am_C) (σ : am_M) (v1 v2 : Int32) : am_go am_X0 C M216 0 [.ref 34, .int v1, .int v2, .null] [] σ = am_bI (C 182 [.int v1] σ) (fun r1 t1 => if r1 = nI 0 then (am_go am_X0 C M216 45 [.ref 34, .int v1, .int v2, .null] [.int (nI 1), .ref 34] t1) else (am_bI (C 173 [.long ((v2 : Int32).toInt64), .long (-1), .long (1000000)] t1) (fun r2 t2 => if r2 = nI 0 then (am_go am_X0 C M216 45 [.ref 34, .int v1, .int v2, .null] [.int (nI 2), .ref 34] t2) else (if am_in v1 64 = true then (if t2.1 37 (v1 : Int32).toNatClampNeg = (-1) then (am_go am_X0 C M216 45 [.ref 34, .int v1, .int v2, .null] [.int (nI 3), .ref 34] t2) else (am_go am_X0 C M216 45 [.ref 34, .int v1, .int v2, .null] [.int (nI 0), .ref 34] t2)) else none)))) := by
  refine Eq.trans (g_A dX10_setDue_0 rfl rfl) ?_
  refine Eq.trans (g_A dX10_setDue_1 rfl rfl) ?_
  refine Eq.trans (g_sI (as := [.int v1]) (rest := [.ref 34]) dX10_setDue_2 rfl cl114 m182 rfl rfl rfl rfl (Nat.le_of_ble_eq_true rfl) rfl rfl rfl) ?_
  refine am_bI_c (fun r1 t1 => ?_)
  refine Eq.trans (g_ifne (t := 12) dX10_setDue_5 rfl rfl) ?_
  refine am_ite ?_ ?_
  · refine Eq.trans (g_K (v := nI 1) dX10_setDue_8 rfl rfl) ?_
    refine Eq.trans (g_goto (pc' := 45) dX10_setDue_9 rfl) ?_
    rfl
  · refine Eq.trans (g_A dX10_setDue_12 rfl rfl) ?_
    refine Eq.trans (g_i2l dX10_setDue_13 rfl) ?_
    refine Eq.trans (g_ld2 dX10_setDue_14 kj6 rfl) ?_
    refine Eq.trans (g_ld2 dX10_setDue_17 kj7 rfl) ?_
    refine Eq.trans (g_sI (as := [.long ((v2 : Int32).toInt64), .long (-1), .long (1000000)]) (rest := [.ref 34]) dX10_setDue_20 rfl cl101 m173 rfl rfl rfl rfl (Nat.le_of_ble_eq_true rfl) rfl rfl rfl) ?_
    refine am_bI_c (fun r2 t2 => ?_)
    refine Eq.trans (g_ifne (t := 30) dX10_setDue_23 rfl rfl) ?_
    refine am_ite ?_ ?_
    · refine Eq.trans (g_K (v := nI 2) dX10_setDue_26 rfl rfl) ?_
      refine Eq.trans (g_goto (pc' := 45) dX10_setDue_27 rfl) ?_
      rfl
    · refine Eq.trans (g_A dX10_setDue_30 rfl rfl) ?_
      refine Eq.trans (g_getR dX10_setDue_31 f16 sh34 rfl rfl) ?_
      refine Eq.trans (g_A dX10_setDue_34 rfl rfl) ?_
      refine Eq.trans (g_iald dX10_setDue_35 sh37 rfl) ?_
      refine am_ite ?_ rfl
      refine Eq.trans (g_K (v := (-1)) dX10_setDue_36 rfl rfl) ?_
      refine Eq.trans (g_icne (t := 44) dX10_setDue_37 rfl rfl) ?_
      refine am_ite ?_ ?_
      · refine Eq.trans (g_K (v := nI 3) dX10_setDue_40 rfl rfl) ?_
        refine Eq.trans (g_goto (pc' := 45) dX10_setDue_41 rfl) ?_
        rfl
      · refine Eq.trans (g_K (v := nI 0) dX10_setDue_44 rfl rfl) ?_
        rfl
theorem q216_45 (C : am_C) (σ : am_M) (v1 v2 s0 : Int32) : am_go am_X0 C M216 45 [.ref 34, .int v1, .int v2, .null] [.int s0, .ref 34] σ = if ((am_wI σ 34 25 s0).1 34 25) ≤ (nI 0) then (if am_in v1 64 = true then (if am_in ((am_wI σ 34 25 s0).1 37 (v1 : Int32).toNatClampNeg) 200 = true then (if am_in v1 64 = true then (if am_in ((am_wI σ 34 25 s0).1 37 (v1 : Int32).toNatClampNeg) 200 = true then (some (.inl (some (.int ((am_wI σ 34 25 s0).1 52 ((am_wI σ 34 25 s0).1 37 (v1 : Int32).toNatClampNeg : Int32).toNatClampNeg))), am_wI (am_wI σ 34 25 s0) 52 ((am_wI σ 34 25 s0).1 37 (v1 : Int32).toNatClampNeg : Int32).toNatClampNeg v2)) else none) else none) else none) else none) else (some (.inl (some (.int (nI 0))), am_wI σ 34 25 s0)) := by
  refine Eq.trans (g_put dX10_setDue_45 f13 sh34 rfl rfl rfl) ?_
  refine Eq.trans (g_A dX10_setDue_48 rfl rfl) ?_
  refine Eq.trans (g_getI dX10_setDue_49 f13 sh34 rfl rfl) ?_
  refine Eq.trans (g_ifle (t := 57) dX10_setDue_52 rfl rfl) ?_
  refine am_ite ?_ ?_
  · refine Eq.trans (g_A dX10_setDue_57 rfl rfl) ?_
    refine Eq.trans (g_getR dX10_setDue_58 f35 sh34 rfl rfl) ?_
    refine Eq.trans (g_A dX10_setDue_61 rfl rfl) ?_
    refine Eq.trans (g_getR dX10_setDue_62 f16 sh34 rfl rfl) ?_
    refine Eq.trans (g_A dX10_setDue_65 rfl rfl) ?_
    refine Eq.trans (g_iald dX10_setDue_66 sh37 rfl) ?_
    refine am_ite ?_ rfl
    refine Eq.trans (g_iald dX10_setDue_67 sh52 rfl) ?_
    refine am_ite ?_ rfl
    refine Eq.trans (g_isn (k := 3) dX10_setDue_68 rfl (Nat.le_of_ble_eq_true rfl) rfl rfl rfl) ?_
    refine Eq.trans (g_A dX10_setDue_69 rfl rfl) ?_
    refine Eq.trans (g_getR dX10_setDue_70 f35 sh34 rfl rfl) ?_
    refine Eq.trans (g_A dX10_setDue_73 rfl rfl) ?_
    refine Eq.trans (g_getR dX10_setDue_74 f16 sh34 rfl rfl) ?_
    refine Eq.trans (g_A dX10_setDue_77 rfl rfl) ?_
    refine Eq.trans (g_iald dX10_setDue_78 sh37 rfl) ?_
    refine am_ite ?_ rfl
    refine Eq.trans (g_A dX10_setDue_79 rfl rfl) ?_
    refine Eq.trans (g_iast dX10_setDue_80 sh52 rfl) ?_
    refine am_ite ?_ rfl
    refine Eq.trans (g_A dX10_setDue_81 rfl rfl) ?_
    exact g_iret dX10_setDue_82 rfl
  · refine Eq.trans (g_K (v := nI 0) dX10_setDue_55 rfl rfl) ?_
    exact g_iret dX10_setDue_56 rfl
theorem q217_0 (C : am_C) (σ : am_M) (v1 : Int32) : am_go am_X0 C M217 0 [.ref 34, .int v1, .null, .null] [] σ = am_bI (C 173 [.long ((v1 : Int32).toInt64), .long (1 : Int64), .long (10000)] σ) (fun r1 t1 => if r1 = nI 0 then (am_go am_X0 C M217 33 [.ref 34, .int v1, .null, .null] [.int (nI 1), .ref 34] t1) else (if ((t1.1 34 24) + v1) ≤ (1000000) then (am_go am_X0 C M217 33 [.ref 34, .int v1, .null, .null] [.int (nI 0), .ref 34] t1) else (am_go am_X0 C M217 33 [.ref 34, .int v1, .null, .null] [.int (nI 2), .ref 34] t1))) := by
  refine Eq.trans (g_A dX10_passDays_0 rfl rfl) ?_
  refine Eq.trans (g_A dX10_passDays_1 rfl rfl) ?_
  refine Eq.trans (g_i2l dX10_passDays_2 rfl) ?_
  refine Eq.trans (g_KJ (v := (1 : Int64)) dX10_passDays_3 rfl rfl) ?_
  refine Eq.trans (g_ld2 dX10_passDays_4 kj8 rfl) ?_
  refine Eq.trans (g_sI (as := [.long ((v1 : Int32).toInt64), .long (1 : Int64), .long (10000)]) (rest := [.ref 34]) dX10_passDays_7 rfl cl101 m173 rfl rfl rfl rfl (Nat.le_of_ble_eq_true rfl) rfl rfl rfl) ?_
  refine am_bI_c (fun r1 t1 => ?_)
  refine Eq.trans (g_ifne (t := 17) dX10_passDays_10 rfl rfl) ?_
  refine am_ite ?_ ?_
  · refine Eq.trans (g_K (v := nI 1) dX10_passDays_13 rfl rfl) ?_
    refine Eq.trans (g_goto (pc' := 33) dX10_passDays_14 rfl) ?_
    rfl
  · refine Eq.trans (g_A dX10_passDays_17 rfl rfl) ?_
    refine Eq.trans (g_getI dX10_passDays_18 f24 sh34 rfl rfl) ?_
    refine Eq.trans (g_A dX10_passDays_21 rfl rfl) ?_
    refine Eq.trans (g_iadd dX10_passDays_22 rfl) ?_
    refine Eq.trans (g_ldc dX10_passDays_23 ki6 rfl) ?_
    refine Eq.trans (g_icle (t := 32) dX10_passDays_25 rfl rfl) ?_
    refine am_ite ?_ ?_
    · refine Eq.trans (g_K (v := nI 0) dX10_passDays_32 rfl rfl) ?_
      rfl
    · refine Eq.trans (g_K (v := nI 2) dX10_passDays_28 rfl rfl) ?_
      refine Eq.trans (g_goto (pc' := 33) dX10_passDays_29 rfl) ?_
      rfl
theorem q217_33 (C : am_C) (σ : am_M) (v1 s0 : Int32) : am_go am_X0 C M217 33 [.ref 34, .int v1, .null, .null] [.int s0, .ref 34] σ = if ((am_wI σ 34 25 s0).1 34 25) ≤ (nI 0) then (am_go am_X0 C M217 59 [.ref 34, .int v1, .int (nI 0), .int (nI 0)] [] (am_wI (am_wI σ 34 25 s0) 34 24 (((am_wI σ 34 25 s0).1 34 24) + v1))) else (some (.inl (some (.int (nI 0))), am_wI σ 34 25 s0)) := by
  refine Eq.trans (g_put dX10_passDays_33 f13 sh34 rfl rfl rfl) ?_
  refine Eq.trans (g_A dX10_passDays_36 rfl rfl) ?_
  refine Eq.trans (g_getI dX10_passDays_37 f13 sh34 rfl rfl) ?_
  refine Eq.trans (g_ifle (t := 45) dX10_passDays_40 rfl rfl) ?_
  refine am_ite ?_ ?_
  · refine Eq.trans (g_A dX10_passDays_45 rfl rfl) ?_
    refine Eq.trans (g_B dX10_passDays_46 rfl rfl rfl) ?_
    refine Eq.trans (g_getI dX10_passDays_47 f24 sh34 rfl rfl) ?_
    refine Eq.trans (g_A dX10_passDays_50 rfl rfl) ?_
    refine Eq.trans (g_iadd dX10_passDays_51 rfl) ?_
    refine Eq.trans (g_put dX10_passDays_52 f24 sh34 rfl rfl rfl) ?_
    refine Eq.trans (g_K (v := nI 0) dX10_passDays_55 rfl rfl) ?_
    refine Eq.trans (g_isn (k := 2) dX10_passDays_56 rfl (Nat.le_of_ble_eq_true rfl) rfl rfl rfl) ?_
    refine Eq.trans (g_K (v := nI 0) dX10_passDays_57 rfl rfl) ?_
    refine Eq.trans (g_isn (k := 3) dX10_passDays_58 rfl (Nat.le_of_ble_eq_true rfl) rfl rfl rfl) ?_
    rfl
  · refine Eq.trans (g_K (v := nI 0) dX10_passDays_43 rfl rfl) ?_
    exact g_iret dX10_passDays_44 rfl
theorem q217_59 (C : am_C) (σ : am_M) (v1 v2 v3 : Int32) : am_go am_X0 C M217 59 [.ref 34, .int v1, .int v2, .int v3] [] σ = if (nI 64) ≤ v3 then (some (.inl (some (.int v2)), σ)) else (if am_in v3 64 = true then (if σ.1 41 (v3 : Int32).toNatClampNeg = nI 0 then (am_bI (C 215 [.ref 34, .int v3] σ) (fun r1 t1 => if r1 = nI 0 then (am_go am_X0 C M217 59 [.ref 34, .int v1, .int v2, .int (v3 + nI 1)] [] t1) else (am_bI (C 223 [.ref 34, .int v3] t1) (fun r2 t2 => if r2 = nI 0 then (if am_in v3 64 = true then (am_go am_X0 C M217 59 [.ref 34, .int v1, .int (v2 + nI 1), .int (v3 + nI 1)] [] (am_wI t2 41 (v3 : Int32).toNatClampNeg (vp_nar .boolean (nI 1)))) else none) else (am_go am_X0 C M217 59 [.ref 34, .int v1, .int v2, .int (v3 + nI 1)] [] t2))))) else (am_go am_X0 C M217 59 [.ref 34, .int v1, .int v2, .int (v3 + nI 1)] [] σ)) else none) := by
  refine Eq.trans (g_A dX10_passDays_59 rfl rfl) ?_
  refine Eq.trans (g_K (v := nI 64) dX10_passDays_60 rfl rfl) ?_
  refine Eq.trans (g_icge (t := 109) dX10_passDays_62 rfl rfl) ?_
  refine am_ite ?_ ?_
  · refine Eq.trans (g_A dX10_passDays_109 rfl rfl) ?_
    exact g_iret dX10_passDays_110 rfl
  · refine Eq.trans (g_A dX10_passDays_65 rfl rfl) ?_
    refine Eq.trans (g_getR dX10_passDays_66 f17 sh34 rfl rfl) ?_
    refine Eq.trans (g_A dX10_passDays_69 rfl rfl) ?_
    refine Eq.trans (g_bald dX10_passDays_70 sh41 rfl) ?_
    refine am_ite ?_ rfl
    refine Eq.trans (g_ifne (t := 103) dX10_passDays_71 rfl rfl) ?_
    refine am_ite ?_ ?_
    · refine Eq.trans (g_A dX10_passDays_74 rfl rfl) ?_
      refine Eq.trans (g_A dX10_passDays_75 rfl rfl) ?_
      refine Eq.trans (g_vI (a := 34) (as := [.int v3]) (rest := []) dX10_passDays_76 cl125 m215 rfl rfl rfl rfl (Nat.le_of_ble_eq_true rfl) rfl rfl rfl rfl) ?_
      refine am_bI_c (fun r1 t1 => ?_)
      refine Eq.trans (g_ifeq (t := 103) dX10_passDays_79 rfl rfl) ?_
      refine am_ite ?_ ?_
      · refine Eq.trans (g_inc (v := v3 + nI 1) dX10_passDays_103 rfl (Nat.le_of_ble_eq_true rfl) rfl rfl rfl rfl) ?_
        refine Eq.trans (g_goto (pc' := 59) dX10_passDays_106 rfl) ?_
        rfl
      · refine Eq.trans (g_A dX10_passDays_82 rfl rfl) ?_
        refine Eq.trans (g_A dX10_passDays_83 rfl rfl) ?_
        refine Eq.trans (g_vI (a := 34) (as := [.int v3]) (rest := []) dX10_passDays_84 cl126 m223 rfl rfl rfl rfl (Nat.le_of_ble_eq_true rfl) rfl rfl rfl rfl) ?_
        refine am_bI_c (fun r2 t2 => ?_)
        refine Eq.trans (g_ifeq (t := 93) dX10_passDays_87 rfl rfl) ?_
        refine am_ite ?_ ?_
        · refine Eq.trans (g_A dX10_passDays_93 rfl rfl) ?_
          refine Eq.trans (g_getR dX10_passDays_94 f17 sh34 rfl rfl) ?_
          refine Eq.trans (g_A dX10_passDays_97 rfl rfl) ?_
          refine Eq.trans (g_K (v := nI 1) dX10_passDays_98 rfl rfl) ?_
          refine Eq.trans (g_bast dX10_passDays_99 sh41 rfl) ?_
          refine am_ite ?_ rfl
          refine Eq.trans (g_inc (v := v2 + nI 1) dX10_passDays_100 rfl (Nat.le_of_ble_eq_true rfl) rfl rfl rfl rfl) ?_
          refine Eq.trans (g_inc (v := v3 + nI 1) dX10_passDays_103 rfl (Nat.le_of_ble_eq_true rfl) rfl rfl rfl rfl) ?_
          refine Eq.trans (g_goto (pc' := 59) dX10_passDays_106 rfl) ?_
          rfl
        · refine Eq.trans (g_goto (pc' := 103) dX10_passDays_90 rfl) ?_
          refine Eq.trans (g_inc (v := v3 + nI 1) dX10_passDays_103 rfl (Nat.le_of_ble_eq_true rfl) rfl rfl rfl rfl) ?_
          refine Eq.trans (g_goto (pc' := 59) dX10_passDays_106 rfl) ?_
          rfl
    · refine Eq.trans (g_inc (v := v3 + nI 1) dX10_passDays_103 rfl (Nat.le_of_ble_eq_true rfl) rfl rfl rfl rfl) ?_
      refine Eq.trans (g_goto (pc' := 59) dX10_passDays_106 rfl) ?_
      rfl
theorem q218_0 (C : am_C) (σ : am_M) : am_go am_X0 C M218 0 [.ref 34] [] σ = some (.inl (some (.int ((am_wI σ 34 25 (nI 0)).1 34 24))), am_wI σ 34 25 (nI 0)) := by
  refine Eq.trans (g_A dX10_day_0 rfl rfl) ?_
  refine Eq.trans (g_K (v := nI 0) dX10_day_1 rfl rfl) ?_
  refine Eq.trans (g_put dX10_day_2 f13 sh34 rfl rfl rfl) ?_
  refine Eq.trans (g_A dX10_day_5 rfl rfl) ?_
  refine Eq.trans (g_getI dX10_day_6 f24 sh34 rfl rfl) ?_
  exact g_iret dX10_day_9 rfl
theorem q219_0 (C : am_C) (σ : am_M) (v1 : Int32) : am_go am_X0 C M219 0 [.ref 34, .int v1, .null, .null] [] σ = am_go am_X0 C M219 9 [.ref 34, .int v1, .int (nI 0), .int (nI 0)] [] (am_wI σ 34 25 (nI 0)) := by
  refine Eq.trans (g_A dX10_dueCount_0 rfl rfl) ?_
  refine Eq.trans (g_K (v := nI 0) dX10_dueCount_1 rfl rfl) ?_
  refine Eq.trans (g_put dX10_dueCount_2 f13 sh34 rfl rfl rfl) ?_
  refine Eq.trans (g_K (v := nI 0) dX10_dueCount_5 rfl rfl) ?_
  refine Eq.trans (g_isn (k := 2) dX10_dueCount_6 rfl (Nat.le_of_ble_eq_true rfl) rfl rfl rfl) ?_
  refine Eq.trans (g_K (v := nI 0) dX10_dueCount_7 rfl rfl) ?_
  refine Eq.trans (g_isn (k := 3) dX10_dueCount_8 rfl (Nat.le_of_ble_eq_true rfl) rfl rfl rfl) ?_
  rfl
theorem q219_9 (C : am_C) (σ : am_M) (v1 v2 v3 : Int32) : am_go am_X0 C M219 9 [.ref 34, .int v1, .int v2, .int v3] [] σ = if (nI 64) ≤ v3 then (some (.inl (some (.int v2)), σ)) else (am_bI (C 215 [.ref 34, .int v3] σ) (fun r1 t1 => if r1 = nI 0 then (am_go am_X0 C M219 9 [.ref 34, .int v1, .int (v2 + (nI 0)), .int (v3 + nI 1)] [] t1) else (am_bI (C 223 [.ref 34, .int v3] t1) (fun r2 t2 => if r2 = nI 0 then (am_go am_X0 C M219 37 [.ref 34, .int v1, .int v2, .int v3] [.int (nI 0), .int v2] t2) else (am_go am_X0 C M219 37 [.ref 34, .int v1, .int v2, .int v3] [.int (nI 1), .int v2] t2))))) := by
  refine Eq.trans (g_A dX10_dueCount_9 rfl rfl) ?_
  refine Eq.trans (g_K (v := nI 64) dX10_dueCount_10 rfl rfl) ?_
  refine Eq.trans (g_icge (t := 54) dX10_dueCount_12 rfl rfl) ?_
  refine am_ite ?_ ?_
  · refine Eq.trans (g_A dX10_dueCount_54 rfl rfl) ?_
    exact g_iret dX10_dueCount_55 rfl
  · refine Eq.trans (g_A dX10_dueCount_15 rfl rfl) ?_
    refine Eq.trans (g_A dX10_dueCount_16 rfl rfl) ?_
    refine Eq.trans (g_A dX10_dueCount_17 rfl rfl) ?_
    refine Eq.trans (g_vI (a := 34) (as := [.int v3]) (rest := [.int v2]) dX10_dueCount_18 cl125 m215 rfl rfl rfl rfl (Nat.le_of_ble_eq_true rfl) rfl rfl rfl rfl) ?_
    refine am_bI_c (fun r1 t1 => ?_)
    refine Eq.trans (g_ifeq (t := 45) dX10_dueCount_21 rfl rfl) ?_
    refine am_ite ?_ ?_
    · refine Eq.trans (g_K (v := nI 0) dX10_dueCount_45 rfl rfl) ?_
      refine Eq.trans (g_iadd dX10_dueCount_46 rfl) ?_
      refine Eq.trans (g_isn (k := 2) dX10_dueCount_47 rfl (Nat.le_of_ble_eq_true rfl) rfl rfl rfl) ?_
      refine Eq.trans (g_inc (v := v3 + nI 1) dX10_dueCount_48 rfl (Nat.le_of_ble_eq_true rfl) rfl rfl rfl rfl) ?_
      refine Eq.trans (g_goto (pc' := 9) dX10_dueCount_51 rfl) ?_
      rfl
    · refine Eq.trans (g_A dX10_dueCount_24 rfl rfl) ?_
      refine Eq.trans (g_A dX10_dueCount_25 rfl rfl) ?_
      refine Eq.trans (g_vI (a := 34) (as := [.int v3]) (rest := [.int v2]) dX10_dueCount_26 cl126 m223 rfl rfl rfl rfl (Nat.le_of_ble_eq_true rfl) rfl rfl rfl rfl) ?_
      refine am_bI_c (fun r2 t2 => ?_)
      refine Eq.trans (g_ifeq (t := 36) dX10_dueCount_29 rfl rfl) ?_
      refine am_ite ?_ ?_
      · refine Eq.trans (g_K (v := nI 0) dX10_dueCount_36 rfl rfl) ?_
        rfl
      · refine Eq.trans (g_K (v := nI 1) dX10_dueCount_32 rfl rfl) ?_
        refine Eq.trans (g_goto (pc' := 37) dX10_dueCount_33 rfl) ?_
        rfl
theorem q219_37 (C : am_C) (σ : am_M) (v1 v2 v3 s0 s1 : Int32) : am_go am_X0 C M219 37 [.ref 34, .int v1, .int v2, .int v3] [.int s0, .int s1] σ = if s0 = v1 then (am_go am_X0 C M219 9 [.ref 34, .int v1, .int (s1 + (nI 1)), .int (v3 + nI 1)] [] σ) else (am_go am_X0 C M219 9 [.ref 34, .int v1, .int (s1 + (nI 0)), .int (v3 + nI 1)] [] σ) := by
  refine Eq.trans (g_A dX10_dueCount_37 rfl rfl) ?_
  refine Eq.trans (g_icne (t := 45) dX10_dueCount_38 rfl rfl) ?_
  refine am_ite ?_ ?_
  · refine Eq.trans (g_K (v := nI 1) dX10_dueCount_41 rfl rfl) ?_
    refine Eq.trans (g_goto (pc' := 46) dX10_dueCount_42 rfl) ?_
    refine Eq.trans (g_iadd dX10_dueCount_46 rfl) ?_
    refine Eq.trans (g_isn (k := 2) dX10_dueCount_47 rfl (Nat.le_of_ble_eq_true rfl) rfl rfl rfl) ?_
    refine Eq.trans (g_inc (v := v3 + nI 1) dX10_dueCount_48 rfl (Nat.le_of_ble_eq_true rfl) rfl rfl rfl rfl) ?_
    refine Eq.trans (g_goto (pc' := 9) dX10_dueCount_51 rfl) ?_
    rfl
  · refine Eq.trans (g_K (v := nI 0) dX10_dueCount_45 rfl rfl) ?_
    refine Eq.trans (g_iadd dX10_dueCount_46 rfl) ?_
    refine Eq.trans (g_isn (k := 2) dX10_dueCount_47 rfl (Nat.le_of_ble_eq_true rfl) rfl rfl rfl) ?_
    refine Eq.trans (g_inc (v := v3 + nI 1) dX10_dueCount_48 rfl (Nat.le_of_ble_eq_true rfl) rfl rfl rfl rfl) ?_
    refine Eq.trans (g_goto (pc' := 9) dX10_dueCount_51 rfl) ?_
    rfl
theorem q220_0 (C : am_C) (σ : am_M) (v0 : Int32) : am_go am_X0 C M220 0 [.int v0] [] σ = am_bI (C 173 [.long ((v0 : Int32).toInt64), .long (0 : Int64), .long (7)] σ) (fun r1 t1 => if r1 = nI 0 ∨ r1 = nI 1 then some (.inl (some (.int r1)), t1) else none) := by
  refine Eq.trans (g_A dX10_isCase_0 rfl rfl) ?_
  refine Eq.trans (g_i2l dX10_isCase_1 rfl) ?_
  refine Eq.trans (g_KJ (v := (0 : Int64)) dX10_isCase_2 rfl rfl) ?_
  refine Eq.trans (g_ld2 dX10_isCase_3 kj9 rfl) ?_
  refine Eq.trans (g_sI (as := [.long ((v0 : Int32).toInt64), .long (0 : Int64), .long (7)]) (rest := []) dX10_isCase_6 rfl cl101 m173 rfl rfl rfl rfl (Nat.le_of_ble_eq_true rfl) rfl rfl rfl) ?_
  refine am_bI_c (fun r1 t1 => ?_)
  exact g_zret dX10_isCase_9 rfl
theorem q221_0 (C : am_C) (σ : am_M) (v1 v2 : Int32) : am_go am_X0 C M221 0 [.ref 34, .int v1, .int v2, .null, .null] [] σ = am_bI (C 220 [.int v1] σ) (fun r1 t1 => if r1 = nI 0 then (am_go am_X0 C M221 19 [.ref 34, .int v1, .int v2, .null, .null] [.ref 34] t1) else (am_bI (C 183 [.int v2] t1) (fun r2 t2 => if r2 = nI 0 then (am_go am_X0 C M221 19 [.ref 34, .int v1, .int v2, .null, .null] [.ref 34] t2) else (am_go am_X0 C M221 20 [.ref 34, .int v1, .int v2, .null, .null] [.int (nI 0), .ref 34] t2)))) := by
  refine Eq.trans (g_A dX10_hold_0 rfl rfl) ?_
  refine Eq.trans (g_A dX10_hold_1 rfl rfl) ?_
  refine Eq.trans (g_sI (as := [.int v1]) (rest := [.ref 34]) dX10_hold_2 rfl cl127 m220 rfl rfl rfl rfl (Nat.le_of_ble_eq_true rfl) rfl rfl rfl) ?_
  refine am_bI_c (fun r1 t1 => ?_)
  refine Eq.trans (g_ifeq (t := 19) dX10_hold_5 rfl rfl) ?_
  refine am_ite ?_ ?_
  · rfl
  · refine Eq.trans (g_A dX10_hold_8 rfl rfl) ?_
    refine Eq.trans (g_sI (as := [.int v2]) (rest := [.ref 34]) dX10_hold_9 rfl cl128 m183 rfl rfl rfl rfl (Nat.le_of_ble_eq_true rfl) rfl rfl rfl) ?_
    refine am_bI_c (fun r2 t2 => ?_)
    refine Eq.trans (g_ifeq (t := 19) dX10_hold_12 rfl rfl) ?_
    refine am_ite ?_ ?_
    · rfl
    · refine Eq.trans (g_K (v := nI 0) dX10_hold_15 rfl rfl) ?_
      refine Eq.trans (g_goto (pc' := 20) dX10_hold_16 rfl) ?_
      rfl
theorem q221_19 (C : am_C) (σ : am_M) (v1 v2 : Int32) : am_go am_X0 C M221 19 [.ref 34, .int v1, .int v2, .null, .null] [.ref 34] σ = am_go am_X0 C M221 20 [.ref 34, .int v1, .int v2, .null, .null] [.int (nI 1), .ref 34] σ := by
  refine Eq.trans (g_K (v := nI 1) dX10_hold_19 rfl rfl) ?_
  rfl
theorem q221_20 (C : am_C) (σ : am_M) (v1 v2 s0 : Int32) : am_go am_X0 C M221 20 [.ref 34, .int v1, .int v2, .null, .null] [.int s0, .ref 34] σ = if ((am_wI σ 34 25 s0).1 34 25) ≤ (nI 0) then (if am_in v1 8 = true then (am_go am_X0 C M221 44 [.ref 34, .int v1, .int v2, .int (nI 0), .int (nI 0)] [] (am_wI (am_wI σ 34 25 s0) 38 (v1 : Int32).toNatClampNeg v2)) else none) else (some (.inl (some (.int (nI 0))), am_wI σ 34 25 s0)) := by
  refine Eq.trans (g_put dX10_hold_20 f13 sh34 rfl rfl rfl) ?_
  refine Eq.trans (g_A dX10_hold_23 rfl rfl) ?_
  refine Eq.trans (g_getI dX10_hold_24 f13 sh34 rfl rfl) ?_
  refine Eq.trans (g_ifle (t := 32) dX10_hold_27 rfl rfl) ?_
  refine am_ite ?_ ?_
  · refine Eq.trans (g_A dX10_hold_32 rfl rfl) ?_
    refine Eq.trans (g_getR dX10_hold_33 f18 sh34 rfl rfl) ?_
    refine Eq.trans (g_A dX10_hold_36 rfl rfl) ?_
    refine Eq.trans (g_A dX10_hold_37 rfl rfl) ?_
    refine Eq.trans (g_iast dX10_hold_38 sh38 rfl) ?_
    refine am_ite ?_ rfl
    refine Eq.trans (g_K (v := nI 0) dX10_hold_39 rfl rfl) ?_
    refine Eq.trans (g_isn (k := 3) dX10_hold_40 rfl (Nat.le_of_ble_eq_true rfl) rfl rfl rfl) ?_
    refine Eq.trans (g_K (v := nI 0) dX10_hold_41 rfl rfl) ?_
    refine Eq.trans (g_ist (k := 4) dX10_hold_42 (Nat.le_of_ble_eq_true rfl) rfl rfl rfl) ?_
    rfl
  · refine Eq.trans (g_K (v := nI 0) dX10_hold_30 rfl rfl) ?_
    exact g_iret dX10_hold_31 rfl
theorem q221_44 (C : am_C) (σ : am_M) (v1 v2 v3 v4 : Int32) : am_go am_X0 C M221 44 [.ref 34, .int v1, .int v2, .int v3, .int v4] [] σ = if (nI 64) ≤ v4 then (some (.inl (some (.int v3)), σ)) else (am_bI (C 181 [.int ((nI 21) + v4), .int v2] σ) (fun r1 t1 => if r1 = nI 0 then (am_go am_X0 C M221 44 [.ref 34, .int v1, .int v2, .int v3, .int (v4 + nI 1)] [] t1) else (if am_in v4 64 = true then (if am_in v4 64 = true then (if (am_wI t1 41 (v4 : Int32).toNatClampNeg (vp_nar .boolean (nI 0))).1 37 (v4 : Int32).toNatClampNeg = (-1) then (am_go am_X0 C M221 44 [.ref 34, .int v1, .int v2, .int (v3 + (nI 0)), .int (v4 + nI 1)] [] (am_wI t1 41 (v4 : Int32).toNatClampNeg (vp_nar .boolean (nI 0)))) else (am_go am_X0 C M221 44 [.ref 34, .int v1, .int v2, .int (v3 + (nI 1)), .int (v4 + nI 1)] [] (am_wI t1 41 (v4 : Int32).toNatClampNeg (vp_nar .boolean (nI 0))))) else none) else none))) := by
  refine Eq.trans (g_A dX10_hold_44 rfl rfl) ?_
  refine Eq.trans (g_K (v := nI 64) dX10_hold_46 rfl rfl) ?_
  refine Eq.trans (g_icge (t := 99) dX10_hold_48 rfl rfl) ?_
  refine am_ite ?_ ?_
  · refine Eq.trans (g_A dX10_hold_99 rfl rfl) ?_
    exact g_iret dX10_hold_100 rfl
  · refine Eq.trans (g_K (v := nI 21) dX10_hold_51 rfl rfl) ?_
    refine Eq.trans (g_A dX10_hold_53 rfl rfl) ?_
    refine Eq.trans (g_iadd dX10_hold_55 rfl) ?_
    refine Eq.trans (g_A dX10_hold_56 rfl rfl) ?_
    refine Eq.trans (g_sI (as := [.int ((nI 21) + v4), .int v2]) (rest := []) dX10_hold_57 rfl cl129 m181 rfl rfl rfl rfl (Nat.le_of_ble_eq_true rfl) rfl rfl rfl) ?_
    refine am_bI_c (fun r1 t1 => ?_)
    refine Eq.trans (g_ifne (t := 66) dX10_hold_60 rfl rfl) ?_
    refine am_ite ?_ ?_
    · refine Eq.trans (g_goto (pc' := 93) dX10_hold_63 rfl) ?_
      refine Eq.trans (g_inc (v := v4 + nI 1) dX10_hold_93 rfl (Nat.le_of_ble_eq_true rfl) rfl rfl rfl rfl) ?_
      refine Eq.trans (g_goto (pc' := 44) dX10_hold_96 rfl) ?_
      rfl
    · refine Eq.trans (g_A dX10_hold_66 rfl rfl) ?_
      refine Eq.trans (g_getR dX10_hold_67 f17 sh34 rfl rfl) ?_
      refine Eq.trans (g_A dX10_hold_70 rfl rfl) ?_
      refine Eq.trans (g_K (v := nI 0) dX10_hold_72 rfl rfl) ?_
      refine Eq.trans (g_bast dX10_hold_73 sh41 rfl) ?_
      refine am_ite ?_ rfl
      refine Eq.trans (g_A dX10_hold_74 rfl rfl) ?_
      refine Eq.trans (g_A dX10_hold_75 rfl rfl) ?_
      refine Eq.trans (g_getR dX10_hold_76 f16 sh34 rfl rfl) ?_
      refine Eq.trans (g_A dX10_hold_79 rfl rfl) ?_
      refine Eq.trans (g_iald dX10_hold_81 sh37 rfl) ?_
      refine am_ite ?_ rfl
      refine Eq.trans (g_K (v := (-1)) dX10_hold_82 rfl rfl) ?_
      refine Eq.trans (g_icne (t := 90) dX10_hold_83 rfl rfl) ?_
      refine am_ite ?_ ?_
      · refine Eq.trans (g_K (v := nI 0) dX10_hold_86 rfl rfl) ?_
        refine Eq.trans (g_goto (pc' := 91) dX10_hold_87 rfl) ?_
        refine Eq.trans (g_iadd dX10_hold_91 rfl) ?_
        refine Eq.trans (g_isn (k := 3) dX10_hold_92 rfl (Nat.le_of_ble_eq_true rfl) rfl rfl rfl) ?_
        refine Eq.trans (g_inc (v := v4 + nI 1) dX10_hold_93 rfl (Nat.le_of_ble_eq_true rfl) rfl rfl rfl rfl) ?_
        refine Eq.trans (g_goto (pc' := 44) dX10_hold_96 rfl) ?_
        rfl
      · refine Eq.trans (g_K (v := nI 1) dX10_hold_90 rfl rfl) ?_
        refine Eq.trans (g_iadd dX10_hold_91 rfl) ?_
        refine Eq.trans (g_isn (k := 3) dX10_hold_92 rfl (Nat.le_of_ble_eq_true rfl) rfl rfl rfl) ?_
        refine Eq.trans (g_inc (v := v4 + nI 1) dX10_hold_93 rfl (Nat.le_of_ble_eq_true rfl) rfl rfl rfl rfl) ?_
        refine Eq.trans (g_goto (pc' := 44) dX10_hold_96 rfl) ?_
        rfl
theorem q222_0 (C : am_C) (σ : am_M) (v1 : Int32) : am_go am_X0 C M222 0 [.ref 34, .int v1, .null] [] σ = am_bI (C 220 [.int v1] σ) (fun r1 t1 => if r1 = nI 0 then (am_go am_X0 C M222 13 [.ref 34, .int v1, .null] [.int (nI 1), .ref 34] t1) else (am_go am_X0 C M222 13 [.ref 34, .int v1, .null] [.int (nI 0), .ref 34] t1)) := by
  refine Eq.trans (g_A dX10_release_0 rfl rfl) ?_
  refine Eq.trans (g_A dX10_release_1 rfl rfl) ?_
  refine Eq.trans (g_sI (as := [.int v1]) (rest := [.ref 34]) dX10_release_2 rfl cl127 m220 rfl rfl rfl rfl (Nat.le_of_ble_eq_true rfl) rfl rfl rfl) ?_
  refine am_bI_c (fun r1 t1 => ?_)
  refine Eq.trans (g_ifeq (t := 12) dX10_release_5 rfl rfl) ?_
  refine am_ite ?_ ?_
  · refine Eq.trans (g_K (v := nI 1) dX10_release_12 rfl rfl) ?_
    rfl
  · refine Eq.trans (g_K (v := nI 0) dX10_release_8 rfl rfl) ?_
    refine Eq.trans (g_goto (pc' := 13) dX10_release_9 rfl) ?_
    rfl
theorem q222_13 (C : am_C) (σ : am_M) (v1 s0 : Int32) : am_go am_X0 C M222 13 [.ref 34, .int v1, .null] [.int s0, .ref 34] σ = if ((am_wI σ 34 25 s0).1 34 25) ≤ (nI 0) then (if am_in v1 8 = true then (if am_in v1 8 = true then (some (.inl (some (.int ((am_wI σ 34 25 s0).1 38 (v1 : Int32).toNatClampNeg))), am_wI (am_wI σ 34 25 s0) 38 (v1 : Int32).toNatClampNeg (-1))) else none) else none) else (some (.inl (some (.int (nI 0))), am_wI σ 34 25 s0)) := by
  refine Eq.trans (g_put dX10_release_13 f13 sh34 rfl rfl rfl) ?_
  refine Eq.trans (g_A dX10_release_16 rfl rfl) ?_
  refine Eq.trans (g_getI dX10_release_17 f13 sh34 rfl rfl) ?_
  refine Eq.trans (g_ifle (t := 25) dX10_release_20 rfl rfl) ?_
  refine am_ite ?_ ?_
  · refine Eq.trans (g_A dX10_release_25 rfl rfl) ?_
    refine Eq.trans (g_getR dX10_release_26 f18 sh34 rfl rfl) ?_
    refine Eq.trans (g_A dX10_release_29 rfl rfl) ?_
    refine Eq.trans (g_iald dX10_release_30 sh38 rfl) ?_
    refine am_ite ?_ rfl
    refine Eq.trans (g_isn (k := 2) dX10_release_31 rfl (Nat.le_of_ble_eq_true rfl) rfl rfl rfl) ?_
    refine Eq.trans (g_A dX10_release_32 rfl rfl) ?_
    refine Eq.trans (g_getR dX10_release_33 f18 sh34 rfl rfl) ?_
    refine Eq.trans (g_A dX10_release_36 rfl rfl) ?_
    refine Eq.trans (g_K (v := (-1)) dX10_release_37 rfl rfl) ?_
    refine Eq.trans (g_iast dX10_release_38 sh38 rfl) ?_
    refine am_ite ?_ rfl
    refine Eq.trans (g_A dX10_release_39 rfl rfl) ?_
    exact g_iret dX10_release_40 rfl
  · refine Eq.trans (g_K (v := nI 0) dX10_release_23 rfl rfl) ?_
    exact g_iret dX10_release_24 rfl
theorem q223_0 (C : am_C) (σ : am_M) (v1 : Int32) : am_go am_X0 C M223 0 [.ref 34, .int v1, .null, .null] [] σ = am_go am_X0 C M223 4 [.ref 34, .int v1, .int (nI 0), .int (nI 0)] [] σ := by
  refine Eq.trans (g_K (v := nI 0) dX10_pinsOf_0 rfl rfl) ?_
  refine Eq.trans (g_isn (k := 2) dX10_pinsOf_1 rfl (Nat.le_of_ble_eq_true rfl) rfl rfl rfl) ?_
  refine Eq.trans (g_K (v := nI 0) dX10_pinsOf_2 rfl rfl) ?_
  refine Eq.trans (g_isn (k := 3) dX10_pinsOf_3 rfl (Nat.le_of_ble_eq_true rfl) rfl rfl rfl) ?_
  rfl
theorem q223_4 (C : am_C) (σ : am_M) (v1 v2 v3 : Int32) : am_go am_X0 C M223 4 [.ref 34, .int v1, .int v2, .int v3] [] σ = if (nI 8) ≤ v3 then (some (.inl (some (.int v2)), σ)) else (if am_in v3 8 = true then (if σ.1 38 (v3 : Int32).toNatClampNeg = (-1) then (am_go am_X0 C M223 4 [.ref 34, .int v1, .int (v2 ||| (nI 0)), .int (v3 + nI 1)] [] σ) else (if am_in v3 8 = true then (am_bI (C 181 [.int ((nI 21) + v1), .int (σ.1 38 (v3 : Int32).toNatClampNeg)] σ) (fun r1 t1 => if r1 = nI 0 then (am_go am_X0 C M223 4 [.ref 34, .int v1, .int (v2 ||| (nI 0)), .int (v3 + nI 1)] [] t1) else (am_go am_X0 C M223 4 [.ref 34, .int v1, .int (v2 ||| ((nI 1) <<< (v3 &&& 31))), .int (v3 + nI 1)] [] t1))) else none)) else none) := by
  refine Eq.trans (g_A dX10_pinsOf_4 rfl rfl) ?_
  refine Eq.trans (g_K (v := nI 8) dX10_pinsOf_5 rfl rfl) ?_
  refine Eq.trans (g_icge (t := 52) dX10_pinsOf_7 rfl rfl) ?_
  refine am_ite ?_ ?_
  · refine Eq.trans (g_A dX10_pinsOf_52 rfl rfl) ?_
    exact g_iret dX10_pinsOf_53 rfl
  · refine Eq.trans (g_A dX10_pinsOf_10 rfl rfl) ?_
    refine Eq.trans (g_A dX10_pinsOf_11 rfl rfl) ?_
    refine Eq.trans (g_getR dX10_pinsOf_12 f18 sh34 rfl rfl) ?_
    refine Eq.trans (g_A dX10_pinsOf_15 rfl rfl) ?_
    refine Eq.trans (g_iald dX10_pinsOf_16 sh38 rfl) ?_
    refine am_ite ?_ rfl
    refine Eq.trans (g_K (v := (-1)) dX10_pinsOf_17 rfl rfl) ?_
    refine Eq.trans (g_iceq (t := 43) dX10_pinsOf_18 rfl rfl) ?_
    refine am_ite ?_ ?_
    · refine Eq.trans (g_K (v := nI 0) dX10_pinsOf_43 rfl rfl) ?_
      refine Eq.trans (g_ior dX10_pinsOf_44 rfl) ?_
      refine Eq.trans (g_isn (k := 2) dX10_pinsOf_45 rfl (Nat.le_of_ble_eq_true rfl) rfl rfl rfl) ?_
      refine Eq.trans (g_inc (v := v3 + nI 1) dX10_pinsOf_46 rfl (Nat.le_of_ble_eq_true rfl) rfl rfl rfl rfl) ?_
      refine Eq.trans (g_goto (pc' := 4) dX10_pinsOf_49 rfl) ?_
      rfl
    · refine Eq.trans (g_K (v := nI 21) dX10_pinsOf_21 rfl rfl) ?_
      refine Eq.trans (g_A dX10_pinsOf_23 rfl rfl) ?_
      refine Eq.trans (g_iadd dX10_pinsOf_24 rfl) ?_
      refine Eq.trans (g_A dX10_pinsOf_25 rfl rfl) ?_
      refine Eq.trans (g_getR dX10_pinsOf_26 f18 sh34 rfl rfl) ?_
      refine Eq.trans (g_A dX10_pinsOf_29 rfl rfl) ?_
      refine Eq.trans (g_iald dX10_pinsOf_30 sh38 rfl) ?_
      refine am_ite ?_ rfl
      refine Eq.trans (g_sI (as := [.int ((nI 21) + v1), .int (σ.1 38 (v3 : Int32).toNatClampNeg)]) (rest := [.int v2]) dX10_pinsOf_31 rfl cl129 m181 rfl rfl rfl rfl (Nat.le_of_ble_eq_true rfl) rfl rfl rfl) ?_
      refine am_bI_c (fun r1 t1 => ?_)
      refine Eq.trans (g_ifeq (t := 43) dX10_pinsOf_34 rfl rfl) ?_
      refine am_ite ?_ ?_
      · refine Eq.trans (g_K (v := nI 0) dX10_pinsOf_43 rfl rfl) ?_
        refine Eq.trans (g_ior dX10_pinsOf_44 rfl) ?_
        refine Eq.trans (g_isn (k := 2) dX10_pinsOf_45 rfl (Nat.le_of_ble_eq_true rfl) rfl rfl rfl) ?_
        refine Eq.trans (g_inc (v := v3 + nI 1) dX10_pinsOf_46 rfl (Nat.le_of_ble_eq_true rfl) rfl rfl rfl rfl) ?_
        refine Eq.trans (g_goto (pc' := 4) dX10_pinsOf_49 rfl) ?_
        rfl
      · refine Eq.trans (g_K (v := nI 1) dX10_pinsOf_37 rfl rfl) ?_
        refine Eq.trans (g_A dX10_pinsOf_38 rfl rfl) ?_
        refine Eq.trans (g_ishl dX10_pinsOf_39 rfl) ?_
        refine Eq.trans (g_goto (pc' := 44) dX10_pinsOf_40 rfl) ?_
        refine Eq.trans (g_ior dX10_pinsOf_44 rfl) ?_
        refine Eq.trans (g_isn (k := 2) dX10_pinsOf_45 rfl (Nat.le_of_ble_eq_true rfl) rfl rfl rfl) ?_
        refine Eq.trans (g_inc (v := v3 + nI 1) dX10_pinsOf_46 rfl (Nat.le_of_ble_eq_true rfl) rfl rfl rfl rfl) ?_
        refine Eq.trans (g_goto (pc' := 4) dX10_pinsOf_49 rfl) ?_
        rfl
theorem q224_0 (C : am_C) (σ : am_M) (v1 : Int32) : am_go am_X0 C M224 0 [.ref 34, .int v1] [] σ = am_bI (C 182 [.int v1] σ) (fun r1 t1 => if r1 = nI 0 then (am_go am_X0 C M224 13 [.ref 34, .int v1] [.int (nI 1), .ref 34] t1) else (am_go am_X0 C M224 13 [.ref 34, .int v1] [.int (nI 0), .ref 34] t1)) := by
  refine Eq.trans (g_A dX10_pins_0 rfl rfl) ?_
  refine Eq.trans (g_A dX10_pins_1 rfl rfl) ?_
  refine Eq.trans (g_sI (as := [.int v1]) (rest := [.ref 34]) dX10_pins_2 rfl cl114 m182 rfl rfl rfl rfl (Nat.le_of_ble_eq_true rfl) rfl rfl rfl) ?_
  refine am_bI_c (fun r1 t1 => ?_)
  refine Eq.trans (g_ifeq (t := 12) dX10_pins_5 rfl rfl) ?_
  refine am_ite ?_ ?_
  · refine Eq.trans (g_K (v := nI 1) dX10_pins_12 rfl rfl) ?_
    rfl
  · refine Eq.trans (g_K (v := nI 0) dX10_pins_8 rfl rfl) ?_
    refine Eq.trans (g_goto (pc' := 13) dX10_pins_9 rfl) ?_
    rfl
theorem q224_13 (C : am_C) (σ : am_M) (v1 s0 : Int32) : am_go am_X0 C M224 13 [.ref 34, .int v1] [.int s0, .ref 34] σ = if ((am_wI σ 34 25 s0).1 34 25) ≤ (nI 0) then (am_bI (C 223 [.ref 34, .int v1] (am_wI σ 34 25 s0)) (fun r1 t1 => some (.inl (some (.int r1)), t1))) else (some (.inl (some (.int (nI 0))), am_wI σ 34 25 s0)) := by
  refine Eq.trans (g_put dX10_pins_13 f13 sh34 rfl rfl rfl) ?_
  refine Eq.trans (g_A dX10_pins_16 rfl rfl) ?_
  refine Eq.trans (g_getI dX10_pins_17 f13 sh34 rfl rfl) ?_
  refine Eq.trans (g_ifle (t := 27) dX10_pins_20 rfl rfl) ?_
  refine am_ite ?_ ?_
  · refine Eq.trans (g_A dX10_pins_27 rfl rfl) ?_
    refine Eq.trans (g_A dX10_pins_28 rfl rfl) ?_
    refine Eq.trans (g_vI (a := 34) (as := [.int v1]) (rest := []) dX10_pins_29 cl126 m223 rfl rfl rfl rfl (Nat.le_of_ble_eq_true rfl) rfl rfl rfl rfl) ?_
    refine am_bI_c (fun r1 t1 => ?_)
    exact g_iret dX10_pins_32 rfl
  · refine Eq.trans (g_K (v := nI 0) dX10_pins_23 rfl rfl) ?_
    refine Eq.trans (g_goto (pc' := 32) dX10_pins_24 rfl) ?_
    exact g_iret dX10_pins_32 rfl
theorem q225_0 (C : am_C) (σ : am_M) (v1 v2 : Int32) : am_go am_X0 C M225 0 [.ref 34, .int v1, .int v2, .null] [] σ = am_bI (C 182 [.int v1] σ) (fun r1 t1 => if r1 = nI 0 then (am_go am_X0 C M225 39 [.ref 34, .int v1, .int v2, .null] [.int (nI 1), .ref 34] t1) else (if am_in v1 64 = true then (if t1.1 37 (v1 : Int32).toNatClampNeg = (-1) then (am_go am_X0 C M225 34 [.ref 34, .int v1, .int v2, .null] [.ref 34] t1) else (if v2 = nI 0 then (am_go am_X0 C M225 38 [.ref 34, .int v1, .int v2, .null] [.ref 34] t1) else (am_bI (C 223 [.ref 34, .int v1] t1) (fun r2 t2 => if r2 = nI 0 then (am_go am_X0 C M225 38 [.ref 34, .int v1, .int v2, .null] [.ref 34] t2) else (am_go am_X0 C M225 34 [.ref 34, .int v1, .int v2, .null] [.ref 34] t2))))) else none)) := by
  refine Eq.trans (g_A dX10_mark_0 rfl rfl) ?_
  refine Eq.trans (g_A dX10_mark_1 rfl rfl) ?_
  refine Eq.trans (g_sI (as := [.int v1]) (rest := [.ref 34]) dX10_mark_2 rfl cl114 m182 rfl rfl rfl rfl (Nat.le_of_ble_eq_true rfl) rfl rfl rfl) ?_
  refine am_bI_c (fun r1 t1 => ?_)
  refine Eq.trans (g_ifne (t := 12) dX10_mark_5 rfl rfl) ?_
  refine am_ite ?_ ?_
  · refine Eq.trans (g_K (v := nI 1) dX10_mark_8 rfl rfl) ?_
    refine Eq.trans (g_goto (pc' := 39) dX10_mark_9 rfl) ?_
    rfl
  · refine Eq.trans (g_A dX10_mark_12 rfl rfl) ?_
    refine Eq.trans (g_getR dX10_mark_13 f16 sh34 rfl rfl) ?_
    refine Eq.trans (g_A dX10_mark_16 rfl rfl) ?_
    refine Eq.trans (g_iald dX10_mark_17 sh37 rfl) ?_
    refine am_ite ?_ rfl
    refine Eq.trans (g_K (v := (-1)) dX10_mark_18 rfl rfl) ?_
    refine Eq.trans (g_iceq (t := 34) dX10_mark_19 rfl rfl) ?_
    refine am_ite ?_ ?_
    · rfl
    · refine Eq.trans (g_A dX10_mark_22 rfl rfl) ?_
      refine Eq.trans (g_ifeq (t := 38) dX10_mark_23 rfl rfl) ?_
      refine am_ite ?_ ?_
      · rfl
      · refine Eq.trans (g_A dX10_mark_26 rfl rfl) ?_
        refine Eq.trans (g_A dX10_mark_27 rfl rfl) ?_
        refine Eq.trans (g_vI (a := 34) (as := [.int v1]) (rest := [.ref 34]) dX10_mark_28 cl126 m223 rfl rfl rfl rfl (Nat.le_of_ble_eq_true rfl) rfl rfl rfl rfl) ?_
        refine am_bI_c (fun r2 t2 => ?_)
        refine Eq.trans (g_ifeq (t := 38) dX10_mark_31 rfl rfl) ?_
        refine am_ite ?_ ?_
        · rfl
        · rfl
theorem q225_34 (C : am_C) (σ : am_M) (v1 v2 : Int32) : am_go am_X0 C M225 34 [.ref 34, .int v1, .int v2, .null] [.ref 34] σ = am_go am_X0 C M225 39 [.ref 34, .int v1, .int v2, .null] [.int (nI 2), .ref 34] σ := by
  refine Eq.trans (g_K (v := nI 2) dX10_mark_34 rfl rfl) ?_
  refine Eq.trans (g_goto (pc' := 39) dX10_mark_35 rfl) ?_
  rfl
theorem q225_38 (C : am_C) (σ : am_M) (v1 v2 : Int32) : am_go am_X0 C M225 38 [.ref 34, .int v1, .int v2, .null] [.ref 34] σ = am_go am_X0 C M225 39 [.ref 34, .int v1, .int v2, .null] [.int (nI 0), .ref 34] σ := by
  refine Eq.trans (g_K (v := nI 0) dX10_mark_38 rfl rfl) ?_
  rfl
theorem q225_39 (C : am_C) (σ : am_M) (v1 v2 s0 : Int32) : am_go am_X0 C M225 39 [.ref 34, .int v1, .int v2, .null] [.int s0, .ref 34] σ = if ((am_wI σ 34 25 s0).1 34 25) ≤ (nI 0) then (if am_in v1 64 = true then (if am_in v1 64 = true then (if (am_wI σ 34 25 s0).1 41 (v1 : Int32).toNatClampNeg = nI 0 ∨ (am_wI σ 34 25 s0).1 41 (v1 : Int32).toNatClampNeg = nI 1 then some (.inl (some (.int ((am_wI σ 34 25 s0).1 41 (v1 : Int32).toNatClampNeg))), am_wI (am_wI σ 34 25 s0) 41 (v1 : Int32).toNatClampNeg (vp_nar .boolean v2)) else none) else none) else none) else (some (.inl (some (.int (nI 0))), am_wI σ 34 25 s0)) := by
  refine Eq.trans (g_put dX10_mark_39 f13 sh34 rfl rfl rfl) ?_
  refine Eq.trans (g_A dX10_mark_42 rfl rfl) ?_
  refine Eq.trans (g_getI dX10_mark_43 f13 sh34 rfl rfl) ?_
  refine Eq.trans (g_ifle (t := 51) dX10_mark_46 rfl rfl) ?_
  refine am_ite ?_ ?_
  · refine Eq.trans (g_A dX10_mark_51 rfl rfl) ?_
    refine Eq.trans (g_getR dX10_mark_52 f17 sh34 rfl rfl) ?_
    refine Eq.trans (g_A dX10_mark_55 rfl rfl) ?_
    refine Eq.trans (g_bald dX10_mark_56 sh41 rfl) ?_
    refine am_ite ?_ rfl
    refine Eq.trans (g_isn (k := 3) dX10_mark_57 rfl (Nat.le_of_ble_eq_true rfl) rfl rfl rfl) ?_
    refine Eq.trans (g_A dX10_mark_58 rfl rfl) ?_
    refine Eq.trans (g_getR dX10_mark_59 f17 sh34 rfl rfl) ?_
    refine Eq.trans (g_A dX10_mark_62 rfl rfl) ?_
    refine Eq.trans (g_A dX10_mark_63 rfl rfl) ?_
    refine Eq.trans (g_bast dX10_mark_64 sh41 rfl) ?_
    refine am_ite ?_ rfl
    refine Eq.trans (g_A dX10_mark_65 rfl rfl) ?_
    exact g_zret dX10_mark_66 rfl
  · refine Eq.trans (g_K (v := nI 0) dX10_mark_49 rfl rfl) ?_
    exact g_zl dX10_mark_50 rfl (Or.inl rfl)
theorem q226_0 (C : am_C) (σ : am_M) : am_go am_X0 C M226 0 [.ref 34, .null, .null] [] σ = am_go am_X0 C M226 4 [.ref 34, .int (nI 0), .int (nI 0)] [] σ := by
  refine Eq.trans (g_K (v := nI 0) dX10_marks_0 rfl rfl) ?_
  refine Eq.trans (g_isn (k := 1) dX10_marks_1 rfl (Nat.le_of_ble_eq_true rfl) rfl rfl rfl) ?_
  refine Eq.trans (g_K (v := nI 0) dX10_marks_2 rfl rfl) ?_
  refine Eq.trans (g_isn (k := 2) dX10_marks_3 rfl (Nat.le_of_ble_eq_true rfl) rfl rfl rfl) ?_
  rfl
theorem q226_4 (C : am_C) (σ : am_M) (v1 v2 : Int32) : am_go am_X0 C M226 4 [.ref 34, .int v1, .int v2] [] σ = if (nI 64) ≤ v2 then (some (.inl (some (.int v1)), σ)) else (if am_in v2 64 = true then (if σ.1 41 (v2 : Int32).toNatClampNeg = nI 0 then (am_go am_X0 C M226 4 [.ref 34, .int (v1 + (nI 0)), .int (v2 + nI 1)] [] σ) else (am_go am_X0 C M226 4 [.ref 34, .int (v1 + (nI 1)), .int (v2 + nI 1)] [] σ)) else none) := by
  refine Eq.trans (g_A dX10_marks_4 rfl rfl) ?_
  refine Eq.trans (g_K (v := nI 64) dX10_marks_5 rfl rfl) ?_
  refine Eq.trans (g_icge (t := 33) dX10_marks_7 rfl rfl) ?_
  refine am_ite ?_ ?_
  · refine Eq.trans (g_A dX10_marks_33 rfl rfl) ?_
    exact g_iret dX10_marks_34 rfl
  · refine Eq.trans (g_A dX10_marks_10 rfl rfl) ?_
    refine Eq.trans (g_A dX10_marks_11 rfl rfl) ?_
    refine Eq.trans (g_getR dX10_marks_12 f17 sh34 rfl rfl) ?_
    refine Eq.trans (g_A dX10_marks_15 rfl rfl) ?_
    refine Eq.trans (g_bald dX10_marks_16 sh41 rfl) ?_
    refine am_ite ?_ rfl
    refine Eq.trans (g_ifeq (t := 24) dX10_marks_17 rfl rfl) ?_
    refine am_ite ?_ ?_
    · refine Eq.trans (g_K (v := nI 0) dX10_marks_24 rfl rfl) ?_
      refine Eq.trans (g_iadd dX10_marks_25 rfl) ?_
      refine Eq.trans (g_isn (k := 1) dX10_marks_26 rfl (Nat.le_of_ble_eq_true rfl) rfl rfl rfl) ?_
      refine Eq.trans (g_inc (v := v2 + nI 1) dX10_marks_27 rfl (Nat.le_of_ble_eq_true rfl) rfl rfl rfl rfl) ?_
      refine Eq.trans (g_goto (pc' := 4) dX10_marks_30 rfl) ?_
      rfl
    · refine Eq.trans (g_K (v := nI 1) dX10_marks_20 rfl rfl) ?_
      refine Eq.trans (g_goto (pc' := 25) dX10_marks_21 rfl) ?_
      refine Eq.trans (g_iadd dX10_marks_25 rfl) ?_
      refine Eq.trans (g_isn (k := 1) dX10_marks_26 rfl (Nat.le_of_ble_eq_true rfl) rfl rfl rfl) ?_
      refine Eq.trans (g_inc (v := v2 + nI 1) dX10_marks_27 rfl (Nat.le_of_ble_eq_true rfl) rfl rfl rfl rfl) ?_
      refine Eq.trans (g_goto (pc' := 4) dX10_marks_30 rfl) ?_
      rfl
theorem q227_0 (C : am_C) (σ : am_M) : am_go am_X0 C M227 0 [.ref 34] [] σ = am_bI (C 226 [.ref 34] (am_wI σ 34 25 (nI 0))) (fun r1 t1 => some (.inl (some (.int r1)), t1)) := by
  refine Eq.trans (g_A dX10_markCount_0 rfl rfl) ?_
  refine Eq.trans (g_K (v := nI 0) dX10_markCount_1 rfl rfl) ?_
  refine Eq.trans (g_put dX10_markCount_2 f13 sh34 rfl rfl rfl) ?_
  refine Eq.trans (g_A dX10_markCount_5 rfl rfl) ?_
  refine Eq.trans (g_vI (a := 34) (as := []) (rest := []) dX10_markCount_6 cl130 m226 rfl rfl rfl rfl (Nat.le_of_ble_eq_true rfl) rfl rfl rfl rfl) ?_
  refine am_bI_c (fun r1 t1 => ?_)
  exact g_iret dX10_markCount_9 rfl
theorem q228_0 (C : am_C) (σ : am_M) (v1 : Int32) : am_go am_X0 C M228 0 [.ref 34, .int v1, .null] [] σ = am_go am_X0 C M228 6 [.ref 34, .int v1, .int (((nI 4) * v1) + (nI 1))] [] σ := by
  refine Eq.trans (g_K (v := nI 4) dX10_hasChild_0 rfl rfl) ?_
  refine Eq.trans (g_A dX10_hasChild_1 rfl rfl) ?_
  refine Eq.trans (g_imul dX10_hasChild_2 rfl) ?_
  refine Eq.trans (g_K (v := nI 1) dX10_hasChild_3 rfl rfl) ?_
  refine Eq.trans (g_iadd dX10_hasChild_4 rfl) ?_
  refine Eq.trans (g_isn (k := 2) dX10_hasChild_5 rfl (Nat.le_of_ble_eq_true rfl) rfl rfl rfl) ?_
  rfl
theorem q228_6 (C : am_C) (σ : am_M) (v1 v2 : Int32) : am_go am_X0 C M228 6 [.ref 34, .int v1, .int v2] [] σ = if (((nI 4) * v1) + (nI 4)) < v2 then (some (.inl (some (.int (nI 0))), σ)) else (if am_in v2 85 = true then (if σ.1 36 (v2 : Int32).toNatClampNeg = nI 0 then (am_go am_X0 C M228 6 [.ref 34, .int v1, .int (v2 + nI 1)] [] σ) else (some (.inl (some (.int (nI 1))), σ))) else none) := by
  refine Eq.trans (g_A dX10_hasChild_6 rfl rfl) ?_
  refine Eq.trans (g_K (v := nI 4) dX10_hasChild_7 rfl rfl) ?_
  refine Eq.trans (g_A dX10_hasChild_8 rfl rfl) ?_
  refine Eq.trans (g_imul dX10_hasChild_9 rfl) ?_
  refine Eq.trans (g_K (v := nI 4) dX10_hasChild_10 rfl rfl) ?_
  refine Eq.trans (g_iadd dX10_hasChild_11 rfl) ?_
  refine Eq.trans (g_icgt (t := 32) dX10_hasChild_12 rfl rfl) ?_
  refine am_ite ?_ ?_
  · refine Eq.trans (g_K (v := nI 0) dX10_hasChild_32 rfl rfl) ?_
    exact g_zl dX10_hasChild_33 rfl (Or.inl rfl)
  · refine Eq.trans (g_A dX10_hasChild_15 rfl rfl) ?_
    refine Eq.trans (g_getR dX10_hasChild_16 f37 sh34 rfl rfl) ?_
    refine Eq.trans (g_A dX10_hasChild_19 rfl rfl) ?_
    refine Eq.trans (g_iald dX10_hasChild_20 sh36 rfl) ?_
    refine am_ite ?_ rfl
    refine Eq.trans (g_ifeq (t := 26) dX10_hasChild_21 rfl rfl) ?_
    refine am_ite ?_ ?_
    · refine Eq.trans (g_inc (v := v2 + nI 1) dX10_hasChild_26 rfl (Nat.le_of_ble_eq_true rfl) rfl rfl rfl rfl) ?_
      refine Eq.trans (g_goto (pc' := 6) dX10_hasChild_29 rfl) ?_
      rfl
    · refine Eq.trans (g_K (v := nI 1) dX10_hasChild_24 rfl rfl) ?_
      exact g_zl dX10_hasChild_25 rfl (Or.inr rfl)
theorem q229_0 (C : am_C) (σ : am_M) : am_go am_X0 C M229 0 [.ref 34, .null, .null, .null] [] σ = am_go am_X0 C M229 7 [.ref 34, .int (nI 0), .null, .null] [] (am_wI σ 34 27 (nI 0)) := by
  refine Eq.trans (g_A dX10_plans_0 rfl rfl) ?_
  refine Eq.trans (g_K (v := nI 0) dX10_plans_1 rfl rfl) ?_
  refine Eq.trans (g_put dX10_plans_2 f31 sh34 rfl rfl rfl) ?_
  refine Eq.trans (g_K (v := nI 0) dX10_plans_5 rfl rfl) ?_
  refine Eq.trans (g_isn (k := 1) dX10_plans_6 rfl (Nat.le_of_ble_eq_true rfl) rfl rfl rfl) ?_
  rfl
theorem q229_7 (C : am_C) (σ : am_M) (v1 : Int32) : am_go am_X0 C M229 7 [.ref 34, .int v1, .null, .null] [] σ = if (nI 64) ≤ v1 then (am_bV (C 198 [.ref 34, .int (nI 1)] σ) (fun t1 => am_go am_X0 C M229 45 [.ref 34, .int (nI 0), .null, .null] [] t1)) else (if am_in v1 64 = true then (if σ.1 41 (v1 : Int32).toNatClampNeg = nI 0 then (am_go am_X0 C M229 7 [.ref 34, .int (v1 + nI 1), .null, .null] [] σ) else (if am_in v1 64 = true then (am_bV (C 197 [.ref 34, .int (σ.1 37 (v1 : Int32).toNatClampNeg)] σ) (fun t2 => am_go am_X0 C M229 7 [.ref 34, .int (v1 + nI 1), .null, .null] [] t2)) else none)) else none) := by
  refine Eq.trans (g_A dX10_plans_7 rfl rfl) ?_
  refine Eq.trans (g_K (v := nI 64) dX10_plans_8 rfl rfl) ?_
  refine Eq.trans (g_icge (t := 38) dX10_plans_10 rfl rfl) ?_
  refine am_ite ?_ ?_
  · refine Eq.trans (g_A dX10_plans_38 rfl rfl) ?_
    refine Eq.trans (g_K (v := nI 1) dX10_plans_39 rfl rfl) ?_
    refine Eq.trans (g_vV (a := 34) (as := [.int (nI 1)]) (rest := []) dX10_plans_40 cl111 m198 rfl rfl rfl rfl (Nat.le_of_ble_eq_true rfl) rfl rfl rfl rfl) ?_
    refine am_bV_c (fun t1 => ?_)
    refine Eq.trans (g_K (v := nI 0) dX10_plans_43 rfl rfl) ?_
    refine Eq.trans (g_isn (k := 1) dX10_plans_44 rfl (Nat.le_of_ble_eq_true rfl) rfl rfl rfl) ?_
    rfl
  · refine Eq.trans (g_A dX10_plans_13 rfl rfl) ?_
    refine Eq.trans (g_getR dX10_plans_14 f17 sh34 rfl rfl) ?_
    refine Eq.trans (g_A dX10_plans_17 rfl rfl) ?_
    refine Eq.trans (g_bald dX10_plans_18 sh41 rfl) ?_
    refine am_ite ?_ rfl
    refine Eq.trans (g_ifeq (t := 32) dX10_plans_19 rfl rfl) ?_
    refine am_ite ?_ ?_
    · refine Eq.trans (g_inc (v := v1 + nI 1) dX10_plans_32 rfl (Nat.le_of_ble_eq_true rfl) rfl rfl rfl rfl) ?_
      refine Eq.trans (g_goto (pc' := 7) dX10_plans_35 rfl) ?_
      rfl
    · refine Eq.trans (g_A dX10_plans_22 rfl rfl) ?_
      refine Eq.trans (g_A dX10_plans_23 rfl rfl) ?_
      refine Eq.trans (g_getR dX10_plans_24 f16 sh34 rfl rfl) ?_
      refine Eq.trans (g_A dX10_plans_27 rfl rfl) ?_
      refine Eq.trans (g_iald dX10_plans_28 sh37 rfl) ?_
      refine am_ite ?_ rfl
      refine Eq.trans (g_vV (a := 34) (as := [.int (σ.1 37 (v1 : Int32).toNatClampNeg)]) (rest := []) dX10_plans_29 cl110 m197 rfl rfl rfl rfl (Nat.le_of_ble_eq_true rfl) rfl rfl rfl rfl) ?_
      refine am_bV_c (fun t2 => ?_)
      refine Eq.trans (g_inc (v := v1 + nI 1) dX10_plans_32 rfl (Nat.le_of_ble_eq_true rfl) rfl rfl rfl rfl) ?_
      refine Eq.trans (g_goto (pc' := 7) dX10_plans_35 rfl) ?_
      rfl
theorem q229_45 (C : am_C) (σ : am_M) (v1 : Int32) : am_go am_X0 C M229 45 [.ref 34, .int v1, .null, .null] [] σ = if (nI 4) ≤ v1 then (am_go am_X0 C M229 92 [.ref 34, .int (nI 84), .null, .null] [] σ) else (if am_in v1 4 = true then (if (σ.1 39 (v1 : Int32).toNatClampNeg) ≤ (nI 0) then (am_go am_X0 C M229 81 [.ref 34, .int v1, .null, .null] [.int v1, .ref 43] σ) else (if am_in v1 4 = true then (am_bI (C 195 [.ref 34, .int (σ.1 39 (v1 : Int32).toNatClampNeg)] σ) (fun r1 t1 => if r1 = nI 0 then (am_go am_X0 C M229 81 [.ref 34, .int v1, .null, .null] [.int v1, .ref 43] t1) else (am_go am_X0 C M229 82 [.ref 34, .int v1, .null, .null] [.int (nI 1), .int v1, .ref 43] t1))) else none)) else none) := by
  refine Eq.trans (g_A dX10_plans_45 rfl rfl) ?_
  refine Eq.trans (g_K (v := nI 4) dX10_plans_46 rfl rfl) ?_
  refine Eq.trans (g_icge (t := 89) dX10_plans_47 rfl rfl) ?_
  refine am_ite ?_ ?_
  · refine Eq.trans (g_K (v := nI 84) dX10_plans_89 rfl rfl) ?_
    refine Eq.trans (g_isn (k := 1) dX10_plans_91 rfl (Nat.le_of_ble_eq_true rfl) rfl rfl rfl) ?_
    rfl
  · refine Eq.trans (g_A dX10_plans_50 rfl rfl) ?_
    refine Eq.trans (g_getR dX10_plans_51 f38 sh34 rfl rfl) ?_
    refine Eq.trans (g_A dX10_plans_54 rfl rfl) ?_
    refine Eq.trans (g_A dX10_plans_55 rfl rfl) ?_
    refine Eq.trans (g_getR dX10_plans_56 f19 sh34 rfl rfl) ?_
    refine Eq.trans (g_A dX10_plans_59 rfl rfl) ?_
    refine Eq.trans (g_iald dX10_plans_60 sh39 rfl) ?_
    refine am_ite ?_ rfl
    refine Eq.trans (g_ifle (t := 81) dX10_plans_61 rfl rfl) ?_
    refine am_ite ?_ ?_
    · rfl
    · refine Eq.trans (g_A dX10_plans_64 rfl rfl) ?_
      refine Eq.trans (g_A dX10_plans_65 rfl rfl) ?_
      refine Eq.trans (g_getR dX10_plans_66 f19 sh34 rfl rfl) ?_
      refine Eq.trans (g_A dX10_plans_69 rfl rfl) ?_
      refine Eq.trans (g_iald dX10_plans_70 sh39 rfl) ?_
      refine am_ite ?_ rfl
      refine Eq.trans (g_vI (a := 34) (as := [.int (σ.1 39 (v1 : Int32).toNatClampNeg)]) (rest := [.int v1, .ref 43]) dX10_plans_71 cl108 m195 rfl rfl rfl rfl (Nat.le_of_ble_eq_true rfl) rfl rfl rfl rfl) ?_
      refine am_bI_c (fun r1 t1 => ?_)
      refine Eq.trans (g_ifeq (t := 81) dX10_plans_74 rfl rfl) ?_
      refine am_ite ?_ ?_
      · rfl
      · refine Eq.trans (g_K (v := nI 1) dX10_plans_77 rfl rfl) ?_
        refine Eq.trans (g_goto (pc' := 82) dX10_plans_78 rfl) ?_
        rfl
theorem q229_81 (C : am_C) (σ : am_M) (v1 s0 : Int32) : am_go am_X0 C M229 81 [.ref 34, .int v1, .null, .null] [.int s0, .ref 43] σ = am_go am_X0 C M229 82 [.ref 34, .int v1, .null, .null] [.int (nI 0), .int s0, .ref 43] σ := by
  refine Eq.trans (g_K (v := nI 0) dX10_plans_81 rfl rfl) ?_
  rfl
theorem q229_82 (C : am_C) (σ : am_M) (v1 s0 s1 : Int32) : am_go am_X0 C M229 82 [.ref 34, .int v1, .null, .null] [.int s0, .int s1, .ref 43] σ = if am_in s1 4 = true then (am_go am_X0 C M229 45 [.ref 34, .int (v1 + nI 1), .null, .null] [] (am_wI σ 43 (s1 : Int32).toNatClampNeg (vp_nar .boolean s0))) else none := by
  refine Eq.trans (g_bast dX10_plans_82 sh43 rfl) ?_
  refine am_ite ?_ rfl
  refine Eq.trans (g_inc (v := v1 + nI 1) dX10_plans_83 rfl (Nat.le_of_ble_eq_true rfl) rfl rfl rfl rfl) ?_
  refine Eq.trans (g_goto (pc' := 45) dX10_plans_86 rfl) ?_
  rfl
theorem q229_92 (C : am_C) (σ : am_M) (v1 : Int32) {u2 : Value} (hu2 : (!(u2.category == 2)) = true) : am_go am_X0 C M229 92 [.ref 34, .int v1, u2, .null] [] σ = if v1 < (nI 0) then (am_go am_X0 C M229 199 [.ref 34, .int (nI 0), .int (nI 0), .null] [] σ) else (if v1 = nI 0 then (am_go am_X0 C M229 127 [.ref 34, .int v1, u2, .null] [.int v1, .ref 42] σ) else (if am_in v1 85 = true then (if σ.1 35 (v1 : Int32).toNatClampNeg = nI 0 then (am_go am_X0 C M229 131 [.ref 34, .int v1, u2, .null] [.int v1, .ref 42] σ) else (if am_in v1 85 = true then (am_bI (C 195 [.ref 34, .int (σ.1 35 (v1 : Int32).toNatClampNeg)] σ) (fun r1 t1 => if r1 = nI 0 then (am_go am_X0 C M229 131 [.ref 34, .int v1, u2, .null] [.int v1, .ref 42] t1) else (am_go am_X0 C M229 127 [.ref 34, .int v1, u2, .null] [.int v1, .ref 42] t1))) else none)) else none)) := by
  refine Eq.trans (g_A dX10_plans_92 rfl rfl) ?_
  refine Eq.trans (g_iflt (t := 195) dX10_plans_93 rfl rfl) ?_
  refine am_ite ?_ ?_
  · refine Eq.trans (g_K (v := nI 0) dX10_plans_195 rfl rfl) ?_
    refine Eq.trans (g_isn (k := 1) dX10_plans_196 rfl (Nat.le_of_ble_eq_true rfl) rfl rfl rfl) ?_
    refine Eq.trans (g_K (v := nI 0) dX10_plans_197 rfl rfl) ?_
    refine Eq.trans (g_isn (k := 2) dX10_plans_198 rfl (Nat.le_of_ble_eq_true rfl) rfl rfl rfl) ?_
    rfl
  · refine Eq.trans (g_A dX10_plans_96 rfl rfl) ?_
    refine Eq.trans (g_getR dX10_plans_97 f39 sh34 rfl rfl) ?_
    refine Eq.trans (g_A dX10_plans_100 rfl rfl) ?_
    refine Eq.trans (g_A dX10_plans_101 rfl rfl) ?_
    refine Eq.trans (g_ifeq (t := 127) dX10_plans_102 rfl rfl) ?_
    refine am_ite ?_ ?_
    · rfl
    · refine Eq.trans (g_A dX10_plans_105 rfl rfl) ?_
      refine Eq.trans (g_getR dX10_plans_106 f15 sh34 rfl rfl) ?_
      refine Eq.trans (g_A dX10_plans_109 rfl rfl) ?_
      refine Eq.trans (g_iald dX10_plans_110 sh35 rfl) ?_
      refine am_ite ?_ rfl
      refine Eq.trans (g_ifeq (t := 131) dX10_plans_111 rfl rfl) ?_
      refine am_ite ?_ ?_
      · rfl
      · refine Eq.trans (g_A dX10_plans_114 rfl rfl) ?_
        refine Eq.trans (g_A dX10_plans_115 rfl rfl) ?_
        refine Eq.trans (g_getR dX10_plans_116 f15 sh34 rfl rfl) ?_
        refine Eq.trans (g_A dX10_plans_119 rfl rfl) ?_
        refine Eq.trans (g_iald dX10_plans_120 sh35 rfl) ?_
        refine am_ite ?_ rfl
        refine Eq.trans (g_vI (a := 34) (as := [.int (σ.1 35 (v1 : Int32).toNatClampNeg)]) (rest := [.int v1, .ref 42]) dX10_plans_121 cl108 m195 rfl rfl rfl rfl (Nat.le_of_ble_eq_true rfl) rfl rfl rfl rfl) ?_
        refine am_bI_c (fun r1 t1 => ?_)
        refine Eq.trans (g_ifeq (t := 131) dX10_plans_124 rfl rfl) ?_
        refine am_ite ?_ ?_
        · rfl
        · rfl
theorem q229_127 (C : am_C) (σ : am_M) (v1 s0 : Int32) {u2 : Value} (hu2 : (!(u2.category == 2)) = true) : am_go am_X0 C M229 127 [.ref 34, .int v1, u2, .null] [.int s0, .ref 42] σ = am_go am_X0 C M229 132 [.ref 34, .int v1, u2, .null] [.int (nI 1), .int s0, .ref 42] σ := by
  refine Eq.trans (g_K (v := nI 1) dX10_plans_127 rfl rfl) ?_
  refine Eq.trans (g_goto (pc' := 132) dX10_plans_128 rfl) ?_
  rfl
theorem q229_131 (C : am_C) (σ : am_M) (v1 s0 : Int32) {u2 : Value} (hu2 : (!(u2.category == 2)) = true) : am_go am_X0 C M229 131 [.ref 34, .int v1, u2, .null] [.int s0, .ref 42] σ = am_go am_X0 C M229 132 [.ref 34, .int v1, u2, .null] [.int (nI 0), .int s0, .ref 42] σ := by
  refine Eq.trans (g_K (v := nI 0) dX10_plans_131 rfl rfl) ?_
  rfl
theorem q229_132 (C : am_C) (σ : am_M) (v1 s0 s1 : Int32) {u2 : Value} (hu2 : (!(u2.category == 2)) = true) : am_go am_X0 C M229 132 [.ref 34, .int v1, u2, .null] [.int s0, .int s1, .ref 42] σ = if am_in s1 85 = true then (if v1 < (nI 21) then (if v1 ≤ (nI 0) then (am_go am_X0 C M229 167 [.ref 34, .int v1, u2, .null] [] (am_wI σ 42 (s1 : Int32).toNatClampNeg (vp_nar .boolean s0))) else (am_bI (C 228 [.ref 34, .int v1] (am_wI σ 42 (s1 : Int32).toNatClampNeg (vp_nar .boolean s0))) (fun r1 t1 => if r1 = nI 0 then (am_go am_X0 C M229 168 [.ref 34, .int v1, u2, .null] [.int (nI 1)] t1) else (am_go am_X0 C M229 167 [.ref 34, .int v1, u2, .null] [] t1)))) else (if am_in (v1 - (nI 21)) 64 = true then (am_go am_X0 C M229 168 [.ref 34, .int v1, u2, .null] [.int ((am_wI σ 42 (s1 : Int32).toNatClampNeg (vp_nar .boolean s0)).1 41 (v1 - (nI 21) : Int32).toNatClampNeg)] (am_wI σ 42 (s1 : Int32).toNatClampNeg (vp_nar .boolean s0))) else none)) else none := by
  refine Eq.trans (g_bast dX10_plans_132 sh42 rfl) ?_
  refine am_ite ?_ rfl
  refine Eq.trans (g_A dX10_plans_133 rfl rfl) ?_
  refine Eq.trans (g_K (v := nI 21) dX10_plans_134 rfl rfl) ?_
  refine Eq.trans (g_iclt (t := 151) dX10_plans_136 rfl rfl) ?_
  refine am_ite ?_ ?_
  · refine Eq.trans (g_A dX10_plans_151 rfl rfl) ?_
    refine Eq.trans (g_ifle (t := 167) dX10_plans_152 rfl rfl) ?_
    refine am_ite ?_ ?_
    · rfl
    · refine Eq.trans (g_A dX10_plans_155 rfl rfl) ?_
      refine Eq.trans (g_A dX10_plans_156 rfl rfl) ?_
      refine Eq.trans (g_vI (a := 34) (as := [.int v1]) (rest := []) dX10_plans_157 cl131 m228 rfl rfl rfl rfl (Nat.le_of_ble_eq_true rfl) rfl rfl rfl rfl) ?_
      refine am_bI_c (fun r1 t1 => ?_)
      refine Eq.trans (g_ifne (t := 167) dX10_plans_160 rfl rfl) ?_
      refine am_ite ?_ ?_
      · refine Eq.trans (g_K (v := nI 1) dX10_plans_163 rfl rfl) ?_
        refine Eq.trans (g_goto (pc' := 168) dX10_plans_164 rfl) ?_
        rfl
      · rfl
  · refine Eq.trans (g_A dX10_plans_139 rfl rfl) ?_
    refine Eq.trans (g_getR dX10_plans_140 f17 sh34 rfl rfl) ?_
    refine Eq.trans (g_A dX10_plans_143 rfl rfl) ?_
    refine Eq.trans (g_K (v := nI 21) dX10_plans_144 rfl rfl) ?_
    refine Eq.trans (g_isub dX10_plans_146 rfl) ?_
    refine Eq.trans (g_bald dX10_plans_147 sh41 rfl) ?_
    refine am_ite ?_ rfl
    refine Eq.trans (g_goto (pc' := 168) dX10_plans_148 rfl) ?_
    rfl
theorem q229_167 (C : am_C) (σ : am_M) (v1 : Int32) {u2 : Value} (hu2 : (!(u2.category == 2)) = true) : am_go am_X0 C M229 167 [.ref 34, .int v1, u2, .null] [] σ = am_go am_X0 C M229 168 [.ref 34, .int v1, u2, .null] [.int (nI 0)] σ := by
  refine Eq.trans (g_K (v := nI 0) dX10_plans_167 rfl rfl) ?_
  rfl
theorem q229_168 (C : am_C) (σ : am_M) (v1 s0 : Int32) {u2 : Value} (hu2 : (!(u2.category == 2)) = true) : am_go am_X0 C M229 168 [.ref 34, .int v1, u2, .null] [.int s0] σ = if s0 = nI 0 then (if am_in v1 85 = true then (am_go am_X0 C M229 188 [.ref 34, .int v1, .int s0, .null] [.int (σ.1 35 (v1 : Int32).toNatClampNeg), .int v1, .ref 36] σ) else none) else (am_go am_X0 C M229 188 [.ref 34, .int v1, .int s0, .null] [.int (nI 0), .int v1, .ref 36] σ) := by
  refine Eq.trans (g_isn (k := 2) dX10_plans_168 rfl (Nat.le_of_ble_eq_true rfl) rfl rfl rfl) ?_
  refine Eq.trans (g_A dX10_plans_169 rfl rfl) ?_
  refine Eq.trans (g_getR dX10_plans_170 f37 sh34 rfl rfl) ?_
  refine Eq.trans (g_A dX10_plans_173 rfl rfl) ?_
  refine Eq.trans (g_A dX10_plans_174 rfl rfl) ?_
  refine Eq.trans (g_ifeq (t := 182) dX10_plans_175 rfl rfl) ?_
  refine am_ite ?_ ?_
  · refine Eq.trans (g_A dX10_plans_182 rfl rfl) ?_
    refine Eq.trans (g_getR dX10_plans_183 f15 sh34 rfl rfl) ?_
    refine Eq.trans (g_A dX10_plans_186 rfl rfl) ?_
    refine Eq.trans (g_iald dX10_plans_187 sh35 rfl) ?_
    refine am_ite ?_ rfl
    rfl
  · refine Eq.trans (g_K (v := nI 0) dX10_plans_178 rfl rfl) ?_
    refine Eq.trans (g_goto (pc' := 188) dX10_plans_179 rfl) ?_
    rfl
theorem q229_188 (C : am_C) (σ : am_M) (v1 v2 s0 s1 : Int32) : am_go am_X0 C M229 188 [.ref 34, .int v1, .int v2, .null] [.int s0, .int s1, .ref 36] σ = if am_in s1 85 = true then (am_go am_X0 C M229 92 [.ref 34, .int (v1 + (-1)), .int v2, .null] [] (am_wI σ 36 (s1 : Int32).toNatClampNeg s0)) else none := by
  refine Eq.trans (g_iast dX10_plans_188 sh36 rfl) ?_
  refine am_ite ?_ rfl
  refine Eq.trans (g_inc (v := v1 + (-1)) dX10_plans_189 rfl (Nat.le_of_ble_eq_true rfl) rfl rfl rfl rfl) ?_
  refine Eq.trans (g_goto (pc' := 92) dX10_plans_192 rfl) ?_
  rfl
theorem q229_199 (C : am_C) (σ : am_M) (v1 v2 : Int32) {u3 : Value} (hu3 : (!(u3.category == 2)) = true) : am_go am_X0 C M229 199 [.ref 34, .int v1, .int v2, u3] [] σ = if (nI 21) ≤ v2 then (some (.inl (some (.int v1)), σ)) else (if am_in v2 85 = true then (if σ.1 42 (v2 : Int32).toNatClampNeg = nI 0 then (am_go am_X0 C M229 232 [.ref 34, .int v1, .int v2, u3] [.int v2, .ref 42] σ) else (if am_in v2 85 = true then (if σ.1 36 (v2 : Int32).toNatClampNeg = nI 0 then (am_go am_X0 C M229 232 [.ref 34, .int v1, .int v2, u3] [.int v2, .ref 42] σ) else (am_go am_X0 C M229 233 [.ref 34, .int v1, .int v2, u3] [.int (nI 1), .int v2, .ref 42] σ)) else none)) else none) := by
  refine Eq.trans (g_A dX10_plans_199 rfl rfl) ?_
  refine Eq.trans (g_K (v := nI 21) dX10_plans_200 rfl rfl) ?_
  refine Eq.trans (g_icge (t := 287) dX10_plans_202 rfl rfl) ?_
  refine am_ite ?_ ?_
  · refine Eq.trans (g_A dX10_plans_287 rfl rfl) ?_
    exact g_iret dX10_plans_288 rfl
  · refine Eq.trans (g_A dX10_plans_205 rfl rfl) ?_
    refine Eq.trans (g_getR dX10_plans_206 f39 sh34 rfl rfl) ?_
    refine Eq.trans (g_A dX10_plans_209 rfl rfl) ?_
    refine Eq.trans (g_A dX10_plans_210 rfl rfl) ?_
    refine Eq.trans (g_getR dX10_plans_211 f39 sh34 rfl rfl) ?_
    refine Eq.trans (g_A dX10_plans_214 rfl rfl) ?_
    refine Eq.trans (g_bald dX10_plans_215 sh42 rfl) ?_
    refine am_ite ?_ rfl
    refine Eq.trans (g_ifeq (t := 232) dX10_plans_216 rfl rfl) ?_
    refine am_ite ?_ ?_
    · rfl
    · refine Eq.trans (g_A dX10_plans_219 rfl rfl) ?_
      refine Eq.trans (g_getR dX10_plans_220 f37 sh34 rfl rfl) ?_
      refine Eq.trans (g_A dX10_plans_223 rfl rfl) ?_
      refine Eq.trans (g_iald dX10_plans_224 sh36 rfl) ?_
      refine am_ite ?_ rfl
      refine Eq.trans (g_ifeq (t := 232) dX10_plans_225 rfl rfl) ?_
      refine am_ite ?_ ?_
      · rfl
      · refine Eq.trans (g_K (v := nI 1) dX10_plans_228 rfl rfl) ?_
        refine Eq.trans (g_goto (pc' := 233) dX10_plans_229 rfl) ?_
        rfl
theorem q229_232 (C : am_C) (σ : am_M) (v1 v2 s0 : Int32) {u3 : Value} (hu3 : (!(u3.category == 2)) = true) : am_go am_X0 C M229 232 [.ref 34, .int v1, .int v2, u3] [.int s0, .ref 42] σ = am_go am_X0 C M229 233 [.ref 34, .int v1, .int v2, u3] [.int (nI 0), .int s0, .ref 42] σ := by
  refine Eq.trans (g_K (v := nI 0) dX10_plans_232 rfl rfl) ?_
  rfl
theorem q229_233 (C : am_C) (σ : am_M) (v1 v2 s0 s1 : Int32) {u3 : Value} (hu3 : (!(u3.category == 2)) = true) : am_go am_X0 C M229 233 [.ref 34, .int v1, .int v2, u3] [.int s0, .int s1, .ref 42] σ = if am_in s1 85 = true then (am_go am_X0 C M229 240 [.ref 34, .int v1, .int v2, .int (((nI 4) * v2) + (nI 1))] [] (am_wI σ 42 (s1 : Int32).toNatClampNeg (vp_nar .boolean s0))) else none := by
  refine Eq.trans (g_bast dX10_plans_233 sh42 rfl) ?_
  refine am_ite ?_ rfl
  refine Eq.trans (g_K (v := nI 4) dX10_plans_234 rfl rfl) ?_
  refine Eq.trans (g_A dX10_plans_235 rfl rfl) ?_
  refine Eq.trans (g_imul dX10_plans_236 rfl) ?_
  refine Eq.trans (g_K (v := nI 1) dX10_plans_237 rfl rfl) ?_
  refine Eq.trans (g_iadd dX10_plans_238 rfl) ?_
  refine Eq.trans (g_isn (k := 3) dX10_plans_239 rfl (Nat.le_of_ble_eq_true rfl) rfl rfl rfl) ?_
  rfl
theorem q229_240 (C : am_C) (σ : am_M) (v1 v2 v3 : Int32) : am_go am_X0 C M229 240 [.ref 34, .int v1, .int v2, .int v3] [] σ = if am_in v2 85 = true then (if σ.1 42 (v2 : Int32).toNatClampNeg = nI 0 then (am_go am_X0 C M229 199 [.ref 34, .int v1, .int (v2 + nI 1), .int v3] [] σ) else (if (((nI 4) * v2) + (nI 4)) < v3 then (am_go am_X0 C M229 199 [.ref 34, .int v1, .int (v2 + nI 1), .int v3] [] σ) else (if am_in v3 85 = true then (if σ.1 36 (v3 : Int32).toNatClampNeg = nI 0 then (am_go am_X0 C M229 240 [.ref 34, .int (v1 + (nI 0)), .int v2, .int (v3 + nI 1)] [] σ) else (am_go am_X0 C M229 240 [.ref 34, .int (v1 + (nI 1)), .int v2, .int (v3 + nI 1)] [] σ)) else none))) else none := by
  refine Eq.trans (g_A dX10_plans_240 rfl rfl) ?_
  refine Eq.trans (g_getR dX10_plans_241 f39 sh34 rfl rfl) ?_
  refine Eq.trans (g_A dX10_plans_244 rfl rfl) ?_
  refine Eq.trans (g_bald dX10_plans_245 sh42 rfl) ?_
  refine am_ite ?_ rfl
  refine Eq.trans (g_ifeq (t := 281) dX10_plans_246 rfl rfl) ?_
  refine am_ite ?_ ?_
  · refine Eq.trans (g_inc (v := v2 + nI 1) dX10_plans_281 rfl (Nat.le_of_ble_eq_true rfl) rfl rfl rfl rfl) ?_
    refine Eq.trans (g_goto (pc' := 199) dX10_plans_284 rfl) ?_
    rfl
  · refine Eq.trans (g_A dX10_plans_249 rfl rfl) ?_
    refine Eq.trans (g_K (v := nI 4) dX10_plans_250 rfl rfl) ?_
    refine Eq.trans (g_A dX10_plans_251 rfl rfl) ?_
    refine Eq.trans (g_imul dX10_plans_252 rfl) ?_
    refine Eq.trans (g_K (v := nI 4) dX10_plans_253 rfl rfl) ?_
    refine Eq.trans (g_iadd dX10_plans_254 rfl) ?_
    refine Eq.trans (g_icgt (t := 281) dX10_plans_255 rfl rfl) ?_
    refine am_ite ?_ ?_
    · refine Eq.trans (g_inc (v := v2 + nI 1) dX10_plans_281 rfl (Nat.le_of_ble_eq_true rfl) rfl rfl rfl rfl) ?_
      refine Eq.trans (g_goto (pc' := 199) dX10_plans_284 rfl) ?_
      rfl
    · refine Eq.trans (g_A dX10_plans_258 rfl rfl) ?_
      refine Eq.trans (g_A dX10_plans_259 rfl rfl) ?_
      refine Eq.trans (g_getR dX10_plans_260 f37 sh34 rfl rfl) ?_
      refine Eq.trans (g_A dX10_plans_263 rfl rfl) ?_
      refine Eq.trans (g_iald dX10_plans_264 sh36 rfl) ?_
      refine am_ite ?_ rfl
      refine Eq.trans (g_ifeq (t := 272) dX10_plans_265 rfl rfl) ?_
      refine am_ite ?_ ?_
      · refine Eq.trans (g_K (v := nI 0) dX10_plans_272 rfl rfl) ?_
        refine Eq.trans (g_iadd dX10_plans_273 rfl) ?_
        refine Eq.trans (g_isn (k := 1) dX10_plans_274 rfl (Nat.le_of_ble_eq_true rfl) rfl rfl rfl) ?_
        refine Eq.trans (g_inc (v := v3 + nI 1) dX10_plans_275 rfl (Nat.le_of_ble_eq_true rfl) rfl rfl rfl rfl) ?_
        refine Eq.trans (g_goto (pc' := 240) dX10_plans_278 rfl) ?_
        rfl
      · refine Eq.trans (g_K (v := nI 1) dX10_plans_268 rfl rfl) ?_
        refine Eq.trans (g_goto (pc' := 273) dX10_plans_269 rfl) ?_
        refine Eq.trans (g_iadd dX10_plans_273 rfl) ?_
        refine Eq.trans (g_isn (k := 1) dX10_plans_274 rfl (Nat.le_of_ble_eq_true rfl) rfl rfl rfl) ?_
        refine Eq.trans (g_inc (v := v3 + nI 1) dX10_plans_275 rfl (Nat.le_of_ble_eq_true rfl) rfl rfl rfl rfl) ?_
        refine Eq.trans (g_goto (pc' := 240) dX10_plans_278 rfl) ?_
        rfl
theorem q230_0 (C : am_C) (σ : am_M) (v1 : Int32) : am_go am_X0 C M230 0 [.ref 34, .int v1, .null, .null, .null, .null] [] σ = am_bI (C 226 [.ref 34] σ) (fun r1 t1 => if r1 = nI 0 then (am_go am_X0 C M230 13 [.ref 34, .int v1, .null, .null, .null, .null] [.int (nI 1), .ref 34] t1) else (am_go am_X0 C M230 13 [.ref 34, .int v1, .null, .null, .null, .null] [.int (nI 0), .ref 34] t1)) := by
  refine Eq.trans (g_A dX10_forget_0 rfl rfl) ?_
  refine Eq.trans (g_A dX10_forget_1 rfl rfl) ?_
  refine Eq.trans (g_vI (a := 34) (as := []) (rest := [.ref 34]) dX10_forget_2 cl130 m226 rfl rfl rfl rfl (Nat.le_of_ble_eq_true rfl) rfl rfl rfl rfl) ?_
  refine am_bI_c (fun r1 t1 => ?_)
  refine Eq.trans (g_ifne (t := 12) dX10_forget_5 rfl rfl) ?_
  refine am_ite ?_ ?_
  · refine Eq.trans (g_K (v := nI 1) dX10_forget_8 rfl rfl) ?_
    refine Eq.trans (g_goto (pc' := 13) dX10_forget_9 rfl) ?_
    rfl
  · refine Eq.trans (g_K (v := nI 0) dX10_forget_12 rfl rfl) ?_
    rfl
theorem q230_13 (C : am_C) (σ : am_M) (v1 s0 : Int32) : am_go am_X0 C M230 13 [.ref 34, .int v1, .null, .null, .null, .null] [.int s0, .ref 34] σ = if ((am_wI σ 34 25 s0).1 34 25) ≤ (nI 0) then (am_bI (C 229 [.ref 34] (am_wI σ 34 25 s0)) (fun r1 t1 => am_go am_X0 C M230 35 [.ref 34, .int v1, .int r1, .int (nI 0), .int (nI 0), .null] [] t1)) else (some (.inl (some (.int (nI 0))), am_wI σ 34 25 s0)) := by
  refine Eq.trans (g_put dX10_forget_13 f13 sh34 rfl rfl rfl) ?_
  refine Eq.trans (g_A dX10_forget_16 rfl rfl) ?_
  refine Eq.trans (g_getI dX10_forget_17 f13 sh34 rfl rfl) ?_
  refine Eq.trans (g_ifle (t := 25) dX10_forget_20 rfl rfl) ?_
  refine am_ite ?_ ?_
  · refine Eq.trans (g_A dX10_forget_25 rfl rfl) ?_
    refine Eq.trans (g_vI (a := 34) (as := []) (rest := []) dX10_forget_26 cl132 m229 rfl rfl rfl rfl (Nat.le_of_ble_eq_true rfl) rfl rfl rfl rfl) ?_
    refine am_bI_c (fun r1 t1 => ?_)
    refine Eq.trans (g_isn (k := 2) dX10_forget_29 rfl (Nat.le_of_ble_eq_true rfl) rfl rfl rfl) ?_
    refine Eq.trans (g_K (v := nI 0) dX10_forget_30 rfl rfl) ?_
    refine Eq.trans (g_isn (k := 3) dX10_forget_31 rfl (Nat.le_of_ble_eq_true rfl) rfl rfl rfl) ?_
    refine Eq.trans (g_K (v := nI 0) dX10_forget_32 rfl rfl) ?_
    refine Eq.trans (g_ist (k := 4) dX10_forget_33 (Nat.le_of_ble_eq_true rfl) rfl rfl rfl) ?_
    rfl
  · refine Eq.trans (g_K (v := nI 0) dX10_forget_23 rfl rfl) ?_
    exact g_iret dX10_forget_24 rfl
theorem q230_35 (C : am_C) (σ : am_M) (v1 v2 v3 v4 : Int32) : am_go am_X0 C M230 35 [.ref 34, .int v1, .int v2, .int v3, .int v4, .null] [] σ = if (nI 4) ≤ v4 then (if v3 = nI 0 then (am_go am_X0 C M230 66 [.ref 34, .int v1, .int v2, .int v3, .int v4, .null] [.ref 34] σ) else (if v1 = nI 0 then (am_go am_X0 C M230 79 [.ref 34, .int v1, .int v2, .int v3, .int v4, .null] [.ref 34] σ) else (am_go am_X0 C M230 66 [.ref 34, .int v1, .int v2, .int v3, .int v4, .null] [.ref 34] σ))) else (if am_in v4 4 = true then (am_go am_X0 C M230 35 [.ref 34, .int v1, .int v2, .int (v3 ||| (σ.1 43 (v4 : Int32).toNatClampNeg)), .int (v4 + nI 1), .null] [] σ) else none) := by
  refine Eq.trans (g_A dX10_forget_35 rfl rfl) ?_
  refine Eq.trans (g_K (v := nI 4) dX10_forget_37 rfl rfl) ?_
  refine Eq.trans (g_icge (t := 57) dX10_forget_38 rfl rfl) ?_
  refine am_ite ?_ ?_
  · refine Eq.trans (g_A dX10_forget_57 rfl rfl) ?_
    refine Eq.trans (g_A dX10_forget_58 rfl rfl) ?_
    refine Eq.trans (g_ifeq (t := 66) dX10_forget_59 rfl rfl) ?_
    refine am_ite ?_ ?_
    · rfl
    · refine Eq.trans (g_A dX10_forget_62 rfl rfl) ?_
      refine Eq.trans (g_ifeq (t := 79) dX10_forget_63 rfl rfl) ?_
      refine am_ite ?_ ?_
      · rfl
      · rfl
  · refine Eq.trans (g_A dX10_forget_41 rfl rfl) ?_
    refine Eq.trans (g_A dX10_forget_42 rfl rfl) ?_
    refine Eq.trans (g_getR dX10_forget_43 f38 sh34 rfl rfl) ?_
    refine Eq.trans (g_A dX10_forget_46 rfl rfl) ?_
    refine Eq.trans (g_bald dX10_forget_48 sh43 rfl) ?_
    refine am_ite ?_ rfl
    refine Eq.trans (g_ior dX10_forget_49 rfl) ?_
    refine Eq.trans (g_isn (k := 3) dX10_forget_50 rfl (Nat.le_of_ble_eq_true rfl) rfl rfl rfl) ?_
    refine Eq.trans (g_inc (v := v4 + nI 1) dX10_forget_51 rfl (Nat.le_of_ble_eq_true rfl) rfl rfl rfl rfl) ?_
    refine Eq.trans (g_goto (pc' := 35) dX10_forget_54 rfl) ?_
    rfl
theorem q230_66 (C : am_C) (σ : am_M) (v1 v2 v3 v4 : Int32) : am_go am_X0 C M230 66 [.ref 34, .int v1, .int v2, .int v3, .int v4, .null] [.ref 34] σ = am_bI (C 186 [.ref 34, .int (-1)] σ) (fun r1 t1 => am_bI (C 187 [.ref 34, .int r1, .int v2] t1) (fun r2 t2 => if r2 = nI 0 then (am_go am_X0 C M230 79 [.ref 34, .int v1, .int v2, .int v3, .int v4, .null] [.ref 34] t2) else (am_go am_X0 C M230 84 [.ref 34, .int v1, .int v2, .int v3, .int v4, .null] [.int (nI 0), .ref 34] t2))) := by
  refine Eq.trans (g_A dX10_forget_66 rfl rfl) ?_
  refine Eq.trans (g_A dX10_forget_67 rfl rfl) ?_
  refine Eq.trans (g_K (v := (-1)) dX10_forget_68 rfl rfl) ?_
  refine Eq.trans (g_vI (a := 34) (as := [.int (-1)]) (rest := [.ref 34, .ref 34]) dX10_forget_69 cl102 m186 rfl rfl rfl rfl (Nat.le_of_ble_eq_true rfl) rfl rfl rfl rfl) ?_
  refine am_bI_c (fun r1 t1 => ?_)
  refine Eq.trans (g_A dX10_forget_72 rfl rfl) ?_
  refine Eq.trans (g_vI (a := 34) (as := [.int r1, .int v2]) (rest := [.ref 34]) dX10_forget_73 cl116 m187 rfl rfl rfl rfl (Nat.le_of_ble_eq_true rfl) rfl rfl rfl rfl) ?_
  refine am_bI_c (fun r2 t2 => ?_)
  refine Eq.trans (g_ifne (t := 83) dX10_forget_76 rfl rfl) ?_
  refine am_ite ?_ ?_
  · rfl
  · refine Eq.trans (g_K (v := nI 0) dX10_forget_83 rfl rfl) ?_
    rfl
theorem q230_79 (C : am_C) (σ : am_M) (v1 v2 v3 v4 : Int32) : am_go am_X0 C M230 79 [.ref 34, .int v1, .int v2, .int v3, .int v4, .null] [.ref 34] σ = am_go am_X0 C M230 84 [.ref 34, .int v1, .int v2, .int v3, .int v4, .null] [.int (nI 1), .ref 34] σ := by
  refine Eq.trans (g_K (v := nI 1) dX10_forget_79 rfl rfl) ?_
  refine Eq.trans (g_goto (pc' := 84) dX10_forget_80 rfl) ?_
  rfl
theorem q230_84 (C : am_C) (σ : am_M) (v1 v2 v3 v4 s0 : Int32) : am_go am_X0 C M230 84 [.ref 34, .int v1, .int v2, .int v3, .int v4, .null] [.int s0, .ref 34] σ = if ((am_wI σ 34 25 s0).1 34 25) ≤ (nI 0) then (am_go am_X0 C M230 99 [.ref 34, .int v1, .int v2, .int v3, .int (nI 0), .null] [] (am_wI σ 34 25 s0)) else (some (.inl (some (.int (nI 0))), am_wI σ 34 25 s0)) := by
  refine Eq.trans (g_put dX10_forget_84 f13 sh34 rfl rfl rfl) ?_
  refine Eq.trans (g_A dX10_forget_87 rfl rfl) ?_
  refine Eq.trans (g_getI dX10_forget_88 f13 sh34 rfl rfl) ?_
  refine Eq.trans (g_ifle (t := 96) dX10_forget_91 rfl rfl) ?_
  refine am_ite ?_ ?_
  · refine Eq.trans (g_K (v := nI 0) dX10_forget_96 rfl rfl) ?_
    refine Eq.trans (g_ist (k := 4) dX10_forget_97 (Nat.le_of_ble_eq_true rfl) rfl rfl rfl) ?_
    rfl
  · refine Eq.trans (g_K (v := nI 0) dX10_forget_94 rfl rfl) ?_
    exact g_iret dX10_forget_95 rfl
theorem q230_99 (C : am_C) (σ : am_M) (v1 v2 v3 v4 : Int32) : am_go am_X0 C M230 99 [.ref 34, .int v1, .int v2, .int v3, .int v4, .null] [] σ = if (nI 64) ≤ v4 then (am_go am_X0 C M230 157 [.ref 34, .int v1, .int v2, .int v3, .int (nI 0), .null] [] σ) else (if am_in v4 64 = true then (if σ.1 41 (v4 : Int32).toNatClampNeg = nI 0 then (am_go am_X0 C M230 99 [.ref 34, .int v1, .int v2, .int v3, .int (v4 + nI 1), .null] [] σ) else (if am_in v4 64 = true then (if am_in v4 64 = true then (if am_in ((am_wI σ 41 (v4 : Int32).toNatClampNeg (vp_nar .boolean (nI 0))).1 37 (v4 : Int32).toNatClampNeg) 200 = true then (if am_in v4 64 = true then (am_go am_X0 C M230 99 [.ref 34, .int v1, .int v2, .int v3, .int (v4 + nI 1), .null] [] (am_wI (am_wI (am_wI σ 41 (v4 : Int32).toNatClampNeg (vp_nar .boolean (nI 0))) 51 ((am_wI σ 41 (v4 : Int32).toNatClampNeg (vp_nar .boolean (nI 0))).1 37 (v4 : Int32).toNatClampNeg : Int32).toNatClampNeg (-1)) 37 (v4 : Int32).toNatClampNeg (-1))) else none) else none) else none) else none)) else none) := by
  refine Eq.trans (g_A dX10_forget_99 rfl rfl) ?_
  refine Eq.trans (g_K (v := nI 64) dX10_forget_101 rfl rfl) ?_
  refine Eq.trans (g_icge (t := 154) dX10_forget_103 rfl rfl) ?_
  refine am_ite ?_ ?_
  · refine Eq.trans (g_K (v := nI 0) dX10_forget_154 rfl rfl) ?_
    refine Eq.trans (g_ist (k := 4) dX10_forget_155 (Nat.le_of_ble_eq_true rfl) rfl rfl rfl) ?_
    rfl
  · refine Eq.trans (g_A dX10_forget_106 rfl rfl) ?_
    refine Eq.trans (g_getR dX10_forget_107 f17 sh34 rfl rfl) ?_
    refine Eq.trans (g_A dX10_forget_110 rfl rfl) ?_
    refine Eq.trans (g_bald dX10_forget_112 sh41 rfl) ?_
    refine am_ite ?_ rfl
    refine Eq.trans (g_ifne (t := 119) dX10_forget_113 rfl rfl) ?_
    refine am_ite ?_ ?_
    · refine Eq.trans (g_goto (pc' := 148) dX10_forget_116 rfl) ?_
      refine Eq.trans (g_inc (v := v4 + nI 1) dX10_forget_148 rfl (Nat.le_of_ble_eq_true rfl) rfl rfl rfl rfl) ?_
      refine Eq.trans (g_goto (pc' := 99) dX10_forget_151 rfl) ?_
      rfl
    · refine Eq.trans (g_A dX10_forget_119 rfl rfl) ?_
      refine Eq.trans (g_getR dX10_forget_120 f17 sh34 rfl rfl) ?_
      refine Eq.trans (g_A dX10_forget_123 rfl rfl) ?_
      refine Eq.trans (g_K (v := nI 0) dX10_forget_125 rfl rfl) ?_
      refine Eq.trans (g_bast dX10_forget_126 sh41 rfl) ?_
      refine am_ite ?_ rfl
      refine Eq.trans (g_A dX10_forget_127 rfl rfl) ?_
      refine Eq.trans (g_getR dX10_forget_128 f34 sh34 rfl rfl) ?_
      refine Eq.trans (g_A dX10_forget_131 rfl rfl) ?_
      refine Eq.trans (g_getR dX10_forget_132 f16 sh34 rfl rfl) ?_
      refine Eq.trans (g_A dX10_forget_135 rfl rfl) ?_
      refine Eq.trans (g_iald dX10_forget_137 sh37 rfl) ?_
      refine am_ite ?_ rfl
      refine Eq.trans (g_K (v := (-1)) dX10_forget_138 rfl rfl) ?_
      refine Eq.trans (g_iast dX10_forget_139 sh51 rfl) ?_
      refine am_ite ?_ rfl
      refine Eq.trans (g_A dX10_forget_140 rfl rfl) ?_
      refine Eq.trans (g_getR dX10_forget_141 f16 sh34 rfl rfl) ?_
      refine Eq.trans (g_A dX10_forget_144 rfl rfl) ?_
      refine Eq.trans (g_K (v := (-1)) dX10_forget_146 rfl rfl) ?_
      refine Eq.trans (g_iast dX10_forget_147 sh37 rfl) ?_
      refine am_ite ?_ rfl
      refine Eq.trans (g_inc (v := v4 + nI 1) dX10_forget_148 rfl (Nat.le_of_ble_eq_true rfl) rfl rfl rfl rfl) ?_
      refine Eq.trans (g_goto (pc' := 99) dX10_forget_151 rfl) ?_
      rfl
theorem q230_157 (C : am_C) (σ : am_M) (v1 v2 v3 v4 : Int32) : am_go am_X0 C M230 157 [.ref 34, .int v1, .int v2, .int v3, .int v4, .null] [] σ = if (nI 85) ≤ v4 then (am_go am_X0 C M230 187 [.ref 34, .int v1, .int v2, .int v3, .int (nI 0), .null] [] σ) else (if am_in v4 85 = true then (if am_in v4 85 = true then (am_go am_X0 C M230 157 [.ref 34, .int v1, .int v2, .int v3, .int (v4 + nI 1), .null] [] (am_wI σ 35 (v4 : Int32).toNatClampNeg (σ.1 36 (v4 : Int32).toNatClampNeg))) else none) else none) := by
  refine Eq.trans (g_A dX10_forget_157 rfl rfl) ?_
  refine Eq.trans (g_K (v := nI 85) dX10_forget_159 rfl rfl) ?_
  refine Eq.trans (g_icge (t := 184) dX10_forget_161 rfl rfl) ?_
  refine am_ite ?_ ?_
  · refine Eq.trans (g_K (v := nI 0) dX10_forget_184 rfl rfl) ?_
    refine Eq.trans (g_ist (k := 4) dX10_forget_185 (Nat.le_of_ble_eq_true rfl) rfl rfl rfl) ?_
    rfl
  · refine Eq.trans (g_A dX10_forget_164 rfl rfl) ?_
    refine Eq.trans (g_getR dX10_forget_165 f15 sh34 rfl rfl) ?_
    refine Eq.trans (g_A dX10_forget_168 rfl rfl) ?_
    refine Eq.trans (g_A dX10_forget_170 rfl rfl) ?_
    refine Eq.trans (g_getR dX10_forget_171 f37 sh34 rfl rfl) ?_
    refine Eq.trans (g_A dX10_forget_174 rfl rfl) ?_
    refine Eq.trans (g_iald dX10_forget_176 sh36 rfl) ?_
    refine am_ite ?_ rfl
    refine Eq.trans (g_iast dX10_forget_177 sh35 rfl) ?_
    refine am_ite ?_ rfl
    refine Eq.trans (g_inc (v := v4 + nI 1) dX10_forget_178 rfl (Nat.le_of_ble_eq_true rfl) rfl rfl rfl rfl) ?_
    refine Eq.trans (g_goto (pc' := 157) dX10_forget_181 rfl) ?_
    rfl
theorem q230_187 (C : am_C) (σ : am_M) (v1 v2 v3 v4 : Int32) : am_go am_X0 C M230 187 [.ref 34, .int v1, .int v2, .int v3, .int v4, .null] [] σ = if (nI 21) ≤ v4 then (am_go am_X0 C M230 224 [.ref 34, .int v1, .int v2, .int v3, .int (nI 0), .null] [] σ) else (if am_in v4 85 = true then (if σ.1 42 (v4 : Int32).toNatClampNeg = nI 0 then (am_go am_X0 C M230 187 [.ref 34, .int v1, .int v2, .int v3, .int (v4 + nI 1), .null] [] σ) else (am_bI (C 177 [.ref 34] σ) (fun r1 t1 => if am_in v4 85 = true then (am_go am_X0 C M230 187 [.ref 34, .int v1, .int v2, .int v3, .int (v4 + nI 1), .null] [] (am_wI t1 35 (v4 : Int32).toNatClampNeg r1)) else none))) else none) := by
  refine Eq.trans (g_A dX10_forget_187 rfl rfl) ?_
  refine Eq.trans (g_K (v := nI 21) dX10_forget_189 rfl rfl) ?_
  refine Eq.trans (g_icge (t := 221) dX10_forget_191 rfl rfl) ?_
  refine am_ite ?_ ?_
  · refine Eq.trans (g_K (v := nI 0) dX10_forget_221 rfl rfl) ?_
    refine Eq.trans (g_ist (k := 4) dX10_forget_222 (Nat.le_of_ble_eq_true rfl) rfl rfl rfl) ?_
    rfl
  · refine Eq.trans (g_A dX10_forget_194 rfl rfl) ?_
    refine Eq.trans (g_getR dX10_forget_195 f39 sh34 rfl rfl) ?_
    refine Eq.trans (g_A dX10_forget_198 rfl rfl) ?_
    refine Eq.trans (g_bald dX10_forget_200 sh42 rfl) ?_
    refine am_ite ?_ rfl
    refine Eq.trans (g_ifeq (t := 215) dX10_forget_201 rfl rfl) ?_
    refine am_ite ?_ ?_
    · refine Eq.trans (g_inc (v := v4 + nI 1) dX10_forget_215 rfl (Nat.le_of_ble_eq_true rfl) rfl rfl rfl rfl) ?_
      refine Eq.trans (g_goto (pc' := 187) dX10_forget_218 rfl) ?_
      rfl
    · refine Eq.trans (g_A dX10_forget_204 rfl rfl) ?_
      refine Eq.trans (g_getR dX10_forget_205 f15 sh34 rfl rfl) ?_
      refine Eq.trans (g_A dX10_forget_208 rfl rfl) ?_
      refine Eq.trans (g_A dX10_forget_210 rfl rfl) ?_
      refine Eq.trans (g_vI (a := 34) (as := []) (rest := [.int v4, .ref 35]) dX10_forget_211 cl97 m177 rfl rfl rfl rfl (Nat.le_of_ble_eq_true rfl) rfl rfl rfl rfl) ?_
      refine am_bI_c (fun r1 t1 => ?_)
      refine Eq.trans (g_iast dX10_forget_214 sh35 rfl) ?_
      refine am_ite ?_ rfl
      refine Eq.trans (g_inc (v := v4 + nI 1) dX10_forget_215 rfl (Nat.le_of_ble_eq_true rfl) rfl rfl rfl rfl) ?_
      refine Eq.trans (g_goto (pc' := 187) dX10_forget_218 rfl) ?_
      rfl
theorem q230_224 (C : am_C) (σ : am_M) (v1 v2 v3 v4 : Int32) : am_go am_X0 C M230 224 [.ref 34, .int v1, .int v2, .int v3, .int v4, .null] [] σ = if (nI 21) ≤ v4 then (am_go am_X0 C M230 256 [.ref 34, .int v1, .int v2, .int v3, .int (nI 0), .null] [] σ) else (if am_in v4 85 = true then (if σ.1 42 (v4 : Int32).toNatClampNeg = nI 0 then (am_go am_X0 C M230 224 [.ref 34, .int v1, .int v2, .int v3, .int (v4 + nI 1), .null] [] σ) else (am_bV (C 232 [.ref 34, .int v4] σ) (fun t1 => am_go am_X0 C M230 224 [.ref 34, .int v1, .int v2, .int v3, .int (v4 + nI 1), .null] [] t1))) else none) := by
  refine Eq.trans (g_A dX10_forget_224 rfl rfl) ?_
  refine Eq.trans (g_K (v := nI 21) dX10_forget_226 rfl rfl) ?_
  refine Eq.trans (g_icge (t := 253) dX10_forget_228 rfl rfl) ?_
  refine am_ite ?_ ?_
  · refine Eq.trans (g_K (v := nI 0) dX10_forget_253 rfl rfl) ?_
    refine Eq.trans (g_ist (k := 4) dX10_forget_254 (Nat.le_of_ble_eq_true rfl) rfl rfl rfl) ?_
    rfl
  · refine Eq.trans (g_A dX10_forget_231 rfl rfl) ?_
    refine Eq.trans (g_getR dX10_forget_232 f39 sh34 rfl rfl) ?_
    refine Eq.trans (g_A dX10_forget_235 rfl rfl) ?_
    refine Eq.trans (g_bald dX10_forget_237 sh42 rfl) ?_
    refine am_ite ?_ rfl
    refine Eq.trans (g_ifeq (t := 247) dX10_forget_238 rfl rfl) ?_
    refine am_ite ?_ ?_
    · refine Eq.trans (g_inc (v := v4 + nI 1) dX10_forget_247 rfl (Nat.le_of_ble_eq_true rfl) rfl rfl rfl rfl) ?_
      refine Eq.trans (g_goto (pc' := 224) dX10_forget_250 rfl) ?_
      rfl
    · refine Eq.trans (g_A dX10_forget_241 rfl rfl) ?_
      refine Eq.trans (g_A dX10_forget_242 rfl rfl) ?_
      refine Eq.trans (g_vV (a := 34) (as := [.int v4]) (rest := []) dX10_forget_244 cl133 m232 rfl rfl rfl rfl (Nat.le_of_ble_eq_true rfl) rfl rfl rfl rfl) ?_
      refine am_bV_c (fun t1 => ?_)
      refine Eq.trans (g_inc (v := v4 + nI 1) dX10_forget_247 rfl (Nat.le_of_ble_eq_true rfl) rfl rfl rfl rfl) ?_
      refine Eq.trans (g_goto (pc' := 224) dX10_forget_250 rfl) ?_
      rfl
theorem q230_256 (C : am_C) (σ : am_M) (v1 v2 v3 v4 : Int32) {u5 : Value} (hu5 : (!(u5.category == 2)) = true) : am_go am_X0 C M230 256 [.ref 34, .int v1, .int v2, .int v3, .int v4, u5] [] σ = if (nI 4) ≤ v4 then (some (.inl (some (.int v2)), σ)) else (if am_in v4 4 = true then (if am_in v4 4 = true then (if σ.1 43 (v4 : Int32).toNatClampNeg = nI 0 then (am_go am_X0 C M230 256 [.ref 34, .int v1, .int v2, .int v3, .int (v4 + nI 1), .int (σ.1 40 (v4 : Int32).toNatClampNeg)] [] σ) else (if (nI 21) ≤ (σ.1 40 (v4 : Int32).toNatClampNeg) then (am_go am_X0 C M230 314 [.ref 34, .int v1, .int v2, .int v3, .int v4, .int (σ.1 40 (v4 : Int32).toNatClampNeg)] [.int v4, .ref 39] σ) else (if am_in (σ.1 40 (v4 : Int32).toNatClampNeg) 85 = true then (if σ.1 42 (σ.1 40 (v4 : Int32).toNatClampNeg : Int32).toNatClampNeg = nI 0 then (am_go am_X0 C M230 314 [.ref 34, .int v1, .int v2, .int v3, .int v4, .int (σ.1 40 (v4 : Int32).toNatClampNeg)] [.int v4, .ref 39] σ) else (if am_in (σ.1 40 (v4 : Int32).toNatClampNeg) 85 = true then (am_go am_X0 C M230 315 [.ref 34, .int v1, .int v2, .int v3, .int v4, .int (σ.1 40 (v4 : Int32).toNatClampNeg)] [.int (σ.1 35 (σ.1 40 (v4 : Int32).toNatClampNeg : Int32).toNatClampNeg), .int v4, .ref 39] σ) else none)) else none))) else none) else none) := by
  refine Eq.trans (g_A dX10_forget_256 rfl rfl) ?_
  refine Eq.trans (g_K (v := nI 4) dX10_forget_258 rfl rfl) ?_
  refine Eq.trans (g_icge (t := 322) dX10_forget_259 rfl rfl) ?_
  refine am_ite ?_ ?_
  · refine Eq.trans (g_A dX10_forget_322 rfl rfl) ?_
    exact g_iret dX10_forget_323 rfl
  · refine Eq.trans (g_A dX10_forget_262 rfl rfl) ?_
    refine Eq.trans (g_getR dX10_forget_263 f40 sh34 rfl rfl) ?_
    refine Eq.trans (g_A dX10_forget_266 rfl rfl) ?_
    refine Eq.trans (g_iald dX10_forget_268 sh40 rfl) ?_
    refine am_ite ?_ rfl
    refine Eq.trans (g_ist (k := 5) dX10_forget_269 (Nat.le_of_ble_eq_true rfl) rfl rfl rfl) ?_
    refine Eq.trans (g_A dX10_forget_271 rfl rfl) ?_
    refine Eq.trans (g_getR dX10_forget_272 f38 sh34 rfl rfl) ?_
    refine Eq.trans (g_A dX10_forget_275 rfl rfl) ?_
    refine Eq.trans (g_bald dX10_forget_277 sh43 rfl) ?_
    refine am_ite ?_ rfl
    refine Eq.trans (g_ifeq (t := 316) dX10_forget_278 rfl rfl) ?_
    refine am_ite ?_ ?_
    · refine Eq.trans (g_inc (v := v4 + nI 1) dX10_forget_316 rfl (Nat.le_of_ble_eq_true rfl) rfl rfl rfl rfl) ?_
      refine Eq.trans (g_goto (pc' := 256) dX10_forget_319 rfl) ?_
      rfl
    · refine Eq.trans (g_A dX10_forget_281 rfl rfl) ?_
      refine Eq.trans (g_getR dX10_forget_282 f19 sh34 rfl rfl) ?_
      refine Eq.trans (g_A dX10_forget_285 rfl rfl) ?_
      refine Eq.trans (g_A dX10_forget_287 rfl rfl) ?_
      refine Eq.trans (g_K (v := nI 21) dX10_forget_289 rfl rfl) ?_
      refine Eq.trans (g_icge (t := 314) dX10_forget_291 rfl rfl) ?_
      refine am_ite ?_ ?_
      · rfl
      · refine Eq.trans (g_A dX10_forget_294 rfl rfl) ?_
        refine Eq.trans (g_getR dX10_forget_295 f39 sh34 rfl rfl) ?_
        refine Eq.trans (g_A dX10_forget_298 rfl rfl) ?_
        refine Eq.trans (g_bald dX10_forget_300 sh42 rfl) ?_
        refine am_ite ?_ rfl
        refine Eq.trans (g_ifeq (t := 314) dX10_forget_301 rfl rfl) ?_
        refine am_ite ?_ ?_
        · rfl
        · refine Eq.trans (g_A dX10_forget_304 rfl rfl) ?_
          refine Eq.trans (g_getR dX10_forget_305 f15 sh34 rfl rfl) ?_
          refine Eq.trans (g_A dX10_forget_308 rfl rfl) ?_
          refine Eq.trans (g_iald dX10_forget_310 sh35 rfl) ?_
          refine am_ite ?_ rfl
          refine Eq.trans (g_goto (pc' := 315) dX10_forget_311 rfl) ?_
          rfl
theorem q230_314 (C : am_C) (σ : am_M) (v1 v2 v3 v4 v5 s0 : Int32) : am_go am_X0 C M230 314 [.ref 34, .int v1, .int v2, .int v3, .int v4, .int v5] [.int s0, .ref 39] σ = am_go am_X0 C M230 315 [.ref 34, .int v1, .int v2, .int v3, .int v4, .int v5] [.int (nI 0), .int s0, .ref 39] σ := by
  refine Eq.trans (g_K (v := nI 0) dX10_forget_314 rfl rfl) ?_
  rfl
theorem q230_315 (C : am_C) (σ : am_M) (v1 v2 v3 v4 v5 s0 s1 : Int32) : am_go am_X0 C M230 315 [.ref 34, .int v1, .int v2, .int v3, .int v4, .int v5] [.int s0, .int s1, .ref 39] σ = if am_in s1 4 = true then (am_go am_X0 C M230 256 [.ref 34, .int v1, .int v2, .int v3, .int (v4 + nI 1), .int v5] [] (am_wI σ 39 (s1 : Int32).toNatClampNeg s0)) else none := by
  refine Eq.trans (g_iast dX10_forget_315 sh39 rfl) ?_
  refine am_ite ?_ rfl
  refine Eq.trans (g_inc (v := v4 + nI 1) dX10_forget_316 rfl (Nat.le_of_ble_eq_true rfl) rfl rfl rfl rfl) ?_
  refine Eq.trans (g_goto (pc' := 256) dX10_forget_319 rfl) ?_
  rfl
theorem q231_0 (C : am_C) (σ : am_M) (v1 : Int32) : am_go am_X0 C M231 0 [.ref 34, .int v1, .null, .null] [] σ = am_go am_X0 C M231 8 [.ref 34, .int v1, .int (nI 0), .int (((nI 4) * v1) + (nI 1))] [] σ := by
  refine Eq.trans (g_K (v := nI 0) dX10_childrenOf_0 rfl rfl) ?_
  refine Eq.trans (g_isn (k := 2) dX10_childrenOf_1 rfl (Nat.le_of_ble_eq_true rfl) rfl rfl rfl) ?_
  refine Eq.trans (g_K (v := nI 4) dX10_childrenOf_2 rfl rfl) ?_
  refine Eq.trans (g_A dX10_childrenOf_3 rfl rfl) ?_
  refine Eq.trans (g_imul dX10_childrenOf_4 rfl) ?_
  refine Eq.trans (g_K (v := nI 1) dX10_childrenOf_5 rfl rfl) ?_
  refine Eq.trans (g_iadd dX10_childrenOf_6 rfl) ?_
  refine Eq.trans (g_isn (k := 3) dX10_childrenOf_7 rfl (Nat.le_of_ble_eq_true rfl) rfl rfl rfl) ?_
  rfl
theorem q231_8 (C : am_C) (σ : am_M) (v1 v2 v3 : Int32) : am_go am_X0 C M231 8 [.ref 34, .int v1, .int v2, .int v3] [] σ = if (((nI 4) * v1) + (nI 4)) < v3 then (some (.inl (some (.int v2)), σ)) else (if am_in v3 85 = true then (if σ.1 35 (v3 : Int32).toNatClampNeg = nI 0 then (am_go am_X0 C M231 8 [.ref 34, .int v1, .int (v2 + (nI 0)), .int (v3 + nI 1)] [] σ) else (am_go am_X0 C M231 8 [.ref 34, .int v1, .int (v2 + (nI 1)), .int (v3 + nI 1)] [] σ)) else none) := by
  refine Eq.trans (g_A dX10_childrenOf_8 rfl rfl) ?_
  refine Eq.trans (g_K (v := nI 4) dX10_childrenOf_9 rfl rfl) ?_
  refine Eq.trans (g_A dX10_childrenOf_10 rfl rfl) ?_
  refine Eq.trans (g_imul dX10_childrenOf_11 rfl) ?_
  refine Eq.trans (g_K (v := nI 4) dX10_childrenOf_12 rfl rfl) ?_
  refine Eq.trans (g_iadd dX10_childrenOf_13 rfl) ?_
  refine Eq.trans (g_icgt (t := 40) dX10_childrenOf_14 rfl rfl) ?_
  refine am_ite ?_ ?_
  · refine Eq.trans (g_A dX10_childrenOf_40 rfl rfl) ?_
    exact g_iret dX10_childrenOf_41 rfl
  · refine Eq.trans (g_A dX10_childrenOf_17 rfl rfl) ?_
    refine Eq.trans (g_A dX10_childrenOf_18 rfl rfl) ?_
    refine Eq.trans (g_getR dX10_childrenOf_19 f15 sh34 rfl rfl) ?_
    refine Eq.trans (g_A dX10_childrenOf_22 rfl rfl) ?_
    refine Eq.trans (g_iald dX10_childrenOf_23 sh35 rfl) ?_
    refine am_ite ?_ rfl
    refine Eq.trans (g_ifeq (t := 31) dX10_childrenOf_24 rfl rfl) ?_
    refine am_ite ?_ ?_
    · refine Eq.trans (g_K (v := nI 0) dX10_childrenOf_31 rfl rfl) ?_
      refine Eq.trans (g_iadd dX10_childrenOf_32 rfl) ?_
      refine Eq.trans (g_isn (k := 2) dX10_childrenOf_33 rfl (Nat.le_of_ble_eq_true rfl) rfl rfl rfl) ?_
      refine Eq.trans (g_inc (v := v3 + nI 1) dX10_childrenOf_34 rfl (Nat.le_of_ble_eq_true rfl) rfl rfl rfl rfl) ?_
      refine Eq.trans (g_goto (pc' := 8) dX10_childrenOf_37 rfl) ?_
      rfl
    · refine Eq.trans (g_K (v := nI 1) dX10_childrenOf_27 rfl rfl) ?_
      refine Eq.trans (g_goto (pc' := 32) dX10_childrenOf_28 rfl) ?_
      refine Eq.trans (g_iadd dX10_childrenOf_32 rfl) ?_
      refine Eq.trans (g_isn (k := 2) dX10_childrenOf_33 rfl (Nat.le_of_ble_eq_true rfl) rfl rfl rfl) ?_
      refine Eq.trans (g_inc (v := v3 + nI 1) dX10_childrenOf_34 rfl (Nat.le_of_ble_eq_true rfl) rfl rfl rfl rfl) ?_
      refine Eq.trans (g_goto (pc' := 8) dX10_childrenOf_37 rfl) ?_
      rfl
theorem q232_0 (C : am_C) (σ : am_M) (v1 : Int32) : am_go am_X0 C M232 0 [.ref 34, .int v1, .null] [] σ = am_go am_X0 C M232 6 [.ref 34, .int v1, .int (((nI 4) * v1) + (nI 1))] [] σ := by
  refine Eq.trans (g_K (v := nI 4) dX10_wrapsChildren_0 rfl rfl) ?_
  refine Eq.trans (g_A dX10_wrapsChildren_1 rfl rfl) ?_
  refine Eq.trans (g_imul dX10_wrapsChildren_2 rfl) ?_
  refine Eq.trans (g_K (v := nI 1) dX10_wrapsChildren_3 rfl rfl) ?_
  refine Eq.trans (g_iadd dX10_wrapsChildren_4 rfl) ?_
  refine Eq.trans (g_isn (k := 2) dX10_wrapsChildren_5 rfl (Nat.le_of_ble_eq_true rfl) rfl rfl rfl) ?_
  rfl
theorem q232_6 (C : am_C) (σ : am_M) (v1 v2 : Int32) : am_go am_X0 C M232 6 [.ref 34, .int v1, .int v2] [] σ = if (((nI 4) * v1) + (nI 4)) < v2 then (some (.inl none, σ)) else (if am_in v2 85 = true then (if σ.1 35 (v2 : Int32).toNatClampNeg = nI 0 then (am_go am_X0 C M232 6 [.ref 34, .int v1, .int (v2 + nI 1)] [] σ) else (if am_in v2 85 = true then (if am_in v1 85 = true then (am_bV (C 189 [.ref 34, .int (σ.1 35 (v2 : Int32).toNatClampNeg), .int (σ.1 35 (v1 : Int32).toNatClampNeg)] σ) (fun t1 => am_go am_X0 C M232 6 [.ref 34, .int v1, .int (v2 + nI 1)] [] t1)) else none) else none)) else none) := by
  refine Eq.trans (g_A dX10_wrapsChildren_6 rfl rfl) ?_
  refine Eq.trans (g_K (v := nI 4) dX10_wrapsChildren_7 rfl rfl) ?_
  refine Eq.trans (g_A dX10_wrapsChildren_8 rfl rfl) ?_
  refine Eq.trans (g_imul dX10_wrapsChildren_9 rfl) ?_
  refine Eq.trans (g_K (v := nI 4) dX10_wrapsChildren_10 rfl rfl) ?_
  refine Eq.trans (g_iadd dX10_wrapsChildren_11 rfl) ?_
  refine Eq.trans (g_icgt (t := 46) dX10_wrapsChildren_12 rfl rfl) ?_
  refine am_ite ?_ ?_
  · exact g_vret dX10_wrapsChildren_46 rfl
  · refine Eq.trans (g_A dX10_wrapsChildren_15 rfl rfl) ?_
    refine Eq.trans (g_getR dX10_wrapsChildren_16 f15 sh34 rfl rfl) ?_
    refine Eq.trans (g_A dX10_wrapsChildren_19 rfl rfl) ?_
    refine Eq.trans (g_iald dX10_wrapsChildren_20 sh35 rfl) ?_
    refine am_ite ?_ rfl
    refine Eq.trans (g_ifeq (t := 40) dX10_wrapsChildren_21 rfl rfl) ?_
    refine am_ite ?_ ?_
    · refine Eq.trans (g_inc (v := v2 + nI 1) dX10_wrapsChildren_40 rfl (Nat.le_of_ble_eq_true rfl) rfl rfl rfl rfl) ?_
      refine Eq.trans (g_goto (pc' := 6) dX10_wrapsChildren_43 rfl) ?_
      rfl
    · refine Eq.trans (g_A dX10_wrapsChildren_24 rfl rfl) ?_
      refine Eq.trans (g_A dX10_wrapsChildren_25 rfl rfl) ?_
      refine Eq.trans (g_getR dX10_wrapsChildren_26 f15 sh34 rfl rfl) ?_
      refine Eq.trans (g_A dX10_wrapsChildren_29 rfl rfl) ?_
      refine Eq.trans (g_iald dX10_wrapsChildren_30 sh35 rfl) ?_
      refine am_ite ?_ rfl
      refine Eq.trans (g_A dX10_wrapsChildren_31 rfl rfl) ?_
      refine Eq.trans (g_getR dX10_wrapsChildren_32 f15 sh34 rfl rfl) ?_
      refine Eq.trans (g_A dX10_wrapsChildren_35 rfl rfl) ?_
      refine Eq.trans (g_iald dX10_wrapsChildren_36 sh35 rfl) ?_
      refine am_ite ?_ rfl
      refine Eq.trans (g_vV (a := 34) (as := [.int (σ.1 35 (v2 : Int32).toNatClampNeg), .int (σ.1 35 (v1 : Int32).toNatClampNeg)]) (rest := []) dX10_wrapsChildren_37 cl113 m189 rfl rfl rfl rfl (Nat.le_of_ble_eq_true rfl) rfl rfl rfl rfl) ?_
      refine am_bV_c (fun t1 => ?_)
      refine Eq.trans (g_inc (v := v2 + nI 1) dX10_wrapsChildren_40 rfl (Nat.le_of_ble_eq_true rfl) rfl rfl rfl rfl) ?_
      refine Eq.trans (g_goto (pc' := 6) dX10_wrapsChildren_43 rfl) ?_
      rfl
theorem q233_0 (C : am_C) (σ : am_M) : am_go am_X0 C M233 0 [.ref 34] [] σ = am_bI (C 226 [.ref 34] (am_wI σ 34 25 (nI 0))) (fun r1 t1 => if r1 = nI 0 then (some (.inl (some (.int (nI 0))), t1)) else (am_bI (C 229 [.ref 34] t1) (fun r2 t2 => some (.inl (some (.int r2)), t2)))) := by
  refine Eq.trans (g_A dX10_forgetCost_0 rfl rfl) ?_
  refine Eq.trans (g_K (v := nI 0) dX10_forgetCost_1 rfl rfl) ?_
  refine Eq.trans (g_put dX10_forgetCost_2 f13 sh34 rfl rfl rfl) ?_
  refine Eq.trans (g_A dX10_forgetCost_5 rfl rfl) ?_
  refine Eq.trans (g_vI (a := 34) (as := []) (rest := []) dX10_forgetCost_6 cl130 m226 rfl rfl rfl rfl (Nat.le_of_ble_eq_true rfl) rfl rfl rfl rfl) ?_
  refine am_bI_c (fun r1 t1 => ?_)
  refine Eq.trans (g_ifne (t := 16) dX10_forgetCost_9 rfl rfl) ?_
  refine am_ite ?_ ?_
  · refine Eq.trans (g_K (v := nI 0) dX10_forgetCost_12 rfl rfl) ?_
    refine Eq.trans (g_goto (pc' := 20) dX10_forgetCost_13 rfl) ?_
    exact g_iret dX10_forgetCost_20 rfl
  · refine Eq.trans (g_A dX10_forgetCost_16 rfl rfl) ?_
    refine Eq.trans (g_vI (a := 34) (as := []) (rest := []) dX10_forgetCost_17 cl132 m229 rfl rfl rfl rfl (Nat.le_of_ble_eq_true rfl) rfl rfl rfl rfl) ?_
    refine am_bI_c (fun r2 t2 => ?_)
    exact g_iret dX10_forgetCost_20 rfl
theorem q234_0 (C : am_C) (σ : am_M) (v1 : Int32) : am_go am_X0 C M234 0 [.ref 34, .int v1, .null, .null] [] σ = am_bI (C 182 [.int v1] σ) (fun r1 t1 => if r1 = nI 0 then (am_go am_X0 C M234 35 [.ref 34, .int v1, .null, .null] [.int (nI 1), .ref 34] t1) else (if am_in v1 64 = true then (if t1.1 37 (v1 : Int32).toNatClampNeg = (-1) then (am_go am_X0 C M234 30 [.ref 34, .int v1, .null, .null] [.ref 34] t1) else (am_bI (C 223 [.ref 34, .int v1] t1) (fun r2 t2 => if r2 = nI 0 then (am_go am_X0 C M234 35 [.ref 34, .int v1, .null, .null] [.int (nI 0), .ref 34] t2) else (am_go am_X0 C M234 30 [.ref 34, .int v1, .null, .null] [.ref 34] t2)))) else none)) := by
  refine Eq.trans (g_A dX10_extraCost_0 rfl rfl) ?_
  refine Eq.trans (g_A dX10_extraCost_1 rfl rfl) ?_
  refine Eq.trans (g_sI (as := [.int v1]) (rest := [.ref 34]) dX10_extraCost_2 rfl cl114 m182 rfl rfl rfl rfl (Nat.le_of_ble_eq_true rfl) rfl rfl rfl) ?_
  refine am_bI_c (fun r1 t1 => ?_)
  refine Eq.trans (g_ifne (t := 12) dX10_extraCost_5 rfl rfl) ?_
  refine am_ite ?_ ?_
  · refine Eq.trans (g_K (v := nI 1) dX10_extraCost_8 rfl rfl) ?_
    refine Eq.trans (g_goto (pc' := 35) dX10_extraCost_9 rfl) ?_
    rfl
  · refine Eq.trans (g_A dX10_extraCost_12 rfl rfl) ?_
    refine Eq.trans (g_getR dX10_extraCost_13 f16 sh34 rfl rfl) ?_
    refine Eq.trans (g_A dX10_extraCost_16 rfl rfl) ?_
    refine Eq.trans (g_iald dX10_extraCost_17 sh37 rfl) ?_
    refine am_ite ?_ rfl
    refine Eq.trans (g_K (v := (-1)) dX10_extraCost_18 rfl rfl) ?_
    refine Eq.trans (g_iceq (t := 30) dX10_extraCost_19 rfl rfl) ?_
    refine am_ite ?_ ?_
    · rfl
    · refine Eq.trans (g_A dX10_extraCost_22 rfl rfl) ?_
      refine Eq.trans (g_A dX10_extraCost_23 rfl rfl) ?_
      refine Eq.trans (g_vI (a := 34) (as := [.int v1]) (rest := [.ref 34]) dX10_extraCost_24 cl126 m223 rfl rfl rfl rfl (Nat.le_of_ble_eq_true rfl) rfl rfl rfl rfl) ?_
      refine am_bI_c (fun r2 t2 => ?_)
      refine Eq.trans (g_ifeq (t := 34) dX10_extraCost_27 rfl rfl) ?_
      refine am_ite ?_ ?_
      · refine Eq.trans (g_K (v := nI 0) dX10_extraCost_34 rfl rfl) ?_
        rfl
      · rfl
theorem q234_30 (C : am_C) (σ : am_M) (v1 : Int32) : am_go am_X0 C M234 30 [.ref 34, .int v1, .null, .null] [.ref 34] σ = am_go am_X0 C M234 35 [.ref 34, .int v1, .null, .null] [.int (nI 2), .ref 34] σ := by
  refine Eq.trans (g_K (v := nI 2) dX10_extraCost_30 rfl rfl) ?_
  refine Eq.trans (g_goto (pc' := 35) dX10_extraCost_31 rfl) ?_
  rfl
theorem q234_35 (C : am_C) (σ : am_M) (v1 s0 : Int32) : am_go am_X0 C M234 35 [.ref 34, .int v1, .null, .null] [.int s0, .ref 34] σ = if (nI 0) < ((am_wI σ 34 25 s0).1 34 25) then (some (.inl (some (.int (nI 0))), am_wI σ 34 25 s0)) else (if am_in v1 64 = true then (if (am_wI σ 34 25 s0).1 41 (v1 : Int32).toNatClampNeg = nI 0 then (am_bI (C 226 [.ref 34] (am_wI σ 34 25 s0)) (fun r1 t1 => if r1 = nI 0 then (am_go am_X0 C M234 71 [.ref 34, .int v1, .null, .null] [.int (nI 0)] t1) else (am_bI (C 229 [.ref 34] t1) (fun r2 t2 => am_go am_X0 C M234 71 [.ref 34, .int v1, .null, .null] [.int r2] t2)))) else (some (.inl (some (.int (nI 0))), am_wI σ 34 25 s0))) else none) := by
  refine Eq.trans (g_put dX10_extraCost_35 f13 sh34 rfl rfl rfl) ?_
  refine Eq.trans (g_A dX10_extraCost_38 rfl rfl) ?_
  refine Eq.trans (g_getI dX10_extraCost_39 f13 sh34 rfl rfl) ?_
  refine Eq.trans (g_ifgt (t := 54) dX10_extraCost_42 rfl rfl) ?_
  refine am_ite ?_ ?_
  · refine Eq.trans (g_K (v := nI 0) dX10_extraCost_54 rfl rfl) ?_
    exact g_iret dX10_extraCost_55 rfl
  · refine Eq.trans (g_A dX10_extraCost_45 rfl rfl) ?_
    refine Eq.trans (g_getR dX10_extraCost_46 f17 sh34 rfl rfl) ?_
    refine Eq.trans (g_A dX10_extraCost_49 rfl rfl) ?_
    refine Eq.trans (g_bald dX10_extraCost_50 sh41 rfl) ?_
    refine am_ite ?_ rfl
    refine Eq.trans (g_ifeq (t := 56) dX10_extraCost_51 rfl rfl) ?_
    refine am_ite ?_ ?_
    · refine Eq.trans (g_A dX10_extraCost_56 rfl rfl) ?_
      refine Eq.trans (g_vI (a := 34) (as := []) (rest := []) dX10_extraCost_57 cl130 m226 rfl rfl rfl rfl (Nat.le_of_ble_eq_true rfl) rfl rfl rfl rfl) ?_
      refine am_bI_c (fun r1 t1 => ?_)
      refine Eq.trans (g_ifne (t := 67) dX10_extraCost_60 rfl rfl) ?_
      refine am_ite ?_ ?_
      · refine Eq.trans (g_K (v := nI 0) dX10_extraCost_63 rfl rfl) ?_
        refine Eq.trans (g_goto (pc' := 71) dX10_extraCost_64 rfl) ?_
        rfl
      · refine Eq.trans (g_A dX10_extraCost_67 rfl rfl) ?_
        refine Eq.trans (g_vI (a := 34) (as := []) (rest := []) dX10_extraCost_68 cl132 m229 rfl rfl rfl rfl (Nat.le_of_ble_eq_true rfl) rfl rfl rfl rfl) ?_
        refine am_bI_c (fun r2 t2 => ?_)
        rfl
    · refine Eq.trans (g_K (v := nI 0) dX10_extraCost_54 rfl rfl) ?_
      exact g_iret dX10_extraCost_55 rfl
theorem q234_71 (C : am_C) (σ : am_M) (v1 s0 : Int32) : am_go am_X0 C M234 71 [.ref 34, .int v1, .null, .null] [.int s0] σ = if am_in v1 64 = true then (am_bI (C 229 [.ref 34] (am_wI σ 41 (v1 : Int32).toNatClampNeg (vp_nar .boolean (nI 1)))) (fun r1 t1 => if am_in v1 64 = true then (some (.inl (some (.int (r1 - s0))), am_wI t1 41 (v1 : Int32).toNatClampNeg (vp_nar .boolean (nI 0)))) else none)) else none := by
  refine Eq.trans (g_isn (k := 2) dX10_extraCost_71 rfl (Nat.le_of_ble_eq_true rfl) rfl rfl rfl) ?_
  refine Eq.trans (g_A dX10_extraCost_72 rfl rfl) ?_
  refine Eq.trans (g_getR dX10_extraCost_73 f17 sh34 rfl rfl) ?_
  refine Eq.trans (g_A dX10_extraCost_76 rfl rfl) ?_
  refine Eq.trans (g_K (v := nI 1) dX10_extraCost_77 rfl rfl) ?_
  refine Eq.trans (g_bast dX10_extraCost_78 sh41 rfl) ?_
  refine am_ite ?_ rfl
  refine Eq.trans (g_A dX10_extraCost_79 rfl rfl) ?_
  refine Eq.trans (g_vI (a := 34) (as := []) (rest := []) dX10_extraCost_80 cl132 m229 rfl rfl rfl rfl (Nat.le_of_ble_eq_true rfl) rfl rfl rfl rfl) ?_
  refine am_bI_c (fun r1 t1 => ?_)
  refine Eq.trans (g_isn (k := 3) dX10_extraCost_83 rfl (Nat.le_of_ble_eq_true rfl) rfl rfl rfl) ?_
  refine Eq.trans (g_A dX10_extraCost_84 rfl rfl) ?_
  refine Eq.trans (g_getR dX10_extraCost_85 f17 sh34 rfl rfl) ?_
  refine Eq.trans (g_A dX10_extraCost_88 rfl rfl) ?_
  refine Eq.trans (g_K (v := nI 0) dX10_extraCost_89 rfl rfl) ?_
  refine Eq.trans (g_bast dX10_extraCost_90 sh41 rfl) ?_
  refine am_ite ?_ rfl
  refine Eq.trans (g_A dX10_extraCost_91 rfl rfl) ?_
  refine Eq.trans (g_A dX10_extraCost_92 rfl rfl) ?_
  refine Eq.trans (g_isub dX10_extraCost_93 rfl) ?_
  exact g_iret dX10_extraCost_94 rfl
theorem q235_0 (C : am_C) (σ : am_M) (v1 : Int32) : am_go am_X0 C M235 0 [.ref 34, .int v1, .null, .null, .null, .null] [] σ = am_bI (C 173 [.long ((v1 : Int32).toInt64), .long (0 : Int64), .long (2)] σ) (fun r1 t1 => if r1 = nI 0 then (am_go am_X0 C M235 18 [.ref 34, .int v1, .null, .null, .null, .null] [.int (nI 1), .ref 34] t1) else (am_go am_X0 C M235 18 [.ref 34, .int v1, .null, .null, .null, .null] [.int (nI 0), .ref 34] t1)) := by
  refine Eq.trans (g_A dX10_rekeyed_0 rfl rfl) ?_
  refine Eq.trans (g_A dX10_rekeyed_1 rfl rfl) ?_
  refine Eq.trans (g_i2l dX10_rekeyed_2 rfl) ?_
  refine Eq.trans (g_KJ (v := (0 : Int64)) dX10_rekeyed_3 rfl rfl) ?_
  refine Eq.trans (g_ld2 dX10_rekeyed_4 kj4 rfl) ?_
  refine Eq.trans (g_sI (as := [.long ((v1 : Int32).toInt64), .long (0 : Int64), .long (2)]) (rest := [.ref 34]) dX10_rekeyed_7 rfl cl101 m173 rfl rfl rfl rfl (Nat.le_of_ble_eq_true rfl) rfl rfl rfl) ?_
  refine am_bI_c (fun r1 t1 => ?_)
  refine Eq.trans (g_ifeq (t := 17) dX10_rekeyed_10 rfl rfl) ?_
  refine am_ite ?_ ?_
  · refine Eq.trans (g_K (v := nI 1) dX10_rekeyed_17 rfl rfl) ?_
    rfl
  · refine Eq.trans (g_K (v := nI 0) dX10_rekeyed_13 rfl rfl) ?_
    refine Eq.trans (g_goto (pc' := 18) dX10_rekeyed_14 rfl) ?_
    rfl
theorem q235_18 (C : am_C) (σ : am_M) (v1 s0 : Int32) : am_go am_X0 C M235 18 [.ref 34, .int v1, .null, .null, .null, .null] [.int s0, .ref 34] σ = if (nI 0) < ((am_wI σ 34 25 s0).1 34 25) then (some (.inl (some (.int (nI 0))), am_wI σ 34 25 s0)) else (am_bI (C 226 [.ref 34] (am_wI σ 34 25 s0)) (fun r1 t1 => if r1 = nI 0 then (some (.inl (some (.int (nI 0))), t1)) else (am_bI (C 229 [.ref 34] t1) (fun r2 t2 => if v1 = nI 0 then (am_go am_X0 C M235 67 [.ref 34, .int v1, .int r2, .int (nI 0), .int (nI 0), .int (nI 0)] [] t2) else (if v1 = nI 1 then (am_go am_X0 C M235 67 [.ref 34, .int v1, .int r2, .int (nI 1), .int (nI 0), .int (nI 1)] [] t2) else (am_go am_X0 C M235 67 [.ref 34, .int v1, .int r2, .int (nI 5), .int (nI 0), .int (nI 5)] [] t2)))))) := by
  refine Eq.trans (g_put dX10_rekeyed_18 f13 sh34 rfl rfl rfl) ?_
  refine Eq.trans (g_A dX10_rekeyed_21 rfl rfl) ?_
  refine Eq.trans (g_getI dX10_rekeyed_22 f13 sh34 rfl rfl) ?_
  refine Eq.trans (g_ifgt (t := 35) dX10_rekeyed_25 rfl rfl) ?_
  refine am_ite ?_ ?_
  · refine Eq.trans (g_K (v := nI 0) dX10_rekeyed_35 rfl rfl) ?_
    exact g_iret dX10_rekeyed_36 rfl
  · refine Eq.trans (g_A dX10_rekeyed_28 rfl rfl) ?_
    refine Eq.trans (g_vI (a := 34) (as := []) (rest := []) dX10_rekeyed_29 cl130 m226 rfl rfl rfl rfl (Nat.le_of_ble_eq_true rfl) rfl rfl rfl rfl) ?_
    refine am_bI_c (fun r1 t1 => ?_)
    refine Eq.trans (g_ifne (t := 37) dX10_rekeyed_32 rfl rfl) ?_
    refine am_ite ?_ ?_
    · refine Eq.trans (g_K (v := nI 0) dX10_rekeyed_35 rfl rfl) ?_
      exact g_iret dX10_rekeyed_36 rfl
    · refine Eq.trans (g_A dX10_rekeyed_37 rfl rfl) ?_
      refine Eq.trans (g_vI (a := 34) (as := []) (rest := []) dX10_rekeyed_38 cl132 m229 rfl rfl rfl rfl (Nat.le_of_ble_eq_true rfl) rfl rfl rfl rfl) ?_
      refine am_bI_c (fun r2 t2 => ?_)
      refine Eq.trans (g_isn (k := 2) dX10_rekeyed_41 rfl (Nat.le_of_ble_eq_true rfl) rfl rfl rfl) ?_
      refine Eq.trans (g_A dX10_rekeyed_42 rfl rfl) ?_
      refine Eq.trans (g_ifne (t := 50) dX10_rekeyed_43 rfl rfl) ?_
      refine am_ite ?_ ?_
      · refine Eq.trans (g_K (v := nI 0) dX10_rekeyed_46 rfl rfl) ?_
        refine Eq.trans (g_goto (pc' := 60) dX10_rekeyed_47 rfl) ?_
        refine Eq.trans (g_isn (k := 3) dX10_rekeyed_60 rfl (Nat.le_of_ble_eq_true rfl) rfl rfl rfl) ?_
        refine Eq.trans (g_K (v := nI 0) dX10_rekeyed_61 rfl rfl) ?_
        refine Eq.trans (g_ist (k := 4) dX10_rekeyed_62 (Nat.le_of_ble_eq_true rfl) rfl rfl rfl) ?_
        refine Eq.trans (g_A dX10_rekeyed_64 rfl rfl) ?_
        refine Eq.trans (g_ist (k := 5) dX10_rekeyed_65 (Nat.le_of_ble_eq_true rfl) rfl rfl rfl) ?_
        rfl
      · refine Eq.trans (g_A dX10_rekeyed_50 rfl rfl) ?_
        refine Eq.trans (g_K (v := nI 1) dX10_rekeyed_51 rfl rfl) ?_
        refine Eq.trans (g_icne (t := 59) dX10_rekeyed_52 rfl rfl) ?_
        refine am_ite ?_ ?_
        · refine Eq.trans (g_K (v := nI 1) dX10_rekeyed_55 rfl rfl) ?_
          refine Eq.trans (g_goto (pc' := 60) dX10_rekeyed_56 rfl) ?_
          refine Eq.trans (g_isn (k := 3) dX10_rekeyed_60 rfl (Nat.le_of_ble_eq_true rfl) rfl rfl rfl) ?_
          refine Eq.trans (g_K (v := nI 0) dX10_rekeyed_61 rfl rfl) ?_
          refine Eq.trans (g_ist (k := 4) dX10_rekeyed_62 (Nat.le_of_ble_eq_true rfl) rfl rfl rfl) ?_
          refine Eq.trans (g_A dX10_rekeyed_64 rfl rfl) ?_
          refine Eq.trans (g_ist (k := 5) dX10_rekeyed_65 (Nat.le_of_ble_eq_true rfl) rfl rfl rfl) ?_
          rfl
        · refine Eq.trans (g_K (v := nI 5) dX10_rekeyed_59 rfl rfl) ?_
          refine Eq.trans (g_isn (k := 3) dX10_rekeyed_60 rfl (Nat.le_of_ble_eq_true rfl) rfl rfl rfl) ?_
          refine Eq.trans (g_K (v := nI 0) dX10_rekeyed_61 rfl rfl) ?_
          refine Eq.trans (g_ist (k := 4) dX10_rekeyed_62 (Nat.le_of_ble_eq_true rfl) rfl rfl rfl) ?_
          refine Eq.trans (g_A dX10_rekeyed_64 rfl rfl) ?_
          refine Eq.trans (g_ist (k := 5) dX10_rekeyed_65 (Nat.le_of_ble_eq_true rfl) rfl rfl rfl) ?_
          rfl
theorem q235_67 (C : am_C) (σ : am_M) (v1 v2 v3 v4 v5 : Int32) : am_go am_X0 C M235 67 [.ref 34, .int v1, .int v2, .int v3, .int v4, .int v5] [] σ = if (((nI 4) * v3) + (nI 1)) ≤ v5 then (some (.inl (some (.int v4)), σ)) else (if am_in v5 85 = true then (if σ.1 42 (v5 : Int32).toNatClampNeg = nI 0 then (am_go am_X0 C M235 67 [.ref 34, .int v1, .int v2, .int v3, .int (v4 ||| (nI 0)), .int (v5 + nI 1)] [] σ) else (am_go am_X0 C M235 67 [.ref 34, .int v1, .int v2, .int v3, .int (v4 ||| ((nI 1) <<< ((v5 - v3) &&& 31))), .int (v5 + nI 1)] [] σ)) else none) := by
  refine Eq.trans (g_A dX10_rekeyed_67 rfl rfl) ?_
  refine Eq.trans (g_K (v := nI 4) dX10_rekeyed_69 rfl rfl) ?_
  refine Eq.trans (g_A dX10_rekeyed_70 rfl rfl) ?_
  refine Eq.trans (g_imul dX10_rekeyed_71 rfl) ?_
  refine Eq.trans (g_K (v := nI 1) dX10_rekeyed_72 rfl rfl) ?_
  refine Eq.trans (g_iadd dX10_rekeyed_73 rfl) ?_
  refine Eq.trans (g_icge (t := 108) dX10_rekeyed_74 rfl rfl) ?_
  refine am_ite ?_ ?_
  · refine Eq.trans (g_A dX10_rekeyed_108 rfl rfl) ?_
    exact g_iret dX10_rekeyed_110 rfl
  · refine Eq.trans (g_A dX10_rekeyed_77 rfl rfl) ?_
    refine Eq.trans (g_A dX10_rekeyed_79 rfl rfl) ?_
    refine Eq.trans (g_getR dX10_rekeyed_80 f39 sh34 rfl rfl) ?_
    refine Eq.trans (g_A dX10_rekeyed_83 rfl rfl) ?_
    refine Eq.trans (g_bald dX10_rekeyed_85 sh42 rfl) ?_
    refine am_ite ?_ rfl
    refine Eq.trans (g_ifeq (t := 98) dX10_rekeyed_86 rfl rfl) ?_
    refine am_ite ?_ ?_
    · refine Eq.trans (g_K (v := nI 0) dX10_rekeyed_98 rfl rfl) ?_
      refine Eq.trans (g_ior dX10_rekeyed_99 rfl) ?_
      refine Eq.trans (g_ist (k := 4) dX10_rekeyed_100 (Nat.le_of_ble_eq_true rfl) rfl rfl rfl) ?_
      refine Eq.trans (g_inc (v := v5 + nI 1) dX10_rekeyed_102 rfl (Nat.le_of_ble_eq_true rfl) rfl rfl rfl rfl) ?_
      refine Eq.trans (g_goto (pc' := 67) dX10_rekeyed_105 rfl) ?_
      rfl
    · refine Eq.trans (g_K (v := nI 1) dX10_rekeyed_89 rfl rfl) ?_
      refine Eq.trans (g_A dX10_rekeyed_90 rfl rfl) ?_
      refine Eq.trans (g_A dX10_rekeyed_92 rfl rfl) ?_
      refine Eq.trans (g_isub dX10_rekeyed_93 rfl) ?_
      refine Eq.trans (g_ishl dX10_rekeyed_94 rfl) ?_
      refine Eq.trans (g_goto (pc' := 99) dX10_rekeyed_95 rfl) ?_
      refine Eq.trans (g_ior dX10_rekeyed_99 rfl) ?_
      refine Eq.trans (g_ist (k := 4) dX10_rekeyed_100 (Nat.le_of_ble_eq_true rfl) rfl rfl rfl) ?_
      refine Eq.trans (g_inc (v := v5 + nI 1) dX10_rekeyed_102 rfl (Nat.le_of_ble_eq_true rfl) rfl rfl rfl rfl) ?_
      refine Eq.trans (g_goto (pc' := 67) dX10_rekeyed_105 rfl) ?_
      rfl
theorem q236_0 (C : am_C) (σ : am_M) (v1 : Int32) : am_go am_X0 C M236 0 [.ref 34, .int v1] [] σ = am_bI (C 183 [.int v1] σ) (fun r1 t1 => if r1 = nI 0 then (am_go am_X0 C M236 13 [.ref 34, .int v1] [.int (nI 1), .ref 34] t1) else (am_go am_X0 C M236 13 [.ref 34, .int v1] [.int (nI 0), .ref 34] t1)) := by
  refine Eq.trans (g_A dX10_key_0 rfl rfl) ?_
  refine Eq.trans (g_A dX10_key_1 rfl rfl) ?_
  refine Eq.trans (g_sI (as := [.int v1]) (rest := [.ref 34]) dX10_key_2 rfl cl128 m183 rfl rfl rfl rfl (Nat.le_of_ble_eq_true rfl) rfl rfl rfl) ?_
  refine am_bI_c (fun r1 t1 => ?_)
  refine Eq.trans (g_ifeq (t := 12) dX10_key_5 rfl rfl) ?_
  refine am_ite ?_ ?_
  · refine Eq.trans (g_K (v := nI 1) dX10_key_12 rfl rfl) ?_
    rfl
  · refine Eq.trans (g_K (v := nI 0) dX10_key_8 rfl rfl) ?_
    refine Eq.trans (g_goto (pc' := 13) dX10_key_9 rfl) ?_
    rfl
theorem q236_13 (C : am_C) (σ : am_M) (v1 s0 : Int32) : am_go am_X0 C M236 13 [.ref 34, .int v1] [.int s0, .ref 34] σ = if ((am_wI σ 34 25 s0).1 34 25) ≤ (nI 0) then (if am_in v1 85 = true then (if (am_wI σ 34 25 s0).1 35 (v1 : Int32).toNatClampNeg = nI 0 then (some (.inl (some (.int (-1))), am_wI σ 34 25 s0)) else (if am_in v1 85 = true then (some (.inl (some (.int ((am_wI σ 34 25 s0).1 35 (v1 : Int32).toNatClampNeg))), am_wI σ 34 25 s0)) else none)) else none) else (some (.inl (some (.int (nI 0))), am_wI σ 34 25 s0)) := by
  refine Eq.trans (g_put dX10_key_13 f13 sh34 rfl rfl rfl) ?_
  refine Eq.trans (g_A dX10_key_16 rfl rfl) ?_
  refine Eq.trans (g_getI dX10_key_17 f13 sh34 rfl rfl) ?_
  refine Eq.trans (g_ifle (t := 27) dX10_key_20 rfl rfl) ?_
  refine am_ite ?_ ?_
  · refine Eq.trans (g_A dX10_key_27 rfl rfl) ?_
    refine Eq.trans (g_getR dX10_key_28 f15 sh34 rfl rfl) ?_
    refine Eq.trans (g_A dX10_key_31 rfl rfl) ?_
    refine Eq.trans (g_iald dX10_key_32 sh35 rfl) ?_
    refine am_ite ?_ rfl
    refine Eq.trans (g_ifne (t := 40) dX10_key_33 rfl rfl) ?_
    refine am_ite ?_ ?_
    · refine Eq.trans (g_K (v := (-1)) dX10_key_36 rfl rfl) ?_
      refine Eq.trans (g_goto (pc' := 46) dX10_key_37 rfl) ?_
      exact g_iret dX10_key_46 rfl
    · refine Eq.trans (g_A dX10_key_40 rfl rfl) ?_
      refine Eq.trans (g_getR dX10_key_41 f15 sh34 rfl rfl) ?_
      refine Eq.trans (g_A dX10_key_44 rfl rfl) ?_
      refine Eq.trans (g_iald dX10_key_45 sh35 rfl) ?_
      refine am_ite ?_ rfl
      exact g_iret dX10_key_46 rfl
  · refine Eq.trans (g_K (v := nI 0) dX10_key_23 rfl rfl) ?_
    refine Eq.trans (g_goto (pc' := 46) dX10_key_24 rfl) ?_
    exact g_iret dX10_key_46 rfl
theorem q237_0 (C : am_C) (σ : am_M) (v1 : Int32) : am_go am_X0 C M237 0 [.ref 34, .int v1] [] σ = am_bI (C 173 [.long ((v1 : Int32).toInt64), .long (1 : Int64), .long ((σ.1 34 21 : Int32).toInt64)] σ) (fun r1 t1 => if r1 = nI 0 then (am_go am_X0 C M237 20 [.ref 34, .int v1] [.int (nI 1), .ref 34] t1) else (am_go am_X0 C M237 20 [.ref 34, .int v1] [.int (nI 0), .ref 34] t1)) := by
  refine Eq.trans (g_A dX10_keyValue_0 rfl rfl) ?_
  refine Eq.trans (g_A dX10_keyValue_1 rfl rfl) ?_
  refine Eq.trans (g_i2l dX10_keyValue_2 rfl) ?_
  refine Eq.trans (g_KJ (v := (1 : Int64)) dX10_keyValue_3 rfl rfl) ?_
  refine Eq.trans (g_A dX10_keyValue_4 rfl rfl) ?_
  refine Eq.trans (g_getI dX10_keyValue_5 f26 sh34 rfl rfl) ?_
  refine Eq.trans (g_i2l dX10_keyValue_8 rfl) ?_
  refine Eq.trans (g_sI (as := [.long ((v1 : Int32).toInt64), .long (1 : Int64), .long ((σ.1 34 21 : Int32).toInt64)]) (rest := [.ref 34]) dX10_keyValue_9 rfl cl101 m173 rfl rfl rfl rfl (Nat.le_of_ble_eq_true rfl) rfl rfl rfl) ?_
  refine am_bI_c (fun r1 t1 => ?_)
  refine Eq.trans (g_ifeq (t := 19) dX10_keyValue_12 rfl rfl) ?_
  refine am_ite ?_ ?_
  · refine Eq.trans (g_K (v := nI 1) dX10_keyValue_19 rfl rfl) ?_
    rfl
  · refine Eq.trans (g_K (v := nI 0) dX10_keyValue_15 rfl rfl) ?_
    refine Eq.trans (g_goto (pc' := 20) dX10_keyValue_16 rfl) ?_
    rfl
theorem q237_20 (C : am_C) (σ : am_M) (v1 s0 : Int32) : am_go am_X0 C M237 20 [.ref 34, .int v1] [.int s0, .ref 34] σ = if ((am_wI σ 34 25 s0).1 34 25) ≤ (nI 0) then (am_bI (C 178 [.ref 34, .int v1] (am_wI σ 34 25 s0)) (fun r1 t1 => some (.inl (some (.int r1)), t1))) else (some (.inl (some (.int (nI 0))), am_wI σ 34 25 s0)) := by
  refine Eq.trans (g_put dX10_keyValue_20 f13 sh34 rfl rfl rfl) ?_
  refine Eq.trans (g_A dX10_keyValue_23 rfl rfl) ?_
  refine Eq.trans (g_getI dX10_keyValue_24 f13 sh34 rfl rfl) ?_
  refine Eq.trans (g_ifle (t := 34) dX10_keyValue_27 rfl rfl) ?_
  refine am_ite ?_ ?_
  · refine Eq.trans (g_A dX10_keyValue_34 rfl rfl) ?_
    refine Eq.trans (g_A dX10_keyValue_35 rfl rfl) ?_
    refine Eq.trans (g_vI (a := 34) (as := [.int v1]) (rest := []) dX10_keyValue_36 cl103 m178 rfl rfl rfl rfl (Nat.le_of_ble_eq_true rfl) rfl rfl rfl rfl) ?_
    refine am_bI_c (fun r1 t1 => ?_)
    exact g_iret dX10_keyValue_39 rfl
  · refine Eq.trans (g_K (v := nI 0) dX10_keyValue_30 rfl rfl) ?_
    refine Eq.trans (g_goto (pc' := 39) dX10_keyValue_31 rfl) ?_
    exact g_iret dX10_keyValue_39 rfl
theorem q238_0 (C : am_C) (σ : am_M) (v1 v2 : Int32) : am_go am_X0 C M238 0 [.ref 34, .int v1, .int v2] [] σ = am_bI (C 208 [.int v1] σ) (fun r1 t1 => if r1 = nI 0 then (am_go am_X0 C M238 15 [.ref 34, .int v1, .int v2] [.ref 34] t1) else (am_bI (C 183 [.int v2] t1) (fun r2 t2 => if r2 = nI 0 then (am_go am_X0 C M238 15 [.ref 34, .int v1, .int v2] [.ref 34] t2) else (if am_in v2 85 = true then (if t2.1 35 (v2 : Int32).toNatClampNeg = nI 0 then (am_go am_X0 C M238 33 [.ref 34, .int v1, .int v2] [.int (nI 2), .ref 34] t2) else (am_go am_X0 C M238 33 [.ref 34, .int v1, .int v2] [.int (nI 0), .ref 34] t2)) else none)))) := by
  refine Eq.trans (g_A dX10_keep_0 rfl rfl) ?_
  refine Eq.trans (g_A dX10_keep_1 rfl rfl) ?_
  refine Eq.trans (g_sI (as := [.int v1]) (rest := [.ref 34]) dX10_keep_2 rfl cl120 m208 rfl rfl rfl rfl (Nat.le_of_ble_eq_true rfl) rfl rfl rfl) ?_
  refine am_bI_c (fun r1 t1 => ?_)
  refine Eq.trans (g_ifeq (t := 15) dX10_keep_5 rfl rfl) ?_
  refine am_ite ?_ ?_
  · rfl
  · refine Eq.trans (g_A dX10_keep_8 rfl rfl) ?_
    refine Eq.trans (g_sI (as := [.int v2]) (rest := [.ref 34]) dX10_keep_9 rfl cl128 m183 rfl rfl rfl rfl (Nat.le_of_ble_eq_true rfl) rfl rfl rfl) ?_
    refine am_bI_c (fun r2 t2 => ?_)
    refine Eq.trans (g_ifne (t := 19) dX10_keep_12 rfl rfl) ?_
    refine am_ite ?_ ?_
    · rfl
    · refine Eq.trans (g_A dX10_keep_19 rfl rfl) ?_
      refine Eq.trans (g_getR dX10_keep_20 f15 sh34 rfl rfl) ?_
      refine Eq.trans (g_A dX10_keep_23 rfl rfl) ?_
      refine Eq.trans (g_iald dX10_keep_24 sh35 rfl) ?_
      refine am_ite ?_ rfl
      refine Eq.trans (g_ifne (t := 32) dX10_keep_25 rfl rfl) ?_
      refine am_ite ?_ ?_
      · refine Eq.trans (g_K (v := nI 2) dX10_keep_28 rfl rfl) ?_
        refine Eq.trans (g_goto (pc' := 33) dX10_keep_29 rfl) ?_
        rfl
      · refine Eq.trans (g_K (v := nI 0) dX10_keep_32 rfl rfl) ?_
        rfl
theorem q238_15 (C : am_C) (σ : am_M) (v1 v2 : Int32) : am_go am_X0 C M238 15 [.ref 34, .int v1, .int v2] [.ref 34] σ = am_go am_X0 C M238 33 [.ref 34, .int v1, .int v2] [.int (nI 1), .ref 34] σ := by
  refine Eq.trans (g_K (v := nI 1) dX10_keep_15 rfl rfl) ?_
  refine Eq.trans (g_goto (pc' := 33) dX10_keep_16 rfl) ?_
  rfl
theorem q238_33 (C : am_C) (σ : am_M) (v1 v2 s0 : Int32) : am_go am_X0 C M238 33 [.ref 34, .int v1, .int v2] [.int s0, .ref 34] σ = if ((am_wI σ 34 25 s0).1 34 25) ≤ (nI 0) then (if am_in v2 85 = true then (if am_in v1 4 = true then (if am_in v1 4 = true then (if am_in v2 85 = true then (some (.inl (some (.int ((am_wI (am_wI (am_wI σ 34 25 s0) 39 (v1 : Int32).toNatClampNeg ((am_wI σ 34 25 s0).1 35 (v2 : Int32).toNatClampNeg)) 40 (v1 : Int32).toNatClampNeg v2).1 35 (v2 : Int32).toNatClampNeg))), am_wI (am_wI (am_wI σ 34 25 s0) 39 (v1 : Int32).toNatClampNeg ((am_wI σ 34 25 s0).1 35 (v2 : Int32).toNatClampNeg)) 40 (v1 : Int32).toNatClampNeg v2)) else none) else none) else none) else none) else (some (.inl (some (.int (nI 0))), am_wI σ 34 25 s0)) := by
  refine Eq.trans (g_put dX10_keep_33 f13 sh34 rfl rfl rfl) ?_
  refine Eq.trans (g_A dX10_keep_36 rfl rfl) ?_
  refine Eq.trans (g_getI dX10_keep_37 f13 sh34 rfl rfl) ?_
  refine Eq.trans (g_ifle (t := 45) dX10_keep_40 rfl rfl) ?_
  refine am_ite ?_ ?_
  · refine Eq.trans (g_A dX10_keep_45 rfl rfl) ?_
    refine Eq.trans (g_getR dX10_keep_46 f19 sh34 rfl rfl) ?_
    refine Eq.trans (g_A dX10_keep_49 rfl rfl) ?_
    refine Eq.trans (g_A dX10_keep_50 rfl rfl) ?_
    refine Eq.trans (g_getR dX10_keep_51 f15 sh34 rfl rfl) ?_
    refine Eq.trans (g_A dX10_keep_54 rfl rfl) ?_
    refine Eq.trans (g_iald dX10_keep_55 sh35 rfl) ?_
    refine am_ite ?_ rfl
    refine Eq.trans (g_iast dX10_keep_56 sh39 rfl) ?_
    refine am_ite ?_ rfl
    refine Eq.trans (g_A dX10_keep_57 rfl rfl) ?_
    refine Eq.trans (g_getR dX10_keep_58 f40 sh34 rfl rfl) ?_
    refine Eq.trans (g_A dX10_keep_61 rfl rfl) ?_
    refine Eq.trans (g_A dX10_keep_62 rfl rfl) ?_
    refine Eq.trans (g_iast dX10_keep_63 sh40 rfl) ?_
    refine am_ite ?_ rfl
    refine Eq.trans (g_A dX10_keep_64 rfl rfl) ?_
    refine Eq.trans (g_getR dX10_keep_65 f15 sh34 rfl rfl) ?_
    refine Eq.trans (g_A dX10_keep_68 rfl rfl) ?_
    refine Eq.trans (g_iald dX10_keep_69 sh35 rfl) ?_
    refine am_ite ?_ rfl
    exact g_iret dX10_keep_70 rfl
  · refine Eq.trans (g_K (v := nI 0) dX10_keep_43 rfl rfl) ?_
    exact g_iret dX10_keep_44 rfl
theorem q239_0 (C : am_C) (σ : am_M) (v1 : Int32) : am_go am_X0 C M239 0 [.ref 34, .int v1, .null] [] σ = am_bI (C 208 [.int v1] σ) (fun r1 t1 => if r1 = nI 0 then (am_go am_X0 C M239 13 [.ref 34, .int v1, .null] [.int (nI 1), .ref 34] t1) else (am_go am_X0 C M239 13 [.ref 34, .int v1, .null] [.int (nI 0), .ref 34] t1)) := by
  refine Eq.trans (g_A dX10_drop_0 rfl rfl) ?_
  refine Eq.trans (g_A dX10_drop_1 rfl rfl) ?_
  refine Eq.trans (g_sI (as := [.int v1]) (rest := [.ref 34]) dX10_drop_2 rfl cl120 m208 rfl rfl rfl rfl (Nat.le_of_ble_eq_true rfl) rfl rfl rfl) ?_
  refine am_bI_c (fun r1 t1 => ?_)
  refine Eq.trans (g_ifeq (t := 12) dX10_drop_5 rfl rfl) ?_
  refine am_ite ?_ ?_
  · refine Eq.trans (g_K (v := nI 1) dX10_drop_12 rfl rfl) ?_
    rfl
  · refine Eq.trans (g_K (v := nI 0) dX10_drop_8 rfl rfl) ?_
    refine Eq.trans (g_goto (pc' := 13) dX10_drop_9 rfl) ?_
    rfl
theorem q239_13 (C : am_C) (σ : am_M) (v1 s0 : Int32) : am_go am_X0 C M239 13 [.ref 34, .int v1, .null] [.int s0, .ref 34] σ = if ((am_wI σ 34 25 s0).1 34 25) ≤ (nI 0) then (if am_in v1 4 = true then (if (am_wI σ 34 25 s0).1 39 (v1 : Int32).toNatClampNeg = nI 0 then (am_go am_X0 C M239 44 [.ref 34, .int v1, .null] [.int (-1)] (am_wI σ 34 25 s0)) else (if am_in v1 4 = true then (am_go am_X0 C M239 44 [.ref 34, .int v1, .null] [.int ((am_wI σ 34 25 s0).1 39 (v1 : Int32).toNatClampNeg)] (am_wI σ 34 25 s0)) else none)) else none) else (some (.inl (some (.int (nI 0))), am_wI σ 34 25 s0)) := by
  refine Eq.trans (g_put dX10_drop_13 f13 sh34 rfl rfl rfl) ?_
  refine Eq.trans (g_A dX10_drop_16 rfl rfl) ?_
  refine Eq.trans (g_getI dX10_drop_17 f13 sh34 rfl rfl) ?_
  refine Eq.trans (g_ifle (t := 25) dX10_drop_20 rfl rfl) ?_
  refine am_ite ?_ ?_
  · refine Eq.trans (g_A dX10_drop_25 rfl rfl) ?_
    refine Eq.trans (g_getR dX10_drop_26 f19 sh34 rfl rfl) ?_
    refine Eq.trans (g_A dX10_drop_29 rfl rfl) ?_
    refine Eq.trans (g_iald dX10_drop_30 sh39 rfl) ?_
    refine am_ite ?_ rfl
    refine Eq.trans (g_ifne (t := 38) dX10_drop_31 rfl rfl) ?_
    refine am_ite ?_ ?_
    · refine Eq.trans (g_K (v := (-1)) dX10_drop_34 rfl rfl) ?_
      refine Eq.trans (g_goto (pc' := 44) dX10_drop_35 rfl) ?_
      rfl
    · refine Eq.trans (g_A dX10_drop_38 rfl rfl) ?_
      refine Eq.trans (g_getR dX10_drop_39 f19 sh34 rfl rfl) ?_
      refine Eq.trans (g_A dX10_drop_42 rfl rfl) ?_
      refine Eq.trans (g_iald dX10_drop_43 sh39 rfl) ?_
      refine am_ite ?_ rfl
      rfl
  · refine Eq.trans (g_K (v := nI 0) dX10_drop_23 rfl rfl) ?_
    exact g_iret dX10_drop_24 rfl
theorem q239_44 (C : am_C) (σ : am_M) (v1 s0 : Int32) : am_go am_X0 C M239 44 [.ref 34, .int v1, .null] [.int s0] σ = if am_in v1 4 = true then (some (.inl (some (.int s0)), am_wI σ 39 (v1 : Int32).toNatClampNeg (nI 0))) else none := by
  refine Eq.trans (g_isn (k := 2) dX10_drop_44 rfl (Nat.le_of_ble_eq_true rfl) rfl rfl rfl) ?_
  refine Eq.trans (g_A dX10_drop_45 rfl rfl) ?_
  refine Eq.trans (g_getR dX10_drop_46 f19 sh34 rfl rfl) ?_
  refine Eq.trans (g_A dX10_drop_49 rfl rfl) ?_
  refine Eq.trans (g_K (v := nI 0) dX10_drop_50 rfl rfl) ?_
  refine Eq.trans (g_iast dX10_drop_51 sh39 rfl) ?_
  refine am_ite ?_ rfl
  refine Eq.trans (g_A dX10_drop_52 rfl rfl) ?_
  exact g_iret dX10_drop_53 rfl
theorem q240_0 (C : am_C) (σ : am_M) (v1 v2 : Int32) : am_go am_X0 C M240 0 [.ref 34, .int v1, .int v2, .null, .null] [] σ = am_bV (C 196 [.ref 34, .int v1] (am_wI σ 34 27 (nI 0))) (fun t1 => am_bV (C 198 [.ref 34, .int (nI 0)] t1) (fun t2 => am_go am_X0 C M240 20 [.ref 34, .int v1, .int v2, .int (nI 0), .int (nI 0)] [] t2)) := by
  refine Eq.trans (g_A dX10_opensBy_0 rfl rfl) ?_
  refine Eq.trans (g_K (v := nI 0) dX10_opensBy_1 rfl rfl) ?_
  refine Eq.trans (g_put dX10_opensBy_2 f31 sh34 rfl rfl rfl) ?_
  refine Eq.trans (g_A dX10_opensBy_5 rfl rfl) ?_
  refine Eq.trans (g_A dX10_opensBy_6 rfl rfl) ?_
  refine Eq.trans (g_vV (a := 34) (as := [.int v1]) (rest := []) dX10_opensBy_7 cl109 m196 rfl rfl rfl rfl (Nat.le_of_ble_eq_true rfl) rfl rfl rfl rfl) ?_
  refine am_bV_c (fun t1 => ?_)
  refine Eq.trans (g_A dX10_opensBy_10 rfl rfl) ?_
  refine Eq.trans (g_K (v := nI 0) dX10_opensBy_11 rfl rfl) ?_
  refine Eq.trans (g_vV (a := 34) (as := [.int (nI 0)]) (rest := []) dX10_opensBy_12 cl111 m198 rfl rfl rfl rfl (Nat.le_of_ble_eq_true rfl) rfl rfl rfl rfl) ?_
  refine am_bV_c (fun t2 => ?_)
  refine Eq.trans (g_K (v := nI 0) dX10_opensBy_15 rfl rfl) ?_
  refine Eq.trans (g_isn (k := 3) dX10_opensBy_16 rfl (Nat.le_of_ble_eq_true rfl) rfl rfl rfl) ?_
  refine Eq.trans (g_K (v := nI 0) dX10_opensBy_17 rfl rfl) ?_
  refine Eq.trans (g_ist (k := 4) dX10_opensBy_18 (Nat.le_of_ble_eq_true rfl) rfl rfl rfl) ?_
  rfl
theorem q240_20 (C : am_C) (σ : am_M) (v1 v2 v3 v4 : Int32) : am_go am_X0 C M240 20 [.ref 34, .int v1, .int v2, .int v3, .int v4] [] σ = if (σ.1 34 23) ≤ v4 then (some (.inl (some (.int v3)), σ)) else (if am_in v4 200 = true then (if σ.1 51 (v4 : Int32).toNatClampNeg = (-1) then (am_go am_X0 C M240 46 [.ref 34, .int v1, .int v2, .int v3, .int v4] [.int (nI 0), .int v3] σ) else (am_go am_X0 C M240 46 [.ref 34, .int v1, .int v2, .int v3, .int v4] [.int (nI 1), .int v3] σ)) else none) := by
  refine Eq.trans (g_A dX10_opensBy_20 rfl rfl) ?_
  refine Eq.trans (g_A dX10_opensBy_22 rfl rfl) ?_
  refine Eq.trans (g_getI dX10_opensBy_23 f25 sh34 rfl rfl) ?_
  refine Eq.trans (g_icge (t := 72) dX10_opensBy_26 rfl rfl) ?_
  refine am_ite ?_ ?_
  · refine Eq.trans (g_A dX10_opensBy_72 rfl rfl) ?_
    exact g_iret dX10_opensBy_73 rfl
  · refine Eq.trans (g_A dX10_opensBy_29 rfl rfl) ?_
    refine Eq.trans (g_A dX10_opensBy_30 rfl rfl) ?_
    refine Eq.trans (g_getR dX10_opensBy_31 f34 sh34 rfl rfl) ?_
    refine Eq.trans (g_A dX10_opensBy_34 rfl rfl) ?_
    refine Eq.trans (g_iald dX10_opensBy_36 sh51 rfl) ?_
    refine am_ite ?_ rfl
    refine Eq.trans (g_K (v := (-1)) dX10_opensBy_37 rfl rfl) ?_
    refine Eq.trans (g_iceq (t := 45) dX10_opensBy_38 rfl rfl) ?_
    refine am_ite ?_ ?_
    · refine Eq.trans (g_K (v := nI 0) dX10_opensBy_45 rfl rfl) ?_
      rfl
    · refine Eq.trans (g_K (v := nI 1) dX10_opensBy_41 rfl rfl) ?_
      refine Eq.trans (g_goto (pc' := 46) dX10_opensBy_42 rfl) ?_
      rfl
theorem q240_46 (C : am_C) (σ : am_M) (v1 v2 v3 v4 s0 s1 : Int32) : am_go am_X0 C M240 46 [.ref 34, .int v1, .int v2, .int v3, .int v4] [.int s0, .int s1] σ = if s0 = v2 then (am_bI (C 241 [.ref 34, .int v4] σ) (fun r1 t1 => if r1 = nI 0 then (am_go am_X0 C M240 20 [.ref 34, .int v1, .int v2, .int (s1 + (nI 0)), .int (v4 + nI 1)] [] t1) else (am_go am_X0 C M240 20 [.ref 34, .int v1, .int v2, .int (s1 + (nI 1)), .int (v4 + nI 1)] [] t1))) else (am_go am_X0 C M240 20 [.ref 34, .int v1, .int v2, .int (s1 + (nI 0)), .int (v4 + nI 1)] [] σ) := by
  refine Eq.trans (g_A dX10_opensBy_46 rfl rfl) ?_
  refine Eq.trans (g_icne (t := 63) dX10_opensBy_47 rfl rfl) ?_
  refine am_ite ?_ ?_
  · refine Eq.trans (g_A dX10_opensBy_50 rfl rfl) ?_
    refine Eq.trans (g_A dX10_opensBy_51 rfl rfl) ?_
    refine Eq.trans (g_vI (a := 34) (as := [.int v4]) (rest := [.int s1]) dX10_opensBy_53 cl134 m241 rfl rfl rfl rfl (Nat.le_of_ble_eq_true rfl) rfl rfl rfl rfl) ?_
    refine am_bI_c (fun r1 t1 => ?_)
    refine Eq.trans (g_ifeq (t := 63) dX10_opensBy_56 rfl rfl) ?_
    refine am_ite ?_ ?_
    · refine Eq.trans (g_K (v := nI 0) dX10_opensBy_63 rfl rfl) ?_
      refine Eq.trans (g_iadd dX10_opensBy_64 rfl) ?_
      refine Eq.trans (g_isn (k := 3) dX10_opensBy_65 rfl (Nat.le_of_ble_eq_true rfl) rfl rfl rfl) ?_
      refine Eq.trans (g_inc (v := v4 + nI 1) dX10_opensBy_66 rfl (Nat.le_of_ble_eq_true rfl) rfl rfl rfl rfl) ?_
      refine Eq.trans (g_goto (pc' := 20) dX10_opensBy_69 rfl) ?_
      rfl
    · refine Eq.trans (g_K (v := nI 1) dX10_opensBy_59 rfl rfl) ?_
      refine Eq.trans (g_goto (pc' := 64) dX10_opensBy_60 rfl) ?_
      refine Eq.trans (g_iadd dX10_opensBy_64 rfl) ?_
      refine Eq.trans (g_isn (k := 3) dX10_opensBy_65 rfl (Nat.le_of_ble_eq_true rfl) rfl rfl rfl) ?_
      refine Eq.trans (g_inc (v := v4 + nI 1) dX10_opensBy_66 rfl (Nat.le_of_ble_eq_true rfl) rfl rfl rfl rfl) ?_
      refine Eq.trans (g_goto (pc' := 20) dX10_opensBy_69 rfl) ?_
      rfl
  · refine Eq.trans (g_K (v := nI 0) dX10_opensBy_63 rfl rfl) ?_
    refine Eq.trans (g_iadd dX10_opensBy_64 rfl) ?_
    refine Eq.trans (g_isn (k := 3) dX10_opensBy_65 rfl (Nat.le_of_ble_eq_true rfl) rfl rfl rfl) ?_
    refine Eq.trans (g_inc (v := v4 + nI 1) dX10_opensBy_66 rfl (Nat.le_of_ble_eq_true rfl) rfl rfl rfl rfl) ?_
    refine Eq.trans (g_goto (pc' := 20) dX10_opensBy_69 rfl) ?_
    rfl
theorem q241_0 (C : am_C) (σ : am_M) (v1 : Int32) : am_go am_X0 C M241 0 [.ref 34, .int v1, .null, .null] [] σ = am_go am_X0 C M241 2 [.ref 34, .int v1, .int (nI 0), .null] [] σ := by
  refine Eq.trans (g_K (v := nI 0) dX10_isEncryptedBySet_0 rfl rfl) ?_
  refine Eq.trans (g_isn (k := 2) dX10_isEncryptedBySet_1 rfl (Nat.le_of_ble_eq_true rfl) rfl rfl rfl) ?_
  rfl
theorem q241_2 (C : am_C) (σ : am_M) (v1 v2 : Int32) {u3 : Value} (hu3 : (!(u3.category == 2)) = true) : am_go am_X0 C M241 2 [.ref 34, .int v1, .int v2, u3] [] σ = if (σ.1 34 22) ≤ v2 then (some (.inl (some (.int (nI 0))), σ)) else (am_go am_X0 C M241 16 [.ref 34, .int v1, .int v2, .int ((nI 150) * v2)] [] σ) := by
  refine Eq.trans (g_A dX10_isEncryptedBySet_2 rfl rfl) ?_
  refine Eq.trans (g_A dX10_isEncryptedBySet_3 rfl rfl) ?_
  refine Eq.trans (g_getI dX10_isEncryptedBySet_4 f23 sh34 rfl rfl) ?_
  refine Eq.trans (g_icge (t := 89) dX10_isEncryptedBySet_7 rfl rfl) ?_
  refine am_ite ?_ ?_
  · refine Eq.trans (g_K (v := nI 0) dX10_isEncryptedBySet_89 rfl rfl) ?_
    exact g_zl dX10_isEncryptedBySet_90 rfl (Or.inl rfl)
  · refine Eq.trans (g_K (v := nI 150) dX10_isEncryptedBySet_10 rfl rfl) ?_
    refine Eq.trans (g_A dX10_isEncryptedBySet_13 rfl rfl) ?_
    refine Eq.trans (g_imul dX10_isEncryptedBySet_14 rfl) ?_
    refine Eq.trans (g_isn (k := 3) dX10_isEncryptedBySet_15 rfl (Nat.le_of_ble_eq_true rfl) rfl rfl rfl) ?_
    rfl
theorem q241_16 (C : am_C) (σ : am_M) (v1 v2 v3 : Int32) : am_go am_X0 C M241 16 [.ref 34, .int v1, .int v2, .int v3] [] σ = if am_in v2 8 = true then (if σ.1 44 (v2 : Int32).toNatClampNeg = nI 2 then (am_go am_X0 C M241 2 [.ref 34, .int v1, .int (v2 + nI 1), .int v3] [] σ) else (if am_in v2 8 = true then (if (((nI 150) * v2) + (σ.1 45 (v2 : Int32).toNatClampNeg)) ≤ v3 then (am_go am_X0 C M241 2 [.ref 34, .int v1, .int (v2 + nI 1), .int v3] [] σ) else (if am_in v3 1200 = true then (if σ.1 46 (v3 : Int32).toNatClampNeg = nI 1 then (if am_in v3 1200 = true then (if σ.1 47 (v3 : Int32).toNatClampNeg = v1 then (if am_in v3 1200 = true then (am_bI (C 195 [.ref 34, .int (σ.1 48 (v3 : Int32).toNatClampNeg)] σ) (fun r1 t1 => if r1 = nI 0 then (am_go am_X0 C M241 16 [.ref 34, .int v1, .int v2, .int (v3 + nI 1)] [] t1) else (some (.inl (some (.int (nI 1))), t1)))) else none) else (am_go am_X0 C M241 16 [.ref 34, .int v1, .int v2, .int (v3 + nI 1)] [] σ)) else none) else (am_go am_X0 C M241 16 [.ref 34, .int v1, .int v2, .int (v3 + nI 1)] [] σ)) else none)) else none)) else none := by
  refine Eq.trans (g_A dX10_isEncryptedBySet_16 rfl rfl) ?_
  refine Eq.trans (g_getR dX10_isEncryptedBySet_17 f21 sh34 rfl rfl) ?_
  refine Eq.trans (g_A dX10_isEncryptedBySet_20 rfl rfl) ?_
  refine Eq.trans (g_iald dX10_isEncryptedBySet_21 sh44 rfl) ?_
  refine am_ite ?_ rfl
  refine Eq.trans (g_K (v := nI 2) dX10_isEncryptedBySet_22 rfl rfl) ?_
  refine Eq.trans (g_iceq (t := 83) dX10_isEncryptedBySet_23 rfl rfl) ?_
  refine am_ite ?_ ?_
  · refine Eq.trans (g_inc (v := v2 + nI 1) dX10_isEncryptedBySet_83 rfl (Nat.le_of_ble_eq_true rfl) rfl rfl rfl rfl) ?_
    refine Eq.trans (g_goto (pc' := 2) dX10_isEncryptedBySet_86 rfl) ?_
    rfl
  · refine Eq.trans (g_A dX10_isEncryptedBySet_26 rfl rfl) ?_
    refine Eq.trans (g_K (v := nI 150) dX10_isEncryptedBySet_27 rfl rfl) ?_
    refine Eq.trans (g_A dX10_isEncryptedBySet_30 rfl rfl) ?_
    refine Eq.trans (g_imul dX10_isEncryptedBySet_31 rfl) ?_
    refine Eq.trans (g_A dX10_isEncryptedBySet_32 rfl rfl) ?_
    refine Eq.trans (g_getR dX10_isEncryptedBySet_33 f22 sh34 rfl rfl) ?_
    refine Eq.trans (g_A dX10_isEncryptedBySet_36 rfl rfl) ?_
    refine Eq.trans (g_iald dX10_isEncryptedBySet_37 sh45 rfl) ?_
    refine am_ite ?_ rfl
    refine Eq.trans (g_iadd dX10_isEncryptedBySet_38 rfl) ?_
    refine Eq.trans (g_icge (t := 83) dX10_isEncryptedBySet_39 rfl rfl) ?_
    refine am_ite ?_ ?_
    · refine Eq.trans (g_inc (v := v2 + nI 1) dX10_isEncryptedBySet_83 rfl (Nat.le_of_ble_eq_true rfl) rfl rfl rfl rfl) ?_
      refine Eq.trans (g_goto (pc' := 2) dX10_isEncryptedBySet_86 rfl) ?_
      rfl
    · refine Eq.trans (g_A dX10_isEncryptedBySet_42 rfl rfl) ?_
      refine Eq.trans (g_getR dX10_isEncryptedBySet_43 f27 sh34 rfl rfl) ?_
      refine Eq.trans (g_A dX10_isEncryptedBySet_46 rfl rfl) ?_
      refine Eq.trans (g_iald dX10_isEncryptedBySet_47 sh46 rfl) ?_
      refine am_ite ?_ rfl
      refine Eq.trans (g_K (v := nI 1) dX10_isEncryptedBySet_48 rfl rfl) ?_
      refine Eq.trans (g_icne (t := 77) dX10_isEncryptedBySet_49 rfl rfl) ?_
      refine am_ite ?_ ?_
      · refine Eq.trans (g_A dX10_isEncryptedBySet_52 rfl rfl) ?_
        refine Eq.trans (g_getR dX10_isEncryptedBySet_53 f28 sh34 rfl rfl) ?_
        refine Eq.trans (g_A dX10_isEncryptedBySet_56 rfl rfl) ?_
        refine Eq.trans (g_iald dX10_isEncryptedBySet_57 sh47 rfl) ?_
        refine am_ite ?_ rfl
        refine Eq.trans (g_A dX10_isEncryptedBySet_58 rfl rfl) ?_
        refine Eq.trans (g_icne (t := 77) dX10_isEncryptedBySet_59 rfl rfl) ?_
        refine am_ite ?_ ?_
        · refine Eq.trans (g_A dX10_isEncryptedBySet_62 rfl rfl) ?_
          refine Eq.trans (g_A dX10_isEncryptedBySet_63 rfl rfl) ?_
          refine Eq.trans (g_getR dX10_isEncryptedBySet_64 f29 sh34 rfl rfl) ?_
          refine Eq.trans (g_A dX10_isEncryptedBySet_67 rfl rfl) ?_
          refine Eq.trans (g_iald dX10_isEncryptedBySet_68 sh48 rfl) ?_
          refine am_ite ?_ rfl
          refine Eq.trans (g_vI (a := 34) (as := [.int (σ.1 48 (v3 : Int32).toNatClampNeg)]) (rest := []) dX10_isEncryptedBySet_69 cl108 m195 rfl rfl rfl rfl (Nat.le_of_ble_eq_true rfl) rfl rfl rfl rfl) ?_
          refine am_bI_c (fun r1 t1 => ?_)
          refine Eq.trans (g_ifeq (t := 77) dX10_isEncryptedBySet_72 rfl rfl) ?_
          refine am_ite ?_ ?_
          · refine Eq.trans (g_inc (v := v3 + nI 1) dX10_isEncryptedBySet_77 rfl (Nat.le_of_ble_eq_true rfl) rfl rfl rfl rfl) ?_
            refine Eq.trans (g_goto (pc' := 16) dX10_isEncryptedBySet_80 rfl) ?_
            rfl
          · refine Eq.trans (g_K (v := nI 1) dX10_isEncryptedBySet_75 rfl rfl) ?_
            exact g_zl dX10_isEncryptedBySet_76 rfl (Or.inr rfl)
        · refine Eq.trans (g_inc (v := v3 + nI 1) dX10_isEncryptedBySet_77 rfl (Nat.le_of_ble_eq_true rfl) rfl rfl rfl rfl) ?_
          refine Eq.trans (g_goto (pc' := 16) dX10_isEncryptedBySet_80 rfl) ?_
          rfl
      · refine Eq.trans (g_inc (v := v3 + nI 1) dX10_isEncryptedBySet_77 rfl (Nat.le_of_ble_eq_true rfl) rfl rfl rfl rfl) ?_
        refine Eq.trans (g_goto (pc' := 16) dX10_isEncryptedBySet_80 rfl) ?_
        rfl
theorem q243_0 (C : am_C) (σ : am_M) (v1 : Int32) : am_go am_X0 C M243 0 [.ref 34, .int v1] [] σ = am_bI (C 173 [.long ((v1 : Int32).toInt64), .long (0 : Int64), .long (20)] σ) (fun r1 t1 => if r1 = nI 0 then (am_go am_X0 C M243 18 [.ref 34, .int v1] [.int (nI 1), .ref 34] t1) else (am_go am_X0 C M243 18 [.ref 34, .int v1] [.int (nI 0), .ref 34] t1)) := by
  refine Eq.trans (g_A dX10_rekey_0 rfl rfl) ?_
  refine Eq.trans (g_A dX10_rekey_1 rfl rfl) ?_
  refine Eq.trans (g_i2l dX10_rekey_2 rfl) ?_
  refine Eq.trans (g_KJ (v := (0 : Int64)) dX10_rekey_3 rfl rfl) ?_
  refine Eq.trans (g_ld2 dX10_rekey_4 kj11 rfl) ?_
  refine Eq.trans (g_sI (as := [.long ((v1 : Int32).toInt64), .long (0 : Int64), .long (20)]) (rest := [.ref 34]) dX10_rekey_7 rfl cl101 m173 rfl rfl rfl rfl (Nat.le_of_ble_eq_true rfl) rfl rfl rfl) ?_
  refine am_bI_c (fun r1 t1 => ?_)
  refine Eq.trans (g_ifeq (t := 17) dX10_rekey_10 rfl rfl) ?_
  refine am_ite ?_ ?_
  · refine Eq.trans (g_K (v := nI 1) dX10_rekey_17 rfl rfl) ?_
    rfl
  · refine Eq.trans (g_K (v := nI 0) dX10_rekey_13 rfl rfl) ?_
    refine Eq.trans (g_goto (pc' := 18) dX10_rekey_14 rfl) ?_
    rfl
theorem q243_18 (C : am_C) (σ : am_M) (v1 s0 : Int32) : am_go am_X0 C M243 18 [.ref 34, .int v1] [.int s0, .ref 34] σ = if ((am_wI σ 34 25 s0).1 34 25) ≤ (nI 0) then (if am_in v1 85 = true then (if (am_wI σ 34 25 s0).1 35 (v1 : Int32).toNatClampNeg = nI 0 then (am_go am_X0 C M243 67 [.ref 34, .int v1] [.ref 34] (am_wI σ 34 25 s0)) else (am_bI (C 186 [.ref 34, .int (-1)] (am_wI σ 34 25 s0)) (fun r1 t1 => am_bI (C 231 [.ref 34, .int v1] t1) (fun r2 t2 => if v1 ≤ (nI 0) then (am_go am_X0 C M243 60 [.ref 34, .int v1] [.int (nI 0), .int r2, .int r1, .ref 34, .ref 34] t2) else (am_go am_X0 C M243 60 [.ref 34, .int v1] [.int (nI 1), .int r2, .int r1, .ref 34, .ref 34] t2))))) else none) else (some (.inl (some (.int (nI 0))), am_wI σ 34 25 s0)) := by
  refine Eq.trans (g_put dX10_rekey_18 f13 sh34 rfl rfl rfl) ?_
  refine Eq.trans (g_A dX10_rekey_21 rfl rfl) ?_
  refine Eq.trans (g_getI dX10_rekey_22 f13 sh34 rfl rfl) ?_
  refine Eq.trans (g_ifle (t := 30) dX10_rekey_25 rfl rfl) ?_
  refine am_ite ?_ ?_
  · refine Eq.trans (g_A dX10_rekey_30 rfl rfl) ?_
    refine Eq.trans (g_A dX10_rekey_31 rfl rfl) ?_
    refine Eq.trans (g_getR dX10_rekey_32 f15 sh34 rfl rfl) ?_
    refine Eq.trans (g_A dX10_rekey_35 rfl rfl) ?_
    refine Eq.trans (g_iald dX10_rekey_36 sh35 rfl) ?_
    refine am_ite ?_ rfl
    refine Eq.trans (g_ifeq (t := 67) dX10_rekey_37 rfl rfl) ?_
    refine am_ite ?_ ?_
    · rfl
    · refine Eq.trans (g_A dX10_rekey_40 rfl rfl) ?_
      refine Eq.trans (g_A dX10_rekey_41 rfl rfl) ?_
      refine Eq.trans (g_K (v := (-1)) dX10_rekey_42 rfl rfl) ?_
      refine Eq.trans (g_vI (a := 34) (as := [.int (-1)]) (rest := [.ref 34, .ref 34]) dX10_rekey_43 cl102 m186 rfl rfl rfl rfl (Nat.le_of_ble_eq_true rfl) rfl rfl rfl rfl) ?_
      refine am_bI_c (fun r1 t1 => ?_)
      refine Eq.trans (g_A dX10_rekey_46 rfl rfl) ?_
      refine Eq.trans (g_A dX10_rekey_47 rfl rfl) ?_
      refine Eq.trans (g_vI (a := 34) (as := [.int v1]) (rest := [.int r1, .ref 34, .ref 34]) dX10_rekey_48 cl136 m231 rfl rfl rfl rfl (Nat.le_of_ble_eq_true rfl) rfl rfl rfl rfl) ?_
      refine am_bI_c (fun r2 t2 => ?_)
      refine Eq.trans (g_A dX10_rekey_51 rfl rfl) ?_
      refine Eq.trans (g_ifle (t := 59) dX10_rekey_52 rfl rfl) ?_
      refine am_ite ?_ ?_
      · refine Eq.trans (g_K (v := nI 0) dX10_rekey_59 rfl rfl) ?_
        rfl
      · refine Eq.trans (g_K (v := nI 1) dX10_rekey_55 rfl rfl) ?_
        refine Eq.trans (g_goto (pc' := 60) dX10_rekey_56 rfl) ?_
        rfl
  · refine Eq.trans (g_K (v := nI 0) dX10_rekey_28 rfl rfl) ?_
    exact g_iret dX10_rekey_29 rfl
theorem q243_60 (C : am_C) (σ : am_M) (v1 s0 s1 s2 : Int32) : am_go am_X0 C M243 60 [.ref 34, .int v1] [.int s0, .int s1, .int s2, .ref 34, .ref 34] σ = am_bI (C 187 [.ref 34, .int s2, .int (s1 + s0)] σ) (fun r1 t1 => if r1 = nI 0 then (am_go am_X0 C M243 67 [.ref 34, .int v1] [.ref 34] t1) else (am_go am_X0 C M243 72 [.ref 34, .int v1] [.int (nI 0), .ref 34] t1)) := by
  refine Eq.trans (g_iadd dX10_rekey_60 rfl) ?_
  refine Eq.trans (g_vI (a := 34) (as := [.int s2, .int (s1 + s0)]) (rest := [.ref 34]) dX10_rekey_61 cl116 m187 rfl rfl rfl rfl (Nat.le_of_ble_eq_true rfl) rfl rfl rfl rfl) ?_
  refine am_bI_c (fun r1 t1 => ?_)
  refine Eq.trans (g_ifne (t := 71) dX10_rekey_64 rfl rfl) ?_
  refine am_ite ?_ ?_
  · rfl
  · refine Eq.trans (g_K (v := nI 0) dX10_rekey_71 rfl rfl) ?_
    rfl
theorem q243_67 (C : am_C) (σ : am_M) (v1 : Int32) : am_go am_X0 C M243 67 [.ref 34, .int v1] [.ref 34] σ = am_go am_X0 C M243 72 [.ref 34, .int v1] [.int (nI 2), .ref 34] σ := by
  refine Eq.trans (g_K (v := nI 2) dX10_rekey_67 rfl rfl) ?_
  refine Eq.trans (g_goto (pc' := 72) dX10_rekey_68 rfl) ?_
  rfl
theorem q243_72 (C : am_C) (σ : am_M) (v1 s0 : Int32) : am_go am_X0 C M243 72 [.ref 34, .int v1] [.int s0, .ref 34] σ = if ((am_wI σ 34 25 s0).1 34 25) ≤ (nI 0) then (am_bI (C 177 [.ref 34] (am_wI σ 34 25 s0)) (fun r1 t1 => if am_in v1 85 = true then (am_bV (C 232 [.ref 34, .int v1] (am_wI t1 35 (v1 : Int32).toNatClampNeg r1)) (fun t2 => if v1 ≤ (nI 0) then (am_go am_X0 C M243 122 [.ref 34, .int v1] [] t2) else (if am_in v1 85 = true then (am_bI (C 179 [.int v1] t2) (fun r3 t3 => if am_in r3 85 = true then (am_bV (C 189 [.ref 34, .int (t2.1 35 (v1 : Int32).toNatClampNeg), .int (t3.1 35 (r3 : Int32).toNatClampNeg)] t3) (fun t4 => am_go am_X0 C M243 122 [.ref 34, .int v1] [] t4)) else none)) else none))) else none)) else (some (.inl (some (.int (nI 0))), am_wI σ 34 25 s0)) := by
  refine Eq.trans (g_put dX10_rekey_72 f13 sh34 rfl rfl rfl) ?_
  refine Eq.trans (g_A dX10_rekey_75 rfl rfl) ?_
  refine Eq.trans (g_getI dX10_rekey_76 f13 sh34 rfl rfl) ?_
  refine Eq.trans (g_ifle (t := 84) dX10_rekey_79 rfl rfl) ?_
  refine am_ite ?_ ?_
  · refine Eq.trans (g_A dX10_rekey_84 rfl rfl) ?_
    refine Eq.trans (g_getR dX10_rekey_85 f15 sh34 rfl rfl) ?_
    refine Eq.trans (g_A dX10_rekey_88 rfl rfl) ?_
    refine Eq.trans (g_A dX10_rekey_89 rfl rfl) ?_
    refine Eq.trans (g_vI (a := 34) (as := []) (rest := [.int v1, .ref 35]) dX10_rekey_90 cl97 m177 rfl rfl rfl rfl (Nat.le_of_ble_eq_true rfl) rfl rfl rfl rfl) ?_
    refine am_bI_c (fun r1 t1 => ?_)
    refine Eq.trans (g_iast dX10_rekey_93 sh35 rfl) ?_
    refine am_ite ?_ rfl
    refine Eq.trans (g_A dX10_rekey_94 rfl rfl) ?_
    refine Eq.trans (g_A dX10_rekey_95 rfl rfl) ?_
    refine Eq.trans (g_vV (a := 34) (as := [.int v1]) (rest := []) dX10_rekey_96 cl133 m232 rfl rfl rfl rfl (Nat.le_of_ble_eq_true rfl) rfl rfl rfl rfl) ?_
    refine am_bV_c (fun t2 => ?_)
    refine Eq.trans (g_A dX10_rekey_99 rfl rfl) ?_
    refine Eq.trans (g_ifle (t := 122) dX10_rekey_100 rfl rfl) ?_
    refine am_ite ?_ ?_
    · rfl
    · refine Eq.trans (g_A dX10_rekey_103 rfl rfl) ?_
      refine Eq.trans (g_A dX10_rekey_104 rfl rfl) ?_
      refine Eq.trans (g_getR dX10_rekey_105 f15 sh34 rfl rfl) ?_
      refine Eq.trans (g_A dX10_rekey_108 rfl rfl) ?_
      refine Eq.trans (g_iald dX10_rekey_109 sh35 rfl) ?_
      refine am_ite ?_ rfl
      refine Eq.trans (g_A dX10_rekey_110 rfl rfl) ?_
      refine Eq.trans (g_getR dX10_rekey_111 f15 sh34 rfl rfl) ?_
      refine Eq.trans (g_A dX10_rekey_114 rfl rfl) ?_
      refine Eq.trans (g_sI (as := [.int v1]) (rest := [.ref 35, .int (t2.1 35 (v1 : Int32).toNatClampNeg), .ref 34]) dX10_rekey_115 rfl cl100 m179 rfl rfl rfl rfl (Nat.le_of_ble_eq_true rfl) rfl rfl rfl) ?_
      refine am_bI_c (fun r3 t3 => ?_)
      refine Eq.trans (g_iald dX10_rekey_118 sh35 rfl) ?_
      refine am_ite ?_ rfl
      refine Eq.trans (g_vV (a := 34) (as := [.int (t2.1 35 (v1 : Int32).toNatClampNeg), .int (t3.1 35 (r3 : Int32).toNatClampNeg)]) (rest := []) dX10_rekey_119 cl113 m189 rfl rfl rfl rfl (Nat.le_of_ble_eq_true rfl) rfl rfl rfl rfl) ?_
      refine am_bV_c (fun t4 => ?_)
      rfl
  · refine Eq.trans (g_K (v := nI 0) dX10_rekey_82 rfl rfl) ?_
    exact g_iret dX10_rekey_83 rfl
theorem q243_122 (C : am_C) (σ : am_M) (v1 : Int32) : am_go am_X0 C M243 122 [.ref 34, .int v1] [] σ = if am_in v1 85 = true then (some (.inl (some (.int (σ.1 35 (v1 : Int32).toNatClampNeg))), σ)) else none := by
  refine Eq.trans (g_A dX10_rekey_122 rfl rfl) ?_
  refine Eq.trans (g_getR dX10_rekey_123 f15 sh34 rfl rfl) ?_
  refine Eq.trans (g_A dX10_rekey_126 rfl rfl) ?_
  refine Eq.trans (g_iald dX10_rekey_127 sh35 rfl) ?_
  refine am_ite ?_ rfl
  exact g_iret dX10_rekey_128 rfl
theorem q244_0 (C : am_C) (σ : am_M) (v1 : Int32) : am_go am_X0 C M244 0 [.ref 34, .int v1, .null] [] σ = am_go am_X0 C M244 2 [.ref 34, .int v1, .int (nI 0)] [] σ := by
  refine Eq.trans (g_K (v := nI 0) dX10_isFixed_0 rfl rfl) ?_
  refine Eq.trans (g_isn (k := 2) dX10_isFixed_1 rfl (Nat.le_of_ble_eq_true rfl) rfl rfl rfl) ?_
  rfl
theorem q244_2 (C : am_C) (σ : am_M) (v1 v2 : Int32) : am_go am_X0 C M244 2 [.ref 34, .int v1, .int v2] [] σ = if (nI 64) ≤ v2 then (some (.inl (some (.int (nI 0))), σ)) else (if am_in v2 64 = true then (if σ.1 37 (v2 : Int32).toNatClampNeg = (-1) then (am_go am_X0 C M244 2 [.ref 34, .int v1, .int (v2 + nI 1)] [] σ) else (am_bI (C 181 [.int ((nI 21) + v2), .int v1] σ) (fun r1 t1 => if r1 = nI 0 then (am_go am_X0 C M244 2 [.ref 34, .int v1, .int (v2 + nI 1)] [] t1) else (if am_in v2 64 = true then (if t1.1 41 (v2 : Int32).toNatClampNeg = nI 0 then (am_bI (C 223 [.ref 34, .int v2] t1) (fun r2 t2 => if r2 = nI 0 then (am_go am_X0 C M244 2 [.ref 34, .int v1, .int (v2 + nI 1)] [] t2) else (some (.inl (some (.int (nI 1))), t2)))) else (some (.inl (some (.int (nI 1))), t1))) else none)))) else none) := by
  refine Eq.trans (g_A dX10_isFixed_2 rfl rfl) ?_
  refine Eq.trans (g_K (v := nI 64) dX10_isFixed_3 rfl rfl) ?_
  refine Eq.trans (g_icge (t := 54) dX10_isFixed_5 rfl rfl) ?_
  refine am_ite ?_ ?_
  · refine Eq.trans (g_K (v := nI 0) dX10_isFixed_54 rfl rfl) ?_
    exact g_zl dX10_isFixed_55 rfl (Or.inl rfl)
  · refine Eq.trans (g_A dX10_isFixed_8 rfl rfl) ?_
    refine Eq.trans (g_getR dX10_isFixed_9 f16 sh34 rfl rfl) ?_
    refine Eq.trans (g_A dX10_isFixed_12 rfl rfl) ?_
    refine Eq.trans (g_iald dX10_isFixed_13 sh37 rfl) ?_
    refine am_ite ?_ rfl
    refine Eq.trans (g_K (v := (-1)) dX10_isFixed_14 rfl rfl) ?_
    refine Eq.trans (g_iceq (t := 48) dX10_isFixed_15 rfl rfl) ?_
    refine am_ite ?_ ?_
    · refine Eq.trans (g_inc (v := v2 + nI 1) dX10_isFixed_48 rfl (Nat.le_of_ble_eq_true rfl) rfl rfl rfl rfl) ?_
      refine Eq.trans (g_goto (pc' := 2) dX10_isFixed_51 rfl) ?_
      rfl
    · refine Eq.trans (g_K (v := nI 21) dX10_isFixed_18 rfl rfl) ?_
      refine Eq.trans (g_A dX10_isFixed_20 rfl rfl) ?_
      refine Eq.trans (g_iadd dX10_isFixed_21 rfl) ?_
      refine Eq.trans (g_A dX10_isFixed_22 rfl rfl) ?_
      refine Eq.trans (g_sI (as := [.int ((nI 21) + v2), .int v1]) (rest := []) dX10_isFixed_23 rfl cl129 m181 rfl rfl rfl rfl (Nat.le_of_ble_eq_true rfl) rfl rfl rfl) ?_
      refine am_bI_c (fun r1 t1 => ?_)
      refine Eq.trans (g_ifeq (t := 48) dX10_isFixed_26 rfl rfl) ?_
      refine am_ite ?_ ?_
      · refine Eq.trans (g_inc (v := v2 + nI 1) dX10_isFixed_48 rfl (Nat.le_of_ble_eq_true rfl) rfl rfl rfl rfl) ?_
        refine Eq.trans (g_goto (pc' := 2) dX10_isFixed_51 rfl) ?_
        rfl
      · refine Eq.trans (g_A dX10_isFixed_29 rfl rfl) ?_
        refine Eq.trans (g_getR dX10_isFixed_30 f17 sh34 rfl rfl) ?_
        refine Eq.trans (g_A dX10_isFixed_33 rfl rfl) ?_
        refine Eq.trans (g_bald dX10_isFixed_34 sh41 rfl) ?_
        refine am_ite ?_ rfl
        refine Eq.trans (g_ifne (t := 46) dX10_isFixed_35 rfl rfl) ?_
        refine am_ite ?_ ?_
        · refine Eq.trans (g_A dX10_isFixed_38 rfl rfl) ?_
          refine Eq.trans (g_A dX10_isFixed_39 rfl rfl) ?_
          refine Eq.trans (g_vI (a := 34) (as := [.int v2]) (rest := []) dX10_isFixed_40 cl126 m223 rfl rfl rfl rfl (Nat.le_of_ble_eq_true rfl) rfl rfl rfl rfl) ?_
          refine am_bI_c (fun r2 t2 => ?_)
          refine Eq.trans (g_ifeq (t := 48) dX10_isFixed_43 rfl rfl) ?_
          refine am_ite ?_ ?_
          · refine Eq.trans (g_inc (v := v2 + nI 1) dX10_isFixed_48 rfl (Nat.le_of_ble_eq_true rfl) rfl rfl rfl rfl) ?_
            refine Eq.trans (g_goto (pc' := 2) dX10_isFixed_51 rfl) ?_
            rfl
          · refine Eq.trans (g_K (v := nI 1) dX10_isFixed_46 rfl rfl) ?_
            exact g_zl dX10_isFixed_47 rfl (Or.inr rfl)
        · refine Eq.trans (g_K (v := nI 1) dX10_isFixed_46 rfl rfl) ?_
          exact g_zl dX10_isFixed_47 rfl (Or.inr rfl)
theorem q245_0 (C : am_C) (σ : am_M) (v1 v2 : Int32) : am_go am_X0 C M245 0 [.ref 34, .int v1, .int v2, .null, .null] [] σ = if am_in v1 85 = true then (if am_in v2 85 = true then (if am_in v1 85 = true then (if v1 < (nI 21) then (am_go am_X0 C M245 91 [.ref 34, .int v1, .int v2, .int (nI 0), .int (nI 1)] [] (am_wI (am_wI σ 35 (v2 : Int32).toNatClampNeg (σ.1 35 (v1 : Int32).toNatClampNeg)) 35 (v1 : Int32).toNatClampNeg (nI 0))) else (if am_in (v1 - (nI 21)) 64 = true then (if am_in (v2 - (nI 21)) 64 = true then (if am_in (v1 - (nI 21)) 64 = true then (if (am_wI (am_wI σ 35 (v2 : Int32).toNatClampNeg (σ.1 35 (v1 : Int32).toNatClampNeg)) 35 (v1 : Int32).toNatClampNeg (nI 0)).1 37 (v1 - (nI 21) : Int32).toNatClampNeg = (-1) then (am_go am_X0 C M245 76 [.ref 34, .int v1, .int v2, .int (nI 0), .int ((am_wI (am_wI σ 35 (v2 : Int32).toNatClampNeg (σ.1 35 (v1 : Int32).toNatClampNeg)) 35 (v1 : Int32).toNatClampNeg (nI 0)).1 37 (v1 - (nI 21) : Int32).toNatClampNeg)] [] (am_wI (am_wI (am_wI (am_wI σ 35 (v2 : Int32).toNatClampNeg (σ.1 35 (v1 : Int32).toNatClampNeg)) 35 (v1 : Int32).toNatClampNeg (nI 0)) 37 (v2 - (nI 21) : Int32).toNatClampNeg ((am_wI (am_wI σ 35 (v2 : Int32).toNatClampNeg (σ.1 35 (v1 : Int32).toNatClampNeg)) 35 (v1 : Int32).toNatClampNeg (nI 0)).1 37 (v1 - (nI 21) : Int32).toNatClampNeg)) 37 (v1 - (nI 21) : Int32).toNatClampNeg (-1))) else (if am_in ((am_wI (am_wI σ 35 (v2 : Int32).toNatClampNeg (σ.1 35 (v1 : Int32).toNatClampNeg)) 35 (v1 : Int32).toNatClampNeg (nI 0)).1 37 (v1 - (nI 21) : Int32).toNatClampNeg) 200 = true then (am_go am_X0 C M245 76 [.ref 34, .int v1, .int v2, .int (nI 0), .int ((am_wI (am_wI σ 35 (v2 : Int32).toNatClampNeg (σ.1 35 (v1 : Int32).toNatClampNeg)) 35 (v1 : Int32).toNatClampNeg (nI 0)).1 37 (v1 - (nI 21) : Int32).toNatClampNeg)] [] (am_wI (am_wI (am_wI (am_wI (am_wI σ 35 (v2 : Int32).toNatClampNeg (σ.1 35 (v1 : Int32).toNatClampNeg)) 35 (v1 : Int32).toNatClampNeg (nI 0)) 37 (v2 - (nI 21) : Int32).toNatClampNeg ((am_wI (am_wI σ 35 (v2 : Int32).toNatClampNeg (σ.1 35 (v1 : Int32).toNatClampNeg)) 35 (v1 : Int32).toNatClampNeg (nI 0)).1 37 (v1 - (nI 21) : Int32).toNatClampNeg)) 37 (v1 - (nI 21) : Int32).toNatClampNeg (-1)) 51 ((am_wI (am_wI σ 35 (v2 : Int32).toNatClampNeg (σ.1 35 (v1 : Int32).toNatClampNeg)) 35 (v1 : Int32).toNatClampNeg (nI 0)).1 37 (v1 - (nI 21) : Int32).toNatClampNeg : Int32).toNatClampNeg (v2 - (nI 21)))) else none)) else none) else none) else none)) else none) else none) else none := by
  refine Eq.trans (g_K (v := nI 0) dX10_goes_0 rfl rfl) ?_
  refine Eq.trans (g_isn (k := 3) dX10_goes_1 rfl (Nat.le_of_ble_eq_true rfl) rfl rfl rfl) ?_
  refine Eq.trans (g_A dX10_goes_2 rfl rfl) ?_
  refine Eq.trans (g_getR dX10_goes_3 f15 sh34 rfl rfl) ?_
  refine Eq.trans (g_A dX10_goes_6 rfl rfl) ?_
  refine Eq.trans (g_A dX10_goes_7 rfl rfl) ?_
  refine Eq.trans (g_getR dX10_goes_8 f15 sh34 rfl rfl) ?_
  refine Eq.trans (g_A dX10_goes_11 rfl rfl) ?_
  refine Eq.trans (g_iald dX10_goes_12 sh35 rfl) ?_
  refine am_ite ?_ rfl
  refine Eq.trans (g_iast dX10_goes_13 sh35 rfl) ?_
  refine am_ite ?_ rfl
  refine Eq.trans (g_A dX10_goes_14 rfl rfl) ?_
  refine Eq.trans (g_getR dX10_goes_15 f15 sh34 rfl rfl) ?_
  refine Eq.trans (g_A dX10_goes_18 rfl rfl) ?_
  refine Eq.trans (g_K (v := nI 0) dX10_goes_19 rfl rfl) ?_
  refine Eq.trans (g_iast dX10_goes_20 sh35 rfl) ?_
  refine am_ite ?_ rfl
  refine Eq.trans (g_A dX10_goes_21 rfl rfl) ?_
  refine Eq.trans (g_K (v := nI 21) dX10_goes_22 rfl rfl) ?_
  refine Eq.trans (g_iclt (t := 88) dX10_goes_24 rfl rfl) ?_
  refine am_ite ?_ ?_
  · refine Eq.trans (g_K (v := nI 1) dX10_goes_88 rfl rfl) ?_
    refine Eq.trans (g_ist (k := 4) dX10_goes_89 (Nat.le_of_ble_eq_true rfl) rfl rfl rfl) ?_
    rfl
  · refine Eq.trans (g_A dX10_goes_27 rfl rfl) ?_
    refine Eq.trans (g_getR dX10_goes_28 f16 sh34 rfl rfl) ?_
    refine Eq.trans (g_A dX10_goes_31 rfl rfl) ?_
    refine Eq.trans (g_K (v := nI 21) dX10_goes_32 rfl rfl) ?_
    refine Eq.trans (g_isub dX10_goes_34 rfl) ?_
    refine Eq.trans (g_iald dX10_goes_35 sh37 rfl) ?_
    refine am_ite ?_ rfl
    refine Eq.trans (g_ist (k := 4) dX10_goes_36 (Nat.le_of_ble_eq_true rfl) rfl rfl rfl) ?_
    refine Eq.trans (g_A dX10_goes_38 rfl rfl) ?_
    refine Eq.trans (g_getR dX10_goes_39 f16 sh34 rfl rfl) ?_
    refine Eq.trans (g_A dX10_goes_42 rfl rfl) ?_
    refine Eq.trans (g_K (v := nI 21) dX10_goes_43 rfl rfl) ?_
    refine Eq.trans (g_isub dX10_goes_45 rfl) ?_
    refine Eq.trans (g_A dX10_goes_46 rfl rfl) ?_
    refine Eq.trans (g_iast dX10_goes_48 sh37 rfl) ?_
    refine am_ite ?_ rfl
    refine Eq.trans (g_A dX10_goes_49 rfl rfl) ?_
    refine Eq.trans (g_getR dX10_goes_50 f16 sh34 rfl rfl) ?_
    refine Eq.trans (g_A dX10_goes_53 rfl rfl) ?_
    refine Eq.trans (g_K (v := nI 21) dX10_goes_54 rfl rfl) ?_
    refine Eq.trans (g_isub dX10_goes_56 rfl) ?_
    refine Eq.trans (g_K (v := (-1)) dX10_goes_57 rfl rfl) ?_
    refine Eq.trans (g_iast dX10_goes_58 sh37 rfl) ?_
    refine am_ite ?_ rfl
    refine Eq.trans (g_A dX10_goes_59 rfl rfl) ?_
    refine Eq.trans (g_K (v := (-1)) dX10_goes_61 rfl rfl) ?_
    refine Eq.trans (g_iceq (t := 76) dX10_goes_62 rfl rfl) ?_
    refine am_ite ?_ ?_
    · rfl
    · refine Eq.trans (g_A dX10_goes_65 rfl rfl) ?_
      refine Eq.trans (g_getR dX10_goes_66 f34 sh34 rfl rfl) ?_
      refine Eq.trans (g_A dX10_goes_69 rfl rfl) ?_
      refine Eq.trans (g_A dX10_goes_71 rfl rfl) ?_
      refine Eq.trans (g_K (v := nI 21) dX10_goes_72 rfl rfl) ?_
      refine Eq.trans (g_isub dX10_goes_74 rfl) ?_
      refine Eq.trans (g_iast dX10_goes_75 sh51 rfl) ?_
      refine am_ite ?_ rfl
      rfl
theorem q245_76 (C : am_C) (σ : am_M) (v1 v2 v3 v4 : Int32) : am_go am_X0 C M245 76 [.ref 34, .int v1, .int v2, .int v3, .int v4] [] σ = if v4 = (-1) then (some (.inl (some (.int (nI 0))), σ)) else (some (.inl (some (.int (nI 1))), σ)) := by
  refine Eq.trans (g_A dX10_goes_76 rfl rfl) ?_
  refine Eq.trans (g_K (v := (-1)) dX10_goes_78 rfl rfl) ?_
  refine Eq.trans (g_icne (t := 86) dX10_goes_79 rfl rfl) ?_
  refine am_ite ?_ ?_
  · refine Eq.trans (g_K (v := nI 0) dX10_goes_82 rfl rfl) ?_
    refine Eq.trans (g_goto (pc' := 87) dX10_goes_83 rfl) ?_
    exact g_iret dX10_goes_87 rfl
  · refine Eq.trans (g_K (v := nI 1) dX10_goes_86 rfl rfl) ?_
    exact g_iret dX10_goes_87 rfl
theorem q245_91 (C : am_C) (σ : am_M) (v1 v2 v3 v4 : Int32) : am_go am_X0 C M245 91 [.ref 34, .int v1, .int v2, .int v3, .int v4] [] σ = if (nI 4) < v4 then (some (.inl (some (.int v3)), σ)) else (am_bI (C 245 [.ref 34, .int (((nI 4) * v1) + v4), .int (((nI 4) * v2) + v4)] σ) (fun r1 t1 => am_go am_X0 C M245 91 [.ref 34, .int v1, .int v2, .int (v3 + r1), .int (v4 + nI 1)] [] t1)) := by
  refine Eq.trans (g_A dX10_goes_91 rfl rfl) ?_
  refine Eq.trans (g_K (v := nI 4) dX10_goes_93 rfl rfl) ?_
  refine Eq.trans (g_icgt (t := 122) dX10_goes_94 rfl rfl) ?_
  refine am_ite ?_ ?_
  · refine Eq.trans (g_A dX10_goes_122 rfl rfl) ?_
    exact g_iret dX10_goes_123 rfl
  · refine Eq.trans (g_A dX10_goes_97 rfl rfl) ?_
    refine Eq.trans (g_A dX10_goes_98 rfl rfl) ?_
    refine Eq.trans (g_K (v := nI 4) dX10_goes_99 rfl rfl) ?_
    refine Eq.trans (g_A dX10_goes_100 rfl rfl) ?_
    refine Eq.trans (g_imul dX10_goes_101 rfl) ?_
    refine Eq.trans (g_A dX10_goes_102 rfl rfl) ?_
    refine Eq.trans (g_iadd dX10_goes_104 rfl) ?_
    refine Eq.trans (g_K (v := nI 4) dX10_goes_105 rfl rfl) ?_
    refine Eq.trans (g_A dX10_goes_106 rfl rfl) ?_
    refine Eq.trans (g_imul dX10_goes_107 rfl) ?_
    refine Eq.trans (g_A dX10_goes_108 rfl rfl) ?_
    refine Eq.trans (g_iadd dX10_goes_110 rfl) ?_
    refine Eq.trans (g_vI (a := 34) (as := [.int (((nI 4) * v1) + v4), .int (((nI 4) * v2) + v4)]) (rest := [.int v3]) dX10_goes_111 cl137 m245 rfl rfl rfl rfl (Nat.le_of_ble_eq_true rfl) rfl rfl rfl rfl) ?_
    refine am_bI_c (fun r1 t1 => ?_)
    refine Eq.trans (g_iadd dX10_goes_114 rfl) ?_
    refine Eq.trans (g_isn (k := 3) dX10_goes_115 rfl (Nat.le_of_ble_eq_true rfl) rfl rfl rfl) ?_
    refine Eq.trans (g_inc (v := v4 + nI 1) dX10_goes_116 rfl (Nat.le_of_ble_eq_true rfl) rfl rfl rfl rfl) ?_
    refine Eq.trans (g_goto (pc' := 91) dX10_goes_119 rfl) ?_
    rfl
theorem q246_0 (C : am_C) (σ : am_M) (v1 v2 : Int32) : am_go am_X0 C M246 0 [.ref 34, .int v1, .int v2, .null, .null] [] σ = am_bI (C 173 [.long ((v1 : Int32).toInt64), .long (1 : Int64), .long (84)] σ) (fun r1 t1 => if r1 = nI 0 then (am_go am_X0 C M246 25 [.ref 34, .int v1, .int v2, .null, .null] [.ref 34] t1) else (am_bI (C 173 [.long ((v2 : Int32).toInt64), .long (1 : Int64), .long (84)] t1) (fun r2 t2 => if r2 = nI 0 then (am_go am_X0 C M246 25 [.ref 34, .int v1, .int v2, .null, .null] [.ref 34] t2) else (am_bI (C 180 [.int v1] t2) (fun r3 t3 => am_bI (C 180 [.int v2] t3) (fun r4 t4 => if r3 = r4 then (am_go am_X0 C M246 45 [.ref 34, .int v1, .int v2, .null, .null] [.int (nI 0), .ref 34] t4) else (am_go am_X0 C M246 45 [.ref 34, .int v1, .int v2, .null, .null] [.int (nI 2), .ref 34] t4))))))) := by
  refine Eq.trans (g_A dX10_move_0 rfl rfl) ?_
  refine Eq.trans (g_A dX10_move_1 rfl rfl) ?_
  refine Eq.trans (g_i2l dX10_move_2 rfl) ?_
  refine Eq.trans (g_KJ (v := (1 : Int64)) dX10_move_3 rfl rfl) ?_
  refine Eq.trans (g_ld2 dX10_move_4 kj2 rfl) ?_
  refine Eq.trans (g_sI (as := [.long ((v1 : Int32).toInt64), .long (1 : Int64), .long (84)]) (rest := [.ref 34]) dX10_move_7 rfl cl101 m173 rfl rfl rfl rfl (Nat.le_of_ble_eq_true rfl) rfl rfl rfl) ?_
  refine am_bI_c (fun r1 t1 => ?_)
  refine Eq.trans (g_ifeq (t := 25) dX10_move_10 rfl rfl) ?_
  refine am_ite ?_ ?_
  · rfl
  · refine Eq.trans (g_A dX10_move_13 rfl rfl) ?_
    refine Eq.trans (g_i2l dX10_move_14 rfl) ?_
    refine Eq.trans (g_KJ (v := (1 : Int64)) dX10_move_15 rfl rfl) ?_
    refine Eq.trans (g_ld2 dX10_move_16 kj2 rfl) ?_
    refine Eq.trans (g_sI (as := [.long ((v2 : Int32).toInt64), .long (1 : Int64), .long (84)]) (rest := [.ref 34]) dX10_move_19 rfl cl101 m173 rfl rfl rfl rfl (Nat.le_of_ble_eq_true rfl) rfl rfl rfl) ?_
    refine am_bI_c (fun r2 t2 => ?_)
    refine Eq.trans (g_ifne (t := 29) dX10_move_22 rfl rfl) ?_
    refine am_ite ?_ ?_
    · rfl
    · refine Eq.trans (g_A dX10_move_29 rfl rfl) ?_
      refine Eq.trans (g_sI (as := [.int v1]) (rest := [.ref 34]) dX10_move_30 rfl cl138 m180 rfl rfl rfl rfl (Nat.le_of_ble_eq_true rfl) rfl rfl rfl) ?_
      refine am_bI_c (fun r3 t3 => ?_)
      refine Eq.trans (g_A dX10_move_33 rfl rfl) ?_
      refine Eq.trans (g_sI (as := [.int v2]) (rest := [.int r3, .ref 34]) dX10_move_34 rfl cl138 m180 rfl rfl rfl rfl (Nat.le_of_ble_eq_true rfl) rfl rfl rfl) ?_
      refine am_bI_c (fun r4 t4 => ?_)
      refine Eq.trans (g_iceq (t := 44) dX10_move_37 rfl rfl) ?_
      refine am_ite ?_ ?_
      · refine Eq.trans (g_K (v := nI 0) dX10_move_44 rfl rfl) ?_
        rfl
      · refine Eq.trans (g_K (v := nI 2) dX10_move_40 rfl rfl) ?_
        refine Eq.trans (g_goto (pc' := 45) dX10_move_41 rfl) ?_
        rfl
theorem q246_25 (C : am_C) (σ : am_M) (v1 v2 : Int32) : am_go am_X0 C M246 25 [.ref 34, .int v1, .int v2, .null, .null] [.ref 34] σ = am_go am_X0 C M246 45 [.ref 34, .int v1, .int v2, .null, .null] [.int (nI 1), .ref 34] σ := by
  refine Eq.trans (g_K (v := nI 1) dX10_move_25 rfl rfl) ?_
  refine Eq.trans (g_goto (pc' := 45) dX10_move_26 rfl) ?_
  rfl
theorem q246_45 (C : am_C) (σ : am_M) (v1 v2 s0 : Int32) : am_go am_X0 C M246 45 [.ref 34, .int v1, .int v2, .null, .null] [.int s0, .ref 34] σ = if ((am_wI σ 34 25 s0).1 34 25) ≤ (nI 0) then (if am_in v1 85 = true then (if (am_wI σ 34 25 s0).1 35 (v1 : Int32).toNatClampNeg = nI 0 then (am_go am_X0 C M246 101 [.ref 34, .int v1, .int v2, .null, .null] [.ref 34] (am_wI σ 34 25 s0)) else (if am_in v2 85 = true then (if (am_wI σ 34 25 s0).1 35 (v2 : Int32).toNatClampNeg = nI 0 then (am_bI (C 244 [.ref 34, .int v1] (am_wI σ 34 25 s0)) (fun r1 t1 => if r1 = nI 0 then (am_bI (C 186 [.ref 34, .int (-1)] t1) (fun r2 t2 => am_bI (C 200 [.ref 34, .int v2] t2) (fun r3 t3 => am_bI (C 187 [.ref 34, .int r2, .int r3] t3) (fun r4 t4 => if r4 = nI 0 then (am_go am_X0 C M246 101 [.ref 34, .int v1, .int v2, .null, .null] [.ref 34] t4) else (am_go am_X0 C M246 106 [.ref 34, .int v1, .int v2, .null, .null] [.int (nI 0), .ref 34] t4))))) else (am_go am_X0 C M246 101 [.ref 34, .int v1, .int v2, .null, .null] [.ref 34] t1))) else (am_go am_X0 C M246 101 [.ref 34, .int v1, .int v2, .null, .null] [.ref 34] (am_wI σ 34 25 s0))) else none)) else none) else (some (.inl (some (.int (nI 0))), am_wI σ 34 25 s0)) := by
  refine Eq.trans (g_put dX10_move_45 f13 sh34 rfl rfl rfl) ?_
  refine Eq.trans (g_A dX10_move_48 rfl rfl) ?_
  refine Eq.trans (g_getI dX10_move_49 f13 sh34 rfl rfl) ?_
  refine Eq.trans (g_ifle (t := 57) dX10_move_52 rfl rfl) ?_
  refine am_ite ?_ ?_
  · refine Eq.trans (g_A dX10_move_57 rfl rfl) ?_
    refine Eq.trans (g_A dX10_move_58 rfl rfl) ?_
    refine Eq.trans (g_getR dX10_move_59 f15 sh34 rfl rfl) ?_
    refine Eq.trans (g_A dX10_move_62 rfl rfl) ?_
    refine Eq.trans (g_iald dX10_move_63 sh35 rfl) ?_
    refine am_ite ?_ rfl
    refine Eq.trans (g_ifeq (t := 101) dX10_move_64 rfl rfl) ?_
    refine am_ite ?_ ?_
    · rfl
    · refine Eq.trans (g_A dX10_move_67 rfl rfl) ?_
      refine Eq.trans (g_getR dX10_move_68 f15 sh34 rfl rfl) ?_
      refine Eq.trans (g_A dX10_move_71 rfl rfl) ?_
      refine Eq.trans (g_iald dX10_move_72 sh35 rfl) ?_
      refine am_ite ?_ rfl
      refine Eq.trans (g_ifne (t := 101) dX10_move_73 rfl rfl) ?_
      refine am_ite ?_ ?_
      · refine Eq.trans (g_A dX10_move_76 rfl rfl) ?_
        refine Eq.trans (g_A dX10_move_77 rfl rfl) ?_
        refine Eq.trans (g_vI (a := 34) (as := [.int v1]) (rest := [.ref 34]) dX10_move_78 cl139 m244 rfl rfl rfl rfl (Nat.le_of_ble_eq_true rfl) rfl rfl rfl rfl) ?_
        refine am_bI_c (fun r1 t1 => ?_)
        refine Eq.trans (g_ifne (t := 101) dX10_move_81 rfl rfl) ?_
        refine am_ite ?_ ?_
        · refine Eq.trans (g_A dX10_move_84 rfl rfl) ?_
          refine Eq.trans (g_A dX10_move_85 rfl rfl) ?_
          refine Eq.trans (g_K (v := (-1)) dX10_move_86 rfl rfl) ?_
          refine Eq.trans (g_vI (a := 34) (as := [.int (-1)]) (rest := [.ref 34, .ref 34]) dX10_move_87 cl102 m186 rfl rfl rfl rfl (Nat.le_of_ble_eq_true rfl) rfl rfl rfl rfl) ?_
          refine am_bI_c (fun r2 t2 => ?_)
          refine Eq.trans (g_A dX10_move_90 rfl rfl) ?_
          refine Eq.trans (g_A dX10_move_91 rfl rfl) ?_
          refine Eq.trans (g_vI (a := 34) (as := [.int v2]) (rest := [.int r2, .ref 34, .ref 34]) dX10_move_92 cl115 m200 rfl rfl rfl rfl (Nat.le_of_ble_eq_true rfl) rfl rfl rfl rfl) ?_
          refine am_bI_c (fun r3 t3 => ?_)
          refine Eq.trans (g_vI (a := 34) (as := [.int r2, .int r3]) (rest := [.ref 34]) dX10_move_95 cl116 m187 rfl rfl rfl rfl (Nat.le_of_ble_eq_true rfl) rfl rfl rfl rfl) ?_
          refine am_bI_c (fun r4 t4 => ?_)
          refine Eq.trans (g_ifne (t := 105) dX10_move_98 rfl rfl) ?_
          refine am_ite ?_ ?_
          · rfl
          · refine Eq.trans (g_K (v := nI 0) dX10_move_105 rfl rfl) ?_
            rfl
        · rfl
      · rfl
  · refine Eq.trans (g_K (v := nI 0) dX10_move_55 rfl rfl) ?_
    exact g_iret dX10_move_56 rfl
theorem q246_101 (C : am_C) (σ : am_M) (v1 v2 : Int32) : am_go am_X0 C M246 101 [.ref 34, .int v1, .int v2, .null, .null] [.ref 34] σ = am_go am_X0 C M246 106 [.ref 34, .int v1, .int v2, .null, .null] [.int (nI 3), .ref 34] σ := by
  refine Eq.trans (g_K (v := nI 3) dX10_move_101 rfl rfl) ?_
  refine Eq.trans (g_goto (pc' := 106) dX10_move_102 rfl) ?_
  rfl
theorem q246_106 (C : am_C) (σ : am_M) (v1 v2 s0 : Int32) : am_go am_X0 C M246 106 [.ref 34, .int v1, .int v2, .null, .null] [.int s0, .ref 34] σ = if ((am_wI σ 34 25 s0).1 34 25) ≤ (nI 0) then (am_bI (C 179 [.int v2] (am_wI σ 34 25 s0)) (fun r1 t1 => am_bV (C 201 [.ref 34, .int r1] t1) (fun t2 => am_bI (C 245 [.ref 34, .int v1, .int v2] t2) (fun r3 t3 => if am_in v2 85 = true then (am_bI (C 179 [.int v2] t3) (fun r4 t4 => if am_in r4 85 = true then (am_bV (C 189 [.ref 34, .int (t3.1 35 (v2 : Int32).toNatClampNeg), .int (t4.1 35 (r4 : Int32).toNatClampNeg)] t4) (fun t5 => am_bI (C 179 [.int v1] t5) (fun r6 t6 => am_go am_X0 C M246 158 [.ref 34, .int v1, .int v2, .int r3, .int r6] [] t6))) else none)) else none)))) else (some (.inl (some (.int (nI 0))), am_wI σ 34 25 s0)) := by
  refine Eq.trans (g_put dX10_move_106 f13 sh34 rfl rfl rfl) ?_
  refine Eq.trans (g_A dX10_move_109 rfl rfl) ?_
  refine Eq.trans (g_getI dX10_move_110 f13 sh34 rfl rfl) ?_
  refine Eq.trans (g_ifle (t := 118) dX10_move_113 rfl rfl) ?_
  refine am_ite ?_ ?_
  · refine Eq.trans (g_A dX10_move_118 rfl rfl) ?_
    refine Eq.trans (g_A dX10_move_119 rfl rfl) ?_
    refine Eq.trans (g_sI (as := [.int v2]) (rest := [.ref 34]) dX10_move_120 rfl cl100 m179 rfl rfl rfl rfl (Nat.le_of_ble_eq_true rfl) rfl rfl rfl) ?_
    refine am_bI_c (fun r1 t1 => ?_)
    refine Eq.trans (g_vV (a := 34) (as := [.int r1]) (rest := []) dX10_move_123 cl112 m201 rfl rfl rfl rfl (Nat.le_of_ble_eq_true rfl) rfl rfl rfl rfl) ?_
    refine am_bV_c (fun t2 => ?_)
    refine Eq.trans (g_A dX10_move_126 rfl rfl) ?_
    refine Eq.trans (g_A dX10_move_127 rfl rfl) ?_
    refine Eq.trans (g_A dX10_move_128 rfl rfl) ?_
    refine Eq.trans (g_vI (a := 34) (as := [.int v1, .int v2]) (rest := []) dX10_move_129 cl137 m245 rfl rfl rfl rfl (Nat.le_of_ble_eq_true rfl) rfl rfl rfl rfl) ?_
    refine am_bI_c (fun r3 t3 => ?_)
    refine Eq.trans (g_isn (k := 3) dX10_move_132 rfl (Nat.le_of_ble_eq_true rfl) rfl rfl rfl) ?_
    refine Eq.trans (g_A dX10_move_133 rfl rfl) ?_
    refine Eq.trans (g_A dX10_move_134 rfl rfl) ?_
    refine Eq.trans (g_getR dX10_move_135 f15 sh34 rfl rfl) ?_
    refine Eq.trans (g_A dX10_move_138 rfl rfl) ?_
    refine Eq.trans (g_iald dX10_move_139 sh35 rfl) ?_
    refine am_ite ?_ rfl
    refine Eq.trans (g_A dX10_move_140 rfl rfl) ?_
    refine Eq.trans (g_getR dX10_move_141 f15 sh34 rfl rfl) ?_
    refine Eq.trans (g_A dX10_move_144 rfl rfl) ?_
    refine Eq.trans (g_sI (as := [.int v2]) (rest := [.ref 35, .int (t3.1 35 (v2 : Int32).toNatClampNeg), .ref 34]) dX10_move_145 rfl cl100 m179 rfl rfl rfl rfl (Nat.le_of_ble_eq_true rfl) rfl rfl rfl) ?_
    refine am_bI_c (fun r4 t4 => ?_)
    refine Eq.trans (g_iald dX10_move_148 sh35 rfl) ?_
    refine am_ite ?_ rfl
    refine Eq.trans (g_vV (a := 34) (as := [.int (t3.1 35 (v2 : Int32).toNatClampNeg), .int (t4.1 35 (r4 : Int32).toNatClampNeg)]) (rest := []) dX10_move_149 cl113 m189 rfl rfl rfl rfl (Nat.le_of_ble_eq_true rfl) rfl rfl rfl rfl) ?_
    refine am_bV_c (fun t5 => ?_)
    refine Eq.trans (g_A dX10_move_152 rfl rfl) ?_
    refine Eq.trans (g_sI (as := [.int v1]) (rest := []) dX10_move_153 rfl cl100 m179 rfl rfl rfl rfl (Nat.le_of_ble_eq_true rfl) rfl rfl rfl) ?_
    refine am_bI_c (fun r6 t6 => ?_)
    refine Eq.trans (g_ist (k := 4) dX10_move_156 (Nat.le_of_ble_eq_true rfl) rfl rfl rfl) ?_
    rfl
  · refine Eq.trans (g_K (v := nI 0) dX10_move_116 rfl rfl) ?_
    exact g_iret dX10_move_117 rfl
theorem q246_158 (C : am_C) (σ : am_M) (v1 v2 v3 v4 : Int32) : am_go am_X0 C M246 158 [.ref 34, .int v1, .int v2, .int v3, .int v4] [] σ = if v4 ≤ (nI 0) then (some (.inl (some (.int v3)), σ)) else (am_bI (C 231 [.ref 34, .int v4] σ) (fun r1 t1 => if r1 = nI 0 then (if am_in v4 85 = true then (am_bI (C 179 [.int v4] (am_wI t1 35 (v4 : Int32).toNatClampNeg (nI 0))) (fun r2 t2 => am_go am_X0 C M246 158 [.ref 34, .int v1, .int v2, .int v3, .int r2] [] t2)) else none) else (some (.inl (some (.int v3)), t1)))) := by
  refine Eq.trans (g_A dX10_move_158 rfl rfl) ?_
  refine Eq.trans (g_ifle (t := 190) dX10_move_160 rfl rfl) ?_
  refine am_ite ?_ ?_
  · refine Eq.trans (g_A dX10_move_190 rfl rfl) ?_
    exact g_iret dX10_move_191 rfl
  · refine Eq.trans (g_A dX10_move_163 rfl rfl) ?_
    refine Eq.trans (g_A dX10_move_164 rfl rfl) ?_
    refine Eq.trans (g_vI (a := 34) (as := [.int v4]) (rest := []) dX10_move_166 cl136 m231 rfl rfl rfl rfl (Nat.le_of_ble_eq_true rfl) rfl rfl rfl rfl) ?_
    refine am_bI_c (fun r1 t1 => ?_)
    refine Eq.trans (g_ifne (t := 190) dX10_move_169 rfl rfl) ?_
    refine am_ite ?_ ?_
    · refine Eq.trans (g_A dX10_move_172 rfl rfl) ?_
      refine Eq.trans (g_getR dX10_move_173 f15 sh34 rfl rfl) ?_
      refine Eq.trans (g_A dX10_move_176 rfl rfl) ?_
      refine Eq.trans (g_K (v := nI 0) dX10_move_178 rfl rfl) ?_
      refine Eq.trans (g_iast dX10_move_179 sh35 rfl) ?_
      refine am_ite ?_ rfl
      refine Eq.trans (g_A dX10_move_180 rfl rfl) ?_
      refine Eq.trans (g_sI (as := [.int v4]) (rest := []) dX10_move_182 rfl cl100 m179 rfl rfl rfl rfl (Nat.le_of_ble_eq_true rfl) rfl rfl rfl) ?_
      refine am_bI_c (fun r2 t2 => ?_)
      refine Eq.trans (g_ist (k := 4) dX10_move_185 (Nat.le_of_ble_eq_true rfl) rfl rfl rfl) ?_
      refine Eq.trans (g_goto (pc' := 158) dX10_move_187 rfl) ?_
      rfl
    · refine Eq.trans (g_A dX10_move_190 rfl rfl) ?_
      exact g_iret dX10_move_191 rfl
theorem q247_0 (C : am_C) (σ : am_M) (v1 : Int32) : am_go am_X0 C M247 0 [.ref 34, .int v1] [] σ = am_bI (C 184 [.ref 34, .int v1] σ) (fun r1 t1 => if r1 = nI 0 then (am_go am_X0 C M247 14 [.ref 34, .int v1] [.int (nI 1), .ref 34] t1) else (am_go am_X0 C M247 14 [.ref 34, .int v1] [.int (nI 0), .ref 34] t1)) := by
  refine Eq.trans (g_A dX10_openingKeys_0 rfl rfl) ?_
  refine Eq.trans (g_A dX10_openingKeys_1 rfl rfl) ?_
  refine Eq.trans (g_A dX10_openingKeys_2 rfl rfl) ?_
  refine Eq.trans (g_vI (a := 34) (as := [.int v1]) (rest := [.ref 34]) dX10_openingKeys_3 cl118 m184 rfl rfl rfl rfl (Nat.le_of_ble_eq_true rfl) rfl rfl rfl rfl) ?_
  refine am_bI_c (fun r1 t1 => ?_)
  refine Eq.trans (g_ifeq (t := 13) dX10_openingKeys_6 rfl rfl) ?_
  refine am_ite ?_ ?_
  · refine Eq.trans (g_K (v := nI 1) dX10_openingKeys_13 rfl rfl) ?_
    rfl
  · refine Eq.trans (g_K (v := nI 0) dX10_openingKeys_9 rfl rfl) ?_
    refine Eq.trans (g_goto (pc' := 14) dX10_openingKeys_10 rfl) ?_
    rfl
theorem q247_14 (C : am_C) (σ : am_M) (v1 s0 : Int32) : am_go am_X0 C M247 14 [.ref 34, .int v1] [.int s0, .ref 34] σ = if ((am_wI σ 34 25 s0).1 34 25) ≤ (nI 0) then (am_bV (C 199 [.ref 34, .int v1] (am_wI σ 34 25 s0)) (fun t1 => some (.inl (some (.int (t1.1 34 27))), t1))) else (some (.inl (some (.int (nI 0))), am_wI σ 34 25 s0)) := by
  refine Eq.trans (g_put dX10_openingKeys_14 f13 sh34 rfl rfl rfl) ?_
  refine Eq.trans (g_A dX10_openingKeys_17 rfl rfl) ?_
  refine Eq.trans (g_getI dX10_openingKeys_18 f13 sh34 rfl rfl) ?_
  refine Eq.trans (g_ifle (t := 26) dX10_openingKeys_21 rfl rfl) ?_
  refine am_ite ?_ ?_
  · refine Eq.trans (g_A dX10_openingKeys_26 rfl rfl) ?_
    refine Eq.trans (g_A dX10_openingKeys_27 rfl rfl) ?_
    refine Eq.trans (g_vV (a := 34) (as := [.int v1]) (rest := []) dX10_openingKeys_28 cl119 m199 rfl rfl rfl rfl (Nat.le_of_ble_eq_true rfl) rfl rfl rfl rfl) ?_
    refine am_bV_c (fun t1 => ?_)
    refine Eq.trans (g_A dX10_openingKeys_31 rfl rfl) ?_
    refine Eq.trans (g_getI dX10_openingKeys_32 f31 sh34 rfl rfl) ?_
    exact g_iret dX10_openingKeys_35 rfl
  · refine Eq.trans (g_K (v := nI 0) dX10_openingKeys_24 rfl rfl) ?_
    exact g_iret dX10_openingKeys_25 rfl
theorem q248_0 (C : am_C) (σ : am_M) : am_go am_X0 C M248 0 [.ref 34] [] σ = if σ.1 34 22 = nI 8 then (am_go am_X0 C M248 15 [.ref 34] [.int (nI 1), .ref 34] σ) else (am_go am_X0 C M248 15 [.ref 34] [.int (nI 0), .ref 34] σ) := by
  refine Eq.trans (g_A dX10_addMedium_0 rfl rfl) ?_
  refine Eq.trans (g_A dX10_addMedium_1 rfl rfl) ?_
  refine Eq.trans (g_getI dX10_addMedium_2 f23 sh34 rfl rfl) ?_
  refine Eq.trans (g_K (v := nI 8) dX10_addMedium_5 rfl rfl) ?_
  refine Eq.trans (g_icne (t := 14) dX10_addMedium_7 rfl rfl) ?_
  refine am_ite ?_ ?_
  · refine Eq.trans (g_K (v := nI 1) dX10_addMedium_10 rfl rfl) ?_
    refine Eq.trans (g_goto (pc' := 15) dX10_addMedium_11 rfl) ?_
    rfl
  · refine Eq.trans (g_K (v := nI 0) dX10_addMedium_14 rfl rfl) ?_
    rfl
theorem q248_15 (C : am_C) (σ : am_M) (s0 : Int32) : am_go am_X0 C M248 15 [.ref 34] [.int s0, .ref 34] σ = if ((am_wI σ 34 25 s0).1 34 25) ≤ (nI 0) then (if am_in ((am_wI σ 34 25 s0).1 34 22) 8 = true then (if am_in ((am_wI (am_wI σ 34 25 s0) 44 ((am_wI σ 34 25 s0).1 34 22 : Int32).toNatClampNeg (nI 0)).1 34 22) 8 = true then (some (.inl (some (.int (((am_wI (am_wI (am_wI (am_wI σ 34 25 s0) 44 ((am_wI σ 34 25 s0).1 34 22 : Int32).toNatClampNeg (nI 0)) 45 ((am_wI (am_wI σ 34 25 s0) 44 ((am_wI σ 34 25 s0).1 34 22 : Int32).toNatClampNeg (nI 0)).1 34 22 : Int32).toNatClampNeg (nI 0)) 34 22 (((am_wI (am_wI (am_wI σ 34 25 s0) 44 ((am_wI σ 34 25 s0).1 34 22 : Int32).toNatClampNeg (nI 0)) 45 ((am_wI (am_wI σ 34 25 s0) 44 ((am_wI σ 34 25 s0).1 34 22 : Int32).toNatClampNeg (nI 0)).1 34 22 : Int32).toNatClampNeg (nI 0)).1 34 22) + (nI 1))).1 34 22) - (nI 1)))), am_wI (am_wI (am_wI (am_wI σ 34 25 s0) 44 ((am_wI σ 34 25 s0).1 34 22 : Int32).toNatClampNeg (nI 0)) 45 ((am_wI (am_wI σ 34 25 s0) 44 ((am_wI σ 34 25 s0).1 34 22 : Int32).toNatClampNeg (nI 0)).1 34 22 : Int32).toNatClampNeg (nI 0)) 34 22 (((am_wI (am_wI (am_wI σ 34 25 s0) 44 ((am_wI σ 34 25 s0).1 34 22 : Int32).toNatClampNeg (nI 0)) 45 ((am_wI (am_wI σ 34 25 s0) 44 ((am_wI σ 34 25 s0).1 34 22 : Int32).toNatClampNeg (nI 0)).1 34 22 : Int32).toNatClampNeg (nI 0)).1 34 22) + (nI 1)))) else none) else none) else (some (.inl (some (.int (nI 0))), am_wI σ 34 25 s0)) := by
  refine Eq.trans (g_put dX10_addMedium_15 f13 sh34 rfl rfl rfl) ?_
  refine Eq.trans (g_A dX10_addMedium_18 rfl rfl) ?_
  refine Eq.trans (g_getI dX10_addMedium_19 f13 sh34 rfl rfl) ?_
  refine Eq.trans (g_ifle (t := 27) dX10_addMedium_22 rfl rfl) ?_
  refine am_ite ?_ ?_
  · refine Eq.trans (g_A dX10_addMedium_27 rfl rfl) ?_
    refine Eq.trans (g_getR dX10_addMedium_28 f21 sh34 rfl rfl) ?_
    refine Eq.trans (g_A dX10_addMedium_31 rfl rfl) ?_
    refine Eq.trans (g_getI dX10_addMedium_32 f23 sh34 rfl rfl) ?_
    refine Eq.trans (g_K (v := nI 0) dX10_addMedium_35 rfl rfl) ?_
    refine Eq.trans (g_iast dX10_addMedium_36 sh44 rfl) ?_
    refine am_ite ?_ rfl
    refine Eq.trans (g_A dX10_addMedium_37 rfl rfl) ?_
    refine Eq.trans (g_getR dX10_addMedium_38 f22 sh34 rfl rfl) ?_
    refine Eq.trans (g_A dX10_addMedium_41 rfl rfl) ?_
    refine Eq.trans (g_getI dX10_addMedium_42 f23 sh34 rfl rfl) ?_
    refine Eq.trans (g_K (v := nI 0) dX10_addMedium_45 rfl rfl) ?_
    refine Eq.trans (g_iast dX10_addMedium_46 sh45 rfl) ?_
    refine am_ite ?_ rfl
    refine Eq.trans (g_A dX10_addMedium_47 rfl rfl) ?_
    refine Eq.trans (g_B dX10_addMedium_48 rfl rfl rfl) ?_
    refine Eq.trans (g_getI dX10_addMedium_49 f23 sh34 rfl rfl) ?_
    refine Eq.trans (g_K (v := nI 1) dX10_addMedium_52 rfl rfl) ?_
    refine Eq.trans (g_iadd dX10_addMedium_53 rfl) ?_
    refine Eq.trans (g_put dX10_addMedium_54 f23 sh34 rfl rfl rfl) ?_
    refine Eq.trans (g_A dX10_addMedium_57 rfl rfl) ?_
    refine Eq.trans (g_getI dX10_addMedium_58 f23 sh34 rfl rfl) ?_
    refine Eq.trans (g_K (v := nI 1) dX10_addMedium_61 rfl rfl) ?_
    refine Eq.trans (g_isub dX10_addMedium_62 rfl) ?_
    exact g_iret dX10_addMedium_63 rfl
  · refine Eq.trans (g_K (v := nI 0) dX10_addMedium_25 rfl rfl) ?_
    exact g_iret dX10_addMedium_26 rfl
theorem q249_0 (C : am_C) (σ : am_M) : am_go am_X0 C M249 0 [.ref 34] [] σ = some (.inl (some (.int ((am_wI σ 34 25 (nI 0)).1 34 22))), am_wI σ 34 25 (nI 0)) := by
  refine Eq.trans (g_A dX10_mediumCount_0 rfl rfl) ?_
  refine Eq.trans (g_K (v := nI 0) dX10_mediumCount_1 rfl rfl) ?_
  refine Eq.trans (g_put dX10_mediumCount_2 f13 sh34 rfl rfl rfl) ?_
  refine Eq.trans (g_A dX10_mediumCount_5 rfl rfl) ?_
  refine Eq.trans (g_getI dX10_mediumCount_6 f23 sh34 rfl rfl) ?_
  exact g_iret dX10_mediumCount_9 rfl
