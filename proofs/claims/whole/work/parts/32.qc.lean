theorem q97_0 (C : am_C) (σ : am_M) (v1 : Int32) : am_go am_X0 C M97 0 [.ref 0, .int v1] [] σ = am_bV (C 143 [.ref 0, .int v1] σ) (fun t1 => some (.inl none, t1)) := by
  refine Eq.trans (g_A dX9_reset_0 rfl rfl) ?_
  refine Eq.trans (g_A dX9_reset_1 rfl rfl) ?_
  refine Eq.trans (g_vV (a := 0) (as := [.int v1]) (rest := []) dX9_reset_2 cl0 m143 rfl rfl rfl rfl (Nat.le_of_ble_eq_true rfl) rfl rfl rfl rfl) ?_
  refine am_bV_c (fun t1 => ?_)
  exact g_vret dX9_reset_5 rfl
theorem q98_0 (C : am_C) (σ : am_M) (v1 : Int32) (w2 : Int64) : am_go am_X0 C M98 0 [.ref 0, .int v1, .long w2, .null, .null, .null] [] σ = am_bV (C 144 [.int v1, .int (nI 64)] σ) (fun t1 => am_bI (C 79 [.ref 3, .int v1] t1) (fun r2 t2 => if r2 = (-1) then (am_bI (C 57 [.ref 2] t2) (fun r3 t3 => if r3 = nI 0 then (am_bI (C 164 [.int v1] t3) (fun r4 t4 => am_bI (C 90 [.ref 3, .int r4] t4) (fun r5 t5 => am_bV (C 146 [.ref 0, .int (r5 + (nI 1))] t5) (fun t6 => am_bV (C 153 [.ref 0, .int r4] t6) (fun t7 => am_bI (C 59 [.ref 2, .int v1, .long w2] t7) (fun r8 t8 => am_bV (C 83 [.ref 3, .int v1, .int r8] t8) (fun t9 => am_bI (C 77 [.ref 3, .int r4] t9) (fun r10 t10 => am_bV (C 150 [.ref 0, .int (nI 1), .int r8, .int r10] t10) (fun t11 => some (.inl (some (.int r8)), t11)))))))))) else (am_go am_X0 C M98 28 [.ref 0, .int v1, .long w2, .null, .null, .null] [] t3))) else (am_go am_X0 C M98 28 [.ref 0, .int v1, .long w2, .null, .null, .null] [] t2))) := by
  refine Eq.trans (g_A dX9_store_0 rfl rfl) ?_
  refine Eq.trans (g_K (v := nI 64) dX9_store_1 rfl rfl) ?_
  refine Eq.trans (g_sV (as := [.int v1, .int (nI 64)]) (rest := []) dX9_store_3 rfl cl1 m144 rfl rfl rfl rfl (Nat.le_of_ble_eq_true rfl) rfl rfl rfl) ?_
  refine am_bV_c (fun t1 => ?_)
  refine Eq.trans (g_A dX9_store_6 rfl rfl) ?_
  refine Eq.trans (g_getR dX9_store_7 f0 sh0 rfl rfl) ?_
  refine Eq.trans (g_A dX9_store_10 rfl rfl) ?_
  refine Eq.trans (g_vI (a := 3) (as := [.int v1]) (rest := []) dX9_store_11 cl2 m79 rfl rfl rfl rfl (Nat.le_of_ble_eq_true rfl) rfl rfl rfl rfl) ?_
  refine am_bI_c (fun r2 t2 => ?_)
  refine Eq.trans (g_K (v := (-1)) dX9_store_14 rfl rfl) ?_
  refine Eq.trans (g_icne (t := 28) dX9_store_15 rfl rfl) ?_
  refine am_ite ?_ ?_
  · refine Eq.trans (g_A dX9_store_18 rfl rfl) ?_
    refine Eq.trans (g_getR dX9_store_19 f1 sh0 rfl rfl) ?_
    refine Eq.trans (g_vI (a := 2) (as := []) (rest := []) dX9_store_22 cl3 m57 rfl rfl rfl rfl (Nat.le_of_ble_eq_true rfl) rfl rfl rfl rfl) ?_
    refine am_bI_c (fun r3 t3 => ?_)
    refine Eq.trans (g_ifeq (t := 38) dX9_store_25 rfl rfl) ?_
    refine am_ite ?_ ?_
    · refine Eq.trans (g_A dX9_store_38 rfl rfl) ?_
      refine Eq.trans (g_sI (as := [.int v1]) (rest := []) dX9_store_39 rfl cl4 m164 rfl rfl rfl rfl (Nat.le_of_ble_eq_true rfl) rfl rfl rfl) ?_
      refine am_bI_c (fun r4 t4 => ?_)
      refine Eq.trans (g_ist (k := 4) dX9_store_42 (Nat.le_of_ble_eq_true rfl) rfl rfl rfl) ?_
      refine Eq.trans (g_A dX9_store_44 rfl rfl) ?_
      refine Eq.trans (g_A dX9_store_45 rfl rfl) ?_
      refine Eq.trans (g_getR dX9_store_46 f0 sh0 rfl rfl) ?_
      refine Eq.trans (g_A dX9_store_49 rfl rfl) ?_
      refine Eq.trans (g_vI (a := 3) (as := [.int r4]) (rest := [.ref 0]) dX9_store_51 cl5 m90 rfl rfl rfl rfl (Nat.le_of_ble_eq_true rfl) rfl rfl rfl rfl) ?_
      refine am_bI_c (fun r5 t5 => ?_)
      refine Eq.trans (g_K (v := nI 1) dX9_store_54 rfl rfl) ?_
      refine Eq.trans (g_iadd dX9_store_55 rfl) ?_
      refine Eq.trans (g_vV (a := 0) (as := [.int (r5 + (nI 1))]) (rest := []) dX9_store_56 cl6 m146 rfl rfl rfl rfl (Nat.le_of_ble_eq_true rfl) rfl rfl rfl rfl) ?_
      refine am_bV_c (fun t6 => ?_)
      refine Eq.trans (g_A dX9_store_59 rfl rfl) ?_
      refine Eq.trans (g_A dX9_store_60 rfl rfl) ?_
      refine Eq.trans (g_vV (a := 0) (as := [.int r4]) (rest := []) dX9_store_62 cl7 m153 rfl rfl rfl rfl (Nat.le_of_ble_eq_true rfl) rfl rfl rfl rfl) ?_
      refine am_bV_c (fun t7 => ?_)
      refine Eq.trans (g_A dX9_store_65 rfl rfl) ?_
      refine Eq.trans (g_getR dX9_store_66 f1 sh0 rfl rfl) ?_
      refine Eq.trans (g_A dX9_store_69 rfl rfl) ?_
      refine Eq.trans (g_A dX9_store_70 rfl rfl) ?_
      refine Eq.trans (g_vI (a := 2) (as := [.int v1, .long w2]) (rest := []) dX9_store_71 cl8 m59 rfl rfl rfl rfl (Nat.le_of_ble_eq_true rfl) rfl rfl rfl rfl) ?_
      refine am_bI_c (fun r8 t8 => ?_)
      refine Eq.trans (g_ist (k := 5) dX9_store_74 (Nat.le_of_ble_eq_true rfl) rfl rfl rfl) ?_
      refine Eq.trans (g_A dX9_store_76 rfl rfl) ?_
      refine Eq.trans (g_getR dX9_store_77 f0 sh0 rfl rfl) ?_
      refine Eq.trans (g_A dX9_store_80 rfl rfl) ?_
      refine Eq.trans (g_A dX9_store_81 rfl rfl) ?_
      refine Eq.trans (g_vV (a := 3) (as := [.int v1, .int r8]) (rest := []) dX9_store_83 cl9 m83 rfl rfl rfl rfl (Nat.le_of_ble_eq_true rfl) rfl rfl rfl rfl) ?_
      refine am_bV_c (fun t9 => ?_)
      refine Eq.trans (g_A dX9_store_86 rfl rfl) ?_
      refine Eq.trans (g_K (v := nI 1) dX9_store_87 rfl rfl) ?_
      refine Eq.trans (g_A dX9_store_88 rfl rfl) ?_
      refine Eq.trans (g_A dX9_store_90 rfl rfl) ?_
      refine Eq.trans (g_getR dX9_store_91 f0 sh0 rfl rfl) ?_
      refine Eq.trans (g_A dX9_store_94 rfl rfl) ?_
      refine Eq.trans (g_vI (a := 3) (as := [.int r4]) (rest := [.int r8, .int (nI 1), .ref 0]) dX9_store_96 cl10 m77 rfl rfl rfl rfl (Nat.le_of_ble_eq_true rfl) rfl rfl rfl rfl) ?_
      refine am_bI_c (fun r10 t10 => ?_)
      refine Eq.trans (g_vV (a := 0) (as := [.int (nI 1), .int r8, .int r10]) (rest := []) dX9_store_99 cl11 m150 rfl rfl rfl rfl (Nat.le_of_ble_eq_true rfl) rfl rfl rfl rfl) ?_
      refine am_bV_c (fun t11 => ?_)
      refine Eq.trans (g_A dX9_store_102 rfl rfl) ?_
      exact g_iret dX9_store_104 rfl
    · rfl
  · rfl
theorem q98_28 (C : am_C) (σ : am_M) (v1 : Int32) (w2 : Int64) : am_go am_X0 C M98 28 [.ref 0, .int v1, .long w2, .null, .null, .null] [] σ = some (.inr "java/lang/IllegalStateException", am_tick σ) := by
  exact g_thr dX9_store_28 dX9_store_31 (Or.inl ⟨dX9_store_32, rfl⟩) dX9_store_34 dX9_store_37 rfl xt0 (Nat.le_of_ble_eq_true rfl)
theorem q99_0 (C : am_C) (σ : am_M) (v1 : Int32) : am_go am_X0 C M99 0 [.ref 0, .int v1] [] σ = am_bV (C 144 [.int v1, .int (nI 64)] σ) (fun t1 => am_bV (C 0 [.ref 6, .int (-1)] t1) (fun t2 => am_bI (C 1 [.ref 6, .int v1, .int (-1)] t2) (fun r3 t3 => if r3 = nI 0 then (some (.inr "java/util/NoSuchElementException", am_tick t3)) else (am_bI (C 79 [.ref 3, .int v1] t3) (fun r4 t4 => am_bJ (C 61 [.ref 2, .int r4] t4) (fun r5 t5 => some (.inl (some (.long r5)), t5))))))) := by
  refine Eq.trans (g_A dX9_read_0 rfl rfl) ?_
  refine Eq.trans (g_K (v := nI 64) dX9_read_1 rfl rfl) ?_
  refine Eq.trans (g_sV (as := [.int v1, .int (nI 64)]) (rest := []) dX9_read_3 rfl cl1 m144 rfl rfl rfl rfl (Nat.le_of_ble_eq_true rfl) rfl rfl rfl) ?_
  refine am_bV_c (fun t1 => ?_)
  refine Eq.trans (g_A dX9_read_6 rfl rfl) ?_
  refine Eq.trans (g_getR dX9_read_7 f2 sh0 rfl rfl) ?_
  refine Eq.trans (g_K (v := (-1)) dX9_read_10 rfl rfl) ?_
  refine Eq.trans (g_vV (a := 6) (as := [.int (-1)]) (rest := []) dX9_read_11 cl12 m0 rfl rfl rfl rfl (Nat.le_of_ble_eq_true rfl) rfl rfl rfl rfl) ?_
  refine am_bV_c (fun t2 => ?_)
  refine Eq.trans (g_A dX9_read_14 rfl rfl) ?_
  refine Eq.trans (g_getR dX9_read_15 f2 sh0 rfl rfl) ?_
  refine Eq.trans (g_A dX9_read_18 rfl rfl) ?_
  refine Eq.trans (g_K (v := (-1)) dX9_read_19 rfl rfl) ?_
  refine Eq.trans (g_vI (a := 6) (as := [.int v1, .int (-1)]) (rest := []) dX9_read_20 cl13 m1 rfl rfl rfl rfl (Nat.le_of_ble_eq_true rfl) rfl rfl rfl rfl) ?_
  refine am_bI_c (fun r3 t3 => ?_)
  refine Eq.trans (g_ifne (t := 36) dX9_read_23 rfl rfl) ?_
  refine am_ite ?_ ?_
  · exact g_thr dX9_read_26 dX9_read_29 (Or.inl ⟨dX9_read_30, rfl⟩) dX9_read_32 dX9_read_35 rfl xt1 (Nat.le_of_ble_eq_true rfl)
  · refine Eq.trans (g_A dX9_read_36 rfl rfl) ?_
    refine Eq.trans (g_getR dX9_read_37 f1 sh0 rfl rfl) ?_
    refine Eq.trans (g_A dX9_read_40 rfl rfl) ?_
    refine Eq.trans (g_getR dX9_read_41 f0 sh0 rfl rfl) ?_
    refine Eq.trans (g_A dX9_read_44 rfl rfl) ?_
    refine Eq.trans (g_vI (a := 3) (as := [.int v1]) (rest := [.ref 2]) dX9_read_45 cl2 m79 rfl rfl rfl rfl (Nat.le_of_ble_eq_true rfl) rfl rfl rfl rfl) ?_
    refine am_bI_c (fun r4 t4 => ?_)
    refine Eq.trans (g_vJ (a := 2) (as := [.int r4]) (rest := []) dX9_read_48 cl14 m61 rfl rfl rfl rfl (Nat.le_of_ble_eq_true rfl) rfl rfl rfl rfl) ?_
    refine am_bJ_c (fun r5 t5 => ?_)
    exact g_lret dX9_read_51 rfl
theorem q100_0 (C : am_C) (σ : am_M) (v1 : Int32) : am_go am_X0 C M100 0 [.ref 0, .int v1] [] σ = am_bV (C 144 [.int v1, .int (nI 64)] σ) (fun t1 => am_bI (C 79 [.ref 3, .int v1] t1) (fun r2 t2 => some (.inl (some (.int r2)), t2))) := by
  refine Eq.trans (g_A dX9_recordAt_0 rfl rfl) ?_
  refine Eq.trans (g_K (v := nI 64) dX9_recordAt_1 rfl rfl) ?_
  refine Eq.trans (g_sV (as := [.int v1, .int (nI 64)]) (rest := []) dX9_recordAt_3 rfl cl1 m144 rfl rfl rfl rfl (Nat.le_of_ble_eq_true rfl) rfl rfl rfl) ?_
  refine am_bV_c (fun t1 => ?_)
  refine Eq.trans (g_A dX9_recordAt_6 rfl rfl) ?_
  refine Eq.trans (g_getR dX9_recordAt_7 f0 sh0 rfl rfl) ?_
  refine Eq.trans (g_A dX9_recordAt_10 rfl rfl) ?_
  refine Eq.trans (g_vI (a := 3) (as := [.int v1]) (rest := []) dX9_recordAt_11 cl2 m79 rfl rfl rfl rfl (Nat.le_of_ble_eq_true rfl) rfl rfl rfl rfl) ?_
  refine am_bI_c (fun r2 t2 => ?_)
  exact g_iret dX9_recordAt_14 rfl
theorem q101_0 (C : am_C) (σ : am_M) (v1 : Int32) : am_go am_X0 C M101 0 [.ref 0, .int v1] [] σ = am_bI (C 58 [.ref 2] σ) (fun r1 t1 => am_bV (C 144 [.int v1, .int r1] t1) (fun t2 => am_bI (C 62 [.ref 2, .int v1] t2) (fun r3 t3 => some (.inl (some (.int r3)), t3)))) := by
  refine Eq.trans (g_A dX9_leafOf_0 rfl rfl) ?_
  refine Eq.trans (g_A dX9_leafOf_1 rfl rfl) ?_
  refine Eq.trans (g_getR dX9_leafOf_2 f1 sh0 rfl rfl) ?_
  refine Eq.trans (g_vI (a := 2) (as := []) (rest := [.int v1]) dX9_leafOf_5 cl15 m58 rfl rfl rfl rfl (Nat.le_of_ble_eq_true rfl) rfl rfl rfl rfl) ?_
  refine am_bI_c (fun r1 t1 => ?_)
  refine Eq.trans (g_sV (as := [.int v1, .int r1]) (rest := []) dX9_leafOf_8 rfl cl1 m144 rfl rfl rfl rfl (Nat.le_of_ble_eq_true rfl) rfl rfl rfl) ?_
  refine am_bV_c (fun t2 => ?_)
  refine Eq.trans (g_A dX9_leafOf_11 rfl rfl) ?_
  refine Eq.trans (g_getR dX9_leafOf_12 f1 sh0 rfl rfl) ?_
  refine Eq.trans (g_A dX9_leafOf_15 rfl rfl) ?_
  refine Eq.trans (g_vI (a := 2) (as := [.int v1]) (rest := []) dX9_leafOf_16 cl16 m62 rfl rfl rfl rfl (Nat.le_of_ble_eq_true rfl) rfl rfl rfl rfl) ?_
  refine am_bI_c (fun r3 t3 => ?_)
  exact g_iret dX9_leafOf_19 rfl
theorem q102_0 (C : am_C) (σ : am_M) (v1 : Int32) : am_go am_X0 C M102 0 [.ref 0, .int v1, .null] [] σ = am_bV (C 145 [.int v1, .int (nI 2)] σ) (fun t1 => if v1 = nI 0 then (am_bI (C 58 [.ref 2] t1) (fun r5 t5 => some (.inl (some (.int r5)), t5))) else (am_bI (C 88 [.ref 3, .int (nI 0), .int (nI 64)] t1) (fun r2 t2 => if v1 = nI 1 then (some (.inl (some (.int r2)), t2)) else (am_bV (C 0 [.ref 6, .int (-1)] t2) (fun t3 => am_bI (C 2 [.ref 6, .int (-1)] t3) (fun r4 t4 => some (.inl (some (.int (r2 - r4))), t4))))))) := by
  refine Eq.trans (g_A dX9_recordCount_0 rfl rfl) ?_
  refine Eq.trans (g_K (v := nI 2) dX9_recordCount_1 rfl rfl) ?_
  refine Eq.trans (g_sV (as := [.int v1, .int (nI 2)]) (rest := []) dX9_recordCount_2 rfl cl17 m145 rfl rfl rfl rfl (Nat.le_of_ble_eq_true rfl) rfl rfl rfl) ?_
  refine am_bV_c (fun t1 => ?_)
  refine Eq.trans (g_A dX9_recordCount_5 rfl rfl) ?_
  refine Eq.trans (g_ifne (t := 17) dX9_recordCount_6 rfl rfl) ?_
  refine am_ite ?_ ?_
  · refine Eq.trans (g_A dX9_recordCount_9 rfl rfl) ?_
    refine Eq.trans (g_getR dX9_recordCount_10 f1 sh0 rfl rfl) ?_
    refine Eq.trans (g_vI (a := 2) (as := []) (rest := []) dX9_recordCount_13 cl15 m58 rfl rfl rfl rfl (Nat.le_of_ble_eq_true rfl) rfl rfl rfl rfl) ?_
    refine am_bI_c (fun r5 t5 => ?_)
    exact g_iret dX9_recordCount_16 rfl
  · refine Eq.trans (g_A dX9_recordCount_17 rfl rfl) ?_
    refine Eq.trans (g_getR dX9_recordCount_18 f0 sh0 rfl rfl) ?_
    refine Eq.trans (g_K (v := nI 0) dX9_recordCount_21 rfl rfl) ?_
    refine Eq.trans (g_K (v := nI 64) dX9_recordCount_22 rfl rfl) ?_
    refine Eq.trans (g_vI (a := 3) (as := [.int (nI 0), .int (nI 64)]) (rest := []) dX9_recordCount_24 cl18 m88 rfl rfl rfl rfl (Nat.le_of_ble_eq_true rfl) rfl rfl rfl rfl) ?_
    refine am_bI_c (fun r2 t2 => ?_)
    refine Eq.trans (g_isn (k := 2) dX9_recordCount_27 rfl (Nat.le_of_ble_eq_true rfl) rfl rfl rfl) ?_
    refine Eq.trans (g_A dX9_recordCount_28 rfl rfl) ?_
    refine Eq.trans (g_K (v := nI 1) dX9_recordCount_29 rfl rfl) ?_
    refine Eq.trans (g_icne (t := 35) dX9_recordCount_30 rfl rfl) ?_
    refine am_ite ?_ ?_
    · refine Eq.trans (g_A dX9_recordCount_33 rfl rfl) ?_
      exact g_iret dX9_recordCount_34 rfl
    · refine Eq.trans (g_A dX9_recordCount_35 rfl rfl) ?_
      refine Eq.trans (g_getR dX9_recordCount_36 f2 sh0 rfl rfl) ?_
      refine Eq.trans (g_K (v := (-1)) dX9_recordCount_39 rfl rfl) ?_
      refine Eq.trans (g_vV (a := 6) (as := [.int (-1)]) (rest := []) dX9_recordCount_40 cl12 m0 rfl rfl rfl rfl (Nat.le_of_ble_eq_true rfl) rfl rfl rfl rfl) ?_
      refine am_bV_c (fun t3 => ?_)
      refine Eq.trans (g_A dX9_recordCount_43 rfl rfl) ?_
      refine Eq.trans (g_A dX9_recordCount_44 rfl rfl) ?_
      refine Eq.trans (g_getR dX9_recordCount_45 f2 sh0 rfl rfl) ?_
      refine Eq.trans (g_K (v := (-1)) dX9_recordCount_48 rfl rfl) ?_
      refine Eq.trans (g_vI (a := 6) (as := [.int (-1)]) (rest := [.int r2]) dX9_recordCount_49 cl19 m2 rfl rfl rfl rfl (Nat.le_of_ble_eq_true rfl) rfl rfl rfl rfl) ?_
      refine am_bI_c (fun r4 t4 => ?_)
      refine Eq.trans (g_isub dX9_recordCount_52 rfl) ?_
      exact g_iret dX9_recordCount_53 rfl
theorem q103_0 (C : am_C) (σ : am_M) (v1 : Int32) : am_go am_X0 C M103 0 [.ref 0, .int v1, .null, .null] [] σ = am_bI (C 58 [.ref 2] σ) (fun r1 t1 => am_bV (C 144 [.int v1, .int r1] t1) (fun t2 => am_bV (C 68 [.ref 5, .int v1] t2) (fun t3 => am_bI (C 77 [.ref 3, .int (nI 0)] t3) (fun r4 t4 => am_bI (C 67 [.ref 5, .int r4] t4) (fun r5 t5 => if r5 ≤ (nI 0) then (am_go am_X0 C M103 45 [.ref 0, .int v1, .int (nI 0), .int (nI 0)] [] t5) else (am_go am_X0 C M103 45 [.ref 0, .int v1, .int (nI 1), .int (nI 0)] [] t5)))))) := by
  refine Eq.trans (g_A dX9_openers_0 rfl rfl) ?_
  refine Eq.trans (g_A dX9_openers_1 rfl rfl) ?_
  refine Eq.trans (g_getR dX9_openers_2 f1 sh0 rfl rfl) ?_
  refine Eq.trans (g_vI (a := 2) (as := []) (rest := [.int v1]) dX9_openers_5 cl15 m58 rfl rfl rfl rfl (Nat.le_of_ble_eq_true rfl) rfl rfl rfl rfl) ?_
  refine am_bI_c (fun r1 t1 => ?_)
  refine Eq.trans (g_sV (as := [.int v1, .int r1]) (rest := []) dX9_openers_8 rfl cl1 m144 rfl rfl rfl rfl (Nat.le_of_ble_eq_true rfl) rfl rfl rfl) ?_
  refine am_bV_c (fun t2 => ?_)
  refine Eq.trans (g_A dX9_openers_11 rfl rfl) ?_
  refine Eq.trans (g_getR dX9_openers_12 f3 sh0 rfl rfl) ?_
  refine Eq.trans (g_A dX9_openers_15 rfl rfl) ?_
  refine Eq.trans (g_vV (a := 5) (as := [.int v1]) (rest := []) dX9_openers_16 cl20 m68 rfl rfl rfl rfl (Nat.le_of_ble_eq_true rfl) rfl rfl rfl rfl) ?_
  refine am_bV_c (fun t3 => ?_)
  refine Eq.trans (g_A dX9_openers_19 rfl rfl) ?_
  refine Eq.trans (g_getR dX9_openers_20 f3 sh0 rfl rfl) ?_
  refine Eq.trans (g_A dX9_openers_23 rfl rfl) ?_
  refine Eq.trans (g_getR dX9_openers_24 f0 sh0 rfl rfl) ?_
  refine Eq.trans (g_K (v := nI 0) dX9_openers_27 rfl rfl) ?_
  refine Eq.trans (g_vI (a := 3) (as := [.int (nI 0)]) (rest := [.ref 5]) dX9_openers_28 cl10 m77 rfl rfl rfl rfl (Nat.le_of_ble_eq_true rfl) rfl rfl rfl rfl) ?_
  refine am_bI_c (fun r4 t4 => ?_)
  refine Eq.trans (g_vI (a := 5) (as := [.int r4]) (rest := []) dX9_openers_31 cl21 m67 rfl rfl rfl rfl (Nat.le_of_ble_eq_true rfl) rfl rfl rfl rfl) ?_
  refine am_bI_c (fun r5 t5 => ?_)
  refine Eq.trans (g_ifle (t := 41) dX9_openers_34 rfl rfl) ?_
  refine am_ite ?_ ?_
  · refine Eq.trans (g_K (v := nI 0) dX9_openers_41 rfl rfl) ?_
    refine Eq.trans (g_isn (k := 2) dX9_openers_42 rfl (Nat.le_of_ble_eq_true rfl) rfl rfl rfl) ?_
    refine Eq.trans (g_K (v := nI 0) dX9_openers_43 rfl rfl) ?_
    refine Eq.trans (g_isn (k := 3) dX9_openers_44 rfl (Nat.le_of_ble_eq_true rfl) rfl rfl rfl) ?_
    rfl
  · refine Eq.trans (g_K (v := nI 1) dX9_openers_37 rfl rfl) ?_
    refine Eq.trans (g_goto (pc' := 42) dX9_openers_38 rfl) ?_
    refine Eq.trans (g_isn (k := 2) dX9_openers_42 rfl (Nat.le_of_ble_eq_true rfl) rfl rfl rfl) ?_
    refine Eq.trans (g_K (v := nI 0) dX9_openers_43 rfl rfl) ?_
    refine Eq.trans (g_isn (k := 3) dX9_openers_44 rfl (Nat.le_of_ble_eq_true rfl) rfl rfl rfl) ?_
    rfl
theorem q103_45 (C : am_C) (σ : am_M) (v1 v2 v3 : Int32) : am_go am_X0 C M103 45 [.ref 0, .int v1, .int v2, .int v3] [] σ = if (nI 4) ≤ v3 then (some (.inl (some (.int v2)), σ)) else (if am_in v3 4 = true then (am_bI (C 67 [.ref 5, .int (σ.1 11 (v3 : Int32).toNatClampNeg)] σ) (fun r1 t1 => if r1 ≤ (nI 0) then (am_go am_X0 C M103 45 [.ref 0, .int v1, .int v2, .int (v3 + nI 1)] [] t1) else (am_go am_X0 C M103 45 [.ref 0, .int v1, .int (v2 ||| ((nI 2) <<< (v3 &&& 31))), .int (v3 + nI 1)] [] t1))) else none) := by
  refine Eq.trans (g_A dX9_openers_45 rfl rfl) ?_
  refine Eq.trans (g_K (v := nI 4) dX9_openers_46 rfl rfl) ?_
  refine Eq.trans (g_icge (t := 78) dX9_openers_47 rfl rfl) ?_
  refine am_ite ?_ ?_
  · refine Eq.trans (g_A dX9_openers_78 rfl rfl) ?_
    exact g_iret dX9_openers_79 rfl
  · refine Eq.trans (g_A dX9_openers_50 rfl rfl) ?_
    refine Eq.trans (g_getR dX9_openers_51 f3 sh0 rfl rfl) ?_
    refine Eq.trans (g_A dX9_openers_54 rfl rfl) ?_
    refine Eq.trans (g_getR dX9_openers_55 f4 sh0 rfl rfl) ?_
    refine Eq.trans (g_A dX9_openers_58 rfl rfl) ?_
    refine Eq.trans (g_iald dX9_openers_59 sh11 rfl) ?_
    refine am_ite ?_ rfl
    refine Eq.trans (g_vI (a := 5) (as := [.int (σ.1 11 (v3 : Int32).toNatClampNeg)]) (rest := []) dX9_openers_60 cl21 m67 rfl rfl rfl rfl (Nat.le_of_ble_eq_true rfl) rfl rfl rfl rfl) ?_
    refine am_bI_c (fun r1 t1 => ?_)
    refine Eq.trans (g_ifle (t := 72) dX9_openers_63 rfl rfl) ?_
    refine am_ite ?_ ?_
    · refine Eq.trans (g_inc (v := v3 + nI 1) dX9_openers_72 rfl (Nat.le_of_ble_eq_true rfl) rfl rfl rfl rfl) ?_
      refine Eq.trans (g_goto (pc' := 45) dX9_openers_75 rfl) ?_
      rfl
    · refine Eq.trans (g_A dX9_openers_66 rfl rfl) ?_
      refine Eq.trans (g_K (v := nI 2) dX9_openers_67 rfl rfl) ?_
      refine Eq.trans (g_A dX9_openers_68 rfl rfl) ?_
      refine Eq.trans (g_ishl dX9_openers_69 rfl) ?_
      refine Eq.trans (g_ior dX9_openers_70 rfl) ?_
      refine Eq.trans (g_isn (k := 2) dX9_openers_71 rfl (Nat.le_of_ble_eq_true rfl) rfl rfl rfl) ?_
      refine Eq.trans (g_inc (v := v3 + nI 1) dX9_openers_72 rfl (Nat.le_of_ble_eq_true rfl) rfl rfl rfl rfl) ?_
      refine Eq.trans (g_goto (pc' := 45) dX9_openers_75 rfl) ?_
      rfl
theorem q104_0 (C : am_C) (σ : am_M) (v1 v2 : Int32) : am_go am_X0 C M104 0 [.ref 0, .int v1, .int v2] [] σ = am_bV (C 144 [.int v1, .int (nI 4)] σ) (fun t1 => am_bI (C 58 [.ref 2] t1) (fun r2 t2 => am_bV (C 144 [.int v2, .int r2] t2) (fun t3 => if am_in v1 4 = true then (am_bI (C 149 [.ref 0, .int (t3.1 11 (v1 : Int32).toNatClampNeg), .int v2] t3) (fun r4 t4 => am_bJ (C 61 [.ref 2, .int v2] t4) (fun r5 t5 => some (.inl (some (.long r5)), t5)))) else none))) := by
  refine Eq.trans (g_A dX9_openWith_0 rfl rfl) ?_
  refine Eq.trans (g_K (v := nI 4) dX9_openWith_1 rfl rfl) ?_
  refine Eq.trans (g_sV (as := [.int v1, .int (nI 4)]) (rest := []) dX9_openWith_2 rfl cl1 m144 rfl rfl rfl rfl (Nat.le_of_ble_eq_true rfl) rfl rfl rfl) ?_
  refine am_bV_c (fun t1 => ?_)
  refine Eq.trans (g_A dX9_openWith_5 rfl rfl) ?_
  refine Eq.trans (g_A dX9_openWith_6 rfl rfl) ?_
  refine Eq.trans (g_getR dX9_openWith_7 f1 sh0 rfl rfl) ?_
  refine Eq.trans (g_vI (a := 2) (as := []) (rest := [.int v2]) dX9_openWith_10 cl15 m58 rfl rfl rfl rfl (Nat.le_of_ble_eq_true rfl) rfl rfl rfl rfl) ?_
  refine am_bI_c (fun r2 t2 => ?_)
  refine Eq.trans (g_sV (as := [.int v2, .int r2]) (rest := []) dX9_openWith_13 rfl cl1 m144 rfl rfl rfl rfl (Nat.le_of_ble_eq_true rfl) rfl rfl rfl) ?_
  refine am_bV_c (fun t3 => ?_)
  refine Eq.trans (g_A dX9_openWith_16 rfl rfl) ?_
  refine Eq.trans (g_A dX9_openWith_17 rfl rfl) ?_
  refine Eq.trans (g_getR dX9_openWith_18 f4 sh0 rfl rfl) ?_
  refine Eq.trans (g_A dX9_openWith_21 rfl rfl) ?_
  refine Eq.trans (g_iald dX9_openWith_22 sh11 rfl) ?_
  refine am_ite ?_ rfl
  refine Eq.trans (g_A dX9_openWith_23 rfl rfl) ?_
  refine Eq.trans (g_vI (a := 0) (as := [.int (t3.1 11 (v1 : Int32).toNatClampNeg), .int v2]) (rest := []) dX9_openWith_24 cl22 m149 rfl rfl rfl rfl (Nat.le_of_ble_eq_true rfl) rfl rfl rfl rfl) ?_
  refine am_bI_c (fun r4 t4 => ?_)
  refine Eq.trans (g_B dX9_openWith_27 rfl rfl rfl) ?_
  refine Eq.trans (g_A dX9_openWith_28 rfl rfl) ?_
  refine Eq.trans (g_getR dX9_openWith_29 f1 sh0 rfl rfl) ?_
  refine Eq.trans (g_A dX9_openWith_32 rfl rfl) ?_
  refine Eq.trans (g_vJ (a := 2) (as := [.int v2]) (rest := []) dX9_openWith_33 cl14 m61 rfl rfl rfl rfl (Nat.le_of_ble_eq_true rfl) rfl rfl rfl rfl) ?_
  refine am_bJ_c (fun r5 t5 => ?_)
  exact g_lret dX9_openWith_36 rfl
theorem q105_0 (C : am_C) (σ : am_M) (v1 v2 : Int32) : am_go am_X0 C M105 0 [.ref 0, .int v1, .int v2] [] σ = if v1 = (-1) then (am_go am_X0 C M105 10 [.ref 0, .int v1, .int v2] [] σ) else (am_bV (C 144 [.int v1, .int (nI 4)] σ) (fun t1 => am_go am_X0 C M105 10 [.ref 0, .int v1, .int v2] [] t1)) := by
  refine Eq.trans (g_A dX9_openSteps_0 rfl rfl) ?_
  refine Eq.trans (g_K (v := (-1)) dX9_openSteps_1 rfl rfl) ?_
  refine Eq.trans (g_iceq (t := 10) dX9_openSteps_2 rfl rfl) ?_
  refine am_ite ?_ ?_
  · rfl
  · refine Eq.trans (g_A dX9_openSteps_5 rfl rfl) ?_
    refine Eq.trans (g_K (v := nI 4) dX9_openSteps_6 rfl rfl) ?_
    refine Eq.trans (g_sV (as := [.int v1, .int (nI 4)]) (rest := []) dX9_openSteps_7 rfl cl1 m144 rfl rfl rfl rfl (Nat.le_of_ble_eq_true rfl) rfl rfl rfl) ?_
    refine am_bV_c (fun t1 => ?_)
    rfl
theorem q105_10 (C : am_C) (σ : am_M) (v1 v2 : Int32) : am_go am_X0 C M105 10 [.ref 0, .int v1, .int v2] [] σ = am_bI (C 58 [.ref 2] σ) (fun r1 t1 => am_bV (C 144 [.int v2, .int r1] t1) (fun t2 => if (nI 0) ≤ v1 then (if am_in v1 4 = true then (am_go am_X0 C M105 43 [.ref 0, .int v1, .int v2] [.int (t2.1 11 (v1 : Int32).toNatClampNeg), .ref 0] t2) else none) else (am_bI (C 77 [.ref 3, .int (nI 0)] t2) (fun r3 t3 => am_go am_X0 C M105 43 [.ref 0, .int v1, .int v2] [.int r3, .ref 0] t3)))) := by
  refine Eq.trans (g_A dX9_openSteps_10 rfl rfl) ?_
  refine Eq.trans (g_A dX9_openSteps_11 rfl rfl) ?_
  refine Eq.trans (g_getR dX9_openSteps_12 f1 sh0 rfl rfl) ?_
  refine Eq.trans (g_vI (a := 2) (as := []) (rest := [.int v2]) dX9_openSteps_15 cl15 m58 rfl rfl rfl rfl (Nat.le_of_ble_eq_true rfl) rfl rfl rfl rfl) ?_
  refine am_bI_c (fun r1 t1 => ?_)
  refine Eq.trans (g_sV (as := [.int v2, .int r1]) (rest := []) dX9_openSteps_18 rfl cl1 m144 rfl rfl rfl rfl (Nat.le_of_ble_eq_true rfl) rfl rfl rfl) ?_
  refine am_bV_c (fun t2 => ?_)
  refine Eq.trans (g_A dX9_openSteps_21 rfl rfl) ?_
  refine Eq.trans (g_A dX9_openSteps_22 rfl rfl) ?_
  refine Eq.trans (g_ifge (t := 37) dX9_openSteps_23 rfl rfl) ?_
  refine am_ite ?_ ?_
  · refine Eq.trans (g_A dX9_openSteps_37 rfl rfl) ?_
    refine Eq.trans (g_getR dX9_openSteps_38 f4 sh0 rfl rfl) ?_
    refine Eq.trans (g_A dX9_openSteps_41 rfl rfl) ?_
    refine Eq.trans (g_iald dX9_openSteps_42 sh11 rfl) ?_
    refine am_ite ?_ rfl
    rfl
  · refine Eq.trans (g_A dX9_openSteps_26 rfl rfl) ?_
    refine Eq.trans (g_getR dX9_openSteps_27 f0 sh0 rfl rfl) ?_
    refine Eq.trans (g_K (v := nI 0) dX9_openSteps_30 rfl rfl) ?_
    refine Eq.trans (g_vI (a := 3) (as := [.int (nI 0)]) (rest := [.ref 0]) dX9_openSteps_31 cl10 m77 rfl rfl rfl rfl (Nat.le_of_ble_eq_true rfl) rfl rfl rfl rfl) ?_
    refine am_bI_c (fun r3 t3 => ?_)
    refine Eq.trans (g_goto (pc' := 43) dX9_openSteps_34 rfl) ?_
    rfl
theorem q105_43 (C : am_C) (σ : am_M) (v1 v2 s0 : Int32) : am_go am_X0 C M105 43 [.ref 0, .int v1, .int v2] [.int s0, .ref 0] σ = am_bI (C 149 [.ref 0, .int s0, .int v2] σ) (fun r1 t1 => some (.inl (some (.int r1)), t1)) := by
  refine Eq.trans (g_A dX9_openSteps_43 rfl rfl) ?_
  refine Eq.trans (g_vI (a := 0) (as := [.int s0, .int v2]) (rest := []) dX9_openSteps_44 cl22 m149 rfl rfl rfl rfl (Nat.le_of_ble_eq_true rfl) rfl rfl rfl rfl) ?_
  refine am_bI_c (fun r1 t1 => ?_)
  exact g_iret dX9_openSteps_47 rfl
theorem q106_0 (C : am_C) (σ : am_M) (v1 v2 : Int32) : am_go am_X0 C M106 0 [.ref 0, .int v1, .int v2] [] σ = am_bV (C 144 [.int v1, .int (nI 4)] σ) (fun t1 => am_bI (C 32 [.ref 4] t1) (fun r2 t2 => am_bV (C 144 [.int v2, .int r2] t2) (fun t3 => if am_in v1 4 = true then (am_bV (C 70 [.ref 5, .int (t3.1 11 (v1 : Int32).toNatClampNeg), .int v2, .int v2] t3) (fun t4 => am_bI (C 71 [.ref 5, .int (nI 1)] t4) (fun r5 t5 => am_bI (C 71 [.ref 5, .int (nI 0)] t5) (fun r6 t6 => some (.inl (some (.int (r5 + r6))), t6))))) else none))) := by
  refine Eq.trans (g_A dX9_exposedBy_0 rfl rfl) ?_
  refine Eq.trans (g_K (v := nI 4) dX9_exposedBy_1 rfl rfl) ?_
  refine Eq.trans (g_sV (as := [.int v1, .int (nI 4)]) (rest := []) dX9_exposedBy_2 rfl cl1 m144 rfl rfl rfl rfl (Nat.le_of_ble_eq_true rfl) rfl rfl rfl) ?_
  refine am_bV_c (fun t1 => ?_)
  refine Eq.trans (g_A dX9_exposedBy_5 rfl rfl) ?_
  refine Eq.trans (g_A dX9_exposedBy_6 rfl rfl) ?_
  refine Eq.trans (g_getR dX9_exposedBy_7 f5 sh0 rfl rfl) ?_
  refine Eq.trans (g_vI (a := 4) (as := []) (rest := [.int v2]) dX9_exposedBy_10 cl23 m32 rfl rfl rfl rfl (Nat.le_of_ble_eq_true rfl) rfl rfl rfl rfl) ?_
  refine am_bI_c (fun r2 t2 => ?_)
  refine Eq.trans (g_sV (as := [.int v2, .int r2]) (rest := []) dX9_exposedBy_13 rfl cl1 m144 rfl rfl rfl rfl (Nat.le_of_ble_eq_true rfl) rfl rfl rfl) ?_
  refine am_bV_c (fun t3 => ?_)
  refine Eq.trans (g_A dX9_exposedBy_16 rfl rfl) ?_
  refine Eq.trans (g_getR dX9_exposedBy_17 f3 sh0 rfl rfl) ?_
  refine Eq.trans (g_A dX9_exposedBy_20 rfl rfl) ?_
  refine Eq.trans (g_getR dX9_exposedBy_21 f4 sh0 rfl rfl) ?_
  refine Eq.trans (g_A dX9_exposedBy_24 rfl rfl) ?_
  refine Eq.trans (g_iald dX9_exposedBy_25 sh11 rfl) ?_
  refine am_ite ?_ rfl
  refine Eq.trans (g_A dX9_exposedBy_26 rfl rfl) ?_
  refine Eq.trans (g_A dX9_exposedBy_27 rfl rfl) ?_
  refine Eq.trans (g_vV (a := 5) (as := [.int (t3.1 11 (v1 : Int32).toNatClampNeg), .int v2, .int v2]) (rest := []) dX9_exposedBy_28 cl24 m70 rfl rfl rfl rfl (Nat.le_of_ble_eq_true rfl) rfl rfl rfl rfl) ?_
  refine am_bV_c (fun t4 => ?_)
  refine Eq.trans (g_A dX9_exposedBy_31 rfl rfl) ?_
  refine Eq.trans (g_getR dX9_exposedBy_32 f3 sh0 rfl rfl) ?_
  refine Eq.trans (g_K (v := nI 1) dX9_exposedBy_35 rfl rfl) ?_
  refine Eq.trans (g_vI (a := 5) (as := [.int (nI 1)]) (rest := []) dX9_exposedBy_36 cl25 m71 rfl rfl rfl rfl (Nat.le_of_ble_eq_true rfl) rfl rfl rfl rfl) ?_
  refine am_bI_c (fun r5 t5 => ?_)
  refine Eq.trans (g_A dX9_exposedBy_39 rfl rfl) ?_
  refine Eq.trans (g_getR dX9_exposedBy_40 f3 sh0 rfl rfl) ?_
  refine Eq.trans (g_K (v := nI 0) dX9_exposedBy_43 rfl rfl) ?_
  refine Eq.trans (g_vI (a := 5) (as := [.int (nI 0)]) (rest := [.int r5]) dX9_exposedBy_44 cl25 m71 rfl rfl rfl rfl (Nat.le_of_ble_eq_true rfl) rfl rfl rfl rfl) ?_
  refine am_bI_c (fun r6 t6 => ?_)
  refine Eq.trans (g_iadd dX9_exposedBy_47 rfl) ?_
  exact g_iret dX9_exposedBy_48 rfl
theorem q107_0 (C : am_C) (σ : am_M) (v1 v2 : Int32) : am_go am_X0 C M107 0 [.ref 0, .int v1, .int v2, .null, .null] [] σ = am_bV (C 144 [.int v1, .int (nI 8)] σ) (fun t1 => am_bV (C 144 [.int v2, .int (nI 85)] t1) (fun t2 => if am_in v1 8 = true then (am_bI (C 170 [.int v2] (am_wI t2 10 (v1 : Int32).toNatClampNeg v2)) (fun r3 t3 => am_bI (C 169 [.int v2] t3) (fun r4 t4 => am_bV (C 86 [.ref 3, .int r3, .int (r3 + r4)] t4) (fun t5 => am_bI (C 88 [.ref 3, .int r3, .int (r3 + r4)] t5) (fun r6 t6 => some (.inl (some (.int r6)), t6)))))) else none)) := by
  refine Eq.trans (g_A dX9_hold_0 rfl rfl) ?_
  refine Eq.trans (g_K (v := nI 8) dX9_hold_1 rfl rfl) ?_
  refine Eq.trans (g_sV (as := [.int v1, .int (nI 8)]) (rest := []) dX9_hold_3 rfl cl1 m144 rfl rfl rfl rfl (Nat.le_of_ble_eq_true rfl) rfl rfl rfl) ?_
  refine am_bV_c (fun t1 => ?_)
  refine Eq.trans (g_A dX9_hold_6 rfl rfl) ?_
  refine Eq.trans (g_K (v := nI 85) dX9_hold_7 rfl rfl) ?_
  refine Eq.trans (g_sV (as := [.int v2, .int (nI 85)]) (rest := []) dX9_hold_9 rfl cl1 m144 rfl rfl rfl rfl (Nat.le_of_ble_eq_true rfl) rfl rfl rfl) ?_
  refine am_bV_c (fun t2 => ?_)
  refine Eq.trans (g_A dX9_hold_12 rfl rfl) ?_
  refine Eq.trans (g_getR dX9_hold_13 f6 sh0 rfl rfl) ?_
  refine Eq.trans (g_A dX9_hold_16 rfl rfl) ?_
  refine Eq.trans (g_A dX9_hold_17 rfl rfl) ?_
  refine Eq.trans (g_iast dX9_hold_18 sh10 rfl) ?_
  refine am_ite ?_ rfl
  refine Eq.trans (g_A dX9_hold_19 rfl rfl) ?_
  refine Eq.trans (g_sI (as := [.int v2]) (rest := []) dX9_hold_20 rfl cl26 m170 rfl rfl rfl rfl (Nat.le_of_ble_eq_true rfl) rfl rfl rfl) ?_
  refine am_bI_c (fun r3 t3 => ?_)
  refine Eq.trans (g_isn (k := 3) dX9_hold_23 rfl (Nat.le_of_ble_eq_true rfl) rfl rfl rfl) ?_
  refine Eq.trans (g_A dX9_hold_24 rfl rfl) ?_
  refine Eq.trans (g_A dX9_hold_25 rfl rfl) ?_
  refine Eq.trans (g_sI (as := [.int v2]) (rest := [.int r3]) dX9_hold_26 rfl cl27 m169 rfl rfl rfl rfl (Nat.le_of_ble_eq_true rfl) rfl rfl rfl) ?_
  refine am_bI_c (fun r4 t4 => ?_)
  refine Eq.trans (g_iadd dX9_hold_29 rfl) ?_
  refine Eq.trans (g_ist (k := 4) dX9_hold_30 (Nat.le_of_ble_eq_true rfl) rfl rfl rfl) ?_
  refine Eq.trans (g_A dX9_hold_32 rfl rfl) ?_
  refine Eq.trans (g_getR dX9_hold_33 f0 sh0 rfl rfl) ?_
  refine Eq.trans (g_A dX9_hold_36 rfl rfl) ?_
  refine Eq.trans (g_A dX9_hold_37 rfl rfl) ?_
  refine Eq.trans (g_vV (a := 3) (as := [.int r3, .int (r3 + r4)]) (rest := []) dX9_hold_39 cl28 m86 rfl rfl rfl rfl (Nat.le_of_ble_eq_true rfl) rfl rfl rfl rfl) ?_
  refine am_bV_c (fun t5 => ?_)
  refine Eq.trans (g_A dX9_hold_42 rfl rfl) ?_
  refine Eq.trans (g_getR dX9_hold_43 f0 sh0 rfl rfl) ?_
  refine Eq.trans (g_A dX9_hold_46 rfl rfl) ?_
  refine Eq.trans (g_A dX9_hold_47 rfl rfl) ?_
  refine Eq.trans (g_vI (a := 3) (as := [.int r3, .int (r3 + r4)]) (rest := []) dX9_hold_49 cl18 m88 rfl rfl rfl rfl (Nat.le_of_ble_eq_true rfl) rfl rfl rfl rfl) ?_
  refine am_bI_c (fun r6 t6 => ?_)
  exact g_iret dX9_hold_52 rfl
theorem q108_0 (C : am_C) (σ : am_M) (v1 : Int32) : am_go am_X0 C M108 0 [.ref 0, .int v1, .null] [] σ = am_bV (C 144 [.int v1, .int (nI 8)] σ) (fun t1 => if am_in v1 8 = true then (if am_in v1 8 = true then (some (.inl (some (.int (t1.1 10 (v1 : Int32).toNatClampNeg))), am_wI t1 10 (v1 : Int32).toNatClampNeg (-1))) else none) else none) := by
  refine Eq.trans (g_A dX9_release_0 rfl rfl) ?_
  refine Eq.trans (g_K (v := nI 8) dX9_release_1 rfl rfl) ?_
  refine Eq.trans (g_sV (as := [.int v1, .int (nI 8)]) (rest := []) dX9_release_3 rfl cl1 m144 rfl rfl rfl rfl (Nat.le_of_ble_eq_true rfl) rfl rfl rfl) ?_
  refine am_bV_c (fun t1 => ?_)
  refine Eq.trans (g_A dX9_release_6 rfl rfl) ?_
  refine Eq.trans (g_getR dX9_release_7 f6 sh0 rfl rfl) ?_
  refine Eq.trans (g_A dX9_release_10 rfl rfl) ?_
  refine Eq.trans (g_iald dX9_release_11 sh10 rfl) ?_
  refine am_ite ?_ rfl
  refine Eq.trans (g_isn (k := 2) dX9_release_12 rfl (Nat.le_of_ble_eq_true rfl) rfl rfl rfl) ?_
  refine Eq.trans (g_A dX9_release_13 rfl rfl) ?_
  refine Eq.trans (g_getR dX9_release_14 f6 sh0 rfl rfl) ?_
  refine Eq.trans (g_A dX9_release_17 rfl rfl) ?_
  refine Eq.trans (g_K (v := (-1)) dX9_release_18 rfl rfl) ?_
  refine Eq.trans (g_iast dX9_release_19 sh10 rfl) ?_
  refine am_ite ?_ rfl
  refine Eq.trans (g_A dX9_release_20 rfl rfl) ?_
  exact g_iret dX9_release_21 rfl
theorem q109_0 (C : am_C) (σ : am_M) (v1 : Int32) : am_go am_X0 C M109 0 [.ref 0, .int v1] [] σ = am_bV (C 144 [.int v1, .int (nI 64)] σ) (fun t1 => am_bI (C 154 [.ref 0, .int v1] t1) (fun r2 t2 => some (.inl (some (.int r2)), t2))) := by
  refine Eq.trans (g_A dX9_pins_0 rfl rfl) ?_
  refine Eq.trans (g_K (v := nI 64) dX9_pins_1 rfl rfl) ?_
  refine Eq.trans (g_sV (as := [.int v1, .int (nI 64)]) (rest := []) dX9_pins_3 rfl cl1 m144 rfl rfl rfl rfl (Nat.le_of_ble_eq_true rfl) rfl rfl rfl) ?_
  refine am_bV_c (fun t1 => ?_)
  refine Eq.trans (g_A dX9_pins_6 rfl rfl) ?_
  refine Eq.trans (g_A dX9_pins_7 rfl rfl) ?_
  refine Eq.trans (g_vI (a := 0) (as := [.int v1]) (rest := []) dX9_pins_8 cl29 m154 rfl rfl rfl rfl (Nat.le_of_ble_eq_true rfl) rfl rfl rfl rfl) ?_
  refine am_bI_c (fun r2 t2 => ?_)
  exact g_iret dX9_pins_11 rfl
theorem q110_0 (C : am_C) (σ : am_M) (v1 v2 : Int32) : am_go am_X0 C M110 0 [.ref 0, .int v1, .int v2, .null] [] σ = am_bV (C 144 [.int v1, .int (nI 64)] σ) (fun t1 => am_bI (C 79 [.ref 3, .int v1] t1) (fun r2 t2 => if r2 = (-1) then (am_go am_X0 C M110 30 [.ref 0, .int v1, .int v2, .null] [] t2) else (if v2 = nI 0 then (am_go am_X0 C M110 40 [.ref 0, .int v1, .int v2, .null] [] t2) else (am_bI (C 154 [.ref 0, .int v1] t2) (fun r3 t3 => if r3 = nI 0 then (am_go am_X0 C M110 40 [.ref 0, .int v1, .int v2, .null] [] t3) else (am_go am_X0 C M110 30 [.ref 0, .int v1, .int v2, .null] [] t3)))))) := by
  refine Eq.trans (g_A dX9_mark_0 rfl rfl) ?_
  refine Eq.trans (g_K (v := nI 64) dX9_mark_1 rfl rfl) ?_
  refine Eq.trans (g_sV (as := [.int v1, .int (nI 64)]) (rest := []) dX9_mark_3 rfl cl1 m144 rfl rfl rfl rfl (Nat.le_of_ble_eq_true rfl) rfl rfl rfl) ?_
  refine am_bV_c (fun t1 => ?_)
  refine Eq.trans (g_A dX9_mark_6 rfl rfl) ?_
  refine Eq.trans (g_getR dX9_mark_7 f0 sh0 rfl rfl) ?_
  refine Eq.trans (g_A dX9_mark_10 rfl rfl) ?_
  refine Eq.trans (g_vI (a := 3) (as := [.int v1]) (rest := []) dX9_mark_11 cl2 m79 rfl rfl rfl rfl (Nat.le_of_ble_eq_true rfl) rfl rfl rfl rfl) ?_
  refine am_bI_c (fun r2 t2 => ?_)
  refine Eq.trans (g_K (v := (-1)) dX9_mark_14 rfl rfl) ?_
  refine Eq.trans (g_iceq (t := 30) dX9_mark_15 rfl rfl) ?_
  refine am_ite ?_ ?_
  · rfl
  · refine Eq.trans (g_A dX9_mark_18 rfl rfl) ?_
    refine Eq.trans (g_ifeq (t := 40) dX9_mark_19 rfl rfl) ?_
    refine am_ite ?_ ?_
    · rfl
    · refine Eq.trans (g_A dX9_mark_22 rfl rfl) ?_
      refine Eq.trans (g_A dX9_mark_23 rfl rfl) ?_
      refine Eq.trans (g_vI (a := 0) (as := [.int v1]) (rest := []) dX9_mark_24 cl29 m154 rfl rfl rfl rfl (Nat.le_of_ble_eq_true rfl) rfl rfl rfl rfl) ?_
      refine am_bI_c (fun r3 t3 => ?_)
      refine Eq.trans (g_ifeq (t := 40) dX9_mark_27 rfl rfl) ?_
      refine am_ite ?_ ?_
      · rfl
      · rfl
theorem q110_30 (C : am_C) (σ : am_M) (v1 v2 : Int32) : am_go am_X0 C M110 30 [.ref 0, .int v1, .int v2, .null] [] σ = some (.inr "java/lang/IllegalStateException", am_tick σ) := by
  exact g_thr dX9_mark_30 dX9_mark_33 (Or.inl ⟨dX9_mark_34, rfl⟩) dX9_mark_36 dX9_mark_39 rfl xt2 (Nat.le_of_ble_eq_true rfl)
theorem q110_40 (C : am_C) (σ : am_M) (v1 v2 : Int32) : am_go am_X0 C M110 40 [.ref 0, .int v1, .int v2, .null] [] σ = am_bI (C 82 [.ref 3, .int v1] σ) (fun r1 t1 => am_bV (C 85 [.ref 3, .int v1, .int v2] t1) (fun t2 => if r1 = nI 0 ∨ r1 = nI 1 then some (.inl (some (.int r1)), t2) else none)) := by
  refine Eq.trans (g_A dX9_mark_40 rfl rfl) ?_
  refine Eq.trans (g_getR dX9_mark_41 f0 sh0 rfl rfl) ?_
  refine Eq.trans (g_A dX9_mark_44 rfl rfl) ?_
  refine Eq.trans (g_vI (a := 3) (as := [.int v1]) (rest := []) dX9_mark_45 cl30 m82 rfl rfl rfl rfl (Nat.le_of_ble_eq_true rfl) rfl rfl rfl rfl) ?_
  refine am_bI_c (fun r1 t1 => ?_)
  refine Eq.trans (g_isn (k := 3) dX9_mark_48 rfl (Nat.le_of_ble_eq_true rfl) rfl rfl rfl) ?_
  refine Eq.trans (g_A dX9_mark_49 rfl rfl) ?_
  refine Eq.trans (g_getR dX9_mark_50 f0 sh0 rfl rfl) ?_
  refine Eq.trans (g_A dX9_mark_53 rfl rfl) ?_
  refine Eq.trans (g_A dX9_mark_54 rfl rfl) ?_
  refine Eq.trans (g_vV (a := 3) (as := [.int v1, .int v2]) (rest := []) dX9_mark_55 cl31 m85 rfl rfl rfl rfl (Nat.le_of_ble_eq_true rfl) rfl rfl rfl rfl) ?_
  refine am_bV_c (fun t2 => ?_)
  refine Eq.trans (g_A dX9_mark_58 rfl rfl) ?_
  exact g_zret dX9_mark_59 rfl
theorem q111_0 (C : am_C) (σ : am_M) : am_go am_X0 C M111 0 [.ref 0] [] σ = am_bI (C 87 [.ref 3] σ) (fun r1 t1 => some (.inl (some (.int r1)), t1)) := by
  refine Eq.trans (g_A dX9_markCount_0 rfl rfl) ?_
  refine Eq.trans (g_getR dX9_markCount_1 f0 sh0 rfl rfl) ?_
  refine Eq.trans (g_vI (a := 3) (as := []) (rest := []) dX9_markCount_4 cl32 m87 rfl rfl rfl rfl (Nat.le_of_ble_eq_true rfl) rfl rfl rfl rfl) ?_
  refine am_bI_c (fun r1 t1 => ?_)
  exact g_iret dX9_markCount_7 rfl
theorem q112_0 (C : am_C) (σ : am_M) (v1 v2 : Int32) : am_go am_X0 C M112 0 [.ref 0, .int v1, .int v2, .null] [] σ = am_bV (C 144 [.int v1, .int (nI 64)] σ) (fun t1 => if v2 < (-1) then (am_go am_X0 C M112 17 [.ref 0, .int v1, .int v2, .null] [] t1) else (if v2 ≤ (1000000) then (am_bI (C 79 [.ref 3, .int v1] t1) (fun r2 t2 => if r2 = (-1) then (some (.inr "java/lang/IllegalStateException", am_tick t2)) else (am_bI (C 80 [.ref 3, .int v1] t2) (fun r3 t3 => am_bV (C 84 [.ref 3, .int v1, .int v2] t3) (fun t4 => some (.inl (some (.int r3)), t4)))))) else (am_go am_X0 C M112 17 [.ref 0, .int v1, .int v2, .null] [] t1))) := by
  refine Eq.trans (g_A dX9_setDue_0 rfl rfl) ?_
  refine Eq.trans (g_K (v := nI 64) dX9_setDue_1 rfl rfl) ?_
  refine Eq.trans (g_sV (as := [.int v1, .int (nI 64)]) (rest := []) dX9_setDue_3 rfl cl1 m144 rfl rfl rfl rfl (Nat.le_of_ble_eq_true rfl) rfl rfl rfl) ?_
  refine am_bV_c (fun t1 => ?_)
  refine Eq.trans (g_A dX9_setDue_6 rfl rfl) ?_
  refine Eq.trans (g_K (v := (-1)) dX9_setDue_7 rfl rfl) ?_
  refine Eq.trans (g_iclt (t := 17) dX9_setDue_8 rfl rfl) ?_
  refine am_ite ?_ ?_
  · rfl
  · refine Eq.trans (g_A dX9_setDue_11 rfl rfl) ?_
    refine Eq.trans (g_ldc dX9_setDue_12 ki0 rfl) ?_
    refine Eq.trans (g_icle (t := 27) dX9_setDue_14 rfl rfl) ?_
    refine am_ite ?_ ?_
    · refine Eq.trans (g_A dX9_setDue_27 rfl rfl) ?_
      refine Eq.trans (g_getR dX9_setDue_28 f0 sh0 rfl rfl) ?_
      refine Eq.trans (g_A dX9_setDue_31 rfl rfl) ?_
      refine Eq.trans (g_vI (a := 3) (as := [.int v1]) (rest := []) dX9_setDue_32 cl2 m79 rfl rfl rfl rfl (Nat.le_of_ble_eq_true rfl) rfl rfl rfl rfl) ?_
      refine am_bI_c (fun r2 t2 => ?_)
      refine Eq.trans (g_K (v := (-1)) dX9_setDue_35 rfl rfl) ?_
      refine Eq.trans (g_icne (t := 49) dX9_setDue_36 rfl rfl) ?_
      refine am_ite ?_ ?_
      · exact g_thr dX9_setDue_39 dX9_setDue_42 (Or.inl ⟨dX9_setDue_43, rfl⟩) dX9_setDue_45 dX9_setDue_48 rfl xt4 (Nat.le_of_ble_eq_true rfl)
      · refine Eq.trans (g_A dX9_setDue_49 rfl rfl) ?_
        refine Eq.trans (g_getR dX9_setDue_50 f0 sh0 rfl rfl) ?_
        refine Eq.trans (g_A dX9_setDue_53 rfl rfl) ?_
        refine Eq.trans (g_vI (a := 3) (as := [.int v1]) (rest := []) dX9_setDue_54 cl33 m80 rfl rfl rfl rfl (Nat.le_of_ble_eq_true rfl) rfl rfl rfl rfl) ?_
        refine am_bI_c (fun r3 t3 => ?_)
        refine Eq.trans (g_isn (k := 3) dX9_setDue_57 rfl (Nat.le_of_ble_eq_true rfl) rfl rfl rfl) ?_
        refine Eq.trans (g_A dX9_setDue_58 rfl rfl) ?_
        refine Eq.trans (g_getR dX9_setDue_59 f0 sh0 rfl rfl) ?_
        refine Eq.trans (g_A dX9_setDue_62 rfl rfl) ?_
        refine Eq.trans (g_A dX9_setDue_63 rfl rfl) ?_
        refine Eq.trans (g_vV (a := 3) (as := [.int v1, .int v2]) (rest := []) dX9_setDue_64 cl34 m84 rfl rfl rfl rfl (Nat.le_of_ble_eq_true rfl) rfl rfl rfl rfl) ?_
        refine am_bV_c (fun t4 => ?_)
        refine Eq.trans (g_A dX9_setDue_67 rfl rfl) ?_
        exact g_iret dX9_setDue_68 rfl
    · rfl
theorem q112_17 (C : am_C) (σ : am_M) (v1 v2 : Int32) : am_go am_X0 C M112 17 [.ref 0, .int v1, .int v2, .null] [] σ = some (.inr "java/lang/IllegalArgumentException", am_tick σ) := by
  exact g_thr dX9_setDue_17 dX9_setDue_20 (Or.inl ⟨dX9_setDue_21, rfl⟩) dX9_setDue_23 dX9_setDue_26 rfl xt3 (Nat.le_of_ble_eq_true rfl)
theorem q113_0 (C : am_C) (σ : am_M) (v1 : Int32) : am_go am_X0 C M113 0 [.ref 0, .int v1, .null, .null] [] σ = if v1 < (nI 1) then (am_go am_X0 C M113 12 [.ref 0, .int v1, .null, .null] [] σ) else (if v1 ≤ (nI 10000) then (if ((σ.1 0 12) + v1) ≤ (1000000) then (am_go am_X0 C M113 57 [.ref 0, .int v1, .int (nI 0), .int (nI 0)] [] (am_wI σ 0 12 ((σ.1 0 12) + v1))) else (some (.inr "java/lang/IllegalStateException", am_tick σ))) else (am_go am_X0 C M113 12 [.ref 0, .int v1, .null, .null] [] σ)) := by
  refine Eq.trans (g_A dX9_passDays_0 rfl rfl) ?_
  refine Eq.trans (g_K (v := nI 1) dX9_passDays_1 rfl rfl) ?_
  refine Eq.trans (g_iclt (t := 12) dX9_passDays_2 rfl rfl) ?_
  refine am_ite ?_ ?_
  · rfl
  · refine Eq.trans (g_A dX9_passDays_5 rfl rfl) ?_
    refine Eq.trans (g_K (v := nI 10000) dX9_passDays_6 rfl rfl) ?_
    refine Eq.trans (g_icle (t := 22) dX9_passDays_9 rfl rfl) ?_
    refine am_ite ?_ ?_
    · refine Eq.trans (g_A dX9_passDays_22 rfl rfl) ?_
      refine Eq.trans (g_getI dX9_passDays_23 f7 sh0 rfl rfl) ?_
      refine Eq.trans (g_A dX9_passDays_26 rfl rfl) ?_
      refine Eq.trans (g_iadd dX9_passDays_27 rfl) ?_
      refine Eq.trans (g_ldc dX9_passDays_28 ki0 rfl) ?_
      refine Eq.trans (g_icle (t := 43) dX9_passDays_30 rfl rfl) ?_
      refine am_ite ?_ ?_
      · refine Eq.trans (g_A dX9_passDays_43 rfl rfl) ?_
        refine Eq.trans (g_B dX9_passDays_44 rfl rfl rfl) ?_
        refine Eq.trans (g_getI dX9_passDays_45 f7 sh0 rfl rfl) ?_
        refine Eq.trans (g_A dX9_passDays_48 rfl rfl) ?_
        refine Eq.trans (g_iadd dX9_passDays_49 rfl) ?_
        refine Eq.trans (g_put dX9_passDays_50 f7 sh0 rfl rfl rfl) ?_
        refine Eq.trans (g_K (v := nI 0) dX9_passDays_53 rfl rfl) ?_
        refine Eq.trans (g_isn (k := 2) dX9_passDays_54 rfl (Nat.le_of_ble_eq_true rfl) rfl rfl rfl) ?_
        refine Eq.trans (g_K (v := nI 0) dX9_passDays_55 rfl rfl) ?_
        refine Eq.trans (g_isn (k := 3) dX9_passDays_56 rfl (Nat.le_of_ble_eq_true rfl) rfl rfl rfl) ?_
        rfl
      · exact g_thr dX9_passDays_33 dX9_passDays_36 (Or.inl ⟨dX9_passDays_37, rfl⟩) dX9_passDays_39 dX9_passDays_42 rfl xt6 (Nat.le_of_ble_eq_true rfl)
    · rfl
theorem q113_12 (C : am_C) (σ : am_M) (v1 : Int32) : am_go am_X0 C M113 12 [.ref 0, .int v1, .null, .null] [] σ = some (.inr "java/lang/IllegalArgumentException", am_tick σ) := by
  exact g_thr dX9_passDays_12 dX9_passDays_15 (Or.inl ⟨dX9_passDays_16, rfl⟩) dX9_passDays_18 dX9_passDays_21 rfl xt5 (Nat.le_of_ble_eq_true rfl)
theorem q113_57 (C : am_C) (σ : am_M) (v1 v2 v3 : Int32) : am_go am_X0 C M113 57 [.ref 0, .int v1, .int v2, .int v3] [] σ = if (nI 64) ≤ v3 then (some (.inl (some (.int v2)), σ)) else (am_bI (C 81 [.ref 3, .int v3, .int (σ.1 0 12)] σ) (fun r1 t1 => if r1 = nI 0 then (am_go am_X0 C M113 57 [.ref 0, .int v1, .int v2, .int (v3 + nI 1)] [] t1) else (am_bI (C 82 [.ref 3, .int v3] t1) (fun r2 t2 => if r2 = nI 0 then (am_bI (C 154 [.ref 0, .int v3] t2) (fun r3 t3 => if r3 = nI 0 then (am_bV (C 85 [.ref 3, .int v3, .int (nI 1)] t3) (fun t4 => am_go am_X0 C M113 57 [.ref 0, .int v1, .int (v2 + nI 1), .int (v3 + nI 1)] [] t4)) else (am_go am_X0 C M113 57 [.ref 0, .int v1, .int v2, .int (v3 + nI 1)] [] t3))) else (am_go am_X0 C M113 57 [.ref 0, .int v1, .int v2, .int (v3 + nI 1)] [] t2))))) := by
  refine Eq.trans (g_A dX9_passDays_57 rfl rfl) ?_
  refine Eq.trans (g_K (v := nI 64) dX9_passDays_58 rfl rfl) ?_
  refine Eq.trans (g_icge (t := 115) dX9_passDays_60 rfl rfl) ?_
  refine am_ite ?_ ?_
  · refine Eq.trans (g_A dX9_passDays_115 rfl rfl) ?_
    exact g_iret dX9_passDays_116 rfl
  · refine Eq.trans (g_A dX9_passDays_63 rfl rfl) ?_
    refine Eq.trans (g_getR dX9_passDays_64 f0 sh0 rfl rfl) ?_
    refine Eq.trans (g_A dX9_passDays_67 rfl rfl) ?_
    refine Eq.trans (g_A dX9_passDays_68 rfl rfl) ?_
    refine Eq.trans (g_getI dX9_passDays_69 f7 sh0 rfl rfl) ?_
    refine Eq.trans (g_vI (a := 3) (as := [.int v3, .int (σ.1 0 12)]) (rest := []) dX9_passDays_72 cl35 m81 rfl rfl rfl rfl (Nat.le_of_ble_eq_true rfl) rfl rfl rfl rfl) ?_
    refine am_bI_c (fun r1 t1 => ?_)
    refine Eq.trans (g_ifeq (t := 109) dX9_passDays_75 rfl rfl) ?_
    refine am_ite ?_ ?_
    · refine Eq.trans (g_inc (v := v3 + nI 1) dX9_passDays_109 rfl (Nat.le_of_ble_eq_true rfl) rfl rfl rfl rfl) ?_
      refine Eq.trans (g_goto (pc' := 57) dX9_passDays_112 rfl) ?_
      rfl
    · refine Eq.trans (g_A dX9_passDays_78 rfl rfl) ?_
      refine Eq.trans (g_getR dX9_passDays_79 f0 sh0 rfl rfl) ?_
      refine Eq.trans (g_A dX9_passDays_82 rfl rfl) ?_
      refine Eq.trans (g_vI (a := 3) (as := [.int v3]) (rest := []) dX9_passDays_83 cl30 m82 rfl rfl rfl rfl (Nat.le_of_ble_eq_true rfl) rfl rfl rfl rfl) ?_
      refine am_bI_c (fun r2 t2 => ?_)
      refine Eq.trans (g_ifne (t := 109) dX9_passDays_86 rfl rfl) ?_
      refine am_ite ?_ ?_
      · refine Eq.trans (g_A dX9_passDays_89 rfl rfl) ?_
        refine Eq.trans (g_A dX9_passDays_90 rfl rfl) ?_
        refine Eq.trans (g_vI (a := 0) (as := [.int v3]) (rest := []) dX9_passDays_91 cl29 m154 rfl rfl rfl rfl (Nat.le_of_ble_eq_true rfl) rfl rfl rfl rfl) ?_
        refine am_bI_c (fun r3 t3 => ?_)
        refine Eq.trans (g_ifne (t := 109) dX9_passDays_94 rfl rfl) ?_
        refine am_ite ?_ ?_
        · refine Eq.trans (g_A dX9_passDays_97 rfl rfl) ?_
          refine Eq.trans (g_getR dX9_passDays_98 f0 sh0 rfl rfl) ?_
          refine Eq.trans (g_A dX9_passDays_101 rfl rfl) ?_
          refine Eq.trans (g_K (v := nI 1) dX9_passDays_102 rfl rfl) ?_
          refine Eq.trans (g_vV (a := 3) (as := [.int v3, .int (nI 1)]) (rest := []) dX9_passDays_103 cl31 m85 rfl rfl rfl rfl (Nat.le_of_ble_eq_true rfl) rfl rfl rfl rfl) ?_
          refine am_bV_c (fun t4 => ?_)
          refine Eq.trans (g_inc (v := v2 + nI 1) dX9_passDays_106 rfl (Nat.le_of_ble_eq_true rfl) rfl rfl rfl rfl) ?_
          refine Eq.trans (g_inc (v := v3 + nI 1) dX9_passDays_109 rfl (Nat.le_of_ble_eq_true rfl) rfl rfl rfl rfl) ?_
          refine Eq.trans (g_goto (pc' := 57) dX9_passDays_112 rfl) ?_
          rfl
        · refine Eq.trans (g_inc (v := v3 + nI 1) dX9_passDays_109 rfl (Nat.le_of_ble_eq_true rfl) rfl rfl rfl rfl) ?_
          refine Eq.trans (g_goto (pc' := 57) dX9_passDays_112 rfl) ?_
          rfl
      · refine Eq.trans (g_inc (v := v3 + nI 1) dX9_passDays_109 rfl (Nat.le_of_ble_eq_true rfl) rfl rfl rfl rfl) ?_
        refine Eq.trans (g_goto (pc' := 57) dX9_passDays_112 rfl) ?_
        rfl
theorem q114_0 (C : am_C) (σ : am_M) : am_go am_X0 C M114 0 [.ref 0] [] σ = some (.inl (some (.int (σ.1 0 12))), σ) := by
  refine Eq.trans (g_A dX9_day_0 rfl rfl) ?_
  refine Eq.trans (g_getI dX9_day_1 f7 sh0 rfl rfl) ?_
  exact g_iret dX9_day_4 rfl
theorem q115_0 (C : am_C) (σ : am_M) (v1 : Int32) : am_go am_X0 C M115 0 [.ref 0, .int v1, .null, .null] [] σ = am_go am_X0 C M115 4 [.ref 0, .int v1, .int (nI 0), .int (nI 0)] [] σ := by
  refine Eq.trans (g_K (v := nI 0) dX9_dueCount_0 rfl rfl) ?_
  refine Eq.trans (g_isn (k := 2) dX9_dueCount_1 rfl (Nat.le_of_ble_eq_true rfl) rfl rfl rfl) ?_
  refine Eq.trans (g_K (v := nI 0) dX9_dueCount_2 rfl rfl) ?_
  refine Eq.trans (g_isn (k := 3) dX9_dueCount_3 rfl (Nat.le_of_ble_eq_true rfl) rfl rfl rfl) ?_
  rfl
theorem q115_4 (C : am_C) (σ : am_M) (v1 v2 v3 : Int32) : am_go am_X0 C M115 4 [.ref 0, .int v1, .int v2, .int v3] [] σ = if (nI 64) ≤ v3 then (some (.inl (some (.int v2)), σ)) else (am_bI (C 81 [.ref 3, .int v3, .int (σ.1 0 12)] σ) (fun r1 t1 => if r1 = nI 0 then (am_go am_X0 C M115 4 [.ref 0, .int v1, .int v2, .int (v3 + nI 1)] [] t1) else (am_bI (C 154 [.ref 0, .int v3] t1) (fun r2 t2 => if r2 = nI 0 then (am_go am_X0 C M115 38 [.ref 0, .int v1, .int v2, .int v3] [.int (nI 0)] t2) else (am_go am_X0 C M115 38 [.ref 0, .int v1, .int v2, .int v3] [.int (nI 1)] t2))))) := by
  refine Eq.trans (g_A dX9_dueCount_4 rfl rfl) ?_
  refine Eq.trans (g_K (v := nI 64) dX9_dueCount_5 rfl rfl) ?_
  refine Eq.trans (g_icge (t := 51) dX9_dueCount_7 rfl rfl) ?_
  refine am_ite ?_ ?_
  · refine Eq.trans (g_A dX9_dueCount_51 rfl rfl) ?_
    exact g_iret dX9_dueCount_52 rfl
  · refine Eq.trans (g_A dX9_dueCount_10 rfl rfl) ?_
    refine Eq.trans (g_getR dX9_dueCount_11 f0 sh0 rfl rfl) ?_
    refine Eq.trans (g_A dX9_dueCount_14 rfl rfl) ?_
    refine Eq.trans (g_A dX9_dueCount_15 rfl rfl) ?_
    refine Eq.trans (g_getI dX9_dueCount_16 f7 sh0 rfl rfl) ?_
    refine Eq.trans (g_vI (a := 3) (as := [.int v3, .int (σ.1 0 12)]) (rest := []) dX9_dueCount_19 cl35 m81 rfl rfl rfl rfl (Nat.le_of_ble_eq_true rfl) rfl rfl rfl rfl) ?_
    refine am_bI_c (fun r1 t1 => ?_)
    refine Eq.trans (g_ifeq (t := 45) dX9_dueCount_22 rfl rfl) ?_
    refine am_ite ?_ ?_
    · refine Eq.trans (g_inc (v := v3 + nI 1) dX9_dueCount_45 rfl (Nat.le_of_ble_eq_true rfl) rfl rfl rfl rfl) ?_
      refine Eq.trans (g_goto (pc' := 4) dX9_dueCount_48 rfl) ?_
      rfl
    · refine Eq.trans (g_A dX9_dueCount_25 rfl rfl) ?_
      refine Eq.trans (g_A dX9_dueCount_26 rfl rfl) ?_
      refine Eq.trans (g_vI (a := 0) (as := [.int v3]) (rest := []) dX9_dueCount_27 cl29 m154 rfl rfl rfl rfl (Nat.le_of_ble_eq_true rfl) rfl rfl rfl rfl) ?_
      refine am_bI_c (fun r2 t2 => ?_)
      refine Eq.trans (g_ifeq (t := 37) dX9_dueCount_30 rfl rfl) ?_
      refine am_ite ?_ ?_
      · refine Eq.trans (g_K (v := nI 0) dX9_dueCount_37 rfl rfl) ?_
        rfl
      · refine Eq.trans (g_K (v := nI 1) dX9_dueCount_33 rfl rfl) ?_
        refine Eq.trans (g_goto (pc' := 38) dX9_dueCount_34 rfl) ?_
        rfl
theorem q115_38 (C : am_C) (σ : am_M) (v1 v2 v3 s0 : Int32) : am_go am_X0 C M115 38 [.ref 0, .int v1, .int v2, .int v3] [.int s0] σ = if s0 = v1 then (am_go am_X0 C M115 4 [.ref 0, .int v1, .int (v2 + nI 1), .int (v3 + nI 1)] [] σ) else (am_go am_X0 C M115 4 [.ref 0, .int v1, .int v2, .int (v3 + nI 1)] [] σ) := by
  refine Eq.trans (g_A dX9_dueCount_38 rfl rfl) ?_
  refine Eq.trans (g_icne (t := 45) dX9_dueCount_39 rfl rfl) ?_
  refine am_ite ?_ ?_
  · refine Eq.trans (g_inc (v := v2 + nI 1) dX9_dueCount_42 rfl (Nat.le_of_ble_eq_true rfl) rfl rfl rfl rfl) ?_
    refine Eq.trans (g_inc (v := v3 + nI 1) dX9_dueCount_45 rfl (Nat.le_of_ble_eq_true rfl) rfl rfl rfl rfl) ?_
    refine Eq.trans (g_goto (pc' := 4) dX9_dueCount_48 rfl) ?_
    rfl
  · refine Eq.trans (g_inc (v := v3 + nI 1) dX9_dueCount_45 rfl (Nat.le_of_ble_eq_true rfl) rfl rfl rfl rfl) ?_
    refine Eq.trans (g_goto (pc' := 4) dX9_dueCount_48 rfl) ?_
    rfl
theorem q116_0 (C : am_C) (σ : am_M) (v1 : Int32) : am_go am_X0 C M116 0 [.ref 0, .int v1, .null] [] σ = am_bV (C 144 [.int v1, .int (nI 64)] σ) (fun t1 => am_bI (C 79 [.ref 3, .int v1] t1) (fun r2 t2 => if r2 = (-1) then (am_go am_X0 C M116 26 [.ref 0, .int v1, .null] [] t2) else (am_bI (C 154 [.ref 0, .int v1] t2) (fun r3 t3 => if r3 = nI 0 then (am_bI (C 82 [.ref 3, .int v1] t3) (fun r4 t4 => if r4 = nI 0 then (am_bV (C 13 [.ref 7, .int (-1)] t4) (fun t5 => am_bI (C 17 [.ref 7] t5) (fun r6 t6 => am_bV (C 13 [.ref 7, .int v1] t6) (fun t7 => am_bI (C 17 [.ref 7] t7) (fun r8 t8 => some (.inl (some (.int (r8 - r6))), t8)))))) else (some (.inl (some (.int (nI 0))), t4)))) else (am_go am_X0 C M116 26 [.ref 0, .int v1, .null] [] t3))))) := by
  refine Eq.trans (g_A dX9_extraCost_0 rfl rfl) ?_
  refine Eq.trans (g_K (v := nI 64) dX9_extraCost_1 rfl rfl) ?_
  refine Eq.trans (g_sV (as := [.int v1, .int (nI 64)]) (rest := []) dX9_extraCost_3 rfl cl1 m144 rfl rfl rfl rfl (Nat.le_of_ble_eq_true rfl) rfl rfl rfl) ?_
  refine am_bV_c (fun t1 => ?_)
  refine Eq.trans (g_A dX9_extraCost_6 rfl rfl) ?_
  refine Eq.trans (g_getR dX9_extraCost_7 f0 sh0 rfl rfl) ?_
  refine Eq.trans (g_A dX9_extraCost_10 rfl rfl) ?_
  refine Eq.trans (g_vI (a := 3) (as := [.int v1]) (rest := []) dX9_extraCost_11 cl2 m79 rfl rfl rfl rfl (Nat.le_of_ble_eq_true rfl) rfl rfl rfl rfl) ?_
  refine am_bI_c (fun r2 t2 => ?_)
  refine Eq.trans (g_K (v := (-1)) dX9_extraCost_14 rfl rfl) ?_
  refine Eq.trans (g_iceq (t := 26) dX9_extraCost_15 rfl rfl) ?_
  refine am_ite ?_ ?_
  · rfl
  · refine Eq.trans (g_A dX9_extraCost_18 rfl rfl) ?_
    refine Eq.trans (g_A dX9_extraCost_19 rfl rfl) ?_
    refine Eq.trans (g_vI (a := 0) (as := [.int v1]) (rest := []) dX9_extraCost_20 cl29 m154 rfl rfl rfl rfl (Nat.le_of_ble_eq_true rfl) rfl rfl rfl rfl) ?_
    refine am_bI_c (fun r3 t3 => ?_)
    refine Eq.trans (g_ifeq (t := 36) dX9_extraCost_23 rfl rfl) ?_
    refine am_ite ?_ ?_
    · refine Eq.trans (g_A dX9_extraCost_36 rfl rfl) ?_
      refine Eq.trans (g_getR dX9_extraCost_37 f0 sh0 rfl rfl) ?_
      refine Eq.trans (g_A dX9_extraCost_40 rfl rfl) ?_
      refine Eq.trans (g_vI (a := 3) (as := [.int v1]) (rest := []) dX9_extraCost_41 cl30 m82 rfl rfl rfl rfl (Nat.le_of_ble_eq_true rfl) rfl rfl rfl rfl) ?_
      refine am_bI_c (fun r4 t4 => ?_)
      refine Eq.trans (g_ifeq (t := 49) dX9_extraCost_44 rfl rfl) ?_
      refine am_ite ?_ ?_
      · refine Eq.trans (g_A dX9_extraCost_49 rfl rfl) ?_
        refine Eq.trans (g_getR dX9_extraCost_50 f8 sh0 rfl rfl) ?_
        refine Eq.trans (g_K (v := (-1)) dX9_extraCost_53 rfl rfl) ?_
        refine Eq.trans (g_vV (a := 7) (as := [.int (-1)]) (rest := []) dX9_extraCost_54 cl36 m13 rfl rfl rfl rfl (Nat.le_of_ble_eq_true rfl) rfl rfl rfl rfl) ?_
        refine am_bV_c (fun t5 => ?_)
        refine Eq.trans (g_A dX9_extraCost_57 rfl rfl) ?_
        refine Eq.trans (g_getR dX9_extraCost_58 f8 sh0 rfl rfl) ?_
        refine Eq.trans (g_vI (a := 7) (as := []) (rest := []) dX9_extraCost_61 cl37 m17 rfl rfl rfl rfl (Nat.le_of_ble_eq_true rfl) rfl rfl rfl rfl) ?_
        refine am_bI_c (fun r6 t6 => ?_)
        refine Eq.trans (g_isn (k := 2) dX9_extraCost_64 rfl (Nat.le_of_ble_eq_true rfl) rfl rfl rfl) ?_
        refine Eq.trans (g_A dX9_extraCost_65 rfl rfl) ?_
        refine Eq.trans (g_getR dX9_extraCost_66 f8 sh0 rfl rfl) ?_
        refine Eq.trans (g_A dX9_extraCost_69 rfl rfl) ?_
        refine Eq.trans (g_vV (a := 7) (as := [.int v1]) (rest := []) dX9_extraCost_70 cl36 m13 rfl rfl rfl rfl (Nat.le_of_ble_eq_true rfl) rfl rfl rfl rfl) ?_
        refine am_bV_c (fun t7 => ?_)
        refine Eq.trans (g_A dX9_extraCost_73 rfl rfl) ?_
        refine Eq.trans (g_getR dX9_extraCost_74 f8 sh0 rfl rfl) ?_
        refine Eq.trans (g_vI (a := 7) (as := []) (rest := []) dX9_extraCost_77 cl37 m17 rfl rfl rfl rfl (Nat.le_of_ble_eq_true rfl) rfl rfl rfl rfl) ?_
        refine am_bI_c (fun r8 t8 => ?_)
        refine Eq.trans (g_A dX9_extraCost_80 rfl rfl) ?_
        refine Eq.trans (g_isub dX9_extraCost_81 rfl) ?_
        exact g_iret dX9_extraCost_82 rfl
      · refine Eq.trans (g_K (v := nI 0) dX9_extraCost_47 rfl rfl) ?_
        exact g_iret dX9_extraCost_48 rfl
    · rfl
theorem q116_26 (C : am_C) (σ : am_M) (v1 : Int32) : am_go am_X0 C M116 26 [.ref 0, .int v1, .null] [] σ = some (.inr "java/lang/IllegalStateException", am_tick σ) := by
  exact g_thr dX9_extraCost_26 dX9_extraCost_29 (Or.inl ⟨dX9_extraCost_30, rfl⟩) dX9_extraCost_32 dX9_extraCost_35 rfl xt2 (Nat.le_of_ble_eq_true rfl)
theorem q117_0 (C : am_C) (σ : am_M) (v1 : Int32) : am_go am_X0 C M117 0 [.ref 0, .int v1, .null, .null] [] σ = am_bV (C 13 [.ref 7, .int (-1)] σ) (fun t1 => am_bI (C 14 [.ref 7] t1) (fun r2 t2 => if r2 = nI 0 then (if v1 = nI 0 then (am_bI (C 156 [.ref 0] t2) (fun r3 t3 => if r3 = nI 0 then (am_go am_X0 C M117 39 [.ref 0, .int v1, .null, .null] [] t3) else (am_go am_X0 C M117 29 [.ref 0, .int v1, .null, .null] [] t3))) else (am_go am_X0 C M117 39 [.ref 0, .int v1, .null, .null] [] t2)) else (am_go am_X0 C M117 29 [.ref 0, .int v1, .null, .null] [] t2))) := by
  refine Eq.trans (g_A dX9_forget_0 rfl rfl) ?_
  refine Eq.trans (g_getR dX9_forget_1 f8 sh0 rfl rfl) ?_
  refine Eq.trans (g_K (v := (-1)) dX9_forget_4 rfl rfl) ?_
  refine Eq.trans (g_vV (a := 7) (as := [.int (-1)]) (rest := []) dX9_forget_5 cl36 m13 rfl rfl rfl rfl (Nat.le_of_ble_eq_true rfl) rfl rfl rfl rfl) ?_
  refine am_bV_c (fun t1 => ?_)
  refine Eq.trans (g_A dX9_forget_8 rfl rfl) ?_
  refine Eq.trans (g_getR dX9_forget_9 f8 sh0 rfl rfl) ?_
  refine Eq.trans (g_vI (a := 7) (as := []) (rest := []) dX9_forget_12 cl38 m14 rfl rfl rfl rfl (Nat.le_of_ble_eq_true rfl) rfl rfl rfl rfl) ?_
  refine am_bI_c (fun r2 t2 => ?_)
  refine Eq.trans (g_ifne (t := 29) dX9_forget_15 rfl rfl) ?_
  refine am_ite ?_ ?_
  · refine Eq.trans (g_A dX9_forget_18 rfl rfl) ?_
    refine Eq.trans (g_ifne (t := 39) dX9_forget_19 rfl rfl) ?_
    refine am_ite ?_ ?_
    · refine Eq.trans (g_A dX9_forget_22 rfl rfl) ?_
      refine Eq.trans (g_vI (a := 0) (as := []) (rest := []) dX9_forget_23 cl39 m156 rfl rfl rfl rfl (Nat.le_of_ble_eq_true rfl) rfl rfl rfl rfl) ?_
      refine am_bI_c (fun r3 t3 => ?_)
      refine Eq.trans (g_ifeq (t := 39) dX9_forget_26 rfl rfl) ?_
      refine am_ite ?_ ?_
      · rfl
      · rfl
    · rfl
  · rfl
theorem q117_29 (C : am_C) (σ : am_M) (v1 : Int32) : am_go am_X0 C M117 29 [.ref 0, .int v1, .null, .null] [] σ = some (.inr "java/lang/IllegalStateException", am_tick σ) := by
  exact g_thr dX9_forget_29 dX9_forget_32 (Or.inl ⟨dX9_forget_33, rfl⟩) dX9_forget_35 dX9_forget_38 rfl xt7 (Nat.le_of_ble_eq_true rfl)
theorem q117_39 (C : am_C) (σ : am_M) (v1 : Int32) : am_go am_X0 C M117 39 [.ref 0, .int v1, .null, .null] [] σ = am_bI (C 17 [.ref 7] σ) (fun r1 t1 => am_bV (C 146 [.ref 0, .int r1] t1) (fun t2 => am_bV (C 94 [.ref 3, .ref 7] t2) (fun t3 => am_go am_X0 C M117 65 [.ref 0, .int v1, .int r1, .int (nI 0)] [] t3))) := by
  refine Eq.trans (g_A dX9_forget_39 rfl rfl) ?_
  refine Eq.trans (g_getR dX9_forget_40 f8 sh0 rfl rfl) ?_
  refine Eq.trans (g_vI (a := 7) (as := []) (rest := []) dX9_forget_43 cl37 m17 rfl rfl rfl rfl (Nat.le_of_ble_eq_true rfl) rfl rfl rfl rfl) ?_
  refine am_bI_c (fun r1 t1 => ?_)
  refine Eq.trans (g_isn (k := 2) dX9_forget_46 rfl (Nat.le_of_ble_eq_true rfl) rfl rfl rfl) ?_
  refine Eq.trans (g_A dX9_forget_47 rfl rfl) ?_
  refine Eq.trans (g_A dX9_forget_48 rfl rfl) ?_
  refine Eq.trans (g_vV (a := 0) (as := [.int r1]) (rest := []) dX9_forget_49 cl6 m146 rfl rfl rfl rfl (Nat.le_of_ble_eq_true rfl) rfl rfl rfl rfl) ?_
  refine am_bV_c (fun t2 => ?_)
  refine Eq.trans (g_A dX9_forget_52 rfl rfl) ?_
  refine Eq.trans (g_getR dX9_forget_53 f0 sh0 rfl rfl) ?_
  refine Eq.trans (g_A dX9_forget_56 rfl rfl) ?_
  refine Eq.trans (g_getR dX9_forget_57 f8 sh0 rfl rfl) ?_
  refine Eq.trans (g_vV (a := 3) (as := [.ref 7]) (rest := []) dX9_forget_60 cl40 m94 rfl rfl rfl rfl (Nat.le_of_ble_eq_true rfl) rfl rfl rfl rfl) ?_
  refine am_bV_c (fun t3 => ?_)
  refine Eq.trans (g_K (v := nI 0) dX9_forget_63 rfl rfl) ?_
  refine Eq.trans (g_isn (k := 3) dX9_forget_64 rfl (Nat.le_of_ble_eq_true rfl) rfl rfl rfl) ?_
  rfl
theorem q117_65 (C : am_C) (σ : am_M) (v1 v2 v3 : Int32) : am_go am_X0 C M117 65 [.ref 0, .int v1, .int v2, .int v3] [] σ = if (nI 21) ≤ v3 then (am_go am_X0 C M117 98 [.ref 0, .int v1, .int v2, .int (nI 0)] [] σ) else (am_bI (C 16 [.ref 7, .int v3] σ) (fun r1 t1 => if r1 = nI 0 then (am_go am_X0 C M117 65 [.ref 0, .int v1, .int v2, .int (v3 + nI 1)] [] t1) else (am_bV (C 91 [.ref 3, .int v3] t1) (fun t2 => am_go am_X0 C M117 65 [.ref 0, .int v1, .int v2, .int (v3 + nI 1)] [] t2)))) := by
  refine Eq.trans (g_A dX9_forget_65 rfl rfl) ?_
  refine Eq.trans (g_K (v := nI 21) dX9_forget_66 rfl rfl) ?_
  refine Eq.trans (g_icge (t := 96) dX9_forget_68 rfl rfl) ?_
  refine am_ite ?_ ?_
  · refine Eq.trans (g_K (v := nI 0) dX9_forget_96 rfl rfl) ?_
    refine Eq.trans (g_isn (k := 3) dX9_forget_97 rfl (Nat.le_of_ble_eq_true rfl) rfl rfl rfl) ?_
    rfl
  · refine Eq.trans (g_A dX9_forget_71 rfl rfl) ?_
    refine Eq.trans (g_getR dX9_forget_72 f8 sh0 rfl rfl) ?_
    refine Eq.trans (g_A dX9_forget_75 rfl rfl) ?_
    refine Eq.trans (g_vI (a := 7) (as := [.int v3]) (rest := []) dX9_forget_76 cl41 m16 rfl rfl rfl rfl (Nat.le_of_ble_eq_true rfl) rfl rfl rfl rfl) ?_
    refine am_bI_c (fun r1 t1 => ?_)
    refine Eq.trans (g_ifeq (t := 90) dX9_forget_79 rfl rfl) ?_
    refine am_ite ?_ ?_
    · refine Eq.trans (g_inc (v := v3 + nI 1) dX9_forget_90 rfl (Nat.le_of_ble_eq_true rfl) rfl rfl rfl rfl) ?_
      refine Eq.trans (g_goto (pc' := 65) dX9_forget_93 rfl) ?_
      rfl
    · refine Eq.trans (g_A dX9_forget_82 rfl rfl) ?_
      refine Eq.trans (g_getR dX9_forget_83 f0 sh0 rfl rfl) ?_
      refine Eq.trans (g_A dX9_forget_86 rfl rfl) ?_
      refine Eq.trans (g_vV (a := 3) (as := [.int v3]) (rest := []) dX9_forget_87 cl42 m91 rfl rfl rfl rfl (Nat.le_of_ble_eq_true rfl) rfl rfl rfl rfl) ?_
      refine am_bV_c (fun t2 => ?_)
      refine Eq.trans (g_inc (v := v3 + nI 1) dX9_forget_90 rfl (Nat.le_of_ble_eq_true rfl) rfl rfl rfl rfl) ?_
      refine Eq.trans (g_goto (pc' := 65) dX9_forget_93 rfl) ?_
      rfl
theorem q117_98 (C : am_C) (σ : am_M) (v1 v2 v3 : Int32) : am_go am_X0 C M117 98 [.ref 0, .int v1, .int v2, .int v3] [] σ = if (nI 21) ≤ v3 then (am_bV (C 157 [.ref 0] σ) (fun t1 => some (.inl (some (.int v2)), t1))) else (am_bI (C 16 [.ref 7, .int v3] σ) (fun r2 t2 => if r2 = nI 0 then (am_go am_X0 C M117 98 [.ref 0, .int v1, .int v2, .int (v3 + nI 1)] [] t2) else (am_bV (C 152 [.ref 0, .int v3] t2) (fun t3 => am_go am_X0 C M117 98 [.ref 0, .int v1, .int v2, .int (v3 + nI 1)] [] t3)))) := by
  refine Eq.trans (g_A dX9_forget_98 rfl rfl) ?_
  refine Eq.trans (g_K (v := nI 21) dX9_forget_99 rfl rfl) ?_
  refine Eq.trans (g_icge (t := 126) dX9_forget_101 rfl rfl) ?_
  refine am_ite ?_ ?_
  · refine Eq.trans (g_A dX9_forget_126 rfl rfl) ?_
    refine Eq.trans (g_vV (a := 0) (as := []) (rest := []) dX9_forget_127 cl44 m157 rfl rfl rfl rfl (Nat.le_of_ble_eq_true rfl) rfl rfl rfl rfl) ?_
    refine am_bV_c (fun t1 => ?_)
    refine Eq.trans (g_A dX9_forget_130 rfl rfl) ?_
    exact g_iret dX9_forget_131 rfl
  · refine Eq.trans (g_A dX9_forget_104 rfl rfl) ?_
    refine Eq.trans (g_getR dX9_forget_105 f8 sh0 rfl rfl) ?_
    refine Eq.trans (g_A dX9_forget_108 rfl rfl) ?_
    refine Eq.trans (g_vI (a := 7) (as := [.int v3]) (rest := []) dX9_forget_109 cl41 m16 rfl rfl rfl rfl (Nat.le_of_ble_eq_true rfl) rfl rfl rfl rfl) ?_
    refine am_bI_c (fun r2 t2 => ?_)
    refine Eq.trans (g_ifeq (t := 120) dX9_forget_112 rfl rfl) ?_
    refine am_ite ?_ ?_
    · refine Eq.trans (g_inc (v := v3 + nI 1) dX9_forget_120 rfl (Nat.le_of_ble_eq_true rfl) rfl rfl rfl rfl) ?_
      refine Eq.trans (g_goto (pc' := 98) dX9_forget_123 rfl) ?_
      rfl
    · refine Eq.trans (g_A dX9_forget_115 rfl rfl) ?_
      refine Eq.trans (g_A dX9_forget_116 rfl rfl) ?_
      refine Eq.trans (g_vV (a := 0) (as := [.int v3]) (rest := []) dX9_forget_117 cl43 m152 rfl rfl rfl rfl (Nat.le_of_ble_eq_true rfl) rfl rfl rfl rfl) ?_
      refine am_bV_c (fun t3 => ?_)
      refine Eq.trans (g_inc (v := v3 + nI 1) dX9_forget_120 rfl (Nat.le_of_ble_eq_true rfl) rfl rfl rfl rfl) ?_
      refine Eq.trans (g_goto (pc' := 98) dX9_forget_123 rfl) ?_
      rfl
theorem q118_0 (C : am_C) (σ : am_M) : am_go am_X0 C M118 0 [.ref 0] [] σ = am_bV (C 13 [.ref 7, .int (-1)] σ) (fun t1 => am_bI (C 17 [.ref 7] t1) (fun r2 t2 => some (.inl (some (.int r2)), t2))) := by
  refine Eq.trans (g_A dX9_forgetCost_0 rfl rfl) ?_
  refine Eq.trans (g_getR dX9_forgetCost_1 f8 sh0 rfl rfl) ?_
  refine Eq.trans (g_K (v := (-1)) dX9_forgetCost_4 rfl rfl) ?_
  refine Eq.trans (g_vV (a := 7) (as := [.int (-1)]) (rest := []) dX9_forgetCost_5 cl36 m13 rfl rfl rfl rfl (Nat.le_of_ble_eq_true rfl) rfl rfl rfl rfl) ?_
  refine am_bV_c (fun t1 => ?_)
  refine Eq.trans (g_A dX9_forgetCost_8 rfl rfl) ?_
  refine Eq.trans (g_getR dX9_forgetCost_9 f8 sh0 rfl rfl) ?_
  refine Eq.trans (g_vI (a := 7) (as := []) (rest := []) dX9_forgetCost_12 cl37 m17 rfl rfl rfl rfl (Nat.le_of_ble_eq_true rfl) rfl rfl rfl rfl) ?_
  refine am_bI_c (fun r2 t2 => ?_)
  exact g_iret dX9_forgetCost_15 rfl
theorem q119_0 (C : am_C) (σ : am_M) (v1 : Int32) : am_go am_X0 C M119 0 [.ref 0, .int v1, .null, .null, .null] [] σ = am_bV (C 144 [.int v1, .int (nI 3)] σ) (fun t1 => am_bV (C 13 [.ref 7, .int (-1)] t1) (fun t2 => if am_in v1 5 = true then (am_go am_X0 C M119 24 [.ref 0, .int v1, .int (am_lst.getD (v1 : Int32).toNatClampNeg 0), .int (nI 0), .int (am_lst.getD (v1 : Int32).toNatClampNeg 0)] [] t2) else none)) := by
  refine Eq.trans (g_A dX9_rekeyed_0 rfl rfl) ?_
  refine Eq.trans (g_K (v := nI 3) dX9_rekeyed_1 rfl rfl) ?_
  refine Eq.trans (g_sV (as := [.int v1, .int (nI 3)]) (rest := []) dX9_rekeyed_2 rfl cl1 m144 rfl rfl rfl rfl (Nat.le_of_ble_eq_true rfl) rfl rfl rfl) ?_
  refine am_bV_c (fun t1 => ?_)
  refine Eq.trans (g_A dX9_rekeyed_5 rfl rfl) ?_
  refine Eq.trans (g_getR dX9_rekeyed_6 f8 sh0 rfl rfl) ?_
  refine Eq.trans (g_K (v := (-1)) dX9_rekeyed_9 rfl rfl) ?_
  refine Eq.trans (g_vV (a := 7) (as := [.int (-1)]) (rest := []) dX9_rekeyed_10 cl36 m13 rfl rfl rfl rfl (Nat.le_of_ble_eq_true rfl) rfl rfl rfl rfl) ?_
  refine am_bV_c (fun t2 => ?_)
  refine Eq.trans (g_ls dX9_rekeyed_13 rfl rfl) ?_
  refine Eq.trans (g_A dX9_rekeyed_16 rfl rfl) ?_
  refine Eq.trans (g_lsld dX9_rekeyed_17 rfl) ?_
  refine am_ite ?_ rfl
  refine Eq.trans (g_isn (k := 2) dX9_rekeyed_18 rfl (Nat.le_of_ble_eq_true rfl) rfl rfl rfl) ?_
  refine Eq.trans (g_K (v := nI 0) dX9_rekeyed_19 rfl rfl) ?_
  refine Eq.trans (g_isn (k := 3) dX9_rekeyed_20 rfl (Nat.le_of_ble_eq_true rfl) rfl rfl rfl) ?_
  refine Eq.trans (g_A dX9_rekeyed_21 rfl rfl) ?_
  refine Eq.trans (g_ist (k := 4) dX9_rekeyed_22 (Nat.le_of_ble_eq_true rfl) rfl rfl rfl) ?_
  rfl
theorem q119_24 (C : am_C) (σ : am_M) (v1 v2 v3 v4 : Int32) : am_go am_X0 C M119 24 [.ref 0, .int v1, .int v2, .int v3, .int v4] [] σ = if am_in (v1 + (nI 1)) 5 = true then (if (am_lst.getD (v1 + (nI 1) : Int32).toNatClampNeg 0) ≤ v4 then (some (.inl (some (.int v3)), σ)) else (am_bI (C 16 [.ref 7, .int v4] σ) (fun r1 t1 => if r1 = nI 0 then (am_go am_X0 C M119 24 [.ref 0, .int v1, .int v2, .int v3, .int (v4 + nI 1)] [] t1) else (am_go am_X0 C M119 24 [.ref 0, .int v1, .int v2, .int (v3 ||| ((nI 1) <<< ((v4 - v2) &&& 31))), .int (v4 + nI 1)] [] t1)))) else none := by
  refine Eq.trans (g_A dX9_rekeyed_24 rfl rfl) ?_
  refine Eq.trans (g_ls dX9_rekeyed_26 rfl rfl) ?_
  refine Eq.trans (g_A dX9_rekeyed_29 rfl rfl) ?_
  refine Eq.trans (g_K (v := nI 1) dX9_rekeyed_30 rfl rfl) ?_
  refine Eq.trans (g_iadd dX9_rekeyed_31 rfl) ?_
  refine Eq.trans (g_lsld dX9_rekeyed_32 rfl) ?_
  refine am_ite ?_ rfl
  refine Eq.trans (g_icge (t := 63) dX9_rekeyed_33 rfl rfl) ?_
  refine am_ite ?_ ?_
  · refine Eq.trans (g_A dX9_rekeyed_63 rfl rfl) ?_
    exact g_iret dX9_rekeyed_64 rfl
  · refine Eq.trans (g_A dX9_rekeyed_36 rfl rfl) ?_
    refine Eq.trans (g_getR dX9_rekeyed_37 f8 sh0 rfl rfl) ?_
    refine Eq.trans (g_A dX9_rekeyed_40 rfl rfl) ?_
    refine Eq.trans (g_vI (a := 7) (as := [.int v4]) (rest := []) dX9_rekeyed_42 cl41 m16 rfl rfl rfl rfl (Nat.le_of_ble_eq_true rfl) rfl rfl rfl rfl) ?_
    refine am_bI_c (fun r1 t1 => ?_)
    refine Eq.trans (g_ifeq (t := 57) dX9_rekeyed_45 rfl rfl) ?_
    refine am_ite ?_ ?_
    · refine Eq.trans (g_inc (v := v4 + nI 1) dX9_rekeyed_57 rfl (Nat.le_of_ble_eq_true rfl) rfl rfl rfl rfl) ?_
      refine Eq.trans (g_goto (pc' := 24) dX9_rekeyed_60 rfl) ?_
      rfl
    · refine Eq.trans (g_A dX9_rekeyed_48 rfl rfl) ?_
      refine Eq.trans (g_K (v := nI 1) dX9_rekeyed_49 rfl rfl) ?_
      refine Eq.trans (g_A dX9_rekeyed_50 rfl rfl) ?_
      refine Eq.trans (g_A dX9_rekeyed_52 rfl rfl) ?_
      refine Eq.trans (g_isub dX9_rekeyed_53 rfl) ?_
      refine Eq.trans (g_ishl dX9_rekeyed_54 rfl) ?_
      refine Eq.trans (g_ior dX9_rekeyed_55 rfl) ?_
      refine Eq.trans (g_isn (k := 3) dX9_rekeyed_56 rfl (Nat.le_of_ble_eq_true rfl) rfl rfl rfl) ?_
      refine Eq.trans (g_inc (v := v4 + nI 1) dX9_rekeyed_57 rfl (Nat.le_of_ble_eq_true rfl) rfl rfl rfl rfl) ?_
      refine Eq.trans (g_goto (pc' := 24) dX9_rekeyed_60 rfl) ?_
      rfl
theorem q120_0 (C : am_C) (σ : am_M) (v1 : Int32) : am_go am_X0 C M120 0 [.ref 0, .int v1] [] σ = am_bV (C 144 [.int v1, .int (nI 85)] σ) (fun t1 => am_bI (C 78 [.ref 3, .int v1] t1) (fun r2 t2 => if r2 = nI 0 then (some (.inl (some (.int (-1))), t2)) else (am_bI (C 77 [.ref 3, .int v1] t2) (fun r3 t3 => some (.inl (some (.int r3)), t3))))) := by
  refine Eq.trans (g_A dX9_key_0 rfl rfl) ?_
  refine Eq.trans (g_K (v := nI 85) dX9_key_1 rfl rfl) ?_
  refine Eq.trans (g_sV (as := [.int v1, .int (nI 85)]) (rest := []) dX9_key_3 rfl cl1 m144 rfl rfl rfl rfl (Nat.le_of_ble_eq_true rfl) rfl rfl rfl) ?_
  refine am_bV_c (fun t1 => ?_)
  refine Eq.trans (g_A dX9_key_6 rfl rfl) ?_
  refine Eq.trans (g_getR dX9_key_7 f0 sh0 rfl rfl) ?_
  refine Eq.trans (g_A dX9_key_10 rfl rfl) ?_
  refine Eq.trans (g_vI (a := 3) (as := [.int v1]) (rest := []) dX9_key_11 cl45 m78 rfl rfl rfl rfl (Nat.le_of_ble_eq_true rfl) rfl rfl rfl rfl) ?_
  refine am_bI_c (fun r2 t2 => ?_)
  refine Eq.trans (g_ifeq (t := 28) dX9_key_14 rfl rfl) ?_
  refine am_ite ?_ ?_
  · refine Eq.trans (g_K (v := (-1)) dX9_key_28 rfl rfl) ?_
    exact g_iret dX9_key_29 rfl
  · refine Eq.trans (g_A dX9_key_17 rfl rfl) ?_
    refine Eq.trans (g_getR dX9_key_18 f0 sh0 rfl rfl) ?_
    refine Eq.trans (g_A dX9_key_21 rfl rfl) ?_
    refine Eq.trans (g_vI (a := 3) (as := [.int v1]) (rest := []) dX9_key_22 cl10 m77 rfl rfl rfl rfl (Nat.le_of_ble_eq_true rfl) rfl rfl rfl rfl) ?_
    refine am_bI_c (fun r3 t3 => ?_)
    refine Eq.trans (g_goto (pc' := 29) dX9_key_25 rfl) ?_
    exact g_iret dX9_key_29 rfl
theorem q121_0 (C : am_C) (σ : am_M) (v1 : Int32) : am_go am_X0 C M121 0 [.ref 0, .int v1] [] σ = am_bI (C 24 [.ref 1, .int v1] σ) (fun r1 t1 => if r1 = nI 0 then (some (.inr "java/lang/IndexOutOfBoundsException", am_tick t1)) else (am_bI (C 30 [.ref 1, .int v1] t1) (fun r2 t2 => some (.inl (some (.int r2)), t2)))) := by
  refine Eq.trans (g_A dX9_keyValue_0 rfl rfl) ?_
  refine Eq.trans (g_getR dX9_keyValue_1 f9 sh0 rfl rfl) ?_
  refine Eq.trans (g_A dX9_keyValue_4 rfl rfl) ?_
  refine Eq.trans (g_vI (a := 1) (as := [.int v1]) (rest := []) dX9_keyValue_5 cl46 m24 rfl rfl rfl rfl (Nat.le_of_ble_eq_true rfl) rfl rfl rfl rfl) ?_
  refine am_bI_c (fun r1 t1 => ?_)
  refine Eq.trans (g_ifne (t := 22) dX9_keyValue_8 rfl rfl) ?_
  refine am_ite ?_ ?_
  · exact g_thr dX9_keyValue_11 dX9_keyValue_14 (Or.inr ⟨dX9_keyValue_15, rfl⟩) dX9_keyValue_18 dX9_keyValue_21 rfl xt8 (Nat.le_of_ble_eq_true rfl)
  · refine Eq.trans (g_A dX9_keyValue_22 rfl rfl) ?_
    refine Eq.trans (g_getR dX9_keyValue_23 f9 sh0 rfl rfl) ?_
    refine Eq.trans (g_A dX9_keyValue_26 rfl rfl) ?_
    refine Eq.trans (g_vI (a := 1) (as := [.int v1]) (rest := []) dX9_keyValue_27 cl47 m30 rfl rfl rfl rfl (Nat.le_of_ble_eq_true rfl) rfl rfl rfl rfl) ?_
    refine am_bI_c (fun r2 t2 => ?_)
    exact g_iret dX9_keyValue_30 rfl
theorem q122_0 (C : am_C) (σ : am_M) (v1 v2 : Int32) : am_go am_X0 C M122 0 [.ref 0, .int v1, .int v2] [] σ = am_bV (C 144 [.int v1, .int (nI 4)] σ) (fun t1 => am_bV (C 144 [.int v2, .int (nI 85)] t1) (fun t2 => am_bI (C 78 [.ref 3, .int v2] t2) (fun r3 t3 => if r3 = nI 0 then (some (.inr "java/lang/IllegalStateException", am_tick t3)) else (am_bI (C 77 [.ref 3, .int v2] t3) (fun r4 t4 => if am_in v1 4 = true then (if am_in v1 4 = true then (if am_in v1 4 = true then (some (.inl (some (.int ((am_wI (am_wI t4 11 (v1 : Int32).toNatClampNeg r4) 12 (v1 : Int32).toNatClampNeg v2).1 11 (v1 : Int32).toNatClampNeg))), am_wI (am_wI t4 11 (v1 : Int32).toNatClampNeg r4) 12 (v1 : Int32).toNatClampNeg v2)) else none) else none) else none))))) := by
  refine Eq.trans (g_A dX9_keep_0 rfl rfl) ?_
  refine Eq.trans (g_K (v := nI 4) dX9_keep_1 rfl rfl) ?_
  refine Eq.trans (g_sV (as := [.int v1, .int (nI 4)]) (rest := []) dX9_keep_2 rfl cl1 m144 rfl rfl rfl rfl (Nat.le_of_ble_eq_true rfl) rfl rfl rfl) ?_
  refine am_bV_c (fun t1 => ?_)
  refine Eq.trans (g_A dX9_keep_5 rfl rfl) ?_
  refine Eq.trans (g_K (v := nI 85) dX9_keep_6 rfl rfl) ?_
  refine Eq.trans (g_sV (as := [.int v2, .int (nI 85)]) (rest := []) dX9_keep_8 rfl cl1 m144 rfl rfl rfl rfl (Nat.le_of_ble_eq_true rfl) rfl rfl rfl) ?_
  refine am_bV_c (fun t2 => ?_)
  refine Eq.trans (g_A dX9_keep_11 rfl rfl) ?_
  refine Eq.trans (g_getR dX9_keep_12 f0 sh0 rfl rfl) ?_
  refine Eq.trans (g_A dX9_keep_15 rfl rfl) ?_
  refine Eq.trans (g_vI (a := 3) (as := [.int v2]) (rest := []) dX9_keep_16 cl45 m78 rfl rfl rfl rfl (Nat.le_of_ble_eq_true rfl) rfl rfl rfl rfl) ?_
  refine am_bI_c (fun r3 t3 => ?_)
  refine Eq.trans (g_ifne (t := 33) dX9_keep_19 rfl rfl) ?_
  refine am_ite ?_ ?_
  · exact g_thr dX9_keep_22 dX9_keep_25 (Or.inr ⟨dX9_keep_26, rfl⟩) dX9_keep_29 dX9_keep_32 rfl xt9 (Nat.le_of_ble_eq_true rfl)
  · refine Eq.trans (g_A dX9_keep_33 rfl rfl) ?_
    refine Eq.trans (g_getR dX9_keep_34 f4 sh0 rfl rfl) ?_
    refine Eq.trans (g_A dX9_keep_37 rfl rfl) ?_
    refine Eq.trans (g_A dX9_keep_38 rfl rfl) ?_
    refine Eq.trans (g_getR dX9_keep_39 f0 sh0 rfl rfl) ?_
    refine Eq.trans (g_A dX9_keep_42 rfl rfl) ?_
    refine Eq.trans (g_vI (a := 3) (as := [.int v2]) (rest := [.int v1, .ref 11]) dX9_keep_43 cl10 m77 rfl rfl rfl rfl (Nat.le_of_ble_eq_true rfl) rfl rfl rfl rfl) ?_
    refine am_bI_c (fun r4 t4 => ?_)
    refine Eq.trans (g_iast dX9_keep_46 sh11 rfl) ?_
    refine am_ite ?_ rfl
    refine Eq.trans (g_A dX9_keep_47 rfl rfl) ?_
    refine Eq.trans (g_getR dX9_keep_48 f10 sh0 rfl rfl) ?_
    refine Eq.trans (g_A dX9_keep_51 rfl rfl) ?_
    refine Eq.trans (g_A dX9_keep_52 rfl rfl) ?_
    refine Eq.trans (g_iast dX9_keep_53 sh12 rfl) ?_
    refine am_ite ?_ rfl
    refine Eq.trans (g_A dX9_keep_54 rfl rfl) ?_
    refine Eq.trans (g_getR dX9_keep_55 f4 sh0 rfl rfl) ?_
    refine Eq.trans (g_A dX9_keep_58 rfl rfl) ?_
    refine Eq.trans (g_iald dX9_keep_59 sh11 rfl) ?_
    refine am_ite ?_ rfl
    exact g_iret dX9_keep_60 rfl
theorem q123_0 (C : am_C) (σ : am_M) (v1 : Int32) : am_go am_X0 C M123 0 [.ref 0, .int v1, .null] [] σ = am_bV (C 144 [.int v1, .int (nI 4)] σ) (fun t1 => if am_in v1 4 = true then (if am_in v1 4 = true then (if am_in v1 4 = true then (some (.inl (some (.int (t1.1 11 (v1 : Int32).toNatClampNeg))), am_wI (am_wI t1 11 (v1 : Int32).toNatClampNeg (-1)) 12 (v1 : Int32).toNatClampNeg (-1))) else none) else none) else none) := by
  refine Eq.trans (g_A dX9_drop_0 rfl rfl) ?_
  refine Eq.trans (g_K (v := nI 4) dX9_drop_1 rfl rfl) ?_
  refine Eq.trans (g_sV (as := [.int v1, .int (nI 4)]) (rest := []) dX9_drop_2 rfl cl1 m144 rfl rfl rfl rfl (Nat.le_of_ble_eq_true rfl) rfl rfl rfl) ?_
  refine am_bV_c (fun t1 => ?_)
  refine Eq.trans (g_A dX9_drop_5 rfl rfl) ?_
  refine Eq.trans (g_getR dX9_drop_6 f4 sh0 rfl rfl) ?_
  refine Eq.trans (g_A dX9_drop_9 rfl rfl) ?_
  refine Eq.trans (g_iald dX9_drop_10 sh11 rfl) ?_
  refine am_ite ?_ rfl
  refine Eq.trans (g_isn (k := 2) dX9_drop_11 rfl (Nat.le_of_ble_eq_true rfl) rfl rfl rfl) ?_
  refine Eq.trans (g_A dX9_drop_12 rfl rfl) ?_
  refine Eq.trans (g_getR dX9_drop_13 f4 sh0 rfl rfl) ?_
  refine Eq.trans (g_A dX9_drop_16 rfl rfl) ?_
  refine Eq.trans (g_K (v := (-1)) dX9_drop_17 rfl rfl) ?_
  refine Eq.trans (g_iast dX9_drop_18 sh11 rfl) ?_
  refine am_ite ?_ rfl
  refine Eq.trans (g_A dX9_drop_19 rfl rfl) ?_
  refine Eq.trans (g_getR dX9_drop_20 f10 sh0 rfl rfl) ?_
  refine Eq.trans (g_A dX9_drop_23 rfl rfl) ?_
  refine Eq.trans (g_K (v := (-1)) dX9_drop_24 rfl rfl) ?_
  refine Eq.trans (g_iast dX9_drop_25 sh12 rfl) ?_
  refine am_ite ?_ rfl
  refine Eq.trans (g_A dX9_drop_26 rfl rfl) ?_
  exact g_iret dX9_drop_27 rfl
theorem q124_0 (C : am_C) (σ : am_M) (v1 v2 : Int32) : am_go am_X0 C M124 0 [.ref 0, .int v1, .int v2, .null, .null] [] σ = am_bV (C 144 [.int v1, .int (nI 4)] σ) (fun t1 => am_bV (C 145 [.int v2, .int (nI 4)] t1) (fun t2 => if am_in v1 4 = true then (if t2.1 11 (v1 : Int32).toNatClampNeg = (-1) then (some (.inl (some (.int (t2.1 11 (v1 : Int32).toNatClampNeg))), t2)) else (if v2 = nI 0 then (some (.inl (some (.int (t2.1 11 (v1 : Int32).toNatClampNeg))), t2)) else (if am_in v1 4 = true then (if v2 = nI 1 then (some (.inl (some (.int (t2.1 12 (v1 : Int32).toNatClampNeg))), t2)) else (if v2 = nI 2 then (am_bI (C 77 [.ref 3, .int (t2.1 12 (v1 : Int32).toNatClampNeg)] t2) (fun r5 t5 => if r5 = t2.1 11 (v1 : Int32).toNatClampNeg then (some (.inl (some (.int (nI 1))), t5)) else (some (.inl (some (.int (nI 0))), t5)))) else (am_bI (C 32 [.ref 4] t2) (fun r3 t3 => am_bV (C 70 [.ref 5, .int (t2.1 11 (v1 : Int32).toNatClampNeg), .int (nI 0), .int (r3 - (nI 1))] t3) (fun t4 => if v2 = nI 3 then (am_go am_X0 C M124 100 [.ref 0, .int v1, .int v2, .int (t2.1 11 (v1 : Int32).toNatClampNeg), .int (t2.1 12 (v1 : Int32).toNatClampNeg)] [.int (nI 1), .ref 5] t4) else (am_go am_X0 C M124 100 [.ref 0, .int v1, .int v2, .int (t2.1 11 (v1 : Int32).toNatClampNeg), .int (t2.1 12 (v1 : Int32).toNatClampNeg)] [.int (nI 0), .ref 5] t4)))))) else none))) else none)) := by
  refine Eq.trans (g_A dX9_custodian_0 rfl rfl) ?_
  refine Eq.trans (g_K (v := nI 4) dX9_custodian_1 rfl rfl) ?_
  refine Eq.trans (g_sV (as := [.int v1, .int (nI 4)]) (rest := []) dX9_custodian_2 rfl cl1 m144 rfl rfl rfl rfl (Nat.le_of_ble_eq_true rfl) rfl rfl rfl) ?_
  refine am_bV_c (fun t1 => ?_)
  refine Eq.trans (g_A dX9_custodian_5 rfl rfl) ?_
  refine Eq.trans (g_K (v := nI 4) dX9_custodian_6 rfl rfl) ?_
  refine Eq.trans (g_sV (as := [.int v2, .int (nI 4)]) (rest := []) dX9_custodian_7 rfl cl17 m145 rfl rfl rfl rfl (Nat.le_of_ble_eq_true rfl) rfl rfl rfl) ?_
  refine am_bV_c (fun t2 => ?_)
  refine Eq.trans (g_A dX9_custodian_10 rfl rfl) ?_
  refine Eq.trans (g_getR dX9_custodian_11 f4 sh0 rfl rfl) ?_
  refine Eq.trans (g_A dX9_custodian_14 rfl rfl) ?_
  refine Eq.trans (g_iald dX9_custodian_15 sh11 rfl) ?_
  refine am_ite ?_ rfl
  refine Eq.trans (g_isn (k := 3) dX9_custodian_16 rfl (Nat.le_of_ble_eq_true rfl) rfl rfl rfl) ?_
  refine Eq.trans (g_A dX9_custodian_17 rfl rfl) ?_
  refine Eq.trans (g_K (v := (-1)) dX9_custodian_18 rfl rfl) ?_
  refine Eq.trans (g_iceq (t := 26) dX9_custodian_19 rfl rfl) ?_
  refine am_ite ?_ ?_
  · refine Eq.trans (g_A dX9_custodian_26 rfl rfl) ?_
    exact g_iret dX9_custodian_27 rfl
  · refine Eq.trans (g_A dX9_custodian_22 rfl rfl) ?_
    refine Eq.trans (g_ifne (t := 28) dX9_custodian_23 rfl rfl) ?_
    refine am_ite ?_ ?_
    · refine Eq.trans (g_A dX9_custodian_26 rfl rfl) ?_
      exact g_iret dX9_custodian_27 rfl
    · refine Eq.trans (g_A dX9_custodian_28 rfl rfl) ?_
      refine Eq.trans (g_getR dX9_custodian_29 f10 sh0 rfl rfl) ?_
      refine Eq.trans (g_A dX9_custodian_32 rfl rfl) ?_
      refine Eq.trans (g_iald dX9_custodian_33 sh12 rfl) ?_
      refine am_ite ?_ rfl
      refine Eq.trans (g_ist (k := 4) dX9_custodian_34 (Nat.le_of_ble_eq_true rfl) rfl rfl rfl) ?_
      refine Eq.trans (g_A dX9_custodian_36 rfl rfl) ?_
      refine Eq.trans (g_K (v := nI 1) dX9_custodian_37 rfl rfl) ?_
      refine Eq.trans (g_icne (t := 44) dX9_custodian_38 rfl rfl) ?_
      refine am_ite ?_ ?_
      · refine Eq.trans (g_A dX9_custodian_41 rfl rfl) ?_
        exact g_iret dX9_custodian_43 rfl
      · refine Eq.trans (g_A dX9_custodian_44 rfl rfl) ?_
        refine Eq.trans (g_K (v := nI 2) dX9_custodian_45 rfl rfl) ?_
        refine Eq.trans (g_icne (t := 68) dX9_custodian_46 rfl rfl) ?_
        refine am_ite ?_ ?_
        · refine Eq.trans (g_A dX9_custodian_49 rfl rfl) ?_
          refine Eq.trans (g_getR dX9_custodian_50 f0 sh0 rfl rfl) ?_
          refine Eq.trans (g_A dX9_custodian_53 rfl rfl) ?_
          refine Eq.trans (g_vI (a := 3) (as := [.int (t2.1 12 (v1 : Int32).toNatClampNeg)]) (rest := []) dX9_custodian_55 cl10 m77 rfl rfl rfl rfl (Nat.le_of_ble_eq_true rfl) rfl rfl rfl rfl) ?_
          refine am_bI_c (fun r5 t5 => ?_)
          refine Eq.trans (g_A dX9_custodian_58 rfl rfl) ?_
          refine Eq.trans (g_icne (t := 66) dX9_custodian_59 rfl rfl) ?_
          refine am_ite ?_ ?_
          · refine Eq.trans (g_K (v := nI 1) dX9_custodian_62 rfl rfl) ?_
            refine Eq.trans (g_goto (pc' := 67) dX9_custodian_63 rfl) ?_
            exact g_iret dX9_custodian_67 rfl
          · refine Eq.trans (g_K (v := nI 0) dX9_custodian_66 rfl rfl) ?_
            exact g_iret dX9_custodian_67 rfl
        · refine Eq.trans (g_A dX9_custodian_68 rfl rfl) ?_
          refine Eq.trans (g_getR dX9_custodian_69 f3 sh0 rfl rfl) ?_
          refine Eq.trans (g_A dX9_custodian_72 rfl rfl) ?_
          refine Eq.trans (g_K (v := nI 0) dX9_custodian_73 rfl rfl) ?_
          refine Eq.trans (g_A dX9_custodian_74 rfl rfl) ?_
          refine Eq.trans (g_getR dX9_custodian_75 f5 sh0 rfl rfl) ?_
          refine Eq.trans (g_vI (a := 4) (as := []) (rest := [.int (nI 0), .int (t2.1 11 (v1 : Int32).toNatClampNeg), .ref 5]) dX9_custodian_78 cl23 m32 rfl rfl rfl rfl (Nat.le_of_ble_eq_true rfl) rfl rfl rfl rfl) ?_
          refine am_bI_c (fun r3 t3 => ?_)
          refine Eq.trans (g_K (v := nI 1) dX9_custodian_81 rfl rfl) ?_
          refine Eq.trans (g_isub dX9_custodian_82 rfl) ?_
          refine Eq.trans (g_vV (a := 5) (as := [.int (t2.1 11 (v1 : Int32).toNatClampNeg), .int (nI 0), .int (r3 - (nI 1))]) (rest := []) dX9_custodian_83 cl24 m70 rfl rfl rfl rfl (Nat.le_of_ble_eq_true rfl) rfl rfl rfl rfl) ?_
          refine am_bV_c (fun t4 => ?_)
          refine Eq.trans (g_A dX9_custodian_86 rfl rfl) ?_
          refine Eq.trans (g_getR dX9_custodian_87 f3 sh0 rfl rfl) ?_
          refine Eq.trans (g_A dX9_custodian_90 rfl rfl) ?_
          refine Eq.trans (g_K (v := nI 3) dX9_custodian_91 rfl rfl) ?_
          refine Eq.trans (g_icne (t := 99) dX9_custodian_92 rfl rfl) ?_
          refine am_ite ?_ ?_
          · refine Eq.trans (g_K (v := nI 1) dX9_custodian_95 rfl rfl) ?_
            refine Eq.trans (g_goto (pc' := 100) dX9_custodian_96 rfl) ?_
            rfl
          · refine Eq.trans (g_K (v := nI 0) dX9_custodian_99 rfl rfl) ?_
            rfl
theorem q124_100 (C : am_C) (σ : am_M) (v1 v2 v3 v4 s0 : Int32) : am_go am_X0 C M124 100 [.ref 0, .int v1, .int v2, .int v3, .int v4] [.int s0, .ref 5] σ = am_bI (C 71 [.ref 5, .int s0] σ) (fun r1 t1 => some (.inl (some (.int r1)), t1)) := by
  refine Eq.trans (g_vI (a := 5) (as := [.int s0]) (rest := []) dX9_custodian_100 cl25 m71 rfl rfl rfl rfl (Nat.le_of_ble_eq_true rfl) rfl rfl rfl rfl) ?_
  refine am_bI_c (fun r1 t1 => ?_)
  exact g_iret dX9_custodian_103 rfl
theorem q125_0 (C : am_C) (σ : am_M) (v1 : Int32) : am_go am_X0 C M125 0 [.ref 0, .int v1] [] σ = am_bV (C 144 [.int v1, .int (nI 21)] σ) (fun t1 => am_bI (C 78 [.ref 3, .int v1] t1) (fun r2 t2 => if r2 = nI 0 then (some (.inr "java/lang/IllegalStateException", am_tick t2)) else (am_bI (C 89 [.ref 3, .int v1] t2) (fun r3 t3 => if v1 = nI 0 then (am_go am_X0 C M125 46 [.ref 0, .int v1] [.int (nI 0), .int r3, .ref 0] t3) else (am_go am_X0 C M125 46 [.ref 0, .int v1] [.int (nI 1), .int r3, .ref 0] t3))))) := by
  refine Eq.trans (g_A dX9_rekey_0 rfl rfl) ?_
  refine Eq.trans (g_K (v := nI 21) dX9_rekey_1 rfl rfl) ?_
  refine Eq.trans (g_sV (as := [.int v1, .int (nI 21)]) (rest := []) dX9_rekey_3 rfl cl1 m144 rfl rfl rfl rfl (Nat.le_of_ble_eq_true rfl) rfl rfl rfl) ?_
  refine am_bV_c (fun t1 => ?_)
  refine Eq.trans (g_A dX9_rekey_6 rfl rfl) ?_
  refine Eq.trans (g_getR dX9_rekey_7 f0 sh0 rfl rfl) ?_
  refine Eq.trans (g_A dX9_rekey_10 rfl rfl) ?_
  refine Eq.trans (g_vI (a := 3) (as := [.int v1]) (rest := []) dX9_rekey_11 cl45 m78 rfl rfl rfl rfl (Nat.le_of_ble_eq_true rfl) rfl rfl rfl rfl) ?_
  refine am_bI_c (fun r2 t2 => ?_)
  refine Eq.trans (g_ifne (t := 28) dX9_rekey_14 rfl rfl) ?_
  refine am_ite ?_ ?_
  · exact g_thr dX9_rekey_17 dX9_rekey_20 (Or.inr ⟨dX9_rekey_21, rfl⟩) dX9_rekey_24 dX9_rekey_27 rfl xt9 (Nat.le_of_ble_eq_true rfl)
  · refine Eq.trans (g_A dX9_rekey_28 rfl rfl) ?_
    refine Eq.trans (g_A dX9_rekey_29 rfl rfl) ?_
    refine Eq.trans (g_getR dX9_rekey_30 f0 sh0 rfl rfl) ?_
    refine Eq.trans (g_A dX9_rekey_33 rfl rfl) ?_
    refine Eq.trans (g_vI (a := 3) (as := [.int v1]) (rest := [.ref 0]) dX9_rekey_34 cl48 m89 rfl rfl rfl rfl (Nat.le_of_ble_eq_true rfl) rfl rfl rfl rfl) ?_
    refine am_bI_c (fun r3 t3 => ?_)
    refine Eq.trans (g_A dX9_rekey_37 rfl rfl) ?_
    refine Eq.trans (g_ifne (t := 45) dX9_rekey_38 rfl rfl) ?_
    refine am_ite ?_ ?_
    · refine Eq.trans (g_K (v := nI 0) dX9_rekey_41 rfl rfl) ?_
      refine Eq.trans (g_goto (pc' := 46) dX9_rekey_42 rfl) ?_
      rfl
    · refine Eq.trans (g_K (v := nI 1) dX9_rekey_45 rfl rfl) ?_
      rfl
theorem q125_46 (C : am_C) (σ : am_M) (v1 s0 s1 : Int32) : am_go am_X0 C M125 46 [.ref 0, .int v1] [.int s0, .int s1, .ref 0] σ = am_bV (C 146 [.ref 0, .int (s1 + s0)] σ) (fun t1 => am_bV (C 91 [.ref 3, .int v1] t1) (fun t2 => am_bV (C 152 [.ref 0, .int v1] t2) (fun t3 => if v1 = nI 0 then (am_go am_X0 C M125 72 [.ref 0, .int v1] [] t3) else (am_bV (C 151 [.ref 0, .int v1] t3) (fun t4 => am_go am_X0 C M125 72 [.ref 0, .int v1] [] t4))))) := by
  refine Eq.trans (g_iadd dX9_rekey_46 rfl) ?_
  refine Eq.trans (g_vV (a := 0) (as := [.int (s1 + s0)]) (rest := []) dX9_rekey_47 cl6 m146 rfl rfl rfl rfl (Nat.le_of_ble_eq_true rfl) rfl rfl rfl rfl) ?_
  refine am_bV_c (fun t1 => ?_)
  refine Eq.trans (g_A dX9_rekey_50 rfl rfl) ?_
  refine Eq.trans (g_getR dX9_rekey_51 f0 sh0 rfl rfl) ?_
  refine Eq.trans (g_A dX9_rekey_54 rfl rfl) ?_
  refine Eq.trans (g_vV (a := 3) (as := [.int v1]) (rest := []) dX9_rekey_55 cl42 m91 rfl rfl rfl rfl (Nat.le_of_ble_eq_true rfl) rfl rfl rfl rfl) ?_
  refine am_bV_c (fun t2 => ?_)
  refine Eq.trans (g_A dX9_rekey_58 rfl rfl) ?_
  refine Eq.trans (g_A dX9_rekey_59 rfl rfl) ?_
  refine Eq.trans (g_vV (a := 0) (as := [.int v1]) (rest := []) dX9_rekey_60 cl43 m152 rfl rfl rfl rfl (Nat.le_of_ble_eq_true rfl) rfl rfl rfl rfl) ?_
  refine am_bV_c (fun t3 => ?_)
  refine Eq.trans (g_A dX9_rekey_63 rfl rfl) ?_
  refine Eq.trans (g_ifeq (t := 72) dX9_rekey_64 rfl rfl) ?_
  refine am_ite ?_ ?_
  · rfl
  · refine Eq.trans (g_A dX9_rekey_67 rfl rfl) ?_
    refine Eq.trans (g_A dX9_rekey_68 rfl rfl) ?_
    refine Eq.trans (g_vV (a := 0) (as := [.int v1]) (rest := []) dX9_rekey_69 cl49 m151 rfl rfl rfl rfl (Nat.le_of_ble_eq_true rfl) rfl rfl rfl rfl) ?_
    refine am_bV_c (fun t4 => ?_)
    rfl
theorem q125_72 (C : am_C) (σ : am_M) (v1 : Int32) : am_go am_X0 C M125 72 [.ref 0, .int v1] [] σ = am_bI (C 77 [.ref 3, .int v1] σ) (fun r1 t1 => some (.inl (some (.int r1)), t1)) := by
  refine Eq.trans (g_A dX9_rekey_72 rfl rfl) ?_
  refine Eq.trans (g_getR dX9_rekey_73 f0 sh0 rfl rfl) ?_
  refine Eq.trans (g_A dX9_rekey_76 rfl rfl) ?_
  refine Eq.trans (g_vI (a := 3) (as := [.int v1]) (rest := []) dX9_rekey_77 cl10 m77 rfl rfl rfl rfl (Nat.le_of_ble_eq_true rfl) rfl rfl rfl rfl) ?_
  refine am_bI_c (fun r1 t1 => ?_)
  exact g_iret dX9_rekey_80 rfl
theorem q126_0 (C : am_C) (σ : am_M) (v1 v2 : Int32) : am_go am_X0 C M126 0 [.ref 0, .int v1, .int v2, .null, .null] [] σ = if v1 < (nI 1) then (am_go am_X0 C M126 22 [.ref 0, .int v1, .int v2, .null, .null] [] σ) else (if (nI 85) ≤ v1 then (am_go am_X0 C M126 22 [.ref 0, .int v1, .int v2, .null, .null] [] σ) else (if v2 < (nI 1) then (am_go am_X0 C M126 22 [.ref 0, .int v1, .int v2, .null, .null] [] σ) else (if v2 < (nI 85) then (am_bI (C 165 [.int v1] σ) (fun r1 t1 => am_bI (C 165 [.int v2] t1) (fun r2 t2 => if r1 = r2 then (am_bI (C 78 [.ref 3, .int v1] t2) (fun r3 t3 => if r3 = nI 0 then (am_go am_X0 C M126 85 [.ref 0, .int v1, .int v2, .null, .null] [] t3) else (am_bI (C 78 [.ref 3, .int v2] t3) (fun r4 t4 => if r4 = nI 0 then (am_bI (C 155 [.ref 0, .int v1] t4) (fun r5 t5 => if r5 = nI 0 then (am_bI (C 166 [.int v2] t5) (fun r6 t6 => am_bI (C 90 [.ref 3, .int r6] t6) (fun r7 t7 => am_bV (C 146 [.ref 0, .int (r7 + (nI 1))] t7) (fun t8 => am_bV (C 153 [.ref 0, .int r6] t8) (fun t9 => am_bV (C 92 [.ref 3, .int v1, .int v2] t9) (fun t10 => am_bV (C 151 [.ref 0, .int v2] t10) (fun t11 => am_bV (C 93 [.ref 3, .int v1] t11) (fun t12 => am_bI (C 170 [.int v2] t12) (fun r13 t13 => am_bI (C 169 [.int v2] t13) (fun r14 t14 => am_bI (C 88 [.ref 3, .int r13, .int (r13 + r14)] t14) (fun r15 t15 => some (.inl (some (.int r15)), t15)))))))))))) else (am_go am_X0 C M126 85 [.ref 0, .int v1, .int v2, .null, .null] [] t5))) else (am_go am_X0 C M126 85 [.ref 0, .int v1, .int v2, .null, .null] [] t4))))) else (some (.inr "java/lang/IllegalArgumentException", am_tick t2))))) else (am_go am_X0 C M126 22 [.ref 0, .int v1, .int v2, .null, .null] [] σ)))) := by
  refine Eq.trans (g_A dX9_move_0 rfl rfl) ?_
  refine Eq.trans (g_K (v := nI 1) dX9_move_1 rfl rfl) ?_
  refine Eq.trans (g_iclt (t := 22) dX9_move_2 rfl rfl) ?_
  refine am_ite ?_ ?_
  · rfl
  · refine Eq.trans (g_A dX9_move_5 rfl rfl) ?_
    refine Eq.trans (g_K (v := nI 85) dX9_move_6 rfl rfl) ?_
    refine Eq.trans (g_icge (t := 22) dX9_move_8 rfl rfl) ?_
    refine am_ite ?_ ?_
    · rfl
    · refine Eq.trans (g_A dX9_move_11 rfl rfl) ?_
      refine Eq.trans (g_K (v := nI 1) dX9_move_12 rfl rfl) ?_
      refine Eq.trans (g_iclt (t := 22) dX9_move_13 rfl rfl) ?_
      refine am_ite ?_ ?_
      · rfl
      · refine Eq.trans (g_A dX9_move_16 rfl rfl) ?_
        refine Eq.trans (g_K (v := nI 85) dX9_move_17 rfl rfl) ?_
        refine Eq.trans (g_iclt (t := 33) dX9_move_19 rfl rfl) ?_
        refine am_ite ?_ ?_
        · refine Eq.trans (g_A dX9_move_33 rfl rfl) ?_
          refine Eq.trans (g_sI (as := [.int v1]) (rest := []) dX9_move_34 rfl cl50 m165 rfl rfl rfl rfl (Nat.le_of_ble_eq_true rfl) rfl rfl rfl) ?_
          refine am_bI_c (fun r1 t1 => ?_)
          refine Eq.trans (g_A dX9_move_37 rfl rfl) ?_
          refine Eq.trans (g_sI (as := [.int v2]) (rest := [.int r1]) dX9_move_38 rfl cl50 m165 rfl rfl rfl rfl (Nat.le_of_ble_eq_true rfl) rfl rfl rfl) ?_
          refine am_bI_c (fun r2 t2 => ?_)
          refine Eq.trans (g_iceq (t := 55) dX9_move_41 rfl rfl) ?_
          refine am_ite ?_ ?_
          · refine Eq.trans (g_A dX9_move_55 rfl rfl) ?_
            refine Eq.trans (g_getR dX9_move_56 f0 sh0 rfl rfl) ?_
            refine Eq.trans (g_A dX9_move_59 rfl rfl) ?_
            refine Eq.trans (g_vI (a := 3) (as := [.int v1]) (rest := []) dX9_move_60 cl45 m78 rfl rfl rfl rfl (Nat.le_of_ble_eq_true rfl) rfl rfl rfl rfl) ?_
            refine am_bI_c (fun r3 t3 => ?_)
            refine Eq.trans (g_ifeq (t := 85) dX9_move_63 rfl rfl) ?_
            refine am_ite ?_ ?_
            · rfl
            · refine Eq.trans (g_A dX9_move_66 rfl rfl) ?_
              refine Eq.trans (g_getR dX9_move_67 f0 sh0 rfl rfl) ?_
              refine Eq.trans (g_A dX9_move_70 rfl rfl) ?_
              refine Eq.trans (g_vI (a := 3) (as := [.int v2]) (rest := []) dX9_move_71 cl45 m78 rfl rfl rfl rfl (Nat.le_of_ble_eq_true rfl) rfl rfl rfl rfl) ?_
              refine am_bI_c (fun r4 t4 => ?_)
              refine Eq.trans (g_ifne (t := 85) dX9_move_74 rfl rfl) ?_
              refine am_ite ?_ ?_
              · refine Eq.trans (g_A dX9_move_77 rfl rfl) ?_
                refine Eq.trans (g_A dX9_move_78 rfl rfl) ?_
                refine Eq.trans (g_vI (a := 0) (as := [.int v1]) (rest := []) dX9_move_79 cl51 m155 rfl rfl rfl rfl (Nat.le_of_ble_eq_true rfl) rfl rfl rfl rfl) ?_
                refine am_bI_c (fun r5 t5 => ?_)
                refine Eq.trans (g_ifeq (t := 96) dX9_move_82 rfl rfl) ?_
                refine am_ite ?_ ?_
                · refine Eq.trans (g_A dX9_move_96 rfl rfl) ?_
                  refine Eq.trans (g_sI (as := [.int v2]) (rest := []) dX9_move_97 rfl cl52 m166 rfl rfl rfl rfl (Nat.le_of_ble_eq_true rfl) rfl rfl rfl) ?_
                  refine am_bI_c (fun r6 t6 => ?_)
                  refine Eq.trans (g_isn (k := 3) dX9_move_100 rfl (Nat.le_of_ble_eq_true rfl) rfl rfl rfl) ?_
                  refine Eq.trans (g_A dX9_move_101 rfl rfl) ?_
                  refine Eq.trans (g_A dX9_move_102 rfl rfl) ?_
                  refine Eq.trans (g_getR dX9_move_103 f0 sh0 rfl rfl) ?_
                  refine Eq.trans (g_A dX9_move_106 rfl rfl) ?_
                  refine Eq.trans (g_vI (a := 3) (as := [.int r6]) (rest := [.ref 0]) dX9_move_107 cl5 m90 rfl rfl rfl rfl (Nat.le_of_ble_eq_true rfl) rfl rfl rfl rfl) ?_
                  refine am_bI_c (fun r7 t7 => ?_)
                  refine Eq.trans (g_K (v := nI 1) dX9_move_110 rfl rfl) ?_
                  refine Eq.trans (g_iadd dX9_move_111 rfl) ?_
                  refine Eq.trans (g_vV (a := 0) (as := [.int (r7 + (nI 1))]) (rest := []) dX9_move_112 cl6 m146 rfl rfl rfl rfl (Nat.le_of_ble_eq_true rfl) rfl rfl rfl rfl) ?_
                  refine am_bV_c (fun t8 => ?_)
                  refine Eq.trans (g_A dX9_move_115 rfl rfl) ?_
                  refine Eq.trans (g_A dX9_move_116 rfl rfl) ?_
                  refine Eq.trans (g_vV (a := 0) (as := [.int r6]) (rest := []) dX9_move_117 cl7 m153 rfl rfl rfl rfl (Nat.le_of_ble_eq_true rfl) rfl rfl rfl rfl) ?_
                  refine am_bV_c (fun t9 => ?_)
                  refine Eq.trans (g_A dX9_move_120 rfl rfl) ?_
                  refine Eq.trans (g_getR dX9_move_121 f0 sh0 rfl rfl) ?_
                  refine Eq.trans (g_A dX9_move_124 rfl rfl) ?_
                  refine Eq.trans (g_A dX9_move_125 rfl rfl) ?_
                  refine Eq.trans (g_vV (a := 3) (as := [.int v1, .int v2]) (rest := []) dX9_move_126 cl53 m92 rfl rfl rfl rfl (Nat.le_of_ble_eq_true rfl) rfl rfl rfl rfl) ?_
                  refine am_bV_c (fun t10 => ?_)
                  refine Eq.trans (g_A dX9_move_129 rfl rfl) ?_
                  refine Eq.trans (g_A dX9_move_130 rfl rfl) ?_
                  refine Eq.trans (g_vV (a := 0) (as := [.int v2]) (rest := []) dX9_move_131 cl49 m151 rfl rfl rfl rfl (Nat.le_of_ble_eq_true rfl) rfl rfl rfl rfl) ?_
                  refine am_bV_c (fun t11 => ?_)
                  refine Eq.trans (g_A dX9_move_134 rfl rfl) ?_
                  refine Eq.trans (g_getR dX9_move_135 f0 sh0 rfl rfl) ?_
                  refine Eq.trans (g_A dX9_move_138 rfl rfl) ?_
                  refine Eq.trans (g_vV (a := 3) (as := [.int v1]) (rest := []) dX9_move_139 cl54 m93 rfl rfl rfl rfl (Nat.le_of_ble_eq_true rfl) rfl rfl rfl rfl) ?_
                  refine am_bV_c (fun t12 => ?_)
                  refine Eq.trans (g_A dX9_move_142 rfl rfl) ?_
                  refine Eq.trans (g_sI (as := [.int v2]) (rest := []) dX9_move_143 rfl cl26 m170 rfl rfl rfl rfl (Nat.le_of_ble_eq_true rfl) rfl rfl rfl) ?_
                  refine am_bI_c (fun r13 t13 => ?_)
                  refine Eq.trans (g_ist (k := 4) dX9_move_146 (Nat.le_of_ble_eq_true rfl) rfl rfl rfl) ?_
                  refine Eq.trans (g_A dX9_move_148 rfl rfl) ?_
                  refine Eq.trans (g_getR dX9_move_149 f0 sh0 rfl rfl) ?_
                  refine Eq.trans (g_A dX9_move_152 rfl rfl) ?_
                  refine Eq.trans (g_A dX9_move_154 rfl rfl) ?_
                  refine Eq.trans (g_A dX9_move_156 rfl rfl) ?_
                  refine Eq.trans (g_sI (as := [.int v2]) (rest := [.int r13, .int r13, .ref 3]) dX9_move_157 rfl cl27 m169 rfl rfl rfl rfl (Nat.le_of_ble_eq_true rfl) rfl rfl rfl) ?_
                  refine am_bI_c (fun r14 t14 => ?_)
                  refine Eq.trans (g_iadd dX9_move_160 rfl) ?_
                  refine Eq.trans (g_vI (a := 3) (as := [.int r13, .int (r13 + r14)]) (rest := []) dX9_move_161 cl18 m88 rfl rfl rfl rfl (Nat.le_of_ble_eq_true rfl) rfl rfl rfl rfl) ?_
                  refine am_bI_c (fun r15 t15 => ?_)
                  exact g_iret dX9_move_164 rfl
                · rfl
              · rfl
          · exact g_thr dX9_move_44 dX9_move_47 (Or.inr ⟨dX9_move_48, rfl⟩) dX9_move_51 dX9_move_54 rfl xt11 (Nat.le_of_ble_eq_true rfl)
        · rfl
theorem q126_22 (C : am_C) (σ : am_M) (v1 v2 : Int32) : am_go am_X0 C M126 22 [.ref 0, .int v1, .int v2, .null, .null] [] σ = some (.inr "java/lang/IndexOutOfBoundsException", am_tick σ) := by
  exact g_thr dX9_move_22 dX9_move_25 (Or.inr ⟨dX9_move_26, rfl⟩) dX9_move_29 dX9_move_32 rfl xt10 (Nat.le_of_ble_eq_true rfl)
theorem q126_85 (C : am_C) (σ : am_M) (v1 v2 : Int32) : am_go am_X0 C M126 85 [.ref 0, .int v1, .int v2, .null, .null] [] σ = some (.inr "java/lang/IllegalStateException", am_tick σ) := by
  exact g_thr dX9_move_85 dX9_move_88 (Or.inr ⟨dX9_move_89, rfl⟩) dX9_move_92 dX9_move_95 rfl xt12 (Nat.le_of_ble_eq_true rfl)
theorem q127_0 (C : am_C) (σ : am_M) (v1 : Int32) : am_go am_X0 C M127 0 [.ref 0, .int v1] [] σ = am_bI (C 58 [.ref 2] σ) (fun r1 t1 => am_bV (C 144 [.int v1, .int r1] t1) (fun t2 => am_bV (C 68 [.ref 5, .int v1] t2) (fun t3 => am_bI (C 72 [.ref 5] t3) (fun r4 t4 => some (.inl (some (.int r4)), t4))))) := by
  refine Eq.trans (g_A dX9_openingKeys_0 rfl rfl) ?_
  refine Eq.trans (g_A dX9_openingKeys_1 rfl rfl) ?_
  refine Eq.trans (g_getR dX9_openingKeys_2 f1 sh0 rfl rfl) ?_
  refine Eq.trans (g_vI (a := 2) (as := []) (rest := [.int v1]) dX9_openingKeys_5 cl15 m58 rfl rfl rfl rfl (Nat.le_of_ble_eq_true rfl) rfl rfl rfl rfl) ?_
  refine am_bI_c (fun r1 t1 => ?_)
  refine Eq.trans (g_sV (as := [.int v1, .int r1]) (rest := []) dX9_openingKeys_8 rfl cl1 m144 rfl rfl rfl rfl (Nat.le_of_ble_eq_true rfl) rfl rfl rfl) ?_
  refine am_bV_c (fun t2 => ?_)
  refine Eq.trans (g_A dX9_openingKeys_11 rfl rfl) ?_
  refine Eq.trans (g_getR dX9_openingKeys_12 f3 sh0 rfl rfl) ?_
  refine Eq.trans (g_A dX9_openingKeys_15 rfl rfl) ?_
  refine Eq.trans (g_vV (a := 5) (as := [.int v1]) (rest := []) dX9_openingKeys_16 cl20 m68 rfl rfl rfl rfl (Nat.le_of_ble_eq_true rfl) rfl rfl rfl rfl) ?_
  refine am_bV_c (fun t3 => ?_)
  refine Eq.trans (g_A dX9_openingKeys_19 rfl rfl) ?_
  refine Eq.trans (g_getR dX9_openingKeys_20 f3 sh0 rfl rfl) ?_
  refine Eq.trans (g_vI (a := 5) (as := []) (rest := []) dX9_openingKeys_23 cl55 m72 rfl rfl rfl rfl (Nat.le_of_ble_eq_true rfl) rfl rfl rfl rfl) ?_
  refine am_bI_c (fun r4 t4 => ?_)
  exact g_iret dX9_openingKeys_26 rfl
theorem q128_0 (C : am_C) (σ : am_M) : am_go am_X0 C M128 0 [.ref 0] [] σ = am_bI (C 32 [.ref 4] σ) (fun r1 t1 => if r1 < (nI 8) then (am_bI (C 33 [.ref 4] t1) (fun r2 t2 => some (.inl (some (.int r2)), t2))) else (some (.inr "java/lang/IllegalStateException", am_tick t1))) := by
  refine Eq.trans (g_A dX9_addMedium_0 rfl rfl) ?_
  refine Eq.trans (g_getR dX9_addMedium_1 f5 sh0 rfl rfl) ?_
  refine Eq.trans (g_vI (a := 4) (as := []) (rest := []) dX9_addMedium_4 cl23 m32 rfl rfl rfl rfl (Nat.le_of_ble_eq_true rfl) rfl rfl rfl rfl) ?_
  refine am_bI_c (fun r1 t1 => ?_)
  refine Eq.trans (g_K (v := nI 8) dX9_addMedium_7 rfl rfl) ?_
  refine Eq.trans (g_iclt (t := 23) dX9_addMedium_9 rfl rfl) ?_
  refine am_ite ?_ ?_
  · refine Eq.trans (g_A dX9_addMedium_23 rfl rfl) ?_
    refine Eq.trans (g_getR dX9_addMedium_24 f5 sh0 rfl rfl) ?_
    refine Eq.trans (g_vI (a := 4) (as := []) (rest := []) dX9_addMedium_27 cl56 m33 rfl rfl rfl rfl (Nat.le_of_ble_eq_true rfl) rfl rfl rfl rfl) ?_
    refine am_bI_c (fun r2 t2 => ?_)
    exact g_iret dX9_addMedium_30 rfl
  · exact g_thr dX9_addMedium_12 dX9_addMedium_15 (Or.inr ⟨dX9_addMedium_16, rfl⟩) dX9_addMedium_19 dX9_addMedium_22 rfl xt13 (Nat.le_of_ble_eq_true rfl)
theorem q129_0 (C : am_C) (σ : am_M) : am_go am_X0 C M129 0 [.ref 0] [] σ = am_bI (C 32 [.ref 4] σ) (fun r1 t1 => some (.inl (some (.int r1)), t1)) := by
  refine Eq.trans (g_A dX9_mediumCount_0 rfl rfl) ?_
  refine Eq.trans (g_getR dX9_mediumCount_1 f5 sh0 rfl rfl) ?_
  refine Eq.trans (g_vI (a := 4) (as := []) (rest := []) dX9_mediumCount_4 cl23 m32 rfl rfl rfl rfl (Nat.le_of_ble_eq_true rfl) rfl rfl rfl rfl) ?_
  refine am_bI_c (fun r1 t1 => ?_)
  exact g_iret dX9_mediumCount_7 rfl
theorem q130_0 (C : am_C) (σ : am_M) (v1 v2 : Int32) : am_go am_X0 C M130 0 [.ref 0, .int v1, .int v2] [] σ = am_bI (C 32 [.ref 4] σ) (fun r1 t1 => am_bV (C 144 [.int v1, .int r1] t1) (fun t2 => am_bV (C 145 [.int v2, .int (nI 3)] t2) (fun t3 => if v2 = nI 0 then (am_bI (C 34 [.ref 4, .int v1] t3) (fun r7 t7 => some (.inl (some (.int r7)), t7))) else (if v2 = nI 1 then (am_bI (C 36 [.ref 4, .int v1] t3) (fun r6 t6 => some (.inl (some (.int r6)), t6))) else (if v2 = nI 2 then (am_bI (C 6 [.ref 6, .int v1] t3) (fun r5 t5 => some (.inl (some (.int r5)), t5))) else (am_bI (C 7 [.ref 6, .int v1] t3) (fun r4 t4 => some (.inl (some (.int r4)), t4)))))))) := by
  refine Eq.trans (g_A dX9_medium_0 rfl rfl) ?_
  refine Eq.trans (g_A dX9_medium_1 rfl rfl) ?_
  refine Eq.trans (g_getR dX9_medium_2 f5 sh0 rfl rfl) ?_
  refine Eq.trans (g_vI (a := 4) (as := []) (rest := [.int v1]) dX9_medium_5 cl23 m32 rfl rfl rfl rfl (Nat.le_of_ble_eq_true rfl) rfl rfl rfl rfl) ?_
  refine am_bI_c (fun r1 t1 => ?_)
  refine Eq.trans (g_sV (as := [.int v1, .int r1]) (rest := []) dX9_medium_8 rfl cl1 m144 rfl rfl rfl rfl (Nat.le_of_ble_eq_true rfl) rfl rfl rfl) ?_
  refine am_bV_c (fun t2 => ?_)
  refine Eq.trans (g_A dX9_medium_11 rfl rfl) ?_
  refine Eq.trans (g_K (v := nI 3) dX9_medium_12 rfl rfl) ?_
  refine Eq.trans (g_sV (as := [.int v2, .int (nI 3)]) (rest := []) dX9_medium_13 rfl cl17 m145 rfl rfl rfl rfl (Nat.le_of_ble_eq_true rfl) rfl rfl rfl) ?_
  refine am_bV_c (fun t3 => ?_)
  refine Eq.trans (g_A dX9_medium_16 rfl rfl) ?_
  refine Eq.trans (g_ifne (t := 29) dX9_medium_17 rfl rfl) ?_
  refine am_ite ?_ ?_
  · refine Eq.trans (g_A dX9_medium_20 rfl rfl) ?_
    refine Eq.trans (g_getR dX9_medium_21 f5 sh0 rfl rfl) ?_
    refine Eq.trans (g_A dX9_medium_24 rfl rfl) ?_
    refine Eq.trans (g_vI (a := 4) (as := [.int v1]) (rest := []) dX9_medium_25 cl57 m34 rfl rfl rfl rfl (Nat.le_of_ble_eq_true rfl) rfl rfl rfl rfl) ?_
    refine am_bI_c (fun r7 t7 => ?_)
    exact g_iret dX9_medium_28 rfl
  · refine Eq.trans (g_A dX9_medium_29 rfl rfl) ?_
    refine Eq.trans (g_K (v := nI 1) dX9_medium_30 rfl rfl) ?_
    refine Eq.trans (g_icne (t := 43) dX9_medium_31 rfl rfl) ?_
    refine am_ite ?_ ?_
    · refine Eq.trans (g_A dX9_medium_34 rfl rfl) ?_
      refine Eq.trans (g_getR dX9_medium_35 f5 sh0 rfl rfl) ?_
      refine Eq.trans (g_A dX9_medium_38 rfl rfl) ?_
      refine Eq.trans (g_vI (a := 4) (as := [.int v1]) (rest := []) dX9_medium_39 cl58 m36 rfl rfl rfl rfl (Nat.le_of_ble_eq_true rfl) rfl rfl rfl rfl) ?_
      refine am_bI_c (fun r6 t6 => ?_)
      exact g_iret dX9_medium_42 rfl
    · refine Eq.trans (g_A dX9_medium_43 rfl rfl) ?_
      refine Eq.trans (g_K (v := nI 2) dX9_medium_44 rfl rfl) ?_
      refine Eq.trans (g_icne (t := 57) dX9_medium_45 rfl rfl) ?_
      refine am_ite ?_ ?_
      · refine Eq.trans (g_A dX9_medium_48 rfl rfl) ?_
        refine Eq.trans (g_getR dX9_medium_49 f2 sh0 rfl rfl) ?_
        refine Eq.trans (g_A dX9_medium_52 rfl rfl) ?_
        refine Eq.trans (g_vI (a := 6) (as := [.int v1]) (rest := []) dX9_medium_53 cl59 m6 rfl rfl rfl rfl (Nat.le_of_ble_eq_true rfl) rfl rfl rfl rfl) ?_
        refine am_bI_c (fun r5 t5 => ?_)
        exact g_iret dX9_medium_56 rfl
      · refine Eq.trans (g_A dX9_medium_57 rfl rfl) ?_
        refine Eq.trans (g_getR dX9_medium_58 f2 sh0 rfl rfl) ?_
        refine Eq.trans (g_A dX9_medium_61 rfl rfl) ?_
        refine Eq.trans (g_vI (a := 6) (as := [.int v1]) (rest := []) dX9_medium_62 cl60 m7 rfl rfl rfl rfl (Nat.le_of_ble_eq_true rfl) rfl rfl rfl rfl) ?_
        refine am_bI_c (fun r4 t4 => ?_)
        exact g_iret dX9_medium_65 rfl
theorem q131_0 (C : am_C) (σ : am_M) (v1 v2 v3 : Int32) : am_go am_X0 C M131 0 [.ref 0, .int v1, .int v2, .int v3, .null] [] σ = am_bI (C 32 [.ref 4] σ) (fun r1 t1 => am_bV (C 144 [.int v1, .int r1] t1) (fun t2 => am_bI (C 36 [.ref 4, .int v1] t2) (fun r3 t3 => am_bV (C 144 [.int v2, .int r3] t3) (fun t4 => am_bV (C 145 [.int v3, .int (nI 3)] t4) (fun t5 => am_bI (C 42 [.ref 4, .int v1, .int v2] t5) (fun r6 t6 => if v3 = nI 0 then (am_bI (C 43 [.ref 4, .int r6] t6) (fun r12 t12 => some (.inl (some (.long ((r12 : Int32).toInt64))), t12))) else (if v3 = nI 1 then (am_bI (C 44 [.ref 4, .int r6] t6) (fun r11 t11 => some (.inl (some (.long ((r11 : Int32).toInt64))), t11))) else (if v3 = nI 2 then (am_bI (C 45 [.ref 4, .int r6] t6) (fun r10 t10 => some (.inl (some (.long ((r10 : Int32).toInt64))), t10))) else (am_bI (C 43 [.ref 4, .int r6] t6) (fun r7 t7 => if r7 = nI 0 then (am_bI (C 159 [.ref 0, .int r6] t7) (fun r9 t9 => some (.inl (some (.long ((r9 : Int32).toInt64))), t9))) else (am_bJ (C 160 [.ref 0, .int r6] t7) (fun r8 t8 => some (.inl (some (.long r8)), t8))))))))))))) := by
  refine Eq.trans (g_A dX9_entry_0 rfl rfl) ?_
  refine Eq.trans (g_A dX9_entry_1 rfl rfl) ?_
  refine Eq.trans (g_getR dX9_entry_2 f5 sh0 rfl rfl) ?_
  refine Eq.trans (g_vI (a := 4) (as := []) (rest := [.int v1]) dX9_entry_5 cl23 m32 rfl rfl rfl rfl (Nat.le_of_ble_eq_true rfl) rfl rfl rfl rfl) ?_
  refine am_bI_c (fun r1 t1 => ?_)
  refine Eq.trans (g_sV (as := [.int v1, .int r1]) (rest := []) dX9_entry_8 rfl cl1 m144 rfl rfl rfl rfl (Nat.le_of_ble_eq_true rfl) rfl rfl rfl) ?_
  refine am_bV_c (fun t2 => ?_)
  refine Eq.trans (g_A dX9_entry_11 rfl rfl) ?_
  refine Eq.trans (g_A dX9_entry_12 rfl rfl) ?_
  refine Eq.trans (g_getR dX9_entry_13 f5 sh0 rfl rfl) ?_
  refine Eq.trans (g_A dX9_entry_16 rfl rfl) ?_
  refine Eq.trans (g_vI (a := 4) (as := [.int v1]) (rest := [.int v2]) dX9_entry_17 cl58 m36 rfl rfl rfl rfl (Nat.le_of_ble_eq_true rfl) rfl rfl rfl rfl) ?_
  refine am_bI_c (fun r3 t3 => ?_)
  refine Eq.trans (g_sV (as := [.int v2, .int r3]) (rest := []) dX9_entry_20 rfl cl1 m144 rfl rfl rfl rfl (Nat.le_of_ble_eq_true rfl) rfl rfl rfl) ?_
  refine am_bV_c (fun t4 => ?_)
  refine Eq.trans (g_A dX9_entry_23 rfl rfl) ?_
  refine Eq.trans (g_K (v := nI 3) dX9_entry_24 rfl rfl) ?_
  refine Eq.trans (g_sV (as := [.int v3, .int (nI 3)]) (rest := []) dX9_entry_25 rfl cl17 m145 rfl rfl rfl rfl (Nat.le_of_ble_eq_true rfl) rfl rfl rfl) ?_
  refine am_bV_c (fun t5 => ?_)
  refine Eq.trans (g_A dX9_entry_28 rfl rfl) ?_
  refine Eq.trans (g_getR dX9_entry_29 f5 sh0 rfl rfl) ?_
  refine Eq.trans (g_A dX9_entry_32 rfl rfl) ?_
  refine Eq.trans (g_A dX9_entry_33 rfl rfl) ?_
  refine Eq.trans (g_vI (a := 4) (as := [.int v1, .int v2]) (rest := []) dX9_entry_34 cl61 m42 rfl rfl rfl rfl (Nat.le_of_ble_eq_true rfl) rfl rfl rfl rfl) ?_
  refine am_bI_c (fun r6 t6 => ?_)
  refine Eq.trans (g_ist (k := 4) dX9_entry_37 (Nat.le_of_ble_eq_true rfl) rfl rfl rfl) ?_
  refine Eq.trans (g_A dX9_entry_39 rfl rfl) ?_
  refine Eq.trans (g_ifne (t := 54) dX9_entry_40 rfl rfl) ?_
  refine am_ite ?_ ?_
  · refine Eq.trans (g_A dX9_entry_43 rfl rfl) ?_
    refine Eq.trans (g_getR dX9_entry_44 f5 sh0 rfl rfl) ?_
    refine Eq.trans (g_A dX9_entry_47 rfl rfl) ?_
    refine Eq.trans (g_vI (a := 4) (as := [.int r6]) (rest := []) dX9_entry_49 cl62 m43 rfl rfl rfl rfl (Nat.le_of_ble_eq_true rfl) rfl rfl rfl rfl) ?_
    refine am_bI_c (fun r12 t12 => ?_)
    refine Eq.trans (g_i2l dX9_entry_52 rfl) ?_
    exact g_lret dX9_entry_53 rfl
  · refine Eq.trans (g_A dX9_entry_54 rfl rfl) ?_
    refine Eq.trans (g_K (v := nI 1) dX9_entry_55 rfl rfl) ?_
    refine Eq.trans (g_icne (t := 70) dX9_entry_56 rfl rfl) ?_
    refine am_ite ?_ ?_
    · refine Eq.trans (g_A dX9_entry_59 rfl rfl) ?_
      refine Eq.trans (g_getR dX9_entry_60 f5 sh0 rfl rfl) ?_
      refine Eq.trans (g_A dX9_entry_63 rfl rfl) ?_
      refine Eq.trans (g_vI (a := 4) (as := [.int r6]) (rest := []) dX9_entry_65 cl63 m44 rfl rfl rfl rfl (Nat.le_of_ble_eq_true rfl) rfl rfl rfl rfl) ?_
      refine am_bI_c (fun r11 t11 => ?_)
      refine Eq.trans (g_i2l dX9_entry_68 rfl) ?_
      exact g_lret dX9_entry_69 rfl
    · refine Eq.trans (g_A dX9_entry_70 rfl rfl) ?_
      refine Eq.trans (g_K (v := nI 2) dX9_entry_71 rfl rfl) ?_
      refine Eq.trans (g_icne (t := 86) dX9_entry_72 rfl rfl) ?_
      refine am_ite ?_ ?_
      · refine Eq.trans (g_A dX9_entry_75 rfl rfl) ?_
        refine Eq.trans (g_getR dX9_entry_76 f5 sh0 rfl rfl) ?_
        refine Eq.trans (g_A dX9_entry_79 rfl rfl) ?_
        refine Eq.trans (g_vI (a := 4) (as := [.int r6]) (rest := []) dX9_entry_81 cl64 m45 rfl rfl rfl rfl (Nat.le_of_ble_eq_true rfl) rfl rfl rfl rfl) ?_
        refine am_bI_c (fun r10 t10 => ?_)
        refine Eq.trans (g_i2l dX9_entry_84 rfl) ?_
        exact g_lret dX9_entry_85 rfl
      · refine Eq.trans (g_A dX9_entry_86 rfl rfl) ?_
        refine Eq.trans (g_getR dX9_entry_87 f5 sh0 rfl rfl) ?_
        refine Eq.trans (g_A dX9_entry_90 rfl rfl) ?_
        refine Eq.trans (g_vI (a := 4) (as := [.int r6]) (rest := []) dX9_entry_92 cl62 m43 rfl rfl rfl rfl (Nat.le_of_ble_eq_true rfl) rfl rfl rfl rfl) ?_
        refine am_bI_c (fun r7 t7 => ?_)
        refine Eq.trans (g_ifne (t := 108) dX9_entry_95 rfl rfl) ?_
        refine am_ite ?_ ?_
        · refine Eq.trans (g_A dX9_entry_98 rfl rfl) ?_
          refine Eq.trans (g_A dX9_entry_99 rfl rfl) ?_
          refine Eq.trans (g_vI (a := 0) (as := [.int r6]) (rest := []) dX9_entry_101 cl65 m159 rfl rfl rfl rfl (Nat.le_of_ble_eq_true rfl) rfl rfl rfl rfl) ?_
          refine am_bI_c (fun r9 t9 => ?_)
          refine Eq.trans (g_i2l dX9_entry_104 rfl) ?_
          refine Eq.trans (g_goto (pc' := 114) dX9_entry_105 rfl) ?_
          exact g_lret dX9_entry_114 rfl
        · refine Eq.trans (g_A dX9_entry_108 rfl rfl) ?_
          refine Eq.trans (g_A dX9_entry_109 rfl rfl) ?_
          refine Eq.trans (g_vJ (a := 0) (as := [.int r6]) (rest := []) dX9_entry_111 cl66 m160 rfl rfl rfl rfl (Nat.le_of_ble_eq_true rfl) rfl rfl rfl rfl) ?_
          refine am_bJ_c (fun r8 t8 => ?_)
          exact g_lret dX9_entry_114 rfl
theorem q132_0 (C : am_C) (σ : am_M) (v1 : Int32) : am_go am_X0 C M132 0 [.ref 0, .int v1] [] σ = am_bI (C 158 [.ref 0, .int v1, .int (nI 1)] σ) (fun r1 t1 => some (.inl (some (.int r1)), t1)) := by
  refine Eq.trans (g_A dX9_lose_0 rfl rfl) ?_
  refine Eq.trans (g_A dX9_lose_1 rfl rfl) ?_
  refine Eq.trans (g_K (v := nI 1) dX9_lose_2 rfl rfl) ?_
  refine Eq.trans (g_vI (a := 0) (as := [.int v1, .int (nI 1)]) (rest := []) dX9_lose_3 cl67 m158 rfl rfl rfl rfl (Nat.le_of_ble_eq_true rfl) rfl rfl rfl rfl) ?_
  refine am_bI_c (fun r1 t1 => ?_)
  exact g_iret dX9_lose_6 rfl
theorem q133_0 (C : am_C) (σ : am_M) (v1 : Int32) : am_go am_X0 C M133 0 [.ref 0, .int v1] [] σ = am_bI (C 158 [.ref 0, .int v1, .int (nI 2)] σ) (fun r1 t1 => some (.inl (some (.int r1)), t1)) := by
  refine Eq.trans (g_A dX9_destroy_0 rfl rfl) ?_
  refine Eq.trans (g_A dX9_destroy_1 rfl rfl) ?_
  refine Eq.trans (g_K (v := nI 2) dX9_destroy_2 rfl rfl) ?_
  refine Eq.trans (g_vI (a := 0) (as := [.int v1, .int (nI 2)]) (rest := []) dX9_destroy_3 cl67 m158 rfl rfl rfl rfl (Nat.le_of_ble_eq_true rfl) rfl rfl rfl rfl) ?_
  refine am_bI_c (fun r1 t1 => ?_)
  exact g_iret dX9_destroy_6 rfl
theorem q134_0 (C : am_C) (σ : am_M) (v1 : Int32) : am_go am_X0 C M134 0 [.ref 0, .int v1, .null, .null, .null] [] σ = am_bI (C 32 [.ref 4] σ) (fun r1 t1 => am_bV (C 144 [.int v1, .int r1] t1) (fun t2 => am_bI (C 34 [.ref 4, .int v1] t2) (fun r3 t3 => if r3 = nI 2 then (some (.inr "java/lang/IllegalStateException", am_tick t3)) else (am_bI (C 7 [.ref 6, .int v1] t3) (fun r4 t4 => am_bI (C 38 [.ref 4, .int v1] t4) (fun r5 t5 => am_bV (C 147 [.ref 0, .int r5, .int r4] t5) (fun t6 => am_go am_X0 C M134 61 [.ref 0, .int v1, .int r4, .int r5, .int (nI 0)] [] t6))))))) := by
  refine Eq.trans (g_A dX9_migrate_0 rfl rfl) ?_
  refine Eq.trans (g_A dX9_migrate_1 rfl rfl) ?_
  refine Eq.trans (g_getR dX9_migrate_2 f5 sh0 rfl rfl) ?_
  refine Eq.trans (g_vI (a := 4) (as := []) (rest := [.int v1]) dX9_migrate_5 cl23 m32 rfl rfl rfl rfl (Nat.le_of_ble_eq_true rfl) rfl rfl rfl rfl) ?_
  refine am_bI_c (fun r1 t1 => ?_)
  refine Eq.trans (g_sV (as := [.int v1, .int r1]) (rest := []) dX9_migrate_8 rfl cl1 m144 rfl rfl rfl rfl (Nat.le_of_ble_eq_true rfl) rfl rfl rfl) ?_
  refine am_bV_c (fun t2 => ?_)
  refine Eq.trans (g_A dX9_migrate_11 rfl rfl) ?_
  refine Eq.trans (g_getR dX9_migrate_12 f5 sh0 rfl rfl) ?_
  refine Eq.trans (g_A dX9_migrate_15 rfl rfl) ?_
  refine Eq.trans (g_vI (a := 4) (as := [.int v1]) (rest := []) dX9_migrate_16 cl57 m34 rfl rfl rfl rfl (Nat.le_of_ble_eq_true rfl) rfl rfl rfl rfl) ?_
  refine am_bI_c (fun r3 t3 => ?_)
  refine Eq.trans (g_K (v := nI 2) dX9_migrate_19 rfl rfl) ?_
  refine Eq.trans (g_icne (t := 34) dX9_migrate_20 rfl rfl) ?_
  refine am_ite ?_ ?_
  · exact g_thr dX9_migrate_23 dX9_migrate_26 (Or.inr ⟨dX9_migrate_27, rfl⟩) dX9_migrate_30 dX9_migrate_33 rfl xt14 (Nat.le_of_ble_eq_true rfl)
  · refine Eq.trans (g_A dX9_migrate_34 rfl rfl) ?_
    refine Eq.trans (g_getR dX9_migrate_35 f2 sh0 rfl rfl) ?_
    refine Eq.trans (g_A dX9_migrate_38 rfl rfl) ?_
    refine Eq.trans (g_vI (a := 6) (as := [.int v1]) (rest := []) dX9_migrate_39 cl60 m7 rfl rfl rfl rfl (Nat.le_of_ble_eq_true rfl) rfl rfl rfl rfl) ?_
    refine am_bI_c (fun r4 t4 => ?_)
    refine Eq.trans (g_isn (k := 2) dX9_migrate_42 rfl (Nat.le_of_ble_eq_true rfl) rfl rfl rfl) ?_
    refine Eq.trans (g_A dX9_migrate_43 rfl rfl) ?_
    refine Eq.trans (g_getR dX9_migrate_44 f5 sh0 rfl rfl) ?_
    refine Eq.trans (g_A dX9_migrate_47 rfl rfl) ?_
    refine Eq.trans (g_vI (a := 4) (as := [.int v1]) (rest := []) dX9_migrate_48 cl68 m38 rfl rfl rfl rfl (Nat.le_of_ble_eq_true rfl) rfl rfl rfl rfl) ?_
    refine am_bI_c (fun r5 t5 => ?_)
    refine Eq.trans (g_isn (k := 3) dX9_migrate_51 rfl (Nat.le_of_ble_eq_true rfl) rfl rfl rfl) ?_
    refine Eq.trans (g_A dX9_migrate_52 rfl rfl) ?_
    refine Eq.trans (g_A dX9_migrate_53 rfl rfl) ?_
    refine Eq.trans (g_A dX9_migrate_54 rfl rfl) ?_
    refine Eq.trans (g_vV (a := 0) (as := [.int r5, .int r4]) (rest := []) dX9_migrate_55 cl69 m147 rfl rfl rfl rfl (Nat.le_of_ble_eq_true rfl) rfl rfl rfl rfl) ?_
    refine am_bV_c (fun t6 => ?_)
    refine Eq.trans (g_K (v := nI 0) dX9_migrate_58 rfl rfl) ?_
    refine Eq.trans (g_ist (k := 4) dX9_migrate_59 (Nat.le_of_ble_eq_true rfl) rfl rfl rfl) ?_
    rfl
theorem q134_61 (C : am_C) (σ : am_M) (v1 v2 v3 v4 : Int32) : am_go am_X0 C M134 61 [.ref 0, .int v1, .int v2, .int v3, .int v4] [] σ = if v2 ≤ v4 then (am_bI (C 34 [.ref 4, .int v1] σ) (fun r1 t1 => if r1 = nI 0 then (am_bV (C 39 [.ref 4, .int v1, .int (nI 2)] t1) (fun t2 => some (.inl (some (.int v2)), t2))) else (some (.inl (some (.int v2)), t1)))) else (am_bI (C 8 [.ref 6, .int v4] σ) (fun r3 t3 => am_bV (C 41 [.ref 4, .int r3, .int v3] t3) (fun t4 => am_go am_X0 C M134 61 [.ref 0, .int v1, .int v2, .int v3, .int (v4 + nI 1)] [] t4))) := by
  refine Eq.trans (g_A dX9_migrate_61 rfl rfl) ?_
  refine Eq.trans (g_A dX9_migrate_63 rfl rfl) ?_
  refine Eq.trans (g_icge (t := 90) dX9_migrate_64 rfl rfl) ?_
  refine am_ite ?_ ?_
  · refine Eq.trans (g_A dX9_migrate_90 rfl rfl) ?_
    refine Eq.trans (g_getR dX9_migrate_91 f5 sh0 rfl rfl) ?_
    refine Eq.trans (g_A dX9_migrate_94 rfl rfl) ?_
    refine Eq.trans (g_vI (a := 4) (as := [.int v1]) (rest := []) dX9_migrate_95 cl57 m34 rfl rfl rfl rfl (Nat.le_of_ble_eq_true rfl) rfl rfl rfl rfl) ?_
    refine am_bI_c (fun r1 t1 => ?_)
    refine Eq.trans (g_ifne (t := 110) dX9_migrate_98 rfl rfl) ?_
    refine am_ite ?_ ?_
    · refine Eq.trans (g_A dX9_migrate_101 rfl rfl) ?_
      refine Eq.trans (g_getR dX9_migrate_102 f5 sh0 rfl rfl) ?_
      refine Eq.trans (g_A dX9_migrate_105 rfl rfl) ?_
      refine Eq.trans (g_K (v := nI 2) dX9_migrate_106 rfl rfl) ?_
      refine Eq.trans (g_vV (a := 4) (as := [.int v1, .int (nI 2)]) (rest := []) dX9_migrate_107 cl72 m39 rfl rfl rfl rfl (Nat.le_of_ble_eq_true rfl) rfl rfl rfl rfl) ?_
      refine am_bV_c (fun t2 => ?_)
      refine Eq.trans (g_A dX9_migrate_110 rfl rfl) ?_
      exact g_iret dX9_migrate_111 rfl
    · refine Eq.trans (g_A dX9_migrate_110 rfl rfl) ?_
      exact g_iret dX9_migrate_111 rfl
  · refine Eq.trans (g_A dX9_migrate_67 rfl rfl) ?_
    refine Eq.trans (g_getR dX9_migrate_68 f5 sh0 rfl rfl) ?_
    refine Eq.trans (g_A dX9_migrate_71 rfl rfl) ?_
    refine Eq.trans (g_getR dX9_migrate_72 f2 sh0 rfl rfl) ?_
    refine Eq.trans (g_A dX9_migrate_75 rfl rfl) ?_
    refine Eq.trans (g_vI (a := 6) (as := [.int v4]) (rest := [.ref 4]) dX9_migrate_77 cl70 m8 rfl rfl rfl rfl (Nat.le_of_ble_eq_true rfl) rfl rfl rfl rfl) ?_
    refine am_bI_c (fun r3 t3 => ?_)
    refine Eq.trans (g_A dX9_migrate_80 rfl rfl) ?_
    refine Eq.trans (g_vV (a := 4) (as := [.int r3, .int v3]) (rest := []) dX9_migrate_81 cl71 m41 rfl rfl rfl rfl (Nat.le_of_ble_eq_true rfl) rfl rfl rfl rfl) ?_
    refine am_bV_c (fun t4 => ?_)
    refine Eq.trans (g_inc (v := v4 + nI 1) dX9_migrate_84 rfl (Nat.le_of_ble_eq_true rfl) rfl rfl rfl rfl) ?_
    refine Eq.trans (g_goto (pc' := 61) dX9_migrate_87 rfl) ?_
    rfl
theorem q135_0 (C : am_C) (σ : am_M) (v1 : Int32) : am_go am_X0 C M135 0 [.ref 0, .int v1] [] σ = am_bV (C 144 [.int v1, .int (nI 64)] σ) (fun t1 => am_bI (C 79 [.ref 3, .int v1] t1) (fun r2 t2 => if r2 = (-1) then (some (.inl (some (.int (-1))), t2)) else (am_bV (C 0 [.ref 6, .int (-1)] t2) (fun t3 => am_bI (C 3 [.ref 6, .int v1] t3) (fun r4 t4 => some (.inl (some (.int r4)), t4)))))) := by
  refine Eq.trans (g_A dX9_redundancy_0 rfl rfl) ?_
  refine Eq.trans (g_K (v := nI 64) dX9_redundancy_1 rfl rfl) ?_
  refine Eq.trans (g_sV (as := [.int v1, .int (nI 64)]) (rest := []) dX9_redundancy_3 rfl cl1 m144 rfl rfl rfl rfl (Nat.le_of_ble_eq_true rfl) rfl rfl rfl) ?_
  refine am_bV_c (fun t1 => ?_)
  refine Eq.trans (g_A dX9_redundancy_6 rfl rfl) ?_
  refine Eq.trans (g_getR dX9_redundancy_7 f0 sh0 rfl rfl) ?_
  refine Eq.trans (g_A dX9_redundancy_10 rfl rfl) ?_
  refine Eq.trans (g_vI (a := 3) (as := [.int v1]) (rest := []) dX9_redundancy_11 cl2 m79 rfl rfl rfl rfl (Nat.le_of_ble_eq_true rfl) rfl rfl rfl rfl) ?_
  refine am_bI_c (fun r2 t2 => ?_)
  refine Eq.trans (g_K (v := (-1)) dX9_redundancy_14 rfl rfl) ?_
  refine Eq.trans (g_icne (t := 20) dX9_redundancy_15 rfl rfl) ?_
  refine am_ite ?_ ?_
  · refine Eq.trans (g_K (v := (-1)) dX9_redundancy_18 rfl rfl) ?_
    exact g_iret dX9_redundancy_19 rfl
  · refine Eq.trans (g_A dX9_redundancy_20 rfl rfl) ?_
    refine Eq.trans (g_getR dX9_redundancy_21 f2 sh0 rfl rfl) ?_
    refine Eq.trans (g_K (v := (-1)) dX9_redundancy_24 rfl rfl) ?_
    refine Eq.trans (g_vV (a := 6) (as := [.int (-1)]) (rest := []) dX9_redundancy_25 cl12 m0 rfl rfl rfl rfl (Nat.le_of_ble_eq_true rfl) rfl rfl rfl rfl) ?_
    refine am_bV_c (fun t3 => ?_)
    refine Eq.trans (g_A dX9_redundancy_28 rfl rfl) ?_
    refine Eq.trans (g_getR dX9_redundancy_29 f2 sh0 rfl rfl) ?_
    refine Eq.trans (g_A dX9_redundancy_32 rfl rfl) ?_
    refine Eq.trans (g_vI (a := 6) (as := [.int v1]) (rest := []) dX9_redundancy_33 cl73 m3 rfl rfl rfl rfl (Nat.le_of_ble_eq_true rfl) rfl rfl rfl rfl) ?_
    refine am_bI_c (fun r4 t4 => ?_)
    exact g_iret dX9_redundancy_36 rfl
theorem q136_0 (C : am_C) (σ : am_M) : am_go am_X0 C M136 0 [.ref 0, .null, .null, .null] [] σ = am_bV (C 0 [.ref 6, .int (-1)] σ) (fun t1 => am_bI (C 38 [.ref 4, .int (-1)] t1) (fun r2 t2 => am_bI (C 5 [.ref 6, .int r2] t2) (fun r3 t3 => am_bV (C 147 [.ref 0, .int r2, .int r3] t3) (fun t4 => am_go am_X0 C M136 34 [.ref 0, .int r2, .int r3, .int (nI 1)] [] t4)))) := by
  refine Eq.trans (g_A dX9_duplicate_0 rfl rfl) ?_
  refine Eq.trans (g_getR dX9_duplicate_1 f2 sh0 rfl rfl) ?_
  refine Eq.trans (g_K (v := (-1)) dX9_duplicate_4 rfl rfl) ?_
  refine Eq.trans (g_vV (a := 6) (as := [.int (-1)]) (rest := []) dX9_duplicate_5 cl12 m0 rfl rfl rfl rfl (Nat.le_of_ble_eq_true rfl) rfl rfl rfl rfl) ?_
  refine am_bV_c (fun t1 => ?_)
  refine Eq.trans (g_A dX9_duplicate_8 rfl rfl) ?_
  refine Eq.trans (g_getR dX9_duplicate_9 f5 sh0 rfl rfl) ?_
  refine Eq.trans (g_K (v := (-1)) dX9_duplicate_12 rfl rfl) ?_
  refine Eq.trans (g_vI (a := 4) (as := [.int (-1)]) (rest := []) dX9_duplicate_13 cl68 m38 rfl rfl rfl rfl (Nat.le_of_ble_eq_true rfl) rfl rfl rfl rfl) ?_
  refine am_bI_c (fun r2 t2 => ?_)
  refine Eq.trans (g_isn (k := 1) dX9_duplicate_16 rfl (Nat.le_of_ble_eq_true rfl) rfl rfl rfl) ?_
  refine Eq.trans (g_A dX9_duplicate_17 rfl rfl) ?_
  refine Eq.trans (g_getR dX9_duplicate_18 f2 sh0 rfl rfl) ?_
  refine Eq.trans (g_A dX9_duplicate_21 rfl rfl) ?_
  refine Eq.trans (g_vI (a := 6) (as := [.int r2]) (rest := []) dX9_duplicate_22 cl74 m5 rfl rfl rfl rfl (Nat.le_of_ble_eq_true rfl) rfl rfl rfl rfl) ?_
  refine am_bI_c (fun r3 t3 => ?_)
  refine Eq.trans (g_isn (k := 2) dX9_duplicate_25 rfl (Nat.le_of_ble_eq_true rfl) rfl rfl rfl) ?_
  refine Eq.trans (g_A dX9_duplicate_26 rfl rfl) ?_
  refine Eq.trans (g_A dX9_duplicate_27 rfl rfl) ?_
  refine Eq.trans (g_A dX9_duplicate_28 rfl rfl) ?_
  refine Eq.trans (g_vV (a := 0) (as := [.int r2, .int r3]) (rest := []) dX9_duplicate_29 cl69 m147 rfl rfl rfl rfl (Nat.le_of_ble_eq_true rfl) rfl rfl rfl rfl) ?_
  refine am_bV_c (fun t4 => ?_)
  refine Eq.trans (g_K (v := nI 1) dX9_duplicate_32 rfl rfl) ?_
  refine Eq.trans (g_isn (k := 3) dX9_duplicate_33 rfl (Nat.le_of_ble_eq_true rfl) rfl rfl rfl) ?_
  rfl
theorem q136_34 (C : am_C) (σ : am_M) (v1 v2 v3 : Int32) : am_go am_X0 C M136 34 [.ref 0, .int v1, .int v2, .int v3] [] σ = if (nI 85) ≤ v3 then (am_go am_X0 C M136 65 [.ref 0, .int v1, .int v2, .int (nI 0)] [] σ) else (am_bI (C 4 [.ref 6, .int v3, .int v1] σ) (fun r1 t1 => if r1 = nI 0 then (am_go am_X0 C M136 34 [.ref 0, .int v1, .int v2, .int (v3 + nI 1)] [] t1) else (am_bV (C 151 [.ref 0, .int v3] t1) (fun t2 => am_go am_X0 C M136 34 [.ref 0, .int v1, .int v2, .int (v3 + nI 1)] [] t2)))) := by
  refine Eq.trans (g_A dX9_duplicate_34 rfl rfl) ?_
  refine Eq.trans (g_K (v := nI 85) dX9_duplicate_35 rfl rfl) ?_
  refine Eq.trans (g_icge (t := 63) dX9_duplicate_37 rfl rfl) ?_
  refine am_ite ?_ ?_
  · refine Eq.trans (g_K (v := nI 0) dX9_duplicate_63 rfl rfl) ?_
    refine Eq.trans (g_isn (k := 3) dX9_duplicate_64 rfl (Nat.le_of_ble_eq_true rfl) rfl rfl rfl) ?_
    rfl
  · refine Eq.trans (g_A dX9_duplicate_40 rfl rfl) ?_
    refine Eq.trans (g_getR dX9_duplicate_41 f2 sh0 rfl rfl) ?_
    refine Eq.trans (g_A dX9_duplicate_44 rfl rfl) ?_
    refine Eq.trans (g_A dX9_duplicate_45 rfl rfl) ?_
    refine Eq.trans (g_vI (a := 6) (as := [.int v3, .int v1]) (rest := []) dX9_duplicate_46 cl75 m4 rfl rfl rfl rfl (Nat.le_of_ble_eq_true rfl) rfl rfl rfl rfl) ?_
    refine am_bI_c (fun r1 t1 => ?_)
    refine Eq.trans (g_ifeq (t := 57) dX9_duplicate_49 rfl rfl) ?_
    refine am_ite ?_ ?_
    · refine Eq.trans (g_inc (v := v3 + nI 1) dX9_duplicate_57 rfl (Nat.le_of_ble_eq_true rfl) rfl rfl rfl rfl) ?_
      refine Eq.trans (g_goto (pc' := 34) dX9_duplicate_60 rfl) ?_
      rfl
    · refine Eq.trans (g_A dX9_duplicate_52 rfl rfl) ?_
      refine Eq.trans (g_A dX9_duplicate_53 rfl rfl) ?_
      refine Eq.trans (g_vV (a := 0) (as := [.int v3]) (rest := []) dX9_duplicate_54 cl49 m151 rfl rfl rfl rfl (Nat.le_of_ble_eq_true rfl) rfl rfl rfl rfl) ?_
      refine am_bV_c (fun t2 => ?_)
      refine Eq.trans (g_inc (v := v3 + nI 1) dX9_duplicate_57 rfl (Nat.le_of_ble_eq_true rfl) rfl rfl rfl rfl) ?_
      refine Eq.trans (g_goto (pc' := 34) dX9_duplicate_60 rfl) ?_
      rfl
theorem q136_65 (C : am_C) (σ : am_M) (v1 v2 v3 : Int32) : am_go am_X0 C M136 65 [.ref 0, .int v1, .int v2, .int v3] [] σ = if (nI 64) ≤ v3 then (some (.inl (some (.int v2)), σ)) else (am_bI (C 4 [.ref 6, .int ((nI 85) + v3), .int v1] σ) (fun r1 t1 => if r1 = nI 0 then (am_go am_X0 C M136 65 [.ref 0, .int v1, .int v2, .int (v3 + nI 1)] [] t1) else (am_bI (C 79 [.ref 3, .int v3] t1) (fun r2 t2 => am_bI (C 164 [.int v3] t2) (fun r3 t3 => am_bI (C 77 [.ref 3, .int r3] t3) (fun r4 t4 => am_bV (C 150 [.ref 0, .int (nI 1), .int r2, .int r4] t4) (fun t5 => am_go am_X0 C M136 65 [.ref 0, .int v1, .int v2, .int (v3 + nI 1)] [] t5))))))) := by
  refine Eq.trans (g_A dX9_duplicate_65 rfl rfl) ?_
  refine Eq.trans (g_K (v := nI 64) dX9_duplicate_66 rfl rfl) ?_
  refine Eq.trans (g_icge (t := 116) dX9_duplicate_68 rfl rfl) ?_
  refine am_ite ?_ ?_
  · refine Eq.trans (g_A dX9_duplicate_116 rfl rfl) ?_
    exact g_iret dX9_duplicate_117 rfl
  · refine Eq.trans (g_A dX9_duplicate_71 rfl rfl) ?_
    refine Eq.trans (g_getR dX9_duplicate_72 f2 sh0 rfl rfl) ?_
    refine Eq.trans (g_K (v := nI 85) dX9_duplicate_75 rfl rfl) ?_
    refine Eq.trans (g_A dX9_duplicate_77 rfl rfl) ?_
    refine Eq.trans (g_iadd dX9_duplicate_78 rfl) ?_
    refine Eq.trans (g_A dX9_duplicate_79 rfl rfl) ?_
    refine Eq.trans (g_vI (a := 6) (as := [.int ((nI 85) + v3), .int v1]) (rest := []) dX9_duplicate_80 cl75 m4 rfl rfl rfl rfl (Nat.le_of_ble_eq_true rfl) rfl rfl rfl rfl) ?_
    refine am_bI_c (fun r1 t1 => ?_)
    refine Eq.trans (g_ifeq (t := 110) dX9_duplicate_83 rfl rfl) ?_
    refine am_ite ?_ ?_
    · refine Eq.trans (g_inc (v := v3 + nI 1) dX9_duplicate_110 rfl (Nat.le_of_ble_eq_true rfl) rfl rfl rfl rfl) ?_
      refine Eq.trans (g_goto (pc' := 65) dX9_duplicate_113 rfl) ?_
      rfl
    · refine Eq.trans (g_A dX9_duplicate_86 rfl rfl) ?_
      refine Eq.trans (g_K (v := nI 1) dX9_duplicate_87 rfl rfl) ?_
      refine Eq.trans (g_A dX9_duplicate_88 rfl rfl) ?_
      refine Eq.trans (g_getR dX9_duplicate_89 f0 sh0 rfl rfl) ?_
      refine Eq.trans (g_A dX9_duplicate_92 rfl rfl) ?_
      refine Eq.trans (g_vI (a := 3) (as := [.int v3]) (rest := [.int (nI 1), .ref 0]) dX9_duplicate_93 cl2 m79 rfl rfl rfl rfl (Nat.le_of_ble_eq_true rfl) rfl rfl rfl rfl) ?_
      refine am_bI_c (fun r2 t2 => ?_)
      refine Eq.trans (g_A dX9_duplicate_96 rfl rfl) ?_
      refine Eq.trans (g_getR dX9_duplicate_97 f0 sh0 rfl rfl) ?_
      refine Eq.trans (g_A dX9_duplicate_100 rfl rfl) ?_
      refine Eq.trans (g_sI (as := [.int v3]) (rest := [.ref 3, .int r2, .int (nI 1), .ref 0]) dX9_duplicate_101 rfl cl4 m164 rfl rfl rfl rfl (Nat.le_of_ble_eq_true rfl) rfl rfl rfl) ?_
      refine am_bI_c (fun r3 t3 => ?_)
      refine Eq.trans (g_vI (a := 3) (as := [.int r3]) (rest := [.int r2, .int (nI 1), .ref 0]) dX9_duplicate_104 cl10 m77 rfl rfl rfl rfl (Nat.le_of_ble_eq_true rfl) rfl rfl rfl rfl) ?_
      refine am_bI_c (fun r4 t4 => ?_)
      refine Eq.trans (g_vV (a := 0) (as := [.int (nI 1), .int r2, .int r4]) (rest := []) dX9_duplicate_107 cl11 m150 rfl rfl rfl rfl (Nat.le_of_ble_eq_true rfl) rfl rfl rfl rfl) ?_
      refine am_bV_c (fun t5 => ?_)
      refine Eq.trans (g_inc (v := v3 + nI 1) dX9_duplicate_110 rfl (Nat.le_of_ble_eq_true rfl) rfl rfl rfl rfl) ?_
      refine Eq.trans (g_goto (pc' := 65) dX9_duplicate_113 rfl) ?_
      rfl
theorem q137_0 (C : am_C) (σ : am_M) : am_go am_X0 C M137 0 [.ref 0, .null, .null, .null] [] σ = am_bV (C 0 [.ref 6, .int (-1)] σ) (fun t1 => am_bI (C 2 [.ref 6, .int (-1)] t1) (fun r2 t2 => am_go am_X0 C M137 21 [.ref 0, .int r2, .int (nI 0), .int (nI 0)] [] t2)) := by
  refine Eq.trans (g_A dX9_redundantMedia_0 rfl rfl) ?_
  refine Eq.trans (g_getR dX9_redundantMedia_1 f2 sh0 rfl rfl) ?_
  refine Eq.trans (g_K (v := (-1)) dX9_redundantMedia_4 rfl rfl) ?_
  refine Eq.trans (g_vV (a := 6) (as := [.int (-1)]) (rest := []) dX9_redundantMedia_5 cl12 m0 rfl rfl rfl rfl (Nat.le_of_ble_eq_true rfl) rfl rfl rfl rfl) ?_
  refine am_bV_c (fun t1 => ?_)
  refine Eq.trans (g_A dX9_redundantMedia_8 rfl rfl) ?_
  refine Eq.trans (g_getR dX9_redundantMedia_9 f2 sh0 rfl rfl) ?_
  refine Eq.trans (g_K (v := (-1)) dX9_redundantMedia_12 rfl rfl) ?_
  refine Eq.trans (g_vI (a := 6) (as := [.int (-1)]) (rest := []) dX9_redundantMedia_13 cl19 m2 rfl rfl rfl rfl (Nat.le_of_ble_eq_true rfl) rfl rfl rfl rfl) ?_
  refine am_bI_c (fun r2 t2 => ?_)
  refine Eq.trans (g_isn (k := 1) dX9_redundantMedia_16 rfl (Nat.le_of_ble_eq_true rfl) rfl rfl rfl) ?_
  refine Eq.trans (g_K (v := nI 0) dX9_redundantMedia_17 rfl rfl) ?_
  refine Eq.trans (g_isn (k := 2) dX9_redundantMedia_18 rfl (Nat.le_of_ble_eq_true rfl) rfl rfl rfl) ?_
  refine Eq.trans (g_K (v := nI 0) dX9_redundantMedia_19 rfl rfl) ?_
  refine Eq.trans (g_isn (k := 3) dX9_redundantMedia_20 rfl (Nat.le_of_ble_eq_true rfl) rfl rfl rfl) ?_
  rfl
theorem q137_21 (C : am_C) (σ : am_M) (v1 v2 v3 : Int32) : am_go am_X0 C M137 21 [.ref 0, .int v1, .int v2, .int v3] [] σ = am_bI (C 32 [.ref 4] σ) (fun r1 t1 => if r1 ≤ v3 then (some (.inl (some (.int v2)), t1)) else (am_bI (C 35 [.ref 4, .int v3] t1) (fun r2 t2 => if r2 = nI 0 then (am_go am_X0 C M137 21 [.ref 0, .int v1, .int v2, .int (v3 + nI 1)] [] t2) else (am_bI (C 2 [.ref 6, .int (((nI 1) <<< (v3 &&& 31)) ^^^ (-1))] t2) (fun r3 t3 => if r3 = v1 then (am_go am_X0 C M137 21 [.ref 0, .int v1, .int (v2 ||| ((nI 1) <<< (v3 &&& 31))), .int (v3 + nI 1)] [] t3) else (am_go am_X0 C M137 21 [.ref 0, .int v1, .int v2, .int (v3 + nI 1)] [] t3)))))) := by
  refine Eq.trans (g_A dX9_redundantMedia_21 rfl rfl) ?_
  refine Eq.trans (g_A dX9_redundantMedia_22 rfl rfl) ?_
  refine Eq.trans (g_getR dX9_redundantMedia_23 f5 sh0 rfl rfl) ?_
  refine Eq.trans (g_vI (a := 4) (as := []) (rest := [.int v3]) dX9_redundantMedia_26 cl23 m32 rfl rfl rfl rfl (Nat.le_of_ble_eq_true rfl) rfl rfl rfl rfl) ?_
  refine am_bI_c (fun r1 t1 => ?_)
  refine Eq.trans (g_icge (t := 71) dX9_redundantMedia_29 rfl rfl) ?_
  refine am_ite ?_ ?_
  · refine Eq.trans (g_A dX9_redundantMedia_71 rfl rfl) ?_
    exact g_iret dX9_redundantMedia_72 rfl
  · refine Eq.trans (g_A dX9_redundantMedia_32 rfl rfl) ?_
    refine Eq.trans (g_getR dX9_redundantMedia_33 f5 sh0 rfl rfl) ?_
    refine Eq.trans (g_A dX9_redundantMedia_36 rfl rfl) ?_
    refine Eq.trans (g_vI (a := 4) (as := [.int v3]) (rest := []) dX9_redundantMedia_37 cl76 m35 rfl rfl rfl rfl (Nat.le_of_ble_eq_true rfl) rfl rfl rfl rfl) ?_
    refine am_bI_c (fun r2 t2 => ?_)
    refine Eq.trans (g_ifeq (t := 65) dX9_redundantMedia_40 rfl rfl) ?_
    refine am_ite ?_ ?_
    · refine Eq.trans (g_inc (v := v3 + nI 1) dX9_redundantMedia_65 rfl (Nat.le_of_ble_eq_true rfl) rfl rfl rfl rfl) ?_
      refine Eq.trans (g_goto (pc' := 21) dX9_redundantMedia_68 rfl) ?_
      rfl
    · refine Eq.trans (g_A dX9_redundantMedia_43 rfl rfl) ?_
      refine Eq.trans (g_getR dX9_redundantMedia_44 f2 sh0 rfl rfl) ?_
      refine Eq.trans (g_K (v := nI 1) dX9_redundantMedia_47 rfl rfl) ?_
      refine Eq.trans (g_A dX9_redundantMedia_48 rfl rfl) ?_
      refine Eq.trans (g_ishl dX9_redundantMedia_49 rfl) ?_
      refine Eq.trans (g_K (v := (-1)) dX9_redundantMedia_50 rfl rfl) ?_
      refine Eq.trans (g_ixor dX9_redundantMedia_51 rfl) ?_
      refine Eq.trans (g_vI (a := 6) (as := [.int (((nI 1) <<< (v3 &&& 31)) ^^^ (-1))]) (rest := []) dX9_redundantMedia_52 cl19 m2 rfl rfl rfl rfl (Nat.le_of_ble_eq_true rfl) rfl rfl rfl rfl) ?_
      refine am_bI_c (fun r3 t3 => ?_)
      refine Eq.trans (g_A dX9_redundantMedia_55 rfl rfl) ?_
      refine Eq.trans (g_icne (t := 65) dX9_redundantMedia_56 rfl rfl) ?_
      refine am_ite ?_ ?_
      · refine Eq.trans (g_A dX9_redundantMedia_59 rfl rfl) ?_
        refine Eq.trans (g_K (v := nI 1) dX9_redundantMedia_60 rfl rfl) ?_
        refine Eq.trans (g_A dX9_redundantMedia_61 rfl rfl) ?_
        refine Eq.trans (g_ishl dX9_redundantMedia_62 rfl) ?_
        refine Eq.trans (g_ior dX9_redundantMedia_63 rfl) ?_
        refine Eq.trans (g_isn (k := 2) dX9_redundantMedia_64 rfl (Nat.le_of_ble_eq_true rfl) rfl rfl rfl) ?_
        refine Eq.trans (g_inc (v := v3 + nI 1) dX9_redundantMedia_65 rfl (Nat.le_of_ble_eq_true rfl) rfl rfl rfl rfl) ?_
        refine Eq.trans (g_goto (pc' := 21) dX9_redundantMedia_68 rfl) ?_
        rfl
      · refine Eq.trans (g_inc (v := v3 + nI 1) dX9_redundantMedia_65 rfl (Nat.le_of_ble_eq_true rfl) rfl rfl rfl rfl) ?_
        refine Eq.trans (g_goto (pc' := 21) dX9_redundantMedia_68 rfl) ?_
        rfl
theorem q138_0 (C : am_C) (σ : am_M) (v1 : Int32) : am_go am_X0 C M138 0 [.ref 0, .int v1] [] σ = am_bV (C 144 [.int v1, .int (nI 85)] σ) (fun t1 => am_bV (C 20 [.ref 8] t1) (fun t2 => am_bI (C 21 [.ref 8, .int v1] t2) (fun r3 t3 => some (.inl (some (.int r3)), t3)))) := by
  refine Eq.trans (g_A dX9_hash_0 rfl rfl) ?_
  refine Eq.trans (g_K (v := nI 85) dX9_hash_1 rfl rfl) ?_
  refine Eq.trans (g_sV (as := [.int v1, .int (nI 85)]) (rest := []) dX9_hash_3 rfl cl1 m144 rfl rfl rfl rfl (Nat.le_of_ble_eq_true rfl) rfl rfl rfl) ?_
  refine am_bV_c (fun t1 => ?_)
  refine Eq.trans (g_A dX9_hash_6 rfl rfl) ?_
  refine Eq.trans (g_getR dX9_hash_7 f11 sh0 rfl rfl) ?_
  refine Eq.trans (g_vV (a := 8) (as := []) (rest := []) dX9_hash_10 cl77 m20 rfl rfl rfl rfl (Nat.le_of_ble_eq_true rfl) rfl rfl rfl rfl) ?_
  refine am_bV_c (fun t2 => ?_)
  refine Eq.trans (g_A dX9_hash_13 rfl rfl) ?_
  refine Eq.trans (g_getR dX9_hash_14 f11 sh0 rfl rfl) ?_
  refine Eq.trans (g_A dX9_hash_17 rfl rfl) ?_
  refine Eq.trans (g_vI (a := 8) (as := [.int v1]) (rest := []) dX9_hash_18 cl78 m21 rfl rfl rfl rfl (Nat.le_of_ble_eq_true rfl) rfl rfl rfl rfl) ?_
  refine am_bI_c (fun r3 t3 => ?_)
  exact g_iret dX9_hash_21 rfl
theorem q139_0 (C : am_C) (σ : am_M) (v1 v2 : Int32) : am_go am_X0 C M139 0 [.ref 0, .int v1, .int v2] [] σ = am_bV (C 144 [.int v1, .int (nI 4)] σ) (fun t1 => am_bV (C 144 [.int v2, .int (nI 64)] t1) (fun t2 => am_bV (C 51 [.ref 9, .int v1, .int v2] t2) (fun t3 => am_bI (C 50 [.ref 9, .int v1, .int (nI 0)] t3) (fun r4 t4 => some (.inl (some (.int r4)), t4))))) := by
  refine Eq.trans (g_A dX9_keepProof_0 rfl rfl) ?_
  refine Eq.trans (g_K (v := nI 4) dX9_keepProof_1 rfl rfl) ?_
  refine Eq.trans (g_sV (as := [.int v1, .int (nI 4)]) (rest := []) dX9_keepProof_2 rfl cl1 m144 rfl rfl rfl rfl (Nat.le_of_ble_eq_true rfl) rfl rfl rfl) ?_
  refine am_bV_c (fun t1 => ?_)
  refine Eq.trans (g_A dX9_keepProof_5 rfl rfl) ?_
  refine Eq.trans (g_K (v := nI 64) dX9_keepProof_6 rfl rfl) ?_
  refine Eq.trans (g_sV (as := [.int v2, .int (nI 64)]) (rest := []) dX9_keepProof_8 rfl cl1 m144 rfl rfl rfl rfl (Nat.le_of_ble_eq_true rfl) rfl rfl rfl) ?_
  refine am_bV_c (fun t2 => ?_)
  refine Eq.trans (g_A dX9_keepProof_11 rfl rfl) ?_
  refine Eq.trans (g_getR dX9_keepProof_12 f12 sh0 rfl rfl) ?_
  refine Eq.trans (g_A dX9_keepProof_15 rfl rfl) ?_
  refine Eq.trans (g_A dX9_keepProof_16 rfl rfl) ?_
  refine Eq.trans (g_vV (a := 9) (as := [.int v1, .int v2]) (rest := []) dX9_keepProof_17 cl79 m51 rfl rfl rfl rfl (Nat.le_of_ble_eq_true rfl) rfl rfl rfl rfl) ?_
  refine am_bV_c (fun t3 => ?_)
  refine Eq.trans (g_A dX9_keepProof_20 rfl rfl) ?_
  refine Eq.trans (g_getR dX9_keepProof_21 f12 sh0 rfl rfl) ?_
  refine Eq.trans (g_A dX9_keepProof_24 rfl rfl) ?_
  refine Eq.trans (g_K (v := nI 0) dX9_keepProof_25 rfl rfl) ?_
  refine Eq.trans (g_vI (a := 9) (as := [.int v1, .int (nI 0)]) (rest := []) dX9_keepProof_26 cl80 m50 rfl rfl rfl rfl (Nat.le_of_ble_eq_true rfl) rfl rfl rfl rfl) ?_
  refine am_bI_c (fun r4 t4 => ?_)
  exact g_iret dX9_keepProof_29 rfl
theorem q140_0 (C : am_C) (σ : am_M) (v1 v2 : Int32) : am_go am_X0 C M140 0 [.ref 0, .int v1, .int v2] [] σ = am_bV (C 144 [.int v1, .int (nI 4)] σ) (fun t1 => am_bV (C 144 [.int v2, .int (nI 13)] t1) (fun t2 => am_bV (C 148 [.ref 0, .int v1] t2) (fun t3 => am_bI (C 50 [.ref 9, .int v1, .int v2] t3) (fun r4 t4 => some (.inl (some (.int r4)), t4))))) := by
  refine Eq.trans (g_A dX9_proofNumber_0 rfl rfl) ?_
  refine Eq.trans (g_K (v := nI 4) dX9_proofNumber_1 rfl rfl) ?_
  refine Eq.trans (g_sV (as := [.int v1, .int (nI 4)]) (rest := []) dX9_proofNumber_2 rfl cl1 m144 rfl rfl rfl rfl (Nat.le_of_ble_eq_true rfl) rfl rfl rfl) ?_
  refine am_bV_c (fun t1 => ?_)
  refine Eq.trans (g_A dX9_proofNumber_5 rfl rfl) ?_
  refine Eq.trans (g_K (v := nI 13) dX9_proofNumber_6 rfl rfl) ?_
  refine Eq.trans (g_sV (as := [.int v2, .int (nI 13)]) (rest := []) dX9_proofNumber_8 rfl cl1 m144 rfl rfl rfl rfl (Nat.le_of_ble_eq_true rfl) rfl rfl rfl) ?_
  refine am_bV_c (fun t2 => ?_)
  refine Eq.trans (g_A dX9_proofNumber_11 rfl rfl) ?_
  refine Eq.trans (g_A dX9_proofNumber_12 rfl rfl) ?_
  refine Eq.trans (g_vV (a := 0) (as := [.int v1]) (rest := []) dX9_proofNumber_13 cl81 m148 rfl rfl rfl rfl (Nat.le_of_ble_eq_true rfl) rfl rfl rfl rfl) ?_
  refine am_bV_c (fun t3 => ?_)
  refine Eq.trans (g_A dX9_proofNumber_16 rfl rfl) ?_
  refine Eq.trans (g_getR dX9_proofNumber_17 f12 sh0 rfl rfl) ?_
  refine Eq.trans (g_A dX9_proofNumber_20 rfl rfl) ?_
  refine Eq.trans (g_A dX9_proofNumber_21 rfl rfl) ?_
  refine Eq.trans (g_vI (a := 9) (as := [.int v1, .int v2]) (rest := []) dX9_proofNumber_22 cl80 m50 rfl rfl rfl rfl (Nat.le_of_ble_eq_true rfl) rfl rfl rfl rfl) ?_
  refine am_bI_c (fun r4 t4 => ?_)
  exact g_iret dX9_proofNumber_25 rfl
theorem q141_0 (C : am_C) (σ : am_M) (v1 : Int32) : am_go am_X0 C M141 0 [.ref 0, .int v1] [] σ = am_bV (C 144 [.int v1, .int (nI 4)] σ) (fun t1 => am_bV (C 148 [.ref 0, .int v1] t1) (fun t2 => am_bI (C 50 [.ref 9, .int v1, .int (nI 0)] t2) (fun r3 t3 => am_bI (C 52 [.ref 9, .int v1, .int r3] t3) (fun r4 t4 => some (.inl (some (.int r4)), t4))))) := by
  refine Eq.trans (g_A dX9_proofHash_0 rfl rfl) ?_
  refine Eq.trans (g_K (v := nI 4) dX9_proofHash_1 rfl rfl) ?_
  refine Eq.trans (g_sV (as := [.int v1, .int (nI 4)]) (rest := []) dX9_proofHash_2 rfl cl1 m144 rfl rfl rfl rfl (Nat.le_of_ble_eq_true rfl) rfl rfl rfl) ?_
  refine am_bV_c (fun t1 => ?_)
  refine Eq.trans (g_A dX9_proofHash_5 rfl rfl) ?_
  refine Eq.trans (g_A dX9_proofHash_6 rfl rfl) ?_
  refine Eq.trans (g_vV (a := 0) (as := [.int v1]) (rest := []) dX9_proofHash_7 cl81 m148 rfl rfl rfl rfl (Nat.le_of_ble_eq_true rfl) rfl rfl rfl rfl) ?_
  refine am_bV_c (fun t2 => ?_)
  refine Eq.trans (g_A dX9_proofHash_10 rfl rfl) ?_
  refine Eq.trans (g_getR dX9_proofHash_11 f12 sh0 rfl rfl) ?_
  refine Eq.trans (g_A dX9_proofHash_14 rfl rfl) ?_
  refine Eq.trans (g_A dX9_proofHash_15 rfl rfl) ?_
  refine Eq.trans (g_getR dX9_proofHash_16 f12 sh0 rfl rfl) ?_
  refine Eq.trans (g_A dX9_proofHash_19 rfl rfl) ?_
  refine Eq.trans (g_K (v := nI 0) dX9_proofHash_20 rfl rfl) ?_
  refine Eq.trans (g_vI (a := 9) (as := [.int v1, .int (nI 0)]) (rest := [.int v1, .ref 9]) dX9_proofHash_21 cl80 m50 rfl rfl rfl rfl (Nat.le_of_ble_eq_true rfl) rfl rfl rfl rfl) ?_
  refine am_bI_c (fun r3 t3 => ?_)
  refine Eq.trans (g_vI (a := 9) (as := [.int v1, .int r3]) (rest := []) dX9_proofHash_24 cl82 m52 rfl rfl rfl rfl (Nat.le_of_ble_eq_true rfl) rfl rfl rfl rfl) ?_
  refine am_bI_c (fun r4 t4 => ?_)
  exact g_iret dX9_proofHash_27 rfl
theorem q142_0 (C : am_C) (σ : am_M) (v1 v2 : Int32) : am_go am_X0 C M142 0 [.ref 0, .int v1, .int v2] [] σ = am_bV (C 144 [.int v1, .int (nI 4)] σ) (fun t1 => am_bV (C 148 [.ref 0, .int v1] t1) (fun t2 => am_bI (C 52 [.ref 9, .int v1, .int v2] t2) (fun r3 t3 => some (.inl (some (.int r3)), t3)))) := by
  refine Eq.trans (g_A dX9_proofHashWith_0 rfl rfl) ?_
  refine Eq.trans (g_K (v := nI 4) dX9_proofHashWith_1 rfl rfl) ?_
  refine Eq.trans (g_sV (as := [.int v1, .int (nI 4)]) (rest := []) dX9_proofHashWith_2 rfl cl1 m144 rfl rfl rfl rfl (Nat.le_of_ble_eq_true rfl) rfl rfl rfl) ?_
  refine am_bV_c (fun t1 => ?_)
  refine Eq.trans (g_A dX9_proofHashWith_5 rfl rfl) ?_
  refine Eq.trans (g_A dX9_proofHashWith_6 rfl rfl) ?_
  refine Eq.trans (g_vV (a := 0) (as := [.int v1]) (rest := []) dX9_proofHashWith_7 cl81 m148 rfl rfl rfl rfl (Nat.le_of_ble_eq_true rfl) rfl rfl rfl rfl) ?_
  refine am_bV_c (fun t2 => ?_)
  refine Eq.trans (g_A dX9_proofHashWith_10 rfl rfl) ?_
  refine Eq.trans (g_getR dX9_proofHashWith_11 f12 sh0 rfl rfl) ?_
  refine Eq.trans (g_A dX9_proofHashWith_14 rfl rfl) ?_
  refine Eq.trans (g_A dX9_proofHashWith_15 rfl rfl) ?_
  refine Eq.trans (g_vI (a := 9) (as := [.int v1, .int v2]) (rest := []) dX9_proofHashWith_16 cl82 m52 rfl rfl rfl rfl (Nat.le_of_ble_eq_true rfl) rfl rfl rfl rfl) ?_
  refine am_bI_c (fun r3 t3 => ?_)
  exact g_iret dX9_proofHashWith_19 rfl
theorem q143_0 (C : am_C) (σ : am_M) (v1 : Int32) : am_go am_X0 C M143 0 [.ref 0, .int v1] [] σ = am_bV (C 23 [.ref 1, .int v1] σ) (fun t1 => am_bV (C 56 [.ref 2] t1) (fun t2 => am_bV (C 76 [.ref 3] t2) (fun t3 => am_bV (C 31 [.ref 4] t3) (fun t4 => am_bV (C 48 [.ref 9] t4) (fun t5 => am_bV (C 276 [.ref 10, .int (-1)] t5) (fun t6 => am_bV (C 276 [.ref 11, .int (-1)] t6) (fun t7 => am_bV (C 276 [.ref 12, .int (-1)] t7) (fun t8 => some (.inl none, am_wI t8 0 12 (nI 0)))))))))) := by
  refine Eq.trans (g_A dX9_begin_0 rfl rfl) ?_
  refine Eq.trans (g_getR dX9_begin_1 f9 sh0 rfl rfl) ?_
  refine Eq.trans (g_A dX9_begin_4 rfl rfl) ?_
  refine Eq.trans (g_vV (a := 1) (as := [.int v1]) (rest := []) dX9_begin_5 cl83 m23 rfl rfl rfl rfl (Nat.le_of_ble_eq_true rfl) rfl rfl rfl rfl) ?_
  refine am_bV_c (fun t1 => ?_)
  refine Eq.trans (g_A dX9_begin_8 rfl rfl) ?_
  refine Eq.trans (g_getR dX9_begin_9 f1 sh0 rfl rfl) ?_
  refine Eq.trans (g_vV (a := 2) (as := []) (rest := []) dX9_begin_12 cl84 m56 rfl rfl rfl rfl (Nat.le_of_ble_eq_true rfl) rfl rfl rfl rfl) ?_
  refine am_bV_c (fun t2 => ?_)
  refine Eq.trans (g_A dX9_begin_15 rfl rfl) ?_
  refine Eq.trans (g_getR dX9_begin_16 f0 sh0 rfl rfl) ?_
  refine Eq.trans (g_vV (a := 3) (as := []) (rest := []) dX9_begin_19 cl85 m76 rfl rfl rfl rfl (Nat.le_of_ble_eq_true rfl) rfl rfl rfl rfl) ?_
  refine am_bV_c (fun t3 => ?_)
  refine Eq.trans (g_A dX9_begin_22 rfl rfl) ?_
  refine Eq.trans (g_getR dX9_begin_23 f5 sh0 rfl rfl) ?_
  refine Eq.trans (g_vV (a := 4) (as := []) (rest := []) dX9_begin_26 cl86 m31 rfl rfl rfl rfl (Nat.le_of_ble_eq_true rfl) rfl rfl rfl rfl) ?_
  refine am_bV_c (fun t4 => ?_)
  refine Eq.trans (g_A dX9_begin_29 rfl rfl) ?_
  refine Eq.trans (g_getR dX9_begin_30 f12 sh0 rfl rfl) ?_
  refine Eq.trans (g_vV (a := 9) (as := []) (rest := []) dX9_begin_33 cl87 m48 rfl rfl rfl rfl (Nat.le_of_ble_eq_true rfl) rfl rfl rfl rfl) ?_
  refine am_bV_c (fun t5 => ?_)
  refine Eq.trans (g_A dX9_begin_36 rfl rfl) ?_
  refine Eq.trans (g_getR dX9_begin_37 f6 sh0 rfl rfl) ?_
  refine Eq.trans (g_K (v := (-1)) dX9_begin_40 rfl rfl) ?_
  refine Eq.trans (g_sV (as := [.ref 10, .int (-1)]) (rest := []) dX9_begin_41 rfl cl88 m276 rfl rfl rfl rfl (Nat.le_of_ble_eq_true rfl) rfl rfl rfl) ?_
  refine am_bV_c (fun t6 => ?_)
  refine Eq.trans (g_A dX9_begin_44 rfl rfl) ?_
  refine Eq.trans (g_getR dX9_begin_45 f4 sh0 rfl rfl) ?_
  refine Eq.trans (g_K (v := (-1)) dX9_begin_48 rfl rfl) ?_
  refine Eq.trans (g_sV (as := [.ref 11, .int (-1)]) (rest := []) dX9_begin_49 rfl cl88 m276 rfl rfl rfl rfl (Nat.le_of_ble_eq_true rfl) rfl rfl rfl) ?_
  refine am_bV_c (fun t7 => ?_)
  refine Eq.trans (g_A dX9_begin_52 rfl rfl) ?_
  refine Eq.trans (g_getR dX9_begin_53 f10 sh0 rfl rfl) ?_
  refine Eq.trans (g_K (v := (-1)) dX9_begin_56 rfl rfl) ?_
  refine Eq.trans (g_sV (as := [.ref 12, .int (-1)]) (rest := []) dX9_begin_57 rfl cl88 m276 rfl rfl rfl rfl (Nat.le_of_ble_eq_true rfl) rfl rfl rfl) ?_
  refine am_bV_c (fun t8 => ?_)
  refine Eq.trans (g_A dX9_begin_60 rfl rfl) ?_
  refine Eq.trans (g_K (v := nI 0) dX9_begin_61 rfl rfl) ?_
  refine Eq.trans (g_put dX9_begin_62 f7 sh0 rfl rfl rfl) ?_
  exact g_vret dX9_begin_65 rfl
theorem q144_0 (C : am_C) (σ : am_M) (v0 v1 : Int32) : am_go am_X0 C M144 0 [.int v0, .int v1] [] σ = if v0 < (nI 0) then (am_go am_X0 C M144 9 [.int v0, .int v1] [] σ) else (if v0 < v1 then (some (.inl none, σ)) else (am_go am_X0 C M144 9 [.int v0, .int v1] [] σ)) := by
  refine Eq.trans (g_A dX9_requireIndex_0 rfl rfl) ?_
  refine Eq.trans (g_iflt (t := 9) dX9_requireIndex_1 rfl rfl) ?_
  refine am_ite ?_ ?_
  · rfl
  · refine Eq.trans (g_A dX9_requireIndex_4 rfl rfl) ?_
    refine Eq.trans (g_A dX9_requireIndex_5 rfl rfl) ?_
    refine Eq.trans (g_iclt (t := 20) dX9_requireIndex_6 rfl rfl) ?_
    refine am_ite ?_ ?_
    · exact g_vret dX9_requireIndex_20 rfl
    · rfl
theorem q144_9 (C : am_C) (σ : am_M) (v0 v1 : Int32) : am_go am_X0 C M144 9 [.int v0, .int v1] [] σ = some (.inr "java/lang/IndexOutOfBoundsException", am_tick σ) := by
  exact g_thr dX9_requireIndex_9 dX9_requireIndex_12 (Or.inr ⟨dX9_requireIndex_13, rfl⟩) dX9_requireIndex_16 dX9_requireIndex_19 rfl xt15 (Nat.le_of_ble_eq_true rfl)
theorem q145_0 (C : am_C) (σ : am_M) (v0 v1 : Int32) : am_go am_X0 C M145 0 [.int v0, .int v1] [] σ = if v0 < (nI 0) then (am_go am_X0 C M145 9 [.int v0, .int v1] [] σ) else (if v0 ≤ v1 then (some (.inl none, σ)) else (am_go am_X0 C M145 9 [.int v0, .int v1] [] σ)) := by
  refine Eq.trans (g_A dX9_requireWhat_0 rfl rfl) ?_
  refine Eq.trans (g_iflt (t := 9) dX9_requireWhat_1 rfl rfl) ?_
  refine am_ite ?_ ?_
  · rfl
  · refine Eq.trans (g_A dX9_requireWhat_4 rfl rfl) ?_
    refine Eq.trans (g_A dX9_requireWhat_5 rfl rfl) ?_
    refine Eq.trans (g_icle (t := 20) dX9_requireWhat_6 rfl rfl) ?_
    refine am_ite ?_ ?_
    · exact g_vret dX9_requireWhat_20 rfl
    · rfl
theorem q145_9 (C : am_C) (σ : am_M) (v0 v1 : Int32) : am_go am_X0 C M145 9 [.int v0, .int v1] [] σ = some (.inr "java/lang/IllegalArgumentException", am_tick σ) := by
  exact g_thr dX9_requireWhat_9 dX9_requireWhat_12 (Or.inr ⟨dX9_requireWhat_13, rfl⟩) dX9_requireWhat_16 dX9_requireWhat_19 rfl xt16 (Nat.le_of_ble_eq_true rfl)
theorem q146_0 (C : am_C) (σ : am_M) (v1 : Int32) : am_go am_X0 C M146 0 [.ref 0, .int v1] [] σ = am_bI (C 38 [.ref 4, .int (-1)] σ) (fun r1 t1 => am_bV (C 147 [.ref 0, .int r1, .int v1] t1) (fun t2 => am_bI (C 25 [.ref 1] t2) (fun r3 t3 => if r3 = nI 0 then (some (.inr "java/lang/IllegalStateException", am_tick t3)) else (some (.inl none, t3))))) := by
  refine Eq.trans (g_A dX9_requireRoom_0 rfl rfl) ?_
  refine Eq.trans (g_A dX9_requireRoom_1 rfl rfl) ?_
  refine Eq.trans (g_getR dX9_requireRoom_2 f5 sh0 rfl rfl) ?_
  refine Eq.trans (g_K (v := (-1)) dX9_requireRoom_5 rfl rfl) ?_
  refine Eq.trans (g_vI (a := 4) (as := [.int (-1)]) (rest := [.ref 0]) dX9_requireRoom_6 cl68 m38 rfl rfl rfl rfl (Nat.le_of_ble_eq_true rfl) rfl rfl rfl rfl) ?_
  refine am_bI_c (fun r1 t1 => ?_)
  refine Eq.trans (g_A dX9_requireRoom_9 rfl rfl) ?_
  refine Eq.trans (g_vV (a := 0) (as := [.int r1, .int v1]) (rest := []) dX9_requireRoom_10 cl69 m147 rfl rfl rfl rfl (Nat.le_of_ble_eq_true rfl) rfl rfl rfl rfl) ?_
  refine am_bV_c (fun t2 => ?_)
  refine Eq.trans (g_A dX9_requireRoom_13 rfl rfl) ?_
  refine Eq.trans (g_getR dX9_requireRoom_14 f9 sh0 rfl rfl) ?_
  refine Eq.trans (g_vI (a := 1) (as := []) (rest := []) dX9_requireRoom_17 cl89 m25 rfl rfl rfl rfl (Nat.le_of_ble_eq_true rfl) rfl rfl rfl rfl) ?_
  refine am_bI_c (fun r3 t3 => ?_)
  refine Eq.trans (g_ifne (t := 34) dX9_requireRoom_20 rfl rfl) ?_
  refine am_ite ?_ ?_
  · exact g_thr dX9_requireRoom_23 dX9_requireRoom_26 (Or.inr ⟨dX9_requireRoom_27, rfl⟩) dX9_requireRoom_30 dX9_requireRoom_33 rfl xt17 (Nat.le_of_ble_eq_true rfl)
  · exact g_vret dX9_requireRoom_34 rfl
theorem q147_0 (C : am_C) (σ : am_M) (v1 v2 : Int32) : am_go am_X0 C M147 0 [.ref 0, .int v1, .int v2] [] σ = am_bI (C 37 [.ref 4, .int v1] σ) (fun r1 t1 => if v2 ≤ r1 then (some (.inl none, t1)) else (some (.inr "java/lang/IllegalStateException", am_tick t1))) := by
  refine Eq.trans (g_A dX9_requireRoomOn_0 rfl rfl) ?_
  refine Eq.trans (g_A dX9_requireRoomOn_1 rfl rfl) ?_
  refine Eq.trans (g_getR dX9_requireRoomOn_2 f5 sh0 rfl rfl) ?_
  refine Eq.trans (g_A dX9_requireRoomOn_5 rfl rfl) ?_
  refine Eq.trans (g_vI (a := 4) (as := [.int v1]) (rest := [.int v2]) dX9_requireRoomOn_6 cl90 m37 rfl rfl rfl rfl (Nat.le_of_ble_eq_true rfl) rfl rfl rfl rfl) ?_
  refine am_bI_c (fun r1 t1 => ?_)
  refine Eq.trans (g_icle (t := 23) dX9_requireRoomOn_9 rfl rfl) ?_
  refine am_ite ?_ ?_
  · exact g_vret dX9_requireRoomOn_23 rfl
  · exact g_thr dX9_requireRoomOn_12 dX9_requireRoomOn_15 (Or.inr ⟨dX9_requireRoomOn_16, rfl⟩) dX9_requireRoomOn_19 dX9_requireRoomOn_22 rfl xt18 (Nat.le_of_ble_eq_true rfl)
theorem q148_0 (C : am_C) (σ : am_M) (v1 : Int32) : am_go am_X0 C M148 0 [.ref 0, .int v1] [] σ = am_bI (C 49 [.ref 9, .int v1] σ) (fun r1 t1 => if r1 = nI 0 then (some (.inr "java/lang/IllegalStateException", am_tick t1)) else (some (.inl none, t1))) := by
  refine Eq.trans (g_A dX9_requireProof_0 rfl rfl) ?_
  refine Eq.trans (g_getR dX9_requireProof_1 f12 sh0 rfl rfl) ?_
  refine Eq.trans (g_A dX9_requireProof_4 rfl rfl) ?_
  refine Eq.trans (g_vI (a := 9) (as := [.int v1]) (rest := []) dX9_requireProof_5 cl91 m49 rfl rfl rfl rfl (Nat.le_of_ble_eq_true rfl) rfl rfl rfl rfl) ?_
  refine am_bI_c (fun r1 t1 => ?_)
  refine Eq.trans (g_ifne (t := 22) dX9_requireProof_8 rfl rfl) ?_
  refine am_ite ?_ ?_
  · exact g_thr dX9_requireProof_11 dX9_requireProof_14 (Or.inr ⟨dX9_requireProof_15, rfl⟩) dX9_requireProof_18 dX9_requireProof_21 rfl xt19 (Nat.le_of_ble_eq_true rfl)
  · exact g_vret dX9_requireProof_22 rfl
theorem q149_0 (C : am_C) (σ : am_M) (v1 v2 : Int32) : am_go am_X0 C M149 0 [.ref 0, .int v1, .int v2, .null] [] σ = am_bV (C 68 [.ref 5, .int v2] σ) (fun t1 => am_bI (C 67 [.ref 5, .int v1] t1) (fun r2 t2 => if r2 = nI 0 then (some (.inr "java/util/NoSuchElementException", am_tick t2)) else (some (.inl (some (.int r2)), t2)))) := by
  refine Eq.trans (g_A dX9_requireOpening_0 rfl rfl) ?_
  refine Eq.trans (g_getR dX9_requireOpening_1 f3 sh0 rfl rfl) ?_
  refine Eq.trans (g_A dX9_requireOpening_4 rfl rfl) ?_
  refine Eq.trans (g_vV (a := 5) (as := [.int v2]) (rest := []) dX9_requireOpening_5 cl20 m68 rfl rfl rfl rfl (Nat.le_of_ble_eq_true rfl) rfl rfl rfl rfl) ?_
  refine am_bV_c (fun t1 => ?_)
  refine Eq.trans (g_A dX9_requireOpening_8 rfl rfl) ?_
  refine Eq.trans (g_getR dX9_requireOpening_9 f3 sh0 rfl rfl) ?_
  refine Eq.trans (g_A dX9_requireOpening_12 rfl rfl) ?_
  refine Eq.trans (g_vI (a := 5) (as := [.int v1]) (rest := []) dX9_requireOpening_13 cl21 m67 rfl rfl rfl rfl (Nat.le_of_ble_eq_true rfl) rfl rfl rfl rfl) ?_
  refine am_bI_c (fun r2 t2 => ?_)
  refine Eq.trans (g_isn (k := 3) dX9_requireOpening_16 rfl (Nat.le_of_ble_eq_true rfl) rfl rfl rfl) ?_
  refine Eq.trans (g_A dX9_requireOpening_17 rfl rfl) ?_
  refine Eq.trans (g_ifne (t := 32) dX9_requireOpening_18 rfl rfl) ?_
  refine am_ite ?_ ?_
  · exact g_thr dX9_requireOpening_21 dX9_requireOpening_24 (Or.inr ⟨dX9_requireOpening_25, rfl⟩) dX9_requireOpening_28 dX9_requireOpening_31 rfl xt20 (Nat.le_of_ble_eq_true rfl)
  · refine Eq.trans (g_A dX9_requireOpening_32 rfl rfl) ?_
    exact g_iret dX9_requireOpening_33 rfl
theorem q150_0 (C : am_C) (σ : am_M) (v1 v2 v3 : Int32) : am_go am_X0 C M150 0 [.ref 0, .int v1, .int v2, .int v3] [] σ = am_bI (C 38 [.ref 4, .int (-1)] σ) (fun r1 t1 => am_bV (C 40 [.ref 4, .int r1, .int v1, .int v2, .int v3] t1) (fun t2 => some (.inl none, t2))) := by
  refine Eq.trans (g_A dX9_write_0 rfl rfl) ?_
  refine Eq.trans (g_getR dX9_write_1 f5 sh0 rfl rfl) ?_
  refine Eq.trans (g_A dX9_write_4 rfl rfl) ?_
  refine Eq.trans (g_getR dX9_write_5 f5 sh0 rfl rfl) ?_
  refine Eq.trans (g_K (v := (-1)) dX9_write_8 rfl rfl) ?_
  refine Eq.trans (g_vI (a := 4) (as := [.int (-1)]) (rest := [.ref 4]) dX9_write_9 cl68 m38 rfl rfl rfl rfl (Nat.le_of_ble_eq_true rfl) rfl rfl rfl rfl) ?_
  refine am_bI_c (fun r1 t1 => ?_)
  refine Eq.trans (g_A dX9_write_12 rfl rfl) ?_
  refine Eq.trans (g_A dX9_write_13 rfl rfl) ?_
  refine Eq.trans (g_A dX9_write_14 rfl rfl) ?_
  refine Eq.trans (g_vV (a := 4) (as := [.int r1, .int v1, .int v2, .int v3]) (rest := []) dX9_write_15 cl92 m40 rfl rfl rfl rfl (Nat.le_of_ble_eq_true rfl) rfl rfl rfl rfl) ?_
  refine am_bV_c (fun t2 => ?_)
  exact g_vret dX9_write_18 rfl
theorem q151_0 (C : am_C) (σ : am_M) (v1 : Int32) : am_go am_X0 C M151 0 [.ref 0, .int v1] [] σ = am_bI (C 77 [.ref 3, .int v1] σ) (fun r1 t1 => am_bI (C 166 [.int v1] t1) (fun r2 t2 => am_bI (C 77 [.ref 3, .int r2] t2) (fun r3 t3 => am_bV (C 150 [.ref 0, .int (nI 0), .int r1, .int r3] t3) (fun t4 => some (.inl none, t4))))) := by
  refine Eq.trans (g_A dX9_wrap_0 rfl rfl) ?_
  refine Eq.trans (g_K (v := nI 0) dX9_wrap_1 rfl rfl) ?_
  refine Eq.trans (g_A dX9_wrap_2 rfl rfl) ?_
  refine Eq.trans (g_getR dX9_wrap_3 f0 sh0 rfl rfl) ?_
  refine Eq.trans (g_A dX9_wrap_6 rfl rfl) ?_
  refine Eq.trans (g_vI (a := 3) (as := [.int v1]) (rest := [.int (nI 0), .ref 0]) dX9_wrap_7 cl10 m77 rfl rfl rfl rfl (Nat.le_of_ble_eq_true rfl) rfl rfl rfl rfl) ?_
  refine am_bI_c (fun r1 t1 => ?_)
  refine Eq.trans (g_A dX9_wrap_10 rfl rfl) ?_
  refine Eq.trans (g_getR dX9_wrap_11 f0 sh0 rfl rfl) ?_
  refine Eq.trans (g_A dX9_wrap_14 rfl rfl) ?_
  refine Eq.trans (g_sI (as := [.int v1]) (rest := [.ref 3, .int r1, .int (nI 0), .ref 0]) dX9_wrap_15 rfl cl52 m166 rfl rfl rfl rfl (Nat.le_of_ble_eq_true rfl) rfl rfl rfl) ?_
  refine am_bI_c (fun r2 t2 => ?_)
  refine Eq.trans (g_vI (a := 3) (as := [.int r2]) (rest := [.int r1, .int (nI 0), .ref 0]) dX9_wrap_18 cl10 m77 rfl rfl rfl rfl (Nat.le_of_ble_eq_true rfl) rfl rfl rfl rfl) ?_
  refine am_bI_c (fun r3 t3 => ?_)
  refine Eq.trans (g_vV (a := 0) (as := [.int (nI 0), .int r1, .int r3]) (rest := []) dX9_wrap_21 cl11 m150 rfl rfl rfl rfl (Nat.le_of_ble_eq_true rfl) rfl rfl rfl rfl) ?_
  refine am_bV_c (fun t4 => ?_)
  exact g_vret dX9_wrap_24 rfl
theorem q152_0 (C : am_C) (σ : am_M) (v1 : Int32) : am_go am_X0 C M152 0 [.ref 0, .int v1, .null, .null] [] σ = am_bI (C 167 [.int v1] σ) (fun r1 t1 => am_go am_X0 C M152 7 [.ref 0, .int v1, .int r1, .int r1] [] t1) := by
  refine Eq.trans (g_A dX9_wrapChildren_0 rfl rfl) ?_
  refine Eq.trans (g_sI (as := [.int v1]) (rest := []) dX9_wrapChildren_1 rfl cl93 m167 rfl rfl rfl rfl (Nat.le_of_ble_eq_true rfl) rfl rfl rfl) ?_
  refine am_bI_c (fun r1 t1 => ?_)
  refine Eq.trans (g_isn (k := 2) dX9_wrapChildren_4 rfl (Nat.le_of_ble_eq_true rfl) rfl rfl rfl) ?_
  refine Eq.trans (g_A dX9_wrapChildren_5 rfl rfl) ?_
  refine Eq.trans (g_isn (k := 3) dX9_wrapChildren_6 rfl (Nat.le_of_ble_eq_true rfl) rfl rfl rfl) ?_
  rfl
theorem q152_7 (C : am_C) (σ : am_M) (v1 v2 v3 : Int32) : am_go am_X0 C M152 7 [.ref 0, .int v1, .int v2, .int v3] [] σ = if (v2 + (nI 4)) ≤ v3 then (some (.inl none, σ)) else (am_bI (C 78 [.ref 3, .int v3] σ) (fun r1 t1 => if r1 = nI 0 then (am_go am_X0 C M152 7 [.ref 0, .int v1, .int v2, .int (v3 + nI 1)] [] t1) else (am_bV (C 151 [.ref 0, .int v3] t1) (fun t2 => am_go am_X0 C M152 7 [.ref 0, .int v1, .int v2, .int (v3 + nI 1)] [] t2)))) := by
  refine Eq.trans (g_A dX9_wrapChildren_7 rfl rfl) ?_
  refine Eq.trans (g_A dX9_wrapChildren_8 rfl rfl) ?_
  refine Eq.trans (g_K (v := nI 4) dX9_wrapChildren_9 rfl rfl) ?_
  refine Eq.trans (g_iadd dX9_wrapChildren_10 rfl) ?_
  refine Eq.trans (g_icge (t := 36) dX9_wrapChildren_11 rfl rfl) ?_
  refine am_ite ?_ ?_
  · exact g_vret dX9_wrapChildren_36 rfl
  · refine Eq.trans (g_A dX9_wrapChildren_14 rfl rfl) ?_
    refine Eq.trans (g_getR dX9_wrapChildren_15 f0 sh0 rfl rfl) ?_
    refine Eq.trans (g_A dX9_wrapChildren_18 rfl rfl) ?_
    refine Eq.trans (g_vI (a := 3) (as := [.int v3]) (rest := []) dX9_wrapChildren_19 cl45 m78 rfl rfl rfl rfl (Nat.le_of_ble_eq_true rfl) rfl rfl rfl rfl) ?_
    refine am_bI_c (fun r1 t1 => ?_)
    refine Eq.trans (g_ifeq (t := 30) dX9_wrapChildren_22 rfl rfl) ?_
    refine am_ite ?_ ?_
    · refine Eq.trans (g_inc (v := v3 + nI 1) dX9_wrapChildren_30 rfl (Nat.le_of_ble_eq_true rfl) rfl rfl rfl rfl) ?_
      refine Eq.trans (g_goto (pc' := 7) dX9_wrapChildren_33 rfl) ?_
      rfl
    · refine Eq.trans (g_A dX9_wrapChildren_25 rfl rfl) ?_
      refine Eq.trans (g_A dX9_wrapChildren_26 rfl rfl) ?_
      refine Eq.trans (g_vV (a := 0) (as := [.int v3]) (rest := []) dX9_wrapChildren_27 cl49 m151 rfl rfl rfl rfl (Nat.le_of_ble_eq_true rfl) rfl rfl rfl rfl) ?_
      refine am_bV_c (fun t2 => ?_)
      refine Eq.trans (g_inc (v := v3 + nI 1) dX9_wrapChildren_30 rfl (Nat.le_of_ble_eq_true rfl) rfl rfl rfl rfl) ?_
      refine Eq.trans (g_goto (pc' := 7) dX9_wrapChildren_33 rfl) ?_
      rfl
theorem q153_0 (C : am_C) (σ : am_M) (v1 : Int32) : am_go am_X0 C M153 0 [.ref 0, .int v1, .null, .null] [] σ = am_go am_X0 C M153 2 [.ref 0, .int v1, .int (nI 1), .null] [] σ := by
  refine Eq.trans (g_K (v := nI 1) dX9_addNodesOnWayTo_0 rfl rfl) ?_
  refine Eq.trans (g_isn (k := 2) dX9_addNodesOnWayTo_1 rfl (Nat.le_of_ble_eq_true rfl) rfl rfl rfl) ?_
  rfl
theorem q153_2 (C : am_C) (σ : am_M) (v1 v2 : Int32) {u3 : Value} (hu3 : (!(u3.category == 2)) = true) : am_go am_X0 C M153 2 [.ref 0, .int v1, .int v2, u3] [] σ = am_bI (C 165 [.int v1] σ) (fun r1 t1 => if r1 < v2 then (some (.inl none, t1)) else (am_bI (C 168 [.int v1, .int v2] t1) (fun r2 t2 => am_bI (C 78 [.ref 3, .int r2] t2) (fun r3 t3 => if r3 = nI 0 then (am_bV (C 91 [.ref 3, .int r2] t3) (fun t4 => am_bV (C 151 [.ref 0, .int r2] t4) (fun t5 => am_go am_X0 C M153 2 [.ref 0, .int v1, .int (v2 + nI 1), .int r2] [] t5))) else (am_go am_X0 C M153 2 [.ref 0, .int v1, .int (v2 + nI 1), .int r2] [] t3))))) := by
  refine Eq.trans (g_A dX9_addNodesOnWayTo_2 rfl rfl) ?_
  refine Eq.trans (g_A dX9_addNodesOnWayTo_3 rfl rfl) ?_
  refine Eq.trans (g_sI (as := [.int v1]) (rest := [.int v2]) dX9_addNodesOnWayTo_4 rfl cl50 m165 rfl rfl rfl rfl (Nat.le_of_ble_eq_true rfl) rfl rfl rfl) ?_
  refine am_bI_c (fun r1 t1 => ?_)
  refine Eq.trans (g_icgt (t := 46) dX9_addNodesOnWayTo_7 rfl rfl) ?_
  refine am_ite ?_ ?_
  · exact g_vret dX9_addNodesOnWayTo_46 rfl
  · refine Eq.trans (g_A dX9_addNodesOnWayTo_10 rfl rfl) ?_
    refine Eq.trans (g_A dX9_addNodesOnWayTo_11 rfl rfl) ?_
    refine Eq.trans (g_sI (as := [.int v1, .int v2]) (rest := []) dX9_addNodesOnWayTo_12 rfl cl94 m168 rfl rfl rfl rfl (Nat.le_of_ble_eq_true rfl) rfl rfl rfl) ?_
    refine am_bI_c (fun r2 t2 => ?_)
    refine Eq.trans (g_isn (k := 3) dX9_addNodesOnWayTo_15 rfl (Nat.le_of_ble_eq_true rfl) rfl rfl rfl) ?_
    refine Eq.trans (g_A dX9_addNodesOnWayTo_16 rfl rfl) ?_
    refine Eq.trans (g_getR dX9_addNodesOnWayTo_17 f0 sh0 rfl rfl) ?_
    refine Eq.trans (g_A dX9_addNodesOnWayTo_20 rfl rfl) ?_
    refine Eq.trans (g_vI (a := 3) (as := [.int r2]) (rest := []) dX9_addNodesOnWayTo_21 cl45 m78 rfl rfl rfl rfl (Nat.le_of_ble_eq_true rfl) rfl rfl rfl rfl) ?_
    refine am_bI_c (fun r3 t3 => ?_)
    refine Eq.trans (g_ifne (t := 40) dX9_addNodesOnWayTo_24 rfl rfl) ?_
    refine am_ite ?_ ?_
    · refine Eq.trans (g_A dX9_addNodesOnWayTo_27 rfl rfl) ?_
      refine Eq.trans (g_getR dX9_addNodesOnWayTo_28 f0 sh0 rfl rfl) ?_
      refine Eq.trans (g_A dX9_addNodesOnWayTo_31 rfl rfl) ?_
      refine Eq.trans (g_vV (a := 3) (as := [.int r2]) (rest := []) dX9_addNodesOnWayTo_32 cl42 m91 rfl rfl rfl rfl (Nat.le_of_ble_eq_true rfl) rfl rfl rfl rfl) ?_
      refine am_bV_c (fun t4 => ?_)
      refine Eq.trans (g_A dX9_addNodesOnWayTo_35 rfl rfl) ?_
      refine Eq.trans (g_A dX9_addNodesOnWayTo_36 rfl rfl) ?_
      refine Eq.trans (g_vV (a := 0) (as := [.int r2]) (rest := []) dX9_addNodesOnWayTo_37 cl49 m151 rfl rfl rfl rfl (Nat.le_of_ble_eq_true rfl) rfl rfl rfl rfl) ?_
      refine am_bV_c (fun t5 => ?_)
      refine Eq.trans (g_inc (v := v2 + nI 1) dX9_addNodesOnWayTo_40 rfl (Nat.le_of_ble_eq_true rfl) rfl rfl rfl rfl) ?_
      refine Eq.trans (g_goto (pc' := 2) dX9_addNodesOnWayTo_43 rfl) ?_
      rfl
    · refine Eq.trans (g_inc (v := v2 + nI 1) dX9_addNodesOnWayTo_40 rfl (Nat.le_of_ble_eq_true rfl) rfl rfl rfl rfl) ?_
      refine Eq.trans (g_goto (pc' := 2) dX9_addNodesOnWayTo_43 rfl) ?_
      rfl
theorem q154_0 (C : am_C) (σ : am_M) (v1 : Int32) : am_go am_X0 C M154 0 [.ref 0, .int v1, .null, .null, .null] [] σ = am_go am_X0 C M154 4 [.ref 0, .int v1, .int (nI 0), .int (nI 0), .null] [] σ := by
  refine Eq.trans (g_K (v := nI 0) dX9_pinsOn_0 rfl rfl) ?_
  refine Eq.trans (g_isn (k := 2) dX9_pinsOn_1 rfl (Nat.le_of_ble_eq_true rfl) rfl rfl rfl) ?_
  refine Eq.trans (g_K (v := nI 0) dX9_pinsOn_2 rfl rfl) ?_
  refine Eq.trans (g_isn (k := 3) dX9_pinsOn_3 rfl (Nat.le_of_ble_eq_true rfl) rfl rfl rfl) ?_
  rfl
theorem q154_4 (C : am_C) (σ : am_M) (v1 v2 v3 : Int32) {u4 : Value} (hu4 : (!(u4.category == 2)) = true) : am_go am_X0 C M154 4 [.ref 0, .int v1, .int v2, .int v3, u4] [] σ = if (nI 8) ≤ v3 then (some (.inl (some (.int v2)), σ)) else (if am_in v3 8 = true then (if σ.1 10 (v3 : Int32).toNatClampNeg = (-1) then (am_go am_X0 C M154 4 [.ref 0, .int v1, .int v2, .int (v3 + nI 1), .int (σ.1 10 (v3 : Int32).toNatClampNeg)] [] σ) else (am_bI (C 171 [.int v1, .int (σ.1 10 (v3 : Int32).toNatClampNeg)] σ) (fun r1 t1 => if r1 = nI 0 then (am_go am_X0 C M154 4 [.ref 0, .int v1, .int v2, .int (v3 + nI 1), .int (σ.1 10 (v3 : Int32).toNatClampNeg)] [] t1) else (am_go am_X0 C M154 4 [.ref 0, .int v1, .int (v2 ||| ((nI 1) <<< (v3 &&& 31))), .int (v3 + nI 1), .int (σ.1 10 (v3 : Int32).toNatClampNeg)] [] t1)))) else none) := by
  refine Eq.trans (g_A dX9_pinsOn_4 rfl rfl) ?_
  refine Eq.trans (g_K (v := nI 8) dX9_pinsOn_5 rfl rfl) ?_
  refine Eq.trans (g_icge (t := 45) dX9_pinsOn_7 rfl rfl) ?_
  refine am_ite ?_ ?_
  · refine Eq.trans (g_A dX9_pinsOn_45 rfl rfl) ?_
    exact g_iret dX9_pinsOn_46 rfl
  · refine Eq.trans (g_A dX9_pinsOn_10 rfl rfl) ?_
    refine Eq.trans (g_getR dX9_pinsOn_11 f6 sh0 rfl rfl) ?_
    refine Eq.trans (g_A dX9_pinsOn_14 rfl rfl) ?_
    refine Eq.trans (g_iald dX9_pinsOn_15 sh10 rfl) ?_
    refine am_ite ?_ rfl
    refine Eq.trans (g_ist (k := 4) dX9_pinsOn_16 (Nat.le_of_ble_eq_true rfl) rfl rfl rfl) ?_
    refine Eq.trans (g_A dX9_pinsOn_18 rfl rfl) ?_
    refine Eq.trans (g_K (v := (-1)) dX9_pinsOn_20 rfl rfl) ?_
    refine Eq.trans (g_iceq (t := 39) dX9_pinsOn_21 rfl rfl) ?_
    refine am_ite ?_ ?_
    · refine Eq.trans (g_inc (v := v3 + nI 1) dX9_pinsOn_39 rfl (Nat.le_of_ble_eq_true rfl) rfl rfl rfl rfl) ?_
      refine Eq.trans (g_goto (pc' := 4) dX9_pinsOn_42 rfl) ?_
      rfl
    · refine Eq.trans (g_A dX9_pinsOn_24 rfl rfl) ?_
      refine Eq.trans (g_A dX9_pinsOn_25 rfl rfl) ?_
      refine Eq.trans (g_sI (as := [.int v1, .int (σ.1 10 (v3 : Int32).toNatClampNeg)]) (rest := []) dX9_pinsOn_27 rfl cl95 m171 rfl rfl rfl rfl (Nat.le_of_ble_eq_true rfl) rfl rfl rfl) ?_
      refine am_bI_c (fun r1 t1 => ?_)
      refine Eq.trans (g_ifeq (t := 39) dX9_pinsOn_30 rfl rfl) ?_
      refine am_ite ?_ ?_
      · refine Eq.trans (g_inc (v := v3 + nI 1) dX9_pinsOn_39 rfl (Nat.le_of_ble_eq_true rfl) rfl rfl rfl rfl) ?_
        refine Eq.trans (g_goto (pc' := 4) dX9_pinsOn_42 rfl) ?_
        rfl
      · refine Eq.trans (g_A dX9_pinsOn_33 rfl rfl) ?_
        refine Eq.trans (g_K (v := nI 1) dX9_pinsOn_34 rfl rfl) ?_
        refine Eq.trans (g_A dX9_pinsOn_35 rfl rfl) ?_
        refine Eq.trans (g_ishl dX9_pinsOn_36 rfl) ?_
        refine Eq.trans (g_ior dX9_pinsOn_37 rfl) ?_
        refine Eq.trans (g_isn (k := 2) dX9_pinsOn_38 rfl (Nat.le_of_ble_eq_true rfl) rfl rfl rfl) ?_
        refine Eq.trans (g_inc (v := v3 + nI 1) dX9_pinsOn_39 rfl (Nat.le_of_ble_eq_true rfl) rfl rfl rfl rfl) ?_
        refine Eq.trans (g_goto (pc' := 4) dX9_pinsOn_42 rfl) ?_
        rfl
theorem q155_0 (C : am_C) (σ : am_M) (v1 : Int32) : am_go am_X0 C M155 0 [.ref 0, .int v1, .null, .null] [] σ = am_bI (C 170 [.int v1] σ) (fun r1 t1 => am_go am_X0 C M155 7 [.ref 0, .int v1, .int r1, .int r1] [] t1) := by
  refine Eq.trans (g_A dX9_isBoundBelow_0 rfl rfl) ?_
  refine Eq.trans (g_sI (as := [.int v1]) (rest := []) dX9_isBoundBelow_1 rfl cl26 m170 rfl rfl rfl rfl (Nat.le_of_ble_eq_true rfl) rfl rfl rfl) ?_
  refine am_bI_c (fun r1 t1 => ?_)
  refine Eq.trans (g_isn (k := 2) dX9_isBoundBelow_4 rfl (Nat.le_of_ble_eq_true rfl) rfl rfl rfl) ?_
  refine Eq.trans (g_A dX9_isBoundBelow_5 rfl rfl) ?_
  refine Eq.trans (g_isn (k := 3) dX9_isBoundBelow_6 rfl (Nat.le_of_ble_eq_true rfl) rfl rfl rfl) ?_
  rfl
theorem q155_7 (C : am_C) (σ : am_M) (v1 v2 v3 : Int32) : am_go am_X0 C M155 7 [.ref 0, .int v1, .int v2, .int v3] [] σ = am_bI (C 169 [.int v1] σ) (fun r1 t1 => if (v2 + r1) ≤ v3 then (some (.inl (some (.int (nI 0))), t1)) else (am_bI (C 79 [.ref 3, .int v3] t1) (fun r2 t2 => if r2 = (-1) then (am_go am_X0 C M155 7 [.ref 0, .int v1, .int v2, .int (v3 + nI 1)] [] t2) else (am_bI (C 82 [.ref 3, .int v3] t2) (fun r3 t3 => if r3 = nI 0 then (am_bI (C 154 [.ref 0, .int v3] t3) (fun r4 t4 => if r4 = nI 0 then (am_go am_X0 C M155 7 [.ref 0, .int v1, .int v2, .int (v3 + nI 1)] [] t4) else (some (.inl (some (.int (nI 1))), t4)))) else (some (.inl (some (.int (nI 1))), t3))))))) := by
  refine Eq.trans (g_A dX9_isBoundBelow_7 rfl rfl) ?_
  refine Eq.trans (g_A dX9_isBoundBelow_8 rfl rfl) ?_
  refine Eq.trans (g_A dX9_isBoundBelow_9 rfl rfl) ?_
  refine Eq.trans (g_sI (as := [.int v1]) (rest := [.int v2, .int v3]) dX9_isBoundBelow_10 rfl cl27 m169 rfl rfl rfl rfl (Nat.le_of_ble_eq_true rfl) rfl rfl rfl) ?_
  refine am_bI_c (fun r1 t1 => ?_)
  refine Eq.trans (g_iadd dX9_isBoundBelow_13 rfl) ?_
  refine Eq.trans (g_icge (t := 56) dX9_isBoundBelow_14 rfl rfl) ?_
  refine am_ite ?_ ?_
  · refine Eq.trans (g_K (v := nI 0) dX9_isBoundBelow_56 rfl rfl) ?_
    exact g_zl dX9_isBoundBelow_57 rfl (Or.inl rfl)
  · refine Eq.trans (g_A dX9_isBoundBelow_17 rfl rfl) ?_
    refine Eq.trans (g_getR dX9_isBoundBelow_18 f0 sh0 rfl rfl) ?_
    refine Eq.trans (g_A dX9_isBoundBelow_21 rfl rfl) ?_
    refine Eq.trans (g_vI (a := 3) (as := [.int v3]) (rest := []) dX9_isBoundBelow_22 cl2 m79 rfl rfl rfl rfl (Nat.le_of_ble_eq_true rfl) rfl rfl rfl rfl) ?_
    refine am_bI_c (fun r2 t2 => ?_)
    refine Eq.trans (g_K (v := (-1)) dX9_isBoundBelow_25 rfl rfl) ?_
    refine Eq.trans (g_iceq (t := 50) dX9_isBoundBelow_26 rfl rfl) ?_
    refine am_ite ?_ ?_
    · refine Eq.trans (g_inc (v := v3 + nI 1) dX9_isBoundBelow_50 rfl (Nat.le_of_ble_eq_true rfl) rfl rfl rfl rfl) ?_
      refine Eq.trans (g_goto (pc' := 7) dX9_isBoundBelow_53 rfl) ?_
      rfl
    · refine Eq.trans (g_A dX9_isBoundBelow_29 rfl rfl) ?_
      refine Eq.trans (g_getR dX9_isBoundBelow_30 f0 sh0 rfl rfl) ?_
      refine Eq.trans (g_A dX9_isBoundBelow_33 rfl rfl) ?_
      refine Eq.trans (g_vI (a := 3) (as := [.int v3]) (rest := []) dX9_isBoundBelow_34 cl30 m82 rfl rfl rfl rfl (Nat.le_of_ble_eq_true rfl) rfl rfl rfl rfl) ?_
      refine am_bI_c (fun r3 t3 => ?_)
      refine Eq.trans (g_ifne (t := 48) dX9_isBoundBelow_37 rfl rfl) ?_
      refine am_ite ?_ ?_
      · refine Eq.trans (g_A dX9_isBoundBelow_40 rfl rfl) ?_
        refine Eq.trans (g_A dX9_isBoundBelow_41 rfl rfl) ?_
        refine Eq.trans (g_vI (a := 0) (as := [.int v3]) (rest := []) dX9_isBoundBelow_42 cl29 m154 rfl rfl rfl rfl (Nat.le_of_ble_eq_true rfl) rfl rfl rfl rfl) ?_
        refine am_bI_c (fun r4 t4 => ?_)
        refine Eq.trans (g_ifeq (t := 50) dX9_isBoundBelow_45 rfl rfl) ?_
        refine am_ite ?_ ?_
        · refine Eq.trans (g_inc (v := v3 + nI 1) dX9_isBoundBelow_50 rfl (Nat.le_of_ble_eq_true rfl) rfl rfl rfl rfl) ?_
          refine Eq.trans (g_goto (pc' := 7) dX9_isBoundBelow_53 rfl) ?_
          rfl
        · refine Eq.trans (g_K (v := nI 1) dX9_isBoundBelow_48 rfl rfl) ?_
          exact g_zl dX9_isBoundBelow_49 rfl (Or.inr rfl)
      · refine Eq.trans (g_K (v := nI 1) dX9_isBoundBelow_48 rfl rfl) ?_
        exact g_zl dX9_isBoundBelow_49 rfl (Or.inr rfl)
theorem q156_0 (C : am_C) (σ : am_M) : am_go am_X0 C M156 0 [.ref 0, .null] [] σ = am_go am_X0 C M156 2 [.ref 0, .int (nI 0)] [] σ := by
  refine Eq.trans (g_K (v := nI 0) dX9_doesACustodianOpen_0 rfl rfl) ?_
  refine Eq.trans (g_isn (k := 1) dX9_doesACustodianOpen_1 rfl (Nat.le_of_ble_eq_true rfl) rfl rfl rfl) ?_
  rfl
theorem q156_2 (C : am_C) (σ : am_M) (v1 : Int32) : am_go am_X0 C M156 2 [.ref 0, .int v1] [] σ = if (nI 4) ≤ v1 then (some (.inl (some (.int (nI 0))), σ)) else (if am_in v1 4 = true then (am_bI (C 67 [.ref 5, .int (σ.1 11 (v1 : Int32).toNatClampNeg)] σ) (fun r1 t1 => if r1 ≤ (nI 0) then (am_go am_X0 C M156 2 [.ref 0, .int (v1 + nI 1)] [] t1) else (some (.inl (some (.int (nI 1))), t1)))) else none) := by
  refine Eq.trans (g_A dX9_doesACustodianOpen_2 rfl rfl) ?_
  refine Eq.trans (g_K (v := nI 4) dX9_doesACustodianOpen_3 rfl rfl) ?_
  refine Eq.trans (g_icge (t := 31) dX9_doesACustodianOpen_4 rfl rfl) ?_
  refine am_ite ?_ ?_
  · refine Eq.trans (g_K (v := nI 0) dX9_doesACustodianOpen_31 rfl rfl) ?_
    exact g_zl dX9_doesACustodianOpen_32 rfl (Or.inl rfl)
  · refine Eq.trans (g_A dX9_doesACustodianOpen_7 rfl rfl) ?_
    refine Eq.trans (g_getR dX9_doesACustodianOpen_8 f3 sh0 rfl rfl) ?_
    refine Eq.trans (g_A dX9_doesACustodianOpen_11 rfl rfl) ?_
    refine Eq.trans (g_getR dX9_doesACustodianOpen_12 f4 sh0 rfl rfl) ?_
    refine Eq.trans (g_A dX9_doesACustodianOpen_15 rfl rfl) ?_
    refine Eq.trans (g_iald dX9_doesACustodianOpen_16 sh11 rfl) ?_
    refine am_ite ?_ rfl
    refine Eq.trans (g_vI (a := 5) (as := [.int (σ.1 11 (v1 : Int32).toNatClampNeg)]) (rest := []) dX9_doesACustodianOpen_17 cl21 m67 rfl rfl rfl rfl (Nat.le_of_ble_eq_true rfl) rfl rfl rfl rfl) ?_
    refine am_bI_c (fun r1 t1 => ?_)
    refine Eq.trans (g_ifle (t := 25) dX9_doesACustodianOpen_20 rfl rfl) ?_
    refine am_ite ?_ ?_
    · refine Eq.trans (g_inc (v := v1 + nI 1) dX9_doesACustodianOpen_25 rfl (Nat.le_of_ble_eq_true rfl) rfl rfl rfl rfl) ?_
      refine Eq.trans (g_goto (pc' := 2) dX9_doesACustodianOpen_28 rfl) ?_
      rfl
    · refine Eq.trans (g_K (v := nI 1) dX9_doesACustodianOpen_23 rfl rfl) ?_
      exact g_zl dX9_doesACustodianOpen_24 rfl (Or.inr rfl)
theorem q157_0 (C : am_C) (σ : am_M) : am_go am_X0 C M157 0 [.ref 0, .null, .null, .null] [] σ = am_go am_X0 C M157 2 [.ref 0, .int (nI 0), .null, .null] [] σ := by
  refine Eq.trans (g_K (v := nI 0) dX9_refreshCustodians_0 rfl rfl) ?_
  refine Eq.trans (g_isn (k := 1) dX9_refreshCustodians_1 rfl (Nat.le_of_ble_eq_true rfl) rfl rfl rfl) ?_
  rfl
theorem q157_2 (C : am_C) (σ : am_M) (v1 : Int32) {u2 : Value} (hu2 : (!(u2.category == 2)) = true) {u3 : Value} (hu3 : (!(u3.category == 2)) = true) : am_go am_X0 C M157 2 [.ref 0, .int v1, u2, u3] [] σ = if (nI 4) ≤ v1 then (some (.inl none, σ)) else (if am_in v1 4 = true then (am_bI (C 67 [.ref 5, .int (σ.1 11 (v1 : Int32).toNatClampNeg)] σ) (fun r1 t1 => if r1 ≤ (nI 0) then (am_go am_X0 C M157 2 [.ref 0, .int (v1 + nI 1), u2, u3] [] t1) else (if am_in v1 4 = true then (am_bI (C 16 [.ref 7, .int (t1.1 12 (v1 : Int32).toNatClampNeg)] t1) (fun r2 t2 => if r2 = nI 0 then (am_go am_X0 C M157 60 [.ref 0, .int v1, .int (t1.1 12 (v1 : Int32).toNatClampNeg), .int r2] [.int (-1), .int v1, .ref 11] t2) else (am_bI (C 77 [.ref 3, .int (t1.1 12 (v1 : Int32).toNatClampNeg)] t2) (fun r3 t3 => am_go am_X0 C M157 60 [.ref 0, .int v1, .int (t1.1 12 (v1 : Int32).toNatClampNeg), .int r2] [.int r3, .int v1, .ref 11] t3)))) else none))) else none) := by
  refine Eq.trans (g_A dX9_refreshCustodians_2 rfl rfl) ?_
  refine Eq.trans (g_K (v := nI 4) dX9_refreshCustodians_3 rfl rfl) ?_
  refine Eq.trans (g_icge (t := 82) dX9_refreshCustodians_4 rfl rfl) ?_
  refine am_ite ?_ ?_
  · exact g_vret dX9_refreshCustodians_82 rfl
  · refine Eq.trans (g_A dX9_refreshCustodians_7 rfl rfl) ?_
    refine Eq.trans (g_getR dX9_refreshCustodians_8 f3 sh0 rfl rfl) ?_
    refine Eq.trans (g_A dX9_refreshCustodians_11 rfl rfl) ?_
    refine Eq.trans (g_getR dX9_refreshCustodians_12 f4 sh0 rfl rfl) ?_
    refine Eq.trans (g_A dX9_refreshCustodians_15 rfl rfl) ?_
    refine Eq.trans (g_iald dX9_refreshCustodians_16 sh11 rfl) ?_
    refine am_ite ?_ rfl
    refine Eq.trans (g_vI (a := 5) (as := [.int (σ.1 11 (v1 : Int32).toNatClampNeg)]) (rest := []) dX9_refreshCustodians_17 cl21 m67 rfl rfl rfl rfl (Nat.le_of_ble_eq_true rfl) rfl rfl rfl rfl) ?_
    refine am_bI_c (fun r1 t1 => ?_)
    refine Eq.trans (g_ifle (t := 76) dX9_refreshCustodians_20 rfl rfl) ?_
    refine am_ite ?_ ?_
    · refine Eq.trans (g_inc (v := v1 + nI 1) dX9_refreshCustodians_76 rfl (Nat.le_of_ble_eq_true rfl) rfl rfl rfl rfl) ?_
      refine Eq.trans (g_goto (pc' := 2) dX9_refreshCustodians_79 rfl) ?_
      rfl
    · refine Eq.trans (g_A dX9_refreshCustodians_23 rfl rfl) ?_
      refine Eq.trans (g_getR dX9_refreshCustodians_24 f10 sh0 rfl rfl) ?_
      refine Eq.trans (g_A dX9_refreshCustodians_27 rfl rfl) ?_
      refine Eq.trans (g_iald dX9_refreshCustodians_28 sh12 rfl) ?_
      refine am_ite ?_ rfl
      refine Eq.trans (g_isn (k := 2) dX9_refreshCustodians_29 rfl (Nat.le_of_ble_eq_true rfl) rfl rfl rfl) ?_
      refine Eq.trans (g_A dX9_refreshCustodians_30 rfl rfl) ?_
      refine Eq.trans (g_getR dX9_refreshCustodians_31 f8 sh0 rfl rfl) ?_
      refine Eq.trans (g_A dX9_refreshCustodians_34 rfl rfl) ?_
      refine Eq.trans (g_vI (a := 7) (as := [.int (t1.1 12 (v1 : Int32).toNatClampNeg)]) (rest := []) dX9_refreshCustodians_35 cl41 m16 rfl rfl rfl rfl (Nat.le_of_ble_eq_true rfl) rfl rfl rfl rfl) ?_
      refine am_bI_c (fun r2 t2 => ?_)
      refine Eq.trans (g_isn (k := 3) dX9_refreshCustodians_38 rfl (Nat.le_of_ble_eq_true rfl) rfl rfl rfl) ?_
      refine Eq.trans (g_A dX9_refreshCustodians_39 rfl rfl) ?_
      refine Eq.trans (g_getR dX9_refreshCustodians_40 f4 sh0 rfl rfl) ?_
      refine Eq.trans (g_A dX9_refreshCustodians_43 rfl rfl) ?_
      refine Eq.trans (g_A dX9_refreshCustodians_44 rfl rfl) ?_
      refine Eq.trans (g_ifeq (t := 59) dX9_refreshCustodians_45 rfl rfl) ?_
      refine am_ite ?_ ?_
      · refine Eq.trans (g_K (v := (-1)) dX9_refreshCustodians_59 rfl rfl) ?_
        rfl
      · refine Eq.trans (g_A dX9_refreshCustodians_48 rfl rfl) ?_
        refine Eq.trans (g_getR dX9_refreshCustodians_49 f0 sh0 rfl rfl) ?_
        refine Eq.trans (g_A dX9_refreshCustodians_52 rfl rfl) ?_
        refine Eq.trans (g_vI (a := 3) (as := [.int (t1.1 12 (v1 : Int32).toNatClampNeg)]) (rest := [.int v1, .ref 11]) dX9_refreshCustodians_53 cl10 m77 rfl rfl rfl rfl (Nat.le_of_ble_eq_true rfl) rfl rfl rfl rfl) ?_
        refine am_bI_c (fun r3 t3 => ?_)
        refine Eq.trans (g_goto (pc' := 60) dX9_refreshCustodians_56 rfl) ?_
        rfl
theorem q157_60 (C : am_C) (σ : am_M) (v1 v2 v3 s0 s1 : Int32) : am_go am_X0 C M157 60 [.ref 0, .int v1, .int v2, .int v3] [.int s0, .int s1, .ref 11] σ = if am_in s1 4 = true then (if v3 = nI 0 then (am_go am_X0 C M157 75 [.ref 0, .int v1, .int v2, .int v3] [.int (-1), .int v1, .ref 12] (am_wI σ 11 (s1 : Int32).toNatClampNeg s0)) else (am_go am_X0 C M157 75 [.ref 0, .int v1, .int v2, .int v3] [.int v2, .int v1, .ref 12] (am_wI σ 11 (s1 : Int32).toNatClampNeg s0))) else none := by
  refine Eq.trans (g_iast dX9_refreshCustodians_60 sh11 rfl) ?_
  refine am_ite ?_ rfl
  refine Eq.trans (g_A dX9_refreshCustodians_61 rfl rfl) ?_
  refine Eq.trans (g_getR dX9_refreshCustodians_62 f10 sh0 rfl rfl) ?_
  refine Eq.trans (g_A dX9_refreshCustodians_65 rfl rfl) ?_
  refine Eq.trans (g_A dX9_refreshCustodians_66 rfl rfl) ?_
  refine Eq.trans (g_ifeq (t := 74) dX9_refreshCustodians_67 rfl rfl) ?_
  refine am_ite ?_ ?_
  · refine Eq.trans (g_K (v := (-1)) dX9_refreshCustodians_74 rfl rfl) ?_
    rfl
  · refine Eq.trans (g_A dX9_refreshCustodians_70 rfl rfl) ?_
    refine Eq.trans (g_goto (pc' := 75) dX9_refreshCustodians_71 rfl) ?_
    rfl
theorem q157_75 (C : am_C) (σ : am_M) (v1 v2 v3 s0 s1 : Int32) : am_go am_X0 C M157 75 [.ref 0, .int v1, .int v2, .int v3] [.int s0, .int s1, .ref 12] σ = if am_in s1 4 = true then (am_go am_X0 C M157 2 [.ref 0, .int (v1 + nI 1), .int v2, .int v3] [] (am_wI σ 12 (s1 : Int32).toNatClampNeg s0)) else none := by
  refine Eq.trans (g_iast dX9_refreshCustodians_75 sh12 rfl) ?_
  refine am_ite ?_ rfl
  refine Eq.trans (g_inc (v := v1 + nI 1) dX9_refreshCustodians_76 rfl (Nat.le_of_ble_eq_true rfl) rfl rfl rfl rfl) ?_
  refine Eq.trans (g_goto (pc' := 2) dX9_refreshCustodians_79 rfl) ?_
  rfl
theorem q158_0 (C : am_C) (σ : am_M) (v1 v2 : Int32) : am_go am_X0 C M158 0 [.ref 0, .int v1, .int v2, .null] [] σ = am_bI (C 32 [.ref 4] σ) (fun r1 t1 => am_bV (C 144 [.int v1, .int r1] t1) (fun t2 => am_bI (C 35 [.ref 4, .int v1] t2) (fun r3 t3 => if r3 = nI 0 then (some (.inr "java/lang/IllegalStateException", am_tick t3)) else (am_bV (C 0 [.ref 6, .int (-1)] t3) (fun t4 => am_bI (C 2 [.ref 6, .int (-1)] t4) (fun r5 t5 => am_bI (C 2 [.ref 6, .int (((nI 1) <<< (v1 &&& 31)) ^^^ (-1))] t5) (fun r6 t6 => am_bV (C 39 [.ref 4, .int v1, .int v2] t6) (fun t7 => some (.inl (some (.int (r5 - r6))), t7))))))))) := by
  refine Eq.trans (g_A dX9_endIntact_0 rfl rfl) ?_
  refine Eq.trans (g_A dX9_endIntact_1 rfl rfl) ?_
  refine Eq.trans (g_getR dX9_endIntact_2 f5 sh0 rfl rfl) ?_
  refine Eq.trans (g_vI (a := 4) (as := []) (rest := [.int v1]) dX9_endIntact_5 cl23 m32 rfl rfl rfl rfl (Nat.le_of_ble_eq_true rfl) rfl rfl rfl rfl) ?_
  refine am_bI_c (fun r1 t1 => ?_)
  refine Eq.trans (g_sV (as := [.int v1, .int r1]) (rest := []) dX9_endIntact_8 rfl cl1 m144 rfl rfl rfl rfl (Nat.le_of_ble_eq_true rfl) rfl rfl rfl) ?_
  refine am_bV_c (fun t2 => ?_)
  refine Eq.trans (g_A dX9_endIntact_11 rfl rfl) ?_
  refine Eq.trans (g_getR dX9_endIntact_12 f5 sh0 rfl rfl) ?_
  refine Eq.trans (g_A dX9_endIntact_15 rfl rfl) ?_
  refine Eq.trans (g_vI (a := 4) (as := [.int v1]) (rest := []) dX9_endIntact_16 cl76 m35 rfl rfl rfl rfl (Nat.le_of_ble_eq_true rfl) rfl rfl rfl rfl) ?_
  refine am_bI_c (fun r3 t3 => ?_)
  refine Eq.trans (g_ifne (t := 33) dX9_endIntact_19 rfl rfl) ?_
  refine am_ite ?_ ?_
  · exact g_thr dX9_endIntact_22 dX9_endIntact_25 (Or.inr ⟨dX9_endIntact_26, rfl⟩) dX9_endIntact_29 dX9_endIntact_32 rfl xt21 (Nat.le_of_ble_eq_true rfl)
  · refine Eq.trans (g_A dX9_endIntact_33 rfl rfl) ?_
    refine Eq.trans (g_getR dX9_endIntact_34 f2 sh0 rfl rfl) ?_
    refine Eq.trans (g_K (v := (-1)) dX9_endIntact_37 rfl rfl) ?_
    refine Eq.trans (g_vV (a := 6) (as := [.int (-1)]) (rest := []) dX9_endIntact_38 cl12 m0 rfl rfl rfl rfl (Nat.le_of_ble_eq_true rfl) rfl rfl rfl rfl) ?_
    refine am_bV_c (fun t4 => ?_)
    refine Eq.trans (g_A dX9_endIntact_41 rfl rfl) ?_
    refine Eq.trans (g_getR dX9_endIntact_42 f2 sh0 rfl rfl) ?_
    refine Eq.trans (g_K (v := (-1)) dX9_endIntact_45 rfl rfl) ?_
    refine Eq.trans (g_vI (a := 6) (as := [.int (-1)]) (rest := []) dX9_endIntact_46 cl19 m2 rfl rfl rfl rfl (Nat.le_of_ble_eq_true rfl) rfl rfl rfl rfl) ?_
    refine am_bI_c (fun r5 t5 => ?_)
    refine Eq.trans (g_A dX9_endIntact_49 rfl rfl) ?_
    refine Eq.trans (g_getR dX9_endIntact_50 f2 sh0 rfl rfl) ?_
    refine Eq.trans (g_K (v := nI 1) dX9_endIntact_53 rfl rfl) ?_
    refine Eq.trans (g_A dX9_endIntact_54 rfl rfl) ?_
    refine Eq.trans (g_ishl dX9_endIntact_55 rfl) ?_
    refine Eq.trans (g_K (v := (-1)) dX9_endIntact_56 rfl rfl) ?_
    refine Eq.trans (g_ixor dX9_endIntact_57 rfl) ?_
    refine Eq.trans (g_vI (a := 6) (as := [.int (((nI 1) <<< (v1 &&& 31)) ^^^ (-1))]) (rest := [.int r5]) dX9_endIntact_58 cl19 m2 rfl rfl rfl rfl (Nat.le_of_ble_eq_true rfl) rfl rfl rfl rfl) ?_
    refine am_bI_c (fun r6 t6 => ?_)
    refine Eq.trans (g_isub dX9_endIntact_61 rfl) ?_
    refine Eq.trans (g_isn (k := 3) dX9_endIntact_62 rfl (Nat.le_of_ble_eq_true rfl) rfl rfl rfl) ?_
    refine Eq.trans (g_A dX9_endIntact_63 rfl rfl) ?_
    refine Eq.trans (g_getR dX9_endIntact_64 f5 sh0 rfl rfl) ?_
    refine Eq.trans (g_A dX9_endIntact_67 rfl rfl) ?_
    refine Eq.trans (g_A dX9_endIntact_68 rfl rfl) ?_
    refine Eq.trans (g_vV (a := 4) (as := [.int v1, .int v2]) (rest := []) dX9_endIntact_69 cl72 m39 rfl rfl rfl rfl (Nat.le_of_ble_eq_true rfl) rfl rfl rfl rfl) ?_
    refine am_bV_c (fun t7 => ?_)
    refine Eq.trans (g_A dX9_endIntact_72 rfl rfl) ?_
    exact g_iret dX9_endIntact_73 rfl
theorem q159_0 (C : am_C) (σ : am_M) (v1 : Int32) : am_go am_X0 C M159 0 [.ref 0, .int v1, .null] [] σ = am_bI (C 44 [.ref 4, .int v1] σ) (fun r1 t1 => am_bI (C 30 [.ref 1, .int r1] t1) (fun r2 t2 => am_bI (C 45 [.ref 4, .int v1] t2) (fun r3 t3 => am_bI (C 30 [.ref 1, .int r3] t3) (fun r4 t4 => am_bI (C 161 [.int (r4 ^^^ r1)] t4) (fun r5 t5 => some (.inl (some (.int (r2 ^^^ r5))), t5)))))) := by
  refine Eq.trans (g_A dX9_wrappedKey_0 rfl rfl) ?_
  refine Eq.trans (g_getR dX9_wrappedKey_1 f5 sh0 rfl rfl) ?_
  refine Eq.trans (g_A dX9_wrappedKey_4 rfl rfl) ?_
  refine Eq.trans (g_vI (a := 4) (as := [.int v1]) (rest := []) dX9_wrappedKey_5 cl63 m44 rfl rfl rfl rfl (Nat.le_of_ble_eq_true rfl) rfl rfl rfl rfl) ?_
  refine am_bI_c (fun r1 t1 => ?_)
  refine Eq.trans (g_isn (k := 2) dX9_wrappedKey_8 rfl (Nat.le_of_ble_eq_true rfl) rfl rfl rfl) ?_
  refine Eq.trans (g_A dX9_wrappedKey_9 rfl rfl) ?_
  refine Eq.trans (g_getR dX9_wrappedKey_10 f9 sh0 rfl rfl) ?_
  refine Eq.trans (g_A dX9_wrappedKey_13 rfl rfl) ?_
  refine Eq.trans (g_vI (a := 1) (as := [.int r1]) (rest := []) dX9_wrappedKey_14 cl47 m30 rfl rfl rfl rfl (Nat.le_of_ble_eq_true rfl) rfl rfl rfl rfl) ?_
  refine am_bI_c (fun r2 t2 => ?_)
  refine Eq.trans (g_A dX9_wrappedKey_17 rfl rfl) ?_
  refine Eq.trans (g_getR dX9_wrappedKey_18 f9 sh0 rfl rfl) ?_
  refine Eq.trans (g_A dX9_wrappedKey_21 rfl rfl) ?_
  refine Eq.trans (g_getR dX9_wrappedKey_22 f5 sh0 rfl rfl) ?_
  refine Eq.trans (g_A dX9_wrappedKey_25 rfl rfl) ?_
  refine Eq.trans (g_vI (a := 4) (as := [.int v1]) (rest := [.ref 1, .int r2]) dX9_wrappedKey_26 cl64 m45 rfl rfl rfl rfl (Nat.le_of_ble_eq_true rfl) rfl rfl rfl rfl) ?_
  refine am_bI_c (fun r3 t3 => ?_)
  refine Eq.trans (g_vI (a := 1) (as := [.int r3]) (rest := [.int r2]) dX9_wrappedKey_29 cl47 m30 rfl rfl rfl rfl (Nat.le_of_ble_eq_true rfl) rfl rfl rfl rfl) ?_
  refine am_bI_c (fun r4 t4 => ?_)
  refine Eq.trans (g_A dX9_wrappedKey_32 rfl rfl) ?_
  refine Eq.trans (g_ixor dX9_wrappedKey_33 rfl) ?_
  refine Eq.trans (g_sI (as := [.int (r4 ^^^ r1)]) (rest := [.int r2]) dX9_wrappedKey_34 rfl cl96 m161 rfl rfl rfl rfl (Nat.le_of_ble_eq_true rfl) rfl rfl rfl) ?_
  refine am_bI_c (fun r5 t5 => ?_)
  refine Eq.trans (g_ixor dX9_wrappedKey_37 rfl) ?_
  exact g_iret dX9_wrappedKey_38 rfl
theorem q160_0 (C : am_C) (σ : am_M) (v1 : Int32) : am_go am_X0 C M160 0 [.ref 0, .int v1, .null, .null, .null, .null, .null] [] σ = am_bI (C 45 [.ref 4, .int v1] σ) (fun r1 t1 => am_bI (C 30 [.ref 1, .int r1] t1) (fun r2 t2 => am_bI (C 161 [.int (r2 + (nI 1))] t2) (fun r3 t3 => am_bI (C 161 [.int (r2 + (nI 2))] t3) (fun r4 t4 => am_bI (C 44 [.ref 4, .int v1] t4) (fun r5 t5 => am_bJ (C 61 [.ref 2, .int r5] t5) (fun r6 t6 => some (.inl (some (.long (r6 ^^^ ((((r3 : Int32).toInt64) <<< ((nI 32 : Int32).toInt64 &&& 63)) ||| (((r4 : Int32).toInt64) &&& (4294967295)))))), t6))))))) := by
  refine Eq.trans (g_A dX9_encryptedRecord_0 rfl rfl) ?_
  refine Eq.trans (g_getR dX9_encryptedRecord_1 f9 sh0 rfl rfl) ?_
  refine Eq.trans (g_A dX9_encryptedRecord_4 rfl rfl) ?_
  refine Eq.trans (g_getR dX9_encryptedRecord_5 f5 sh0 rfl rfl) ?_
  refine Eq.trans (g_A dX9_encryptedRecord_8 rfl rfl) ?_
  refine Eq.trans (g_vI (a := 4) (as := [.int v1]) (rest := [.ref 1]) dX9_encryptedRecord_9 cl64 m45 rfl rfl rfl rfl (Nat.le_of_ble_eq_true rfl) rfl rfl rfl rfl) ?_
  refine am_bI_c (fun r1 t1 => ?_)
  refine Eq.trans (g_vI (a := 1) (as := [.int r1]) (rest := []) dX9_encryptedRecord_12 cl47 m30 rfl rfl rfl rfl (Nat.le_of_ble_eq_true rfl) rfl rfl rfl rfl) ?_
  refine am_bI_c (fun r2 t2 => ?_)
  refine Eq.trans (g_isn (k := 2) dX9_encryptedRecord_15 rfl (Nat.le_of_ble_eq_true rfl) rfl rfl rfl) ?_
  refine Eq.trans (g_A dX9_encryptedRecord_16 rfl rfl) ?_
  refine Eq.trans (g_K (v := nI 1) dX9_encryptedRecord_17 rfl rfl) ?_
  refine Eq.trans (g_iadd dX9_encryptedRecord_18 rfl) ?_
  refine Eq.trans (g_sI (as := [.int (r2 + (nI 1))]) (rest := []) dX9_encryptedRecord_19 rfl cl96 m161 rfl rfl rfl rfl (Nat.le_of_ble_eq_true rfl) rfl rfl rfl) ?_
  refine am_bI_c (fun r3 t3 => ?_)
  refine Eq.trans (g_i2l dX9_encryptedRecord_22 rfl) ?_
  refine Eq.trans (g_K (v := nI 32) dX9_encryptedRecord_23 rfl rfl) ?_
  refine Eq.trans (g_lshl dX9_encryptedRecord_25 rfl) ?_
  refine Eq.trans (g_lsn (k := 3) dX9_encryptedRecord_26 rfl (Nat.le_of_ble_eq_true rfl) rfl rfl rfl) ?_
  refine Eq.trans (g_A dX9_encryptedRecord_27 rfl rfl) ?_
  refine Eq.trans (g_K (v := nI 2) dX9_encryptedRecord_28 rfl rfl) ?_
  refine Eq.trans (g_iadd dX9_encryptedRecord_29 rfl) ?_
  refine Eq.trans (g_sI (as := [.int (r2 + (nI 2))]) (rest := []) dX9_encryptedRecord_30 rfl cl96 m161 rfl rfl rfl rfl (Nat.le_of_ble_eq_true rfl) rfl rfl rfl) ?_
  refine am_bI_c (fun r4 t4 => ?_)
  refine Eq.trans (g_i2l dX9_encryptedRecord_33 rfl) ?_
  refine Eq.trans (g_ld2 dX9_encryptedRecord_34 kj0 rfl) ?_
  refine Eq.trans (g_land dX9_encryptedRecord_37 rfl) ?_
  refine Eq.trans (g_lst (k := 5) dX9_encryptedRecord_38 (Nat.le_of_ble_eq_true rfl) rfl rfl rfl) ?_
  refine Eq.trans (g_A dX9_encryptedRecord_40 rfl rfl) ?_
  refine Eq.trans (g_getR dX9_encryptedRecord_41 f1 sh0 rfl rfl) ?_
  refine Eq.trans (g_A dX9_encryptedRecord_44 rfl rfl) ?_
  refine Eq.trans (g_getR dX9_encryptedRecord_45 f5 sh0 rfl rfl) ?_
  refine Eq.trans (g_A dX9_encryptedRecord_48 rfl rfl) ?_
  refine Eq.trans (g_vI (a := 4) (as := [.int v1]) (rest := [.ref 2]) dX9_encryptedRecord_49 cl63 m44 rfl rfl rfl rfl (Nat.le_of_ble_eq_true rfl) rfl rfl rfl rfl) ?_
  refine am_bI_c (fun r5 t5 => ?_)
  refine Eq.trans (g_vJ (a := 2) (as := [.int r5]) (rest := []) dX9_encryptedRecord_52 cl14 m61 rfl rfl rfl rfl (Nat.le_of_ble_eq_true rfl) rfl rfl rfl rfl) ?_
  refine am_bJ_c (fun r6 t6 => ?_)
  refine Eq.trans (g_A dX9_encryptedRecord_55 rfl rfl) ?_
  refine Eq.trans (g_A dX9_encryptedRecord_56 rfl rfl) ?_
  refine Eq.trans (g_lor dX9_encryptedRecord_58 rfl) ?_
  refine Eq.trans (g_lxor dX9_encryptedRecord_59 rfl) ?_
  exact g_lret dX9_encryptedRecord_60 rfl
theorem q161_0 (C : am_C) (σ : am_M) (v0 : Int32) : am_go am_X0 C M161 0 [.int v0, .null] [] σ = some (.inl (some (.int (((((v0 ^^^ (((v0 : Int32).toUInt32 >>> ((nI 16 : Int32).toUInt32 &&& Int32.toUInt32 31)).toInt32)) * (-2048144789)) ^^^ ((((v0 ^^^ (((v0 : Int32).toUInt32 >>> ((nI 16 : Int32).toUInt32 &&& Int32.toUInt32 31)).toInt32)) * (-2048144789) : Int32).toUInt32 >>> ((nI 13 : Int32).toUInt32 &&& Int32.toUInt32 31)).toInt32)) * (-1028477387)) ^^^ ((((((v0 ^^^ (((v0 : Int32).toUInt32 >>> ((nI 16 : Int32).toUInt32 &&& Int32.toUInt32 31)).toInt32)) * (-2048144789)) ^^^ ((((v0 ^^^ (((v0 : Int32).toUInt32 >>> ((nI 16 : Int32).toUInt32 &&& Int32.toUInt32 31)).toInt32)) * (-2048144789) : Int32).toUInt32 >>> ((nI 13 : Int32).toUInt32 &&& Int32.toUInt32 31)).toInt32)) * (-1028477387) : Int32).toUInt32 >>> ((nI 16 : Int32).toUInt32 &&& Int32.toUInt32 31)).toInt32)))), σ) := by
  refine Eq.trans (g_A dX9_mix_0 rfl rfl) ?_
  refine Eq.trans (g_isn (k := 1) dX9_mix_1 rfl (Nat.le_of_ble_eq_true rfl) rfl rfl rfl) ?_
  refine Eq.trans (g_A dX9_mix_2 rfl rfl) ?_
  refine Eq.trans (g_A dX9_mix_3 rfl rfl) ?_
  refine Eq.trans (g_K (v := nI 16) dX9_mix_4 rfl rfl) ?_
  refine Eq.trans (g_iushr dX9_mix_6 rfl) ?_
  refine Eq.trans (g_ixor dX9_mix_7 rfl) ?_
  refine Eq.trans (g_isn (k := 1) dX9_mix_8 rfl (Nat.le_of_ble_eq_true rfl) rfl rfl rfl) ?_
  refine Eq.trans (g_A dX9_mix_9 rfl rfl) ?_
  refine Eq.trans (g_ldw dX9_mix_10 ki1 rfl) ?_
  refine Eq.trans (g_imul dX9_mix_13 rfl) ?_
  refine Eq.trans (g_isn (k := 1) dX9_mix_14 rfl (Nat.le_of_ble_eq_true rfl) rfl rfl rfl) ?_
  refine Eq.trans (g_A dX9_mix_15 rfl rfl) ?_
  refine Eq.trans (g_A dX9_mix_16 rfl rfl) ?_
  refine Eq.trans (g_K (v := nI 13) dX9_mix_17 rfl rfl) ?_
  refine Eq.trans (g_iushr dX9_mix_19 rfl) ?_
  refine Eq.trans (g_ixor dX9_mix_20 rfl) ?_
  refine Eq.trans (g_isn (k := 1) dX9_mix_21 rfl (Nat.le_of_ble_eq_true rfl) rfl rfl rfl) ?_
  refine Eq.trans (g_A dX9_mix_22 rfl rfl) ?_
  refine Eq.trans (g_ldw dX9_mix_23 ki2 rfl) ?_
  refine Eq.trans (g_imul dX9_mix_26 rfl) ?_
  refine Eq.trans (g_isn (k := 1) dX9_mix_27 rfl (Nat.le_of_ble_eq_true rfl) rfl rfl rfl) ?_
  refine Eq.trans (g_A dX9_mix_28 rfl rfl) ?_
  refine Eq.trans (g_A dX9_mix_29 rfl rfl) ?_
  refine Eq.trans (g_K (v := nI 16) dX9_mix_30 rfl rfl) ?_
  refine Eq.trans (g_iushr dX9_mix_32 rfl) ?_
  refine Eq.trans (g_ixor dX9_mix_33 rfl) ?_
  exact g_iret dX9_mix_34 rfl
theorem q162_0 (C : am_C) (σ : am_M) (v0 : Int32) : am_go am_X0 C M162 0 [.int v0] [] σ = if v0 < (nI 0) then (some (.inl (some (.int (nI 0))), σ)) else (if (nI 85) ≤ v0 then (some (.inl (some (.int (nI 0))), σ)) else (some (.inl (some (.int (nI 1))), σ))) := by
  refine Eq.trans (g_A dX9_isPlace_0 rfl rfl) ?_
  refine Eq.trans (g_iflt (t := 14) dX9_isPlace_1 rfl rfl) ?_
  refine am_ite ?_ ?_
  · refine Eq.trans (g_K (v := nI 0) dX9_isPlace_14 rfl rfl) ?_
    exact g_zl dX9_isPlace_15 rfl (Or.inl rfl)
  · refine Eq.trans (g_A dX9_isPlace_4 rfl rfl) ?_
    refine Eq.trans (g_K (v := nI 85) dX9_isPlace_5 rfl rfl) ?_
    refine Eq.trans (g_icge (t := 14) dX9_isPlace_7 rfl rfl) ?_
    refine am_ite ?_ ?_
    · refine Eq.trans (g_K (v := nI 0) dX9_isPlace_14 rfl rfl) ?_
      exact g_zl dX9_isPlace_15 rfl (Or.inl rfl)
    · refine Eq.trans (g_K (v := nI 1) dX9_isPlace_10 rfl rfl) ?_
      refine Eq.trans (g_goto (pc' := 15) dX9_isPlace_11 rfl) ?_
      exact g_zl dX9_isPlace_15 rfl (Or.inr rfl)
theorem q163_0 (C : am_C) (σ : am_M) (v0 : Int32) : am_go am_X0 C M163 0 [.int v0] [] σ = if v0 < (nI 0) then (some (.inl (some (.int (nI 0))), σ)) else (if (nI 64) ≤ v0 then (some (.inl (some (.int (nI 0))), σ)) else (some (.inl (some (.int (nI 1))), σ))) := by
  refine Eq.trans (g_A dX9_isLeaf_0 rfl rfl) ?_
  refine Eq.trans (g_iflt (t := 14) dX9_isLeaf_1 rfl rfl) ?_
  refine am_ite ?_ ?_
  · refine Eq.trans (g_K (v := nI 0) dX9_isLeaf_14 rfl rfl) ?_
    exact g_zl dX9_isLeaf_15 rfl (Or.inl rfl)
  · refine Eq.trans (g_A dX9_isLeaf_4 rfl rfl) ?_
    refine Eq.trans (g_K (v := nI 64) dX9_isLeaf_5 rfl rfl) ?_
    refine Eq.trans (g_icge (t := 14) dX9_isLeaf_7 rfl rfl) ?_
    refine am_ite ?_ ?_
    · refine Eq.trans (g_K (v := nI 0) dX9_isLeaf_14 rfl rfl) ?_
      exact g_zl dX9_isLeaf_15 rfl (Or.inl rfl)
    · refine Eq.trans (g_K (v := nI 1) dX9_isLeaf_10 rfl rfl) ?_
      refine Eq.trans (g_goto (pc' := 15) dX9_isLeaf_11 rfl) ?_
      exact g_zl dX9_isLeaf_15 rfl (Or.inr rfl)
theorem q164_0 (C : am_C) (σ : am_M) (v0 : Int32) : am_go am_X0 C M164 0 [.int v0] [] σ = some (.inl (some (.int ((nI 21) + v0))), σ) := by
  refine Eq.trans (g_K (v := nI 21) dX9_placeOfLeaf_0 rfl rfl) ?_
  refine Eq.trans (g_A dX9_placeOfLeaf_2 rfl rfl) ?_
  refine Eq.trans (g_iadd dX9_placeOfLeaf_3 rfl) ?_
  exact g_iret dX9_placeOfLeaf_4 rfl
theorem q165_0 (C : am_C) (σ : am_M) (v0 : Int32) : am_go am_X0 C M165 0 [.int v0, .null] [] σ = am_go am_X0 C M165 2 [.int v0, .int (nI 0)] [] σ := by
  refine Eq.trans (g_K (v := nI 0) dX9_levelOf_0 rfl rfl) ?_
  refine Eq.trans (g_isn (k := 1) dX9_levelOf_1 rfl (Nat.le_of_ble_eq_true rfl) rfl rfl rfl) ?_
  rfl
theorem q165_2 (C : am_C) (σ : am_M) (v0 v1 : Int32) : am_go am_X0 C M165 2 [.int v0, .int v1] [] σ = if (nI 3) ≤ v1 then (some (.inl (some (.int v1)), σ)) else (if am_in (v1 + (nI 1)) 5 = true then (if v0 < (am_lst.getD (v1 + (nI 1) : Int32).toNatClampNeg 0) then (some (.inl (some (.int v1)), σ)) else (am_go am_X0 C M165 2 [.int v0, .int (v1 + nI 1)] [] σ)) else none) := by
  refine Eq.trans (g_A dX9_levelOf_2 rfl rfl) ?_
  refine Eq.trans (g_K (v := nI 3) dX9_levelOf_3 rfl rfl) ?_
  refine Eq.trans (g_icge (t := 24) dX9_levelOf_4 rfl rfl) ?_
  refine am_ite ?_ ?_
  · refine Eq.trans (g_A dX9_levelOf_24 rfl rfl) ?_
    exact g_iret dX9_levelOf_25 rfl
  · refine Eq.trans (g_A dX9_levelOf_7 rfl rfl) ?_
    refine Eq.trans (g_ls dX9_levelOf_8 rfl rfl) ?_
    refine Eq.trans (g_A dX9_levelOf_11 rfl rfl) ?_
    refine Eq.trans (g_K (v := nI 1) dX9_levelOf_12 rfl rfl) ?_
    refine Eq.trans (g_iadd dX9_levelOf_13 rfl) ?_
    refine Eq.trans (g_lsld dX9_levelOf_14 rfl) ?_
    refine am_ite ?_ rfl
    refine Eq.trans (g_iclt (t := 24) dX9_levelOf_15 rfl rfl) ?_
    refine am_ite ?_ ?_
    · refine Eq.trans (g_A dX9_levelOf_24 rfl rfl) ?_
      exact g_iret dX9_levelOf_25 rfl
    · refine Eq.trans (g_inc (v := v1 + nI 1) dX9_levelOf_18 rfl (Nat.le_of_ble_eq_true rfl) rfl rfl rfl rfl) ?_
      refine Eq.trans (g_goto (pc' := 2) dX9_levelOf_21 rfl) ?_
      rfl
theorem q166_0 (C : am_C) (σ : am_M) (v0 : Int32) : am_go am_X0 C M166 0 [.int v0] [] σ = if v0 ≤ (nI 0) then (some (.inl (some (.int (-1))), σ)) else (some (.inl (some (.int ((v0 - (nI 1)) / (nI 4)))), σ)) := by
  refine Eq.trans (g_A dX9_parentOf_0 rfl rfl) ?_
  refine Eq.trans (g_ifle (t := 12) dX9_parentOf_1 rfl rfl) ?_
  refine am_ite ?_ ?_
  · refine Eq.trans (g_K (v := (-1)) dX9_parentOf_12 rfl rfl) ?_
    exact g_iret dX9_parentOf_13 rfl
  · refine Eq.trans (g_A dX9_parentOf_4 rfl rfl) ?_
    refine Eq.trans (g_K (v := nI 1) dX9_parentOf_5 rfl rfl) ?_
    refine Eq.trans (g_isub dX9_parentOf_6 rfl) ?_
    refine Eq.trans (g_K (v := nI 4) dX9_parentOf_7 rfl rfl) ?_
    refine Eq.trans (g_idiv dX9_parentOf_8 (by decide) rfl) ?_
    refine Eq.trans (g_goto (pc' := 13) dX9_parentOf_9 rfl) ?_
    exact g_iret dX9_parentOf_13 rfl
theorem q167_0 (C : am_C) (σ : am_M) (v0 : Int32) : am_go am_X0 C M167 0 [.int v0] [] σ = some (.inl (some (.int (((nI 4) * v0) + (nI 1)))), σ) := by
  refine Eq.trans (g_K (v := nI 4) dX9_firstChildOf_0 rfl rfl) ?_
  refine Eq.trans (g_A dX9_firstChildOf_1 rfl rfl) ?_
  refine Eq.trans (g_imul dX9_firstChildOf_2 rfl) ?_
  refine Eq.trans (g_K (v := nI 1) dX9_firstChildOf_3 rfl rfl) ?_
  refine Eq.trans (g_iadd dX9_firstChildOf_4 rfl) ?_
  exact g_iret dX9_firstChildOf_5 rfl
theorem q168_0 (C : am_C) (σ : am_M) (v0 v1 : Int32) : am_go am_X0 C M168 0 [.int v0, .int v1, .null, .null] [] σ = am_bI (C 165 [.int v0] σ) (fun r1 t1 => am_go am_X0 C M168 7 [.int v0, .int v1, .int v0, .int r1] [] t1) := by
  refine Eq.trans (g_A dX9_ancestorOf_0 rfl rfl) ?_
  refine Eq.trans (g_isn (k := 2) dX9_ancestorOf_1 rfl (Nat.le_of_ble_eq_true rfl) rfl rfl rfl) ?_
  refine Eq.trans (g_A dX9_ancestorOf_2 rfl rfl) ?_
  refine Eq.trans (g_sI (as := [.int v0]) (rest := []) dX9_ancestorOf_3 rfl cl50 m165 rfl rfl rfl rfl (Nat.le_of_ble_eq_true rfl) rfl rfl rfl) ?_
  refine am_bI_c (fun r1 t1 => ?_)
  refine Eq.trans (g_isn (k := 3) dX9_ancestorOf_6 rfl (Nat.le_of_ble_eq_true rfl) rfl rfl rfl) ?_
  rfl
theorem q168_7 (C : am_C) (σ : am_M) (v0 v1 v2 v3 : Int32) : am_go am_X0 C M168 7 [.int v0, .int v1, .int v2, .int v3] [] σ = if v3 ≤ v1 then (some (.inl (some (.int v2)), σ)) else (am_bI (C 166 [.int v2] σ) (fun r1 t1 => am_go am_X0 C M168 7 [.int v0, .int v1, .int r1, .int (v3 + (-1))] [] t1)) := by
  refine Eq.trans (g_A dX9_ancestorOf_7 rfl rfl) ?_
  refine Eq.trans (g_A dX9_ancestorOf_8 rfl rfl) ?_
  refine Eq.trans (g_icle (t := 23) dX9_ancestorOf_9 rfl rfl) ?_
  refine am_ite ?_ ?_
  · refine Eq.trans (g_A dX9_ancestorOf_23 rfl rfl) ?_
    exact g_iret dX9_ancestorOf_24 rfl
  · refine Eq.trans (g_A dX9_ancestorOf_12 rfl rfl) ?_
    refine Eq.trans (g_sI (as := [.int v2]) (rest := []) dX9_ancestorOf_13 rfl cl52 m166 rfl rfl rfl rfl (Nat.le_of_ble_eq_true rfl) rfl rfl rfl) ?_
    refine am_bI_c (fun r1 t1 => ?_)
    refine Eq.trans (g_isn (k := 2) dX9_ancestorOf_16 rfl (Nat.le_of_ble_eq_true rfl) rfl rfl rfl) ?_
    refine Eq.trans (g_inc (v := v3 + (-1)) dX9_ancestorOf_17 rfl (Nat.le_of_ble_eq_true rfl) rfl rfl rfl rfl) ?_
    refine Eq.trans (g_goto (pc' := 7) dX9_ancestorOf_20 rfl) ?_
    rfl
theorem q169_0 (C : am_C) (σ : am_M) (v0 : Int32) : am_go am_X0 C M169 0 [.int v0] [] σ = am_bI (C 165 [.int v0] σ) (fun r1 t1 => some (.inl (some (.int ((nI 1) <<< (((nI 2) * ((nI 3) - r1)) &&& 31)))), t1)) := by
  refine Eq.trans (g_K (v := nI 1) dX9_leavesBelow_0 rfl rfl) ?_
  refine Eq.trans (g_K (v := nI 2) dX9_leavesBelow_1 rfl rfl) ?_
  refine Eq.trans (g_K (v := nI 3) dX9_leavesBelow_2 rfl rfl) ?_
  refine Eq.trans (g_A dX9_leavesBelow_3 rfl rfl) ?_
  refine Eq.trans (g_sI (as := [.int v0]) (rest := [.int (nI 3), .int (nI 2), .int (nI 1)]) dX9_leavesBelow_4 rfl cl50 m165 rfl rfl rfl rfl (Nat.le_of_ble_eq_true rfl) rfl rfl rfl) ?_
  refine am_bI_c (fun r1 t1 => ?_)
  refine Eq.trans (g_isub dX9_leavesBelow_7 rfl) ?_
  refine Eq.trans (g_imul dX9_leavesBelow_8 rfl) ?_
  refine Eq.trans (g_ishl dX9_leavesBelow_9 rfl) ?_
  exact g_iret dX9_leavesBelow_10 rfl
theorem q170_0 (C : am_C) (σ : am_M) (v0 : Int32) : am_go am_X0 C M170 0 [.int v0] [] σ = am_bI (C 165 [.int v0] σ) (fun r1 t1 => if am_in r1 5 = true then (am_bI (C 169 [.int v0] t1) (fun r2 t2 => some (.inl (some (.int ((v0 - (am_lst.getD (r1 : Int32).toNatClampNeg 0)) * r2))), t2))) else none) := by
  refine Eq.trans (g_A dX9_firstLeafBelow_0 rfl rfl) ?_
  refine Eq.trans (g_ls dX9_firstLeafBelow_1 rfl rfl) ?_
  refine Eq.trans (g_A dX9_firstLeafBelow_4 rfl rfl) ?_
  refine Eq.trans (g_sI (as := [.int v0]) (rest := [.ref 1000, .int v0]) dX9_firstLeafBelow_5 rfl cl50 m165 rfl rfl rfl rfl (Nat.le_of_ble_eq_true rfl) rfl rfl rfl) ?_
  refine am_bI_c (fun r1 t1 => ?_)
  refine Eq.trans (g_lsld dX9_firstLeafBelow_8 rfl) ?_
  refine am_ite ?_ rfl
  refine Eq.trans (g_isub dX9_firstLeafBelow_9 rfl) ?_
  refine Eq.trans (g_A dX9_firstLeafBelow_10 rfl rfl) ?_
  refine Eq.trans (g_sI (as := [.int v0]) (rest := [.int (v0 - (am_lst.getD (r1 : Int32).toNatClampNeg 0))]) dX9_firstLeafBelow_11 rfl cl27 m169 rfl rfl rfl rfl (Nat.le_of_ble_eq_true rfl) rfl rfl rfl) ?_
  refine am_bI_c (fun r2 t2 => ?_)
  refine Eq.trans (g_imul dX9_firstLeafBelow_14 rfl) ?_
  exact g_iret dX9_firstLeafBelow_15 rfl
theorem q171_0 (C : am_C) (σ : am_M) (v0 v1 : Int32) : am_go am_X0 C M171 0 [.int v0, .int v1, .null] [] σ = am_bI (C 170 [.int v1] σ) (fun r1 t1 => if v0 < r1 then (some (.inl (some (.int (nI 0))), t1)) else (am_bI (C 169 [.int v1] t1) (fun r2 t2 => if (r1 + r2) ≤ v0 then (some (.inl (some (.int (nI 0))), t2)) else (some (.inl (some (.int (nI 1))), t2))))) := by
  refine Eq.trans (g_A dX9_isLeafBelow_0 rfl rfl) ?_
  refine Eq.trans (g_sI (as := [.int v1]) (rest := []) dX9_isLeafBelow_1 rfl cl26 m170 rfl rfl rfl rfl (Nat.le_of_ble_eq_true rfl) rfl rfl rfl) ?_
  refine am_bI_c (fun r1 t1 => ?_)
  refine Eq.trans (g_isn (k := 2) dX9_isLeafBelow_4 rfl (Nat.le_of_ble_eq_true rfl) rfl rfl rfl) ?_
  refine Eq.trans (g_A dX9_isLeafBelow_5 rfl rfl) ?_
  refine Eq.trans (g_A dX9_isLeafBelow_6 rfl rfl) ?_
  refine Eq.trans (g_iclt (t := 24) dX9_isLeafBelow_7 rfl rfl) ?_
  refine am_ite ?_ ?_
  · refine Eq.trans (g_K (v := nI 0) dX9_isLeafBelow_24 rfl rfl) ?_
    exact g_zl dX9_isLeafBelow_25 rfl (Or.inl rfl)
  · refine Eq.trans (g_A dX9_isLeafBelow_10 rfl rfl) ?_
    refine Eq.trans (g_A dX9_isLeafBelow_11 rfl rfl) ?_
    refine Eq.trans (g_A dX9_isLeafBelow_12 rfl rfl) ?_
    refine Eq.trans (g_sI (as := [.int v1]) (rest := [.int r1, .int v0]) dX9_isLeafBelow_13 rfl cl27 m169 rfl rfl rfl rfl (Nat.le_of_ble_eq_true rfl) rfl rfl rfl) ?_
    refine am_bI_c (fun r2 t2 => ?_)
    refine Eq.trans (g_iadd dX9_isLeafBelow_16 rfl) ?_
    refine Eq.trans (g_icge (t := 24) dX9_isLeafBelow_17 rfl rfl) ?_
    refine am_ite ?_ ?_
    · refine Eq.trans (g_K (v := nI 0) dX9_isLeafBelow_24 rfl rfl) ?_
      exact g_zl dX9_isLeafBelow_25 rfl (Or.inl rfl)
    · refine Eq.trans (g_K (v := nI 1) dX9_isLeafBelow_20 rfl rfl) ?_
      refine Eq.trans (g_goto (pc' := 25) dX9_isLeafBelow_21 rfl) ?_
      exact g_zl dX9_isLeafBelow_25 rfl (Or.inr rfl)
