theorem q250_0 (C : am_C) (σ : am_M) (v1 : Int32) : am_go am_X0 C M250 0 [.ref 34, .int v1, .null] [] σ = if am_in v1 1200 = true then (if σ.1 46 (v1 : Int32).toNatClampNeg = nI 1 then (if am_in v1 1200 = true then (if am_in (σ.1 47 (v1 : Int32).toNatClampNeg) 200 = true then (if σ.1 51 (σ.1 47 (v1 : Int32).toNatClampNeg : Int32).toNatClampNeg = (-1) then (some (.inl (some (.int (nI 0))), σ)) else (if am_in v1 1200 = true then (if am_in (σ.1 47 (v1 : Int32).toNatClampNeg) 200 = true then (if am_in ((nI 21) + (σ.1 51 (σ.1 47 (v1 : Int32).toNatClampNeg : Int32).toNatClampNeg)) 85 = true then (if am_in v1 1200 = true then (if σ.1 35 ((nI 21) + (σ.1 51 (σ.1 47 (v1 : Int32).toNatClampNeg : Int32).toNatClampNeg) : Int32).toNatClampNeg = σ.1 48 (v1 : Int32).toNatClampNeg then (some (.inl (some (.int (nI 1))), σ)) else (some (.inl (some (.int (nI 0))), σ))) else none) else none) else none) else none)) else none) else none) else (am_go am_X0 C M250 61 [.ref 34, .int v1, .int (nI 1)] [] σ)) else none := by
  refine Eq.trans (g_A dX10_isLive_0 rfl rfl) ?_
  refine Eq.trans (g_getR dX10_isLive_1 f27 sh34 rfl rfl) ?_
  refine Eq.trans (g_A dX10_isLive_4 rfl rfl) ?_
  refine Eq.trans (g_iald dX10_isLive_5 sh46 rfl) ?_
  refine am_ite ?_ rfl
  refine Eq.trans (g_K (v := nI 1) dX10_isLive_6 rfl rfl) ?_
  refine Eq.trans (g_icne (t := 59) dX10_isLive_7 rfl rfl) ?_
  refine am_ite ?_ ?_
  · refine Eq.trans (g_A dX10_isLive_10 rfl rfl) ?_
    refine Eq.trans (g_getR dX10_isLive_11 f34 sh34 rfl rfl) ?_
    refine Eq.trans (g_A dX10_isLive_14 rfl rfl) ?_
    refine Eq.trans (g_getR dX10_isLive_15 f28 sh34 rfl rfl) ?_
    refine Eq.trans (g_A dX10_isLive_18 rfl rfl) ?_
    refine Eq.trans (g_iald dX10_isLive_19 sh47 rfl) ?_
    refine am_ite ?_ rfl
    refine Eq.trans (g_iald dX10_isLive_20 sh51 rfl) ?_
    refine am_ite ?_ rfl
    refine Eq.trans (g_K (v := (-1)) dX10_isLive_21 rfl rfl) ?_
    refine Eq.trans (g_iceq (t := 57) dX10_isLive_22 rfl rfl) ?_
    refine am_ite ?_ ?_
    · refine Eq.trans (g_K (v := nI 0) dX10_isLive_57 rfl rfl) ?_
      exact g_zl dX10_isLive_58 rfl (Or.inl rfl)
    · refine Eq.trans (g_A dX10_isLive_25 rfl rfl) ?_
      refine Eq.trans (g_getR dX10_isLive_26 f15 sh34 rfl rfl) ?_
      refine Eq.trans (g_K (v := nI 21) dX10_isLive_29 rfl rfl) ?_
      refine Eq.trans (g_A dX10_isLive_31 rfl rfl) ?_
      refine Eq.trans (g_getR dX10_isLive_32 f34 sh34 rfl rfl) ?_
      refine Eq.trans (g_A dX10_isLive_35 rfl rfl) ?_
      refine Eq.trans (g_getR dX10_isLive_36 f28 sh34 rfl rfl) ?_
      refine Eq.trans (g_A dX10_isLive_39 rfl rfl) ?_
      refine Eq.trans (g_iald dX10_isLive_40 sh47 rfl) ?_
      refine am_ite ?_ rfl
      refine Eq.trans (g_iald dX10_isLive_41 sh51 rfl) ?_
      refine am_ite ?_ rfl
      refine Eq.trans (g_iadd dX10_isLive_42 rfl) ?_
      refine Eq.trans (g_iald dX10_isLive_43 sh35 rfl) ?_
      refine am_ite ?_ rfl
      refine Eq.trans (g_A dX10_isLive_44 rfl rfl) ?_
      refine Eq.trans (g_getR dX10_isLive_45 f29 sh34 rfl rfl) ?_
      refine Eq.trans (g_A dX10_isLive_48 rfl rfl) ?_
      refine Eq.trans (g_iald dX10_isLive_49 sh48 rfl) ?_
      refine am_ite ?_ rfl
      refine Eq.trans (g_icne (t := 57) dX10_isLive_50 rfl rfl) ?_
      refine am_ite ?_ ?_
      · refine Eq.trans (g_K (v := nI 1) dX10_isLive_53 rfl rfl) ?_
        refine Eq.trans (g_goto (pc' := 58) dX10_isLive_54 rfl) ?_
        exact g_zl dX10_isLive_58 rfl (Or.inr rfl)
      · refine Eq.trans (g_K (v := nI 0) dX10_isLive_57 rfl rfl) ?_
        exact g_zl dX10_isLive_58 rfl (Or.inl rfl)
  · refine Eq.trans (g_K (v := nI 1) dX10_isLive_59 rfl rfl) ?_
    refine Eq.trans (g_isn (k := 2) dX10_isLive_60 rfl (Nat.le_of_ble_eq_true rfl) rfl rfl rfl) ?_
    rfl
theorem q250_61 (C : am_C) (σ : am_M) (v1 v2 : Int32) : am_go am_X0 C M250 61 [.ref 34, .int v1, .int v2] [] σ = if (nI 85) ≤ v2 then (some (.inl (some (.int (nI 0))), σ)) else (if am_in v2 85 = true then (if am_in v1 1200 = true then (if σ.1 35 (v2 : Int32).toNatClampNeg = σ.1 47 (v1 : Int32).toNatClampNeg then (am_bI (C 179 [.int v2] σ) (fun r1 t1 => if am_in r1 85 = true then (if am_in v1 1200 = true then (if t1.1 35 (r1 : Int32).toNatClampNeg = t1.1 48 (v1 : Int32).toNatClampNeg then (some (.inl (some (.int (nI 1))), t1)) else (am_go am_X0 C M250 61 [.ref 34, .int v1, .int (v2 + nI 1)] [] t1)) else none) else none)) else (am_go am_X0 C M250 61 [.ref 34, .int v1, .int (v2 + nI 1)] [] σ)) else none) else none) := by
  refine Eq.trans (g_A dX10_isLive_61 rfl rfl) ?_
  refine Eq.trans (g_K (v := nI 85) dX10_isLive_62 rfl rfl) ?_
  refine Eq.trans (g_icge (t := 108) dX10_isLive_64 rfl rfl) ?_
  refine am_ite ?_ ?_
  · refine Eq.trans (g_K (v := nI 0) dX10_isLive_108 rfl rfl) ?_
    exact g_zl dX10_isLive_109 rfl (Or.inl rfl)
  · refine Eq.trans (g_A dX10_isLive_67 rfl rfl) ?_
    refine Eq.trans (g_getR dX10_isLive_68 f15 sh34 rfl rfl) ?_
    refine Eq.trans (g_A dX10_isLive_71 rfl rfl) ?_
    refine Eq.trans (g_iald dX10_isLive_72 sh35 rfl) ?_
    refine am_ite ?_ rfl
    refine Eq.trans (g_A dX10_isLive_73 rfl rfl) ?_
    refine Eq.trans (g_getR dX10_isLive_74 f28 sh34 rfl rfl) ?_
    refine Eq.trans (g_A dX10_isLive_77 rfl rfl) ?_
    refine Eq.trans (g_iald dX10_isLive_78 sh47 rfl) ?_
    refine am_ite ?_ rfl
    refine Eq.trans (g_icne (t := 102) dX10_isLive_79 rfl rfl) ?_
    refine am_ite ?_ ?_
    · refine Eq.trans (g_A dX10_isLive_82 rfl rfl) ?_
      refine Eq.trans (g_getR dX10_isLive_83 f15 sh34 rfl rfl) ?_
      refine Eq.trans (g_A dX10_isLive_86 rfl rfl) ?_
      refine Eq.trans (g_sI (as := [.int v2]) (rest := [.ref 35]) dX10_isLive_87 rfl cl100 m179 rfl rfl rfl rfl (Nat.le_of_ble_eq_true rfl) rfl rfl rfl) ?_
      refine am_bI_c (fun r1 t1 => ?_)
      refine Eq.trans (g_iald dX10_isLive_90 sh35 rfl) ?_
      refine am_ite ?_ rfl
      refine Eq.trans (g_A dX10_isLive_91 rfl rfl) ?_
      refine Eq.trans (g_getR dX10_isLive_92 f29 sh34 rfl rfl) ?_
      refine Eq.trans (g_A dX10_isLive_95 rfl rfl) ?_
      refine Eq.trans (g_iald dX10_isLive_96 sh48 rfl) ?_
      refine am_ite ?_ rfl
      refine Eq.trans (g_icne (t := 102) dX10_isLive_97 rfl rfl) ?_
      refine am_ite ?_ ?_
      · refine Eq.trans (g_K (v := nI 1) dX10_isLive_100 rfl rfl) ?_
        exact g_zl dX10_isLive_101 rfl (Or.inr rfl)
      · refine Eq.trans (g_inc (v := v2 + nI 1) dX10_isLive_102 rfl (Nat.le_of_ble_eq_true rfl) rfl rfl rfl rfl) ?_
        refine Eq.trans (g_goto (pc' := 61) dX10_isLive_105 rfl) ?_
        rfl
    · refine Eq.trans (g_inc (v := v2 + nI 1) dX10_isLive_102 rfl (Nat.le_of_ble_eq_true rfl) rfl rfl rfl rfl) ?_
      refine Eq.trans (g_goto (pc' := 61) dX10_isLive_105 rfl) ?_
      rfl
theorem q251_0 (C : am_C) (σ : am_M) (v1 : Int32) : am_go am_X0 C M251 0 [.ref 34, .int v1, .null, .null] [] σ = am_go am_X0 C M251 8 [.ref 34, .int v1, .int (nI 0), .int ((nI 150) * v1)] [] σ := by
  refine Eq.trans (g_K (v := nI 0) dX10_livesOn_0 rfl rfl) ?_
  refine Eq.trans (g_isn (k := 2) dX10_livesOn_1 rfl (Nat.le_of_ble_eq_true rfl) rfl rfl rfl) ?_
  refine Eq.trans (g_K (v := nI 150) dX10_livesOn_2 rfl rfl) ?_
  refine Eq.trans (g_A dX10_livesOn_5 rfl rfl) ?_
  refine Eq.trans (g_imul dX10_livesOn_6 rfl) ?_
  refine Eq.trans (g_isn (k := 3) dX10_livesOn_7 rfl (Nat.le_of_ble_eq_true rfl) rfl rfl rfl) ?_
  rfl
theorem q251_8 (C : am_C) (σ : am_M) (v1 v2 v3 : Int32) : am_go am_X0 C M251 8 [.ref 34, .int v1, .int v2, .int v3] [] σ = if am_in v1 8 = true then (if (((nI 150) * v1) + (σ.1 45 (v1 : Int32).toNatClampNeg)) ≤ v3 then (some (.inl (some (.int v2)), σ)) else (am_bI (C 250 [.ref 34, .int v3] σ) (fun r1 t1 => if r1 = nI 0 then (am_go am_X0 C M251 8 [.ref 34, .int v1, .int (v2 + (nI 0)), .int (v3 + nI 1)] [] t1) else (am_go am_X0 C M251 8 [.ref 34, .int v1, .int (v2 + (nI 1)), .int (v3 + nI 1)] [] t1)))) else none := by
  refine Eq.trans (g_A dX10_livesOn_8 rfl rfl) ?_
  refine Eq.trans (g_K (v := nI 150) dX10_livesOn_9 rfl rfl) ?_
  refine Eq.trans (g_A dX10_livesOn_12 rfl rfl) ?_
  refine Eq.trans (g_imul dX10_livesOn_13 rfl) ?_
  refine Eq.trans (g_A dX10_livesOn_14 rfl rfl) ?_
  refine Eq.trans (g_getR dX10_livesOn_15 f22 sh34 rfl rfl) ?_
  refine Eq.trans (g_A dX10_livesOn_18 rfl rfl) ?_
  refine Eq.trans (g_iald dX10_livesOn_19 sh45 rfl) ?_
  refine am_ite ?_ rfl
  refine Eq.trans (g_iadd dX10_livesOn_20 rfl) ?_
  refine Eq.trans (g_icge (t := 46) dX10_livesOn_21 rfl rfl) ?_
  refine am_ite ?_ ?_
  · refine Eq.trans (g_A dX10_livesOn_46 rfl rfl) ?_
    exact g_iret dX10_livesOn_47 rfl
  · refine Eq.trans (g_A dX10_livesOn_24 rfl rfl) ?_
    refine Eq.trans (g_A dX10_livesOn_25 rfl rfl) ?_
    refine Eq.trans (g_A dX10_livesOn_26 rfl rfl) ?_
    refine Eq.trans (g_vI (a := 34) (as := [.int v3]) (rest := [.int v2]) dX10_livesOn_27 cl140 m250 rfl rfl rfl rfl (Nat.le_of_ble_eq_true rfl) rfl rfl rfl rfl) ?_
    refine am_bI_c (fun r1 t1 => ?_)
    refine Eq.trans (g_ifeq (t := 37) dX10_livesOn_30 rfl rfl) ?_
    refine am_ite ?_ ?_
    · refine Eq.trans (g_K (v := nI 0) dX10_livesOn_37 rfl rfl) ?_
      refine Eq.trans (g_iadd dX10_livesOn_38 rfl) ?_
      refine Eq.trans (g_isn (k := 2) dX10_livesOn_39 rfl (Nat.le_of_ble_eq_true rfl) rfl rfl rfl) ?_
      refine Eq.trans (g_inc (v := v3 + nI 1) dX10_livesOn_40 rfl (Nat.le_of_ble_eq_true rfl) rfl rfl rfl rfl) ?_
      refine Eq.trans (g_goto (pc' := 8) dX10_livesOn_43 rfl) ?_
      rfl
    · refine Eq.trans (g_K (v := nI 1) dX10_livesOn_33 rfl rfl) ?_
      refine Eq.trans (g_goto (pc' := 38) dX10_livesOn_34 rfl) ?_
      refine Eq.trans (g_iadd dX10_livesOn_38 rfl) ?_
      refine Eq.trans (g_isn (k := 2) dX10_livesOn_39 rfl (Nat.le_of_ble_eq_true rfl) rfl rfl rfl) ?_
      refine Eq.trans (g_inc (v := v3 + nI 1) dX10_livesOn_40 rfl (Nat.le_of_ble_eq_true rfl) rfl rfl rfl rfl) ?_
      refine Eq.trans (g_goto (pc' := 8) dX10_livesOn_43 rfl) ?_
      rfl
theorem q252_0 (C : am_C) (σ : am_M) (v1 v2 : Int32) : am_go am_X0 C M252 0 [.ref 34, .int v1, .int v2, .null] [] σ = am_bI (C 250 [.ref 34, .int v2] σ) (fun r1 t1 => if r1 = nI 0 then (some (.inl (some (.int (nI 0))), t1)) else (if am_in v2 1200 = true then (if am_in v2 1200 = true then (if am_in v2 1200 = true then (am_bI (C 192 [.ref 34, .int (t1.1 46 (v2 : Int32).toNatClampNeg), .int (t1.1 47 (v2 : Int32).toNatClampNeg), .int (t1.1 48 (v2 : Int32).toNatClampNeg), .int v1] t1) (fun r2 t2 => if r2 = nI 0 then (am_go am_X0 C M252 42 [.ref 34, .int v1, .int v2, .int ((nI 150) * v1)] [] t2) else (some (.inl (some (.int (nI 0))), t2)))) else none) else none) else none)) := by
  refine Eq.trans (g_A dX10_isNeeded_0 rfl rfl) ?_
  refine Eq.trans (g_A dX10_isNeeded_1 rfl rfl) ?_
  refine Eq.trans (g_vI (a := 34) (as := [.int v2]) (rest := []) dX10_isNeeded_2 cl140 m250 rfl rfl rfl rfl (Nat.le_of_ble_eq_true rfl) rfl rfl rfl rfl) ?_
  refine am_bI_c (fun r1 t1 => ?_)
  refine Eq.trans (g_ifeq (t := 34) dX10_isNeeded_5 rfl rfl) ?_
  refine am_ite ?_ ?_
  · refine Eq.trans (g_K (v := nI 0) dX10_isNeeded_34 rfl rfl) ?_
    exact g_zl dX10_isNeeded_35 rfl (Or.inl rfl)
  · refine Eq.trans (g_A dX10_isNeeded_8 rfl rfl) ?_
    refine Eq.trans (g_A dX10_isNeeded_9 rfl rfl) ?_
    refine Eq.trans (g_getR dX10_isNeeded_10 f27 sh34 rfl rfl) ?_
    refine Eq.trans (g_A dX10_isNeeded_13 rfl rfl) ?_
    refine Eq.trans (g_iald dX10_isNeeded_14 sh46 rfl) ?_
    refine am_ite ?_ rfl
    refine Eq.trans (g_A dX10_isNeeded_15 rfl rfl) ?_
    refine Eq.trans (g_getR dX10_isNeeded_16 f28 sh34 rfl rfl) ?_
    refine Eq.trans (g_A dX10_isNeeded_19 rfl rfl) ?_
    refine Eq.trans (g_iald dX10_isNeeded_20 sh47 rfl) ?_
    refine am_ite ?_ rfl
    refine Eq.trans (g_A dX10_isNeeded_21 rfl rfl) ?_
    refine Eq.trans (g_getR dX10_isNeeded_22 f29 sh34 rfl rfl) ?_
    refine Eq.trans (g_A dX10_isNeeded_25 rfl rfl) ?_
    refine Eq.trans (g_iald dX10_isNeeded_26 sh48 rfl) ?_
    refine am_ite ?_ rfl
    refine Eq.trans (g_A dX10_isNeeded_27 rfl rfl) ?_
    refine Eq.trans (g_vI (a := 34) (as := [.int (t1.1 46 (v2 : Int32).toNatClampNeg), .int (t1.1 47 (v2 : Int32).toNatClampNeg), .int (t1.1 48 (v2 : Int32).toNatClampNeg), .int v1]) (rest := []) dX10_isNeeded_28 cl106 m192 rfl rfl rfl rfl (Nat.le_of_ble_eq_true rfl) rfl rfl rfl rfl) ?_
    refine am_bI_c (fun r2 t2 => ?_)
    refine Eq.trans (g_ifeq (t := 36) dX10_isNeeded_31 rfl rfl) ?_
    refine am_ite ?_ ?_
    · refine Eq.trans (g_K (v := nI 150) dX10_isNeeded_36 rfl rfl) ?_
      refine Eq.trans (g_A dX10_isNeeded_39 rfl rfl) ?_
      refine Eq.trans (g_imul dX10_isNeeded_40 rfl) ?_
      refine Eq.trans (g_isn (k := 3) dX10_isNeeded_41 rfl (Nat.le_of_ble_eq_true rfl) rfl rfl rfl) ?_
      rfl
    · refine Eq.trans (g_K (v := nI 0) dX10_isNeeded_34 rfl rfl) ?_
      exact g_zl dX10_isNeeded_35 rfl (Or.inl rfl)
theorem q252_42 (C : am_C) (σ : am_M) (v1 v2 v3 : Int32) : am_go am_X0 C M252 42 [.ref 34, .int v1, .int v2, .int v3] [] σ = if v2 ≤ v3 then (some (.inl (some (.int (nI 1))), σ)) else (if am_in v3 1200 = true then (if am_in v2 1200 = true then (if σ.1 46 (v3 : Int32).toNatClampNeg = σ.1 46 (v2 : Int32).toNatClampNeg then (if am_in v3 1200 = true then (if am_in v2 1200 = true then (if σ.1 47 (v3 : Int32).toNatClampNeg = σ.1 47 (v2 : Int32).toNatClampNeg then (if am_in v3 1200 = true then (if am_in v2 1200 = true then (if σ.1 48 (v3 : Int32).toNatClampNeg = σ.1 48 (v2 : Int32).toNatClampNeg then (some (.inl (some (.int (nI 0))), σ)) else (am_go am_X0 C M252 42 [.ref 34, .int v1, .int v2, .int (v3 + nI 1)] [] σ)) else none) else none) else (am_go am_X0 C M252 42 [.ref 34, .int v1, .int v2, .int (v3 + nI 1)] [] σ)) else none) else none) else (am_go am_X0 C M252 42 [.ref 34, .int v1, .int v2, .int (v3 + nI 1)] [] σ)) else none) else none) := by
  refine Eq.trans (g_A dX10_isNeeded_42 rfl rfl) ?_
  refine Eq.trans (g_A dX10_isNeeded_43 rfl rfl) ?_
  refine Eq.trans (g_icge (t := 100) dX10_isNeeded_44 rfl rfl) ?_
  refine am_ite ?_ ?_
  · refine Eq.trans (g_K (v := nI 1) dX10_isNeeded_100 rfl rfl) ?_
    exact g_zl dX10_isNeeded_101 rfl (Or.inr rfl)
  · refine Eq.trans (g_A dX10_isNeeded_47 rfl rfl) ?_
    refine Eq.trans (g_getR dX10_isNeeded_48 f27 sh34 rfl rfl) ?_
    refine Eq.trans (g_A dX10_isNeeded_51 rfl rfl) ?_
    refine Eq.trans (g_iald dX10_isNeeded_52 sh46 rfl) ?_
    refine am_ite ?_ rfl
    refine Eq.trans (g_A dX10_isNeeded_53 rfl rfl) ?_
    refine Eq.trans (g_getR dX10_isNeeded_54 f27 sh34 rfl rfl) ?_
    refine Eq.trans (g_A dX10_isNeeded_57 rfl rfl) ?_
    refine Eq.trans (g_iald dX10_isNeeded_58 sh46 rfl) ?_
    refine am_ite ?_ rfl
    refine Eq.trans (g_icne (t := 94) dX10_isNeeded_59 rfl rfl) ?_
    refine am_ite ?_ ?_
    · refine Eq.trans (g_A dX10_isNeeded_62 rfl rfl) ?_
      refine Eq.trans (g_getR dX10_isNeeded_63 f28 sh34 rfl rfl) ?_
      refine Eq.trans (g_A dX10_isNeeded_66 rfl rfl) ?_
      refine Eq.trans (g_iald dX10_isNeeded_67 sh47 rfl) ?_
      refine am_ite ?_ rfl
      refine Eq.trans (g_A dX10_isNeeded_68 rfl rfl) ?_
      refine Eq.trans (g_getR dX10_isNeeded_69 f28 sh34 rfl rfl) ?_
      refine Eq.trans (g_A dX10_isNeeded_72 rfl rfl) ?_
      refine Eq.trans (g_iald dX10_isNeeded_73 sh47 rfl) ?_
      refine am_ite ?_ rfl
      refine Eq.trans (g_icne (t := 94) dX10_isNeeded_74 rfl rfl) ?_
      refine am_ite ?_ ?_
      · refine Eq.trans (g_A dX10_isNeeded_77 rfl rfl) ?_
        refine Eq.trans (g_getR dX10_isNeeded_78 f29 sh34 rfl rfl) ?_
        refine Eq.trans (g_A dX10_isNeeded_81 rfl rfl) ?_
        refine Eq.trans (g_iald dX10_isNeeded_82 sh48 rfl) ?_
        refine am_ite ?_ rfl
        refine Eq.trans (g_A dX10_isNeeded_83 rfl rfl) ?_
        refine Eq.trans (g_getR dX10_isNeeded_84 f29 sh34 rfl rfl) ?_
        refine Eq.trans (g_A dX10_isNeeded_87 rfl rfl) ?_
        refine Eq.trans (g_iald dX10_isNeeded_88 sh48 rfl) ?_
        refine am_ite ?_ rfl
        refine Eq.trans (g_icne (t := 94) dX10_isNeeded_89 rfl rfl) ?_
        refine am_ite ?_ ?_
        · refine Eq.trans (g_K (v := nI 0) dX10_isNeeded_92 rfl rfl) ?_
          exact g_zl dX10_isNeeded_93 rfl (Or.inl rfl)
        · refine Eq.trans (g_inc (v := v3 + nI 1) dX10_isNeeded_94 rfl (Nat.le_of_ble_eq_true rfl) rfl rfl rfl rfl) ?_
          refine Eq.trans (g_goto (pc' := 42) dX10_isNeeded_97 rfl) ?_
          rfl
      · refine Eq.trans (g_inc (v := v3 + nI 1) dX10_isNeeded_94 rfl (Nat.le_of_ble_eq_true rfl) rfl rfl rfl rfl) ?_
        refine Eq.trans (g_goto (pc' := 42) dX10_isNeeded_97 rfl) ?_
        rfl
    · refine Eq.trans (g_inc (v := v3 + nI 1) dX10_isNeeded_94 rfl (Nat.le_of_ble_eq_true rfl) rfl rfl rfl rfl) ?_
      refine Eq.trans (g_goto (pc' := 42) dX10_isNeeded_97 rfl) ?_
      rfl
theorem q253_0 (C : am_C) (σ : am_M) (v1 : Int32) : am_go am_X0 C M253 0 [.ref 34, .int v1, .null, .null] [] σ = am_go am_X0 C M253 8 [.ref 34, .int v1, .int (nI 0), .int ((nI 150) * v1)] [] σ := by
  refine Eq.trans (g_K (v := nI 0) dX10_neededFrom_0 rfl rfl) ?_
  refine Eq.trans (g_isn (k := 2) dX10_neededFrom_1 rfl (Nat.le_of_ble_eq_true rfl) rfl rfl rfl) ?_
  refine Eq.trans (g_K (v := nI 150) dX10_neededFrom_2 rfl rfl) ?_
  refine Eq.trans (g_A dX10_neededFrom_5 rfl rfl) ?_
  refine Eq.trans (g_imul dX10_neededFrom_6 rfl) ?_
  refine Eq.trans (g_isn (k := 3) dX10_neededFrom_7 rfl (Nat.le_of_ble_eq_true rfl) rfl rfl rfl) ?_
  rfl
theorem q253_8 (C : am_C) (σ : am_M) (v1 v2 v3 : Int32) : am_go am_X0 C M253 8 [.ref 34, .int v1, .int v2, .int v3] [] σ = if am_in v1 8 = true then (if (((nI 150) * v1) + (σ.1 45 (v1 : Int32).toNatClampNeg)) ≤ v3 then (some (.inl (some (.int v2)), σ)) else (am_bI (C 252 [.ref 34, .int v1, .int v3] σ) (fun r1 t1 => if r1 = nI 0 then (am_go am_X0 C M253 8 [.ref 34, .int v1, .int (v2 + (nI 0)), .int (v3 + nI 1)] [] t1) else (am_go am_X0 C M253 8 [.ref 34, .int v1, .int (v2 + (nI 1)), .int (v3 + nI 1)] [] t1)))) else none := by
  refine Eq.trans (g_A dX10_neededFrom_8 rfl rfl) ?_
  refine Eq.trans (g_K (v := nI 150) dX10_neededFrom_9 rfl rfl) ?_
  refine Eq.trans (g_A dX10_neededFrom_12 rfl rfl) ?_
  refine Eq.trans (g_imul dX10_neededFrom_13 rfl) ?_
  refine Eq.trans (g_A dX10_neededFrom_14 rfl rfl) ?_
  refine Eq.trans (g_getR dX10_neededFrom_15 f22 sh34 rfl rfl) ?_
  refine Eq.trans (g_A dX10_neededFrom_18 rfl rfl) ?_
  refine Eq.trans (g_iald dX10_neededFrom_19 sh45 rfl) ?_
  refine am_ite ?_ rfl
  refine Eq.trans (g_iadd dX10_neededFrom_20 rfl) ?_
  refine Eq.trans (g_icge (t := 47) dX10_neededFrom_21 rfl rfl) ?_
  refine am_ite ?_ ?_
  · refine Eq.trans (g_A dX10_neededFrom_47 rfl rfl) ?_
    exact g_iret dX10_neededFrom_48 rfl
  · refine Eq.trans (g_A dX10_neededFrom_24 rfl rfl) ?_
    refine Eq.trans (g_A dX10_neededFrom_25 rfl rfl) ?_
    refine Eq.trans (g_A dX10_neededFrom_26 rfl rfl) ?_
    refine Eq.trans (g_A dX10_neededFrom_27 rfl rfl) ?_
    refine Eq.trans (g_vI (a := 34) (as := [.int v1, .int v3]) (rest := [.int v2]) dX10_neededFrom_28 cl141 m252 rfl rfl rfl rfl (Nat.le_of_ble_eq_true rfl) rfl rfl rfl rfl) ?_
    refine am_bI_c (fun r1 t1 => ?_)
    refine Eq.trans (g_ifeq (t := 38) dX10_neededFrom_31 rfl rfl) ?_
    refine am_ite ?_ ?_
    · refine Eq.trans (g_K (v := nI 0) dX10_neededFrom_38 rfl rfl) ?_
      refine Eq.trans (g_iadd dX10_neededFrom_39 rfl) ?_
      refine Eq.trans (g_isn (k := 2) dX10_neededFrom_40 rfl (Nat.le_of_ble_eq_true rfl) rfl rfl rfl) ?_
      refine Eq.trans (g_inc (v := v3 + nI 1) dX10_neededFrom_41 rfl (Nat.le_of_ble_eq_true rfl) rfl rfl rfl rfl) ?_
      refine Eq.trans (g_goto (pc' := 8) dX10_neededFrom_44 rfl) ?_
      rfl
    · refine Eq.trans (g_K (v := nI 1) dX10_neededFrom_34 rfl rfl) ?_
      refine Eq.trans (g_goto (pc' := 39) dX10_neededFrom_35 rfl) ?_
      refine Eq.trans (g_iadd dX10_neededFrom_39 rfl) ?_
      refine Eq.trans (g_isn (k := 2) dX10_neededFrom_40 rfl (Nat.le_of_ble_eq_true rfl) rfl rfl rfl) ?_
      refine Eq.trans (g_inc (v := v3 + nI 1) dX10_neededFrom_41 rfl (Nat.le_of_ble_eq_true rfl) rfl rfl rfl rfl) ?_
      refine Eq.trans (g_goto (pc' := 8) dX10_neededFrom_44 rfl) ?_
      rfl
theorem q254_0 (C : am_C) (σ : am_M) (v1 v2 : Int32) : am_go am_X0 C M254 0 [.ref 34, .int v1, .int v2] [] σ = am_bI (C 185 [.ref 34, .int v1] σ) (fun r1 t1 => if r1 = nI 0 then (am_go am_X0 C M254 30 [.ref 34, .int v1, .int v2] [.int (nI 1), .ref 34] t1) else (am_bI (C 173 [.long ((v2 : Int32).toInt64), .long (0 : Int64), .long (3)] t1) (fun r2 t2 => if r2 = nI 0 then (am_go am_X0 C M254 30 [.ref 34, .int v1, .int v2] [.int (nI 2), .ref 34] t2) else (am_go am_X0 C M254 30 [.ref 34, .int v1, .int v2] [.int (nI 0), .ref 34] t2)))) := by
  refine Eq.trans (g_A dX10_medium_0 rfl rfl) ?_
  refine Eq.trans (g_A dX10_medium_1 rfl rfl) ?_
  refine Eq.trans (g_A dX10_medium_2 rfl rfl) ?_
  refine Eq.trans (g_vI (a := 34) (as := [.int v1]) (rest := [.ref 34]) dX10_medium_3 cl124 m185 rfl rfl rfl rfl (Nat.le_of_ble_eq_true rfl) rfl rfl rfl rfl) ?_
  refine am_bI_c (fun r1 t1 => ?_)
  refine Eq.trans (g_ifne (t := 13) dX10_medium_6 rfl rfl) ?_
  refine am_ite ?_ ?_
  · refine Eq.trans (g_K (v := nI 1) dX10_medium_9 rfl rfl) ?_
    refine Eq.trans (g_goto (pc' := 30) dX10_medium_10 rfl) ?_
    rfl
  · refine Eq.trans (g_A dX10_medium_13 rfl rfl) ?_
    refine Eq.trans (g_i2l dX10_medium_14 rfl) ?_
    refine Eq.trans (g_KJ (v := (0 : Int64)) dX10_medium_15 rfl rfl) ?_
    refine Eq.trans (g_ld2 dX10_medium_16 kj5 rfl) ?_
    refine Eq.trans (g_sI (as := [.long ((v2 : Int32).toInt64), .long (0 : Int64), .long (3)]) (rest := [.ref 34]) dX10_medium_19 rfl cl101 m173 rfl rfl rfl rfl (Nat.le_of_ble_eq_true rfl) rfl rfl rfl) ?_
    refine am_bI_c (fun r2 t2 => ?_)
    refine Eq.trans (g_ifne (t := 29) dX10_medium_22 rfl rfl) ?_
    refine am_ite ?_ ?_
    · refine Eq.trans (g_K (v := nI 2) dX10_medium_25 rfl rfl) ?_
      refine Eq.trans (g_goto (pc' := 30) dX10_medium_26 rfl) ?_
      rfl
    · refine Eq.trans (g_K (v := nI 0) dX10_medium_29 rfl rfl) ?_
      rfl
theorem q254_30 (C : am_C) (σ : am_M) (v1 v2 s0 : Int32) : am_go am_X0 C M254 30 [.ref 34, .int v1, .int v2] [.int s0, .ref 34] σ = if ((am_wI σ 34 25 s0).1 34 25) ≤ (nI 0) then (if v2 = nI 0 then (if am_in v1 8 = true then (some (.inl (some (.int ((am_wI σ 34 25 s0).1 44 (v1 : Int32).toNatClampNeg))), am_wI σ 34 25 s0)) else none) else (if v2 = nI 1 then (if am_in v1 8 = true then (some (.inl (some (.int ((am_wI σ 34 25 s0).1 45 (v1 : Int32).toNatClampNeg))), am_wI σ 34 25 s0)) else none) else (if v2 = nI 2 then (am_bI (C 251 [.ref 34, .int v1] (am_wI σ 34 25 s0)) (fun r2 t2 => some (.inl (some (.int r2)), t2))) else (am_bI (C 253 [.ref 34, .int v1] (am_wI σ 34 25 s0)) (fun r1 t1 => some (.inl (some (.int r1)), t1)))))) else (some (.inl (some (.int (nI 0))), am_wI σ 34 25 s0)) := by
  refine Eq.trans (g_put dX10_medium_30 f13 sh34 rfl rfl rfl) ?_
  refine Eq.trans (g_A dX10_medium_33 rfl rfl) ?_
  refine Eq.trans (g_getI dX10_medium_34 f13 sh34 rfl rfl) ?_
  refine Eq.trans (g_ifle (t := 42) dX10_medium_37 rfl rfl) ?_
  refine am_ite ?_ ?_
  · refine Eq.trans (g_A dX10_medium_42 rfl rfl) ?_
    refine Eq.trans (g_ifne (t := 55) dX10_medium_43 rfl rfl) ?_
    refine am_ite ?_ ?_
    · refine Eq.trans (g_A dX10_medium_46 rfl rfl) ?_
      refine Eq.trans (g_getR dX10_medium_47 f21 sh34 rfl rfl) ?_
      refine Eq.trans (g_A dX10_medium_50 rfl rfl) ?_
      refine Eq.trans (g_iald dX10_medium_51 sh44 rfl) ?_
      refine am_ite ?_ rfl
      refine Eq.trans (g_goto (pc' := 87) dX10_medium_52 rfl) ?_
      exact g_iret dX10_medium_87 rfl
    · refine Eq.trans (g_A dX10_medium_55 rfl rfl) ?_
      refine Eq.trans (g_K (v := nI 1) dX10_medium_56 rfl rfl) ?_
      refine Eq.trans (g_icne (t := 69) dX10_medium_57 rfl rfl) ?_
      refine am_ite ?_ ?_
      · refine Eq.trans (g_A dX10_medium_60 rfl rfl) ?_
        refine Eq.trans (g_getR dX10_medium_61 f22 sh34 rfl rfl) ?_
        refine Eq.trans (g_A dX10_medium_64 rfl rfl) ?_
        refine Eq.trans (g_iald dX10_medium_65 sh45 rfl) ?_
        refine am_ite ?_ rfl
        refine Eq.trans (g_goto (pc' := 87) dX10_medium_66 rfl) ?_
        exact g_iret dX10_medium_87 rfl
      · refine Eq.trans (g_A dX10_medium_69 rfl rfl) ?_
        refine Eq.trans (g_K (v := nI 2) dX10_medium_70 rfl rfl) ?_
        refine Eq.trans (g_icne (t := 82) dX10_medium_71 rfl rfl) ?_
        refine am_ite ?_ ?_
        · refine Eq.trans (g_A dX10_medium_74 rfl rfl) ?_
          refine Eq.trans (g_A dX10_medium_75 rfl rfl) ?_
          refine Eq.trans (g_vI (a := 34) (as := [.int v1]) (rest := []) dX10_medium_76 cl142 m251 rfl rfl rfl rfl (Nat.le_of_ble_eq_true rfl) rfl rfl rfl rfl) ?_
          refine am_bI_c (fun r2 t2 => ?_)
          refine Eq.trans (g_goto (pc' := 87) dX10_medium_79 rfl) ?_
          exact g_iret dX10_medium_87 rfl
        · refine Eq.trans (g_A dX10_medium_82 rfl rfl) ?_
          refine Eq.trans (g_A dX10_medium_83 rfl rfl) ?_
          refine Eq.trans (g_vI (a := 34) (as := [.int v1]) (rest := []) dX10_medium_84 cl143 m253 rfl rfl rfl rfl (Nat.le_of_ble_eq_true rfl) rfl rfl rfl rfl) ?_
          refine am_bI_c (fun r1 t1 => ?_)
          exact g_iret dX10_medium_87 rfl
  · refine Eq.trans (g_K (v := nI 0) dX10_medium_40 rfl rfl) ?_
    exact g_iret dX10_medium_41 rfl
theorem q255_0 (C : am_C) (σ : am_M) (v1 v2 v3 : Int32) : am_go am_X0 C M255 0 [.ref 34, .int v1, .int v2, .int v3, .null] [] σ = am_bI (C 185 [.ref 34, .int v1] σ) (fun r1 t1 => if r1 = nI 0 then (am_go am_X0 C M255 27 [.ref 34, .int v1, .int v2, .int v3, .null] [.ref 34] t1) else (if am_in v1 8 = true then (am_bI (C 173 [.long ((v2 : Int32).toInt64), .long (0 : Int64), .long (((t1.1 45 (v1 : Int32).toNatClampNeg) - (nI 1) : Int32).toInt64)] t1) (fun r2 t2 => if r2 = nI 0 then (am_go am_X0 C M255 27 [.ref 34, .int v1, .int v2, .int v3, .null] [.ref 34] t2) else (am_bI (C 173 [.long ((v3 : Int32).toInt64), .long (0 : Int64), .long (3)] t2) (fun r3 t3 => if r3 = nI 0 then (am_go am_X0 C M255 48 [.ref 34, .int v1, .int v2, .int v3, .null] [.int (nI 2), .ref 34] t3) else (am_go am_X0 C M255 48 [.ref 34, .int v1, .int v2, .int v3, .null] [.int (nI 0), .ref 34] t3))))) else none)) := by
  refine Eq.trans (g_A dX10_entry_0 rfl rfl) ?_
  refine Eq.trans (g_A dX10_entry_1 rfl rfl) ?_
  refine Eq.trans (g_A dX10_entry_2 rfl rfl) ?_
  refine Eq.trans (g_vI (a := 34) (as := [.int v1]) (rest := [.ref 34]) dX10_entry_3 cl124 m185 rfl rfl rfl rfl (Nat.le_of_ble_eq_true rfl) rfl rfl rfl rfl) ?_
  refine am_bI_c (fun r1 t1 => ?_)
  refine Eq.trans (g_ifeq (t := 27) dX10_entry_6 rfl rfl) ?_
  refine am_ite ?_ ?_
  · rfl
  · refine Eq.trans (g_A dX10_entry_9 rfl rfl) ?_
    refine Eq.trans (g_i2l dX10_entry_10 rfl) ?_
    refine Eq.trans (g_KJ (v := (0 : Int64)) dX10_entry_11 rfl rfl) ?_
    refine Eq.trans (g_A dX10_entry_12 rfl rfl) ?_
    refine Eq.trans (g_getR dX10_entry_13 f22 sh34 rfl rfl) ?_
    refine Eq.trans (g_A dX10_entry_16 rfl rfl) ?_
    refine Eq.trans (g_iald dX10_entry_17 sh45 rfl) ?_
    refine am_ite ?_ rfl
    refine Eq.trans (g_K (v := nI 1) dX10_entry_18 rfl rfl) ?_
    refine Eq.trans (g_isub dX10_entry_19 rfl) ?_
    refine Eq.trans (g_i2l dX10_entry_20 rfl) ?_
    refine Eq.trans (g_sI (as := [.long ((v2 : Int32).toInt64), .long (0 : Int64), .long (((t1.1 45 (v1 : Int32).toNatClampNeg) - (nI 1) : Int32).toInt64)]) (rest := [.ref 34]) dX10_entry_21 rfl cl101 m173 rfl rfl rfl rfl (Nat.le_of_ble_eq_true rfl) rfl rfl rfl) ?_
    refine am_bI_c (fun r2 t2 => ?_)
    refine Eq.trans (g_ifne (t := 31) dX10_entry_24 rfl rfl) ?_
    refine am_ite ?_ ?_
    · rfl
    · refine Eq.trans (g_A dX10_entry_31 rfl rfl) ?_
      refine Eq.trans (g_i2l dX10_entry_32 rfl) ?_
      refine Eq.trans (g_KJ (v := (0 : Int64)) dX10_entry_33 rfl rfl) ?_
      refine Eq.trans (g_ld2 dX10_entry_34 kj5 rfl) ?_
      refine Eq.trans (g_sI (as := [.long ((v3 : Int32).toInt64), .long (0 : Int64), .long (3)]) (rest := [.ref 34]) dX10_entry_37 rfl cl101 m173 rfl rfl rfl rfl (Nat.le_of_ble_eq_true rfl) rfl rfl rfl) ?_
      refine am_bI_c (fun r3 t3 => ?_)
      refine Eq.trans (g_ifne (t := 47) dX10_entry_40 rfl rfl) ?_
      refine am_ite ?_ ?_
      · refine Eq.trans (g_K (v := nI 2) dX10_entry_43 rfl rfl) ?_
        refine Eq.trans (g_goto (pc' := 48) dX10_entry_44 rfl) ?_
        rfl
      · refine Eq.trans (g_K (v := nI 0) dX10_entry_47 rfl rfl) ?_
        rfl
theorem q255_27 (C : am_C) (σ : am_M) (v1 v2 v3 : Int32) : am_go am_X0 C M255 27 [.ref 34, .int v1, .int v2, .int v3, .null] [.ref 34] σ = am_go am_X0 C M255 48 [.ref 34, .int v1, .int v2, .int v3, .null] [.int (nI 1), .ref 34] σ := by
  refine Eq.trans (g_K (v := nI 1) dX10_entry_27 rfl rfl) ?_
  refine Eq.trans (g_goto (pc' := 48) dX10_entry_28 rfl) ?_
  rfl
theorem q255_48 (C : am_C) (σ : am_M) (v1 v2 v3 s0 : Int32) : am_go am_X0 C M255 48 [.ref 34, .int v1, .int v2, .int v3, .null] [.int s0, .ref 34] σ = if ((am_wI σ 34 25 s0).1 34 25) ≤ (nI 0) then (if v3 = nI 0 then (if am_in (((nI 150) * v1) + v2) 1200 = true then (some (.inl (some (.long (((am_wI σ 34 25 s0).1 46 (((nI 150) * v1) + v2 : Int32).toNatClampNeg : Int32).toInt64))), am_wI σ 34 25 s0)) else none) else (if v3 = nI 1 then (if am_in (((nI 150) * v1) + v2) 1200 = true then (some (.inl (some (.long (((am_wI σ 34 25 s0).1 47 (((nI 150) * v1) + v2 : Int32).toNatClampNeg : Int32).toInt64))), am_wI σ 34 25 s0)) else none) else (if v3 = nI 2 then (if am_in (((nI 150) * v1) + v2) 1200 = true then (some (.inl (some (.long (((am_wI σ 34 25 s0).1 48 (((nI 150) * v1) + v2 : Int32).toNatClampNeg : Int32).toInt64))), am_wI σ 34 25 s0)) else none) else (if am_in (((nI 150) * v1) + v2) 1200 = true then (some (.inl (some (.long ((am_wI σ 34 25 s0).2.1 49 (((nI 150) * v1) + v2 : Int32).toNatClampNeg))), am_wI σ 34 25 s0)) else none)))) else (some (.inl (some (.long (0 : Int64))), am_wI σ 34 25 s0)) := by
  refine Eq.trans (g_put dX10_entry_48 f13 sh34 rfl rfl rfl) ?_
  refine Eq.trans (g_A dX10_entry_51 rfl rfl) ?_
  refine Eq.trans (g_getI dX10_entry_52 f13 sh34 rfl rfl) ?_
  refine Eq.trans (g_ifle (t := 60) dX10_entry_55 rfl rfl) ?_
  refine am_ite ?_ ?_
  · refine Eq.trans (g_K (v := nI 150) dX10_entry_60 rfl rfl) ?_
    refine Eq.trans (g_A dX10_entry_63 rfl rfl) ?_
    refine Eq.trans (g_imul dX10_entry_64 rfl) ?_
    refine Eq.trans (g_A dX10_entry_65 rfl rfl) ?_
    refine Eq.trans (g_iadd dX10_entry_66 rfl) ?_
    refine Eq.trans (g_ist (k := 4) dX10_entry_67 (Nat.le_of_ble_eq_true rfl) rfl rfl rfl) ?_
    refine Eq.trans (g_A dX10_entry_69 rfl rfl) ?_
    refine Eq.trans (g_ifne (t := 84) dX10_entry_70 rfl rfl) ?_
    refine am_ite ?_ ?_
    · refine Eq.trans (g_A dX10_entry_73 rfl rfl) ?_
      refine Eq.trans (g_getR dX10_entry_74 f27 sh34 rfl rfl) ?_
      refine Eq.trans (g_A dX10_entry_77 rfl rfl) ?_
      refine Eq.trans (g_iald dX10_entry_79 sh46 rfl) ?_
      refine am_ite ?_ rfl
      refine Eq.trans (g_i2l dX10_entry_80 rfl) ?_
      refine Eq.trans (g_goto (pc' := 123) dX10_entry_81 rfl) ?_
      exact g_lret dX10_entry_123 rfl
    · refine Eq.trans (g_A dX10_entry_84 rfl rfl) ?_
      refine Eq.trans (g_K (v := nI 1) dX10_entry_85 rfl rfl) ?_
      refine Eq.trans (g_icne (t := 100) dX10_entry_86 rfl rfl) ?_
      refine am_ite ?_ ?_
      · refine Eq.trans (g_A dX10_entry_89 rfl rfl) ?_
        refine Eq.trans (g_getR dX10_entry_90 f28 sh34 rfl rfl) ?_
        refine Eq.trans (g_A dX10_entry_93 rfl rfl) ?_
        refine Eq.trans (g_iald dX10_entry_95 sh47 rfl) ?_
        refine am_ite ?_ rfl
        refine Eq.trans (g_i2l dX10_entry_96 rfl) ?_
        refine Eq.trans (g_goto (pc' := 123) dX10_entry_97 rfl) ?_
        exact g_lret dX10_entry_123 rfl
      · refine Eq.trans (g_A dX10_entry_100 rfl rfl) ?_
        refine Eq.trans (g_K (v := nI 2) dX10_entry_101 rfl rfl) ?_
        refine Eq.trans (g_icne (t := 116) dX10_entry_102 rfl rfl) ?_
        refine am_ite ?_ ?_
        · refine Eq.trans (g_A dX10_entry_105 rfl rfl) ?_
          refine Eq.trans (g_getR dX10_entry_106 f29 sh34 rfl rfl) ?_
          refine Eq.trans (g_A dX10_entry_109 rfl rfl) ?_
          refine Eq.trans (g_iald dX10_entry_111 sh48 rfl) ?_
          refine am_ite ?_ rfl
          refine Eq.trans (g_i2l dX10_entry_112 rfl) ?_
          refine Eq.trans (g_goto (pc' := 123) dX10_entry_113 rfl) ?_
          exact g_lret dX10_entry_123 rfl
        · refine Eq.trans (g_A dX10_entry_116 rfl rfl) ?_
          refine Eq.trans (g_getR dX10_entry_117 f30 sh34 rfl rfl) ?_
          refine Eq.trans (g_A dX10_entry_120 rfl rfl) ?_
          refine Eq.trans (g_lald dX10_entry_122 sh49 rfl) ?_
          refine am_ite ?_ rfl
          exact g_lret dX10_entry_123 rfl
  · refine Eq.trans (g_KJ (v := (0 : Int64)) dX10_entry_58 rfl rfl) ?_
    exact g_lret dX10_entry_59 rfl
theorem q256_0 (C : am_C) (σ : am_M) (v1 v2 : Int32) : am_go am_X0 C M256 0 [.ref 34, .int v1, .int v2, .null] [] σ = am_bI (C 185 [.ref 34, .int v1] σ) (fun r1 t1 => if r1 = nI 0 then (am_go am_X0 C M256 27 [.ref 34, .int v1, .int v2, .null] [.int (nI 1), .ref 34] t1) else (if am_in v1 8 = true then (if t1.1 44 (v1 : Int32).toNatClampNeg = nI 0 then (am_go am_X0 C M256 27 [.ref 34, .int v1, .int v2, .null] [.int (nI 0), .ref 34] t1) else (am_go am_X0 C M256 27 [.ref 34, .int v1, .int v2, .null] [.int (nI 2), .ref 34] t1)) else none)) := by
  refine Eq.trans (g_A dX10_becomes_0 rfl rfl) ?_
  refine Eq.trans (g_A dX10_becomes_1 rfl rfl) ?_
  refine Eq.trans (g_A dX10_becomes_2 rfl rfl) ?_
  refine Eq.trans (g_vI (a := 34) (as := [.int v1]) (rest := [.ref 34]) dX10_becomes_3 cl124 m185 rfl rfl rfl rfl (Nat.le_of_ble_eq_true rfl) rfl rfl rfl rfl) ?_
  refine am_bI_c (fun r1 t1 => ?_)
  refine Eq.trans (g_ifne (t := 13) dX10_becomes_6 rfl rfl) ?_
  refine am_ite ?_ ?_
  · refine Eq.trans (g_K (v := nI 1) dX10_becomes_9 rfl rfl) ?_
    refine Eq.trans (g_goto (pc' := 27) dX10_becomes_10 rfl) ?_
    rfl
  · refine Eq.trans (g_A dX10_becomes_13 rfl rfl) ?_
    refine Eq.trans (g_getR dX10_becomes_14 f21 sh34 rfl rfl) ?_
    refine Eq.trans (g_A dX10_becomes_17 rfl rfl) ?_
    refine Eq.trans (g_iald dX10_becomes_18 sh44 rfl) ?_
    refine am_ite ?_ rfl
    refine Eq.trans (g_ifeq (t := 26) dX10_becomes_19 rfl rfl) ?_
    refine am_ite ?_ ?_
    · refine Eq.trans (g_K (v := nI 0) dX10_becomes_26 rfl rfl) ?_
      rfl
    · refine Eq.trans (g_K (v := nI 2) dX10_becomes_22 rfl rfl) ?_
      refine Eq.trans (g_goto (pc' := 27) dX10_becomes_23 rfl) ?_
      rfl
theorem q256_27 (C : am_C) (σ : am_M) (v1 v2 s0 : Int32) : am_go am_X0 C M256 27 [.ref 34, .int v1, .int v2, .null] [.int s0, .ref 34] σ = if ((am_wI σ 34 25 s0).1 34 25) ≤ (nI 0) then (am_bI (C 194 [.ref 34, .int v1] (am_wI σ 34 25 s0)) (fun r1 t1 => if am_in v1 8 = true then (if v2 = nI 2 then (if am_in v1 8 = true then (some (.inl (some (.int r1)), am_wI (am_wI t1 44 (v1 : Int32).toNatClampNeg v2) 45 (v1 : Int32).toNatClampNeg (nI 0))) else none) else (some (.inl (some (.int r1)), am_wI t1 44 (v1 : Int32).toNatClampNeg v2))) else none)) else (some (.inl (some (.int (nI 0))), am_wI σ 34 25 s0)) := by
  refine Eq.trans (g_put dX10_becomes_27 f13 sh34 rfl rfl rfl) ?_
  refine Eq.trans (g_A dX10_becomes_30 rfl rfl) ?_
  refine Eq.trans (g_getI dX10_becomes_31 f13 sh34 rfl rfl) ?_
  refine Eq.trans (g_ifle (t := 39) dX10_becomes_34 rfl rfl) ?_
  refine am_ite ?_ ?_
  · refine Eq.trans (g_A dX10_becomes_39 rfl rfl) ?_
    refine Eq.trans (g_A dX10_becomes_40 rfl rfl) ?_
    refine Eq.trans (g_vI (a := 34) (as := [.int v1]) (rest := []) dX10_becomes_41 cl144 m194 rfl rfl rfl rfl (Nat.le_of_ble_eq_true rfl) rfl rfl rfl rfl) ?_
    refine am_bI_c (fun r1 t1 => ?_)
    refine Eq.trans (g_isn (k := 3) dX10_becomes_44 rfl (Nat.le_of_ble_eq_true rfl) rfl rfl rfl) ?_
    refine Eq.trans (g_A dX10_becomes_45 rfl rfl) ?_
    refine Eq.trans (g_getR dX10_becomes_46 f21 sh34 rfl rfl) ?_
    refine Eq.trans (g_A dX10_becomes_49 rfl rfl) ?_
    refine Eq.trans (g_A dX10_becomes_50 rfl rfl) ?_
    refine Eq.trans (g_iast dX10_becomes_51 sh44 rfl) ?_
    refine am_ite ?_ rfl
    refine Eq.trans (g_A dX10_becomes_52 rfl rfl) ?_
    refine Eq.trans (g_K (v := nI 2) dX10_becomes_53 rfl rfl) ?_
    refine Eq.trans (g_icne (t := 64) dX10_becomes_54 rfl rfl) ?_
    refine am_ite ?_ ?_
    · refine Eq.trans (g_A dX10_becomes_57 rfl rfl) ?_
      refine Eq.trans (g_getR dX10_becomes_58 f22 sh34 rfl rfl) ?_
      refine Eq.trans (g_A dX10_becomes_61 rfl rfl) ?_
      refine Eq.trans (g_K (v := nI 0) dX10_becomes_62 rfl rfl) ?_
      refine Eq.trans (g_iast dX10_becomes_63 sh45 rfl) ?_
      refine am_ite ?_ rfl
      refine Eq.trans (g_A dX10_becomes_64 rfl rfl) ?_
      exact g_iret dX10_becomes_65 rfl
    · refine Eq.trans (g_A dX10_becomes_64 rfl rfl) ?_
      exact g_iret dX10_becomes_65 rfl
  · refine Eq.trans (g_K (v := nI 0) dX10_becomes_37 rfl rfl) ?_
    exact g_iret dX10_becomes_38 rfl
theorem q257_0 (C : am_C) (σ : am_M) (v1 : Int32) : am_go am_X0 C M257 0 [.ref 34, .int v1] [] σ = am_bI (C 256 [.ref 34, .int v1, .int (nI 1)] σ) (fun r1 t1 => some (.inl (some (.int r1)), t1)) := by
  refine Eq.trans (g_A dX10_lose_0 rfl rfl) ?_
  refine Eq.trans (g_A dX10_lose_1 rfl rfl) ?_
  refine Eq.trans (g_K (v := nI 1) dX10_lose_2 rfl rfl) ?_
  refine Eq.trans (g_vI (a := 34) (as := [.int v1, .int (nI 1)]) (rest := []) dX10_lose_3 cl145 m256 rfl rfl rfl rfl (Nat.le_of_ble_eq_true rfl) rfl rfl rfl rfl) ?_
  refine am_bI_c (fun r1 t1 => ?_)
  exact g_iret dX10_lose_6 rfl
theorem q258_0 (C : am_C) (σ : am_M) (v1 : Int32) : am_go am_X0 C M258 0 [.ref 34, .int v1] [] σ = am_bI (C 256 [.ref 34, .int v1, .int (nI 2)] σ) (fun r1 t1 => some (.inl (some (.int r1)), t1)) := by
  refine Eq.trans (g_A dX10_destroy_0 rfl rfl) ?_
  refine Eq.trans (g_A dX10_destroy_1 rfl rfl) ?_
  refine Eq.trans (g_K (v := nI 2) dX10_destroy_2 rfl rfl) ?_
  refine Eq.trans (g_vI (a := 34) (as := [.int v1, .int (nI 2)]) (rest := []) dX10_destroy_3 cl145 m256 rfl rfl rfl rfl (Nat.le_of_ble_eq_true rfl) rfl rfl rfl rfl) ?_
  refine am_bI_c (fun r1 t1 => ?_)
  exact g_iret dX10_destroy_6 rfl
theorem q259_0 (C : am_C) (σ : am_M) (v1 : Int32) : am_go am_X0 C M259 0 [.ref 34, .int v1, .null, .null, .null] [] σ = am_bI (C 185 [.ref 34, .int v1] σ) (fun r1 t1 => if r1 = nI 0 then (am_go am_X0 C M259 14 [.ref 34, .int v1, .null, .null, .null] [.int (nI 1), .ref 34] t1) else (am_go am_X0 C M259 14 [.ref 34, .int v1, .null, .null, .null] [.int (nI 0), .ref 34] t1)) := by
  refine Eq.trans (g_A dX10_migrate_0 rfl rfl) ?_
  refine Eq.trans (g_A dX10_migrate_1 rfl rfl) ?_
  refine Eq.trans (g_A dX10_migrate_2 rfl rfl) ?_
  refine Eq.trans (g_vI (a := 34) (as := [.int v1]) (rest := [.ref 34]) dX10_migrate_3 cl124 m185 rfl rfl rfl rfl (Nat.le_of_ble_eq_true rfl) rfl rfl rfl rfl) ?_
  refine am_bI_c (fun r1 t1 => ?_)
  refine Eq.trans (g_ifeq (t := 13) dX10_migrate_6 rfl rfl) ?_
  refine am_ite ?_ ?_
  · refine Eq.trans (g_K (v := nI 1) dX10_migrate_13 rfl rfl) ?_
    rfl
  · refine Eq.trans (g_K (v := nI 0) dX10_migrate_9 rfl rfl) ?_
    refine Eq.trans (g_goto (pc' := 14) dX10_migrate_10 rfl) ?_
    rfl
theorem q259_14 (C : am_C) (σ : am_M) (v1 s0 : Int32) : am_go am_X0 C M259 14 [.ref 34, .int v1, .null, .null, .null] [.int s0, .ref 34] σ = if ((am_wI σ 34 25 s0).1 34 25) ≤ (nI 0) then (am_bI (C 186 [.ref 34, .int v1] (am_wI σ 34 25 s0)) (fun r1 t1 => am_bI (C 253 [.ref 34, .int v1] t1) (fun r2 t2 => if am_in v1 8 = true then (if t2.1 44 (v1 : Int32).toNatClampNeg = nI 2 then (am_go am_X0 C M259 58 [.ref 34, .int v1, .int r1, .int r2, .null] [.ref 34] t2) else (am_bI (C 187 [.ref 34, .int r1, .int r2] t2) (fun r3 t3 => if r3 = nI 0 then (am_go am_X0 C M259 58 [.ref 34, .int v1, .int r1, .int r2, .null] [.ref 34] t3) else (am_go am_X0 C M259 63 [.ref 34, .int v1, .int r1, .int r2, .null] [.int (nI 0), .ref 34] t3)))) else none))) else (some (.inl (some (.int (nI 0))), am_wI σ 34 25 s0)) := by
  refine Eq.trans (g_put dX10_migrate_14 f13 sh34 rfl rfl rfl) ?_
  refine Eq.trans (g_A dX10_migrate_17 rfl rfl) ?_
  refine Eq.trans (g_getI dX10_migrate_18 f13 sh34 rfl rfl) ?_
  refine Eq.trans (g_ifle (t := 26) dX10_migrate_21 rfl rfl) ?_
  refine am_ite ?_ ?_
  · refine Eq.trans (g_A dX10_migrate_26 rfl rfl) ?_
    refine Eq.trans (g_A dX10_migrate_27 rfl rfl) ?_
    refine Eq.trans (g_vI (a := 34) (as := [.int v1]) (rest := []) dX10_migrate_28 cl102 m186 rfl rfl rfl rfl (Nat.le_of_ble_eq_true rfl) rfl rfl rfl rfl) ?_
    refine am_bI_c (fun r1 t1 => ?_)
    refine Eq.trans (g_isn (k := 2) dX10_migrate_31 rfl (Nat.le_of_ble_eq_true rfl) rfl rfl rfl) ?_
    refine Eq.trans (g_A dX10_migrate_32 rfl rfl) ?_
    refine Eq.trans (g_A dX10_migrate_33 rfl rfl) ?_
    refine Eq.trans (g_vI (a := 34) (as := [.int v1]) (rest := []) dX10_migrate_34 cl143 m253 rfl rfl rfl rfl (Nat.le_of_ble_eq_true rfl) rfl rfl rfl rfl) ?_
    refine am_bI_c (fun r2 t2 => ?_)
    refine Eq.trans (g_isn (k := 3) dX10_migrate_37 rfl (Nat.le_of_ble_eq_true rfl) rfl rfl rfl) ?_
    refine Eq.trans (g_A dX10_migrate_38 rfl rfl) ?_
    refine Eq.trans (g_A dX10_migrate_39 rfl rfl) ?_
    refine Eq.trans (g_getR dX10_migrate_40 f21 sh34 rfl rfl) ?_
    refine Eq.trans (g_A dX10_migrate_43 rfl rfl) ?_
    refine Eq.trans (g_iald dX10_migrate_44 sh44 rfl) ?_
    refine am_ite ?_ rfl
    refine Eq.trans (g_K (v := nI 2) dX10_migrate_45 rfl rfl) ?_
    refine Eq.trans (g_iceq (t := 58) dX10_migrate_46 rfl rfl) ?_
    refine am_ite ?_ ?_
    · rfl
    · refine Eq.trans (g_A dX10_migrate_49 rfl rfl) ?_
      refine Eq.trans (g_A dX10_migrate_50 rfl rfl) ?_
      refine Eq.trans (g_A dX10_migrate_51 rfl rfl) ?_
      refine Eq.trans (g_vI (a := 34) (as := [.int r1, .int r2]) (rest := [.ref 34]) dX10_migrate_52 cl116 m187 rfl rfl rfl rfl (Nat.le_of_ble_eq_true rfl) rfl rfl rfl rfl) ?_
      refine am_bI_c (fun r3 t3 => ?_)
      refine Eq.trans (g_ifne (t := 62) dX10_migrate_55 rfl rfl) ?_
      refine am_ite ?_ ?_
      · rfl
      · refine Eq.trans (g_K (v := nI 0) dX10_migrate_62 rfl rfl) ?_
        rfl
  · refine Eq.trans (g_K (v := nI 0) dX10_migrate_24 rfl rfl) ?_
    exact g_iret dX10_migrate_25 rfl
theorem q259_58 (C : am_C) (σ : am_M) (v1 v2 v3 : Int32) : am_go am_X0 C M259 58 [.ref 34, .int v1, .int v2, .int v3, .null] [.ref 34] σ = am_go am_X0 C M259 63 [.ref 34, .int v1, .int v2, .int v3, .null] [.int (nI 2), .ref 34] σ := by
  refine Eq.trans (g_K (v := nI 2) dX10_migrate_58 rfl rfl) ?_
  refine Eq.trans (g_goto (pc' := 63) dX10_migrate_59 rfl) ?_
  rfl
theorem q259_63 (C : am_C) (σ : am_M) (v1 v2 v3 s0 : Int32) : am_go am_X0 C M259 63 [.ref 34, .int v1, .int v2, .int v3, .null] [.int s0, .ref 34] σ = if ((am_wI σ 34 25 s0).1 34 25) ≤ (nI 0) then (am_go am_X0 C M259 82 [.ref 34, .int v1, .int v2, .int v3, .int ((nI 150) * v1)] [] (am_wI σ 34 25 s0)) else (some (.inl (some (.int (nI 0))), am_wI σ 34 25 s0)) := by
  refine Eq.trans (g_put dX10_migrate_63 f13 sh34 rfl rfl rfl) ?_
  refine Eq.trans (g_A dX10_migrate_66 rfl rfl) ?_
  refine Eq.trans (g_getI dX10_migrate_67 f13 sh34 rfl rfl) ?_
  refine Eq.trans (g_ifle (t := 75) dX10_migrate_70 rfl rfl) ?_
  refine am_ite ?_ ?_
  · refine Eq.trans (g_K (v := nI 150) dX10_migrate_75 rfl rfl) ?_
    refine Eq.trans (g_A dX10_migrate_78 rfl rfl) ?_
    refine Eq.trans (g_imul dX10_migrate_79 rfl) ?_
    refine Eq.trans (g_ist (k := 4) dX10_migrate_80 (Nat.le_of_ble_eq_true rfl) rfl rfl rfl) ?_
    rfl
  · refine Eq.trans (g_K (v := nI 0) dX10_migrate_73 rfl rfl) ?_
    exact g_iret dX10_migrate_74 rfl
theorem q259_82 (C : am_C) (σ : am_M) (v1 v2 v3 v4 : Int32) : am_go am_X0 C M259 82 [.ref 34, .int v1, .int v2, .int v3, .int v4] [] σ = if am_in v1 8 = true then (if (((nI 150) * v1) + (σ.1 45 (v1 : Int32).toNatClampNeg)) ≤ v4 then (if am_in v1 8 = true then (if σ.1 44 (v1 : Int32).toNatClampNeg = nI 0 then (if am_in v1 8 = true then (if am_in v1 8 = true then (some (.inl (some (.int v3)), am_wI (am_wI σ 44 (v1 : Int32).toNatClampNeg (nI 2)) 45 (v1 : Int32).toNatClampNeg (nI 0))) else none) else none) else (some (.inl (some (.int v3)), σ))) else none) else (am_bI (C 252 [.ref 34, .int v1, .int v4] σ) (fun r1 t1 => if r1 = nI 0 then (am_go am_X0 C M259 82 [.ref 34, .int v1, .int v2, .int v3, .int (v4 + nI 1)] [] t1) else (if am_in v4 1200 = true then (if am_in v4 1200 = true then (if am_in v4 1200 = true then (if am_in v4 1200 = true then (am_bV (C 188 [.ref 34, .int v2, .int (t1.1 46 (v4 : Int32).toNatClampNeg), .int (t1.1 47 (v4 : Int32).toNatClampNeg), .int (t1.1 48 (v4 : Int32).toNatClampNeg), .long (t1.2.1 49 (v4 : Int32).toNatClampNeg)] t1) (fun t2 => am_go am_X0 C M259 82 [.ref 34, .int v1, .int v2, .int v3, .int (v4 + nI 1)] [] t2)) else none) else none) else none) else none)))) else none := by
  refine Eq.trans (g_A dX10_migrate_82 rfl rfl) ?_
  refine Eq.trans (g_K (v := nI 150) dX10_migrate_84 rfl rfl) ?_
  refine Eq.trans (g_A dX10_migrate_87 rfl rfl) ?_
  refine Eq.trans (g_imul dX10_migrate_88 rfl) ?_
  refine Eq.trans (g_A dX10_migrate_89 rfl rfl) ?_
  refine Eq.trans (g_getR dX10_migrate_90 f22 sh34 rfl rfl) ?_
  refine Eq.trans (g_A dX10_migrate_93 rfl rfl) ?_
  refine Eq.trans (g_iald dX10_migrate_94 sh45 rfl) ?_
  refine am_ite ?_ rfl
  refine Eq.trans (g_iadd dX10_migrate_95 rfl) ?_
  refine Eq.trans (g_icge (t := 148) dX10_migrate_96 rfl rfl) ?_
  refine am_ite ?_ ?_
  · refine Eq.trans (g_A dX10_migrate_148 rfl rfl) ?_
    refine Eq.trans (g_getR dX10_migrate_149 f21 sh34 rfl rfl) ?_
    refine Eq.trans (g_A dX10_migrate_152 rfl rfl) ?_
    refine Eq.trans (g_iald dX10_migrate_153 sh44 rfl) ?_
    refine am_ite ?_ rfl
    refine Eq.trans (g_ifne (t := 171) dX10_migrate_154 rfl rfl) ?_
    refine am_ite ?_ ?_
    · refine Eq.trans (g_A dX10_migrate_157 rfl rfl) ?_
      refine Eq.trans (g_getR dX10_migrate_158 f21 sh34 rfl rfl) ?_
      refine Eq.trans (g_A dX10_migrate_161 rfl rfl) ?_
      refine Eq.trans (g_K (v := nI 2) dX10_migrate_162 rfl rfl) ?_
      refine Eq.trans (g_iast dX10_migrate_163 sh44 rfl) ?_
      refine am_ite ?_ rfl
      refine Eq.trans (g_A dX10_migrate_164 rfl rfl) ?_
      refine Eq.trans (g_getR dX10_migrate_165 f22 sh34 rfl rfl) ?_
      refine Eq.trans (g_A dX10_migrate_168 rfl rfl) ?_
      refine Eq.trans (g_K (v := nI 0) dX10_migrate_169 rfl rfl) ?_
      refine Eq.trans (g_iast dX10_migrate_170 sh45 rfl) ?_
      refine am_ite ?_ rfl
      refine Eq.trans (g_A dX10_migrate_171 rfl rfl) ?_
      exact g_iret dX10_migrate_172 rfl
    · refine Eq.trans (g_A dX10_migrate_171 rfl rfl) ?_
      exact g_iret dX10_migrate_172 rfl
  · refine Eq.trans (g_A dX10_migrate_99 rfl rfl) ?_
    refine Eq.trans (g_A dX10_migrate_100 rfl rfl) ?_
    refine Eq.trans (g_A dX10_migrate_101 rfl rfl) ?_
    refine Eq.trans (g_vI (a := 34) (as := [.int v1, .int v4]) (rest := []) dX10_migrate_103 cl141 m252 rfl rfl rfl rfl (Nat.le_of_ble_eq_true rfl) rfl rfl rfl rfl) ?_
    refine am_bI_c (fun r1 t1 => ?_)
    refine Eq.trans (g_ifeq (t := 142) dX10_migrate_106 rfl rfl) ?_
    refine am_ite ?_ ?_
    · refine Eq.trans (g_inc (v := v4 + nI 1) dX10_migrate_142 rfl (Nat.le_of_ble_eq_true rfl) rfl rfl rfl rfl) ?_
      refine Eq.trans (g_goto (pc' := 82) dX10_migrate_145 rfl) ?_
      rfl
    · refine Eq.trans (g_A dX10_migrate_109 rfl rfl) ?_
      refine Eq.trans (g_A dX10_migrate_110 rfl rfl) ?_
      refine Eq.trans (g_A dX10_migrate_111 rfl rfl) ?_
      refine Eq.trans (g_getR dX10_migrate_112 f27 sh34 rfl rfl) ?_
      refine Eq.trans (g_A dX10_migrate_115 rfl rfl) ?_
      refine Eq.trans (g_iald dX10_migrate_117 sh46 rfl) ?_
      refine am_ite ?_ rfl
      refine Eq.trans (g_A dX10_migrate_118 rfl rfl) ?_
      refine Eq.trans (g_getR dX10_migrate_119 f28 sh34 rfl rfl) ?_
      refine Eq.trans (g_A dX10_migrate_122 rfl rfl) ?_
      refine Eq.trans (g_iald dX10_migrate_124 sh47 rfl) ?_
      refine am_ite ?_ rfl
      refine Eq.trans (g_A dX10_migrate_125 rfl rfl) ?_
      refine Eq.trans (g_getR dX10_migrate_126 f29 sh34 rfl rfl) ?_
      refine Eq.trans (g_A dX10_migrate_129 rfl rfl) ?_
      refine Eq.trans (g_iald dX10_migrate_131 sh48 rfl) ?_
      refine am_ite ?_ rfl
      refine Eq.trans (g_A dX10_migrate_132 rfl rfl) ?_
      refine Eq.trans (g_getR dX10_migrate_133 f30 sh34 rfl rfl) ?_
      refine Eq.trans (g_A dX10_migrate_136 rfl rfl) ?_
      refine Eq.trans (g_lald dX10_migrate_138 sh49 rfl) ?_
      refine am_ite ?_ rfl
      refine Eq.trans (g_vV (a := 34) (as := [.int v2, .int (t1.1 46 (v4 : Int32).toNatClampNeg), .int (t1.1 47 (v4 : Int32).toNatClampNeg), .int (t1.1 48 (v4 : Int32).toNatClampNeg), .long (t1.2.1 49 (v4 : Int32).toNatClampNeg)]) (rest := []) dX10_migrate_139 cl104 m188 rfl rfl rfl rfl (Nat.le_of_ble_eq_true rfl) rfl rfl rfl rfl) ?_
      refine am_bV_c (fun t2 => ?_)
      refine Eq.trans (g_inc (v := v4 + nI 1) dX10_migrate_142 rfl (Nat.le_of_ble_eq_true rfl) rfl rfl rfl rfl) ?_
      refine Eq.trans (g_goto (pc' := 82) dX10_migrate_145 rfl) ?_
      rfl
theorem q260_0 (C : am_C) (σ : am_M) : am_go am_X0 C M260 0 [.ref 34, .null, .null] [] σ = am_go am_X0 C M260 9 [.ref 34, .int (nI 0), .int (nI 0)] [] (am_wI σ 34 25 (nI 0)) := by
  refine Eq.trans (g_A dX10_redundantMedia_0 rfl rfl) ?_
  refine Eq.trans (g_K (v := nI 0) dX10_redundantMedia_1 rfl rfl) ?_
  refine Eq.trans (g_put dX10_redundantMedia_2 f13 sh34 rfl rfl rfl) ?_
  refine Eq.trans (g_K (v := nI 0) dX10_redundantMedia_5 rfl rfl) ?_
  refine Eq.trans (g_isn (k := 1) dX10_redundantMedia_6 rfl (Nat.le_of_ble_eq_true rfl) rfl rfl rfl) ?_
  refine Eq.trans (g_K (v := nI 0) dX10_redundantMedia_7 rfl rfl) ?_
  refine Eq.trans (g_isn (k := 2) dX10_redundantMedia_8 rfl (Nat.le_of_ble_eq_true rfl) rfl rfl rfl) ?_
  rfl
theorem q260_9 (C : am_C) (σ : am_M) (v1 v2 : Int32) : am_go am_X0 C M260 9 [.ref 34, .int v1, .int v2] [] σ = if (σ.1 34 22) ≤ v2 then (some (.inl (some (.int v1)), σ)) else (if am_in v2 8 = true then (if σ.1 44 (v2 : Int32).toNatClampNeg = nI 0 then (am_bI (C 194 [.ref 34, .int v2] σ) (fun r1 t1 => if r1 = nI 0 then (am_go am_X0 C M260 9 [.ref 34, .int (v1 ||| ((nI 1) <<< (v2 &&& 31))), .int (v2 + nI 1)] [] t1) else (am_go am_X0 C M260 9 [.ref 34, .int (v1 ||| (nI 0)), .int (v2 + nI 1)] [] t1))) else (am_go am_X0 C M260 9 [.ref 34, .int (v1 ||| (nI 0)), .int (v2 + nI 1)] [] σ)) else none) := by
  refine Eq.trans (g_A dX10_redundantMedia_9 rfl rfl) ?_
  refine Eq.trans (g_A dX10_redundantMedia_10 rfl rfl) ?_
  refine Eq.trans (g_getI dX10_redundantMedia_11 f23 sh34 rfl rfl) ?_
  refine Eq.trans (g_icge (t := 50) dX10_redundantMedia_14 rfl rfl) ?_
  refine am_ite ?_ ?_
  · refine Eq.trans (g_A dX10_redundantMedia_50 rfl rfl) ?_
    exact g_iret dX10_redundantMedia_51 rfl
  · refine Eq.trans (g_A dX10_redundantMedia_17 rfl rfl) ?_
    refine Eq.trans (g_A dX10_redundantMedia_18 rfl rfl) ?_
    refine Eq.trans (g_getR dX10_redundantMedia_19 f21 sh34 rfl rfl) ?_
    refine Eq.trans (g_A dX10_redundantMedia_22 rfl rfl) ?_
    refine Eq.trans (g_iald dX10_redundantMedia_23 sh44 rfl) ?_
    refine am_ite ?_ rfl
    refine Eq.trans (g_ifne (t := 41) dX10_redundantMedia_24 rfl rfl) ?_
    refine am_ite ?_ ?_
    · refine Eq.trans (g_A dX10_redundantMedia_27 rfl rfl) ?_
      refine Eq.trans (g_A dX10_redundantMedia_28 rfl rfl) ?_
      refine Eq.trans (g_vI (a := 34) (as := [.int v2]) (rest := [.int v1]) dX10_redundantMedia_29 cl144 m194 rfl rfl rfl rfl (Nat.le_of_ble_eq_true rfl) rfl rfl rfl rfl) ?_
      refine am_bI_c (fun r1 t1 => ?_)
      refine Eq.trans (g_ifne (t := 41) dX10_redundantMedia_32 rfl rfl) ?_
      refine am_ite ?_ ?_
      · refine Eq.trans (g_K (v := nI 1) dX10_redundantMedia_35 rfl rfl) ?_
        refine Eq.trans (g_A dX10_redundantMedia_36 rfl rfl) ?_
        refine Eq.trans (g_ishl dX10_redundantMedia_37 rfl) ?_
        refine Eq.trans (g_goto (pc' := 42) dX10_redundantMedia_38 rfl) ?_
        refine Eq.trans (g_ior dX10_redundantMedia_42 rfl) ?_
        refine Eq.trans (g_isn (k := 1) dX10_redundantMedia_43 rfl (Nat.le_of_ble_eq_true rfl) rfl rfl rfl) ?_
        refine Eq.trans (g_inc (v := v2 + nI 1) dX10_redundantMedia_44 rfl (Nat.le_of_ble_eq_true rfl) rfl rfl rfl rfl) ?_
        refine Eq.trans (g_goto (pc' := 9) dX10_redundantMedia_47 rfl) ?_
        rfl
      · refine Eq.trans (g_K (v := nI 0) dX10_redundantMedia_41 rfl rfl) ?_
        refine Eq.trans (g_ior dX10_redundantMedia_42 rfl) ?_
        refine Eq.trans (g_isn (k := 1) dX10_redundantMedia_43 rfl (Nat.le_of_ble_eq_true rfl) rfl rfl rfl) ?_
        refine Eq.trans (g_inc (v := v2 + nI 1) dX10_redundantMedia_44 rfl (Nat.le_of_ble_eq_true rfl) rfl rfl rfl rfl) ?_
        refine Eq.trans (g_goto (pc' := 9) dX10_redundantMedia_47 rfl) ?_
        rfl
    · refine Eq.trans (g_K (v := nI 0) dX10_redundantMedia_41 rfl rfl) ?_
      refine Eq.trans (g_ior dX10_redundantMedia_42 rfl) ?_
      refine Eq.trans (g_isn (k := 1) dX10_redundantMedia_43 rfl (Nat.le_of_ble_eq_true rfl) rfl rfl rfl) ?_
      refine Eq.trans (g_inc (v := v2 + nI 1) dX10_redundantMedia_44 rfl (Nat.le_of_ble_eq_true rfl) rfl rfl rfl rfl) ?_
      refine Eq.trans (g_goto (pc' := 9) dX10_redundantMedia_47 rfl) ?_
      rfl
theorem q261_0 (C : am_C) (σ : am_M) (v1 v2 v3 : Int32) : am_go am_X0 C M261 0 [.ref 34, .int v1, .int v2, .int v3, .null, .null] [] σ = am_go am_X0 C M261 6 [.ref 34, .int v1, .int v2, .int v3, .int (nI 0), .int (nI 0)] [] σ := by
  refine Eq.trans (g_K (v := nI 0) dX10_copiesOf_0 rfl rfl) ?_
  refine Eq.trans (g_ist (k := 4) dX10_copiesOf_1 (Nat.le_of_ble_eq_true rfl) rfl rfl rfl) ?_
  refine Eq.trans (g_K (v := nI 0) dX10_copiesOf_3 rfl rfl) ?_
  refine Eq.trans (g_ist (k := 5) dX10_copiesOf_4 (Nat.le_of_ble_eq_true rfl) rfl rfl rfl) ?_
  rfl
theorem q261_6 (C : am_C) (σ : am_M) (v1 v2 v3 v4 v5 : Int32) : am_go am_X0 C M261 6 [.ref 34, .int v1, .int v2, .int v3, .int v4, .int v5] [] σ = if (σ.1 34 22) ≤ v5 then (some (.inl (some (.int v4)), σ)) else (if am_in v5 8 = true then (if σ.1 44 (v5 : Int32).toNatClampNeg = nI 0 then (am_bI (C 191 [.ref 34, .int v5, .int v1, .int v2, .int v3] σ) (fun r1 t1 => if r1 = nI 0 then (am_go am_X0 C M261 6 [.ref 34, .int v1, .int v2, .int v3, .int (v4 + (nI 0)), .int (v5 + nI 1)] [] t1) else (am_go am_X0 C M261 6 [.ref 34, .int v1, .int v2, .int v3, .int (v4 + (nI 1)), .int (v5 + nI 1)] [] t1))) else (am_go am_X0 C M261 6 [.ref 34, .int v1, .int v2, .int v3, .int (v4 + (nI 0)), .int (v5 + nI 1)] [] σ)) else none) := by
  refine Eq.trans (g_A dX10_copiesOf_6 rfl rfl) ?_
  refine Eq.trans (g_A dX10_copiesOf_8 rfl rfl) ?_
  refine Eq.trans (g_getI dX10_copiesOf_9 f23 sh34 rfl rfl) ?_
  refine Eq.trans (g_icge (t := 53) dX10_copiesOf_12 rfl rfl) ?_
  refine am_ite ?_ ?_
  · refine Eq.trans (g_A dX10_copiesOf_53 rfl rfl) ?_
    exact g_iret dX10_copiesOf_55 rfl
  · refine Eq.trans (g_A dX10_copiesOf_15 rfl rfl) ?_
    refine Eq.trans (g_A dX10_copiesOf_17 rfl rfl) ?_
    refine Eq.trans (g_getR dX10_copiesOf_18 f21 sh34 rfl rfl) ?_
    refine Eq.trans (g_A dX10_copiesOf_21 rfl rfl) ?_
    refine Eq.trans (g_iald dX10_copiesOf_23 sh44 rfl) ?_
    refine am_ite ?_ rfl
    refine Eq.trans (g_ifne (t := 43) dX10_copiesOf_24 rfl rfl) ?_
    refine am_ite ?_ ?_
    · refine Eq.trans (g_A dX10_copiesOf_27 rfl rfl) ?_
      refine Eq.trans (g_A dX10_copiesOf_28 rfl rfl) ?_
      refine Eq.trans (g_A dX10_copiesOf_30 rfl rfl) ?_
      refine Eq.trans (g_A dX10_copiesOf_31 rfl rfl) ?_
      refine Eq.trans (g_A dX10_copiesOf_32 rfl rfl) ?_
      refine Eq.trans (g_vI (a := 34) (as := [.int v5, .int v1, .int v2, .int v3]) (rest := [.int v4]) dX10_copiesOf_33 cl105 m191 rfl rfl rfl rfl (Nat.le_of_ble_eq_true rfl) rfl rfl rfl rfl) ?_
      refine am_bI_c (fun r1 t1 => ?_)
      refine Eq.trans (g_ifeq (t := 43) dX10_copiesOf_36 rfl rfl) ?_
      refine am_ite ?_ ?_
      · refine Eq.trans (g_K (v := nI 0) dX10_copiesOf_43 rfl rfl) ?_
        refine Eq.trans (g_iadd dX10_copiesOf_44 rfl) ?_
        refine Eq.trans (g_ist (k := 4) dX10_copiesOf_45 (Nat.le_of_ble_eq_true rfl) rfl rfl rfl) ?_
        refine Eq.trans (g_inc (v := v5 + nI 1) dX10_copiesOf_47 rfl (Nat.le_of_ble_eq_true rfl) rfl rfl rfl rfl) ?_
        refine Eq.trans (g_goto (pc' := 6) dX10_copiesOf_50 rfl) ?_
        rfl
      · refine Eq.trans (g_K (v := nI 1) dX10_copiesOf_39 rfl rfl) ?_
        refine Eq.trans (g_goto (pc' := 44) dX10_copiesOf_40 rfl) ?_
        refine Eq.trans (g_iadd dX10_copiesOf_44 rfl) ?_
        refine Eq.trans (g_ist (k := 4) dX10_copiesOf_45 (Nat.le_of_ble_eq_true rfl) rfl rfl rfl) ?_
        refine Eq.trans (g_inc (v := v5 + nI 1) dX10_copiesOf_47 rfl (Nat.le_of_ble_eq_true rfl) rfl rfl rfl rfl) ?_
        refine Eq.trans (g_goto (pc' := 6) dX10_copiesOf_50 rfl) ?_
        rfl
    · refine Eq.trans (g_K (v := nI 0) dX10_copiesOf_43 rfl rfl) ?_
      refine Eq.trans (g_iadd dX10_copiesOf_44 rfl) ?_
      refine Eq.trans (g_ist (k := 4) dX10_copiesOf_45 (Nat.le_of_ble_eq_true rfl) rfl rfl rfl) ?_
      refine Eq.trans (g_inc (v := v5 + nI 1) dX10_copiesOf_47 rfl (Nat.le_of_ble_eq_true rfl) rfl rfl rfl rfl) ?_
      refine Eq.trans (g_goto (pc' := 6) dX10_copiesOf_50 rfl) ?_
      rfl
theorem q262_0 (C : am_C) (σ : am_M) (v1 : Int32) : am_go am_X0 C M262 0 [.ref 34, .int v1, .null, .null, .null] [] σ = am_bI (C 182 [.int v1] σ) (fun r1 t1 => if r1 = nI 0 then (am_go am_X0 C M262 13 [.ref 34, .int v1, .null, .null, .null] [.int (nI 1), .ref 34] t1) else (am_go am_X0 C M262 13 [.ref 34, .int v1, .null, .null, .null] [.int (nI 0), .ref 34] t1)) := by
  refine Eq.trans (g_A dX10_redundancy_0 rfl rfl) ?_
  refine Eq.trans (g_A dX10_redundancy_1 rfl rfl) ?_
  refine Eq.trans (g_sI (as := [.int v1]) (rest := [.ref 34]) dX10_redundancy_2 rfl cl114 m182 rfl rfl rfl rfl (Nat.le_of_ble_eq_true rfl) rfl rfl rfl) ?_
  refine am_bI_c (fun r1 t1 => ?_)
  refine Eq.trans (g_ifeq (t := 12) dX10_redundancy_5 rfl rfl) ?_
  refine am_ite ?_ ?_
  · refine Eq.trans (g_K (v := nI 1) dX10_redundancy_12 rfl rfl) ?_
    rfl
  · refine Eq.trans (g_K (v := nI 0) dX10_redundancy_8 rfl rfl) ?_
    refine Eq.trans (g_goto (pc' := 13) dX10_redundancy_9 rfl) ?_
    rfl
theorem q262_13 (C : am_C) (σ : am_M) (v1 s0 : Int32) : am_go am_X0 C M262 13 [.ref 34, .int v1, .null, .null, .null] [.int s0, .ref 34] σ = if ((am_wI σ 34 25 s0).1 34 25) ≤ (nI 0) then (if am_in v1 64 = true then (if (am_wI σ 34 25 s0).1 37 (v1 : Int32).toNatClampNeg = (-1) then (some (.inl (some (.int (-1))), am_wI σ 34 25 s0)) else (if am_in v1 64 = true then (if am_in ((nI 21) + v1) 85 = true then (am_bI (C 261 [.ref 34, .int (nI 1), .int ((am_wI σ 34 25 s0).1 37 (v1 : Int32).toNatClampNeg), .int ((am_wI σ 34 25 s0).1 35 ((nI 21) + v1 : Int32).toNatClampNeg)] (am_wI σ 34 25 s0)) (fun r1 t1 => am_go am_X0 C M262 60 [.ref 34, .int v1, .int ((nI 21) + v1), .int r1, .null] [] t1)) else none) else none)) else none) else (some (.inl (some (.int (nI 0))), am_wI σ 34 25 s0)) := by
  refine Eq.trans (g_put dX10_redundancy_13 f13 sh34 rfl rfl rfl) ?_
  refine Eq.trans (g_A dX10_redundancy_16 rfl rfl) ?_
  refine Eq.trans (g_getI dX10_redundancy_17 f13 sh34 rfl rfl) ?_
  refine Eq.trans (g_ifle (t := 25) dX10_redundancy_20 rfl rfl) ?_
  refine am_ite ?_ ?_
  · refine Eq.trans (g_A dX10_redundancy_25 rfl rfl) ?_
    refine Eq.trans (g_getR dX10_redundancy_26 f16 sh34 rfl rfl) ?_
    refine Eq.trans (g_A dX10_redundancy_29 rfl rfl) ?_
    refine Eq.trans (g_iald dX10_redundancy_30 sh37 rfl) ?_
    refine am_ite ?_ rfl
    refine Eq.trans (g_K (v := (-1)) dX10_redundancy_31 rfl rfl) ?_
    refine Eq.trans (g_icne (t := 37) dX10_redundancy_32 rfl rfl) ?_
    refine am_ite ?_ ?_
    · refine Eq.trans (g_K (v := (-1)) dX10_redundancy_35 rfl rfl) ?_
      exact g_iret dX10_redundancy_36 rfl
    · refine Eq.trans (g_K (v := nI 21) dX10_redundancy_37 rfl rfl) ?_
      refine Eq.trans (g_A dX10_redundancy_39 rfl rfl) ?_
      refine Eq.trans (g_iadd dX10_redundancy_40 rfl) ?_
      refine Eq.trans (g_isn (k := 2) dX10_redundancy_41 rfl (Nat.le_of_ble_eq_true rfl) rfl rfl rfl) ?_
      refine Eq.trans (g_A dX10_redundancy_42 rfl rfl) ?_
      refine Eq.trans (g_K (v := nI 1) dX10_redundancy_43 rfl rfl) ?_
      refine Eq.trans (g_A dX10_redundancy_44 rfl rfl) ?_
      refine Eq.trans (g_getR dX10_redundancy_45 f16 sh34 rfl rfl) ?_
      refine Eq.trans (g_A dX10_redundancy_48 rfl rfl) ?_
      refine Eq.trans (g_iald dX10_redundancy_49 sh37 rfl) ?_
      refine am_ite ?_ rfl
      refine Eq.trans (g_A dX10_redundancy_50 rfl rfl) ?_
      refine Eq.trans (g_getR dX10_redundancy_51 f15 sh34 rfl rfl) ?_
      refine Eq.trans (g_A dX10_redundancy_54 rfl rfl) ?_
      refine Eq.trans (g_iald dX10_redundancy_55 sh35 rfl) ?_
      refine am_ite ?_ rfl
      refine Eq.trans (g_vI (a := 34) (as := [.int (nI 1), .int ((am_wI σ 34 25 s0).1 37 (v1 : Int32).toNatClampNeg), .int ((am_wI σ 34 25 s0).1 35 ((nI 21) + v1 : Int32).toNatClampNeg)]) (rest := []) dX10_redundancy_56 cl146 m261 rfl rfl rfl rfl (Nat.le_of_ble_eq_true rfl) rfl rfl rfl rfl) ?_
      refine am_bI_c (fun r1 t1 => ?_)
      refine Eq.trans (g_isn (k := 3) dX10_redundancy_59 rfl (Nat.le_of_ble_eq_true rfl) rfl rfl rfl) ?_
      rfl
  · refine Eq.trans (g_K (v := nI 0) dX10_redundancy_23 rfl rfl) ?_
    exact g_iret dX10_redundancy_24 rfl
theorem q262_60 (C : am_C) (σ : am_M) (v1 v2 v3 : Int32) {u4 : Value} (hu4 : (!(u4.category == 2)) = true) : am_go am_X0 C M262 60 [.ref 34, .int v1, .int v2, .int v3, u4] [] σ = if v2 ≤ (nI 0) then (some (.inl (some (.int v3)), σ)) else (if am_in v2 85 = true then (am_bI (C 179 [.int v2] σ) (fun r1 t1 => if am_in r1 85 = true then (am_bI (C 261 [.ref 34, .int (nI 0), .int (σ.1 35 (v2 : Int32).toNatClampNeg), .int (t1.1 35 (r1 : Int32).toNatClampNeg)] t1) (fun r2 t2 => if v3 ≤ r2 then (am_go am_X0 C M262 98 [.ref 34, .int v1, .int v2, .int v3, .int r2] [.int v3] t2) else (am_go am_X0 C M262 98 [.ref 34, .int v1, .int v2, .int v3, .int r2] [.int r2] t2))) else none)) else none) := by
  refine Eq.trans (g_A dX10_redundancy_60 rfl rfl) ?_
  refine Eq.trans (g_ifle (t := 107) dX10_redundancy_61 rfl rfl) ?_
  refine am_ite ?_ ?_
  · refine Eq.trans (g_A dX10_redundancy_107 rfl rfl) ?_
    exact g_iret dX10_redundancy_108 rfl
  · refine Eq.trans (g_A dX10_redundancy_64 rfl rfl) ?_
    refine Eq.trans (g_K (v := nI 0) dX10_redundancy_65 rfl rfl) ?_
    refine Eq.trans (g_A dX10_redundancy_66 rfl rfl) ?_
    refine Eq.trans (g_getR dX10_redundancy_67 f15 sh34 rfl rfl) ?_
    refine Eq.trans (g_A dX10_redundancy_70 rfl rfl) ?_
    refine Eq.trans (g_iald dX10_redundancy_71 sh35 rfl) ?_
    refine am_ite ?_ rfl
    refine Eq.trans (g_A dX10_redundancy_72 rfl rfl) ?_
    refine Eq.trans (g_getR dX10_redundancy_73 f15 sh34 rfl rfl) ?_
    refine Eq.trans (g_A dX10_redundancy_76 rfl rfl) ?_
    refine Eq.trans (g_sI (as := [.int v2]) (rest := [.ref 35, .int (σ.1 35 (v2 : Int32).toNatClampNeg), .int (nI 0), .ref 34]) dX10_redundancy_77 rfl cl100 m179 rfl rfl rfl rfl (Nat.le_of_ble_eq_true rfl) rfl rfl rfl) ?_
    refine am_bI_c (fun r1 t1 => ?_)
    refine Eq.trans (g_iald dX10_redundancy_80 sh35 rfl) ?_
    refine am_ite ?_ rfl
    refine Eq.trans (g_vI (a := 34) (as := [.int (nI 0), .int (σ.1 35 (v2 : Int32).toNatClampNeg), .int (t1.1 35 (r1 : Int32).toNatClampNeg)]) (rest := []) dX10_redundancy_81 cl146 m261 rfl rfl rfl rfl (Nat.le_of_ble_eq_true rfl) rfl rfl rfl rfl) ?_
    refine am_bI_c (fun r2 t2 => ?_)
    refine Eq.trans (g_ist (k := 4) dX10_redundancy_84 (Nat.le_of_ble_eq_true rfl) rfl rfl rfl) ?_
    refine Eq.trans (g_A dX10_redundancy_86 rfl rfl) ?_
    refine Eq.trans (g_A dX10_redundancy_88 rfl rfl) ?_
    refine Eq.trans (g_icge (t := 97) dX10_redundancy_89 rfl rfl) ?_
    refine am_ite ?_ ?_
    · refine Eq.trans (g_A dX10_redundancy_97 rfl rfl) ?_
      rfl
    · refine Eq.trans (g_A dX10_redundancy_92 rfl rfl) ?_
      refine Eq.trans (g_goto (pc' := 98) dX10_redundancy_94 rfl) ?_
      rfl
theorem q262_98 (C : am_C) (σ : am_M) (v1 v2 v3 v4 s0 : Int32) : am_go am_X0 C M262 98 [.ref 34, .int v1, .int v2, .int v3, .int v4] [.int s0] σ = am_bI (C 179 [.int v2] σ) (fun r1 t1 => am_go am_X0 C M262 60 [.ref 34, .int v1, .int r1, .int s0, .int v4] [] t1) := by
  refine Eq.trans (g_isn (k := 3) dX10_redundancy_98 rfl (Nat.le_of_ble_eq_true rfl) rfl rfl rfl) ?_
  refine Eq.trans (g_A dX10_redundancy_99 rfl rfl) ?_
  refine Eq.trans (g_sI (as := [.int v2]) (rest := []) dX10_redundancy_100 rfl cl100 m179 rfl rfl rfl rfl (Nat.le_of_ble_eq_true rfl) rfl rfl rfl) ?_
  refine am_bI_c (fun r1 t1 => ?_)
  refine Eq.trans (g_isn (k := 2) dX10_redundancy_103 rfl (Nat.le_of_ble_eq_true rfl) rfl rfl rfl) ?_
  refine Eq.trans (g_goto (pc' := 60) dX10_redundancy_104 rfl) ?_
  rfl
theorem q263_0 (C : am_C) (σ : am_M) (v1 v2 v3 v4 : Int32) : am_go am_X0 C M263 0 [.ref 34, .int v1, .int v2, .int v3, .int v4] [] σ = am_bI (C 191 [.ref 34, .int v1, .int v2, .int v3, .int v4] σ) (fun r1 t1 => if r1 = nI 0 then (am_bI (C 192 [.ref 34, .int v2, .int v3, .int v4, .int v1] t1) (fun r2 t2 => if r2 = nI 0 then (some (.inl (some (.int (nI 0))), t2)) else (some (.inl (some (.int (nI 1))), t2)))) else (some (.inl (some (.int (nI 0))), t1))) := by
  refine Eq.trans (g_A dX10_lacks_0 rfl rfl) ?_
  refine Eq.trans (g_A dX10_lacks_1 rfl rfl) ?_
  refine Eq.trans (g_A dX10_lacks_2 rfl rfl) ?_
  refine Eq.trans (g_A dX10_lacks_3 rfl rfl) ?_
  refine Eq.trans (g_A dX10_lacks_4 rfl rfl) ?_
  refine Eq.trans (g_vI (a := 34) (as := [.int v1, .int v2, .int v3, .int v4]) (rest := []) dX10_lacks_6 cl105 m191 rfl rfl rfl rfl (Nat.le_of_ble_eq_true rfl) rfl rfl rfl rfl) ?_
  refine am_bI_c (fun r1 t1 => ?_)
  refine Eq.trans (g_ifne (t := 28) dX10_lacks_9 rfl rfl) ?_
  refine am_ite ?_ ?_
  · refine Eq.trans (g_A dX10_lacks_12 rfl rfl) ?_
    refine Eq.trans (g_A dX10_lacks_13 rfl rfl) ?_
    refine Eq.trans (g_A dX10_lacks_14 rfl rfl) ?_
    refine Eq.trans (g_A dX10_lacks_15 rfl rfl) ?_
    refine Eq.trans (g_A dX10_lacks_17 rfl rfl) ?_
    refine Eq.trans (g_vI (a := 34) (as := [.int v2, .int v3, .int v4, .int v1]) (rest := []) dX10_lacks_18 cl106 m192 rfl rfl rfl rfl (Nat.le_of_ble_eq_true rfl) rfl rfl rfl rfl) ?_
    refine am_bI_c (fun r2 t2 => ?_)
    refine Eq.trans (g_ifeq (t := 28) dX10_lacks_21 rfl rfl) ?_
    refine am_ite ?_ ?_
    · refine Eq.trans (g_K (v := nI 0) dX10_lacks_28 rfl rfl) ?_
      exact g_zl dX10_lacks_29 rfl (Or.inl rfl)
    · refine Eq.trans (g_K (v := nI 1) dX10_lacks_24 rfl rfl) ?_
      refine Eq.trans (g_goto (pc' := 29) dX10_lacks_25 rfl) ?_
      exact g_zl dX10_lacks_29 rfl (Or.inr rfl)
  · refine Eq.trans (g_K (v := nI 0) dX10_lacks_28 rfl rfl) ?_
    exact g_zl dX10_lacks_29 rfl (Or.inl rfl)
theorem q264_0 (C : am_C) (σ : am_M) (v1 v2 : Int32) : am_go am_X0 C M264 0 [.ref 34, .int v1, .int v2, .null, .null, .null] [] σ = am_go am_X0 C M264 5 [.ref 34, .int v1, .int v2, .int (nI 0), .int (nI 1), .null] [] σ := by
  refine Eq.trans (g_K (v := nI 0) dX10_duplicates_0 rfl rfl) ?_
  refine Eq.trans (g_isn (k := 3) dX10_duplicates_1 rfl (Nat.le_of_ble_eq_true rfl) rfl rfl rfl) ?_
  refine Eq.trans (g_K (v := nI 1) dX10_duplicates_2 rfl rfl) ?_
  refine Eq.trans (g_ist (k := 4) dX10_duplicates_3 (Nat.le_of_ble_eq_true rfl) rfl rfl rfl) ?_
  rfl
theorem q264_5 (C : am_C) (σ : am_M) (v1 v2 v3 v4 : Int32) : am_go am_X0 C M264 5 [.ref 34, .int v1, .int v2, .int v3, .int v4, .null] [] σ = if (nI 85) ≤ v4 then (am_go am_X0 C M264 88 [.ref 34, .int v1, .int v2, .int v3, .int (nI 0), .null] [] σ) else (if am_in v4 85 = true then (if σ.1 35 (v4 : Int32).toNatClampNeg = nI 0 then (am_go am_X0 C M264 5 [.ref 34, .int v1, .int v2, .int v3, .int (v4 + nI 1), .null] [] σ) else (if am_in v4 85 = true then (am_bI (C 179 [.int v4] σ) (fun r1 t1 => if am_in r1 85 = true then (am_bI (C 263 [.ref 34, .int v1, .int (nI 0), .int (σ.1 35 (v4 : Int32).toNatClampNeg), .int (t1.1 35 (r1 : Int32).toNatClampNeg)] t1) (fun r2 t2 => if r2 = nI 0 then (am_go am_X0 C M264 5 [.ref 34, .int v1, .int v2, .int v3, .int (v4 + nI 1), .null] [] t2) else (if v2 = nI 0 then (am_go am_X0 C M264 5 [.ref 34, .int v1, .int v2, .int (v3 + nI 1), .int (v4 + nI 1), .null] [] t2) else (if am_in v4 85 = true then (am_bI (C 179 [.int v4] t2) (fun r3 t3 => if am_in r3 85 = true then (am_bV (C 189 [.ref 34, .int (t2.1 35 (v4 : Int32).toNatClampNeg), .int (t3.1 35 (r3 : Int32).toNatClampNeg)] t3) (fun t4 => am_go am_X0 C M264 5 [.ref 34, .int v1, .int v2, .int (v3 + nI 1), .int (v4 + nI 1), .null] [] t4)) else none)) else none)))) else none)) else none)) else none) := by
  refine Eq.trans (g_A dX10_duplicates_5 rfl rfl) ?_
  refine Eq.trans (g_K (v := nI 85) dX10_duplicates_7 rfl rfl) ?_
  refine Eq.trans (g_icge (t := 85) dX10_duplicates_9 rfl rfl) ?_
  refine am_ite ?_ ?_
  · refine Eq.trans (g_K (v := nI 0) dX10_duplicates_85 rfl rfl) ?_
    refine Eq.trans (g_ist (k := 4) dX10_duplicates_86 (Nat.le_of_ble_eq_true rfl) rfl rfl rfl) ?_
    rfl
  · refine Eq.trans (g_A dX10_duplicates_12 rfl rfl) ?_
    refine Eq.trans (g_getR dX10_duplicates_13 f15 sh34 rfl rfl) ?_
    refine Eq.trans (g_A dX10_duplicates_16 rfl rfl) ?_
    refine Eq.trans (g_iald dX10_duplicates_18 sh35 rfl) ?_
    refine am_ite ?_ rfl
    refine Eq.trans (g_ifeq (t := 79) dX10_duplicates_19 rfl rfl) ?_
    refine am_ite ?_ ?_
    · refine Eq.trans (g_inc (v := v4 + nI 1) dX10_duplicates_79 rfl (Nat.le_of_ble_eq_true rfl) rfl rfl rfl rfl) ?_
      refine Eq.trans (g_goto (pc' := 5) dX10_duplicates_82 rfl) ?_
      rfl
    · refine Eq.trans (g_A dX10_duplicates_22 rfl rfl) ?_
      refine Eq.trans (g_A dX10_duplicates_23 rfl rfl) ?_
      refine Eq.trans (g_K (v := nI 0) dX10_duplicates_24 rfl rfl) ?_
      refine Eq.trans (g_A dX10_duplicates_25 rfl rfl) ?_
      refine Eq.trans (g_getR dX10_duplicates_26 f15 sh34 rfl rfl) ?_
      refine Eq.trans (g_A dX10_duplicates_29 rfl rfl) ?_
      refine Eq.trans (g_iald dX10_duplicates_31 sh35 rfl) ?_
      refine am_ite ?_ rfl
      refine Eq.trans (g_A dX10_duplicates_32 rfl rfl) ?_
      refine Eq.trans (g_getR dX10_duplicates_33 f15 sh34 rfl rfl) ?_
      refine Eq.trans (g_A dX10_duplicates_36 rfl rfl) ?_
      refine Eq.trans (g_sI (as := [.int v4]) (rest := [.ref 35, .int (σ.1 35 (v4 : Int32).toNatClampNeg), .int (nI 0), .int v1, .ref 34]) dX10_duplicates_38 rfl cl100 m179 rfl rfl rfl rfl (Nat.le_of_ble_eq_true rfl) rfl rfl rfl) ?_
      refine am_bI_c (fun r1 t1 => ?_)
      refine Eq.trans (g_iald dX10_duplicates_41 sh35 rfl) ?_
      refine am_ite ?_ rfl
      refine Eq.trans (g_vI (a := 34) (as := [.int v1, .int (nI 0), .int (σ.1 35 (v4 : Int32).toNatClampNeg), .int (t1.1 35 (r1 : Int32).toNatClampNeg)]) (rest := []) dX10_duplicates_42 cl147 m263 rfl rfl rfl rfl (Nat.le_of_ble_eq_true rfl) rfl rfl rfl rfl) ?_
      refine am_bI_c (fun r2 t2 => ?_)
      refine Eq.trans (g_ifne (t := 51) dX10_duplicates_45 rfl rfl) ?_
      refine am_ite ?_ ?_
      · refine Eq.trans (g_goto (pc' := 79) dX10_duplicates_48 rfl) ?_
        refine Eq.trans (g_inc (v := v4 + nI 1) dX10_duplicates_79 rfl (Nat.le_of_ble_eq_true rfl) rfl rfl rfl rfl) ?_
        refine Eq.trans (g_goto (pc' := 5) dX10_duplicates_82 rfl) ?_
        rfl
      · refine Eq.trans (g_inc (v := v3 + nI 1) dX10_duplicates_51 rfl (Nat.le_of_ble_eq_true rfl) rfl rfl rfl rfl) ?_
        refine Eq.trans (g_A dX10_duplicates_54 rfl rfl) ?_
        refine Eq.trans (g_ifeq (t := 79) dX10_duplicates_55 rfl rfl) ?_
        refine am_ite ?_ ?_
        · refine Eq.trans (g_inc (v := v4 + nI 1) dX10_duplicates_79 rfl (Nat.le_of_ble_eq_true rfl) rfl rfl rfl rfl) ?_
          refine Eq.trans (g_goto (pc' := 5) dX10_duplicates_82 rfl) ?_
          rfl
        · refine Eq.trans (g_A dX10_duplicates_58 rfl rfl) ?_
          refine Eq.trans (g_A dX10_duplicates_59 rfl rfl) ?_
          refine Eq.trans (g_getR dX10_duplicates_60 f15 sh34 rfl rfl) ?_
          refine Eq.trans (g_A dX10_duplicates_63 rfl rfl) ?_
          refine Eq.trans (g_iald dX10_duplicates_65 sh35 rfl) ?_
          refine am_ite ?_ rfl
          refine Eq.trans (g_A dX10_duplicates_66 rfl rfl) ?_
          refine Eq.trans (g_getR dX10_duplicates_67 f15 sh34 rfl rfl) ?_
          refine Eq.trans (g_A dX10_duplicates_70 rfl rfl) ?_
          refine Eq.trans (g_sI (as := [.int v4]) (rest := [.ref 35, .int (t2.1 35 (v4 : Int32).toNatClampNeg), .ref 34]) dX10_duplicates_72 rfl cl100 m179 rfl rfl rfl rfl (Nat.le_of_ble_eq_true rfl) rfl rfl rfl) ?_
          refine am_bI_c (fun r3 t3 => ?_)
          refine Eq.trans (g_iald dX10_duplicates_75 sh35 rfl) ?_
          refine am_ite ?_ rfl
          refine Eq.trans (g_vV (a := 34) (as := [.int (t2.1 35 (v4 : Int32).toNatClampNeg), .int (t3.1 35 (r3 : Int32).toNatClampNeg)]) (rest := []) dX10_duplicates_76 cl113 m189 rfl rfl rfl rfl (Nat.le_of_ble_eq_true rfl) rfl rfl rfl rfl) ?_
          refine am_bV_c (fun t4 => ?_)
          refine Eq.trans (g_inc (v := v4 + nI 1) dX10_duplicates_79 rfl (Nat.le_of_ble_eq_true rfl) rfl rfl rfl rfl) ?_
          refine Eq.trans (g_goto (pc' := 5) dX10_duplicates_82 rfl) ?_
          rfl
theorem q264_88 (C : am_C) (σ : am_M) (v1 v2 v3 v4 : Int32) {u5 : Value} (hu5 : (!(u5.category == 2)) = true) : am_go am_X0 C M264 88 [.ref 34, .int v1, .int v2, .int v3, .int v4, u5] [] σ = if (nI 64) ≤ v4 then (some (.inl (some (.int v3)), σ)) else (if am_in ((nI 21) + v4) 85 = true then (if am_in v4 64 = true then (if σ.1 37 (v4 : Int32).toNatClampNeg = (-1) then (am_go am_X0 C M264 88 [.ref 34, .int v1, .int v2, .int v3, .int (v4 + nI 1), .int (σ.1 35 ((nI 21) + v4 : Int32).toNatClampNeg)] [] σ) else (if am_in v4 64 = true then (am_bI (C 263 [.ref 34, .int v1, .int (nI 1), .int (σ.1 37 (v4 : Int32).toNatClampNeg), .int (σ.1 35 ((nI 21) + v4 : Int32).toNatClampNeg)] σ) (fun r1 t1 => if r1 = nI 0 then (am_go am_X0 C M264 88 [.ref 34, .int v1, .int v2, .int v3, .int (v4 + nI 1), .int (σ.1 35 ((nI 21) + v4 : Int32).toNatClampNeg)] [] t1) else (if v2 = nI 0 then (am_go am_X0 C M264 88 [.ref 34, .int v1, .int v2, .int (v3 + nI 1), .int (v4 + nI 1), .int (σ.1 35 ((nI 21) + v4 : Int32).toNatClampNeg)] [] t1) else (if am_in v4 64 = true then (if am_in v4 64 = true then (if am_in (t1.1 37 (v4 : Int32).toNatClampNeg) 200 = true then (am_bJ (C 190 [.ref 34, .int (σ.1 35 ((nI 21) + v4 : Int32).toNatClampNeg)] t1) (fun r2 t2 => am_bV (C 188 [.ref 34, .int v1, .int (nI 1), .int (t1.1 37 (v4 : Int32).toNatClampNeg), .int (σ.1 35 ((nI 21) + v4 : Int32).toNatClampNeg), .long ((t1.2.1 50 (t1.1 37 (v4 : Int32).toNatClampNeg : Int32).toNatClampNeg) ^^^ r2)] t2) (fun t3 => am_go am_X0 C M264 88 [.ref 34, .int v1, .int v2, .int (v3 + nI 1), .int (v4 + nI 1), .int (σ.1 35 ((nI 21) + v4 : Int32).toNatClampNeg)] [] t3))) else none) else none) else none)))) else none)) else none) else none) := by
  refine Eq.trans (g_A dX10_duplicates_88 rfl rfl) ?_
  refine Eq.trans (g_K (v := nI 64) dX10_duplicates_90 rfl rfl) ?_
  refine Eq.trans (g_icge (t := 186) dX10_duplicates_92 rfl rfl) ?_
  refine am_ite ?_ ?_
  · refine Eq.trans (g_A dX10_duplicates_186 rfl rfl) ?_
    exact g_iret dX10_duplicates_187 rfl
  · refine Eq.trans (g_A dX10_duplicates_95 rfl rfl) ?_
    refine Eq.trans (g_getR dX10_duplicates_96 f15 sh34 rfl rfl) ?_
    refine Eq.trans (g_K (v := nI 21) dX10_duplicates_99 rfl rfl) ?_
    refine Eq.trans (g_A dX10_duplicates_101 rfl rfl) ?_
    refine Eq.trans (g_iadd dX10_duplicates_103 rfl) ?_
    refine Eq.trans (g_iald dX10_duplicates_104 sh35 rfl) ?_
    refine am_ite ?_ rfl
    refine Eq.trans (g_ist (k := 5) dX10_duplicates_105 (Nat.le_of_ble_eq_true rfl) rfl rfl rfl) ?_
    refine Eq.trans (g_A dX10_duplicates_107 rfl rfl) ?_
    refine Eq.trans (g_getR dX10_duplicates_108 f16 sh34 rfl rfl) ?_
    refine Eq.trans (g_A dX10_duplicates_111 rfl rfl) ?_
    refine Eq.trans (g_iald dX10_duplicates_113 sh37 rfl) ?_
    refine am_ite ?_ rfl
    refine Eq.trans (g_K (v := (-1)) dX10_duplicates_114 rfl rfl) ?_
    refine Eq.trans (g_iceq (t := 180) dX10_duplicates_115 rfl rfl) ?_
    refine am_ite ?_ ?_
    · refine Eq.trans (g_inc (v := v4 + nI 1) dX10_duplicates_180 rfl (Nat.le_of_ble_eq_true rfl) rfl rfl rfl rfl) ?_
      refine Eq.trans (g_goto (pc' := 88) dX10_duplicates_183 rfl) ?_
      rfl
    · refine Eq.trans (g_A dX10_duplicates_118 rfl rfl) ?_
      refine Eq.trans (g_A dX10_duplicates_119 rfl rfl) ?_
      refine Eq.trans (g_K (v := nI 1) dX10_duplicates_120 rfl rfl) ?_
      refine Eq.trans (g_A dX10_duplicates_121 rfl rfl) ?_
      refine Eq.trans (g_getR dX10_duplicates_122 f16 sh34 rfl rfl) ?_
      refine Eq.trans (g_A dX10_duplicates_125 rfl rfl) ?_
      refine Eq.trans (g_iald dX10_duplicates_127 sh37 rfl) ?_
      refine am_ite ?_ rfl
      refine Eq.trans (g_A dX10_duplicates_128 rfl rfl) ?_
      refine Eq.trans (g_vI (a := 34) (as := [.int v1, .int (nI 1), .int (σ.1 37 (v4 : Int32).toNatClampNeg), .int (σ.1 35 ((nI 21) + v4 : Int32).toNatClampNeg)]) (rest := []) dX10_duplicates_130 cl147 m263 rfl rfl rfl rfl (Nat.le_of_ble_eq_true rfl) rfl rfl rfl rfl) ?_
      refine am_bI_c (fun r1 t1 => ?_)
      refine Eq.trans (g_ifne (t := 139) dX10_duplicates_133 rfl rfl) ?_
      refine am_ite ?_ ?_
      · refine Eq.trans (g_goto (pc' := 180) dX10_duplicates_136 rfl) ?_
        refine Eq.trans (g_inc (v := v4 + nI 1) dX10_duplicates_180 rfl (Nat.le_of_ble_eq_true rfl) rfl rfl rfl rfl) ?_
        refine Eq.trans (g_goto (pc' := 88) dX10_duplicates_183 rfl) ?_
        rfl
      · refine Eq.trans (g_inc (v := v3 + nI 1) dX10_duplicates_139 rfl (Nat.le_of_ble_eq_true rfl) rfl rfl rfl rfl) ?_
        refine Eq.trans (g_A dX10_duplicates_142 rfl rfl) ?_
        refine Eq.trans (g_ifeq (t := 180) dX10_duplicates_143 rfl rfl) ?_
        refine am_ite ?_ ?_
        · refine Eq.trans (g_inc (v := v4 + nI 1) dX10_duplicates_180 rfl (Nat.le_of_ble_eq_true rfl) rfl rfl rfl rfl) ?_
          refine Eq.trans (g_goto (pc' := 88) dX10_duplicates_183 rfl) ?_
          rfl
        · refine Eq.trans (g_A dX10_duplicates_146 rfl rfl) ?_
          refine Eq.trans (g_A dX10_duplicates_147 rfl rfl) ?_
          refine Eq.trans (g_K (v := nI 1) dX10_duplicates_148 rfl rfl) ?_
          refine Eq.trans (g_A dX10_duplicates_149 rfl rfl) ?_
          refine Eq.trans (g_getR dX10_duplicates_150 f16 sh34 rfl rfl) ?_
          refine Eq.trans (g_A dX10_duplicates_153 rfl rfl) ?_
          refine Eq.trans (g_iald dX10_duplicates_155 sh37 rfl) ?_
          refine am_ite ?_ rfl
          refine Eq.trans (g_A dX10_duplicates_156 rfl rfl) ?_
          refine Eq.trans (g_A dX10_duplicates_158 rfl rfl) ?_
          refine Eq.trans (g_getR dX10_duplicates_159 f33 sh34 rfl rfl) ?_
          refine Eq.trans (g_A dX10_duplicates_162 rfl rfl) ?_
          refine Eq.trans (g_getR dX10_duplicates_163 f16 sh34 rfl rfl) ?_
          refine Eq.trans (g_A dX10_duplicates_166 rfl rfl) ?_
          refine Eq.trans (g_iald dX10_duplicates_168 sh37 rfl) ?_
          refine am_ite ?_ rfl
          refine Eq.trans (g_lald dX10_duplicates_169 sh50 rfl) ?_
          refine am_ite ?_ rfl
          refine Eq.trans (g_A dX10_duplicates_170 rfl rfl) ?_
          refine Eq.trans (g_A dX10_duplicates_171 rfl rfl) ?_
          refine Eq.trans (g_vJ (a := 34) (as := [.int (σ.1 35 ((nI 21) + v4 : Int32).toNatClampNeg)]) (rest := [.long (t1.2.1 50 (t1.1 37 (v4 : Int32).toNatClampNeg : Int32).toNatClampNeg), .int (σ.1 35 ((nI 21) + v4 : Int32).toNatClampNeg), .int (t1.1 37 (v4 : Int32).toNatClampNeg), .int (nI 1), .int v1, .ref 34]) dX10_duplicates_173 cl117 m190 rfl rfl rfl rfl (Nat.le_of_ble_eq_true rfl) rfl rfl rfl rfl) ?_
          refine am_bJ_c (fun r2 t2 => ?_)
          refine Eq.trans (g_lxor dX10_duplicates_176 rfl) ?_
          refine Eq.trans (g_vV (a := 34) (as := [.int v1, .int (nI 1), .int (t1.1 37 (v4 : Int32).toNatClampNeg), .int (σ.1 35 ((nI 21) + v4 : Int32).toNatClampNeg), .long ((t1.2.1 50 (t1.1 37 (v4 : Int32).toNatClampNeg : Int32).toNatClampNeg) ^^^ r2)]) (rest := []) dX10_duplicates_177 cl104 m188 rfl rfl rfl rfl (Nat.le_of_ble_eq_true rfl) rfl rfl rfl rfl) ?_
          refine am_bV_c (fun t3 => ?_)
          refine Eq.trans (g_inc (v := v4 + nI 1) dX10_duplicates_180 rfl (Nat.le_of_ble_eq_true rfl) rfl rfl rfl rfl) ?_
          refine Eq.trans (g_goto (pc' := 88) dX10_duplicates_183 rfl) ?_
          rfl
theorem q265_0 (C : am_C) (σ : am_M) : am_go am_X0 C M265 0 [.ref 34, .null, .null] [] σ = am_bI (C 186 [.ref 34, .int (-1)] σ) (fun r1 t1 => if r1 = (-1) then (am_go am_X0 C M265 21 [.ref 34, .int r1, .null] [.int (nI 0)] t1) else (am_bI (C 264 [.ref 34, .int r1, .int (nI 0)] t1) (fun r2 t2 => am_go am_X0 C M265 21 [.ref 34, .int r1, .null] [.int r2] t2))) := by
  refine Eq.trans (g_A dX10_duplicate_0 rfl rfl) ?_
  refine Eq.trans (g_K (v := (-1)) dX10_duplicate_1 rfl rfl) ?_
  refine Eq.trans (g_vI (a := 34) (as := [.int (-1)]) (rest := []) dX10_duplicate_2 cl102 m186 rfl rfl rfl rfl (Nat.le_of_ble_eq_true rfl) rfl rfl rfl rfl) ?_
  refine am_bI_c (fun r1 t1 => ?_)
  refine Eq.trans (g_isn (k := 1) dX10_duplicate_5 rfl (Nat.le_of_ble_eq_true rfl) rfl rfl rfl) ?_
  refine Eq.trans (g_A dX10_duplicate_6 rfl rfl) ?_
  refine Eq.trans (g_K (v := (-1)) dX10_duplicate_7 rfl rfl) ?_
  refine Eq.trans (g_icne (t := 15) dX10_duplicate_8 rfl rfl) ?_
  refine am_ite ?_ ?_
  · refine Eq.trans (g_K (v := nI 0) dX10_duplicate_11 rfl rfl) ?_
    refine Eq.trans (g_goto (pc' := 21) dX10_duplicate_12 rfl) ?_
    rfl
  · refine Eq.trans (g_A dX10_duplicate_15 rfl rfl) ?_
    refine Eq.trans (g_A dX10_duplicate_16 rfl rfl) ?_
    refine Eq.trans (g_K (v := nI 0) dX10_duplicate_17 rfl rfl) ?_
    refine Eq.trans (g_vI (a := 34) (as := [.int r1, .int (nI 0)]) (rest := []) dX10_duplicate_18 cl148 m264 rfl rfl rfl rfl (Nat.le_of_ble_eq_true rfl) rfl rfl rfl rfl) ?_
    refine am_bI_c (fun r2 t2 => ?_)
    rfl
theorem q265_21 (C : am_C) (σ : am_M) (v1 s0 : Int32) : am_go am_X0 C M265 21 [.ref 34, .int v1, .null] [.int s0] σ = am_bI (C 187 [.ref 34, .int v1, .int s0] σ) (fun r1 t1 => if r1 = nI 0 then (am_go am_X0 C M265 37 [.ref 34, .int v1, .int s0] [.int (nI 1), .ref 34] t1) else (am_go am_X0 C M265 37 [.ref 34, .int v1, .int s0] [.int (nI 0), .ref 34] t1)) := by
  refine Eq.trans (g_isn (k := 2) dX10_duplicate_21 rfl (Nat.le_of_ble_eq_true rfl) rfl rfl rfl) ?_
  refine Eq.trans (g_A dX10_duplicate_22 rfl rfl) ?_
  refine Eq.trans (g_A dX10_duplicate_23 rfl rfl) ?_
  refine Eq.trans (g_A dX10_duplicate_24 rfl rfl) ?_
  refine Eq.trans (g_A dX10_duplicate_25 rfl rfl) ?_
  refine Eq.trans (g_vI (a := 34) (as := [.int v1, .int s0]) (rest := [.ref 34]) dX10_duplicate_26 cl116 m187 rfl rfl rfl rfl (Nat.le_of_ble_eq_true rfl) rfl rfl rfl rfl) ?_
  refine am_bI_c (fun r1 t1 => ?_)
  refine Eq.trans (g_ifeq (t := 36) dX10_duplicate_29 rfl rfl) ?_
  refine am_ite ?_ ?_
  · refine Eq.trans (g_K (v := nI 1) dX10_duplicate_36 rfl rfl) ?_
    rfl
  · refine Eq.trans (g_K (v := nI 0) dX10_duplicate_32 rfl rfl) ?_
    refine Eq.trans (g_goto (pc' := 37) dX10_duplicate_33 rfl) ?_
    rfl
theorem q265_37 (C : am_C) (σ : am_M) (v1 v2 s0 : Int32) : am_go am_X0 C M265 37 [.ref 34, .int v1, .int v2] [.int s0, .ref 34] σ = if (nI 0) < ((am_wI σ 34 25 s0).1 34 25) then (some (.inl (some (.int (nI 0))), am_wI σ 34 25 s0)) else (if v1 = (-1) then (some (.inl (some (.int (nI 0))), am_wI σ 34 25 s0)) else (am_bI (C 264 [.ref 34, .int v1, .int (nI 1)] (am_wI σ 34 25 s0)) (fun r1 t1 => some (.inl (some (.int r1)), t1)))) := by
  refine Eq.trans (g_put dX10_duplicate_37 f13 sh34 rfl rfl rfl) ?_
  refine Eq.trans (g_A dX10_duplicate_40 rfl rfl) ?_
  refine Eq.trans (g_getI dX10_duplicate_41 f13 sh34 rfl rfl) ?_
  refine Eq.trans (g_ifgt (t := 52) dX10_duplicate_44 rfl rfl) ?_
  refine am_ite ?_ ?_
  · refine Eq.trans (g_K (v := nI 0) dX10_duplicate_52 rfl rfl) ?_
    refine Eq.trans (g_goto (pc' := 62) dX10_duplicate_53 rfl) ?_
    exact g_iret dX10_duplicate_62 rfl
  · refine Eq.trans (g_A dX10_duplicate_47 rfl rfl) ?_
    refine Eq.trans (g_K (v := (-1)) dX10_duplicate_48 rfl rfl) ?_
    refine Eq.trans (g_icne (t := 56) dX10_duplicate_49 rfl rfl) ?_
    refine am_ite ?_ ?_
    · refine Eq.trans (g_K (v := nI 0) dX10_duplicate_52 rfl rfl) ?_
      refine Eq.trans (g_goto (pc' := 62) dX10_duplicate_53 rfl) ?_
      exact g_iret dX10_duplicate_62 rfl
    · refine Eq.trans (g_A dX10_duplicate_56 rfl rfl) ?_
      refine Eq.trans (g_A dX10_duplicate_57 rfl rfl) ?_
      refine Eq.trans (g_K (v := nI 1) dX10_duplicate_58 rfl rfl) ?_
      refine Eq.trans (g_vI (a := 34) (as := [.int v1, .int (nI 1)]) (rest := []) dX10_duplicate_59 cl148 m264 rfl rfl rfl rfl (Nat.le_of_ble_eq_true rfl) rfl rfl rfl rfl) ?_
      refine am_bI_c (fun r1 t1 => ?_)
      exact g_iret dX10_duplicate_62 rfl
theorem q266_0 (C : am_C) (σ : am_M) (v1 : Int32) : am_go am_X0 C M266 0 [.ref 34, .int v1, .null, .null] [] σ = if am_in v1 85 = true then (if σ.1 35 (v1 : Int32).toNatClampNeg = nI 0 then (some (.inl (some (.int (nI 0))), σ)) else (if am_in v1 85 = true then (am_bI (C 176 [.int (σ.1 35 (v1 : Int32).toNatClampNeg)] σ) (fun r1 t1 => if v1 < (nI 21) then (am_go am_X0 C M266 50 [.ref 34, .int v1, .int r1, .int (((nI 4) * v1) + (nI 1))] [] t1) else (if am_in (v1 - (nI 21)) 64 = true then (am_bI (C 176 [.int (r1 ^^^ ((t1.1 37 (v1 - (nI 21) : Int32).toNatClampNeg) + (nI 1)))] t1) (fun r2 t2 => some (.inl (some (.int r2)), t2))) else none))) else none)) else none := by
  refine Eq.trans (g_A dX10_hashOf_0 rfl rfl) ?_
  refine Eq.trans (g_getR dX10_hashOf_1 f15 sh34 rfl rfl) ?_
  refine Eq.trans (g_A dX10_hashOf_4 rfl rfl) ?_
  refine Eq.trans (g_iald dX10_hashOf_5 sh35 rfl) ?_
  refine am_ite ?_ rfl
  refine Eq.trans (g_ifne (t := 11) dX10_hashOf_6 rfl rfl) ?_
  refine am_ite ?_ ?_
  · refine Eq.trans (g_K (v := nI 0) dX10_hashOf_9 rfl rfl) ?_
    exact g_iret dX10_hashOf_10 rfl
  · refine Eq.trans (g_A dX10_hashOf_11 rfl rfl) ?_
    refine Eq.trans (g_getR dX10_hashOf_12 f15 sh34 rfl rfl) ?_
    refine Eq.trans (g_A dX10_hashOf_15 rfl rfl) ?_
    refine Eq.trans (g_iald dX10_hashOf_16 sh35 rfl) ?_
    refine am_ite ?_ rfl
    refine Eq.trans (g_sI (as := [.int (σ.1 35 (v1 : Int32).toNatClampNeg)]) (rest := []) dX10_hashOf_17 rfl cl99 m176 rfl rfl rfl rfl (Nat.le_of_ble_eq_true rfl) rfl rfl rfl) ?_
    refine am_bI_c (fun r1 t1 => ?_)
    refine Eq.trans (g_isn (k := 2) dX10_hashOf_20 rfl (Nat.le_of_ble_eq_true rfl) rfl rfl rfl) ?_
    refine Eq.trans (g_A dX10_hashOf_21 rfl rfl) ?_
    refine Eq.trans (g_K (v := nI 21) dX10_hashOf_22 rfl rfl) ?_
    refine Eq.trans (g_iclt (t := 44) dX10_hashOf_24 rfl rfl) ?_
    refine am_ite ?_ ?_
    · refine Eq.trans (g_K (v := nI 4) dX10_hashOf_44 rfl rfl) ?_
      refine Eq.trans (g_A dX10_hashOf_45 rfl rfl) ?_
      refine Eq.trans (g_imul dX10_hashOf_46 rfl) ?_
      refine Eq.trans (g_K (v := nI 1) dX10_hashOf_47 rfl rfl) ?_
      refine Eq.trans (g_iadd dX10_hashOf_48 rfl) ?_
      refine Eq.trans (g_isn (k := 3) dX10_hashOf_49 rfl (Nat.le_of_ble_eq_true rfl) rfl rfl rfl) ?_
      rfl
    · refine Eq.trans (g_A dX10_hashOf_27 rfl rfl) ?_
      refine Eq.trans (g_A dX10_hashOf_28 rfl rfl) ?_
      refine Eq.trans (g_getR dX10_hashOf_29 f16 sh34 rfl rfl) ?_
      refine Eq.trans (g_A dX10_hashOf_32 rfl rfl) ?_
      refine Eq.trans (g_K (v := nI 21) dX10_hashOf_33 rfl rfl) ?_
      refine Eq.trans (g_isub dX10_hashOf_35 rfl) ?_
      refine Eq.trans (g_iald dX10_hashOf_36 sh37 rfl) ?_
      refine am_ite ?_ rfl
      refine Eq.trans (g_K (v := nI 1) dX10_hashOf_37 rfl rfl) ?_
      refine Eq.trans (g_iadd dX10_hashOf_38 rfl) ?_
      refine Eq.trans (g_ixor dX10_hashOf_39 rfl) ?_
      refine Eq.trans (g_sI (as := [.int (r1 ^^^ ((t1.1 37 (v1 - (nI 21) : Int32).toNatClampNeg) + (nI 1)))]) (rest := []) dX10_hashOf_40 rfl cl99 m176 rfl rfl rfl rfl (Nat.le_of_ble_eq_true rfl) rfl rfl rfl) ?_
      refine am_bI_c (fun r2 t2 => ?_)
      exact g_iret dX10_hashOf_43 rfl
theorem q266_50 (C : am_C) (σ : am_M) (v1 v2 v3 : Int32) : am_go am_X0 C M266 50 [.ref 34, .int v1, .int v2, .int v3] [] σ = if (((nI 4) * v1) + (nI 4)) < v3 then (some (.inl (some (.int v2)), σ)) else (am_bI (C 266 [.ref 34, .int v3] σ) (fun r1 t1 => am_bI (C 176 [.int (v2 ^^^ r1)] t1) (fun r2 t2 => am_go am_X0 C M266 50 [.ref 34, .int v1, .int r2, .int (v3 + nI 1)] [] t2))) := by
  refine Eq.trans (g_A dX10_hashOf_50 rfl rfl) ?_
  refine Eq.trans (g_K (v := nI 4) dX10_hashOf_51 rfl rfl) ?_
  refine Eq.trans (g_A dX10_hashOf_52 rfl rfl) ?_
  refine Eq.trans (g_imul dX10_hashOf_53 rfl) ?_
  refine Eq.trans (g_K (v := nI 4) dX10_hashOf_54 rfl rfl) ?_
  refine Eq.trans (g_iadd dX10_hashOf_55 rfl) ?_
  refine Eq.trans (g_icgt (t := 76) dX10_hashOf_56 rfl rfl) ?_
  refine am_ite ?_ ?_
  · refine Eq.trans (g_A dX10_hashOf_76 rfl rfl) ?_
    exact g_iret dX10_hashOf_77 rfl
  · refine Eq.trans (g_A dX10_hashOf_59 rfl rfl) ?_
    refine Eq.trans (g_A dX10_hashOf_60 rfl rfl) ?_
    refine Eq.trans (g_A dX10_hashOf_61 rfl rfl) ?_
    refine Eq.trans (g_vI (a := 34) (as := [.int v3]) (rest := [.int v2]) dX10_hashOf_62 cl149 m266 rfl rfl rfl rfl (Nat.le_of_ble_eq_true rfl) rfl rfl rfl rfl) ?_
    refine am_bI_c (fun r1 t1 => ?_)
    refine Eq.trans (g_ixor dX10_hashOf_65 rfl) ?_
    refine Eq.trans (g_sI (as := [.int (v2 ^^^ r1)]) (rest := []) dX10_hashOf_66 rfl cl99 m176 rfl rfl rfl rfl (Nat.le_of_ble_eq_true rfl) rfl rfl rfl) ?_
    refine am_bI_c (fun r2 t2 => ?_)
    refine Eq.trans (g_isn (k := 2) dX10_hashOf_69 rfl (Nat.le_of_ble_eq_true rfl) rfl rfl rfl) ?_
    refine Eq.trans (g_inc (v := v3 + nI 1) dX10_hashOf_70 rfl (Nat.le_of_ble_eq_true rfl) rfl rfl rfl rfl) ?_
    refine Eq.trans (g_goto (pc' := 50) dX10_hashOf_73 rfl) ?_
    rfl
theorem q267_0 (C : am_C) (σ : am_M) (v1 : Int32) : am_go am_X0 C M267 0 [.ref 34, .int v1] [] σ = am_bI (C 183 [.int v1] σ) (fun r1 t1 => if r1 = nI 0 then (am_go am_X0 C M267 13 [.ref 34, .int v1] [.int (nI 1), .ref 34] t1) else (am_go am_X0 C M267 13 [.ref 34, .int v1] [.int (nI 0), .ref 34] t1)) := by
  refine Eq.trans (g_A dX10_hash_0 rfl rfl) ?_
  refine Eq.trans (g_A dX10_hash_1 rfl rfl) ?_
  refine Eq.trans (g_sI (as := [.int v1]) (rest := [.ref 34]) dX10_hash_2 rfl cl128 m183 rfl rfl rfl rfl (Nat.le_of_ble_eq_true rfl) rfl rfl rfl) ?_
  refine am_bI_c (fun r1 t1 => ?_)
  refine Eq.trans (g_ifeq (t := 12) dX10_hash_5 rfl rfl) ?_
  refine am_ite ?_ ?_
  · refine Eq.trans (g_K (v := nI 1) dX10_hash_12 rfl rfl) ?_
    rfl
  · refine Eq.trans (g_K (v := nI 0) dX10_hash_8 rfl rfl) ?_
    refine Eq.trans (g_goto (pc' := 13) dX10_hash_9 rfl) ?_
    rfl
theorem q267_13 (C : am_C) (σ : am_M) (v1 s0 : Int32) : am_go am_X0 C M267 13 [.ref 34, .int v1] [.int s0, .ref 34] σ = if ((am_wI σ 34 25 s0).1 34 25) ≤ (nI 0) then (am_bI (C 266 [.ref 34, .int v1] (am_wI σ 34 25 s0)) (fun r1 t1 => some (.inl (some (.int r1)), t1))) else (some (.inl (some (.int (nI 0))), am_wI σ 34 25 s0)) := by
  refine Eq.trans (g_put dX10_hash_13 f13 sh34 rfl rfl rfl) ?_
  refine Eq.trans (g_A dX10_hash_16 rfl rfl) ?_
  refine Eq.trans (g_getI dX10_hash_17 f13 sh34 rfl rfl) ?_
  refine Eq.trans (g_ifle (t := 27) dX10_hash_20 rfl rfl) ?_
  refine am_ite ?_ ?_
  · refine Eq.trans (g_A dX10_hash_27 rfl rfl) ?_
    refine Eq.trans (g_A dX10_hash_28 rfl rfl) ?_
    refine Eq.trans (g_vI (a := 34) (as := [.int v1]) (rest := []) dX10_hash_29 cl149 m266 rfl rfl rfl rfl (Nat.le_of_ble_eq_true rfl) rfl rfl rfl rfl) ?_
    refine am_bI_c (fun r1 t1 => ?_)
    exact g_iret dX10_hash_32 rfl
  · refine Eq.trans (g_K (v := nI 0) dX10_hash_23 rfl rfl) ?_
    refine Eq.trans (g_goto (pc' := 32) dX10_hash_24 rfl) ?_
    exact g_iret dX10_hash_32 rfl
theorem q268_0 (C : am_C) (σ : am_M) (v0 : Int32) : am_go am_X0 C M268 0 [.int v0] [] σ = am_bI (C 173 [.long ((v0 : Int32).toInt64), .long (0 : Int64), .long (3)] σ) (fun r1 t1 => if r1 = nI 0 ∨ r1 = nI 1 then some (.inl (some (.int r1)), t1) else none) := by
  refine Eq.trans (g_A dX10_isSlot_0 rfl rfl) ?_
  refine Eq.trans (g_i2l dX10_isSlot_1 rfl) ?_
  refine Eq.trans (g_KJ (v := (0 : Int64)) dX10_isSlot_2 rfl rfl) ?_
  refine Eq.trans (g_ld2 dX10_isSlot_3 kj5 rfl) ?_
  refine Eq.trans (g_sI (as := [.long ((v0 : Int32).toInt64), .long (0 : Int64), .long (3)]) (rest := []) dX10_isSlot_6 rfl cl101 m173 rfl rfl rfl rfl (Nat.le_of_ble_eq_true rfl) rfl rfl rfl) ?_
  refine am_bI_c (fun r1 t1 => ?_)
  exact g_zret dX10_isSlot_9 rfl
theorem q269_0 (C : am_C) (σ : am_M) (v1 v2 : Int32) : am_go am_X0 C M269 0 [.ref 34, .int v1, .int v2, .null, .null, .null, .null] [] σ = am_bI (C 268 [.int v1] σ) (fun r1 t1 => if r1 = nI 0 then (am_go am_X0 C M269 19 [.ref 34, .int v1, .int v2, .null, .null, .null, .null] [.ref 34] t1) else (am_bI (C 182 [.int v2] t1) (fun r2 t2 => if r2 = nI 0 then (am_go am_X0 C M269 19 [.ref 34, .int v1, .int v2, .null, .null, .null, .null] [.ref 34] t2) else (am_go am_X0 C M269 20 [.ref 34, .int v1, .int v2, .null, .null, .null, .null] [.int (nI 0), .ref 34] t2)))) := by
  refine Eq.trans (g_A dX10_keepProof_0 rfl rfl) ?_
  refine Eq.trans (g_A dX10_keepProof_1 rfl rfl) ?_
  refine Eq.trans (g_sI (as := [.int v1]) (rest := [.ref 34]) dX10_keepProof_2 rfl cl150 m268 rfl rfl rfl rfl (Nat.le_of_ble_eq_true rfl) rfl rfl rfl) ?_
  refine am_bI_c (fun r1 t1 => ?_)
  refine Eq.trans (g_ifeq (t := 19) dX10_keepProof_5 rfl rfl) ?_
  refine am_ite ?_ ?_
  · rfl
  · refine Eq.trans (g_A dX10_keepProof_8 rfl rfl) ?_
    refine Eq.trans (g_sI (as := [.int v2]) (rest := [.ref 34]) dX10_keepProof_9 rfl cl114 m182 rfl rfl rfl rfl (Nat.le_of_ble_eq_true rfl) rfl rfl rfl) ?_
    refine am_bI_c (fun r2 t2 => ?_)
    refine Eq.trans (g_ifeq (t := 19) dX10_keepProof_12 rfl rfl) ?_
    refine am_ite ?_ ?_
    · rfl
    · refine Eq.trans (g_K (v := nI 0) dX10_keepProof_15 rfl rfl) ?_
      refine Eq.trans (g_goto (pc' := 20) dX10_keepProof_16 rfl) ?_
      rfl
theorem q269_19 (C : am_C) (σ : am_M) (v1 v2 : Int32) : am_go am_X0 C M269 19 [.ref 34, .int v1, .int v2, .null, .null, .null, .null] [.ref 34] σ = am_go am_X0 C M269 20 [.ref 34, .int v1, .int v2, .null, .null, .null, .null] [.int (nI 1), .ref 34] σ := by
  refine Eq.trans (g_K (v := nI 1) dX10_keepProof_19 rfl rfl) ?_
  rfl
theorem q269_20 (C : am_C) (σ : am_M) (v1 v2 s0 : Int32) : am_go am_X0 C M269 20 [.ref 34, .int v1, .int v2, .null, .null, .null, .null] [.int s0, .ref 34] σ = if ((am_wI σ 34 25 s0).1 34 25) ≤ (nI 0) then (if am_in v1 4 = true then (am_bI (C 266 [.ref 34, .int ((nI 21) + v2)] (am_wI (am_wI σ 34 25 s0) 54 (v1 : Int32).toNatClampNeg v2)) (fun r1 t1 => if am_in ((nI 13) * v1) 52 = true then (am_go am_X0 C M269 67 [.ref 34, .int v1, .int v2, .int (((nI 13) * v1) + nI 1), .int ((nI 21) + v2), .null, .null] [] (am_wI t1 53 ((nI 13) * v1 : Int32).toNatClampNeg r1)) else none)) else none) else (some (.inl (some (.int (nI 0))), am_wI σ 34 25 s0)) := by
  refine Eq.trans (g_put dX10_keepProof_20 f13 sh34 rfl rfl rfl) ?_
  refine Eq.trans (g_A dX10_keepProof_23 rfl rfl) ?_
  refine Eq.trans (g_getI dX10_keepProof_24 f13 sh34 rfl rfl) ?_
  refine Eq.trans (g_ifle (t := 32) dX10_keepProof_27 rfl rfl) ?_
  refine am_ite ?_ ?_
  · refine Eq.trans (g_K (v := nI 13) dX10_keepProof_32 rfl rfl) ?_
    refine Eq.trans (g_A dX10_keepProof_34 rfl rfl) ?_
    refine Eq.trans (g_imul dX10_keepProof_35 rfl) ?_
    refine Eq.trans (g_isn (k := 3) dX10_keepProof_36 rfl (Nat.le_of_ble_eq_true rfl) rfl rfl rfl) ?_
    refine Eq.trans (g_A dX10_keepProof_37 rfl rfl) ?_
    refine Eq.trans (g_getR dX10_keepProof_38 f20 sh34 rfl rfl) ?_
    refine Eq.trans (g_A dX10_keepProof_41 rfl rfl) ?_
    refine Eq.trans (g_A dX10_keepProof_42 rfl rfl) ?_
    refine Eq.trans (g_iast dX10_keepProof_43 sh54 rfl) ?_
    refine am_ite ?_ rfl
    refine Eq.trans (g_A dX10_keepProof_44 rfl rfl) ?_
    refine Eq.trans (g_getR dX10_keepProof_45 f41 sh34 rfl rfl) ?_
    refine Eq.trans (g_A dX10_keepProof_48 rfl rfl) ?_
    refine Eq.trans (g_A dX10_keepProof_49 rfl rfl) ?_
    refine Eq.trans (g_K (v := nI 21) dX10_keepProof_50 rfl rfl) ?_
    refine Eq.trans (g_A dX10_keepProof_52 rfl rfl) ?_
    refine Eq.trans (g_iadd dX10_keepProof_53 rfl) ?_
    refine Eq.trans (g_vI (a := 34) (as := [.int ((nI 21) + v2)]) (rest := [.int ((nI 13) * v1), .ref 53]) dX10_keepProof_54 cl149 m266 rfl rfl rfl rfl (Nat.le_of_ble_eq_true rfl) rfl rfl rfl rfl) ?_
    refine am_bI_c (fun r1 t1 => ?_)
    refine Eq.trans (g_iast dX10_keepProof_57 sh53 rfl) ?_
    refine am_ite ?_ rfl
    refine Eq.trans (g_inc (v := ((nI 13) * v1) + nI 1) dX10_keepProof_58 rfl (Nat.le_of_ble_eq_true rfl) rfl rfl rfl rfl) ?_
    refine Eq.trans (g_K (v := nI 21) dX10_keepProof_61 rfl rfl) ?_
    refine Eq.trans (g_A dX10_keepProof_63 rfl rfl) ?_
    refine Eq.trans (g_iadd dX10_keepProof_64 rfl) ?_
    refine Eq.trans (g_ist (k := 4) dX10_keepProof_65 (Nat.le_of_ble_eq_true rfl) rfl rfl rfl) ?_
    rfl
  · refine Eq.trans (g_K (v := nI 0) dX10_keepProof_30 rfl rfl) ?_
    exact g_iret dX10_keepProof_31 rfl
theorem q269_67 (C : am_C) (σ : am_M) (v1 v2 v3 v4 : Int32) {u5 : Value} (hu5 : (!(u5.category == 2)) = true) {u6 : Value} (hu6 : (!(u6.category == 2)) = true) : am_go am_X0 C M269 67 [.ref 34, .int v1, .int v2, .int v3, .int v4, u5, u6] [] σ = if v4 ≤ (nI 0) then (if am_in ((nI 13) * v1) 52 = true then (some (.inl (some (.int (σ.1 53 ((nI 13) * v1 : Int32).toNatClampNeg))), σ)) else none) else (am_bI (C 179 [.int v4] σ) (fun r1 t1 => if am_in r1 85 = true then (if am_in v3 52 = true then (am_go am_X0 C M269 103 [.ref 34, .int v1, .int v2, .int (v3 + nI 1), .int v4, .int r1, .int (((nI 4) * r1) + (nI 1))] [] (am_wI t1 53 (v3 : Int32).toNatClampNeg (t1.1 35 (r1 : Int32).toNatClampNeg))) else none) else none)) := by
  refine Eq.trans (g_A dX10_keepProof_67 rfl rfl) ?_
  refine Eq.trans (g_ifle (t := 155) dX10_keepProof_69 rfl rfl) ?_
  refine am_ite ?_ ?_
  · refine Eq.trans (g_A dX10_keepProof_155 rfl rfl) ?_
    refine Eq.trans (g_getR dX10_keepProof_156 f41 sh34 rfl rfl) ?_
    refine Eq.trans (g_K (v := nI 13) dX10_keepProof_159 rfl rfl) ?_
    refine Eq.trans (g_A dX10_keepProof_161 rfl rfl) ?_
    refine Eq.trans (g_imul dX10_keepProof_162 rfl) ?_
    refine Eq.trans (g_iald dX10_keepProof_163 sh53 rfl) ?_
    refine am_ite ?_ rfl
    exact g_iret dX10_keepProof_164 rfl
  · refine Eq.trans (g_A dX10_keepProof_72 rfl rfl) ?_
    refine Eq.trans (g_sI (as := [.int v4]) (rest := []) dX10_keepProof_74 rfl cl100 m179 rfl rfl rfl rfl (Nat.le_of_ble_eq_true rfl) rfl rfl rfl) ?_
    refine am_bI_c (fun r1 t1 => ?_)
    refine Eq.trans (g_ist (k := 5) dX10_keepProof_77 (Nat.le_of_ble_eq_true rfl) rfl rfl rfl) ?_
    refine Eq.trans (g_A dX10_keepProof_79 rfl rfl) ?_
    refine Eq.trans (g_getR dX10_keepProof_80 f41 sh34 rfl rfl) ?_
    refine Eq.trans (g_A dX10_keepProof_83 rfl rfl) ?_
    refine Eq.trans (g_A dX10_keepProof_84 rfl rfl) ?_
    refine Eq.trans (g_getR dX10_keepProof_85 f15 sh34 rfl rfl) ?_
    refine Eq.trans (g_A dX10_keepProof_88 rfl rfl) ?_
    refine Eq.trans (g_iald dX10_keepProof_90 sh35 rfl) ?_
    refine am_ite ?_ rfl
    refine Eq.trans (g_iast dX10_keepProof_91 sh53 rfl) ?_
    refine am_ite ?_ rfl
    refine Eq.trans (g_inc (v := v3 + nI 1) dX10_keepProof_92 rfl (Nat.le_of_ble_eq_true rfl) rfl rfl rfl rfl) ?_
    refine Eq.trans (g_K (v := nI 4) dX10_keepProof_95 rfl rfl) ?_
    refine Eq.trans (g_A dX10_keepProof_96 rfl rfl) ?_
    refine Eq.trans (g_imul dX10_keepProof_98 rfl) ?_
    refine Eq.trans (g_K (v := nI 1) dX10_keepProof_99 rfl rfl) ?_
    refine Eq.trans (g_iadd dX10_keepProof_100 rfl) ?_
    refine Eq.trans (g_ist (k := 6) dX10_keepProof_101 (Nat.le_of_ble_eq_true rfl) rfl rfl rfl) ?_
    rfl
theorem q269_103 (C : am_C) (σ : am_M) (v1 v2 v3 v4 v5 v6 : Int32) : am_go am_X0 C M269 103 [.ref 34, .int v1, .int v2, .int v3, .int v4, .int v5, .int v6] [] σ = if (((nI 4) * v5) + (nI 4)) < v6 then (am_bI (C 179 [.int v4] σ) (fun r1 t1 => am_go am_X0 C M269 67 [.ref 34, .int v1, .int v2, .int v3, .int r1, .int v5, .int v6] [] t1)) else (if v6 = v4 then (am_go am_X0 C M269 103 [.ref 34, .int v1, .int v2, .int v3, .int v4, .int v5, .int (v6 + nI 1)] [] σ) else (am_bI (C 266 [.ref 34, .int v6] σ) (fun r2 t2 => if am_in v3 52 = true then (am_go am_X0 C M269 103 [.ref 34, .int v1, .int v2, .int (v3 + nI 1), .int v4, .int v5, .int (v6 + nI 1)] [] (am_wI t2 53 (v3 : Int32).toNatClampNeg r2)) else none))) := by
  refine Eq.trans (g_A dX10_keepProof_103 rfl rfl) ?_
  refine Eq.trans (g_K (v := nI 4) dX10_keepProof_105 rfl rfl) ?_
  refine Eq.trans (g_A dX10_keepProof_106 rfl rfl) ?_
  refine Eq.trans (g_imul dX10_keepProof_108 rfl) ?_
  refine Eq.trans (g_K (v := nI 4) dX10_keepProof_109 rfl rfl) ?_
  refine Eq.trans (g_iadd dX10_keepProof_110 rfl) ?_
  refine Eq.trans (g_icgt (t := 145) dX10_keepProof_111 rfl rfl) ?_
  refine am_ite ?_ ?_
  · refine Eq.trans (g_A dX10_keepProof_145 rfl rfl) ?_
    refine Eq.trans (g_sI (as := [.int v4]) (rest := []) dX10_keepProof_147 rfl cl100 m179 rfl rfl rfl rfl (Nat.le_of_ble_eq_true rfl) rfl rfl rfl) ?_
    refine am_bI_c (fun r1 t1 => ?_)
    refine Eq.trans (g_ist (k := 4) dX10_keepProof_150 (Nat.le_of_ble_eq_true rfl) rfl rfl rfl) ?_
    refine Eq.trans (g_goto (pc' := 67) dX10_keepProof_152 rfl) ?_
    rfl
  · refine Eq.trans (g_A dX10_keepProof_114 rfl rfl) ?_
    refine Eq.trans (g_A dX10_keepProof_116 rfl rfl) ?_
    refine Eq.trans (g_icne (t := 124) dX10_keepProof_118 rfl rfl) ?_
    refine am_ite ?_ ?_
    · refine Eq.trans (g_goto (pc' := 139) dX10_keepProof_121 rfl) ?_
      refine Eq.trans (g_inc (v := v6 + nI 1) dX10_keepProof_139 rfl (Nat.le_of_ble_eq_true rfl) rfl rfl rfl rfl) ?_
      refine Eq.trans (g_goto (pc' := 103) dX10_keepProof_142 rfl) ?_
      rfl
    · refine Eq.trans (g_A dX10_keepProof_124 rfl rfl) ?_
      refine Eq.trans (g_getR dX10_keepProof_125 f41 sh34 rfl rfl) ?_
      refine Eq.trans (g_A dX10_keepProof_128 rfl rfl) ?_
      refine Eq.trans (g_A dX10_keepProof_129 rfl rfl) ?_
      refine Eq.trans (g_A dX10_keepProof_130 rfl rfl) ?_
      refine Eq.trans (g_vI (a := 34) (as := [.int v6]) (rest := [.int v3, .ref 53]) dX10_keepProof_132 cl149 m266 rfl rfl rfl rfl (Nat.le_of_ble_eq_true rfl) rfl rfl rfl rfl) ?_
      refine am_bI_c (fun r2 t2 => ?_)
      refine Eq.trans (g_iast dX10_keepProof_135 sh53 rfl) ?_
      refine am_ite ?_ rfl
      refine Eq.trans (g_inc (v := v3 + nI 1) dX10_keepProof_136 rfl (Nat.le_of_ble_eq_true rfl) rfl rfl rfl rfl) ?_
      refine Eq.trans (g_inc (v := v6 + nI 1) dX10_keepProof_139 rfl (Nat.le_of_ble_eq_true rfl) rfl rfl rfl rfl) ?_
      refine Eq.trans (g_goto (pc' := 103) dX10_keepProof_142 rfl) ?_
      rfl
theorem q270_0 (C : am_C) (σ : am_M) (v1 : Int32) : am_go am_X0 C M270 0 [.ref 34, .int v1] [] σ = am_bI (C 268 [.int v1] σ) (fun r1 t1 => if r1 = nI 0 then (some (.inl (some (.int (nI 1))), t1)) else (if am_in v1 4 = true then (if t1.1 54 (v1 : Int32).toNatClampNeg = (-1) then (some (.inl (some (.int (nI 2))), t1)) else (some (.inl (some (.int (nI 0))), t1))) else none)) := by
  refine Eq.trans (g_A dX10_proofRefusal_0 rfl rfl) ?_
  refine Eq.trans (g_sI (as := [.int v1]) (rest := []) dX10_proofRefusal_1 rfl cl150 m268 rfl rfl rfl rfl (Nat.le_of_ble_eq_true rfl) rfl rfl rfl) ?_
  refine am_bI_c (fun r1 t1 => ?_)
  refine Eq.trans (g_ifne (t := 11) dX10_proofRefusal_4 rfl rfl) ?_
  refine am_ite ?_ ?_
  · refine Eq.trans (g_K (v := nI 1) dX10_proofRefusal_7 rfl rfl) ?_
    refine Eq.trans (g_goto (pc' := 26) dX10_proofRefusal_8 rfl) ?_
    exact g_iret dX10_proofRefusal_26 rfl
  · refine Eq.trans (g_A dX10_proofRefusal_11 rfl rfl) ?_
    refine Eq.trans (g_getR dX10_proofRefusal_12 f20 sh34 rfl rfl) ?_
    refine Eq.trans (g_A dX10_proofRefusal_15 rfl rfl) ?_
    refine Eq.trans (g_iald dX10_proofRefusal_16 sh54 rfl) ?_
    refine am_ite ?_ rfl
    refine Eq.trans (g_K (v := (-1)) dX10_proofRefusal_17 rfl rfl) ?_
    refine Eq.trans (g_icne (t := 25) dX10_proofRefusal_18 rfl rfl) ?_
    refine am_ite ?_ ?_
    · refine Eq.trans (g_K (v := nI 2) dX10_proofRefusal_21 rfl rfl) ?_
      refine Eq.trans (g_goto (pc' := 26) dX10_proofRefusal_22 rfl) ?_
      exact g_iret dX10_proofRefusal_26 rfl
    · refine Eq.trans (g_K (v := nI 0) dX10_proofRefusal_25 rfl rfl) ?_
      exact g_iret dX10_proofRefusal_26 rfl
theorem q271_0 (C : am_C) (σ : am_M) (v1 v2 : Int32) : am_go am_X0 C M271 0 [.ref 34, .int v1, .int v2] [] σ = am_bI (C 268 [.int v1] σ) (fun r1 t1 => if r1 = nI 0 then (am_go am_X0 C M271 20 [.ref 34, .int v1, .int v2] [.ref 34] t1) else (am_bI (C 173 [.long ((v2 : Int32).toInt64), .long (0 : Int64), .long (12)] t1) (fun r2 t2 => if r2 = nI 0 then (am_go am_X0 C M271 20 [.ref 34, .int v1, .int v2] [.ref 34] t2) else (am_bI (C 270 [.ref 34, .int v1] t2) (fun r3 t3 => am_go am_X0 C M271 29 [.ref 34, .int v1, .int v2] [.int r3, .ref 34] t3))))) := by
  refine Eq.trans (g_A dX10_proofNumber_0 rfl rfl) ?_
  refine Eq.trans (g_A dX10_proofNumber_1 rfl rfl) ?_
  refine Eq.trans (g_sI (as := [.int v1]) (rest := [.ref 34]) dX10_proofNumber_2 rfl cl150 m268 rfl rfl rfl rfl (Nat.le_of_ble_eq_true rfl) rfl rfl rfl) ?_
  refine am_bI_c (fun r1 t1 => ?_)
  refine Eq.trans (g_ifeq (t := 20) dX10_proofNumber_5 rfl rfl) ?_
  refine am_ite ?_ ?_
  · rfl
  · refine Eq.trans (g_A dX10_proofNumber_8 rfl rfl) ?_
    refine Eq.trans (g_i2l dX10_proofNumber_9 rfl) ?_
    refine Eq.trans (g_KJ (v := (0 : Int64)) dX10_proofNumber_10 rfl rfl) ?_
    refine Eq.trans (g_ld2 dX10_proofNumber_11 kj12 rfl) ?_
    refine Eq.trans (g_sI (as := [.long ((v2 : Int32).toInt64), .long (0 : Int64), .long (12)]) (rest := [.ref 34]) dX10_proofNumber_14 rfl cl101 m173 rfl rfl rfl rfl (Nat.le_of_ble_eq_true rfl) rfl rfl rfl) ?_
    refine am_bI_c (fun r2 t2 => ?_)
    refine Eq.trans (g_ifne (t := 24) dX10_proofNumber_17 rfl rfl) ?_
    refine am_ite ?_ ?_
    · rfl
    · refine Eq.trans (g_A dX10_proofNumber_24 rfl rfl) ?_
      refine Eq.trans (g_A dX10_proofNumber_25 rfl rfl) ?_
      refine Eq.trans (g_vI (a := 34) (as := [.int v1]) (rest := [.ref 34]) dX10_proofNumber_26 cl151 m270 rfl rfl rfl rfl (Nat.le_of_ble_eq_true rfl) rfl rfl rfl rfl) ?_
      refine am_bI_c (fun r3 t3 => ?_)
      rfl
theorem q271_20 (C : am_C) (σ : am_M) (v1 v2 : Int32) : am_go am_X0 C M271 20 [.ref 34, .int v1, .int v2] [.ref 34] σ = am_go am_X0 C M271 29 [.ref 34, .int v1, .int v2] [.int (nI 1), .ref 34] σ := by
  refine Eq.trans (g_K (v := nI 1) dX10_proofNumber_20 rfl rfl) ?_
  refine Eq.trans (g_goto (pc' := 29) dX10_proofNumber_21 rfl) ?_
  rfl
theorem q271_29 (C : am_C) (σ : am_M) (v1 v2 s0 : Int32) : am_go am_X0 C M271 29 [.ref 34, .int v1, .int v2] [.int s0, .ref 34] σ = if ((am_wI σ 34 25 s0).1 34 25) ≤ (nI 0) then (if am_in (((nI 13) * v1) + v2) 52 = true then (some (.inl (some (.int ((am_wI σ 34 25 s0).1 53 (((nI 13) * v1) + v2 : Int32).toNatClampNeg))), am_wI σ 34 25 s0)) else none) else (some (.inl (some (.int (nI 0))), am_wI σ 34 25 s0)) := by
  refine Eq.trans (g_put dX10_proofNumber_29 f13 sh34 rfl rfl rfl) ?_
  refine Eq.trans (g_A dX10_proofNumber_32 rfl rfl) ?_
  refine Eq.trans (g_getI dX10_proofNumber_33 f13 sh34 rfl rfl) ?_
  refine Eq.trans (g_ifle (t := 43) dX10_proofNumber_36 rfl rfl) ?_
  refine am_ite ?_ ?_
  · refine Eq.trans (g_A dX10_proofNumber_43 rfl rfl) ?_
    refine Eq.trans (g_getR dX10_proofNumber_44 f41 sh34 rfl rfl) ?_
    refine Eq.trans (g_K (v := nI 13) dX10_proofNumber_47 rfl rfl) ?_
    refine Eq.trans (g_A dX10_proofNumber_49 rfl rfl) ?_
    refine Eq.trans (g_imul dX10_proofNumber_50 rfl) ?_
    refine Eq.trans (g_A dX10_proofNumber_51 rfl rfl) ?_
    refine Eq.trans (g_iadd dX10_proofNumber_52 rfl) ?_
    refine Eq.trans (g_iald dX10_proofNumber_53 sh53 rfl) ?_
    refine am_ite ?_ rfl
    exact g_iret dX10_proofNumber_54 rfl
  · refine Eq.trans (g_K (v := nI 0) dX10_proofNumber_39 rfl rfl) ?_
    refine Eq.trans (g_goto (pc' := 54) dX10_proofNumber_40 rfl) ?_
    exact g_iret dX10_proofNumber_54 rfl
theorem q272_0 (C : am_C) (σ : am_M) (v1 v2 : Int32) : am_go am_X0 C M272 0 [.ref 34, .int v1, .int v2, .null, .null, .null, .null, .null, .null] [] σ = if am_in v1 4 = true then (am_go am_X0 C M272 21 [.ref 34, .int v1, .int v2, .int v2, .int (((nI 13) * v1) + (nI 1)), .int ((nI 21) + (σ.1 54 (v1 : Int32).toNatClampNeg)), .null, .null, .null] [] σ) else none := by
  refine Eq.trans (g_A dX10_followsFrom_0 rfl rfl) ?_
  refine Eq.trans (g_isn (k := 3) dX10_followsFrom_1 rfl (Nat.le_of_ble_eq_true rfl) rfl rfl rfl) ?_
  refine Eq.trans (g_K (v := nI 13) dX10_followsFrom_2 rfl rfl) ?_
  refine Eq.trans (g_A dX10_followsFrom_4 rfl rfl) ?_
  refine Eq.trans (g_imul dX10_followsFrom_5 rfl) ?_
  refine Eq.trans (g_K (v := nI 1) dX10_followsFrom_6 rfl rfl) ?_
  refine Eq.trans (g_iadd dX10_followsFrom_7 rfl) ?_
  refine Eq.trans (g_ist (k := 4) dX10_followsFrom_8 (Nat.le_of_ble_eq_true rfl) rfl rfl rfl) ?_
  refine Eq.trans (g_K (v := nI 21) dX10_followsFrom_10 rfl rfl) ?_
  refine Eq.trans (g_A dX10_followsFrom_12 rfl rfl) ?_
  refine Eq.trans (g_getR dX10_followsFrom_13 f20 sh34 rfl rfl) ?_
  refine Eq.trans (g_A dX10_followsFrom_16 rfl rfl) ?_
  refine Eq.trans (g_iald dX10_followsFrom_17 sh54 rfl) ?_
  refine am_ite ?_ rfl
  refine Eq.trans (g_iadd dX10_followsFrom_18 rfl) ?_
  refine Eq.trans (g_ist (k := 5) dX10_followsFrom_19 (Nat.le_of_ble_eq_true rfl) rfl rfl rfl) ?_
  rfl
theorem q272_21 (C : am_C) (σ : am_M) (v1 v2 v3 v4 v5 : Int32) {u6 : Value} (hu6 : (!(u6.category == 2)) = true) {u7 : Value} (hu7 : (!(u7.category == 2)) = true) {u8 : Value} (hu8 : (!(u8.category == 2)) = true) : am_go am_X0 C M272 21 [.ref 34, .int v1, .int v2, .int v3, .int v4, .int v5, u6, u7, u8] [] σ = if v5 ≤ (nI 0) then (some (.inl (some (.int v3)), σ)) else (if am_in v4 52 = true then (am_bI (C 176 [.int (σ.1 53 (v4 : Int32).toNatClampNeg)] σ) (fun r1 t1 => am_bI (C 179 [.int v5] t1) (fun r2 t2 => am_go am_X0 C M272 55 [.ref 34, .int v1, .int v2, .int v3, .int v4, .int v5, .int r1, .int (v4 + (nI 1)), .int (((nI 4) * r2) + (nI 1))] [] t2))) else none) := by
  refine Eq.trans (g_A dX10_followsFrom_21 rfl rfl) ?_
  refine Eq.trans (g_ifle (t := 148) dX10_followsFrom_23 rfl rfl) ?_
  refine am_ite ?_ ?_
  · refine Eq.trans (g_A dX10_followsFrom_148 rfl rfl) ?_
    exact g_iret dX10_followsFrom_149 rfl
  · refine Eq.trans (g_A dX10_followsFrom_26 rfl rfl) ?_
    refine Eq.trans (g_getR dX10_followsFrom_27 f41 sh34 rfl rfl) ?_
    refine Eq.trans (g_A dX10_followsFrom_30 rfl rfl) ?_
    refine Eq.trans (g_iald dX10_followsFrom_32 sh53 rfl) ?_
    refine am_ite ?_ rfl
    refine Eq.trans (g_sI (as := [.int (σ.1 53 (v4 : Int32).toNatClampNeg)]) (rest := []) dX10_followsFrom_33 rfl cl99 m176 rfl rfl rfl rfl (Nat.le_of_ble_eq_true rfl) rfl rfl rfl) ?_
    refine am_bI_c (fun r1 t1 => ?_)
    refine Eq.trans (g_ist (k := 6) dX10_followsFrom_36 (Nat.le_of_ble_eq_true rfl) rfl rfl rfl) ?_
    refine Eq.trans (g_A dX10_followsFrom_38 rfl rfl) ?_
    refine Eq.trans (g_K (v := nI 1) dX10_followsFrom_40 rfl rfl) ?_
    refine Eq.trans (g_iadd dX10_followsFrom_41 rfl) ?_
    refine Eq.trans (g_ist (k := 7) dX10_followsFrom_42 (Nat.le_of_ble_eq_true rfl) rfl rfl rfl) ?_
    refine Eq.trans (g_K (v := nI 4) dX10_followsFrom_44 rfl rfl) ?_
    refine Eq.trans (g_A dX10_followsFrom_45 rfl rfl) ?_
    refine Eq.trans (g_sI (as := [.int v5]) (rest := [.int (nI 4)]) dX10_followsFrom_47 rfl cl100 m179 rfl rfl rfl rfl (Nat.le_of_ble_eq_true rfl) rfl rfl rfl) ?_
    refine am_bI_c (fun r2 t2 => ?_)
    refine Eq.trans (g_imul dX10_followsFrom_50 rfl) ?_
    refine Eq.trans (g_K (v := nI 1) dX10_followsFrom_51 rfl rfl) ?_
    refine Eq.trans (g_iadd dX10_followsFrom_52 rfl) ?_
    refine Eq.trans (g_ist (k := 8) dX10_followsFrom_53 (Nat.le_of_ble_eq_true rfl) rfl rfl rfl) ?_
    rfl
theorem q272_55 (C : am_C) (σ : am_M) (v1 v2 v3 v4 v5 v6 v7 v8 : Int32) : am_go am_X0 C M272 55 [.ref 34, .int v1, .int v2, .int v3, .int v4, .int v5, .int v6, .int v7, .int v8] [] σ = am_bI (C 179 [.int v5] σ) (fun r1 t1 => if (((nI 4) * r1) + (nI 4)) < v8 then (if am_in v4 52 = true then (if t1.1 53 (v4 : Int32).toNatClampNeg = nI 0 then (am_go am_X0 C M272 134 [.ref 34, .int v1, .int v2, .int v3, .int v4, .int v5, .int v6, .int v7, .int v8] [.int (nI 0)] t1) else (am_go am_X0 C M272 134 [.ref 34, .int v1, .int v2, .int v3, .int v4, .int v5, .int v6, .int v7, .int v8] [.int v6] t1)) else none) else (if v8 = v5 then (am_go am_X0 C M272 89 [.ref 34, .int v1, .int v2, .int v3, .int v4, .int v5, .int v6, .int v7, .int v8] [.int v3, .int v6] t1) else (if am_in v7 52 = true then (am_go am_X0 C M272 89 [.ref 34, .int v1, .int v2, .int v3, .int v4, .int v5, .int v6, .int v7, .int v8] [.int (t1.1 53 (v7 : Int32).toNatClampNeg), .int v6] t1) else none))) := by
  refine Eq.trans (g_A dX10_followsFrom_55 rfl rfl) ?_
  refine Eq.trans (g_K (v := nI 4) dX10_followsFrom_57 rfl rfl) ?_
  refine Eq.trans (g_A dX10_followsFrom_58 rfl rfl) ?_
  refine Eq.trans (g_sI (as := [.int v5]) (rest := [.int (nI 4), .int v8]) dX10_followsFrom_60 rfl cl100 m179 rfl rfl rfl rfl (Nat.le_of_ble_eq_true rfl) rfl rfl rfl) ?_
  refine am_bI_c (fun r1 t1 => ?_)
  refine Eq.trans (g_imul dX10_followsFrom_63 rfl) ?_
  refine Eq.trans (g_K (v := nI 4) dX10_followsFrom_64 rfl rfl) ?_
  refine Eq.trans (g_iadd dX10_followsFrom_65 rfl) ?_
  refine Eq.trans (g_icgt (t := 118) dX10_followsFrom_66 rfl rfl) ?_
  refine am_ite ?_ ?_
  · refine Eq.trans (g_A dX10_followsFrom_118 rfl rfl) ?_
    refine Eq.trans (g_getR dX10_followsFrom_119 f41 sh34 rfl rfl) ?_
    refine Eq.trans (g_A dX10_followsFrom_122 rfl rfl) ?_
    refine Eq.trans (g_iald dX10_followsFrom_124 sh53 rfl) ?_
    refine am_ite ?_ rfl
    refine Eq.trans (g_ifne (t := 132) dX10_followsFrom_125 rfl rfl) ?_
    refine am_ite ?_ ?_
    · refine Eq.trans (g_K (v := nI 0) dX10_followsFrom_128 rfl rfl) ?_
      refine Eq.trans (g_goto (pc' := 134) dX10_followsFrom_129 rfl) ?_
      rfl
    · refine Eq.trans (g_A dX10_followsFrom_132 rfl rfl) ?_
      rfl
  · refine Eq.trans (g_A dX10_followsFrom_69 rfl rfl) ?_
    refine Eq.trans (g_A dX10_followsFrom_71 rfl rfl) ?_
    refine Eq.trans (g_A dX10_followsFrom_73 rfl rfl) ?_
    refine Eq.trans (g_icne (t := 82) dX10_followsFrom_75 rfl rfl) ?_
    refine am_ite ?_ ?_
    · refine Eq.trans (g_A dX10_followsFrom_78 rfl rfl) ?_
      refine Eq.trans (g_goto (pc' := 89) dX10_followsFrom_79 rfl) ?_
      rfl
    · refine Eq.trans (g_A dX10_followsFrom_82 rfl rfl) ?_
      refine Eq.trans (g_getR dX10_followsFrom_83 f41 sh34 rfl rfl) ?_
      refine Eq.trans (g_A dX10_followsFrom_86 rfl rfl) ?_
      refine Eq.trans (g_iald dX10_followsFrom_88 sh53 rfl) ?_
      refine am_ite ?_ rfl
      rfl
theorem q272_89 (C : am_C) (σ : am_M) (v1 v2 v3 v4 v5 v6 v7 v8 s0 s1 : Int32) : am_go am_X0 C M272 89 [.ref 34, .int v1, .int v2, .int v3, .int v4, .int v5, .int v6, .int v7, .int v8] [.int s0, .int s1] σ = am_bI (C 176 [.int (s1 ^^^ s0)] σ) (fun r1 t1 => if v8 = v5 then (am_go am_X0 C M272 55 [.ref 34, .int v1, .int v2, .int v3, .int v4, .int v5, .int r1, .int (v7 + (nI 0)), .int (v8 + nI 1)] [] t1) else (am_go am_X0 C M272 55 [.ref 34, .int v1, .int v2, .int v3, .int v4, .int v5, .int r1, .int (v7 + (nI 1)), .int (v8 + nI 1)] [] t1)) := by
  refine Eq.trans (g_ixor dX10_followsFrom_89 rfl) ?_
  refine Eq.trans (g_sI (as := [.int (s1 ^^^ s0)]) (rest := []) dX10_followsFrom_90 rfl cl99 m176 rfl rfl rfl rfl (Nat.le_of_ble_eq_true rfl) rfl rfl rfl) ?_
  refine am_bI_c (fun r1 t1 => ?_)
  refine Eq.trans (g_ist (k := 6) dX10_followsFrom_93 (Nat.le_of_ble_eq_true rfl) rfl rfl rfl) ?_
  refine Eq.trans (g_A dX10_followsFrom_95 rfl rfl) ?_
  refine Eq.trans (g_A dX10_followsFrom_97 rfl rfl) ?_
  refine Eq.trans (g_A dX10_followsFrom_99 rfl rfl) ?_
  refine Eq.trans (g_icne (t := 108) dX10_followsFrom_101 rfl rfl) ?_
  refine am_ite ?_ ?_
  · refine Eq.trans (g_K (v := nI 0) dX10_followsFrom_104 rfl rfl) ?_
    refine Eq.trans (g_goto (pc' := 109) dX10_followsFrom_105 rfl) ?_
    refine Eq.trans (g_iadd dX10_followsFrom_109 rfl) ?_
    refine Eq.trans (g_ist (k := 7) dX10_followsFrom_110 (Nat.le_of_ble_eq_true rfl) rfl rfl rfl) ?_
    refine Eq.trans (g_inc (v := v8 + nI 1) dX10_followsFrom_112 rfl (Nat.le_of_ble_eq_true rfl) rfl rfl rfl rfl) ?_
    refine Eq.trans (g_goto (pc' := 55) dX10_followsFrom_115 rfl) ?_
    rfl
  · refine Eq.trans (g_K (v := nI 1) dX10_followsFrom_108 rfl rfl) ?_
    refine Eq.trans (g_iadd dX10_followsFrom_109 rfl) ?_
    refine Eq.trans (g_ist (k := 7) dX10_followsFrom_110 (Nat.le_of_ble_eq_true rfl) rfl rfl rfl) ?_
    refine Eq.trans (g_inc (v := v8 + nI 1) dX10_followsFrom_112 rfl (Nat.le_of_ble_eq_true rfl) rfl rfl rfl rfl) ?_
    refine Eq.trans (g_goto (pc' := 55) dX10_followsFrom_115 rfl) ?_
    rfl
theorem q272_134 (C : am_C) (σ : am_M) (v1 v2 v3 v4 v5 v6 v7 v8 s0 : Int32) : am_go am_X0 C M272 134 [.ref 34, .int v1, .int v2, .int v3, .int v4, .int v5, .int v6, .int v7, .int v8] [.int s0] σ = am_bI (C 179 [.int v5] σ) (fun r1 t1 => am_go am_X0 C M272 21 [.ref 34, .int v1, .int v2, .int s0, .int (v4 + nI 4), .int r1, .int v6, .int v7, .int v8] [] t1) := by
  refine Eq.trans (g_isn (k := 3) dX10_followsFrom_134 rfl (Nat.le_of_ble_eq_true rfl) rfl rfl rfl) ?_
  refine Eq.trans (g_inc (v := v4 + nI 4) dX10_followsFrom_135 rfl (Nat.le_of_ble_eq_true rfl) rfl rfl rfl rfl) ?_
  refine Eq.trans (g_A dX10_followsFrom_138 rfl rfl) ?_
  refine Eq.trans (g_sI (as := [.int v5]) (rest := []) dX10_followsFrom_140 rfl cl100 m179 rfl rfl rfl rfl (Nat.le_of_ble_eq_true rfl) rfl rfl rfl) ?_
  refine am_bI_c (fun r1 t1 => ?_)
  refine Eq.trans (g_ist (k := 5) dX10_followsFrom_143 (Nat.le_of_ble_eq_true rfl) rfl rfl rfl) ?_
  refine Eq.trans (g_goto (pc' := 21) dX10_followsFrom_145 rfl) ?_
  rfl
theorem q273_0 (C : am_C) (σ : am_M) (v1 : Int32) : am_go am_X0 C M273 0 [.ref 34, .int v1] [] σ = am_bI (C 270 [.ref 34, .int v1] σ) (fun r1 t1 => if ((am_wI t1 34 25 r1).1 34 25) ≤ (nI 0) then (if am_in ((nI 13) * v1) 52 = true then (am_bI (C 272 [.ref 34, .int v1, .int ((am_wI t1 34 25 r1).1 53 ((nI 13) * v1 : Int32).toNatClampNeg)] (am_wI t1 34 25 r1)) (fun r2 t2 => some (.inl (some (.int r2)), t2))) else none) else (some (.inl (some (.int (nI 0))), am_wI t1 34 25 r1))) := by
  refine Eq.trans (g_A dX10_proofHash_0 rfl rfl) ?_
  refine Eq.trans (g_A dX10_proofHash_1 rfl rfl) ?_
  refine Eq.trans (g_A dX10_proofHash_2 rfl rfl) ?_
  refine Eq.trans (g_vI (a := 34) (as := [.int v1]) (rest := [.ref 34]) dX10_proofHash_3 cl151 m270 rfl rfl rfl rfl (Nat.le_of_ble_eq_true rfl) rfl rfl rfl rfl) ?_
  refine am_bI_c (fun r1 t1 => ?_)
  refine Eq.trans (g_put dX10_proofHash_6 f13 sh34 rfl rfl rfl) ?_
  refine Eq.trans (g_A dX10_proofHash_9 rfl rfl) ?_
  refine Eq.trans (g_getI dX10_proofHash_10 f13 sh34 rfl rfl) ?_
  refine Eq.trans (g_ifle (t := 20) dX10_proofHash_13 rfl rfl) ?_
  refine am_ite ?_ ?_
  · refine Eq.trans (g_A dX10_proofHash_20 rfl rfl) ?_
    refine Eq.trans (g_A dX10_proofHash_21 rfl rfl) ?_
    refine Eq.trans (g_A dX10_proofHash_22 rfl rfl) ?_
    refine Eq.trans (g_getR dX10_proofHash_23 f41 sh34 rfl rfl) ?_
    refine Eq.trans (g_K (v := nI 13) dX10_proofHash_26 rfl rfl) ?_
    refine Eq.trans (g_A dX10_proofHash_28 rfl rfl) ?_
    refine Eq.trans (g_imul dX10_proofHash_29 rfl) ?_
    refine Eq.trans (g_iald dX10_proofHash_30 sh53 rfl) ?_
    refine am_ite ?_ rfl
    refine Eq.trans (g_vI (a := 34) (as := [.int v1, .int ((am_wI t1 34 25 r1).1 53 ((nI 13) * v1 : Int32).toNatClampNeg)]) (rest := []) dX10_proofHash_31 cl152 m272 rfl rfl rfl rfl (Nat.le_of_ble_eq_true rfl) rfl rfl rfl rfl) ?_
    refine am_bI_c (fun r2 t2 => ?_)
    exact g_iret dX10_proofHash_34 rfl
  · refine Eq.trans (g_K (v := nI 0) dX10_proofHash_16 rfl rfl) ?_
    refine Eq.trans (g_goto (pc' := 34) dX10_proofHash_17 rfl) ?_
    exact g_iret dX10_proofHash_34 rfl
theorem q274_0 (C : am_C) (σ : am_M) (v1 v2 : Int32) : am_go am_X0 C M274 0 [.ref 34, .int v1, .int v2] [] σ = am_bI (C 270 [.ref 34, .int v1] σ) (fun r1 t1 => if ((am_wI t1 34 25 r1).1 34 25) ≤ (nI 0) then (am_bI (C 272 [.ref 34, .int v1, .int v2] (am_wI t1 34 25 r1)) (fun r2 t2 => some (.inl (some (.int r2)), t2))) else (some (.inl (some (.int (nI 0))), am_wI t1 34 25 r1))) := by
  refine Eq.trans (g_A dX10_proofHashWith_0 rfl rfl) ?_
  refine Eq.trans (g_A dX10_proofHashWith_1 rfl rfl) ?_
  refine Eq.trans (g_A dX10_proofHashWith_2 rfl rfl) ?_
  refine Eq.trans (g_vI (a := 34) (as := [.int v1]) (rest := [.ref 34]) dX10_proofHashWith_3 cl151 m270 rfl rfl rfl rfl (Nat.le_of_ble_eq_true rfl) rfl rfl rfl rfl) ?_
  refine am_bI_c (fun r1 t1 => ?_)
  refine Eq.trans (g_put dX10_proofHashWith_6 f13 sh34 rfl rfl rfl) ?_
  refine Eq.trans (g_A dX10_proofHashWith_9 rfl rfl) ?_
  refine Eq.trans (g_getI dX10_proofHashWith_10 f13 sh34 rfl rfl) ?_
  refine Eq.trans (g_ifle (t := 20) dX10_proofHashWith_13 rfl rfl) ?_
  refine am_ite ?_ ?_
  · refine Eq.trans (g_A dX10_proofHashWith_20 rfl rfl) ?_
    refine Eq.trans (g_A dX10_proofHashWith_21 rfl rfl) ?_
    refine Eq.trans (g_A dX10_proofHashWith_22 rfl rfl) ?_
    refine Eq.trans (g_vI (a := 34) (as := [.int v1, .int v2]) (rest := []) dX10_proofHashWith_23 cl152 m272 rfl rfl rfl rfl (Nat.le_of_ble_eq_true rfl) rfl rfl rfl rfl) ?_
    refine am_bI_c (fun r2 t2 => ?_)
    exact g_iret dX10_proofHashWith_26 rfl
  · refine Eq.trans (g_K (v := nI 0) dX10_proofHashWith_16 rfl rfl) ?_
    refine Eq.trans (g_goto (pc' := 26) dX10_proofHashWith_17 rfl) ?_
    exact g_iret dX10_proofHashWith_26 rfl
theorem q275_0 (C : am_C) (σ : am_M) (v0 : Int32) : am_go am_X0 C M275 0 [.int v0] [] σ = some (.inl (some (.int ((((((((v0 - ((((v0 : Int32).toUInt32 >>> ((nI 1 : Int32).toUInt32 &&& Int32.toUInt32 31)).toInt32) &&& (1431655765))) &&& (858993459)) + ((((v0 - ((((v0 : Int32).toUInt32 >>> ((nI 1 : Int32).toUInt32 &&& Int32.toUInt32 31)).toInt32) &&& (1431655765)) : Int32).toUInt32 >>> ((nI 2 : Int32).toUInt32 &&& Int32.toUInt32 31)).toInt32) &&& (858993459))) + (((((v0 - ((((v0 : Int32).toUInt32 >>> ((nI 1 : Int32).toUInt32 &&& Int32.toUInt32 31)).toInt32) &&& (1431655765))) &&& (858993459)) + ((((v0 - ((((v0 : Int32).toUInt32 >>> ((nI 1 : Int32).toUInt32 &&& Int32.toUInt32 31)).toInt32) &&& (1431655765)) : Int32).toUInt32 >>> ((nI 2 : Int32).toUInt32 &&& Int32.toUInt32 31)).toInt32) &&& (858993459)) : Int32).toUInt32 >>> ((nI 4 : Int32).toUInt32 &&& Int32.toUInt32 31)).toInt32)) &&& (252645135)) + (((((((v0 - ((((v0 : Int32).toUInt32 >>> ((nI 1 : Int32).toUInt32 &&& Int32.toUInt32 31)).toInt32) &&& (1431655765))) &&& (858993459)) + ((((v0 - ((((v0 : Int32).toUInt32 >>> ((nI 1 : Int32).toUInt32 &&& Int32.toUInt32 31)).toInt32) &&& (1431655765)) : Int32).toUInt32 >>> ((nI 2 : Int32).toUInt32 &&& Int32.toUInt32 31)).toInt32) &&& (858993459))) + (((((v0 - ((((v0 : Int32).toUInt32 >>> ((nI 1 : Int32).toUInt32 &&& Int32.toUInt32 31)).toInt32) &&& (1431655765))) &&& (858993459)) + ((((v0 - ((((v0 : Int32).toUInt32 >>> ((nI 1 : Int32).toUInt32 &&& Int32.toUInt32 31)).toInt32) &&& (1431655765)) : Int32).toUInt32 >>> ((nI 2 : Int32).toUInt32 &&& Int32.toUInt32 31)).toInt32) &&& (858993459)) : Int32).toUInt32 >>> ((nI 4 : Int32).toUInt32 &&& Int32.toUInt32 31)).toInt32)) &&& (252645135) : Int32).toUInt32 >>> ((nI 8 : Int32).toUInt32 &&& Int32.toUInt32 31)).toInt32)) + ((((((((v0 - ((((v0 : Int32).toUInt32 >>> ((nI 1 : Int32).toUInt32 &&& Int32.toUInt32 31)).toInt32) &&& (1431655765))) &&& (858993459)) + ((((v0 - ((((v0 : Int32).toUInt32 >>> ((nI 1 : Int32).toUInt32 &&& Int32.toUInt32 31)).toInt32) &&& (1431655765)) : Int32).toUInt32 >>> ((nI 2 : Int32).toUInt32 &&& Int32.toUInt32 31)).toInt32) &&& (858993459))) + (((((v0 - ((((v0 : Int32).toUInt32 >>> ((nI 1 : Int32).toUInt32 &&& Int32.toUInt32 31)).toInt32) &&& (1431655765))) &&& (858993459)) + ((((v0 - ((((v0 : Int32).toUInt32 >>> ((nI 1 : Int32).toUInt32 &&& Int32.toUInt32 31)).toInt32) &&& (1431655765)) : Int32).toUInt32 >>> ((nI 2 : Int32).toUInt32 &&& Int32.toUInt32 31)).toInt32) &&& (858993459)) : Int32).toUInt32 >>> ((nI 4 : Int32).toUInt32 &&& Int32.toUInt32 31)).toInt32)) &&& (252645135)) + (((((((v0 - ((((v0 : Int32).toUInt32 >>> ((nI 1 : Int32).toUInt32 &&& Int32.toUInt32 31)).toInt32) &&& (1431655765))) &&& (858993459)) + ((((v0 - ((((v0 : Int32).toUInt32 >>> ((nI 1 : Int32).toUInt32 &&& Int32.toUInt32 31)).toInt32) &&& (1431655765)) : Int32).toUInt32 >>> ((nI 2 : Int32).toUInt32 &&& Int32.toUInt32 31)).toInt32) &&& (858993459))) + (((((v0 - ((((v0 : Int32).toUInt32 >>> ((nI 1 : Int32).toUInt32 &&& Int32.toUInt32 31)).toInt32) &&& (1431655765))) &&& (858993459)) + ((((v0 - ((((v0 : Int32).toUInt32 >>> ((nI 1 : Int32).toUInt32 &&& Int32.toUInt32 31)).toInt32) &&& (1431655765)) : Int32).toUInt32 >>> ((nI 2 : Int32).toUInt32 &&& Int32.toUInt32 31)).toInt32) &&& (858993459)) : Int32).toUInt32 >>> ((nI 4 : Int32).toUInt32 &&& Int32.toUInt32 31)).toInt32)) &&& (252645135) : Int32).toUInt32 >>> ((nI 8 : Int32).toUInt32 &&& Int32.toUInt32 31)).toInt32) : Int32).toUInt32 >>> ((nI 16 : Int32).toUInt32 &&& Int32.toUInt32 31)).toInt32)) &&& (nI 63)))), σ) := by
  refine Eq.trans (g_A dJ6_bitCount_0f7a4_0 rfl rfl) ?_
  refine Eq.trans (g_A dJ6_bitCount_0f7a4_1 rfl rfl) ?_
  refine Eq.trans (g_K (v := nI 1) dJ6_bitCount_0f7a4_2 rfl rfl) ?_
  refine Eq.trans (g_iushr dJ6_bitCount_0f7a4_3 rfl) ?_
  refine Eq.trans (g_ldw dJ6_bitCount_0f7a4_4 ki8 rfl) ?_
  refine Eq.trans (g_iand dJ6_bitCount_0f7a4_7 rfl) ?_
  refine Eq.trans (g_isub dJ6_bitCount_0f7a4_8 rfl) ?_
  refine Eq.trans (g_isn (k := 0) dJ6_bitCount_0f7a4_9 rfl (Nat.le_of_ble_eq_true rfl) rfl rfl rfl) ?_
  refine Eq.trans (g_A dJ6_bitCount_0f7a4_10 rfl rfl) ?_
  refine Eq.trans (g_ldw dJ6_bitCount_0f7a4_11 ki9 rfl) ?_
  refine Eq.trans (g_iand dJ6_bitCount_0f7a4_14 rfl) ?_
  refine Eq.trans (g_A dJ6_bitCount_0f7a4_15 rfl rfl) ?_
  refine Eq.trans (g_K (v := nI 2) dJ6_bitCount_0f7a4_16 rfl rfl) ?_
  refine Eq.trans (g_iushr dJ6_bitCount_0f7a4_17 rfl) ?_
  refine Eq.trans (g_ldw dJ6_bitCount_0f7a4_18 ki9 rfl) ?_
  refine Eq.trans (g_iand dJ6_bitCount_0f7a4_21 rfl) ?_
  refine Eq.trans (g_iadd dJ6_bitCount_0f7a4_22 rfl) ?_
  refine Eq.trans (g_isn (k := 0) dJ6_bitCount_0f7a4_23 rfl (Nat.le_of_ble_eq_true rfl) rfl rfl rfl) ?_
  refine Eq.trans (g_A dJ6_bitCount_0f7a4_24 rfl rfl) ?_
  refine Eq.trans (g_A dJ6_bitCount_0f7a4_25 rfl rfl) ?_
  refine Eq.trans (g_K (v := nI 4) dJ6_bitCount_0f7a4_26 rfl rfl) ?_
  refine Eq.trans (g_iushr dJ6_bitCount_0f7a4_27 rfl) ?_
  refine Eq.trans (g_iadd dJ6_bitCount_0f7a4_28 rfl) ?_
  refine Eq.trans (g_ldw dJ6_bitCount_0f7a4_29 ki10 rfl) ?_
  refine Eq.trans (g_iand dJ6_bitCount_0f7a4_32 rfl) ?_
  refine Eq.trans (g_isn (k := 0) dJ6_bitCount_0f7a4_33 rfl (Nat.le_of_ble_eq_true rfl) rfl rfl rfl) ?_
  refine Eq.trans (g_A dJ6_bitCount_0f7a4_34 rfl rfl) ?_
  refine Eq.trans (g_A dJ6_bitCount_0f7a4_35 rfl rfl) ?_
  refine Eq.trans (g_K (v := nI 8) dJ6_bitCount_0f7a4_36 rfl rfl) ?_
  refine Eq.trans (g_iushr dJ6_bitCount_0f7a4_38 rfl) ?_
  refine Eq.trans (g_iadd dJ6_bitCount_0f7a4_39 rfl) ?_
  refine Eq.trans (g_isn (k := 0) dJ6_bitCount_0f7a4_40 rfl (Nat.le_of_ble_eq_true rfl) rfl rfl rfl) ?_
  refine Eq.trans (g_A dJ6_bitCount_0f7a4_41 rfl rfl) ?_
  refine Eq.trans (g_A dJ6_bitCount_0f7a4_42 rfl rfl) ?_
  refine Eq.trans (g_K (v := nI 16) dJ6_bitCount_0f7a4_43 rfl rfl) ?_
  refine Eq.trans (g_iushr dJ6_bitCount_0f7a4_45 rfl) ?_
  refine Eq.trans (g_iadd dJ6_bitCount_0f7a4_46 rfl) ?_
  refine Eq.trans (g_isn (k := 0) dJ6_bitCount_0f7a4_47 rfl (Nat.le_of_ble_eq_true rfl) rfl rfl rfl) ?_
  refine Eq.trans (g_A dJ6_bitCount_0f7a4_48 rfl rfl) ?_
  refine Eq.trans (g_K (v := nI 63) dJ6_bitCount_0f7a4_49 rfl rfl) ?_
  refine Eq.trans (g_iand dJ6_bitCount_0f7a4_51 rfl) ?_
  exact g_iret dJ6_bitCount_0f7a4_52 rfl
