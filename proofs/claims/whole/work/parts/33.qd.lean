theorem q172_0 (C : am_C) (σ : am_M) : am_go am_X0 C M172 0 [.ref 34] [] σ = some (.inl (some (.int (σ.1 34 25))), σ) := by
  refine Eq.trans (g_A dX10_thrown_0 rfl rfl) ?_
  refine Eq.trans (g_getI dX10_thrown_1 f13 sh34 rfl rfl) ?_
  exact g_iret dX10_thrown_4 rfl
theorem q173_0 (C : am_C) (σ : am_M) (w0 w2 w4 : Int64) : am_go am_X0 C M173 0 [.long w0, .null, .long w2, .null, .long w4, .null] [] σ = if (lg_cmp w0 w2) < (nI 0) then (some (.inl (some (.int (nI 0))), σ)) else (if (nI 0) < (lg_cmp w0 w4) then (some (.inl (some (.int (nI 0))), σ)) else (some (.inl (some (.int (nI 1))), σ))) := by
  refine Eq.trans (g_A dX10_isIn_0 rfl rfl) ?_
  refine Eq.trans (g_A dX10_isIn_1 rfl rfl) ?_
  refine Eq.trans (g_lcmp dX10_isIn_2 rfl) ?_
  refine Eq.trans (g_iflt (t := 17) dX10_isIn_3 rfl rfl) ?_
  refine am_ite ?_ ?_
  · refine Eq.trans (g_K (v := nI 0) dX10_isIn_17 rfl rfl) ?_
    exact g_zl dX10_isIn_18 rfl (Or.inl rfl)
  · refine Eq.trans (g_A dX10_isIn_6 rfl rfl) ?_
    refine Eq.trans (g_A dX10_isIn_7 rfl rfl) ?_
    refine Eq.trans (g_lcmp dX10_isIn_9 rfl) ?_
    refine Eq.trans (g_ifgt (t := 17) dX10_isIn_10 rfl rfl) ?_
    refine am_ite ?_ ?_
    · refine Eq.trans (g_K (v := nI 0) dX10_isIn_17 rfl rfl) ?_
      exact g_zl dX10_isIn_18 rfl (Or.inl rfl)
    · refine Eq.trans (g_K (v := nI 1) dX10_isIn_13 rfl rfl) ?_
      refine Eq.trans (g_goto (pc' := 18) dX10_isIn_14 rfl) ?_
      exact g_zl dX10_isIn_18 rfl (Or.inr rfl)
theorem q174_0 (C : am_C) (σ : am_M) (v1 : Int32) : am_go am_X0 C M174 0 [.ref 34, .int v1, .null] [] σ = am_go am_X0 C M174 7 [.ref 34, .int v1, .int (nI 0)] [] (am_wI σ 34 20 v1) := by
  refine Eq.trans (g_A dX10_begins_0 rfl rfl) ?_
  refine Eq.trans (g_A dX10_begins_1 rfl rfl) ?_
  refine Eq.trans (g_put dX10_begins_2 f14 sh34 rfl rfl rfl) ?_
  refine Eq.trans (g_K (v := nI 0) dX10_begins_5 rfl rfl) ?_
  refine Eq.trans (g_isn (k := 2) dX10_begins_6 rfl (Nat.le_of_ble_eq_true rfl) rfl rfl rfl) ?_
  rfl
theorem q174_7 (C : am_C) (σ : am_M) (v1 v2 : Int32) : am_go am_X0 C M174 7 [.ref 34, .int v1, .int v2] [] σ = if (nI 85) ≤ v2 then (am_go am_X0 C M174 28 [.ref 34, .int v1, .int (nI 0)] [] σ) else (if am_in v2 85 = true then (am_go am_X0 C M174 7 [.ref 34, .int v1, .int (v2 + nI 1)] [] (am_wI σ 35 (v2 : Int32).toNatClampNeg (nI 0))) else none) := by
  refine Eq.trans (g_A dX10_begins_7 rfl rfl) ?_
  refine Eq.trans (g_K (v := nI 85) dX10_begins_8 rfl rfl) ?_
  refine Eq.trans (g_icge (t := 26) dX10_begins_10 rfl rfl) ?_
  refine am_ite ?_ ?_
  · refine Eq.trans (g_K (v := nI 0) dX10_begins_26 rfl rfl) ?_
    refine Eq.trans (g_isn (k := 2) dX10_begins_27 rfl (Nat.le_of_ble_eq_true rfl) rfl rfl rfl) ?_
    rfl
  · refine Eq.trans (g_A dX10_begins_13 rfl rfl) ?_
    refine Eq.trans (g_getR dX10_begins_14 f15 sh34 rfl rfl) ?_
    refine Eq.trans (g_A dX10_begins_17 rfl rfl) ?_
    refine Eq.trans (g_K (v := nI 0) dX10_begins_18 rfl rfl) ?_
    refine Eq.trans (g_iast dX10_begins_19 sh35 rfl) ?_
    refine am_ite ?_ rfl
    refine Eq.trans (g_inc (v := v2 + nI 1) dX10_begins_20 rfl (Nat.le_of_ble_eq_true rfl) rfl rfl rfl rfl) ?_
    refine Eq.trans (g_goto (pc' := 7) dX10_begins_23 rfl) ?_
    rfl
theorem q174_28 (C : am_C) (σ : am_M) (v1 v2 : Int32) : am_go am_X0 C M174 28 [.ref 34, .int v1, .int v2] [] σ = if (nI 64) ≤ v2 then (am_go am_X0 C M174 56 [.ref 34, .int v1, .int (nI 0)] [] σ) else (if am_in v2 64 = true then (if am_in v2 64 = true then (am_go am_X0 C M174 28 [.ref 34, .int v1, .int (v2 + nI 1)] [] (am_wI (am_wI σ 37 (v2 : Int32).toNatClampNeg (-1)) 41 (v2 : Int32).toNatClampNeg (vp_nar .boolean (nI 0)))) else none) else none) := by
  refine Eq.trans (g_A dX10_begins_28 rfl rfl) ?_
  refine Eq.trans (g_K (v := nI 64) dX10_begins_29 rfl rfl) ?_
  refine Eq.trans (g_icge (t := 54) dX10_begins_31 rfl rfl) ?_
  refine am_ite ?_ ?_
  · refine Eq.trans (g_K (v := nI 0) dX10_begins_54 rfl rfl) ?_
    refine Eq.trans (g_isn (k := 2) dX10_begins_55 rfl (Nat.le_of_ble_eq_true rfl) rfl rfl rfl) ?_
    rfl
  · refine Eq.trans (g_A dX10_begins_34 rfl rfl) ?_
    refine Eq.trans (g_getR dX10_begins_35 f16 sh34 rfl rfl) ?_
    refine Eq.trans (g_A dX10_begins_38 rfl rfl) ?_
    refine Eq.trans (g_K (v := (-1)) dX10_begins_39 rfl rfl) ?_
    refine Eq.trans (g_iast dX10_begins_40 sh37 rfl) ?_
    refine am_ite ?_ rfl
    refine Eq.trans (g_A dX10_begins_41 rfl rfl) ?_
    refine Eq.trans (g_getR dX10_begins_42 f17 sh34 rfl rfl) ?_
    refine Eq.trans (g_A dX10_begins_45 rfl rfl) ?_
    refine Eq.trans (g_K (v := nI 0) dX10_begins_46 rfl rfl) ?_
    refine Eq.trans (g_bast dX10_begins_47 sh41 rfl) ?_
    refine am_ite ?_ rfl
    refine Eq.trans (g_inc (v := v2 + nI 1) dX10_begins_48 rfl (Nat.le_of_ble_eq_true rfl) rfl rfl rfl rfl) ?_
    refine Eq.trans (g_goto (pc' := 28) dX10_begins_51 rfl) ?_
    rfl
theorem q174_56 (C : am_C) (σ : am_M) (v1 v2 : Int32) : am_go am_X0 C M174 56 [.ref 34, .int v1, .int v2] [] σ = if (nI 8) ≤ v2 then (am_go am_X0 C M174 77 [.ref 34, .int v1, .int (nI 0)] [] σ) else (if am_in v2 8 = true then (am_go am_X0 C M174 56 [.ref 34, .int v1, .int (v2 + nI 1)] [] (am_wI σ 38 (v2 : Int32).toNatClampNeg (-1))) else none) := by
  refine Eq.trans (g_A dX10_begins_56 rfl rfl) ?_
  refine Eq.trans (g_K (v := nI 8) dX10_begins_57 rfl rfl) ?_
  refine Eq.trans (g_icge (t := 75) dX10_begins_59 rfl rfl) ?_
  refine am_ite ?_ ?_
  · refine Eq.trans (g_K (v := nI 0) dX10_begins_75 rfl rfl) ?_
    refine Eq.trans (g_isn (k := 2) dX10_begins_76 rfl (Nat.le_of_ble_eq_true rfl) rfl rfl rfl) ?_
    rfl
  · refine Eq.trans (g_A dX10_begins_62 rfl rfl) ?_
    refine Eq.trans (g_getR dX10_begins_63 f18 sh34 rfl rfl) ?_
    refine Eq.trans (g_A dX10_begins_66 rfl rfl) ?_
    refine Eq.trans (g_K (v := (-1)) dX10_begins_67 rfl rfl) ?_
    refine Eq.trans (g_iast dX10_begins_68 sh38 rfl) ?_
    refine am_ite ?_ rfl
    refine Eq.trans (g_inc (v := v2 + nI 1) dX10_begins_69 rfl (Nat.le_of_ble_eq_true rfl) rfl rfl rfl rfl) ?_
    refine Eq.trans (g_goto (pc' := 56) dX10_begins_72 rfl) ?_
    rfl
theorem q174_77 (C : am_C) (σ : am_M) (v1 v2 : Int32) : am_go am_X0 C M174 77 [.ref 34, .int v1, .int v2] [] σ = if (nI 4) ≤ v2 then (am_go am_X0 C M174 104 [.ref 34, .int v1, .int (nI 0)] [] σ) else (if am_in v2 4 = true then (if am_in v2 4 = true then (am_go am_X0 C M174 77 [.ref 34, .int v1, .int (v2 + nI 1)] [] (am_wI (am_wI σ 39 (v2 : Int32).toNatClampNeg (nI 0)) 54 (v2 : Int32).toNatClampNeg (-1))) else none) else none) := by
  refine Eq.trans (g_A dX10_begins_77 rfl rfl) ?_
  refine Eq.trans (g_K (v := nI 4) dX10_begins_78 rfl rfl) ?_
  refine Eq.trans (g_icge (t := 102) dX10_begins_79 rfl rfl) ?_
  refine am_ite ?_ ?_
  · refine Eq.trans (g_K (v := nI 0) dX10_begins_102 rfl rfl) ?_
    refine Eq.trans (g_isn (k := 2) dX10_begins_103 rfl (Nat.le_of_ble_eq_true rfl) rfl rfl rfl) ?_
    rfl
  · refine Eq.trans (g_A dX10_begins_82 rfl rfl) ?_
    refine Eq.trans (g_getR dX10_begins_83 f19 sh34 rfl rfl) ?_
    refine Eq.trans (g_A dX10_begins_86 rfl rfl) ?_
    refine Eq.trans (g_K (v := nI 0) dX10_begins_87 rfl rfl) ?_
    refine Eq.trans (g_iast dX10_begins_88 sh39 rfl) ?_
    refine am_ite ?_ rfl
    refine Eq.trans (g_A dX10_begins_89 rfl rfl) ?_
    refine Eq.trans (g_getR dX10_begins_90 f20 sh34 rfl rfl) ?_
    refine Eq.trans (g_A dX10_begins_93 rfl rfl) ?_
    refine Eq.trans (g_K (v := (-1)) dX10_begins_94 rfl rfl) ?_
    refine Eq.trans (g_iast dX10_begins_95 sh54 rfl) ?_
    refine am_ite ?_ rfl
    refine Eq.trans (g_inc (v := v2 + nI 1) dX10_begins_96 rfl (Nat.le_of_ble_eq_true rfl) rfl rfl rfl rfl) ?_
    refine Eq.trans (g_goto (pc' := 77) dX10_begins_99 rfl) ?_
    rfl
theorem q174_104 (C : am_C) (σ : am_M) (v1 v2 : Int32) : am_go am_X0 C M174 104 [.ref 34, .int v1, .int v2] [] σ = if (nI 8) ≤ v2 then (am_bI (C 177 [.ref 34] (am_wI (am_wI (am_wI (am_wI σ 34 22 (nI 1)) 34 24 (nI 0)) 34 23 (nI 0)) 34 21 (nI 0))) (fun r1 t1 => if am_in (nI 0) 85 = true then (some (.inl none, am_wI t1 35 (nI 0 : Int32).toNatClampNeg r1)) else none)) else (if am_in v2 8 = true then (if am_in v2 8 = true then (am_go am_X0 C M174 104 [.ref 34, .int v1, .int (v2 + nI 1)] [] (am_wI (am_wI σ 44 (v2 : Int32).toNatClampNeg (nI 0)) 45 (v2 : Int32).toNatClampNeg (nI 0))) else none) else none) := by
  refine Eq.trans (g_A dX10_begins_104 rfl rfl) ?_
  refine Eq.trans (g_K (v := nI 8) dX10_begins_105 rfl rfl) ?_
  refine Eq.trans (g_icge (t := 130) dX10_begins_107 rfl rfl) ?_
  refine am_ite ?_ ?_
  · refine Eq.trans (g_A dX10_begins_130 rfl rfl) ?_
    refine Eq.trans (g_K (v := nI 1) dX10_begins_131 rfl rfl) ?_
    refine Eq.trans (g_put dX10_begins_132 f23 sh34 rfl rfl rfl) ?_
    refine Eq.trans (g_A dX10_begins_135 rfl rfl) ?_
    refine Eq.trans (g_K (v := nI 0) dX10_begins_136 rfl rfl) ?_
    refine Eq.trans (g_put dX10_begins_137 f24 sh34 rfl rfl rfl) ?_
    refine Eq.trans (g_A dX10_begins_140 rfl rfl) ?_
    refine Eq.trans (g_K (v := nI 0) dX10_begins_141 rfl rfl) ?_
    refine Eq.trans (g_put dX10_begins_142 f25 sh34 rfl rfl rfl) ?_
    refine Eq.trans (g_A dX10_begins_145 rfl rfl) ?_
    refine Eq.trans (g_K (v := nI 0) dX10_begins_146 rfl rfl) ?_
    refine Eq.trans (g_put dX10_begins_147 f26 sh34 rfl rfl rfl) ?_
    refine Eq.trans (g_A dX10_begins_150 rfl rfl) ?_
    refine Eq.trans (g_getR dX10_begins_151 f15 sh34 rfl rfl) ?_
    refine Eq.trans (g_K (v := nI 0) dX10_begins_154 rfl rfl) ?_
    refine Eq.trans (g_A dX10_begins_155 rfl rfl) ?_
    refine Eq.trans (g_vI (a := 34) (as := []) (rest := [.int (nI 0), .ref 35]) dX10_begins_156 cl97 m177 rfl rfl rfl rfl (Nat.le_of_ble_eq_true rfl) rfl rfl rfl rfl) ?_
    refine am_bI_c (fun r1 t1 => ?_)
    refine Eq.trans (g_iast dX10_begins_159 sh35 rfl) ?_
    refine am_ite ?_ rfl
    exact g_vret dX10_begins_160 rfl
  · refine Eq.trans (g_A dX10_begins_110 rfl rfl) ?_
    refine Eq.trans (g_getR dX10_begins_111 f21 sh34 rfl rfl) ?_
    refine Eq.trans (g_A dX10_begins_114 rfl rfl) ?_
    refine Eq.trans (g_K (v := nI 0) dX10_begins_115 rfl rfl) ?_
    refine Eq.trans (g_iast dX10_begins_116 sh44 rfl) ?_
    refine am_ite ?_ rfl
    refine Eq.trans (g_A dX10_begins_117 rfl rfl) ?_
    refine Eq.trans (g_getR dX10_begins_118 f22 sh34 rfl rfl) ?_
    refine Eq.trans (g_A dX10_begins_121 rfl rfl) ?_
    refine Eq.trans (g_K (v := nI 0) dX10_begins_122 rfl rfl) ?_
    refine Eq.trans (g_iast dX10_begins_123 sh45 rfl) ?_
    refine am_ite ?_ rfl
    refine Eq.trans (g_inc (v := v2 + nI 1) dX10_begins_124 rfl (Nat.le_of_ble_eq_true rfl) rfl rfl rfl rfl) ?_
    refine Eq.trans (g_goto (pc' := 104) dX10_begins_127 rfl) ?_
    rfl
theorem q175_0 (C : am_C) (σ : am_M) (v1 : Int32) : am_go am_X0 C M175 0 [.ref 34, .int v1] [] σ = am_bV (C 174 [.ref 34, .int v1] (am_wI σ 34 25 (nI 0))) (fun t1 => some (.inl none, t1)) := by
  refine Eq.trans (g_A dX10_reset_0 rfl rfl) ?_
  refine Eq.trans (g_K (v := nI 0) dX10_reset_1 rfl rfl) ?_
  refine Eq.trans (g_put dX10_reset_2 f13 sh34 rfl rfl rfl) ?_
  refine Eq.trans (g_A dX10_reset_5 rfl rfl) ?_
  refine Eq.trans (g_A dX10_reset_6 rfl rfl) ?_
  refine Eq.trans (g_vV (a := 34) (as := [.int v1]) (rest := []) dX10_reset_7 cl98 m174 rfl rfl rfl rfl (Nat.le_of_ble_eq_true rfl) rfl rfl rfl rfl) ?_
  refine am_bV_c (fun t1 => ?_)
  exact g_vret dX10_reset_10 rfl
theorem q176_0 (C : am_C) (σ : am_M) (v0 : Int32) : am_go am_X0 C M176 0 [.int v0, .null] [] σ = some (.inl (some (.int (((((v0 ^^^ (((v0 : Int32).toUInt32 >>> ((nI 16 : Int32).toUInt32 &&& Int32.toUInt32 31)).toInt32)) * (-2048144789)) ^^^ ((((v0 ^^^ (((v0 : Int32).toUInt32 >>> ((nI 16 : Int32).toUInt32 &&& Int32.toUInt32 31)).toInt32)) * (-2048144789) : Int32).toUInt32 >>> ((nI 13 : Int32).toUInt32 &&& Int32.toUInt32 31)).toInt32)) * (-1028477387)) ^^^ ((((((v0 ^^^ (((v0 : Int32).toUInt32 >>> ((nI 16 : Int32).toUInt32 &&& Int32.toUInt32 31)).toInt32)) * (-2048144789)) ^^^ ((((v0 ^^^ (((v0 : Int32).toUInt32 >>> ((nI 16 : Int32).toUInt32 &&& Int32.toUInt32 31)).toInt32)) * (-2048144789) : Int32).toUInt32 >>> ((nI 13 : Int32).toUInt32 &&& Int32.toUInt32 31)).toInt32)) * (-1028477387) : Int32).toUInt32 >>> ((nI 16 : Int32).toUInt32 &&& Int32.toUInt32 31)).toInt32)))), σ) := by
  refine Eq.trans (g_A dX10_mix_0 rfl rfl) ?_
  refine Eq.trans (g_isn (k := 1) dX10_mix_1 rfl (Nat.le_of_ble_eq_true rfl) rfl rfl rfl) ?_
  refine Eq.trans (g_A dX10_mix_2 rfl rfl) ?_
  refine Eq.trans (g_A dX10_mix_3 rfl rfl) ?_
  refine Eq.trans (g_K (v := nI 16) dX10_mix_4 rfl rfl) ?_
  refine Eq.trans (g_iushr dX10_mix_6 rfl) ?_
  refine Eq.trans (g_ixor dX10_mix_7 rfl) ?_
  refine Eq.trans (g_isn (k := 1) dX10_mix_8 rfl (Nat.le_of_ble_eq_true rfl) rfl rfl rfl) ?_
  refine Eq.trans (g_A dX10_mix_9 rfl rfl) ?_
  refine Eq.trans (g_ldc dX10_mix_10 ki3 rfl) ?_
  refine Eq.trans (g_imul dX10_mix_12 rfl) ?_
  refine Eq.trans (g_isn (k := 1) dX10_mix_13 rfl (Nat.le_of_ble_eq_true rfl) rfl rfl rfl) ?_
  refine Eq.trans (g_A dX10_mix_14 rfl rfl) ?_
  refine Eq.trans (g_A dX10_mix_15 rfl rfl) ?_
  refine Eq.trans (g_K (v := nI 13) dX10_mix_16 rfl rfl) ?_
  refine Eq.trans (g_iushr dX10_mix_18 rfl) ?_
  refine Eq.trans (g_ixor dX10_mix_19 rfl) ?_
  refine Eq.trans (g_isn (k := 1) dX10_mix_20 rfl (Nat.le_of_ble_eq_true rfl) rfl rfl rfl) ?_
  refine Eq.trans (g_A dX10_mix_21 rfl rfl) ?_
  refine Eq.trans (g_ldc dX10_mix_22 ki4 rfl) ?_
  refine Eq.trans (g_imul dX10_mix_24 rfl) ?_
  refine Eq.trans (g_isn (k := 1) dX10_mix_25 rfl (Nat.le_of_ble_eq_true rfl) rfl rfl rfl) ?_
  refine Eq.trans (g_A dX10_mix_26 rfl rfl) ?_
  refine Eq.trans (g_A dX10_mix_27 rfl rfl) ?_
  refine Eq.trans (g_K (v := nI 16) dX10_mix_28 rfl rfl) ?_
  refine Eq.trans (g_iushr dX10_mix_30 rfl) ?_
  refine Eq.trans (g_ixor dX10_mix_31 rfl) ?_
  refine Eq.trans (g_isn (k := 1) dX10_mix_32 rfl (Nat.le_of_ble_eq_true rfl) rfl rfl rfl) ?_
  refine Eq.trans (g_A dX10_mix_33 rfl rfl) ?_
  exact g_iret dX10_mix_34 rfl
theorem q177_0 (C : am_C) (σ : am_M) : am_go am_X0 C M177 0 [.ref 34] [] σ = some (.inl (some (.int ((am_wI σ 34 21 ((σ.1 34 21) + (nI 1))).1 34 21))), am_wI σ 34 21 ((σ.1 34 21) + (nI 1))) := by
  refine Eq.trans (g_A dX10_newKey_0 rfl rfl) ?_
  refine Eq.trans (g_B dX10_newKey_1 rfl rfl rfl) ?_
  refine Eq.trans (g_getI dX10_newKey_2 f26 sh34 rfl rfl) ?_
  refine Eq.trans (g_K (v := nI 1) dX10_newKey_5 rfl rfl) ?_
  refine Eq.trans (g_iadd dX10_newKey_6 rfl) ?_
  refine Eq.trans (g_put dX10_newKey_7 f26 sh34 rfl rfl rfl) ?_
  refine Eq.trans (g_A dX10_newKey_10 rfl rfl) ?_
  refine Eq.trans (g_getI dX10_newKey_11 f26 sh34 rfl rfl) ?_
  exact g_iret dX10_newKey_14 rfl
theorem q178_0 (C : am_C) (σ : am_M) (v1 : Int32) : am_go am_X0 C M178 0 [.ref 34, .int v1] [] σ = am_bI (C 176 [.int ((σ.1 34 20) + (v1 * (-1640531527)))] σ) (fun r1 t1 => some (.inl (some (.int r1)), t1)) := by
  refine Eq.trans (g_A dX10_valueOf_0 rfl rfl) ?_
  refine Eq.trans (g_getI dX10_valueOf_1 f14 sh34 rfl rfl) ?_
  refine Eq.trans (g_A dX10_valueOf_4 rfl rfl) ?_
  refine Eq.trans (g_ldc dX10_valueOf_5 ki5 rfl) ?_
  refine Eq.trans (g_imul dX10_valueOf_7 rfl) ?_
  refine Eq.trans (g_iadd dX10_valueOf_8 rfl) ?_
  refine Eq.trans (g_sI (as := [.int ((σ.1 34 20) + (v1 * (-1640531527)))]) (rest := []) dX10_valueOf_9 rfl cl99 m176 rfl rfl rfl rfl (Nat.le_of_ble_eq_true rfl) rfl rfl rfl) ?_
  refine am_bI_c (fun r1 t1 => ?_)
  exact g_iret dX10_valueOf_12 rfl
theorem q179_0 (C : am_C) (σ : am_M) (v0 : Int32) : am_go am_X0 C M179 0 [.int v0] [] σ = some (.inl (some (.int ((v0 - (nI 1)) / (nI 4)))), σ) := by
  refine Eq.trans (g_A dX10_parent_0 rfl rfl) ?_
  refine Eq.trans (g_K (v := nI 1) dX10_parent_1 rfl rfl) ?_
  refine Eq.trans (g_isub dX10_parent_2 rfl) ?_
  refine Eq.trans (g_K (v := nI 4) dX10_parent_3 rfl rfl) ?_
  refine Eq.trans (g_idiv dX10_parent_4 (by decide) rfl) ?_
  exact g_iret dX10_parent_5 rfl
theorem q180_0 (C : am_C) (σ : am_M) (v0 : Int32) : am_go am_X0 C M180 0 [.int v0] [] σ = if v0 = nI 0 then (some (.inl (some (.int (nI 0))), σ)) else (if (nI 5) ≤ v0 then (if (nI 21) ≤ v0 then (some (.inl (some (.int (nI 3))), σ)) else (some (.inl (some (.int (nI 2))), σ))) else (some (.inl (some (.int (nI 1))), σ))) := by
  refine Eq.trans (g_A dX10_levelOf_0 rfl rfl) ?_
  refine Eq.trans (g_ifne (t := 8) dX10_levelOf_1 rfl rfl) ?_
  refine am_ite ?_ ?_
  · refine Eq.trans (g_K (v := nI 0) dX10_levelOf_4 rfl rfl) ?_
    refine Eq.trans (g_goto (pc' := 28) dX10_levelOf_5 rfl) ?_
    exact g_iret dX10_levelOf_28 rfl
  · refine Eq.trans (g_A dX10_levelOf_8 rfl rfl) ?_
    refine Eq.trans (g_K (v := nI 5) dX10_levelOf_9 rfl rfl) ?_
    refine Eq.trans (g_icge (t := 17) dX10_levelOf_10 rfl rfl) ?_
    refine am_ite ?_ ?_
    · refine Eq.trans (g_A dX10_levelOf_17 rfl rfl) ?_
      refine Eq.trans (g_K (v := nI 21) dX10_levelOf_18 rfl rfl) ?_
      refine Eq.trans (g_icge (t := 27) dX10_levelOf_20 rfl rfl) ?_
      refine am_ite ?_ ?_
      · refine Eq.trans (g_K (v := nI 3) dX10_levelOf_27 rfl rfl) ?_
        exact g_iret dX10_levelOf_28 rfl
      · refine Eq.trans (g_K (v := nI 2) dX10_levelOf_23 rfl rfl) ?_
        refine Eq.trans (g_goto (pc' := 28) dX10_levelOf_24 rfl) ?_
        exact g_iret dX10_levelOf_28 rfl
    · refine Eq.trans (g_K (v := nI 1) dX10_levelOf_13 rfl rfl) ?_
      refine Eq.trans (g_goto (pc' := 28) dX10_levelOf_14 rfl) ?_
      exact g_iret dX10_levelOf_28 rfl
theorem q181_0 (C : am_C) (σ : am_M) (v0 v1 : Int32) : am_go am_X0 C M181 0 [.int v0, .int v1, .null] [] σ = am_go am_X0 C M181 2 [.int v0, .int v1, .int v0] [] σ := by
  refine Eq.trans (g_A dX10_isBelow_0 rfl rfl) ?_
  refine Eq.trans (g_isn (k := 2) dX10_isBelow_1 rfl (Nat.le_of_ble_eq_true rfl) rfl rfl rfl) ?_
  rfl
theorem q181_2 (C : am_C) (σ : am_M) (v0 v1 v2 : Int32) : am_go am_X0 C M181 2 [.int v0, .int v1, .int v2] [] σ = if v2 ≤ v1 then (if v2 = v1 then (some (.inl (some (.int (nI 1))), σ)) else (some (.inl (some (.int (nI 0))), σ))) else (am_bI (C 179 [.int v2] σ) (fun r1 t1 => am_go am_X0 C M181 2 [.int v0, .int v1, .int r1] [] t1)) := by
  refine Eq.trans (g_A dX10_isBelow_2 rfl rfl) ?_
  refine Eq.trans (g_A dX10_isBelow_3 rfl rfl) ?_
  refine Eq.trans (g_icle (t := 15) dX10_isBelow_4 rfl rfl) ?_
  refine am_ite ?_ ?_
  · refine Eq.trans (g_A dX10_isBelow_15 rfl rfl) ?_
    refine Eq.trans (g_A dX10_isBelow_16 rfl rfl) ?_
    refine Eq.trans (g_icne (t := 24) dX10_isBelow_17 rfl rfl) ?_
    refine am_ite ?_ ?_
    · refine Eq.trans (g_K (v := nI 1) dX10_isBelow_20 rfl rfl) ?_
      refine Eq.trans (g_goto (pc' := 25) dX10_isBelow_21 rfl) ?_
      exact g_zl dX10_isBelow_25 rfl (Or.inr rfl)
    · refine Eq.trans (g_K (v := nI 0) dX10_isBelow_24 rfl rfl) ?_
      exact g_zl dX10_isBelow_25 rfl (Or.inl rfl)
  · refine Eq.trans (g_A dX10_isBelow_7 rfl rfl) ?_
    refine Eq.trans (g_sI (as := [.int v2]) (rest := []) dX10_isBelow_8 rfl cl100 m179 rfl rfl rfl rfl (Nat.le_of_ble_eq_true rfl) rfl rfl rfl) ?_
    refine am_bI_c (fun r1 t1 => ?_)
    refine Eq.trans (g_isn (k := 2) dX10_isBelow_11 rfl (Nat.le_of_ble_eq_true rfl) rfl rfl rfl) ?_
    refine Eq.trans (g_goto (pc' := 2) dX10_isBelow_12 rfl) ?_
    rfl
theorem q182_0 (C : am_C) (σ : am_M) (v0 : Int32) : am_go am_X0 C M182 0 [.int v0] [] σ = am_bI (C 173 [.long ((v0 : Int32).toInt64), .long (0 : Int64), .long (63)] σ) (fun r1 t1 => if r1 = nI 0 ∨ r1 = nI 1 then some (.inl (some (.int r1)), t1) else none) := by
  refine Eq.trans (g_A dX10_isLeaf_0 rfl rfl) ?_
  refine Eq.trans (g_i2l dX10_isLeaf_1 rfl) ?_
  refine Eq.trans (g_KJ (v := (0 : Int64)) dX10_isLeaf_2 rfl rfl) ?_
  refine Eq.trans (g_ld2 dX10_isLeaf_3 kj1 rfl) ?_
  refine Eq.trans (g_sI (as := [.long ((v0 : Int32).toInt64), .long (0 : Int64), .long (63)]) (rest := []) dX10_isLeaf_6 rfl cl101 m173 rfl rfl rfl rfl (Nat.le_of_ble_eq_true rfl) rfl rfl rfl) ?_
  refine am_bI_c (fun r1 t1 => ?_)
  exact g_zret dX10_isLeaf_9 rfl
theorem q183_0 (C : am_C) (σ : am_M) (v0 : Int32) : am_go am_X0 C M183 0 [.int v0] [] σ = am_bI (C 173 [.long ((v0 : Int32).toInt64), .long (0 : Int64), .long (84)] σ) (fun r1 t1 => if r1 = nI 0 ∨ r1 = nI 1 then some (.inl (some (.int r1)), t1) else none) := by
  refine Eq.trans (g_A dX10_isPlace_0 rfl rfl) ?_
  refine Eq.trans (g_i2l dX10_isPlace_1 rfl) ?_
  refine Eq.trans (g_KJ (v := (0 : Int64)) dX10_isPlace_2 rfl rfl) ?_
  refine Eq.trans (g_ld2 dX10_isPlace_3 kj2 rfl) ?_
  refine Eq.trans (g_sI (as := [.long ((v0 : Int32).toInt64), .long (0 : Int64), .long (84)]) (rest := []) dX10_isPlace_6 rfl cl101 m173 rfl rfl rfl rfl (Nat.le_of_ble_eq_true rfl) rfl rfl rfl) ?_
  refine am_bI_c (fun r1 t1 => ?_)
  exact g_zret dX10_isPlace_9 rfl
theorem q184_0 (C : am_C) (σ : am_M) (v1 : Int32) : am_go am_X0 C M184 0 [.ref 34, .int v1] [] σ = am_bI (C 173 [.long ((v1 : Int32).toInt64), .long (0 : Int64), .long (((σ.1 34 23) - (nI 1) : Int32).toInt64)] σ) (fun r1 t1 => if r1 = nI 0 ∨ r1 = nI 1 then some (.inl (some (.int r1)), t1) else none) := by
  refine Eq.trans (g_A dX10_isRecord_0 rfl rfl) ?_
  refine Eq.trans (g_i2l dX10_isRecord_1 rfl) ?_
  refine Eq.trans (g_KJ (v := (0 : Int64)) dX10_isRecord_2 rfl rfl) ?_
  refine Eq.trans (g_A dX10_isRecord_3 rfl rfl) ?_
  refine Eq.trans (g_getI dX10_isRecord_4 f25 sh34 rfl rfl) ?_
  refine Eq.trans (g_K (v := nI 1) dX10_isRecord_7 rfl rfl) ?_
  refine Eq.trans (g_isub dX10_isRecord_8 rfl) ?_
  refine Eq.trans (g_i2l dX10_isRecord_9 rfl) ?_
  refine Eq.trans (g_sI (as := [.long ((v1 : Int32).toInt64), .long (0 : Int64), .long (((σ.1 34 23) - (nI 1) : Int32).toInt64)]) (rest := []) dX10_isRecord_10 rfl cl101 m173 rfl rfl rfl rfl (Nat.le_of_ble_eq_true rfl) rfl rfl rfl) ?_
  refine am_bI_c (fun r1 t1 => ?_)
  exact g_zret dX10_isRecord_13 rfl
theorem q185_0 (C : am_C) (σ : am_M) (v1 : Int32) : am_go am_X0 C M185 0 [.ref 34, .int v1] [] σ = am_bI (C 173 [.long ((v1 : Int32).toInt64), .long (0 : Int64), .long (((σ.1 34 22) - (nI 1) : Int32).toInt64)] σ) (fun r1 t1 => if r1 = nI 0 ∨ r1 = nI 1 then some (.inl (some (.int r1)), t1) else none) := by
  refine Eq.trans (g_A dX10_isMedium_0 rfl rfl) ?_
  refine Eq.trans (g_i2l dX10_isMedium_1 rfl) ?_
  refine Eq.trans (g_KJ (v := (0 : Int64)) dX10_isMedium_2 rfl rfl) ?_
  refine Eq.trans (g_A dX10_isMedium_3 rfl rfl) ?_
  refine Eq.trans (g_getI dX10_isMedium_4 f23 sh34 rfl rfl) ?_
  refine Eq.trans (g_K (v := nI 1) dX10_isMedium_7 rfl rfl) ?_
  refine Eq.trans (g_isub dX10_isMedium_8 rfl) ?_
  refine Eq.trans (g_i2l dX10_isMedium_9 rfl) ?_
  refine Eq.trans (g_sI (as := [.long ((v1 : Int32).toInt64), .long (0 : Int64), .long (((σ.1 34 22) - (nI 1) : Int32).toInt64)]) (rest := []) dX10_isMedium_10 rfl cl101 m173 rfl rfl rfl rfl (Nat.le_of_ble_eq_true rfl) rfl rfl rfl) ?_
  refine am_bI_c (fun r1 t1 => ?_)
  exact g_zret dX10_isMedium_13 rfl
theorem q186_0 (C : am_C) (σ : am_M) (v1 : Int32) : am_go am_X0 C M186 0 [.ref 34, .int v1, .null] [] σ = am_go am_X0 C M186 7 [.ref 34, .int v1, .int ((σ.1 34 22) - (nI 1))] [] σ := by
  refine Eq.trans (g_A dX10_writableBut_0 rfl rfl) ?_
  refine Eq.trans (g_getI dX10_writableBut_1 f23 sh34 rfl rfl) ?_
  refine Eq.trans (g_K (v := nI 1) dX10_writableBut_4 rfl rfl) ?_
  refine Eq.trans (g_isub dX10_writableBut_5 rfl) ?_
  refine Eq.trans (g_isn (k := 2) dX10_writableBut_6 rfl (Nat.le_of_ble_eq_true rfl) rfl rfl rfl) ?_
  rfl
theorem q186_7 (C : am_C) (σ : am_M) (v1 v2 : Int32) : am_go am_X0 C M186 7 [.ref 34, .int v1, .int v2] [] σ = if v2 < (nI 0) then (some (.inl (some (.int (-1))), σ)) else (if v2 = v1 then (am_go am_X0 C M186 7 [.ref 34, .int v1, .int (v2 + (-1))] [] σ) else (if am_in v2 8 = true then (if σ.1 44 (v2 : Int32).toNatClampNeg = nI 0 then (some (.inl (some (.int v2)), σ)) else (am_go am_X0 C M186 7 [.ref 34, .int v1, .int (v2 + (-1))] [] σ)) else none)) := by
  refine Eq.trans (g_A dX10_writableBut_7 rfl rfl) ?_
  refine Eq.trans (g_iflt (t := 33) dX10_writableBut_8 rfl rfl) ?_
  refine am_ite ?_ ?_
  · refine Eq.trans (g_K (v := (-1)) dX10_writableBut_33 rfl rfl) ?_
    exact g_iret dX10_writableBut_34 rfl
  · refine Eq.trans (g_A dX10_writableBut_11 rfl rfl) ?_
    refine Eq.trans (g_A dX10_writableBut_12 rfl rfl) ?_
    refine Eq.trans (g_iceq (t := 27) dX10_writableBut_13 rfl rfl) ?_
    refine am_ite ?_ ?_
    · refine Eq.trans (g_inc (v := v2 + (-1)) dX10_writableBut_27 rfl (Nat.le_of_ble_eq_true rfl) rfl rfl rfl rfl) ?_
      refine Eq.trans (g_goto (pc' := 7) dX10_writableBut_30 rfl) ?_
      rfl
    · refine Eq.trans (g_A dX10_writableBut_16 rfl rfl) ?_
      refine Eq.trans (g_getR dX10_writableBut_17 f21 sh34 rfl rfl) ?_
      refine Eq.trans (g_A dX10_writableBut_20 rfl rfl) ?_
      refine Eq.trans (g_iald dX10_writableBut_21 sh44 rfl) ?_
      refine am_ite ?_ rfl
      refine Eq.trans (g_ifne (t := 27) dX10_writableBut_22 rfl rfl) ?_
      refine am_ite ?_ ?_
      · refine Eq.trans (g_A dX10_writableBut_25 rfl rfl) ?_
        exact g_iret dX10_writableBut_26 rfl
      · refine Eq.trans (g_inc (v := v2 + (-1)) dX10_writableBut_27 rfl (Nat.le_of_ble_eq_true rfl) rfl rfl rfl rfl) ?_
        refine Eq.trans (g_goto (pc' := 7) dX10_writableBut_30 rfl) ?_
        rfl
theorem q187_0 (C : am_C) (σ : am_M) (v1 v2 : Int32) : am_go am_X0 C M187 0 [.ref 34, .int v1, .int v2] [] σ = if v2 = nI 0 then (some (.inl (some (.int (nI 1))), σ)) else (if v1 = (-1) then (some (.inl (some (.int (nI 0))), σ)) else (if am_in v1 8 = true then (if (nI 150) < ((σ.1 45 (v1 : Int32).toNatClampNeg) + v2) then (some (.inl (some (.int (nI 0))), σ)) else (some (.inl (some (.int (nI 1))), σ))) else none)) := by
  refine Eq.trans (g_A dX10_hasRoom_0 rfl rfl) ?_
  refine Eq.trans (g_ifeq (t := 23) dX10_hasRoom_1 rfl rfl) ?_
  refine am_ite ?_ ?_
  · refine Eq.trans (g_K (v := nI 1) dX10_hasRoom_23 rfl rfl) ?_
    refine Eq.trans (g_goto (pc' := 28) dX10_hasRoom_24 rfl) ?_
    exact g_zl dX10_hasRoom_28 rfl (Or.inr rfl)
  · refine Eq.trans (g_A dX10_hasRoom_4 rfl rfl) ?_
    refine Eq.trans (g_K (v := (-1)) dX10_hasRoom_5 rfl rfl) ?_
    refine Eq.trans (g_iceq (t := 27) dX10_hasRoom_6 rfl rfl) ?_
    refine am_ite ?_ ?_
    · refine Eq.trans (g_K (v := nI 0) dX10_hasRoom_27 rfl rfl) ?_
      exact g_zl dX10_hasRoom_28 rfl (Or.inl rfl)
    · refine Eq.trans (g_A dX10_hasRoom_9 rfl rfl) ?_
      refine Eq.trans (g_getR dX10_hasRoom_10 f22 sh34 rfl rfl) ?_
      refine Eq.trans (g_A dX10_hasRoom_13 rfl rfl) ?_
      refine Eq.trans (g_iald dX10_hasRoom_14 sh45 rfl) ?_
      refine am_ite ?_ rfl
      refine Eq.trans (g_A dX10_hasRoom_15 rfl rfl) ?_
      refine Eq.trans (g_iadd dX10_hasRoom_16 rfl) ?_
      refine Eq.trans (g_K (v := nI 150) dX10_hasRoom_17 rfl rfl) ?_
      refine Eq.trans (g_icgt (t := 27) dX10_hasRoom_20 rfl rfl) ?_
      refine am_ite ?_ ?_
      · refine Eq.trans (g_K (v := nI 0) dX10_hasRoom_27 rfl rfl) ?_
        exact g_zl dX10_hasRoom_28 rfl (Or.inl rfl)
      · refine Eq.trans (g_K (v := nI 1) dX10_hasRoom_23 rfl rfl) ?_
        refine Eq.trans (g_goto (pc' := 28) dX10_hasRoom_24 rfl) ?_
        exact g_zl dX10_hasRoom_28 rfl (Or.inr rfl)
theorem q188_0 (C : am_C) (σ : am_M) (v1 v2 v3 v4 : Int32) (w5 : Int64) : am_go am_X0 C M188 0 [.ref 34, .int v1, .int v2, .int v3, .int v4, .long w5, .null, .null] [] σ = if am_in v1 8 = true then (if am_in (((nI 150) * v1) + (σ.1 45 (v1 : Int32).toNatClampNeg)) 1200 = true then (if am_in (((nI 150) * v1) + (σ.1 45 (v1 : Int32).toNatClampNeg)) 1200 = true then (if am_in (((nI 150) * v1) + (σ.1 45 (v1 : Int32).toNatClampNeg)) 1200 = true then (if am_in (((nI 150) * v1) + (σ.1 45 (v1 : Int32).toNatClampNeg)) 1200 = true then (if am_in v1 8 = true then (if am_in v1 8 = true then (some (.inl none, am_wI (am_wJ (am_wI (am_wI (am_wI σ 46 (((nI 150) * v1) + (σ.1 45 (v1 : Int32).toNatClampNeg) : Int32).toNatClampNeg v2) 47 (((nI 150) * v1) + (σ.1 45 (v1 : Int32).toNatClampNeg) : Int32).toNatClampNeg v3) 48 (((nI 150) * v1) + (σ.1 45 (v1 : Int32).toNatClampNeg) : Int32).toNatClampNeg v4) 49 (((nI 150) * v1) + (σ.1 45 (v1 : Int32).toNatClampNeg) : Int32).toNatClampNeg w5) 45 (v1 : Int32).toNatClampNeg (((am_wJ (am_wI (am_wI (am_wI σ 46 (((nI 150) * v1) + (σ.1 45 (v1 : Int32).toNatClampNeg) : Int32).toNatClampNeg v2) 47 (((nI 150) * v1) + (σ.1 45 (v1 : Int32).toNatClampNeg) : Int32).toNatClampNeg v3) 48 (((nI 150) * v1) + (σ.1 45 (v1 : Int32).toNatClampNeg) : Int32).toNatClampNeg v4) 49 (((nI 150) * v1) + (σ.1 45 (v1 : Int32).toNatClampNeg) : Int32).toNatClampNeg w5).1 45 (v1 : Int32).toNatClampNeg) + (nI 1)))) else none) else none) else none) else none) else none) else none) else none := by
  refine Eq.trans (g_K (v := nI 150) dX10_writes_0 rfl rfl) ?_
  refine Eq.trans (g_A dX10_writes_3 rfl rfl) ?_
  refine Eq.trans (g_imul dX10_writes_4 rfl) ?_
  refine Eq.trans (g_A dX10_writes_5 rfl rfl) ?_
  refine Eq.trans (g_getR dX10_writes_6 f22 sh34 rfl rfl) ?_
  refine Eq.trans (g_A dX10_writes_9 rfl rfl) ?_
  refine Eq.trans (g_iald dX10_writes_10 sh45 rfl) ?_
  refine am_ite ?_ rfl
  refine Eq.trans (g_iadd dX10_writes_11 rfl) ?_
  refine Eq.trans (g_ist (k := 7) dX10_writes_12 (Nat.le_of_ble_eq_true rfl) rfl rfl rfl) ?_
  refine Eq.trans (g_A dX10_writes_14 rfl rfl) ?_
  refine Eq.trans (g_getR dX10_writes_15 f27 sh34 rfl rfl) ?_
  refine Eq.trans (g_A dX10_writes_18 rfl rfl) ?_
  refine Eq.trans (g_A dX10_writes_20 rfl rfl) ?_
  refine Eq.trans (g_iast dX10_writes_21 sh46 rfl) ?_
  refine am_ite ?_ rfl
  refine Eq.trans (g_A dX10_writes_22 rfl rfl) ?_
  refine Eq.trans (g_getR dX10_writes_23 f28 sh34 rfl rfl) ?_
  refine Eq.trans (g_A dX10_writes_26 rfl rfl) ?_
  refine Eq.trans (g_A dX10_writes_28 rfl rfl) ?_
  refine Eq.trans (g_iast dX10_writes_29 sh47 rfl) ?_
  refine am_ite ?_ rfl
  refine Eq.trans (g_A dX10_writes_30 rfl rfl) ?_
  refine Eq.trans (g_getR dX10_writes_31 f29 sh34 rfl rfl) ?_
  refine Eq.trans (g_A dX10_writes_34 rfl rfl) ?_
  refine Eq.trans (g_A dX10_writes_36 rfl rfl) ?_
  refine Eq.trans (g_iast dX10_writes_38 sh48 rfl) ?_
  refine am_ite ?_ rfl
  refine Eq.trans (g_A dX10_writes_39 rfl rfl) ?_
  refine Eq.trans (g_getR dX10_writes_40 f30 sh34 rfl rfl) ?_
  refine Eq.trans (g_A dX10_writes_43 rfl rfl) ?_
  refine Eq.trans (g_A dX10_writes_45 rfl rfl) ?_
  refine Eq.trans (g_last dX10_writes_47 sh49 rfl) ?_
  refine am_ite ?_ rfl
  refine Eq.trans (g_A dX10_writes_48 rfl rfl) ?_
  refine Eq.trans (g_getR dX10_writes_49 f22 sh34 rfl rfl) ?_
  refine Eq.trans (g_A dX10_writes_52 rfl rfl) ?_
  refine Eq.trans (g_B dX10_writes_53 rfl rfl rfl) ?_
  refine Eq.trans (g_iald dX10_writes_54 sh45 rfl) ?_
  refine am_ite ?_ rfl
  refine Eq.trans (g_K (v := nI 1) dX10_writes_55 rfl rfl) ?_
  refine Eq.trans (g_iadd dX10_writes_56 rfl) ?_
  refine Eq.trans (g_iast dX10_writes_57 sh45 rfl) ?_
  refine am_ite ?_ rfl
  exact g_vret dX10_writes_58 rfl
theorem q189_0 (C : am_C) (σ : am_M) (v1 v2 : Int32) : am_go am_X0 C M189 0 [.ref 34, .int v1, .int v2] [] σ = am_bI (C 186 [.ref 34, .int (-1)] σ) (fun r1 t1 => am_bI (C 178 [.ref 34, .int v1] t1) (fun r2 t2 => am_bI (C 178 [.ref 34, .int v2] t2) (fun r3 t3 => am_bI (C 176 [.int (r3 ^^^ v1)] t3) (fun r4 t4 => am_bV (C 188 [.ref 34, .int r1, .int (nI 0), .int v1, .int v2, .long ((r2 ^^^ r4 : Int32).toInt64)] t4) (fun t5 => some (.inl none, t5)))))) := by
  refine Eq.trans (g_A dX10_wraps_0 rfl rfl) ?_
  refine Eq.trans (g_A dX10_wraps_1 rfl rfl) ?_
  refine Eq.trans (g_K (v := (-1)) dX10_wraps_2 rfl rfl) ?_
  refine Eq.trans (g_vI (a := 34) (as := [.int (-1)]) (rest := [.ref 34]) dX10_wraps_3 cl102 m186 rfl rfl rfl rfl (Nat.le_of_ble_eq_true rfl) rfl rfl rfl rfl) ?_
  refine am_bI_c (fun r1 t1 => ?_)
  refine Eq.trans (g_K (v := nI 0) dX10_wraps_6 rfl rfl) ?_
  refine Eq.trans (g_A dX10_wraps_7 rfl rfl) ?_
  refine Eq.trans (g_A dX10_wraps_8 rfl rfl) ?_
  refine Eq.trans (g_A dX10_wraps_9 rfl rfl) ?_
  refine Eq.trans (g_A dX10_wraps_10 rfl rfl) ?_
  refine Eq.trans (g_vI (a := 34) (as := [.int v1]) (rest := [.int v2, .int v1, .int (nI 0), .int r1, .ref 34]) dX10_wraps_11 cl103 m178 rfl rfl rfl rfl (Nat.le_of_ble_eq_true rfl) rfl rfl rfl rfl) ?_
  refine am_bI_c (fun r2 t2 => ?_)
  refine Eq.trans (g_A dX10_wraps_14 rfl rfl) ?_
  refine Eq.trans (g_A dX10_wraps_15 rfl rfl) ?_
  refine Eq.trans (g_vI (a := 34) (as := [.int v2]) (rest := [.int r2, .int v2, .int v1, .int (nI 0), .int r1, .ref 34]) dX10_wraps_16 cl103 m178 rfl rfl rfl rfl (Nat.le_of_ble_eq_true rfl) rfl rfl rfl rfl) ?_
  refine am_bI_c (fun r3 t3 => ?_)
  refine Eq.trans (g_A dX10_wraps_19 rfl rfl) ?_
  refine Eq.trans (g_ixor dX10_wraps_20 rfl) ?_
  refine Eq.trans (g_sI (as := [.int (r3 ^^^ v1)]) (rest := [.int r2, .int v2, .int v1, .int (nI 0), .int r1, .ref 34]) dX10_wraps_21 rfl cl99 m176 rfl rfl rfl rfl (Nat.le_of_ble_eq_true rfl) rfl rfl rfl) ?_
  refine am_bI_c (fun r4 t4 => ?_)
  refine Eq.trans (g_ixor dX10_wraps_24 rfl) ?_
  refine Eq.trans (g_i2l dX10_wraps_25 rfl) ?_
  refine Eq.trans (g_vV (a := 34) (as := [.int r1, .int (nI 0), .int v1, .int v2, .long ((r2 ^^^ r4 : Int32).toInt64)]) (rest := []) dX10_wraps_26 cl104 m188 rfl rfl rfl rfl (Nat.le_of_ble_eq_true rfl) rfl rfl rfl rfl) ?_
  refine am_bV_c (fun t5 => ?_)
  exact g_vret dX10_wraps_29 rfl
theorem q190_0 (C : am_C) (σ : am_M) (v1 : Int32) : am_go am_X0 C M190 0 [.ref 34, .int v1] [] σ = am_bI (C 178 [.ref 34, .int v1] σ) (fun r1 t1 => am_bI (C 176 [.int (r1 + (nI 1))] t1) (fun r2 t2 => am_bI (C 178 [.ref 34, .int v1] t2) (fun r3 t3 => am_bI (C 176 [.int (r3 + (nI 2))] t3) (fun r4 t4 => some (.inl (some (.long ((((r2 : Int32).toInt64) <<< ((nI 32 : Int32).toInt64 &&& 63)) ||| (((r4 : Int32).toInt64) &&& (4294967295))))), t4))))) := by
  refine Eq.trans (g_A dX10_maskOf_0 rfl rfl) ?_
  refine Eq.trans (g_A dX10_maskOf_1 rfl rfl) ?_
  refine Eq.trans (g_vI (a := 34) (as := [.int v1]) (rest := []) dX10_maskOf_2 cl103 m178 rfl rfl rfl rfl (Nat.le_of_ble_eq_true rfl) rfl rfl rfl rfl) ?_
  refine am_bI_c (fun r1 t1 => ?_)
  refine Eq.trans (g_K (v := nI 1) dX10_maskOf_5 rfl rfl) ?_
  refine Eq.trans (g_iadd dX10_maskOf_6 rfl) ?_
  refine Eq.trans (g_sI (as := [.int (r1 + (nI 1))]) (rest := []) dX10_maskOf_7 rfl cl99 m176 rfl rfl rfl rfl (Nat.le_of_ble_eq_true rfl) rfl rfl rfl) ?_
  refine am_bI_c (fun r2 t2 => ?_)
  refine Eq.trans (g_i2l dX10_maskOf_10 rfl) ?_
  refine Eq.trans (g_K (v := nI 32) dX10_maskOf_11 rfl rfl) ?_
  refine Eq.trans (g_lshl dX10_maskOf_13 rfl) ?_
  refine Eq.trans (g_A dX10_maskOf_14 rfl rfl) ?_
  refine Eq.trans (g_A dX10_maskOf_15 rfl rfl) ?_
  refine Eq.trans (g_vI (a := 34) (as := [.int v1]) (rest := [.long (((r2 : Int32).toInt64) <<< ((nI 32 : Int32).toInt64 &&& 63))]) dX10_maskOf_16 cl103 m178 rfl rfl rfl rfl (Nat.le_of_ble_eq_true rfl) rfl rfl rfl rfl) ?_
  refine am_bI_c (fun r3 t3 => ?_)
  refine Eq.trans (g_K (v := nI 2) dX10_maskOf_19 rfl rfl) ?_
  refine Eq.trans (g_iadd dX10_maskOf_20 rfl) ?_
  refine Eq.trans (g_sI (as := [.int (r3 + (nI 2))]) (rest := [.long (((r2 : Int32).toInt64) <<< ((nI 32 : Int32).toInt64 &&& 63))]) dX10_maskOf_21 rfl cl99 m176 rfl rfl rfl rfl (Nat.le_of_ble_eq_true rfl) rfl rfl rfl) ?_
  refine am_bI_c (fun r4 t4 => ?_)
  refine Eq.trans (g_i2l dX10_maskOf_24 rfl) ?_
  refine Eq.trans (g_ld2 dX10_maskOf_25 kj3 rfl) ?_
  refine Eq.trans (g_land dX10_maskOf_28 rfl) ?_
  refine Eq.trans (g_lor dX10_maskOf_29 rfl) ?_
  exact g_lret dX10_maskOf_30 rfl
theorem q191_0 (C : am_C) (σ : am_M) (v1 v2 v3 v4 : Int32) : am_go am_X0 C M191 0 [.ref 34, .int v1, .int v2, .int v3, .int v4, .null] [] σ = am_go am_X0 C M191 7 [.ref 34, .int v1, .int v2, .int v3, .int v4, .int ((nI 150) * v1)] [] σ := by
  refine Eq.trans (g_K (v := nI 150) dX10_isOn_0 rfl rfl) ?_
  refine Eq.trans (g_A dX10_isOn_3 rfl rfl) ?_
  refine Eq.trans (g_imul dX10_isOn_4 rfl) ?_
  refine Eq.trans (g_ist (k := 5) dX10_isOn_5 (Nat.le_of_ble_eq_true rfl) rfl rfl rfl) ?_
  rfl
theorem q191_7 (C : am_C) (σ : am_M) (v1 v2 v3 v4 v5 : Int32) : am_go am_X0 C M191 7 [.ref 34, .int v1, .int v2, .int v3, .int v4, .int v5] [] σ = if am_in v1 8 = true then (if (((nI 150) * v1) + (σ.1 45 (v1 : Int32).toNatClampNeg)) ≤ v5 then (some (.inl (some (.int (nI 0))), σ)) else (if am_in v5 1200 = true then (if σ.1 46 (v5 : Int32).toNatClampNeg = v2 then (if am_in v5 1200 = true then (if σ.1 47 (v5 : Int32).toNatClampNeg = v3 then (if am_in v5 1200 = true then (if σ.1 48 (v5 : Int32).toNatClampNeg = v4 then (some (.inl (some (.int (nI 1))), σ)) else (am_go am_X0 C M191 7 [.ref 34, .int v1, .int v2, .int v3, .int v4, .int (v5 + nI 1)] [] σ)) else none) else (am_go am_X0 C M191 7 [.ref 34, .int v1, .int v2, .int v3, .int v4, .int (v5 + nI 1)] [] σ)) else none) else (am_go am_X0 C M191 7 [.ref 34, .int v1, .int v2, .int v3, .int v4, .int (v5 + nI 1)] [] σ)) else none)) else none := by
  refine Eq.trans (g_A dX10_isOn_7 rfl rfl) ?_
  refine Eq.trans (g_K (v := nI 150) dX10_isOn_9 rfl rfl) ?_
  refine Eq.trans (g_A dX10_isOn_12 rfl rfl) ?_
  refine Eq.trans (g_imul dX10_isOn_13 rfl) ?_
  refine Eq.trans (g_A dX10_isOn_14 rfl rfl) ?_
  refine Eq.trans (g_getR dX10_isOn_15 f22 sh34 rfl rfl) ?_
  refine Eq.trans (g_A dX10_isOn_18 rfl rfl) ?_
  refine Eq.trans (g_iald dX10_isOn_19 sh45 rfl) ?_
  refine am_ite ?_ rfl
  refine Eq.trans (g_iadd dX10_isOn_20 rfl) ?_
  refine Eq.trans (g_icge (t := 66) dX10_isOn_21 rfl rfl) ?_
  refine am_ite ?_ ?_
  · refine Eq.trans (g_K (v := nI 0) dX10_isOn_66 rfl rfl) ?_
    exact g_zl dX10_isOn_67 rfl (Or.inl rfl)
  · refine Eq.trans (g_A dX10_isOn_24 rfl rfl) ?_
    refine Eq.trans (g_getR dX10_isOn_25 f27 sh34 rfl rfl) ?_
    refine Eq.trans (g_A dX10_isOn_28 rfl rfl) ?_
    refine Eq.trans (g_iald dX10_isOn_30 sh46 rfl) ?_
    refine am_ite ?_ rfl
    refine Eq.trans (g_A dX10_isOn_31 rfl rfl) ?_
    refine Eq.trans (g_icne (t := 60) dX10_isOn_32 rfl rfl) ?_
    refine am_ite ?_ ?_
    · refine Eq.trans (g_A dX10_isOn_35 rfl rfl) ?_
      refine Eq.trans (g_getR dX10_isOn_36 f28 sh34 rfl rfl) ?_
      refine Eq.trans (g_A dX10_isOn_39 rfl rfl) ?_
      refine Eq.trans (g_iald dX10_isOn_41 sh47 rfl) ?_
      refine am_ite ?_ rfl
      refine Eq.trans (g_A dX10_isOn_42 rfl rfl) ?_
      refine Eq.trans (g_icne (t := 60) dX10_isOn_43 rfl rfl) ?_
      refine am_ite ?_ ?_
      · refine Eq.trans (g_A dX10_isOn_46 rfl rfl) ?_
        refine Eq.trans (g_getR dX10_isOn_47 f29 sh34 rfl rfl) ?_
        refine Eq.trans (g_A dX10_isOn_50 rfl rfl) ?_
        refine Eq.trans (g_iald dX10_isOn_52 sh48 rfl) ?_
        refine am_ite ?_ rfl
        refine Eq.trans (g_A dX10_isOn_53 rfl rfl) ?_
        refine Eq.trans (g_icne (t := 60) dX10_isOn_55 rfl rfl) ?_
        refine am_ite ?_ ?_
        · refine Eq.trans (g_K (v := nI 1) dX10_isOn_58 rfl rfl) ?_
          exact g_zl dX10_isOn_59 rfl (Or.inr rfl)
        · refine Eq.trans (g_inc (v := v5 + nI 1) dX10_isOn_60 rfl (Nat.le_of_ble_eq_true rfl) rfl rfl rfl rfl) ?_
          refine Eq.trans (g_goto (pc' := 7) dX10_isOn_63 rfl) ?_
          rfl
      · refine Eq.trans (g_inc (v := v5 + nI 1) dX10_isOn_60 rfl (Nat.le_of_ble_eq_true rfl) rfl rfl rfl rfl) ?_
        refine Eq.trans (g_goto (pc' := 7) dX10_isOn_63 rfl) ?_
        rfl
    · refine Eq.trans (g_inc (v := v5 + nI 1) dX10_isOn_60 rfl (Nat.le_of_ble_eq_true rfl) rfl rfl rfl rfl) ?_
      refine Eq.trans (g_goto (pc' := 7) dX10_isOn_63 rfl) ?_
      rfl
theorem q192_0 (C : am_C) (σ : am_M) (v1 v2 v3 v4 : Int32) : am_go am_X0 C M192 0 [.ref 34, .int v1, .int v2, .int v3, .int v4, .null] [] σ = am_go am_X0 C M192 3 [.ref 34, .int v1, .int v2, .int v3, .int v4, .int (nI 0)] [] σ := by
  refine Eq.trans (g_K (v := nI 0) dX10_isIntact_0 rfl rfl) ?_
  refine Eq.trans (g_ist (k := 5) dX10_isIntact_1 (Nat.le_of_ble_eq_true rfl) rfl rfl rfl) ?_
  rfl
theorem q192_3 (C : am_C) (σ : am_M) (v1 v2 v3 v4 v5 : Int32) : am_go am_X0 C M192 3 [.ref 34, .int v1, .int v2, .int v3, .int v4, .int v5] [] σ = if (σ.1 34 22) ≤ v5 then (some (.inl (some (.int (nI 0))), σ)) else (if v5 = v4 then (am_go am_X0 C M192 3 [.ref 34, .int v1, .int v2, .int v3, .int v4, .int (v5 + nI 1)] [] σ) else (if am_in v5 8 = true then (if σ.1 44 (v5 : Int32).toNatClampNeg = nI 0 then (am_bI (C 191 [.ref 34, .int v5, .int v1, .int v2, .int v3] σ) (fun r1 t1 => if r1 = nI 0 then (am_go am_X0 C M192 3 [.ref 34, .int v1, .int v2, .int v3, .int v4, .int (v5 + nI 1)] [] t1) else (some (.inl (some (.int (nI 1))), t1)))) else (am_go am_X0 C M192 3 [.ref 34, .int v1, .int v2, .int v3, .int v4, .int (v5 + nI 1)] [] σ)) else none)) := by
  refine Eq.trans (g_A dX10_isIntact_3 rfl rfl) ?_
  refine Eq.trans (g_A dX10_isIntact_5 rfl rfl) ?_
  refine Eq.trans (g_getI dX10_isIntact_6 f23 sh34 rfl rfl) ?_
  refine Eq.trans (g_icge (t := 49) dX10_isIntact_9 rfl rfl) ?_
  refine am_ite ?_ ?_
  · refine Eq.trans (g_K (v := nI 0) dX10_isIntact_49 rfl rfl) ?_
    exact g_zl dX10_isIntact_50 rfl (Or.inl rfl)
  · refine Eq.trans (g_A dX10_isIntact_12 rfl rfl) ?_
    refine Eq.trans (g_A dX10_isIntact_14 rfl rfl) ?_
    refine Eq.trans (g_iceq (t := 43) dX10_isIntact_16 rfl rfl) ?_
    refine am_ite ?_ ?_
    · refine Eq.trans (g_inc (v := v5 + nI 1) dX10_isIntact_43 rfl (Nat.le_of_ble_eq_true rfl) rfl rfl rfl rfl) ?_
      refine Eq.trans (g_goto (pc' := 3) dX10_isIntact_46 rfl) ?_
      rfl
    · refine Eq.trans (g_A dX10_isIntact_19 rfl rfl) ?_
      refine Eq.trans (g_getR dX10_isIntact_20 f21 sh34 rfl rfl) ?_
      refine Eq.trans (g_A dX10_isIntact_23 rfl rfl) ?_
      refine Eq.trans (g_iald dX10_isIntact_25 sh44 rfl) ?_
      refine am_ite ?_ rfl
      refine Eq.trans (g_ifne (t := 43) dX10_isIntact_26 rfl rfl) ?_
      refine am_ite ?_ ?_
      · refine Eq.trans (g_A dX10_isIntact_29 rfl rfl) ?_
        refine Eq.trans (g_A dX10_isIntact_30 rfl rfl) ?_
        refine Eq.trans (g_A dX10_isIntact_32 rfl rfl) ?_
        refine Eq.trans (g_A dX10_isIntact_33 rfl rfl) ?_
        refine Eq.trans (g_A dX10_isIntact_34 rfl rfl) ?_
        refine Eq.trans (g_vI (a := 34) (as := [.int v5, .int v1, .int v2, .int v3]) (rest := []) dX10_isIntact_35 cl105 m191 rfl rfl rfl rfl (Nat.le_of_ble_eq_true rfl) rfl rfl rfl rfl) ?_
        refine am_bI_c (fun r1 t1 => ?_)
        refine Eq.trans (g_ifeq (t := 43) dX10_isIntact_38 rfl rfl) ?_
        refine am_ite ?_ ?_
        · refine Eq.trans (g_inc (v := v5 + nI 1) dX10_isIntact_43 rfl (Nat.le_of_ble_eq_true rfl) rfl rfl rfl rfl) ?_
          refine Eq.trans (g_goto (pc' := 3) dX10_isIntact_46 rfl) ?_
          rfl
        · refine Eq.trans (g_K (v := nI 1) dX10_isIntact_41 rfl rfl) ?_
          exact g_zl dX10_isIntact_42 rfl (Or.inr rfl)
      · refine Eq.trans (g_inc (v := v5 + nI 1) dX10_isIntact_43 rfl (Nat.le_of_ble_eq_true rfl) rfl rfl rfl rfl) ?_
        refine Eq.trans (g_goto (pc' := 3) dX10_isIntact_46 rfl) ?_
        rfl
theorem q193_0 (C : am_C) (σ : am_M) (v1 v2 : Int32) : am_go am_X0 C M193 0 [.ref 34, .int v1, .int v2, .null] [] σ = if am_in v1 64 = true then (if σ.1 37 (v1 : Int32).toNatClampNeg = (-1) then (some (.inl (some (.int (nI 0))), σ)) else (if am_in v1 64 = true then (if am_in ((nI 21) + v1) 85 = true then (am_bI (C 192 [.ref 34, .int (nI 1), .int (σ.1 37 (v1 : Int32).toNatClampNeg), .int (σ.1 35 ((nI 21) + v1 : Int32).toNatClampNeg), .int v2] σ) (fun r1 t1 => if r1 = nI 0 then (some (.inl (some (.int (nI 0))), t1)) else (am_go am_X0 C M193 38 [.ref 34, .int v1, .int v2, .int ((nI 21) + v1)] [] t1))) else none) else none)) else none := by
  refine Eq.trans (g_K (v := nI 21) dX10_isReadable_0 rfl rfl) ?_
  refine Eq.trans (g_A dX10_isReadable_2 rfl rfl) ?_
  refine Eq.trans (g_iadd dX10_isReadable_3 rfl) ?_
  refine Eq.trans (g_isn (k := 3) dX10_isReadable_4 rfl (Nat.le_of_ble_eq_true rfl) rfl rfl rfl) ?_
  refine Eq.trans (g_A dX10_isReadable_5 rfl rfl) ?_
  refine Eq.trans (g_getR dX10_isReadable_6 f16 sh34 rfl rfl) ?_
  refine Eq.trans (g_A dX10_isReadable_9 rfl rfl) ?_
  refine Eq.trans (g_iald dX10_isReadable_10 sh37 rfl) ?_
  refine am_ite ?_ rfl
  refine Eq.trans (g_K (v := (-1)) dX10_isReadable_11 rfl rfl) ?_
  refine Eq.trans (g_iceq (t := 36) dX10_isReadable_12 rfl rfl) ?_
  refine am_ite ?_ ?_
  · refine Eq.trans (g_K (v := nI 0) dX10_isReadable_36 rfl rfl) ?_
    exact g_zl dX10_isReadable_37 rfl (Or.inl rfl)
  · refine Eq.trans (g_A dX10_isReadable_15 rfl rfl) ?_
    refine Eq.trans (g_K (v := nI 1) dX10_isReadable_16 rfl rfl) ?_
    refine Eq.trans (g_A dX10_isReadable_17 rfl rfl) ?_
    refine Eq.trans (g_getR dX10_isReadable_18 f16 sh34 rfl rfl) ?_
    refine Eq.trans (g_A dX10_isReadable_21 rfl rfl) ?_
    refine Eq.trans (g_iald dX10_isReadable_22 sh37 rfl) ?_
    refine am_ite ?_ rfl
    refine Eq.trans (g_A dX10_isReadable_23 rfl rfl) ?_
    refine Eq.trans (g_getR dX10_isReadable_24 f15 sh34 rfl rfl) ?_
    refine Eq.trans (g_A dX10_isReadable_27 rfl rfl) ?_
    refine Eq.trans (g_iald dX10_isReadable_28 sh35 rfl) ?_
    refine am_ite ?_ rfl
    refine Eq.trans (g_A dX10_isReadable_29 rfl rfl) ?_
    refine Eq.trans (g_vI (a := 34) (as := [.int (nI 1), .int (σ.1 37 (v1 : Int32).toNatClampNeg), .int (σ.1 35 ((nI 21) + v1 : Int32).toNatClampNeg), .int v2]) (rest := []) dX10_isReadable_30 cl106 m192 rfl rfl rfl rfl (Nat.le_of_ble_eq_true rfl) rfl rfl rfl rfl) ?_
    refine am_bI_c (fun r1 t1 => ?_)
    refine Eq.trans (g_ifne (t := 38) dX10_isReadable_33 rfl rfl) ?_
    refine am_ite ?_ ?_
    · refine Eq.trans (g_K (v := nI 0) dX10_isReadable_36 rfl rfl) ?_
      exact g_zl dX10_isReadable_37 rfl (Or.inl rfl)
    · rfl
theorem q193_38 (C : am_C) (σ : am_M) (v1 v2 v3 : Int32) : am_go am_X0 C M193 38 [.ref 34, .int v1, .int v2, .int v3] [] σ = if v3 ≤ (nI 0) then (some (.inl (some (.int (nI 1))), σ)) else (if am_in v3 85 = true then (am_bI (C 179 [.int v3] σ) (fun r1 t1 => if am_in r1 85 = true then (am_bI (C 192 [.ref 34, .int (nI 0), .int (σ.1 35 (v3 : Int32).toNatClampNeg), .int (t1.1 35 (r1 : Int32).toNatClampNeg), .int v2] t1) (fun r2 t2 => if r2 = nI 0 then (some (.inl (some (.int (nI 0))), t2)) else (am_bI (C 179 [.int v3] t2) (fun r3 t3 => am_go am_X0 C M193 38 [.ref 34, .int v1, .int v2, .int r3] [] t3)))) else none)) else none) := by
  refine Eq.trans (g_A dX10_isReadable_38 rfl rfl) ?_
  refine Eq.trans (g_ifle (t := 76) dX10_isReadable_39 rfl rfl) ?_
  refine am_ite ?_ ?_
  · refine Eq.trans (g_K (v := nI 1) dX10_isReadable_76 rfl rfl) ?_
    exact g_zl dX10_isReadable_77 rfl (Or.inr rfl)
  · refine Eq.trans (g_A dX10_isReadable_42 rfl rfl) ?_
    refine Eq.trans (g_K (v := nI 0) dX10_isReadable_43 rfl rfl) ?_
    refine Eq.trans (g_A dX10_isReadable_44 rfl rfl) ?_
    refine Eq.trans (g_getR dX10_isReadable_45 f15 sh34 rfl rfl) ?_
    refine Eq.trans (g_A dX10_isReadable_48 rfl rfl) ?_
    refine Eq.trans (g_iald dX10_isReadable_49 sh35 rfl) ?_
    refine am_ite ?_ rfl
    refine Eq.trans (g_A dX10_isReadable_50 rfl rfl) ?_
    refine Eq.trans (g_getR dX10_isReadable_51 f15 sh34 rfl rfl) ?_
    refine Eq.trans (g_A dX10_isReadable_54 rfl rfl) ?_
    refine Eq.trans (g_sI (as := [.int v3]) (rest := [.ref 35, .int (σ.1 35 (v3 : Int32).toNatClampNeg), .int (nI 0), .ref 34]) dX10_isReadable_55 rfl cl100 m179 rfl rfl rfl rfl (Nat.le_of_ble_eq_true rfl) rfl rfl rfl) ?_
    refine am_bI_c (fun r1 t1 => ?_)
    refine Eq.trans (g_iald dX10_isReadable_58 sh35 rfl) ?_
    refine am_ite ?_ rfl
    refine Eq.trans (g_A dX10_isReadable_59 rfl rfl) ?_
    refine Eq.trans (g_vI (a := 34) (as := [.int (nI 0), .int (σ.1 35 (v3 : Int32).toNatClampNeg), .int (t1.1 35 (r1 : Int32).toNatClampNeg), .int v2]) (rest := []) dX10_isReadable_60 cl106 m192 rfl rfl rfl rfl (Nat.le_of_ble_eq_true rfl) rfl rfl rfl rfl) ?_
    refine am_bI_c (fun r2 t2 => ?_)
    refine Eq.trans (g_ifne (t := 68) dX10_isReadable_63 rfl rfl) ?_
    refine am_ite ?_ ?_
    · refine Eq.trans (g_K (v := nI 0) dX10_isReadable_66 rfl rfl) ?_
      exact g_zl dX10_isReadable_67 rfl (Or.inl rfl)
    · refine Eq.trans (g_A dX10_isReadable_68 rfl rfl) ?_
      refine Eq.trans (g_sI (as := [.int v3]) (rest := []) dX10_isReadable_69 rfl cl100 m179 rfl rfl rfl rfl (Nat.le_of_ble_eq_true rfl) rfl rfl rfl) ?_
      refine am_bI_c (fun r3 t3 => ?_)
      refine Eq.trans (g_isn (k := 3) dX10_isReadable_72 rfl (Nat.le_of_ble_eq_true rfl) rfl rfl rfl) ?_
      refine Eq.trans (g_goto (pc' := 38) dX10_isReadable_73 rfl) ?_
      rfl
theorem q194_0 (C : am_C) (σ : am_M) (v1 : Int32) : am_go am_X0 C M194 0 [.ref 34, .int v1, .null, .null] [] σ = am_go am_X0 C M194 4 [.ref 34, .int v1, .int (nI 0), .int (nI 0)] [] σ := by
  refine Eq.trans (g_K (v := nI 0) dX10_losesBy_0 rfl rfl) ?_
  refine Eq.trans (g_isn (k := 2) dX10_losesBy_1 rfl (Nat.le_of_ble_eq_true rfl) rfl rfl rfl) ?_
  refine Eq.trans (g_K (v := nI 0) dX10_losesBy_2 rfl rfl) ?_
  refine Eq.trans (g_isn (k := 3) dX10_losesBy_3 rfl (Nat.le_of_ble_eq_true rfl) rfl rfl rfl) ?_
  rfl
theorem q194_4 (C : am_C) (σ : am_M) (v1 v2 v3 : Int32) : am_go am_X0 C M194 4 [.ref 34, .int v1, .int v2, .int v3] [] σ = if (nI 64) ≤ v3 then (some (.inl (some (.int v2)), σ)) else (am_bI (C 193 [.ref 34, .int v3, .int (-1)] σ) (fun r1 t1 => if r1 = nI 0 then (am_go am_X0 C M194 4 [.ref 34, .int v1, .int (v2 + (nI 0)), .int (v3 + nI 1)] [] t1) else (am_bI (C 193 [.ref 34, .int v3, .int v1] t1) (fun r2 t2 => if r2 = nI 0 then (am_go am_X0 C M194 4 [.ref 34, .int v1, .int (v2 + (nI 1)), .int (v3 + nI 1)] [] t2) else (am_go am_X0 C M194 4 [.ref 34, .int v1, .int (v2 + (nI 0)), .int (v3 + nI 1)] [] t2))))) := by
  refine Eq.trans (g_A dX10_losesBy_4 rfl rfl) ?_
  refine Eq.trans (g_K (v := nI 64) dX10_losesBy_5 rfl rfl) ?_
  refine Eq.trans (g_icge (t := 42) dX10_losesBy_7 rfl rfl) ?_
  refine am_ite ?_ ?_
  · refine Eq.trans (g_A dX10_losesBy_42 rfl rfl) ?_
    exact g_iret dX10_losesBy_43 rfl
  · refine Eq.trans (g_A dX10_losesBy_10 rfl rfl) ?_
    refine Eq.trans (g_A dX10_losesBy_11 rfl rfl) ?_
    refine Eq.trans (g_A dX10_losesBy_12 rfl rfl) ?_
    refine Eq.trans (g_K (v := (-1)) dX10_losesBy_13 rfl rfl) ?_
    refine Eq.trans (g_vI (a := 34) (as := [.int v3, .int (-1)]) (rest := [.int v2]) dX10_losesBy_14 cl107 m193 rfl rfl rfl rfl (Nat.le_of_ble_eq_true rfl) rfl rfl rfl rfl) ?_
    refine am_bI_c (fun r1 t1 => ?_)
    refine Eq.trans (g_ifeq (t := 33) dX10_losesBy_17 rfl rfl) ?_
    refine am_ite ?_ ?_
    · refine Eq.trans (g_K (v := nI 0) dX10_losesBy_33 rfl rfl) ?_
      refine Eq.trans (g_iadd dX10_losesBy_34 rfl) ?_
      refine Eq.trans (g_isn (k := 2) dX10_losesBy_35 rfl (Nat.le_of_ble_eq_true rfl) rfl rfl rfl) ?_
      refine Eq.trans (g_inc (v := v3 + nI 1) dX10_losesBy_36 rfl (Nat.le_of_ble_eq_true rfl) rfl rfl rfl rfl) ?_
      refine Eq.trans (g_goto (pc' := 4) dX10_losesBy_39 rfl) ?_
      rfl
    · refine Eq.trans (g_A dX10_losesBy_20 rfl rfl) ?_
      refine Eq.trans (g_A dX10_losesBy_21 rfl rfl) ?_
      refine Eq.trans (g_A dX10_losesBy_22 rfl rfl) ?_
      refine Eq.trans (g_vI (a := 34) (as := [.int v3, .int v1]) (rest := [.int v2]) dX10_losesBy_23 cl107 m193 rfl rfl rfl rfl (Nat.le_of_ble_eq_true rfl) rfl rfl rfl rfl) ?_
      refine am_bI_c (fun r2 t2 => ?_)
      refine Eq.trans (g_ifne (t := 33) dX10_losesBy_26 rfl rfl) ?_
      refine am_ite ?_ ?_
      · refine Eq.trans (g_K (v := nI 1) dX10_losesBy_29 rfl rfl) ?_
        refine Eq.trans (g_goto (pc' := 34) dX10_losesBy_30 rfl) ?_
        refine Eq.trans (g_iadd dX10_losesBy_34 rfl) ?_
        refine Eq.trans (g_isn (k := 2) dX10_losesBy_35 rfl (Nat.le_of_ble_eq_true rfl) rfl rfl rfl) ?_
        refine Eq.trans (g_inc (v := v3 + nI 1) dX10_losesBy_36 rfl (Nat.le_of_ble_eq_true rfl) rfl rfl rfl rfl) ?_
        refine Eq.trans (g_goto (pc' := 4) dX10_losesBy_39 rfl) ?_
        rfl
      · refine Eq.trans (g_K (v := nI 0) dX10_losesBy_33 rfl rfl) ?_
        refine Eq.trans (g_iadd dX10_losesBy_34 rfl) ?_
        refine Eq.trans (g_isn (k := 2) dX10_losesBy_35 rfl (Nat.le_of_ble_eq_true rfl) rfl rfl rfl) ?_
        refine Eq.trans (g_inc (v := v3 + nI 1) dX10_losesBy_36 rfl (Nat.le_of_ble_eq_true rfl) rfl rfl rfl rfl) ?_
        refine Eq.trans (g_goto (pc' := 4) dX10_losesBy_39 rfl) ?_
        rfl
theorem q195_0 (C : am_C) (σ : am_M) (v1 : Int32) : am_go am_X0 C M195 0 [.ref 34, .int v1, .null] [] σ = am_go am_X0 C M195 2 [.ref 34, .int v1, .int (nI 0)] [] σ := by
  refine Eq.trans (g_K (v := nI 0) dX10_has_0 rfl rfl) ?_
  refine Eq.trans (g_isn (k := 2) dX10_has_1 rfl (Nat.le_of_ble_eq_true rfl) rfl rfl rfl) ?_
  rfl
theorem q195_2 (C : am_C) (σ : am_M) (v1 v2 : Int32) : am_go am_X0 C M195 2 [.ref 34, .int v1, .int v2] [] σ = if (σ.1 34 27) ≤ v2 then (some (.inl (some (.int (nI 0))), σ)) else (if am_in v2 2500 = true then (if σ.1 55 (v2 : Int32).toNatClampNeg = v1 then (some (.inl (some (.int (nI 1))), σ)) else (am_go am_X0 C M195 2 [.ref 34, .int v1, .int (v2 + nI 1)] [] σ)) else none) := by
  refine Eq.trans (g_A dX10_has_2 rfl rfl) ?_
  refine Eq.trans (g_A dX10_has_3 rfl rfl) ?_
  refine Eq.trans (g_getI dX10_has_4 f31 sh34 rfl rfl) ?_
  refine Eq.trans (g_icge (t := 28) dX10_has_7 rfl rfl) ?_
  refine am_ite ?_ ?_
  · refine Eq.trans (g_K (v := nI 0) dX10_has_28 rfl rfl) ?_
    exact g_zl dX10_has_29 rfl (Or.inl rfl)
  · refine Eq.trans (g_A dX10_has_10 rfl rfl) ?_
    refine Eq.trans (g_getR dX10_has_11 f32 sh34 rfl rfl) ?_
    refine Eq.trans (g_A dX10_has_14 rfl rfl) ?_
    refine Eq.trans (g_iald dX10_has_15 sh55 rfl) ?_
    refine am_ite ?_ rfl
    refine Eq.trans (g_A dX10_has_16 rfl rfl) ?_
    refine Eq.trans (g_icne (t := 22) dX10_has_17 rfl rfl) ?_
    refine am_ite ?_ ?_
    · refine Eq.trans (g_K (v := nI 1) dX10_has_20 rfl rfl) ?_
      exact g_zl dX10_has_21 rfl (Or.inr rfl)
    · refine Eq.trans (g_inc (v := v2 + nI 1) dX10_has_22 rfl (Nat.le_of_ble_eq_true rfl) rfl rfl rfl rfl) ?_
      refine Eq.trans (g_goto (pc' := 2) dX10_has_25 rfl) ?_
      rfl
theorem q196_0 (C : am_C) (σ : am_M) (v1 : Int32) : am_go am_X0 C M196 0 [.ref 34, .int v1] [] σ = am_bI (C 195 [.ref 34, .int v1] σ) (fun r1 t1 => if r1 = nI 0 then (if am_in (t1.1 34 27) 2500 = true then (some (.inl none, am_wI (am_wI t1 55 (t1.1 34 27 : Int32).toNatClampNeg v1) 34 27 (((am_wI t1 55 (t1.1 34 27 : Int32).toNatClampNeg v1).1 34 27) + (nI 1)))) else none) else (some (.inl none, t1))) := by
  refine Eq.trans (g_A dX10_adds_0 rfl rfl) ?_
  refine Eq.trans (g_A dX10_adds_1 rfl rfl) ?_
  refine Eq.trans (g_vI (a := 34) (as := [.int v1]) (rest := []) dX10_adds_2 cl108 m195 rfl rfl rfl rfl (Nat.le_of_ble_eq_true rfl) rfl rfl rfl rfl) ?_
  refine am_bI_c (fun r1 t1 => ?_)
  refine Eq.trans (g_ifeq (t := 9) dX10_adds_5 rfl rfl) ?_
  refine am_ite ?_ ?_
  · refine Eq.trans (g_A dX10_adds_9 rfl rfl) ?_
    refine Eq.trans (g_getR dX10_adds_10 f32 sh34 rfl rfl) ?_
    refine Eq.trans (g_A dX10_adds_13 rfl rfl) ?_
    refine Eq.trans (g_getI dX10_adds_14 f31 sh34 rfl rfl) ?_
    refine Eq.trans (g_A dX10_adds_17 rfl rfl) ?_
    refine Eq.trans (g_iast dX10_adds_18 sh55 rfl) ?_
    refine am_ite ?_ rfl
    refine Eq.trans (g_A dX10_adds_19 rfl rfl) ?_
    refine Eq.trans (g_B dX10_adds_20 rfl rfl rfl) ?_
    refine Eq.trans (g_getI dX10_adds_21 f31 sh34 rfl rfl) ?_
    refine Eq.trans (g_K (v := nI 1) dX10_adds_24 rfl rfl) ?_
    refine Eq.trans (g_iadd dX10_adds_25 rfl) ?_
    refine Eq.trans (g_put dX10_adds_26 f31 sh34 rfl rfl rfl) ?_
    exact g_vret dX10_adds_29 rfl
  · exact g_vret dX10_adds_8 rfl
theorem q197_0 (C : am_C) (σ : am_M) (v1 : Int32) : am_go am_X0 C M197 0 [.ref 34, .int v1, .null, .null] [] σ = am_go am_X0 C M197 2 [.ref 34, .int v1, .int (nI 0), .null] [] σ := by
  refine Eq.trans (g_K (v := nI 0) dX10_addsFor_0 rfl rfl) ?_
  refine Eq.trans (g_isn (k := 2) dX10_addsFor_1 rfl (Nat.le_of_ble_eq_true rfl) rfl rfl rfl) ?_
  rfl
theorem q197_2 (C : am_C) (σ : am_M) (v1 v2 : Int32) {u3 : Value} (hu3 : (!(u3.category == 2)) = true) : am_go am_X0 C M197 2 [.ref 34, .int v1, .int v2, u3] [] σ = if (σ.1 34 22) ≤ v2 then (some (.inl none, σ)) else (am_go am_X0 C M197 16 [.ref 34, .int v1, .int v2, .int ((nI 150) * v2)] [] σ) := by
  refine Eq.trans (g_A dX10_addsFor_2 rfl rfl) ?_
  refine Eq.trans (g_A dX10_addsFor_3 rfl rfl) ?_
  refine Eq.trans (g_getI dX10_addsFor_4 f23 sh34 rfl rfl) ?_
  refine Eq.trans (g_icge (t := 84) dX10_addsFor_7 rfl rfl) ?_
  refine am_ite ?_ ?_
  · exact g_vret dX10_addsFor_84 rfl
  · refine Eq.trans (g_K (v := nI 150) dX10_addsFor_10 rfl rfl) ?_
    refine Eq.trans (g_A dX10_addsFor_13 rfl rfl) ?_
    refine Eq.trans (g_imul dX10_addsFor_14 rfl) ?_
    refine Eq.trans (g_isn (k := 3) dX10_addsFor_15 rfl (Nat.le_of_ble_eq_true rfl) rfl rfl rfl) ?_
    rfl
theorem q197_16 (C : am_C) (σ : am_M) (v1 v2 v3 : Int32) : am_go am_X0 C M197 16 [.ref 34, .int v1, .int v2, .int v3] [] σ = if am_in v2 8 = true then (if σ.1 44 (v2 : Int32).toNatClampNeg = nI 2 then (am_go am_X0 C M197 2 [.ref 34, .int v1, .int (v2 + nI 1), .int v3] [] σ) else (if am_in v2 8 = true then (if (((nI 150) * v2) + (σ.1 45 (v2 : Int32).toNatClampNeg)) ≤ v3 then (am_go am_X0 C M197 2 [.ref 34, .int v1, .int (v2 + nI 1), .int v3] [] σ) else (if am_in v3 1200 = true then (if σ.1 46 (v3 : Int32).toNatClampNeg = nI 1 then (if am_in v3 1200 = true then (if σ.1 47 (v3 : Int32).toNatClampNeg = v1 then (if am_in v3 1200 = true then (am_bV (C 196 [.ref 34, .int (σ.1 48 (v3 : Int32).toNatClampNeg)] σ) (fun t1 => am_go am_X0 C M197 16 [.ref 34, .int v1, .int v2, .int (v3 + nI 1)] [] t1)) else none) else (am_go am_X0 C M197 16 [.ref 34, .int v1, .int v2, .int (v3 + nI 1)] [] σ)) else none) else (am_go am_X0 C M197 16 [.ref 34, .int v1, .int v2, .int (v3 + nI 1)] [] σ)) else none)) else none)) else none := by
  refine Eq.trans (g_A dX10_addsFor_16 rfl rfl) ?_
  refine Eq.trans (g_getR dX10_addsFor_17 f21 sh34 rfl rfl) ?_
  refine Eq.trans (g_A dX10_addsFor_20 rfl rfl) ?_
  refine Eq.trans (g_iald dX10_addsFor_21 sh44 rfl) ?_
  refine am_ite ?_ rfl
  refine Eq.trans (g_K (v := nI 2) dX10_addsFor_22 rfl rfl) ?_
  refine Eq.trans (g_iceq (t := 78) dX10_addsFor_23 rfl rfl) ?_
  refine am_ite ?_ ?_
  · refine Eq.trans (g_inc (v := v2 + nI 1) dX10_addsFor_78 rfl (Nat.le_of_ble_eq_true rfl) rfl rfl rfl rfl) ?_
    refine Eq.trans (g_goto (pc' := 2) dX10_addsFor_81 rfl) ?_
    rfl
  · refine Eq.trans (g_A dX10_addsFor_26 rfl rfl) ?_
    refine Eq.trans (g_K (v := nI 150) dX10_addsFor_27 rfl rfl) ?_
    refine Eq.trans (g_A dX10_addsFor_30 rfl rfl) ?_
    refine Eq.trans (g_imul dX10_addsFor_31 rfl) ?_
    refine Eq.trans (g_A dX10_addsFor_32 rfl rfl) ?_
    refine Eq.trans (g_getR dX10_addsFor_33 f22 sh34 rfl rfl) ?_
    refine Eq.trans (g_A dX10_addsFor_36 rfl rfl) ?_
    refine Eq.trans (g_iald dX10_addsFor_37 sh45 rfl) ?_
    refine am_ite ?_ rfl
    refine Eq.trans (g_iadd dX10_addsFor_38 rfl) ?_
    refine Eq.trans (g_icge (t := 78) dX10_addsFor_39 rfl rfl) ?_
    refine am_ite ?_ ?_
    · refine Eq.trans (g_inc (v := v2 + nI 1) dX10_addsFor_78 rfl (Nat.le_of_ble_eq_true rfl) rfl rfl rfl rfl) ?_
      refine Eq.trans (g_goto (pc' := 2) dX10_addsFor_81 rfl) ?_
      rfl
    · refine Eq.trans (g_A dX10_addsFor_42 rfl rfl) ?_
      refine Eq.trans (g_getR dX10_addsFor_43 f27 sh34 rfl rfl) ?_
      refine Eq.trans (g_A dX10_addsFor_46 rfl rfl) ?_
      refine Eq.trans (g_iald dX10_addsFor_47 sh46 rfl) ?_
      refine am_ite ?_ rfl
      refine Eq.trans (g_K (v := nI 1) dX10_addsFor_48 rfl rfl) ?_
      refine Eq.trans (g_icne (t := 72) dX10_addsFor_49 rfl rfl) ?_
      refine am_ite ?_ ?_
      · refine Eq.trans (g_A dX10_addsFor_52 rfl rfl) ?_
        refine Eq.trans (g_getR dX10_addsFor_53 f28 sh34 rfl rfl) ?_
        refine Eq.trans (g_A dX10_addsFor_56 rfl rfl) ?_
        refine Eq.trans (g_iald dX10_addsFor_57 sh47 rfl) ?_
        refine am_ite ?_ rfl
        refine Eq.trans (g_A dX10_addsFor_58 rfl rfl) ?_
        refine Eq.trans (g_icne (t := 72) dX10_addsFor_59 rfl rfl) ?_
        refine am_ite ?_ ?_
        · refine Eq.trans (g_A dX10_addsFor_62 rfl rfl) ?_
          refine Eq.trans (g_A dX10_addsFor_63 rfl rfl) ?_
          refine Eq.trans (g_getR dX10_addsFor_64 f29 sh34 rfl rfl) ?_
          refine Eq.trans (g_A dX10_addsFor_67 rfl rfl) ?_
          refine Eq.trans (g_iald dX10_addsFor_68 sh48 rfl) ?_
          refine am_ite ?_ rfl
          refine Eq.trans (g_vV (a := 34) (as := [.int (σ.1 48 (v3 : Int32).toNatClampNeg)]) (rest := []) dX10_addsFor_69 cl109 m196 rfl rfl rfl rfl (Nat.le_of_ble_eq_true rfl) rfl rfl rfl rfl) ?_
          refine am_bV_c (fun t1 => ?_)
          refine Eq.trans (g_inc (v := v3 + nI 1) dX10_addsFor_72 rfl (Nat.le_of_ble_eq_true rfl) rfl rfl rfl rfl) ?_
          refine Eq.trans (g_goto (pc' := 16) dX10_addsFor_75 rfl) ?_
          rfl
        · refine Eq.trans (g_inc (v := v3 + nI 1) dX10_addsFor_72 rfl (Nat.le_of_ble_eq_true rfl) rfl rfl rfl rfl) ?_
          refine Eq.trans (g_goto (pc' := 16) dX10_addsFor_75 rfl) ?_
          rfl
      · refine Eq.trans (g_inc (v := v3 + nI 1) dX10_addsFor_72 rfl (Nat.le_of_ble_eq_true rfl) rfl rfl rfl rfl) ?_
        refine Eq.trans (g_goto (pc' := 16) dX10_addsFor_75 rfl) ?_
        rfl
theorem q198_0 (C : am_C) (σ : am_M) (v1 : Int32) : am_go am_X0 C M198 0 [.ref 34, .int v1, .null, .null, .null] [] σ = am_go am_X0 C M198 2 [.ref 34, .int v1, .int (-1), .null, .null] [] σ := by
  refine Eq.trans (g_K (v := (-1)) dX10_grows_0 rfl rfl) ?_
  refine Eq.trans (g_isn (k := 2) dX10_grows_1 rfl (Nat.le_of_ble_eq_true rfl) rfl rfl rfl) ?_
  rfl
theorem q198_2 (C : am_C) (σ : am_M) (v1 v2 : Int32) {u3 : Value} (hu3 : (!(u3.category == 2)) = true) {u4 : Value} (hu4 : (!(u4.category == 2)) = true) : am_go am_X0 C M198 2 [.ref 34, .int v1, .int v2, u3, u4] [] σ = if v2 = σ.1 34 27 then (some (.inl none, σ)) else (am_go am_X0 C M198 17 [.ref 34, .int v1, .int (σ.1 34 27), .int (nI 0), u4] [] σ) := by
  refine Eq.trans (g_A dX10_grows_2 rfl rfl) ?_
  refine Eq.trans (g_A dX10_grows_3 rfl rfl) ?_
  refine Eq.trans (g_getI dX10_grows_4 f31 sh34 rfl rfl) ?_
  refine Eq.trans (g_iceq (t := 137) dX10_grows_7 rfl rfl) ?_
  refine am_ite ?_ ?_
  · exact g_vret dX10_grows_137 rfl
  · refine Eq.trans (g_A dX10_grows_10 rfl rfl) ?_
    refine Eq.trans (g_getI dX10_grows_11 f31 sh34 rfl rfl) ?_
    refine Eq.trans (g_isn (k := 2) dX10_grows_14 rfl (Nat.le_of_ble_eq_true rfl) rfl rfl rfl) ?_
    refine Eq.trans (g_K (v := nI 0) dX10_grows_15 rfl rfl) ?_
    refine Eq.trans (g_isn (k := 3) dX10_grows_16 rfl (Nat.le_of_ble_eq_true rfl) rfl rfl rfl) ?_
    rfl
theorem q198_17 (C : am_C) (σ : am_M) (v1 v2 v3 : Int32) {u4 : Value} (hu4 : (!(u4.category == 2)) = true) : am_go am_X0 C M198 17 [.ref 34, .int v1, .int v2, .int v3, u4] [] σ = if (σ.1 34 22) ≤ v3 then (am_go am_X0 C M198 2 [.ref 34, .int v1, .int v2, .int v3, u4] [] σ) else (am_go am_X0 C M198 32 [.ref 34, .int v1, .int v2, .int v3, .int ((nI 150) * v3)] [] σ) := by
  refine Eq.trans (g_A dX10_grows_17 rfl rfl) ?_
  refine Eq.trans (g_A dX10_grows_18 rfl rfl) ?_
  refine Eq.trans (g_getI dX10_grows_19 f23 sh34 rfl rfl) ?_
  refine Eq.trans (g_icge (t := 134) dX10_grows_22 rfl rfl) ?_
  refine am_ite ?_ ?_
  · refine Eq.trans (g_goto (pc' := 2) dX10_grows_134 rfl) ?_
    rfl
  · refine Eq.trans (g_K (v := nI 150) dX10_grows_25 rfl rfl) ?_
    refine Eq.trans (g_A dX10_grows_28 rfl rfl) ?_
    refine Eq.trans (g_imul dX10_grows_29 rfl) ?_
    refine Eq.trans (g_ist (k := 4) dX10_grows_30 (Nat.le_of_ble_eq_true rfl) rfl rfl rfl) ?_
    rfl
theorem q198_32 (C : am_C) (σ : am_M) (v1 v2 v3 v4 : Int32) : am_go am_X0 C M198 32 [.ref 34, .int v1, .int v2, .int v3, .int v4] [] σ = if am_in v3 8 = true then (if σ.1 44 (v3 : Int32).toNatClampNeg = nI 2 then (am_go am_X0 C M198 17 [.ref 34, .int v1, .int v2, .int (v3 + nI 1), .int v4] [] σ) else (if am_in v3 8 = true then (if (((nI 150) * v3) + (σ.1 45 (v3 : Int32).toNatClampNeg)) ≤ v4 then (am_go am_X0 C M198 17 [.ref 34, .int v1, .int v2, .int (v3 + nI 1), .int v4] [] σ) else (if am_in v4 1200 = true then (if σ.1 46 (v4 : Int32).toNatClampNeg = nI 0 then (if v1 = nI 0 then (if am_in v4 1200 = true then (am_go am_X0 C M198 91 [.ref 34, .int v1, .int v2, .int v3, .int v4] [.int (σ.1 48 (v4 : Int32).toNatClampNeg), .ref 34] σ) else none) else (if am_in v4 1200 = true then (am_go am_X0 C M198 91 [.ref 34, .int v1, .int v2, .int v3, .int v4] [.int (σ.1 47 (v4 : Int32).toNatClampNeg), .ref 34] σ) else none)) else (am_go am_X0 C M198 32 [.ref 34, .int v1, .int v2, .int v3, .int (v4 + nI 1)] [] σ)) else none)) else none)) else none := by
  refine Eq.trans (g_A dX10_grows_32 rfl rfl) ?_
  refine Eq.trans (g_getR dX10_grows_33 f21 sh34 rfl rfl) ?_
  refine Eq.trans (g_A dX10_grows_36 rfl rfl) ?_
  refine Eq.trans (g_iald dX10_grows_37 sh44 rfl) ?_
  refine am_ite ?_ rfl
  refine Eq.trans (g_K (v := nI 2) dX10_grows_38 rfl rfl) ?_
  refine Eq.trans (g_iceq (t := 128) dX10_grows_39 rfl rfl) ?_
  refine am_ite ?_ ?_
  · refine Eq.trans (g_inc (v := v3 + nI 1) dX10_grows_128 rfl (Nat.le_of_ble_eq_true rfl) rfl rfl rfl rfl) ?_
    refine Eq.trans (g_goto (pc' := 17) dX10_grows_131 rfl) ?_
    rfl
  · refine Eq.trans (g_A dX10_grows_42 rfl rfl) ?_
    refine Eq.trans (g_K (v := nI 150) dX10_grows_44 rfl rfl) ?_
    refine Eq.trans (g_A dX10_grows_47 rfl rfl) ?_
    refine Eq.trans (g_imul dX10_grows_48 rfl) ?_
    refine Eq.trans (g_A dX10_grows_49 rfl rfl) ?_
    refine Eq.trans (g_getR dX10_grows_50 f22 sh34 rfl rfl) ?_
    refine Eq.trans (g_A dX10_grows_53 rfl rfl) ?_
    refine Eq.trans (g_iald dX10_grows_54 sh45 rfl) ?_
    refine am_ite ?_ rfl
    refine Eq.trans (g_iadd dX10_grows_55 rfl) ?_
    refine Eq.trans (g_icge (t := 128) dX10_grows_56 rfl rfl) ?_
    refine am_ite ?_ ?_
    · refine Eq.trans (g_inc (v := v3 + nI 1) dX10_grows_128 rfl (Nat.le_of_ble_eq_true rfl) rfl rfl rfl rfl) ?_
      refine Eq.trans (g_goto (pc' := 17) dX10_grows_131 rfl) ?_
      rfl
    · refine Eq.trans (g_A dX10_grows_59 rfl rfl) ?_
      refine Eq.trans (g_getR dX10_grows_60 f27 sh34 rfl rfl) ?_
      refine Eq.trans (g_A dX10_grows_63 rfl rfl) ?_
      refine Eq.trans (g_iald dX10_grows_65 sh46 rfl) ?_
      refine am_ite ?_ rfl
      refine Eq.trans (g_ifne (t := 122) dX10_grows_66 rfl rfl) ?_
      refine am_ite ?_ ?_
      · refine Eq.trans (g_A dX10_grows_69 rfl rfl) ?_
        refine Eq.trans (g_A dX10_grows_70 rfl rfl) ?_
        refine Eq.trans (g_ifeq (t := 84) dX10_grows_71 rfl rfl) ?_
        refine am_ite ?_ ?_
        · refine Eq.trans (g_A dX10_grows_84 rfl rfl) ?_
          refine Eq.trans (g_getR dX10_grows_85 f29 sh34 rfl rfl) ?_
          refine Eq.trans (g_A dX10_grows_88 rfl rfl) ?_
          refine Eq.trans (g_iald dX10_grows_90 sh48 rfl) ?_
          refine am_ite ?_ rfl
          rfl
        · refine Eq.trans (g_A dX10_grows_74 rfl rfl) ?_
          refine Eq.trans (g_getR dX10_grows_75 f28 sh34 rfl rfl) ?_
          refine Eq.trans (g_A dX10_grows_78 rfl rfl) ?_
          refine Eq.trans (g_iald dX10_grows_80 sh47 rfl) ?_
          refine am_ite ?_ rfl
          refine Eq.trans (g_goto (pc' := 91) dX10_grows_81 rfl) ?_
          rfl
      · refine Eq.trans (g_inc (v := v4 + nI 1) dX10_grows_122 rfl (Nat.le_of_ble_eq_true rfl) rfl rfl rfl rfl) ?_
        refine Eq.trans (g_goto (pc' := 32) dX10_grows_125 rfl) ?_
        rfl
theorem q198_91 (C : am_C) (σ : am_M) (v1 v2 v3 v4 s0 : Int32) : am_go am_X0 C M198 91 [.ref 34, .int v1, .int v2, .int v3, .int v4] [.int s0, .ref 34] σ = am_bI (C 195 [.ref 34, .int s0] σ) (fun r1 t1 => if r1 = nI 0 then (am_go am_X0 C M198 32 [.ref 34, .int v1, .int v2, .int v3, .int (v4 + nI 1)] [] t1) else (if v1 = nI 0 then (if am_in v4 1200 = true then (am_go am_X0 C M198 119 [.ref 34, .int v1, .int v2, .int v3, .int v4] [.int (t1.1 47 (v4 : Int32).toNatClampNeg), .ref 34] t1) else none) else (if am_in v4 1200 = true then (am_go am_X0 C M198 119 [.ref 34, .int v1, .int v2, .int v3, .int v4] [.int (t1.1 48 (v4 : Int32).toNatClampNeg), .ref 34] t1) else none))) := by
  refine Eq.trans (g_vI (a := 34) (as := [.int s0]) (rest := []) dX10_grows_91 cl108 m195 rfl rfl rfl rfl (Nat.le_of_ble_eq_true rfl) rfl rfl rfl rfl) ?_
  refine am_bI_c (fun r1 t1 => ?_)
  refine Eq.trans (g_ifeq (t := 122) dX10_grows_94 rfl rfl) ?_
  refine am_ite ?_ ?_
  · refine Eq.trans (g_inc (v := v4 + nI 1) dX10_grows_122 rfl (Nat.le_of_ble_eq_true rfl) rfl rfl rfl rfl) ?_
    refine Eq.trans (g_goto (pc' := 32) dX10_grows_125 rfl) ?_
    rfl
  · refine Eq.trans (g_A dX10_grows_97 rfl rfl) ?_
    refine Eq.trans (g_A dX10_grows_98 rfl rfl) ?_
    refine Eq.trans (g_ifeq (t := 112) dX10_grows_99 rfl rfl) ?_
    refine am_ite ?_ ?_
    · refine Eq.trans (g_A dX10_grows_112 rfl rfl) ?_
      refine Eq.trans (g_getR dX10_grows_113 f28 sh34 rfl rfl) ?_
      refine Eq.trans (g_A dX10_grows_116 rfl rfl) ?_
      refine Eq.trans (g_iald dX10_grows_118 sh47 rfl) ?_
      refine am_ite ?_ rfl
      rfl
    · refine Eq.trans (g_A dX10_grows_102 rfl rfl) ?_
      refine Eq.trans (g_getR dX10_grows_103 f29 sh34 rfl rfl) ?_
      refine Eq.trans (g_A dX10_grows_106 rfl rfl) ?_
      refine Eq.trans (g_iald dX10_grows_108 sh48 rfl) ?_
      refine am_ite ?_ rfl
      refine Eq.trans (g_goto (pc' := 119) dX10_grows_109 rfl) ?_
      rfl
theorem q198_119 (C : am_C) (σ : am_M) (v1 v2 v3 v4 s0 : Int32) : am_go am_X0 C M198 119 [.ref 34, .int v1, .int v2, .int v3, .int v4] [.int s0, .ref 34] σ = am_bV (C 196 [.ref 34, .int s0] σ) (fun t1 => am_go am_X0 C M198 32 [.ref 34, .int v1, .int v2, .int v3, .int (v4 + nI 1)] [] t1) := by
  refine Eq.trans (g_vV (a := 34) (as := [.int s0]) (rest := []) dX10_grows_119 cl109 m196 rfl rfl rfl rfl (Nat.le_of_ble_eq_true rfl) rfl rfl rfl rfl) ?_
  refine am_bV_c (fun t1 => ?_)
  refine Eq.trans (g_inc (v := v4 + nI 1) dX10_grows_122 rfl (Nat.le_of_ble_eq_true rfl) rfl rfl rfl rfl) ?_
  refine Eq.trans (g_goto (pc' := 32) dX10_grows_125 rfl) ?_
  rfl
theorem q199_0 (C : am_C) (σ : am_M) (v1 : Int32) : am_go am_X0 C M199 0 [.ref 34, .int v1] [] σ = am_bV (C 197 [.ref 34, .int v1] (am_wI σ 34 27 (nI 0))) (fun t1 => am_bV (C 198 [.ref 34, .int (nI 1)] t1) (fun t2 => some (.inl none, t2))) := by
  refine Eq.trans (g_A dX10_openersOf_0 rfl rfl) ?_
  refine Eq.trans (g_K (v := nI 0) dX10_openersOf_1 rfl rfl) ?_
  refine Eq.trans (g_put dX10_openersOf_2 f31 sh34 rfl rfl rfl) ?_
  refine Eq.trans (g_A dX10_openersOf_5 rfl rfl) ?_
  refine Eq.trans (g_A dX10_openersOf_6 rfl rfl) ?_
  refine Eq.trans (g_vV (a := 34) (as := [.int v1]) (rest := []) dX10_openersOf_7 cl110 m197 rfl rfl rfl rfl (Nat.le_of_ble_eq_true rfl) rfl rfl rfl rfl) ?_
  refine am_bV_c (fun t1 => ?_)
  refine Eq.trans (g_A dX10_openersOf_10 rfl rfl) ?_
  refine Eq.trans (g_K (v := nI 1) dX10_openersOf_11 rfl rfl) ?_
  refine Eq.trans (g_vV (a := 34) (as := [.int (nI 1)]) (rest := []) dX10_openersOf_12 cl111 m198 rfl rfl rfl rfl (Nat.le_of_ble_eq_true rfl) rfl rfl rfl rfl) ?_
  refine am_bV_c (fun t2 => ?_)
  exact g_vret dX10_openersOf_15 rfl
theorem q200_0 (C : am_C) (σ : am_M) (v1 : Int32) : am_go am_X0 C M200 0 [.ref 34, .int v1, .null, .null] [] σ = am_go am_X0 C M200 4 [.ref 34, .int v1, .int (nI 0), .int v1] [] σ := by
  refine Eq.trans (g_K (v := nI 0) dX10_emptyTo_0 rfl rfl) ?_
  refine Eq.trans (g_isn (k := 2) dX10_emptyTo_1 rfl (Nat.le_of_ble_eq_true rfl) rfl rfl rfl) ?_
  refine Eq.trans (g_A dX10_emptyTo_2 rfl rfl) ?_
  refine Eq.trans (g_isn (k := 3) dX10_emptyTo_3 rfl (Nat.le_of_ble_eq_true rfl) rfl rfl rfl) ?_
  rfl
theorem q200_4 (C : am_C) (σ : am_M) (v1 v2 v3 : Int32) : am_go am_X0 C M200 4 [.ref 34, .int v1, .int v2, .int v3] [] σ = if v3 ≤ (nI 0) then (some (.inl (some (.int v2)), σ)) else (if am_in v3 85 = true then (if σ.1 35 (v3 : Int32).toNatClampNeg = nI 0 then (am_go am_X0 C M200 23 [.ref 34, .int v1, .int v2, .int v3] [.int (nI 1), .int v2] σ) else (am_go am_X0 C M200 23 [.ref 34, .int v1, .int v2, .int v3] [.int (nI 0), .int v2] σ)) else none) := by
  refine Eq.trans (g_A dX10_emptyTo_4 rfl rfl) ?_
  refine Eq.trans (g_ifle (t := 33) dX10_emptyTo_5 rfl rfl) ?_
  refine am_ite ?_ ?_
  · refine Eq.trans (g_A dX10_emptyTo_33 rfl rfl) ?_
    exact g_iret dX10_emptyTo_34 rfl
  · refine Eq.trans (g_A dX10_emptyTo_8 rfl rfl) ?_
    refine Eq.trans (g_A dX10_emptyTo_9 rfl rfl) ?_
    refine Eq.trans (g_getR dX10_emptyTo_10 f15 sh34 rfl rfl) ?_
    refine Eq.trans (g_A dX10_emptyTo_13 rfl rfl) ?_
    refine Eq.trans (g_iald dX10_emptyTo_14 sh35 rfl) ?_
    refine am_ite ?_ rfl
    refine Eq.trans (g_ifne (t := 22) dX10_emptyTo_15 rfl rfl) ?_
    refine am_ite ?_ ?_
    · refine Eq.trans (g_K (v := nI 1) dX10_emptyTo_18 rfl rfl) ?_
      refine Eq.trans (g_goto (pc' := 23) dX10_emptyTo_19 rfl) ?_
      rfl
    · refine Eq.trans (g_K (v := nI 0) dX10_emptyTo_22 rfl rfl) ?_
      rfl
theorem q200_23 (C : am_C) (σ : am_M) (v1 v2 v3 s0 s1 : Int32) : am_go am_X0 C M200 23 [.ref 34, .int v1, .int v2, .int v3] [.int s0, .int s1] σ = am_bI (C 179 [.int v3] σ) (fun r1 t1 => am_go am_X0 C M200 4 [.ref 34, .int v1, .int (s1 + s0), .int r1] [] t1) := by
  refine Eq.trans (g_iadd dX10_emptyTo_23 rfl) ?_
  refine Eq.trans (g_isn (k := 2) dX10_emptyTo_24 rfl (Nat.le_of_ble_eq_true rfl) rfl rfl rfl) ?_
  refine Eq.trans (g_A dX10_emptyTo_25 rfl rfl) ?_
  refine Eq.trans (g_sI (as := [.int v3]) (rest := []) dX10_emptyTo_26 rfl cl100 m179 rfl rfl rfl rfl (Nat.le_of_ble_eq_true rfl) rfl rfl rfl) ?_
  refine am_bI_c (fun r1 t1 => ?_)
  refine Eq.trans (g_isn (k := 3) dX10_emptyTo_29 rfl (Nat.le_of_ble_eq_true rfl) rfl rfl rfl) ?_
  refine Eq.trans (g_goto (pc' := 4) dX10_emptyTo_30 rfl) ?_
  rfl
theorem q201_0 (C : am_C) (σ : am_M) (v1 : Int32) : am_go am_X0 C M201 0 [.ref 34, .int v1] [] σ = if v1 = nI 0 then (some (.inl none, σ)) else (if am_in v1 85 = true then (if σ.1 35 (v1 : Int32).toNatClampNeg = nI 0 then (am_bI (C 179 [.int v1] σ) (fun r1 t1 => am_bV (C 201 [.ref 34, .int r1] t1) (fun t2 => am_bI (C 177 [.ref 34] t2) (fun r3 t3 => if am_in v1 85 = true then (if am_in v1 85 = true then (am_bI (C 179 [.int v1] (am_wI t3 35 (v1 : Int32).toNatClampNeg r3)) (fun r4 t4 => if am_in r4 85 = true then (am_bV (C 189 [.ref 34, .int ((am_wI t3 35 (v1 : Int32).toNatClampNeg r3).1 35 (v1 : Int32).toNatClampNeg), .int (t4.1 35 (r4 : Int32).toNatClampNeg)] t4) (fun t5 => some (.inl none, t5))) else none)) else none) else none)))) else (some (.inl none, σ))) else none) := by
  refine Eq.trans (g_A dX10_builds_0 rfl rfl) ?_
  refine Eq.trans (g_ifeq (t := 13) dX10_builds_1 rfl rfl) ?_
  refine am_ite ?_ ?_
  · exact g_vret dX10_builds_13 rfl
  · refine Eq.trans (g_A dX10_builds_4 rfl rfl) ?_
    refine Eq.trans (g_getR dX10_builds_5 f15 sh34 rfl rfl) ?_
    refine Eq.trans (g_A dX10_builds_8 rfl rfl) ?_
    refine Eq.trans (g_iald dX10_builds_9 sh35 rfl) ?_
    refine am_ite ?_ rfl
    refine Eq.trans (g_ifeq (t := 14) dX10_builds_10 rfl rfl) ?_
    refine am_ite ?_ ?_
    · refine Eq.trans (g_A dX10_builds_14 rfl rfl) ?_
      refine Eq.trans (g_A dX10_builds_15 rfl rfl) ?_
      refine Eq.trans (g_sI (as := [.int v1]) (rest := [.ref 34]) dX10_builds_16 rfl cl100 m179 rfl rfl rfl rfl (Nat.le_of_ble_eq_true rfl) rfl rfl rfl) ?_
      refine am_bI_c (fun r1 t1 => ?_)
      refine Eq.trans (g_vV (a := 34) (as := [.int r1]) (rest := []) dX10_builds_19 cl112 m201 rfl rfl rfl rfl (Nat.le_of_ble_eq_true rfl) rfl rfl rfl rfl) ?_
      refine am_bV_c (fun t2 => ?_)
      refine Eq.trans (g_A dX10_builds_22 rfl rfl) ?_
      refine Eq.trans (g_getR dX10_builds_23 f15 sh34 rfl rfl) ?_
      refine Eq.trans (g_A dX10_builds_26 rfl rfl) ?_
      refine Eq.trans (g_A dX10_builds_27 rfl rfl) ?_
      refine Eq.trans (g_vI (a := 34) (as := []) (rest := [.int v1, .ref 35]) dX10_builds_28 cl97 m177 rfl rfl rfl rfl (Nat.le_of_ble_eq_true rfl) rfl rfl rfl rfl) ?_
      refine am_bI_c (fun r3 t3 => ?_)
      refine Eq.trans (g_iast dX10_builds_31 sh35 rfl) ?_
      refine am_ite ?_ rfl
      refine Eq.trans (g_A dX10_builds_32 rfl rfl) ?_
      refine Eq.trans (g_A dX10_builds_33 rfl rfl) ?_
      refine Eq.trans (g_getR dX10_builds_34 f15 sh34 rfl rfl) ?_
      refine Eq.trans (g_A dX10_builds_37 rfl rfl) ?_
      refine Eq.trans (g_iald dX10_builds_38 sh35 rfl) ?_
      refine am_ite ?_ rfl
      refine Eq.trans (g_A dX10_builds_39 rfl rfl) ?_
      refine Eq.trans (g_getR dX10_builds_40 f15 sh34 rfl rfl) ?_
      refine Eq.trans (g_A dX10_builds_43 rfl rfl) ?_
      refine Eq.trans (g_sI (as := [.int v1]) (rest := [.ref 35, .int ((am_wI t3 35 (v1 : Int32).toNatClampNeg r3).1 35 (v1 : Int32).toNatClampNeg), .ref 34]) dX10_builds_44 rfl cl100 m179 rfl rfl rfl rfl (Nat.le_of_ble_eq_true rfl) rfl rfl rfl) ?_
      refine am_bI_c (fun r4 t4 => ?_)
      refine Eq.trans (g_iald dX10_builds_47 sh35 rfl) ?_
      refine am_ite ?_ rfl
      refine Eq.trans (g_vV (a := 34) (as := [.int ((am_wI t3 35 (v1 : Int32).toNatClampNeg r3).1 35 (v1 : Int32).toNatClampNeg), .int (t4.1 35 (r4 : Int32).toNatClampNeg)]) (rest := []) dX10_builds_48 cl113 m189 rfl rfl rfl rfl (Nat.le_of_ble_eq_true rfl) rfl rfl rfl rfl) ?_
      refine am_bV_c (fun t5 => ?_)
      exact g_vret dX10_builds_51 rfl
    · exact g_vret dX10_builds_13 rfl
theorem q202_0 (C : am_C) (σ : am_M) (v1 : Int32) (w2 : Int64) : am_go am_X0 C M202 0 [.ref 34, .int v1, .long w2, .null, .null] [] σ = am_bI (C 182 [.int v1] σ) (fun r1 t1 => if r1 = nI 0 then (am_go am_X0 C M202 13 [.ref 34, .int v1, .long w2, .null, .null] [.int (nI 1), .ref 34] t1) else (am_go am_X0 C M202 13 [.ref 34, .int v1, .long w2, .null, .null] [.int (nI 0), .ref 34] t1)) := by
  refine Eq.trans (g_A dX10_store_0 rfl rfl) ?_
  refine Eq.trans (g_A dX10_store_1 rfl rfl) ?_
  refine Eq.trans (g_sI (as := [.int v1]) (rest := [.ref 34]) dX10_store_2 rfl cl114 m182 rfl rfl rfl rfl (Nat.le_of_ble_eq_true rfl) rfl rfl rfl) ?_
  refine am_bI_c (fun r1 t1 => ?_)
  refine Eq.trans (g_ifeq (t := 12) dX10_store_5 rfl rfl) ?_
  refine am_ite ?_ ?_
  · refine Eq.trans (g_K (v := nI 1) dX10_store_12 rfl rfl) ?_
    rfl
  · refine Eq.trans (g_K (v := nI 0) dX10_store_8 rfl rfl) ?_
    refine Eq.trans (g_goto (pc' := 13) dX10_store_9 rfl) ?_
    rfl
theorem q202_13 (C : am_C) (σ : am_M) (v1 s0 : Int32) (w2 : Int64) : am_go am_X0 C M202 13 [.ref 34, .int v1, .long w2, .null, .null] [.int s0, .ref 34] σ = if ((am_wI σ 34 25 s0).1 34 25) ≤ (nI 0) then (if am_in v1 64 = true then (if (am_wI σ 34 25 s0).1 37 (v1 : Int32).toNatClampNeg = (-1) then (if (am_wI σ 34 25 s0).1 34 23 = nI 200 then (am_go am_X0 C M202 72 [.ref 34, .int v1, .long w2, .null, .int ((nI 21) + v1)] [.ref 34] (am_wI σ 34 25 s0)) else (am_bI (C 186 [.ref 34, .int (-1)] (am_wI σ 34 25 s0)) (fun r1 t1 => am_bI (C 200 [.ref 34, .int ((nI 21) + v1)] t1) (fun r2 t2 => am_bI (C 187 [.ref 34, .int r1, .int (r2 + (nI 1))] t2) (fun r3 t3 => if r3 = nI 0 then (am_go am_X0 C M202 72 [.ref 34, .int v1, .long w2, .null, .int ((nI 21) + v1)] [.ref 34] t3) else (am_go am_X0 C M202 77 [.ref 34, .int v1, .long w2, .null, .int ((nI 21) + v1)] [.int (nI 0), .ref 34] t3)))))) else (am_go am_X0 C M202 72 [.ref 34, .int v1, .long w2, .null, .int ((nI 21) + v1)] [.ref 34] (am_wI σ 34 25 s0))) else none) else (some (.inl (some (.int (nI 0))), am_wI σ 34 25 s0)) := by
  refine Eq.trans (g_put dX10_store_13 f13 sh34 rfl rfl rfl) ?_
  refine Eq.trans (g_A dX10_store_16 rfl rfl) ?_
  refine Eq.trans (g_getI dX10_store_17 f13 sh34 rfl rfl) ?_
  refine Eq.trans (g_ifle (t := 25) dX10_store_20 rfl rfl) ?_
  refine am_ite ?_ ?_
  · refine Eq.trans (g_K (v := nI 21) dX10_store_25 rfl rfl) ?_
    refine Eq.trans (g_A dX10_store_27 rfl rfl) ?_
    refine Eq.trans (g_iadd dX10_store_28 rfl) ?_
    refine Eq.trans (g_ist (k := 4) dX10_store_29 (Nat.le_of_ble_eq_true rfl) rfl rfl rfl) ?_
    refine Eq.trans (g_A dX10_store_31 rfl rfl) ?_
    refine Eq.trans (g_A dX10_store_32 rfl rfl) ?_
    refine Eq.trans (g_getR dX10_store_33 f16 sh34 rfl rfl) ?_
    refine Eq.trans (g_A dX10_store_36 rfl rfl) ?_
    refine Eq.trans (g_iald dX10_store_37 sh37 rfl) ?_
    refine am_ite ?_ rfl
    refine Eq.trans (g_K (v := (-1)) dX10_store_38 rfl rfl) ?_
    refine Eq.trans (g_icne (t := 72) dX10_store_39 rfl rfl) ?_
    refine am_ite ?_ ?_
    · refine Eq.trans (g_A dX10_store_42 rfl rfl) ?_
      refine Eq.trans (g_getI dX10_store_43 f25 sh34 rfl rfl) ?_
      refine Eq.trans (g_K (v := nI 200) dX10_store_46 rfl rfl) ?_
      refine Eq.trans (g_iceq (t := 72) dX10_store_49 rfl rfl) ?_
      refine am_ite ?_ ?_
      · rfl
      · refine Eq.trans (g_A dX10_store_52 rfl rfl) ?_
        refine Eq.trans (g_A dX10_store_53 rfl rfl) ?_
        refine Eq.trans (g_K (v := (-1)) dX10_store_54 rfl rfl) ?_
        refine Eq.trans (g_vI (a := 34) (as := [.int (-1)]) (rest := [.ref 34, .ref 34]) dX10_store_55 cl102 m186 rfl rfl rfl rfl (Nat.le_of_ble_eq_true rfl) rfl rfl rfl rfl) ?_
        refine am_bI_c (fun r1 t1 => ?_)
        refine Eq.trans (g_A dX10_store_58 rfl rfl) ?_
        refine Eq.trans (g_A dX10_store_59 rfl rfl) ?_
        refine Eq.trans (g_vI (a := 34) (as := [.int ((nI 21) + v1)]) (rest := [.int r1, .ref 34, .ref 34]) dX10_store_61 cl115 m200 rfl rfl rfl rfl (Nat.le_of_ble_eq_true rfl) rfl rfl rfl rfl) ?_
        refine am_bI_c (fun r2 t2 => ?_)
        refine Eq.trans (g_K (v := nI 1) dX10_store_64 rfl rfl) ?_
        refine Eq.trans (g_iadd dX10_store_65 rfl) ?_
        refine Eq.trans (g_vI (a := 34) (as := [.int r1, .int (r2 + (nI 1))]) (rest := [.ref 34]) dX10_store_66 cl116 m187 rfl rfl rfl rfl (Nat.le_of_ble_eq_true rfl) rfl rfl rfl rfl) ?_
        refine am_bI_c (fun r3 t3 => ?_)
        refine Eq.trans (g_ifne (t := 76) dX10_store_69 rfl rfl) ?_
        refine am_ite ?_ ?_
        · rfl
        · refine Eq.trans (g_K (v := nI 0) dX10_store_76 rfl rfl) ?_
          rfl
    · rfl
  · refine Eq.trans (g_K (v := nI 0) dX10_store_23 rfl rfl) ?_
    exact g_iret dX10_store_24 rfl
theorem q202_72 (C : am_C) (σ : am_M) (v1 v4 : Int32) (w2 : Int64) : am_go am_X0 C M202 72 [.ref 34, .int v1, .long w2, .null, .int v4] [.ref 34] σ = am_go am_X0 C M202 77 [.ref 34, .int v1, .long w2, .null, .int v4] [.int (nI 2), .ref 34] σ := by
  refine Eq.trans (g_K (v := nI 2) dX10_store_72 rfl rfl) ?_
  refine Eq.trans (g_goto (pc' := 77) dX10_store_73 rfl) ?_
  rfl
theorem q202_77 (C : am_C) (σ : am_M) (v1 v4 s0 : Int32) (w2 : Int64) : am_go am_X0 C M202 77 [.ref 34, .int v1, .long w2, .null, .int v4] [.int s0, .ref 34] σ = if ((am_wI σ 34 25 s0).1 34 25) ≤ (nI 0) then (am_bV (C 201 [.ref 34, .int v4] (am_wI σ 34 25 s0)) (fun t1 => am_bI (C 186 [.ref 34, .int (-1)] t1) (fun r2 t2 => if am_in v4 85 = true then (if am_in v4 85 = true then (am_bJ (C 190 [.ref 34, .int (t2.1 35 (v4 : Int32).toNatClampNeg)] t2) (fun r3 t3 => am_bV (C 188 [.ref 34, .int r2, .int (nI 1), .int (t2.1 34 23), .int (t2.1 35 (v4 : Int32).toNatClampNeg), .long (w2 ^^^ r3)] t3) (fun t4 => if am_in v1 64 = true then (if am_in ((am_wI t4 37 (v1 : Int32).toNatClampNeg (t4.1 34 23)).1 34 23) 200 = true then (if am_in ((am_wJ (am_wI t4 37 (v1 : Int32).toNatClampNeg (t4.1 34 23)) 50 ((am_wI t4 37 (v1 : Int32).toNatClampNeg (t4.1 34 23)).1 34 23 : Int32).toNatClampNeg w2).1 34 23) 200 = true then (if am_in ((am_wI (am_wJ (am_wI t4 37 (v1 : Int32).toNatClampNeg (t4.1 34 23)) 50 ((am_wI t4 37 (v1 : Int32).toNatClampNeg (t4.1 34 23)).1 34 23 : Int32).toNatClampNeg w2) 51 ((am_wJ (am_wI t4 37 (v1 : Int32).toNatClampNeg (t4.1 34 23)) 50 ((am_wI t4 37 (v1 : Int32).toNatClampNeg (t4.1 34 23)).1 34 23 : Int32).toNatClampNeg w2).1 34 23 : Int32).toNatClampNeg v1).1 34 23) 200 = true then (some (.inl (some (.int (((am_wI (am_wI (am_wI (am_wJ (am_wI t4 37 (v1 : Int32).toNatClampNeg (t4.1 34 23)) 50 ((am_wI t4 37 (v1 : Int32).toNatClampNeg (t4.1 34 23)).1 34 23 : Int32).toNatClampNeg w2) 51 ((am_wJ (am_wI t4 37 (v1 : Int32).toNatClampNeg (t4.1 34 23)) 50 ((am_wI t4 37 (v1 : Int32).toNatClampNeg (t4.1 34 23)).1 34 23 : Int32).toNatClampNeg w2).1 34 23 : Int32).toNatClampNeg v1) 52 ((am_wI (am_wJ (am_wI t4 37 (v1 : Int32).toNatClampNeg (t4.1 34 23)) 50 ((am_wI t4 37 (v1 : Int32).toNatClampNeg (t4.1 34 23)).1 34 23 : Int32).toNatClampNeg w2) 51 ((am_wJ (am_wI t4 37 (v1 : Int32).toNatClampNeg (t4.1 34 23)) 50 ((am_wI t4 37 (v1 : Int32).toNatClampNeg (t4.1 34 23)).1 34 23 : Int32).toNatClampNeg w2).1 34 23 : Int32).toNatClampNeg v1).1 34 23 : Int32).toNatClampNeg (-1)) 34 23 (((am_wI (am_wI (am_wJ (am_wI t4 37 (v1 : Int32).toNatClampNeg (t4.1 34 23)) 50 ((am_wI t4 37 (v1 : Int32).toNatClampNeg (t4.1 34 23)).1 34 23 : Int32).toNatClampNeg w2) 51 ((am_wJ (am_wI t4 37 (v1 : Int32).toNatClampNeg (t4.1 34 23)) 50 ((am_wI t4 37 (v1 : Int32).toNatClampNeg (t4.1 34 23)).1 34 23 : Int32).toNatClampNeg w2).1 34 23 : Int32).toNatClampNeg v1) 52 ((am_wI (am_wJ (am_wI t4 37 (v1 : Int32).toNatClampNeg (t4.1 34 23)) 50 ((am_wI t4 37 (v1 : Int32).toNatClampNeg (t4.1 34 23)).1 34 23 : Int32).toNatClampNeg w2) 51 ((am_wJ (am_wI t4 37 (v1 : Int32).toNatClampNeg (t4.1 34 23)) 50 ((am_wI t4 37 (v1 : Int32).toNatClampNeg (t4.1 34 23)).1 34 23 : Int32).toNatClampNeg w2).1 34 23 : Int32).toNatClampNeg v1).1 34 23 : Int32).toNatClampNeg (-1)).1 34 23) + (nI 1))).1 34 23) - (nI 1)))), am_wI (am_wI (am_wI (am_wJ (am_wI t4 37 (v1 : Int32).toNatClampNeg (t4.1 34 23)) 50 ((am_wI t4 37 (v1 : Int32).toNatClampNeg (t4.1 34 23)).1 34 23 : Int32).toNatClampNeg w2) 51 ((am_wJ (am_wI t4 37 (v1 : Int32).toNatClampNeg (t4.1 34 23)) 50 ((am_wI t4 37 (v1 : Int32).toNatClampNeg (t4.1 34 23)).1 34 23 : Int32).toNatClampNeg w2).1 34 23 : Int32).toNatClampNeg v1) 52 ((am_wI (am_wJ (am_wI t4 37 (v1 : Int32).toNatClampNeg (t4.1 34 23)) 50 ((am_wI t4 37 (v1 : Int32).toNatClampNeg (t4.1 34 23)).1 34 23 : Int32).toNatClampNeg w2) 51 ((am_wJ (am_wI t4 37 (v1 : Int32).toNatClampNeg (t4.1 34 23)) 50 ((am_wI t4 37 (v1 : Int32).toNatClampNeg (t4.1 34 23)).1 34 23 : Int32).toNatClampNeg w2).1 34 23 : Int32).toNatClampNeg v1).1 34 23 : Int32).toNatClampNeg (-1)) 34 23 (((am_wI (am_wI (am_wJ (am_wI t4 37 (v1 : Int32).toNatClampNeg (t4.1 34 23)) 50 ((am_wI t4 37 (v1 : Int32).toNatClampNeg (t4.1 34 23)).1 34 23 : Int32).toNatClampNeg w2) 51 ((am_wJ (am_wI t4 37 (v1 : Int32).toNatClampNeg (t4.1 34 23)) 50 ((am_wI t4 37 (v1 : Int32).toNatClampNeg (t4.1 34 23)).1 34 23 : Int32).toNatClampNeg w2).1 34 23 : Int32).toNatClampNeg v1) 52 ((am_wI (am_wJ (am_wI t4 37 (v1 : Int32).toNatClampNeg (t4.1 34 23)) 50 ((am_wI t4 37 (v1 : Int32).toNatClampNeg (t4.1 34 23)).1 34 23 : Int32).toNatClampNeg w2) 51 ((am_wJ (am_wI t4 37 (v1 : Int32).toNatClampNeg (t4.1 34 23)) 50 ((am_wI t4 37 (v1 : Int32).toNatClampNeg (t4.1 34 23)).1 34 23 : Int32).toNatClampNeg w2).1 34 23 : Int32).toNatClampNeg v1).1 34 23 : Int32).toNatClampNeg (-1)).1 34 23) + (nI 1)))) else none) else none) else none) else none))) else none) else none))) else (some (.inl (some (.int (nI 0))), am_wI σ 34 25 s0)) := by
  refine Eq.trans (g_put dX10_store_77 f13 sh34 rfl rfl rfl) ?_
  refine Eq.trans (g_A dX10_store_80 rfl rfl) ?_
  refine Eq.trans (g_getI dX10_store_81 f13 sh34 rfl rfl) ?_
  refine Eq.trans (g_ifle (t := 89) dX10_store_84 rfl rfl) ?_
  refine am_ite ?_ ?_
  · refine Eq.trans (g_A dX10_store_89 rfl rfl) ?_
    refine Eq.trans (g_A dX10_store_90 rfl rfl) ?_
    refine Eq.trans (g_vV (a := 34) (as := [.int v4]) (rest := []) dX10_store_92 cl112 m201 rfl rfl rfl rfl (Nat.le_of_ble_eq_true rfl) rfl rfl rfl rfl) ?_
    refine am_bV_c (fun t1 => ?_)
    refine Eq.trans (g_A dX10_store_95 rfl rfl) ?_
    refine Eq.trans (g_A dX10_store_96 rfl rfl) ?_
    refine Eq.trans (g_K (v := (-1)) dX10_store_97 rfl rfl) ?_
    refine Eq.trans (g_vI (a := 34) (as := [.int (-1)]) (rest := [.ref 34]) dX10_store_98 cl102 m186 rfl rfl rfl rfl (Nat.le_of_ble_eq_true rfl) rfl rfl rfl rfl) ?_
    refine am_bI_c (fun r2 t2 => ?_)
    refine Eq.trans (g_K (v := nI 1) dX10_store_101 rfl rfl) ?_
    refine Eq.trans (g_A dX10_store_102 rfl rfl) ?_
    refine Eq.trans (g_getI dX10_store_103 f25 sh34 rfl rfl) ?_
    refine Eq.trans (g_A dX10_store_106 rfl rfl) ?_
    refine Eq.trans (g_getR dX10_store_107 f15 sh34 rfl rfl) ?_
    refine Eq.trans (g_A dX10_store_110 rfl rfl) ?_
    refine Eq.trans (g_iald dX10_store_112 sh35 rfl) ?_
    refine am_ite ?_ rfl
    refine Eq.trans (g_A dX10_store_113 rfl rfl) ?_
    refine Eq.trans (g_A dX10_store_114 rfl rfl) ?_
    refine Eq.trans (g_A dX10_store_115 rfl rfl) ?_
    refine Eq.trans (g_getR dX10_store_116 f15 sh34 rfl rfl) ?_
    refine Eq.trans (g_A dX10_store_119 rfl rfl) ?_
    refine Eq.trans (g_iald dX10_store_121 sh35 rfl) ?_
    refine am_ite ?_ rfl
    refine Eq.trans (g_vJ (a := 34) (as := [.int (t2.1 35 (v4 : Int32).toNatClampNeg)]) (rest := [.long w2, .int (t2.1 35 (v4 : Int32).toNatClampNeg), .int (t2.1 34 23), .int (nI 1), .int r2, .ref 34]) dX10_store_122 cl117 m190 rfl rfl rfl rfl (Nat.le_of_ble_eq_true rfl) rfl rfl rfl rfl) ?_
    refine am_bJ_c (fun r3 t3 => ?_)
    refine Eq.trans (g_lxor dX10_store_125 rfl) ?_
    refine Eq.trans (g_vV (a := 34) (as := [.int r2, .int (nI 1), .int (t2.1 34 23), .int (t2.1 35 (v4 : Int32).toNatClampNeg), .long (w2 ^^^ r3)]) (rest := []) dX10_store_126 cl104 m188 rfl rfl rfl rfl (Nat.le_of_ble_eq_true rfl) rfl rfl rfl rfl) ?_
    refine am_bV_c (fun t4 => ?_)
    refine Eq.trans (g_A dX10_store_129 rfl rfl) ?_
    refine Eq.trans (g_getR dX10_store_130 f16 sh34 rfl rfl) ?_
    refine Eq.trans (g_A dX10_store_133 rfl rfl) ?_
    refine Eq.trans (g_A dX10_store_134 rfl rfl) ?_
    refine Eq.trans (g_getI dX10_store_135 f25 sh34 rfl rfl) ?_
    refine Eq.trans (g_iast dX10_store_138 sh37 rfl) ?_
    refine am_ite ?_ rfl
    refine Eq.trans (g_A dX10_store_139 rfl rfl) ?_
    refine Eq.trans (g_getR dX10_store_140 f33 sh34 rfl rfl) ?_
    refine Eq.trans (g_A dX10_store_143 rfl rfl) ?_
    refine Eq.trans (g_getI dX10_store_144 f25 sh34 rfl rfl) ?_
    refine Eq.trans (g_A dX10_store_147 rfl rfl) ?_
    refine Eq.trans (g_last dX10_store_148 sh50 rfl) ?_
    refine am_ite ?_ rfl
    refine Eq.trans (g_A dX10_store_149 rfl rfl) ?_
    refine Eq.trans (g_getR dX10_store_150 f34 sh34 rfl rfl) ?_
    refine Eq.trans (g_A dX10_store_153 rfl rfl) ?_
    refine Eq.trans (g_getI dX10_store_154 f25 sh34 rfl rfl) ?_
    refine Eq.trans (g_A dX10_store_157 rfl rfl) ?_
    refine Eq.trans (g_iast dX10_store_158 sh51 rfl) ?_
    refine am_ite ?_ rfl
    refine Eq.trans (g_A dX10_store_159 rfl rfl) ?_
    refine Eq.trans (g_getR dX10_store_160 f35 sh34 rfl rfl) ?_
    refine Eq.trans (g_A dX10_store_163 rfl rfl) ?_
    refine Eq.trans (g_getI dX10_store_164 f25 sh34 rfl rfl) ?_
    refine Eq.trans (g_K (v := (-1)) dX10_store_167 rfl rfl) ?_
    refine Eq.trans (g_iast dX10_store_168 sh52 rfl) ?_
    refine am_ite ?_ rfl
    refine Eq.trans (g_A dX10_store_169 rfl rfl) ?_
    refine Eq.trans (g_B dX10_store_170 rfl rfl rfl) ?_
    refine Eq.trans (g_getI dX10_store_171 f25 sh34 rfl rfl) ?_
    refine Eq.trans (g_K (v := nI 1) dX10_store_174 rfl rfl) ?_
    refine Eq.trans (g_iadd dX10_store_175 rfl) ?_
    refine Eq.trans (g_put dX10_store_176 f25 sh34 rfl rfl rfl) ?_
    refine Eq.trans (g_A dX10_store_179 rfl rfl) ?_
    refine Eq.trans (g_getI dX10_store_180 f25 sh34 rfl rfl) ?_
    refine Eq.trans (g_K (v := nI 1) dX10_store_183 rfl rfl) ?_
    refine Eq.trans (g_isub dX10_store_184 rfl) ?_
    exact g_iret dX10_store_185 rfl
  · refine Eq.trans (g_K (v := nI 0) dX10_store_87 rfl rfl) ?_
    exact g_iret dX10_store_88 rfl
theorem q203_0 (C : am_C) (σ : am_M) (v1 : Int32) : am_go am_X0 C M203 0 [.ref 34, .int v1] [] σ = am_bI (C 182 [.int v1] σ) (fun r1 t1 => if r1 = nI 0 then (am_go am_X0 C M203 26 [.ref 34, .int v1] [.int (nI 1), .ref 34] t1) else (am_bI (C 193 [.ref 34, .int v1, .int (-1)] t1) (fun r2 t2 => if r2 = nI 0 then (am_go am_X0 C M203 26 [.ref 34, .int v1] [.int (nI 2), .ref 34] t2) else (am_go am_X0 C M203 26 [.ref 34, .int v1] [.int (nI 0), .ref 34] t2)))) := by
  refine Eq.trans (g_A dX10_read_0 rfl rfl) ?_
  refine Eq.trans (g_A dX10_read_1 rfl rfl) ?_
  refine Eq.trans (g_sI (as := [.int v1]) (rest := [.ref 34]) dX10_read_2 rfl cl114 m182 rfl rfl rfl rfl (Nat.le_of_ble_eq_true rfl) rfl rfl rfl) ?_
  refine am_bI_c (fun r1 t1 => ?_)
  refine Eq.trans (g_ifne (t := 12) dX10_read_5 rfl rfl) ?_
  refine am_ite ?_ ?_
  · refine Eq.trans (g_K (v := nI 1) dX10_read_8 rfl rfl) ?_
    refine Eq.trans (g_goto (pc' := 26) dX10_read_9 rfl) ?_
    rfl
  · refine Eq.trans (g_A dX10_read_12 rfl rfl) ?_
    refine Eq.trans (g_A dX10_read_13 rfl rfl) ?_
    refine Eq.trans (g_K (v := (-1)) dX10_read_14 rfl rfl) ?_
    refine Eq.trans (g_vI (a := 34) (as := [.int v1, .int (-1)]) (rest := [.ref 34]) dX10_read_15 cl107 m193 rfl rfl rfl rfl (Nat.le_of_ble_eq_true rfl) rfl rfl rfl rfl) ?_
    refine am_bI_c (fun r2 t2 => ?_)
    refine Eq.trans (g_ifne (t := 25) dX10_read_18 rfl rfl) ?_
    refine am_ite ?_ ?_
    · refine Eq.trans (g_K (v := nI 2) dX10_read_21 rfl rfl) ?_
      refine Eq.trans (g_goto (pc' := 26) dX10_read_22 rfl) ?_
      rfl
    · refine Eq.trans (g_K (v := nI 0) dX10_read_25 rfl rfl) ?_
      rfl
theorem q203_26 (C : am_C) (σ : am_M) (v1 s0 : Int32) : am_go am_X0 C M203 26 [.ref 34, .int v1] [.int s0, .ref 34] σ = if ((am_wI σ 34 25 s0).1 34 25) ≤ (nI 0) then (if am_in v1 64 = true then (if am_in ((am_wI σ 34 25 s0).1 37 (v1 : Int32).toNatClampNeg) 200 = true then (some (.inl (some (.long ((am_wI σ 34 25 s0).2.1 50 ((am_wI σ 34 25 s0).1 37 (v1 : Int32).toNatClampNeg : Int32).toNatClampNeg))), am_wI σ 34 25 s0)) else none) else none) else (some (.inl (some (.long (0 : Int64))), am_wI σ 34 25 s0)) := by
  refine Eq.trans (g_put dX10_read_26 f13 sh34 rfl rfl rfl) ?_
  refine Eq.trans (g_A dX10_read_29 rfl rfl) ?_
  refine Eq.trans (g_getI dX10_read_30 f13 sh34 rfl rfl) ?_
  refine Eq.trans (g_ifle (t := 40) dX10_read_33 rfl rfl) ?_
  refine am_ite ?_ ?_
  · refine Eq.trans (g_A dX10_read_40 rfl rfl) ?_
    refine Eq.trans (g_getR dX10_read_41 f33 sh34 rfl rfl) ?_
    refine Eq.trans (g_A dX10_read_44 rfl rfl) ?_
    refine Eq.trans (g_getR dX10_read_45 f16 sh34 rfl rfl) ?_
    refine Eq.trans (g_A dX10_read_48 rfl rfl) ?_
    refine Eq.trans (g_iald dX10_read_49 sh37 rfl) ?_
    refine am_ite ?_ rfl
    refine Eq.trans (g_lald dX10_read_50 sh50 rfl) ?_
    refine am_ite ?_ rfl
    exact g_lret dX10_read_51 rfl
  · refine Eq.trans (g_KJ (v := (0 : Int64)) dX10_read_36 rfl rfl) ?_
    refine Eq.trans (g_goto (pc' := 51) dX10_read_37 rfl) ?_
    exact g_lret dX10_read_51 rfl
theorem q204_0 (C : am_C) (σ : am_M) (v1 : Int32) : am_go am_X0 C M204 0 [.ref 34, .int v1] [] σ = am_bI (C 182 [.int v1] σ) (fun r1 t1 => if r1 = nI 0 then (am_go am_X0 C M204 13 [.ref 34, .int v1] [.int (nI 1), .ref 34] t1) else (am_go am_X0 C M204 13 [.ref 34, .int v1] [.int (nI 0), .ref 34] t1)) := by
  refine Eq.trans (g_A dX10_recordAt_0 rfl rfl) ?_
  refine Eq.trans (g_A dX10_recordAt_1 rfl rfl) ?_
  refine Eq.trans (g_sI (as := [.int v1]) (rest := [.ref 34]) dX10_recordAt_2 rfl cl114 m182 rfl rfl rfl rfl (Nat.le_of_ble_eq_true rfl) rfl rfl rfl) ?_
  refine am_bI_c (fun r1 t1 => ?_)
  refine Eq.trans (g_ifeq (t := 12) dX10_recordAt_5 rfl rfl) ?_
  refine am_ite ?_ ?_
  · refine Eq.trans (g_K (v := nI 1) dX10_recordAt_12 rfl rfl) ?_
    rfl
  · refine Eq.trans (g_K (v := nI 0) dX10_recordAt_8 rfl rfl) ?_
    refine Eq.trans (g_goto (pc' := 13) dX10_recordAt_9 rfl) ?_
    rfl
theorem q204_13 (C : am_C) (σ : am_M) (v1 s0 : Int32) : am_go am_X0 C M204 13 [.ref 34, .int v1] [.int s0, .ref 34] σ = if ((am_wI σ 34 25 s0).1 34 25) ≤ (nI 0) then (if am_in v1 64 = true then (some (.inl (some (.int ((am_wI σ 34 25 s0).1 37 (v1 : Int32).toNatClampNeg))), am_wI σ 34 25 s0)) else none) else (some (.inl (some (.int (nI 0))), am_wI σ 34 25 s0)) := by
  refine Eq.trans (g_put dX10_recordAt_13 f13 sh34 rfl rfl rfl) ?_
  refine Eq.trans (g_A dX10_recordAt_16 rfl rfl) ?_
  refine Eq.trans (g_getI dX10_recordAt_17 f13 sh34 rfl rfl) ?_
  refine Eq.trans (g_ifle (t := 27) dX10_recordAt_20 rfl rfl) ?_
  refine am_ite ?_ ?_
  · refine Eq.trans (g_A dX10_recordAt_27 rfl rfl) ?_
    refine Eq.trans (g_getR dX10_recordAt_28 f16 sh34 rfl rfl) ?_
    refine Eq.trans (g_A dX10_recordAt_31 rfl rfl) ?_
    refine Eq.trans (g_iald dX10_recordAt_32 sh37 rfl) ?_
    refine am_ite ?_ rfl
    exact g_iret dX10_recordAt_33 rfl
  · refine Eq.trans (g_K (v := nI 0) dX10_recordAt_23 rfl rfl) ?_
    refine Eq.trans (g_goto (pc' := 33) dX10_recordAt_24 rfl) ?_
    exact g_iret dX10_recordAt_33 rfl
theorem q205_0 (C : am_C) (σ : am_M) (v1 : Int32) : am_go am_X0 C M205 0 [.ref 34, .int v1] [] σ = am_bI (C 184 [.ref 34, .int v1] σ) (fun r1 t1 => if r1 = nI 0 then (am_go am_X0 C M205 14 [.ref 34, .int v1] [.int (nI 1), .ref 34] t1) else (am_go am_X0 C M205 14 [.ref 34, .int v1] [.int (nI 0), .ref 34] t1)) := by
  refine Eq.trans (g_A dX10_leafOf_0 rfl rfl) ?_
  refine Eq.trans (g_A dX10_leafOf_1 rfl rfl) ?_
  refine Eq.trans (g_A dX10_leafOf_2 rfl rfl) ?_
  refine Eq.trans (g_vI (a := 34) (as := [.int v1]) (rest := [.ref 34]) dX10_leafOf_3 cl118 m184 rfl rfl rfl rfl (Nat.le_of_ble_eq_true rfl) rfl rfl rfl rfl) ?_
  refine am_bI_c (fun r1 t1 => ?_)
  refine Eq.trans (g_ifeq (t := 13) dX10_leafOf_6 rfl rfl) ?_
  refine am_ite ?_ ?_
  · refine Eq.trans (g_K (v := nI 1) dX10_leafOf_13 rfl rfl) ?_
    rfl
  · refine Eq.trans (g_K (v := nI 0) dX10_leafOf_9 rfl rfl) ?_
    refine Eq.trans (g_goto (pc' := 14) dX10_leafOf_10 rfl) ?_
    rfl
theorem q205_14 (C : am_C) (σ : am_M) (v1 s0 : Int32) : am_go am_X0 C M205 14 [.ref 34, .int v1] [.int s0, .ref 34] σ = if ((am_wI σ 34 25 s0).1 34 25) ≤ (nI 0) then (if am_in v1 200 = true then (some (.inl (some (.int ((am_wI σ 34 25 s0).1 51 (v1 : Int32).toNatClampNeg))), am_wI σ 34 25 s0)) else none) else (some (.inl (some (.int (nI 0))), am_wI σ 34 25 s0)) := by
  refine Eq.trans (g_put dX10_leafOf_14 f13 sh34 rfl rfl rfl) ?_
  refine Eq.trans (g_A dX10_leafOf_17 rfl rfl) ?_
  refine Eq.trans (g_getI dX10_leafOf_18 f13 sh34 rfl rfl) ?_
  refine Eq.trans (g_ifle (t := 28) dX10_leafOf_21 rfl rfl) ?_
  refine am_ite ?_ ?_
  · refine Eq.trans (g_A dX10_leafOf_28 rfl rfl) ?_
    refine Eq.trans (g_getR dX10_leafOf_29 f34 sh34 rfl rfl) ?_
    refine Eq.trans (g_A dX10_leafOf_32 rfl rfl) ?_
    refine Eq.trans (g_iald dX10_leafOf_33 sh51 rfl) ?_
    refine am_ite ?_ rfl
    exact g_iret dX10_leafOf_34 rfl
  · refine Eq.trans (g_K (v := nI 0) dX10_leafOf_24 rfl rfl) ?_
    refine Eq.trans (g_goto (pc' := 34) dX10_leafOf_25 rfl) ?_
    exact g_iret dX10_leafOf_34 rfl
theorem q206_0 (C : am_C) (σ : am_M) (v1 : Int32) : am_go am_X0 C M206 0 [.ref 34, .int v1, .null, .null] [] σ = am_bI (C 173 [.long ((v1 : Int32).toInt64), .long (0 : Int64), .long (2)] σ) (fun r1 t1 => if r1 = nI 0 then (am_go am_X0 C M206 18 [.ref 34, .int v1, .null, .null] [.int (nI 1), .ref 34] t1) else (am_go am_X0 C M206 18 [.ref 34, .int v1, .null, .null] [.int (nI 0), .ref 34] t1)) := by
  refine Eq.trans (g_A dX10_recordCount_0 rfl rfl) ?_
  refine Eq.trans (g_A dX10_recordCount_1 rfl rfl) ?_
  refine Eq.trans (g_i2l dX10_recordCount_2 rfl) ?_
  refine Eq.trans (g_KJ (v := (0 : Int64)) dX10_recordCount_3 rfl rfl) ?_
  refine Eq.trans (g_ld2 dX10_recordCount_4 kj4 rfl) ?_
  refine Eq.trans (g_sI (as := [.long ((v1 : Int32).toInt64), .long (0 : Int64), .long (2)]) (rest := [.ref 34]) dX10_recordCount_7 rfl cl101 m173 rfl rfl rfl rfl (Nat.le_of_ble_eq_true rfl) rfl rfl rfl) ?_
  refine am_bI_c (fun r1 t1 => ?_)
  refine Eq.trans (g_ifeq (t := 17) dX10_recordCount_10 rfl rfl) ?_
  refine am_ite ?_ ?_
  · refine Eq.trans (g_K (v := nI 1) dX10_recordCount_17 rfl rfl) ?_
    rfl
  · refine Eq.trans (g_K (v := nI 0) dX10_recordCount_13 rfl rfl) ?_
    refine Eq.trans (g_goto (pc' := 18) dX10_recordCount_14 rfl) ?_
    rfl
theorem q206_18 (C : am_C) (σ : am_M) (v1 s0 : Int32) : am_go am_X0 C M206 18 [.ref 34, .int v1, .null, .null] [.int s0, .ref 34] σ = if (nI 0) < ((am_wI σ 34 25 s0).1 34 25) then (am_go am_X0 C M206 32 [.ref 34, .int v1, .null, .null] [] (am_wI σ 34 25 s0)) else (if v1 = nI 0 then (am_go am_X0 C M206 32 [.ref 34, .int v1, .null, .null] [] (am_wI σ 34 25 s0)) else (am_go am_X0 C M206 52 [.ref 34, .int v1, .int (nI 0), .int (nI 0)] [] (am_wI σ 34 25 s0))) := by
  refine Eq.trans (g_put dX10_recordCount_18 f13 sh34 rfl rfl rfl) ?_
  refine Eq.trans (g_A dX10_recordCount_21 rfl rfl) ?_
  refine Eq.trans (g_getI dX10_recordCount_22 f13 sh34 rfl rfl) ?_
  refine Eq.trans (g_ifgt (t := 32) dX10_recordCount_25 rfl rfl) ?_
  refine am_ite ?_ ?_
  · rfl
  · refine Eq.trans (g_A dX10_recordCount_28 rfl rfl) ?_
    refine Eq.trans (g_ifne (t := 48) dX10_recordCount_29 rfl rfl) ?_
    refine am_ite ?_ ?_
    · rfl
    · refine Eq.trans (g_K (v := nI 0) dX10_recordCount_48 rfl rfl) ?_
      refine Eq.trans (g_isn (k := 2) dX10_recordCount_49 rfl (Nat.le_of_ble_eq_true rfl) rfl rfl rfl) ?_
      refine Eq.trans (g_K (v := nI 0) dX10_recordCount_50 rfl rfl) ?_
      refine Eq.trans (g_isn (k := 3) dX10_recordCount_51 rfl (Nat.le_of_ble_eq_true rfl) rfl rfl rfl) ?_
      rfl
theorem q206_32 (C : am_C) (σ : am_M) (v1 : Int32) : am_go am_X0 C M206 32 [.ref 34, .int v1, .null, .null] [] σ = if (σ.1 34 25) ≤ (nI 0) then (some (.inl (some (.int (σ.1 34 23))), σ)) else (some (.inl (some (.int (nI 0))), σ)) := by
  refine Eq.trans (g_A dX10_recordCount_32 rfl rfl) ?_
  refine Eq.trans (g_getI dX10_recordCount_33 f13 sh34 rfl rfl) ?_
  refine Eq.trans (g_ifle (t := 43) dX10_recordCount_36 rfl rfl) ?_
  refine am_ite ?_ ?_
  · refine Eq.trans (g_A dX10_recordCount_43 rfl rfl) ?_
    refine Eq.trans (g_getI dX10_recordCount_44 f25 sh34 rfl rfl) ?_
    exact g_iret dX10_recordCount_47 rfl
  · refine Eq.trans (g_K (v := nI 0) dX10_recordCount_39 rfl rfl) ?_
    refine Eq.trans (g_goto (pc' := 47) dX10_recordCount_40 rfl) ?_
    exact g_iret dX10_recordCount_47 rfl
theorem q206_52 (C : am_C) (σ : am_M) (v1 v2 v3 : Int32) : am_go am_X0 C M206 52 [.ref 34, .int v1, .int v2, .int v3] [] σ = if (nI 64) ≤ v3 then (some (.inl (some (.int v2)), σ)) else (if am_in v3 64 = true then (if σ.1 37 (v3 : Int32).toNatClampNeg = (-1) then (am_go am_X0 C M206 52 [.ref 34, .int v1, .int (v2 + (nI 0)), .int (v3 + nI 1)] [] σ) else (if v1 = nI 1 then (am_go am_X0 C M206 52 [.ref 34, .int v1, .int (v2 + (nI 1)), .int (v3 + nI 1)] [] σ) else (am_bI (C 193 [.ref 34, .int v3, .int (-1)] σ) (fun r1 t1 => if r1 = nI 0 then (am_go am_X0 C M206 52 [.ref 34, .int v1, .int (v2 + (nI 1)), .int (v3 + nI 1)] [] t1) else (am_go am_X0 C M206 52 [.ref 34, .int v1, .int (v2 + (nI 0)), .int (v3 + nI 1)] [] t1))))) else none) := by
  refine Eq.trans (g_A dX10_recordCount_52 rfl rfl) ?_
  refine Eq.trans (g_K (v := nI 64) dX10_recordCount_53 rfl rfl) ?_
  refine Eq.trans (g_icge (t := 96) dX10_recordCount_55 rfl rfl) ?_
  refine am_ite ?_ ?_
  · refine Eq.trans (g_A dX10_recordCount_96 rfl rfl) ?_
    exact g_iret dX10_recordCount_97 rfl
  · refine Eq.trans (g_A dX10_recordCount_58 rfl rfl) ?_
    refine Eq.trans (g_A dX10_recordCount_59 rfl rfl) ?_
    refine Eq.trans (g_getR dX10_recordCount_60 f16 sh34 rfl rfl) ?_
    refine Eq.trans (g_A dX10_recordCount_63 rfl rfl) ?_
    refine Eq.trans (g_iald dX10_recordCount_64 sh37 rfl) ?_
    refine am_ite ?_ rfl
    refine Eq.trans (g_K (v := (-1)) dX10_recordCount_65 rfl rfl) ?_
    refine Eq.trans (g_iceq (t := 87) dX10_recordCount_66 rfl rfl) ?_
    refine am_ite ?_ ?_
    · refine Eq.trans (g_K (v := nI 0) dX10_recordCount_87 rfl rfl) ?_
      refine Eq.trans (g_iadd dX10_recordCount_88 rfl) ?_
      refine Eq.trans (g_isn (k := 2) dX10_recordCount_89 rfl (Nat.le_of_ble_eq_true rfl) rfl rfl rfl) ?_
      refine Eq.trans (g_inc (v := v3 + nI 1) dX10_recordCount_90 rfl (Nat.le_of_ble_eq_true rfl) rfl rfl rfl rfl) ?_
      refine Eq.trans (g_goto (pc' := 52) dX10_recordCount_93 rfl) ?_
      rfl
    · refine Eq.trans (g_A dX10_recordCount_69 rfl rfl) ?_
      refine Eq.trans (g_K (v := nI 1) dX10_recordCount_70 rfl rfl) ?_
      refine Eq.trans (g_iceq (t := 83) dX10_recordCount_71 rfl rfl) ?_
      refine am_ite ?_ ?_
      · refine Eq.trans (g_K (v := nI 1) dX10_recordCount_83 rfl rfl) ?_
        refine Eq.trans (g_goto (pc' := 88) dX10_recordCount_84 rfl) ?_
        refine Eq.trans (g_iadd dX10_recordCount_88 rfl) ?_
        refine Eq.trans (g_isn (k := 2) dX10_recordCount_89 rfl (Nat.le_of_ble_eq_true rfl) rfl rfl rfl) ?_
        refine Eq.trans (g_inc (v := v3 + nI 1) dX10_recordCount_90 rfl (Nat.le_of_ble_eq_true rfl) rfl rfl rfl rfl) ?_
        refine Eq.trans (g_goto (pc' := 52) dX10_recordCount_93 rfl) ?_
        rfl
      · refine Eq.trans (g_A dX10_recordCount_74 rfl rfl) ?_
        refine Eq.trans (g_A dX10_recordCount_75 rfl rfl) ?_
        refine Eq.trans (g_K (v := (-1)) dX10_recordCount_76 rfl rfl) ?_
        refine Eq.trans (g_vI (a := 34) (as := [.int v3, .int (-1)]) (rest := [.int v2]) dX10_recordCount_77 cl107 m193 rfl rfl rfl rfl (Nat.le_of_ble_eq_true rfl) rfl rfl rfl rfl) ?_
        refine am_bI_c (fun r1 t1 => ?_)
        refine Eq.trans (g_ifne (t := 87) dX10_recordCount_80 rfl rfl) ?_
        refine am_ite ?_ ?_
        · refine Eq.trans (g_K (v := nI 1) dX10_recordCount_83 rfl rfl) ?_
          refine Eq.trans (g_goto (pc' := 88) dX10_recordCount_84 rfl) ?_
          refine Eq.trans (g_iadd dX10_recordCount_88 rfl) ?_
          refine Eq.trans (g_isn (k := 2) dX10_recordCount_89 rfl (Nat.le_of_ble_eq_true rfl) rfl rfl rfl) ?_
          refine Eq.trans (g_inc (v := v3 + nI 1) dX10_recordCount_90 rfl (Nat.le_of_ble_eq_true rfl) rfl rfl rfl rfl) ?_
          refine Eq.trans (g_goto (pc' := 52) dX10_recordCount_93 rfl) ?_
          rfl
        · refine Eq.trans (g_K (v := nI 0) dX10_recordCount_87 rfl rfl) ?_
          refine Eq.trans (g_iadd dX10_recordCount_88 rfl) ?_
          refine Eq.trans (g_isn (k := 2) dX10_recordCount_89 rfl (Nat.le_of_ble_eq_true rfl) rfl rfl rfl) ?_
          refine Eq.trans (g_inc (v := v3 + nI 1) dX10_recordCount_90 rfl (Nat.le_of_ble_eq_true rfl) rfl rfl rfl rfl) ?_
          refine Eq.trans (g_goto (pc' := 52) dX10_recordCount_93 rfl) ?_
          rfl
theorem q207_0 (C : am_C) (σ : am_M) (v1 : Int32) : am_go am_X0 C M207 0 [.ref 34, .int v1, .null, .null] [] σ = am_bI (C 184 [.ref 34, .int v1] σ) (fun r1 t1 => if r1 = nI 0 then (am_go am_X0 C M207 14 [.ref 34, .int v1, .null, .null] [.int (nI 1), .ref 34] t1) else (am_go am_X0 C M207 14 [.ref 34, .int v1, .null, .null] [.int (nI 0), .ref 34] t1)) := by
  refine Eq.trans (g_A dX10_openers_0 rfl rfl) ?_
  refine Eq.trans (g_A dX10_openers_1 rfl rfl) ?_
  refine Eq.trans (g_A dX10_openers_2 rfl rfl) ?_
  refine Eq.trans (g_vI (a := 34) (as := [.int v1]) (rest := [.ref 34]) dX10_openers_3 cl118 m184 rfl rfl rfl rfl (Nat.le_of_ble_eq_true rfl) rfl rfl rfl rfl) ?_
  refine am_bI_c (fun r1 t1 => ?_)
  refine Eq.trans (g_ifeq (t := 13) dX10_openers_6 rfl rfl) ?_
  refine am_ite ?_ ?_
  · refine Eq.trans (g_K (v := nI 1) dX10_openers_13 rfl rfl) ?_
    rfl
  · refine Eq.trans (g_K (v := nI 0) dX10_openers_9 rfl rfl) ?_
    refine Eq.trans (g_goto (pc' := 14) dX10_openers_10 rfl) ?_
    rfl
theorem q207_14 (C : am_C) (σ : am_M) (v1 s0 : Int32) : am_go am_X0 C M207 14 [.ref 34, .int v1, .null, .null] [.int s0, .ref 34] σ = if ((am_wI σ 34 25 s0).1 34 25) ≤ (nI 0) then (am_bV (C 199 [.ref 34, .int v1] (am_wI σ 34 25 s0)) (fun t1 => if am_in (nI 0) 85 = true then (am_bI (C 195 [.ref 34, .int (t1.1 35 (nI 0 : Int32).toNatClampNeg)] t1) (fun r2 t2 => if r2 = nI 0 then (am_go am_X0 C M207 52 [.ref 34, .int v1, .int (nI 0), .int (nI 0)] [] t2) else (am_go am_X0 C M207 52 [.ref 34, .int v1, .int (nI 1), .int (nI 0)] [] t2))) else none)) else (some (.inl (some (.int (nI 0))), am_wI σ 34 25 s0)) := by
  refine Eq.trans (g_put dX10_openers_14 f13 sh34 rfl rfl rfl) ?_
  refine Eq.trans (g_A dX10_openers_17 rfl rfl) ?_
  refine Eq.trans (g_getI dX10_openers_18 f13 sh34 rfl rfl) ?_
  refine Eq.trans (g_ifle (t := 26) dX10_openers_21 rfl rfl) ?_
  refine am_ite ?_ ?_
  · refine Eq.trans (g_A dX10_openers_26 rfl rfl) ?_
    refine Eq.trans (g_A dX10_openers_27 rfl rfl) ?_
    refine Eq.trans (g_vV (a := 34) (as := [.int v1]) (rest := []) dX10_openers_28 cl119 m199 rfl rfl rfl rfl (Nat.le_of_ble_eq_true rfl) rfl rfl rfl rfl) ?_
    refine am_bV_c (fun t1 => ?_)
    refine Eq.trans (g_A dX10_openers_31 rfl rfl) ?_
    refine Eq.trans (g_A dX10_openers_32 rfl rfl) ?_
    refine Eq.trans (g_getR dX10_openers_33 f15 sh34 rfl rfl) ?_
    refine Eq.trans (g_K (v := nI 0) dX10_openers_36 rfl rfl) ?_
    refine Eq.trans (g_iald dX10_openers_37 sh35 rfl) ?_
    refine am_ite ?_ rfl
    refine Eq.trans (g_vI (a := 34) (as := [.int (t1.1 35 (nI 0 : Int32).toNatClampNeg)]) (rest := []) dX10_openers_38 cl108 m195 rfl rfl rfl rfl (Nat.le_of_ble_eq_true rfl) rfl rfl rfl rfl) ?_
    refine am_bI_c (fun r2 t2 => ?_)
    refine Eq.trans (g_ifeq (t := 48) dX10_openers_41 rfl rfl) ?_
    refine am_ite ?_ ?_
    · refine Eq.trans (g_K (v := nI 0) dX10_openers_48 rfl rfl) ?_
      refine Eq.trans (g_isn (k := 2) dX10_openers_49 rfl (Nat.le_of_ble_eq_true rfl) rfl rfl rfl) ?_
      refine Eq.trans (g_K (v := nI 0) dX10_openers_50 rfl rfl) ?_
      refine Eq.trans (g_isn (k := 3) dX10_openers_51 rfl (Nat.le_of_ble_eq_true rfl) rfl rfl rfl) ?_
      rfl
    · refine Eq.trans (g_K (v := nI 1) dX10_openers_44 rfl rfl) ?_
      refine Eq.trans (g_goto (pc' := 49) dX10_openers_45 rfl) ?_
      refine Eq.trans (g_isn (k := 2) dX10_openers_49 rfl (Nat.le_of_ble_eq_true rfl) rfl rfl rfl) ?_
      refine Eq.trans (g_K (v := nI 0) dX10_openers_50 rfl rfl) ?_
      refine Eq.trans (g_isn (k := 3) dX10_openers_51 rfl (Nat.le_of_ble_eq_true rfl) rfl rfl rfl) ?_
      rfl
  · refine Eq.trans (g_K (v := nI 0) dX10_openers_24 rfl rfl) ?_
    exact g_iret dX10_openers_25 rfl
theorem q207_52 (C : am_C) (σ : am_M) (v1 v2 v3 : Int32) : am_go am_X0 C M207 52 [.ref 34, .int v1, .int v2, .int v3] [] σ = if (nI 4) ≤ v3 then (some (.inl (some (.int v2)), σ)) else (if am_in v3 4 = true then (if (σ.1 39 (v3 : Int32).toNatClampNeg) ≤ (nI 0) then (am_go am_X0 C M207 52 [.ref 34, .int v1, .int (v2 ||| (nI 0)), .int (v3 + nI 1)] [] σ) else (if am_in v3 4 = true then (am_bI (C 195 [.ref 34, .int (σ.1 39 (v3 : Int32).toNatClampNeg)] σ) (fun r1 t1 => if r1 = nI 0 then (am_go am_X0 C M207 52 [.ref 34, .int v1, .int (v2 ||| (nI 0)), .int (v3 + nI 1)] [] t1) else (am_go am_X0 C M207 52 [.ref 34, .int v1, .int (v2 ||| ((nI 2) <<< (v3 &&& 31))), .int (v3 + nI 1)] [] t1))) else none)) else none) := by
  refine Eq.trans (g_A dX10_openers_52 rfl rfl) ?_
  refine Eq.trans (g_K (v := nI 4) dX10_openers_53 rfl rfl) ?_
  refine Eq.trans (g_icge (t := 95) dX10_openers_54 rfl rfl) ?_
  refine am_ite ?_ ?_
  · refine Eq.trans (g_A dX10_openers_95 rfl rfl) ?_
    exact g_iret dX10_openers_96 rfl
  · refine Eq.trans (g_A dX10_openers_57 rfl rfl) ?_
    refine Eq.trans (g_A dX10_openers_58 rfl rfl) ?_
    refine Eq.trans (g_getR dX10_openers_59 f19 sh34 rfl rfl) ?_
    refine Eq.trans (g_A dX10_openers_62 rfl rfl) ?_
    refine Eq.trans (g_iald dX10_openers_63 sh39 rfl) ?_
    refine am_ite ?_ rfl
    refine Eq.trans (g_ifle (t := 86) dX10_openers_64 rfl rfl) ?_
    refine am_ite ?_ ?_
    · refine Eq.trans (g_K (v := nI 0) dX10_openers_86 rfl rfl) ?_
      refine Eq.trans (g_ior dX10_openers_87 rfl) ?_
      refine Eq.trans (g_isn (k := 2) dX10_openers_88 rfl (Nat.le_of_ble_eq_true rfl) rfl rfl rfl) ?_
      refine Eq.trans (g_inc (v := v3 + nI 1) dX10_openers_89 rfl (Nat.le_of_ble_eq_true rfl) rfl rfl rfl rfl) ?_
      refine Eq.trans (g_goto (pc' := 52) dX10_openers_92 rfl) ?_
      rfl
    · refine Eq.trans (g_A dX10_openers_67 rfl rfl) ?_
      refine Eq.trans (g_A dX10_openers_68 rfl rfl) ?_
      refine Eq.trans (g_getR dX10_openers_69 f19 sh34 rfl rfl) ?_
      refine Eq.trans (g_A dX10_openers_72 rfl rfl) ?_
      refine Eq.trans (g_iald dX10_openers_73 sh39 rfl) ?_
      refine am_ite ?_ rfl
      refine Eq.trans (g_vI (a := 34) (as := [.int (σ.1 39 (v3 : Int32).toNatClampNeg)]) (rest := [.int v2]) dX10_openers_74 cl108 m195 rfl rfl rfl rfl (Nat.le_of_ble_eq_true rfl) rfl rfl rfl rfl) ?_
      refine am_bI_c (fun r1 t1 => ?_)
      refine Eq.trans (g_ifeq (t := 86) dX10_openers_77 rfl rfl) ?_
      refine am_ite ?_ ?_
      · refine Eq.trans (g_K (v := nI 0) dX10_openers_86 rfl rfl) ?_
        refine Eq.trans (g_ior dX10_openers_87 rfl) ?_
        refine Eq.trans (g_isn (k := 2) dX10_openers_88 rfl (Nat.le_of_ble_eq_true rfl) rfl rfl rfl) ?_
        refine Eq.trans (g_inc (v := v3 + nI 1) dX10_openers_89 rfl (Nat.le_of_ble_eq_true rfl) rfl rfl rfl rfl) ?_
        refine Eq.trans (g_goto (pc' := 52) dX10_openers_92 rfl) ?_
        rfl
      · refine Eq.trans (g_K (v := nI 2) dX10_openers_80 rfl rfl) ?_
        refine Eq.trans (g_A dX10_openers_81 rfl rfl) ?_
        refine Eq.trans (g_ishl dX10_openers_82 rfl) ?_
        refine Eq.trans (g_goto (pc' := 87) dX10_openers_83 rfl) ?_
        refine Eq.trans (g_ior dX10_openers_87 rfl) ?_
        refine Eq.trans (g_isn (k := 2) dX10_openers_88 rfl (Nat.le_of_ble_eq_true rfl) rfl rfl rfl) ?_
        refine Eq.trans (g_inc (v := v3 + nI 1) dX10_openers_89 rfl (Nat.le_of_ble_eq_true rfl) rfl rfl rfl rfl) ?_
        refine Eq.trans (g_goto (pc' := 52) dX10_openers_92 rfl) ?_
        rfl
theorem q208_0 (C : am_C) (σ : am_M) (v0 : Int32) : am_go am_X0 C M208 0 [.int v0] [] σ = am_bI (C 173 [.long ((v0 : Int32).toInt64), .long (0 : Int64), .long (3)] σ) (fun r1 t1 => if r1 = nI 0 ∨ r1 = nI 1 then some (.inl (some (.int r1)), t1) else none) := by
  refine Eq.trans (g_A dX10_isCustodian_0 rfl rfl) ?_
  refine Eq.trans (g_i2l dX10_isCustodian_1 rfl) ?_
  refine Eq.trans (g_KJ (v := (0 : Int64)) dX10_isCustodian_2 rfl rfl) ?_
  refine Eq.trans (g_ld2 dX10_isCustodian_3 kj5 rfl) ?_
  refine Eq.trans (g_sI (as := [.long ((v0 : Int32).toInt64), .long (0 : Int64), .long (3)]) (rest := []) dX10_isCustodian_6 rfl cl101 m173 rfl rfl rfl rfl (Nat.le_of_ble_eq_true rfl) rfl rfl rfl) ?_
  refine am_bI_c (fun r1 t1 => ?_)
  exact g_zret dX10_isCustodian_9 rfl
theorem q209_0 (C : am_C) (σ : am_M) (v1 v2 : Int32) : am_go am_X0 C M209 0 [.ref 34, .int v1, .int v2] [] σ = am_bI (C 208 [.int v1] σ) (fun r1 t1 => if r1 = nI 0 then (am_go am_X0 C M209 20 [.ref 34, .int v1, .int v2] [.ref 34] t1) else (am_bI (C 184 [.ref 34, .int v2] t1) (fun r2 t2 => if r2 = nI 0 then (am_go am_X0 C M209 20 [.ref 34, .int v1, .int v2] [.ref 34] t2) else (am_go am_X0 C M209 21 [.ref 34, .int v1, .int v2] [.int (nI 0), .ref 34] t2)))) := by
  refine Eq.trans (g_A dX10_openWith_0 rfl rfl) ?_
  refine Eq.trans (g_A dX10_openWith_1 rfl rfl) ?_
  refine Eq.trans (g_sI (as := [.int v1]) (rest := [.ref 34]) dX10_openWith_2 rfl cl120 m208 rfl rfl rfl rfl (Nat.le_of_ble_eq_true rfl) rfl rfl rfl) ?_
  refine am_bI_c (fun r1 t1 => ?_)
  refine Eq.trans (g_ifeq (t := 20) dX10_openWith_5 rfl rfl) ?_
  refine am_ite ?_ ?_
  · rfl
  · refine Eq.trans (g_A dX10_openWith_8 rfl rfl) ?_
    refine Eq.trans (g_A dX10_openWith_9 rfl rfl) ?_
    refine Eq.trans (g_vI (a := 34) (as := [.int v2]) (rest := [.ref 34]) dX10_openWith_10 cl118 m184 rfl rfl rfl rfl (Nat.le_of_ble_eq_true rfl) rfl rfl rfl rfl) ?_
    refine am_bI_c (fun r2 t2 => ?_)
    refine Eq.trans (g_ifeq (t := 20) dX10_openWith_13 rfl rfl) ?_
    refine am_ite ?_ ?_
    · rfl
    · refine Eq.trans (g_K (v := nI 0) dX10_openWith_16 rfl rfl) ?_
      refine Eq.trans (g_goto (pc' := 21) dX10_openWith_17 rfl) ?_
      rfl
theorem q209_20 (C : am_C) (σ : am_M) (v1 v2 : Int32) : am_go am_X0 C M209 20 [.ref 34, .int v1, .int v2] [.ref 34] σ = am_go am_X0 C M209 21 [.ref 34, .int v1, .int v2] [.int (nI 1), .ref 34] σ := by
  refine Eq.trans (g_K (v := nI 1) dX10_openWith_20 rfl rfl) ?_
  rfl
theorem q209_21 (C : am_C) (σ : am_M) (v1 v2 s0 : Int32) : am_go am_X0 C M209 21 [.ref 34, .int v1, .int v2] [.int s0, .ref 34] σ = if ((am_wI σ 34 25 s0).1 34 25) ≤ (nI 0) then (am_bV (C 199 [.ref 34, .int v2] (am_wI σ 34 25 s0)) (fun t1 => if am_in v1 4 = true then (if (t1.1 39 (v1 : Int32).toNatClampNeg) ≤ (nI 0) then (am_go am_X0 C M209 65 [.ref 34, .int v1, .int v2] [.ref 34] t1) else (if am_in v1 4 = true then (am_bI (C 195 [.ref 34, .int (t1.1 39 (v1 : Int32).toNatClampNeg)] t1) (fun r2 t2 => if r2 = nI 0 then (am_go am_X0 C M209 65 [.ref 34, .int v1, .int v2] [.ref 34] t2) else (am_go am_X0 C M209 66 [.ref 34, .int v1, .int v2] [.int (nI 0), .ref 34] t2))) else none)) else none)) else (some (.inl (some (.long (0 : Int64))), am_wI σ 34 25 s0)) := by
  refine Eq.trans (g_put dX10_openWith_21 f13 sh34 rfl rfl rfl) ?_
  refine Eq.trans (g_A dX10_openWith_24 rfl rfl) ?_
  refine Eq.trans (g_getI dX10_openWith_25 f13 sh34 rfl rfl) ?_
  refine Eq.trans (g_ifle (t := 33) dX10_openWith_28 rfl rfl) ?_
  refine am_ite ?_ ?_
  · refine Eq.trans (g_A dX10_openWith_33 rfl rfl) ?_
    refine Eq.trans (g_A dX10_openWith_34 rfl rfl) ?_
    refine Eq.trans (g_vV (a := 34) (as := [.int v2]) (rest := []) dX10_openWith_35 cl119 m199 rfl rfl rfl rfl (Nat.le_of_ble_eq_true rfl) rfl rfl rfl rfl) ?_
    refine am_bV_c (fun t1 => ?_)
    refine Eq.trans (g_A dX10_openWith_38 rfl rfl) ?_
    refine Eq.trans (g_A dX10_openWith_39 rfl rfl) ?_
    refine Eq.trans (g_getR dX10_openWith_40 f19 sh34 rfl rfl) ?_
    refine Eq.trans (g_A dX10_openWith_43 rfl rfl) ?_
    refine Eq.trans (g_iald dX10_openWith_44 sh39 rfl) ?_
    refine am_ite ?_ rfl
    refine Eq.trans (g_ifle (t := 65) dX10_openWith_45 rfl rfl) ?_
    refine am_ite ?_ ?_
    · rfl
    · refine Eq.trans (g_A dX10_openWith_48 rfl rfl) ?_
      refine Eq.trans (g_A dX10_openWith_49 rfl rfl) ?_
      refine Eq.trans (g_getR dX10_openWith_50 f19 sh34 rfl rfl) ?_
      refine Eq.trans (g_A dX10_openWith_53 rfl rfl) ?_
      refine Eq.trans (g_iald dX10_openWith_54 sh39 rfl) ?_
      refine am_ite ?_ rfl
      refine Eq.trans (g_vI (a := 34) (as := [.int (t1.1 39 (v1 : Int32).toNatClampNeg)]) (rest := [.ref 34]) dX10_openWith_55 cl108 m195 rfl rfl rfl rfl (Nat.le_of_ble_eq_true rfl) rfl rfl rfl rfl) ?_
      refine am_bI_c (fun r2 t2 => ?_)
      refine Eq.trans (g_ifeq (t := 65) dX10_openWith_58 rfl rfl) ?_
      refine am_ite ?_ ?_
      · rfl
      · refine Eq.trans (g_K (v := nI 0) dX10_openWith_61 rfl rfl) ?_
        refine Eq.trans (g_goto (pc' := 66) dX10_openWith_62 rfl) ?_
        rfl
  · refine Eq.trans (g_KJ (v := (0 : Int64)) dX10_openWith_31 rfl rfl) ?_
    exact g_lret dX10_openWith_32 rfl
theorem q209_65 (C : am_C) (σ : am_M) (v1 v2 : Int32) : am_go am_X0 C M209 65 [.ref 34, .int v1, .int v2] [.ref 34] σ = am_go am_X0 C M209 66 [.ref 34, .int v1, .int v2] [.int (nI 2), .ref 34] σ := by
  refine Eq.trans (g_K (v := nI 2) dX10_openWith_65 rfl rfl) ?_
  rfl
theorem q209_66 (C : am_C) (σ : am_M) (v1 v2 s0 : Int32) : am_go am_X0 C M209 66 [.ref 34, .int v1, .int v2] [.int s0, .ref 34] σ = if ((am_wI σ 34 25 s0).1 34 25) ≤ (nI 0) then (if am_in v2 200 = true then (some (.inl (some (.long ((am_wI σ 34 25 s0).2.1 50 (v2 : Int32).toNatClampNeg))), am_wI σ 34 25 s0)) else none) else (some (.inl (some (.long (0 : Int64))), am_wI σ 34 25 s0)) := by
  refine Eq.trans (g_put dX10_openWith_66 f13 sh34 rfl rfl rfl) ?_
  refine Eq.trans (g_A dX10_openWith_69 rfl rfl) ?_
  refine Eq.trans (g_getI dX10_openWith_70 f13 sh34 rfl rfl) ?_
  refine Eq.trans (g_ifle (t := 80) dX10_openWith_73 rfl rfl) ?_
  refine am_ite ?_ ?_
  · refine Eq.trans (g_A dX10_openWith_80 rfl rfl) ?_
    refine Eq.trans (g_getR dX10_openWith_81 f33 sh34 rfl rfl) ?_
    refine Eq.trans (g_A dX10_openWith_84 rfl rfl) ?_
    refine Eq.trans (g_lald dX10_openWith_85 sh50 rfl) ?_
    refine am_ite ?_ rfl
    exact g_lret dX10_openWith_86 rfl
  · refine Eq.trans (g_KJ (v := (0 : Int64)) dX10_openWith_76 rfl rfl) ?_
    refine Eq.trans (g_goto (pc' := 86) dX10_openWith_77 rfl) ?_
    exact g_lret dX10_openWith_86 rfl
theorem q210_0 (C : am_C) (σ : am_M) (v1 : Int32) : am_go am_X0 C M210 0 [.ref 34, .int v1, .null] [] σ = am_go am_X0 C M210 2 [.ref 34, .int v1, .int (nI 0)] [] σ := by
  refine Eq.trans (g_K (v := nI 0) dX10_placeOf_0 rfl rfl) ?_
  refine Eq.trans (g_isn (k := 2) dX10_placeOf_1 rfl (Nat.le_of_ble_eq_true rfl) rfl rfl rfl) ?_
  rfl
theorem q210_2 (C : am_C) (σ : am_M) (v1 v2 : Int32) : am_go am_X0 C M210 2 [.ref 34, .int v1, .int v2] [] σ = if (σ.1 34 27) ≤ v2 then (some (.inl (some (.int (-1))), σ)) else (if am_in v2 2500 = true then (if σ.1 55 (v2 : Int32).toNatClampNeg = v1 then (some (.inl (some (.int v2)), σ)) else (am_go am_X0 C M210 2 [.ref 34, .int v1, .int (v2 + nI 1)] [] σ)) else none) := by
  refine Eq.trans (g_A dX10_placeOf_2 rfl rfl) ?_
  refine Eq.trans (g_A dX10_placeOf_3 rfl rfl) ?_
  refine Eq.trans (g_getI dX10_placeOf_4 f31 sh34 rfl rfl) ?_
  refine Eq.trans (g_icge (t := 28) dX10_placeOf_7 rfl rfl) ?_
  refine am_ite ?_ ?_
  · refine Eq.trans (g_K (v := (-1)) dX10_placeOf_28 rfl rfl) ?_
    exact g_iret dX10_placeOf_29 rfl
  · refine Eq.trans (g_A dX10_placeOf_10 rfl rfl) ?_
    refine Eq.trans (g_getR dX10_placeOf_11 f32 sh34 rfl rfl) ?_
    refine Eq.trans (g_A dX10_placeOf_14 rfl rfl) ?_
    refine Eq.trans (g_iald dX10_placeOf_15 sh55 rfl) ?_
    refine am_ite ?_ rfl
    refine Eq.trans (g_A dX10_placeOf_16 rfl rfl) ?_
    refine Eq.trans (g_icne (t := 22) dX10_placeOf_17 rfl rfl) ?_
    refine am_ite ?_ ?_
    · refine Eq.trans (g_A dX10_placeOf_20 rfl rfl) ?_
      exact g_iret dX10_placeOf_21 rfl
    · refine Eq.trans (g_inc (v := v2 + nI 1) dX10_placeOf_22 rfl (Nat.le_of_ble_eq_true rfl) rfl rfl rfl rfl) ?_
      refine Eq.trans (g_goto (pc' := 2) dX10_placeOf_25 rfl) ?_
      rfl
theorem q211_0 (C : am_C) (σ : am_M) (v1 : Int32) : am_go am_X0 C M211 0 [.ref 34, .int v1, .null, .null, .null] [] σ = if am_in (nI 0) 2500 = true then (if am_in (nI 0) 2500 = true then (am_go am_X0 C M211 21 [.ref 34, .int v1, .int (nI 0), .null, .null] [] (am_wI (am_wI (am_wI σ 55 (nI 0 : Int32).toNatClampNeg v1) 56 (nI 0 : Int32).toNatClampNeg (nI 0)) 34 27 (nI 1))) else none) else none := by
  refine Eq.trans (g_A dX10_laysSteps_0 rfl rfl) ?_
  refine Eq.trans (g_getR dX10_laysSteps_1 f32 sh34 rfl rfl) ?_
  refine Eq.trans (g_K (v := nI 0) dX10_laysSteps_4 rfl rfl) ?_
  refine Eq.trans (g_A dX10_laysSteps_5 rfl rfl) ?_
  refine Eq.trans (g_iast dX10_laysSteps_6 sh55 rfl) ?_
  refine am_ite ?_ rfl
  refine Eq.trans (g_A dX10_laysSteps_7 rfl rfl) ?_
  refine Eq.trans (g_getR dX10_laysSteps_8 f36 sh34 rfl rfl) ?_
  refine Eq.trans (g_K (v := nI 0) dX10_laysSteps_11 rfl rfl) ?_
  refine Eq.trans (g_K (v := nI 0) dX10_laysSteps_12 rfl rfl) ?_
  refine Eq.trans (g_iast dX10_laysSteps_13 sh56 rfl) ?_
  refine am_ite ?_ rfl
  refine Eq.trans (g_A dX10_laysSteps_14 rfl rfl) ?_
  refine Eq.trans (g_K (v := nI 1) dX10_laysSteps_15 rfl rfl) ?_
  refine Eq.trans (g_put dX10_laysSteps_16 f31 sh34 rfl rfl rfl) ?_
  refine Eq.trans (g_K (v := nI 0) dX10_laysSteps_19 rfl rfl) ?_
  refine Eq.trans (g_isn (k := 2) dX10_laysSteps_20 rfl (Nat.le_of_ble_eq_true rfl) rfl rfl rfl) ?_
  rfl
theorem q211_21 (C : am_C) (σ : am_M) (v1 v2 : Int32) {u3 : Value} (hu3 : (!(u3.category == 2)) = true) {u4 : Value} (hu4 : (!(u4.category == 2)) = true) : am_go am_X0 C M211 21 [.ref 34, .int v1, .int v2, u3, u4] [] σ = if (σ.1 34 27) ≤ v2 then (some (.inl none, σ)) else (am_go am_X0 C M211 31 [.ref 34, .int v1, .int v2, .int (nI 0), u4] [] σ) := by
  refine Eq.trans (g_A dX10_laysSteps_21 rfl rfl) ?_
  refine Eq.trans (g_A dX10_laysSteps_22 rfl rfl) ?_
  refine Eq.trans (g_getI dX10_laysSteps_23 f31 sh34 rfl rfl) ?_
  refine Eq.trans (g_icge (t := 162) dX10_laysSteps_26 rfl rfl) ?_
  refine am_ite ?_ ?_
  · exact g_vret dX10_laysSteps_162 rfl
  · refine Eq.trans (g_K (v := nI 0) dX10_laysSteps_29 rfl rfl) ?_
    refine Eq.trans (g_isn (k := 3) dX10_laysSteps_30 rfl (Nat.le_of_ble_eq_true rfl) rfl rfl rfl) ?_
    rfl
theorem q211_31 (C : am_C) (σ : am_M) (v1 v2 v3 : Int32) {u4 : Value} (hu4 : (!(u4.category == 2)) = true) : am_go am_X0 C M211 31 [.ref 34, .int v1, .int v2, .int v3, u4] [] σ = if (σ.1 34 22) ≤ v3 then (am_go am_X0 C M211 21 [.ref 34, .int v1, .int (v2 + nI 1), .int v3, u4] [] σ) else (am_go am_X0 C M211 46 [.ref 34, .int v1, .int v2, .int v3, .int ((nI 150) * v3)] [] σ) := by
  refine Eq.trans (g_A dX10_laysSteps_31 rfl rfl) ?_
  refine Eq.trans (g_A dX10_laysSteps_32 rfl rfl) ?_
  refine Eq.trans (g_getI dX10_laysSteps_33 f23 sh34 rfl rfl) ?_
  refine Eq.trans (g_icge (t := 156) dX10_laysSteps_36 rfl rfl) ?_
  refine am_ite ?_ ?_
  · refine Eq.trans (g_inc (v := v2 + nI 1) dX10_laysSteps_156 rfl (Nat.le_of_ble_eq_true rfl) rfl rfl rfl rfl) ?_
    refine Eq.trans (g_goto (pc' := 21) dX10_laysSteps_159 rfl) ?_
    rfl
  · refine Eq.trans (g_K (v := nI 150) dX10_laysSteps_39 rfl rfl) ?_
    refine Eq.trans (g_A dX10_laysSteps_42 rfl rfl) ?_
    refine Eq.trans (g_imul dX10_laysSteps_43 rfl) ?_
    refine Eq.trans (g_ist (k := 4) dX10_laysSteps_44 (Nat.le_of_ble_eq_true rfl) rfl rfl rfl) ?_
    rfl
theorem q211_46 (C : am_C) (σ : am_M) (v1 v2 v3 v4 : Int32) : am_go am_X0 C M211 46 [.ref 34, .int v1, .int v2, .int v3, .int v4] [] σ = if am_in v3 8 = true then (if σ.1 44 (v3 : Int32).toNatClampNeg = nI 2 then (am_go am_X0 C M211 31 [.ref 34, .int v1, .int v2, .int (v3 + nI 1), .int v4] [] σ) else (if am_in v3 8 = true then (if (((nI 150) * v3) + (σ.1 45 (v3 : Int32).toNatClampNeg)) ≤ v4 then (am_go am_X0 C M211 31 [.ref 34, .int v1, .int v2, .int (v3 + nI 1), .int v4] [] σ) else (if am_in v4 1200 = true then (if σ.1 46 (v4 : Int32).toNatClampNeg = nI 0 then (if am_in v4 1200 = true then (if am_in v2 2500 = true then (if σ.1 48 (v4 : Int32).toNatClampNeg = σ.1 55 (v2 : Int32).toNatClampNeg then (if am_in v4 1200 = true then (am_bI (C 195 [.ref 34, .int (σ.1 47 (v4 : Int32).toNatClampNeg)] σ) (fun r1 t1 => if r1 = nI 0 then (if am_in v2 2500 = true then (if am_in (t1.1 34 27) 2500 = true then (if am_in v4 1200 = true then (am_bV (C 196 [.ref 34, .int ((am_wI t1 56 (t1.1 34 27 : Int32).toNatClampNeg ((t1.1 56 (v2 : Int32).toNatClampNeg) + (nI 1))).1 47 (v4 : Int32).toNatClampNeg)] (am_wI t1 56 (t1.1 34 27 : Int32).toNatClampNeg ((t1.1 56 (v2 : Int32).toNatClampNeg) + (nI 1)))) (fun t2 => am_go am_X0 C M211 46 [.ref 34, .int v1, .int v2, .int v3, .int (v4 + nI 1)] [] t2)) else none) else none) else none) else (am_go am_X0 C M211 46 [.ref 34, .int v1, .int v2, .int v3, .int (v4 + nI 1)] [] t1))) else none) else (am_go am_X0 C M211 46 [.ref 34, .int v1, .int v2, .int v3, .int (v4 + nI 1)] [] σ)) else none) else none) else (am_go am_X0 C M211 46 [.ref 34, .int v1, .int v2, .int v3, .int (v4 + nI 1)] [] σ)) else none)) else none)) else none := by
  refine Eq.trans (g_A dX10_laysSteps_46 rfl rfl) ?_
  refine Eq.trans (g_getR dX10_laysSteps_47 f21 sh34 rfl rfl) ?_
  refine Eq.trans (g_A dX10_laysSteps_50 rfl rfl) ?_
  refine Eq.trans (g_iald dX10_laysSteps_51 sh44 rfl) ?_
  refine am_ite ?_ rfl
  refine Eq.trans (g_K (v := nI 2) dX10_laysSteps_52 rfl rfl) ?_
  refine Eq.trans (g_iceq (t := 150) dX10_laysSteps_53 rfl rfl) ?_
  refine am_ite ?_ ?_
  · refine Eq.trans (g_inc (v := v3 + nI 1) dX10_laysSteps_150 rfl (Nat.le_of_ble_eq_true rfl) rfl rfl rfl rfl) ?_
    refine Eq.trans (g_goto (pc' := 31) dX10_laysSteps_153 rfl) ?_
    rfl
  · refine Eq.trans (g_A dX10_laysSteps_56 rfl rfl) ?_
    refine Eq.trans (g_K (v := nI 150) dX10_laysSteps_58 rfl rfl) ?_
    refine Eq.trans (g_A dX10_laysSteps_61 rfl rfl) ?_
    refine Eq.trans (g_imul dX10_laysSteps_62 rfl) ?_
    refine Eq.trans (g_A dX10_laysSteps_63 rfl rfl) ?_
    refine Eq.trans (g_getR dX10_laysSteps_64 f22 sh34 rfl rfl) ?_
    refine Eq.trans (g_A dX10_laysSteps_67 rfl rfl) ?_
    refine Eq.trans (g_iald dX10_laysSteps_68 sh45 rfl) ?_
    refine am_ite ?_ rfl
    refine Eq.trans (g_iadd dX10_laysSteps_69 rfl) ?_
    refine Eq.trans (g_icge (t := 150) dX10_laysSteps_70 rfl rfl) ?_
    refine am_ite ?_ ?_
    · refine Eq.trans (g_inc (v := v3 + nI 1) dX10_laysSteps_150 rfl (Nat.le_of_ble_eq_true rfl) rfl rfl rfl rfl) ?_
      refine Eq.trans (g_goto (pc' := 31) dX10_laysSteps_153 rfl) ?_
      rfl
    · refine Eq.trans (g_A dX10_laysSteps_73 rfl rfl) ?_
      refine Eq.trans (g_getR dX10_laysSteps_74 f27 sh34 rfl rfl) ?_
      refine Eq.trans (g_A dX10_laysSteps_77 rfl rfl) ?_
      refine Eq.trans (g_iald dX10_laysSteps_79 sh46 rfl) ?_
      refine am_ite ?_ rfl
      refine Eq.trans (g_ifne (t := 144) dX10_laysSteps_80 rfl rfl) ?_
      refine am_ite ?_ ?_
      · refine Eq.trans (g_A dX10_laysSteps_83 rfl rfl) ?_
        refine Eq.trans (g_getR dX10_laysSteps_84 f29 sh34 rfl rfl) ?_
        refine Eq.trans (g_A dX10_laysSteps_87 rfl rfl) ?_
        refine Eq.trans (g_iald dX10_laysSteps_89 sh48 rfl) ?_
        refine am_ite ?_ rfl
        refine Eq.trans (g_A dX10_laysSteps_90 rfl rfl) ?_
        refine Eq.trans (g_getR dX10_laysSteps_91 f32 sh34 rfl rfl) ?_
        refine Eq.trans (g_A dX10_laysSteps_94 rfl rfl) ?_
        refine Eq.trans (g_iald dX10_laysSteps_95 sh55 rfl) ?_
        refine am_ite ?_ rfl
        refine Eq.trans (g_icne (t := 144) dX10_laysSteps_96 rfl rfl) ?_
        refine am_ite ?_ ?_
        · refine Eq.trans (g_A dX10_laysSteps_99 rfl rfl) ?_
          refine Eq.trans (g_A dX10_laysSteps_100 rfl rfl) ?_
          refine Eq.trans (g_getR dX10_laysSteps_101 f28 sh34 rfl rfl) ?_
          refine Eq.trans (g_A dX10_laysSteps_104 rfl rfl) ?_
          refine Eq.trans (g_iald dX10_laysSteps_106 sh47 rfl) ?_
          refine am_ite ?_ rfl
          refine Eq.trans (g_vI (a := 34) (as := [.int (σ.1 47 (v4 : Int32).toNatClampNeg)]) (rest := []) dX10_laysSteps_107 cl108 m195 rfl rfl rfl rfl (Nat.le_of_ble_eq_true rfl) rfl rfl rfl rfl) ?_
          refine am_bI_c (fun r1 t1 => ?_)
          refine Eq.trans (g_ifeq (t := 116) dX10_laysSteps_110 rfl rfl) ?_
          refine am_ite ?_ ?_
          · refine Eq.trans (g_A dX10_laysSteps_116 rfl rfl) ?_
            refine Eq.trans (g_getR dX10_laysSteps_117 f36 sh34 rfl rfl) ?_
            refine Eq.trans (g_A dX10_laysSteps_120 rfl rfl) ?_
            refine Eq.trans (g_getI dX10_laysSteps_121 f31 sh34 rfl rfl) ?_
            refine Eq.trans (g_A dX10_laysSteps_124 rfl rfl) ?_
            refine Eq.trans (g_getR dX10_laysSteps_125 f36 sh34 rfl rfl) ?_
            refine Eq.trans (g_A dX10_laysSteps_128 rfl rfl) ?_
            refine Eq.trans (g_iald dX10_laysSteps_129 sh56 rfl) ?_
            refine am_ite ?_ rfl
            refine Eq.trans (g_K (v := nI 1) dX10_laysSteps_130 rfl rfl) ?_
            refine Eq.trans (g_iadd dX10_laysSteps_131 rfl) ?_
            refine Eq.trans (g_iast dX10_laysSteps_132 sh56 rfl) ?_
            refine am_ite ?_ rfl
            refine Eq.trans (g_A dX10_laysSteps_133 rfl rfl) ?_
            refine Eq.trans (g_A dX10_laysSteps_134 rfl rfl) ?_
            refine Eq.trans (g_getR dX10_laysSteps_135 f28 sh34 rfl rfl) ?_
            refine Eq.trans (g_A dX10_laysSteps_138 rfl rfl) ?_
            refine Eq.trans (g_iald dX10_laysSteps_140 sh47 rfl) ?_
            refine am_ite ?_ rfl
            refine Eq.trans (g_vV (a := 34) (as := [.int ((am_wI t1 56 (t1.1 34 27 : Int32).toNatClampNeg ((t1.1 56 (v2 : Int32).toNatClampNeg) + (nI 1))).1 47 (v4 : Int32).toNatClampNeg)]) (rest := []) dX10_laysSteps_141 cl109 m196 rfl rfl rfl rfl (Nat.le_of_ble_eq_true rfl) rfl rfl rfl rfl) ?_
            refine am_bV_c (fun t2 => ?_)
            refine Eq.trans (g_inc (v := v4 + nI 1) dX10_laysSteps_144 rfl (Nat.le_of_ble_eq_true rfl) rfl rfl rfl rfl) ?_
            refine Eq.trans (g_goto (pc' := 46) dX10_laysSteps_147 rfl) ?_
            rfl
          · refine Eq.trans (g_goto (pc' := 144) dX10_laysSteps_113 rfl) ?_
            refine Eq.trans (g_inc (v := v4 + nI 1) dX10_laysSteps_144 rfl (Nat.le_of_ble_eq_true rfl) rfl rfl rfl rfl) ?_
            refine Eq.trans (g_goto (pc' := 46) dX10_laysSteps_147 rfl) ?_
            rfl
        · refine Eq.trans (g_inc (v := v4 + nI 1) dX10_laysSteps_144 rfl (Nat.le_of_ble_eq_true rfl) rfl rfl rfl rfl) ?_
          refine Eq.trans (g_goto (pc' := 46) dX10_laysSteps_147 rfl) ?_
          rfl
      · refine Eq.trans (g_inc (v := v4 + nI 1) dX10_laysSteps_144 rfl (Nat.le_of_ble_eq_true rfl) rfl rfl rfl rfl) ?_
        refine Eq.trans (g_goto (pc' := 46) dX10_laysSteps_147 rfl) ?_
        rfl
theorem q212_0 (C : am_C) (σ : am_M) (v1 : Int32) : am_go am_X0 C M212 0 [.ref 34, .int v1, .null, .null, .null, .null] [] σ = am_go am_X0 C M212 4 [.ref 34, .int v1, .int (-1), .int (nI 0), .null, .null] [] σ := by
  refine Eq.trans (g_K (v := (-1)) dX10_stepsTo_0 rfl rfl) ?_
  refine Eq.trans (g_isn (k := 2) dX10_stepsTo_1 rfl (Nat.le_of_ble_eq_true rfl) rfl rfl rfl) ?_
  refine Eq.trans (g_K (v := nI 0) dX10_stepsTo_2 rfl rfl) ?_
  refine Eq.trans (g_isn (k := 3) dX10_stepsTo_3 rfl (Nat.le_of_ble_eq_true rfl) rfl rfl rfl) ?_
  rfl
theorem q212_4 (C : am_C) (σ : am_M) (v1 v2 v3 : Int32) {u4 : Value} (hu4 : (!(u4.category == 2)) = true) {u5 : Value} (hu5 : (!(u5.category == 2)) = true) : am_go am_X0 C M212 4 [.ref 34, .int v1, .int v2, .int v3, u4, u5] [] σ = if (σ.1 34 22) ≤ v3 then (some (.inl (some (.int v2)), σ)) else (am_go am_X0 C M212 19 [.ref 34, .int v1, .int v2, .int v3, .int ((nI 150) * v3), u5] [] σ) := by
  refine Eq.trans (g_A dX10_stepsTo_4 rfl rfl) ?_
  refine Eq.trans (g_A dX10_stepsTo_5 rfl rfl) ?_
  refine Eq.trans (g_getI dX10_stepsTo_6 f23 sh34 rfl rfl) ?_
  refine Eq.trans (g_icge (t := 131) dX10_stepsTo_9 rfl rfl) ?_
  refine am_ite ?_ ?_
  · refine Eq.trans (g_A dX10_stepsTo_131 rfl rfl) ?_
    exact g_iret dX10_stepsTo_132 rfl
  · refine Eq.trans (g_K (v := nI 150) dX10_stepsTo_12 rfl rfl) ?_
    refine Eq.trans (g_A dX10_stepsTo_15 rfl rfl) ?_
    refine Eq.trans (g_imul dX10_stepsTo_16 rfl) ?_
    refine Eq.trans (g_ist (k := 4) dX10_stepsTo_17 (Nat.le_of_ble_eq_true rfl) rfl rfl rfl) ?_
    rfl
theorem q212_19 (C : am_C) (σ : am_M) (v1 v2 v3 v4 : Int32) {u5 : Value} (hu5 : (!(u5.category == 2)) = true) : am_go am_X0 C M212 19 [.ref 34, .int v1, .int v2, .int v3, .int v4, u5] [] σ = if am_in v3 8 = true then (if σ.1 44 (v3 : Int32).toNatClampNeg = nI 2 then (am_go am_X0 C M212 4 [.ref 34, .int v1, .int v2, .int (v3 + nI 1), .int v4, u5] [] σ) else (if am_in v3 8 = true then (if (((nI 150) * v3) + (σ.1 45 (v3 : Int32).toNatClampNeg)) ≤ v4 then (am_go am_X0 C M212 4 [.ref 34, .int v1, .int v2, .int (v3 + nI 1), .int v4, u5] [] σ) else (if am_in v4 1200 = true then (if σ.1 46 (v4 : Int32).toNatClampNeg = nI 1 then (if am_in v4 1200 = true then (if σ.1 47 (v4 : Int32).toNatClampNeg = v1 then (if am_in v4 1200 = true then (am_bI (C 210 [.ref 34, .int (σ.1 48 (v4 : Int32).toNatClampNeg)] σ) (fun r1 t1 => am_go am_X0 C M212 83 [.ref 34, .int v1, .int v2, .int v3, .int v4, u5] [.int r1] t1)) else none) else (am_go am_X0 C M212 82 [.ref 34, .int v1, .int v2, .int v3, .int v4, u5] [] σ)) else none) else (am_go am_X0 C M212 82 [.ref 34, .int v1, .int v2, .int v3, .int v4, u5] [] σ)) else none)) else none)) else none := by
  refine Eq.trans (g_A dX10_stepsTo_19 rfl rfl) ?_
  refine Eq.trans (g_getR dX10_stepsTo_20 f21 sh34 rfl rfl) ?_
  refine Eq.trans (g_A dX10_stepsTo_23 rfl rfl) ?_
  refine Eq.trans (g_iald dX10_stepsTo_24 sh44 rfl) ?_
  refine am_ite ?_ rfl
  refine Eq.trans (g_K (v := nI 2) dX10_stepsTo_25 rfl rfl) ?_
  refine Eq.trans (g_iceq (t := 125) dX10_stepsTo_26 rfl rfl) ?_
  refine am_ite ?_ ?_
  · refine Eq.trans (g_inc (v := v3 + nI 1) dX10_stepsTo_125 rfl (Nat.le_of_ble_eq_true rfl) rfl rfl rfl rfl) ?_
    refine Eq.trans (g_goto (pc' := 4) dX10_stepsTo_128 rfl) ?_
    rfl
  · refine Eq.trans (g_A dX10_stepsTo_29 rfl rfl) ?_
    refine Eq.trans (g_K (v := nI 150) dX10_stepsTo_31 rfl rfl) ?_
    refine Eq.trans (g_A dX10_stepsTo_34 rfl rfl) ?_
    refine Eq.trans (g_imul dX10_stepsTo_35 rfl) ?_
    refine Eq.trans (g_A dX10_stepsTo_36 rfl rfl) ?_
    refine Eq.trans (g_getR dX10_stepsTo_37 f22 sh34 rfl rfl) ?_
    refine Eq.trans (g_A dX10_stepsTo_40 rfl rfl) ?_
    refine Eq.trans (g_iald dX10_stepsTo_41 sh45 rfl) ?_
    refine am_ite ?_ rfl
    refine Eq.trans (g_iadd dX10_stepsTo_42 rfl) ?_
    refine Eq.trans (g_icge (t := 125) dX10_stepsTo_43 rfl rfl) ?_
    refine am_ite ?_ ?_
    · refine Eq.trans (g_inc (v := v3 + nI 1) dX10_stepsTo_125 rfl (Nat.le_of_ble_eq_true rfl) rfl rfl rfl rfl) ?_
      refine Eq.trans (g_goto (pc' := 4) dX10_stepsTo_128 rfl) ?_
      rfl
    · refine Eq.trans (g_A dX10_stepsTo_46 rfl rfl) ?_
      refine Eq.trans (g_getR dX10_stepsTo_47 f27 sh34 rfl rfl) ?_
      refine Eq.trans (g_A dX10_stepsTo_50 rfl rfl) ?_
      refine Eq.trans (g_iald dX10_stepsTo_52 sh46 rfl) ?_
      refine am_ite ?_ rfl
      refine Eq.trans (g_K (v := nI 1) dX10_stepsTo_53 rfl rfl) ?_
      refine Eq.trans (g_icne (t := 82) dX10_stepsTo_54 rfl rfl) ?_
      refine am_ite ?_ ?_
      · refine Eq.trans (g_A dX10_stepsTo_57 rfl rfl) ?_
        refine Eq.trans (g_getR dX10_stepsTo_58 f28 sh34 rfl rfl) ?_
        refine Eq.trans (g_A dX10_stepsTo_61 rfl rfl) ?_
        refine Eq.trans (g_iald dX10_stepsTo_63 sh47 rfl) ?_
        refine am_ite ?_ rfl
        refine Eq.trans (g_A dX10_stepsTo_64 rfl rfl) ?_
        refine Eq.trans (g_icne (t := 82) dX10_stepsTo_65 rfl rfl) ?_
        refine am_ite ?_ ?_
        · refine Eq.trans (g_A dX10_stepsTo_68 rfl rfl) ?_
          refine Eq.trans (g_A dX10_stepsTo_69 rfl rfl) ?_
          refine Eq.trans (g_getR dX10_stepsTo_70 f29 sh34 rfl rfl) ?_
          refine Eq.trans (g_A dX10_stepsTo_73 rfl rfl) ?_
          refine Eq.trans (g_iald dX10_stepsTo_75 sh48 rfl) ?_
          refine am_ite ?_ rfl
          refine Eq.trans (g_vI (a := 34) (as := [.int (σ.1 48 (v4 : Int32).toNatClampNeg)]) (rest := []) dX10_stepsTo_76 cl121 m210 rfl rfl rfl rfl (Nat.le_of_ble_eq_true rfl) rfl rfl rfl rfl) ?_
          refine am_bI_c (fun r1 t1 => ?_)
          refine Eq.trans (g_goto (pc' := 83) dX10_stepsTo_79 rfl) ?_
          rfl
        · rfl
      · rfl
theorem q212_82 (C : am_C) (σ : am_M) (v1 v2 v3 v4 : Int32) {u5 : Value} (hu5 : (!(u5.category == 2)) = true) : am_go am_X0 C M212 82 [.ref 34, .int v1, .int v2, .int v3, .int v4, u5] [] σ = am_go am_X0 C M212 83 [.ref 34, .int v1, .int v2, .int v3, .int v4, u5] [.int (-1)] σ := by
  refine Eq.trans (g_K (v := (-1)) dX10_stepsTo_82 rfl rfl) ?_
  rfl
theorem q212_83 (C : am_C) (σ : am_M) (v1 v2 v3 v4 s0 : Int32) {u5 : Value} (hu5 : (!(u5.category == 2)) = true) : am_go am_X0 C M212 83 [.ref 34, .int v1, .int v2, .int v3, .int v4, u5] [.int s0] σ = if s0 = (-1) then (am_go am_X0 C M212 19 [.ref 34, .int v1, .int v2, .int v3, .int (v4 + nI 1), .int s0] [] σ) else (if v2 = (-1) then (am_go am_X0 C M212 109 [.ref 34, .int v1, .int v2, .int v3, .int v4, .int s0] [] σ) else (if am_in s0 2500 = true then (if v2 ≤ ((σ.1 56 (s0 : Int32).toNatClampNeg) + (nI 1)) then (am_go am_X0 C M212 19 [.ref 34, .int v1, .int v2, .int v3, .int (v4 + nI 1), .int s0] [] σ) else (am_go am_X0 C M212 109 [.ref 34, .int v1, .int v2, .int v3, .int v4, .int s0] [] σ)) else none)) := by
  refine Eq.trans (g_ist (k := 5) dX10_stepsTo_83 (Nat.le_of_ble_eq_true rfl) rfl rfl rfl) ?_
  refine Eq.trans (g_A dX10_stepsTo_85 rfl rfl) ?_
  refine Eq.trans (g_K (v := (-1)) dX10_stepsTo_87 rfl rfl) ?_
  refine Eq.trans (g_iceq (t := 119) dX10_stepsTo_88 rfl rfl) ?_
  refine am_ite ?_ ?_
  · refine Eq.trans (g_inc (v := v4 + nI 1) dX10_stepsTo_119 rfl (Nat.le_of_ble_eq_true rfl) rfl rfl rfl rfl) ?_
    refine Eq.trans (g_goto (pc' := 19) dX10_stepsTo_122 rfl) ?_
    rfl
  · refine Eq.trans (g_A dX10_stepsTo_91 rfl rfl) ?_
    refine Eq.trans (g_K (v := (-1)) dX10_stepsTo_92 rfl rfl) ?_
    refine Eq.trans (g_iceq (t := 109) dX10_stepsTo_93 rfl rfl) ?_
    refine am_ite ?_ ?_
    · rfl
    · refine Eq.trans (g_A dX10_stepsTo_96 rfl rfl) ?_
      refine Eq.trans (g_getR dX10_stepsTo_97 f36 sh34 rfl rfl) ?_
      refine Eq.trans (g_A dX10_stepsTo_100 rfl rfl) ?_
      refine Eq.trans (g_iald dX10_stepsTo_102 sh56 rfl) ?_
      refine am_ite ?_ rfl
      refine Eq.trans (g_K (v := nI 1) dX10_stepsTo_103 rfl rfl) ?_
      refine Eq.trans (g_iadd dX10_stepsTo_104 rfl) ?_
      refine Eq.trans (g_A dX10_stepsTo_105 rfl rfl) ?_
      refine Eq.trans (g_icge (t := 119) dX10_stepsTo_106 rfl rfl) ?_
      refine am_ite ?_ ?_
      · refine Eq.trans (g_inc (v := v4 + nI 1) dX10_stepsTo_119 rfl (Nat.le_of_ble_eq_true rfl) rfl rfl rfl rfl) ?_
        refine Eq.trans (g_goto (pc' := 19) dX10_stepsTo_122 rfl) ?_
        rfl
      · rfl
theorem q212_109 (C : am_C) (σ : am_M) (v1 v2 v3 v4 v5 : Int32) : am_go am_X0 C M212 109 [.ref 34, .int v1, .int v2, .int v3, .int v4, .int v5] [] σ = if am_in v5 2500 = true then (am_go am_X0 C M212 19 [.ref 34, .int v1, .int ((σ.1 56 (v5 : Int32).toNatClampNeg) + (nI 1)), .int v3, .int (v4 + nI 1), .int v5] [] σ) else none := by
  refine Eq.trans (g_A dX10_stepsTo_109 rfl rfl) ?_
  refine Eq.trans (g_getR dX10_stepsTo_110 f36 sh34 rfl rfl) ?_
  refine Eq.trans (g_A dX10_stepsTo_113 rfl rfl) ?_
  refine Eq.trans (g_iald dX10_stepsTo_115 sh56 rfl) ?_
  refine am_ite ?_ rfl
  refine Eq.trans (g_K (v := nI 1) dX10_stepsTo_116 rfl rfl) ?_
  refine Eq.trans (g_iadd dX10_stepsTo_117 rfl) ?_
  refine Eq.trans (g_isn (k := 2) dX10_stepsTo_118 rfl (Nat.le_of_ble_eq_true rfl) rfl rfl rfl) ?_
  refine Eq.trans (g_inc (v := v4 + nI 1) dX10_stepsTo_119 rfl (Nat.le_of_ble_eq_true rfl) rfl rfl rfl rfl) ?_
  refine Eq.trans (g_goto (pc' := 19) dX10_stepsTo_122 rfl) ?_
  rfl
theorem q213_0 (C : am_C) (σ : am_M) (v1 v2 : Int32) : am_go am_X0 C M213 0 [.ref 34, .int v1, .int v2, .null, .null] [] σ = if v1 = (-1) then (am_go am_X0 C M213 13 [.ref 34, .int v1, .int v2, .null, .null] [.ref 34] σ) else (am_bI (C 208 [.int v1] σ) (fun r1 t1 => if r1 = nI 0 then (am_go am_X0 C M213 25 [.ref 34, .int v1, .int v2, .null, .null] [.ref 34] t1) else (am_go am_X0 C M213 13 [.ref 34, .int v1, .int v2, .null, .null] [.ref 34] t1))) := by
  refine Eq.trans (g_A dX10_openSteps_0 rfl rfl) ?_
  refine Eq.trans (g_A dX10_openSteps_1 rfl rfl) ?_
  refine Eq.trans (g_K (v := (-1)) dX10_openSteps_2 rfl rfl) ?_
  refine Eq.trans (g_iceq (t := 13) dX10_openSteps_3 rfl rfl) ?_
  refine am_ite ?_ ?_
  · rfl
  · refine Eq.trans (g_A dX10_openSteps_6 rfl rfl) ?_
    refine Eq.trans (g_sI (as := [.int v1]) (rest := [.ref 34]) dX10_openSteps_7 rfl cl120 m208 rfl rfl rfl rfl (Nat.le_of_ble_eq_true rfl) rfl rfl rfl) ?_
    refine am_bI_c (fun r1 t1 => ?_)
    refine Eq.trans (g_ifeq (t := 25) dX10_openSteps_10 rfl rfl) ?_
    refine am_ite ?_ ?_
    · rfl
    · rfl
theorem q213_13 (C : am_C) (σ : am_M) (v1 v2 : Int32) : am_go am_X0 C M213 13 [.ref 34, .int v1, .int v2, .null, .null] [.ref 34] σ = am_bI (C 184 [.ref 34, .int v2] σ) (fun r1 t1 => if r1 = nI 0 then (am_go am_X0 C M213 25 [.ref 34, .int v1, .int v2, .null, .null] [.ref 34] t1) else (am_go am_X0 C M213 26 [.ref 34, .int v1, .int v2, .null, .null] [.int (nI 0), .ref 34] t1)) := by
  refine Eq.trans (g_A dX10_openSteps_13 rfl rfl) ?_
  refine Eq.trans (g_A dX10_openSteps_14 rfl rfl) ?_
  refine Eq.trans (g_vI (a := 34) (as := [.int v2]) (rest := [.ref 34]) dX10_openSteps_15 cl118 m184 rfl rfl rfl rfl (Nat.le_of_ble_eq_true rfl) rfl rfl rfl rfl) ?_
  refine am_bI_c (fun r1 t1 => ?_)
  refine Eq.trans (g_ifeq (t := 25) dX10_openSteps_18 rfl rfl) ?_
  refine am_ite ?_ ?_
  · rfl
  · refine Eq.trans (g_K (v := nI 0) dX10_openSteps_21 rfl rfl) ?_
    refine Eq.trans (g_goto (pc' := 26) dX10_openSteps_22 rfl) ?_
    rfl
theorem q213_25 (C : am_C) (σ : am_M) (v1 v2 : Int32) : am_go am_X0 C M213 25 [.ref 34, .int v1, .int v2, .null, .null] [.ref 34] σ = am_go am_X0 C M213 26 [.ref 34, .int v1, .int v2, .null, .null] [.int (nI 1), .ref 34] σ := by
  refine Eq.trans (g_K (v := nI 1) dX10_openSteps_25 rfl rfl) ?_
  rfl
theorem q213_26 (C : am_C) (σ : am_M) (v1 v2 s0 : Int32) : am_go am_X0 C M213 26 [.ref 34, .int v1, .int v2, .null, .null] [.int s0, .ref 34] σ = if ((am_wI σ 34 25 s0).1 34 25) ≤ (nI 0) then (if v1 = (-1) then (if am_in (nI 0) 85 = true then (am_go am_X0 C M213 58 [.ref 34, .int v1, .int v2, .null, .null] [.int ((am_wI σ 34 25 s0).1 35 (nI 0 : Int32).toNatClampNeg)] (am_wI σ 34 25 s0)) else none) else (if am_in v1 4 = true then (am_go am_X0 C M213 58 [.ref 34, .int v1, .int v2, .null, .null] [.int ((am_wI σ 34 25 s0).1 39 (v1 : Int32).toNatClampNeg)] (am_wI σ 34 25 s0)) else none)) else (some (.inl (some (.int (nI 0))), am_wI σ 34 25 s0)) := by
  refine Eq.trans (g_put dX10_openSteps_26 f13 sh34 rfl rfl rfl) ?_
  refine Eq.trans (g_A dX10_openSteps_29 rfl rfl) ?_
  refine Eq.trans (g_getI dX10_openSteps_30 f13 sh34 rfl rfl) ?_
  refine Eq.trans (g_ifle (t := 38) dX10_openSteps_33 rfl rfl) ?_
  refine am_ite ?_ ?_
  · refine Eq.trans (g_A dX10_openSteps_38 rfl rfl) ?_
    refine Eq.trans (g_K (v := (-1)) dX10_openSteps_39 rfl rfl) ?_
    refine Eq.trans (g_icne (t := 52) dX10_openSteps_40 rfl rfl) ?_
    refine am_ite ?_ ?_
    · refine Eq.trans (g_A dX10_openSteps_43 rfl rfl) ?_
      refine Eq.trans (g_getR dX10_openSteps_44 f15 sh34 rfl rfl) ?_
      refine Eq.trans (g_K (v := nI 0) dX10_openSteps_47 rfl rfl) ?_
      refine Eq.trans (g_iald dX10_openSteps_48 sh35 rfl) ?_
      refine am_ite ?_ rfl
      refine Eq.trans (g_goto (pc' := 58) dX10_openSteps_49 rfl) ?_
      rfl
    · refine Eq.trans (g_A dX10_openSteps_52 rfl rfl) ?_
      refine Eq.trans (g_getR dX10_openSteps_53 f19 sh34 rfl rfl) ?_
      refine Eq.trans (g_A dX10_openSteps_56 rfl rfl) ?_
      refine Eq.trans (g_iald dX10_openSteps_57 sh39 rfl) ?_
      refine am_ite ?_ rfl
      rfl
  · refine Eq.trans (g_K (v := nI 0) dX10_openSteps_36 rfl rfl) ?_
    exact g_iret dX10_openSteps_37 rfl
theorem q213_58 (C : am_C) (σ : am_M) (v1 v2 s0 : Int32) : am_go am_X0 C M213 58 [.ref 34, .int v1, .int v2, .null, .null] [.int s0] σ = if s0 ≤ (nI 0) then (am_go am_X0 C M213 78 [.ref 34, .int v1, .int v2, .int s0, .int (-1)] [] σ) else (am_bV (C 211 [.ref 34, .int s0] σ) (fun t1 => am_bI (C 212 [.ref 34, .int v2] t1) (fun r2 t2 => am_go am_X0 C M213 78 [.ref 34, .int v1, .int v2, .int s0, .int r2] [] t2))) := by
  refine Eq.trans (g_isn (k := 3) dX10_openSteps_58 rfl (Nat.le_of_ble_eq_true rfl) rfl rfl rfl) ?_
  refine Eq.trans (g_K (v := (-1)) dX10_openSteps_59 rfl rfl) ?_
  refine Eq.trans (g_ist (k := 4) dX10_openSteps_60 (Nat.le_of_ble_eq_true rfl) rfl rfl rfl) ?_
  refine Eq.trans (g_A dX10_openSteps_62 rfl rfl) ?_
  refine Eq.trans (g_ifle (t := 78) dX10_openSteps_63 rfl rfl) ?_
  refine am_ite ?_ ?_
  · rfl
  · refine Eq.trans (g_A dX10_openSteps_66 rfl rfl) ?_
    refine Eq.trans (g_A dX10_openSteps_67 rfl rfl) ?_
    refine Eq.trans (g_vV (a := 34) (as := [.int s0]) (rest := []) dX10_openSteps_68 cl122 m211 rfl rfl rfl rfl (Nat.le_of_ble_eq_true rfl) rfl rfl rfl rfl) ?_
    refine am_bV_c (fun t1 => ?_)
    refine Eq.trans (g_A dX10_openSteps_71 rfl rfl) ?_
    refine Eq.trans (g_A dX10_openSteps_72 rfl rfl) ?_
    refine Eq.trans (g_vI (a := 34) (as := [.int v2]) (rest := []) dX10_openSteps_73 cl123 m212 rfl rfl rfl rfl (Nat.le_of_ble_eq_true rfl) rfl rfl rfl rfl) ?_
    refine am_bI_c (fun r2 t2 => ?_)
    refine Eq.trans (g_ist (k := 4) dX10_openSteps_76 (Nat.le_of_ble_eq_true rfl) rfl rfl rfl) ?_
    rfl
theorem q213_78 (C : am_C) (σ : am_M) (v1 v2 v3 v4 : Int32) : am_go am_X0 C M213 78 [.ref 34, .int v1, .int v2, .int v3, .int v4] [] σ = if v4 = (-1) then (am_go am_X0 C M213 90 [.ref 34, .int v1, .int v2, .int v3, .int v4] [.int (nI 2), .ref 34] σ) else (am_go am_X0 C M213 90 [.ref 34, .int v1, .int v2, .int v3, .int v4] [.int (nI 0), .ref 34] σ) := by
  refine Eq.trans (g_A dX10_openSteps_78 rfl rfl) ?_
  refine Eq.trans (g_A dX10_openSteps_79 rfl rfl) ?_
  refine Eq.trans (g_K (v := (-1)) dX10_openSteps_81 rfl rfl) ?_
  refine Eq.trans (g_icne (t := 89) dX10_openSteps_82 rfl rfl) ?_
  refine am_ite ?_ ?_
  · refine Eq.trans (g_K (v := nI 2) dX10_openSteps_85 rfl rfl) ?_
    refine Eq.trans (g_goto (pc' := 90) dX10_openSteps_86 rfl) ?_
    rfl
  · refine Eq.trans (g_K (v := nI 0) dX10_openSteps_89 rfl rfl) ?_
    rfl
theorem q213_90 (C : am_C) (σ : am_M) (v1 v2 v3 v4 s0 : Int32) : am_go am_X0 C M213 90 [.ref 34, .int v1, .int v2, .int v3, .int v4] [.int s0, .ref 34] σ = if ((am_wI σ 34 25 s0).1 34 25) ≤ (nI 0) then (some (.inl (some (.int v4)), am_wI σ 34 25 s0)) else (some (.inl (some (.int (nI 0))), am_wI σ 34 25 s0)) := by
  refine Eq.trans (g_put dX10_openSteps_90 f13 sh34 rfl rfl rfl) ?_
  refine Eq.trans (g_A dX10_openSteps_93 rfl rfl) ?_
  refine Eq.trans (g_getI dX10_openSteps_94 f13 sh34 rfl rfl) ?_
  refine Eq.trans (g_ifle (t := 104) dX10_openSteps_97 rfl rfl) ?_
  refine am_ite ?_ ?_
  · refine Eq.trans (g_A dX10_openSteps_104 rfl rfl) ?_
    exact g_iret dX10_openSteps_106 rfl
  · refine Eq.trans (g_K (v := nI 0) dX10_openSteps_100 rfl rfl) ?_
    refine Eq.trans (g_goto (pc' := 106) dX10_openSteps_101 rfl) ?_
    exact g_iret dX10_openSteps_106 rfl
theorem q214_0 (C : am_C) (σ : am_M) (v1 v2 : Int32) : am_go am_X0 C M214 0 [.ref 34, .int v1, .int v2, .null, .null, .null, .null, .null, .null] [] σ = am_bI (C 208 [.int v1] σ) (fun r1 t1 => if r1 = nI 0 then (am_go am_X0 C M214 20 [.ref 34, .int v1, .int v2, .null, .null, .null, .null, .null, .null] [.ref 34] t1) else (am_bI (C 185 [.ref 34, .int v2] t1) (fun r2 t2 => if r2 = nI 0 then (am_go am_X0 C M214 20 [.ref 34, .int v1, .int v2, .null, .null, .null, .null, .null, .null] [.ref 34] t2) else (am_go am_X0 C M214 21 [.ref 34, .int v1, .int v2, .null, .null, .null, .null, .null, .null] [.int (nI 0), .ref 34] t2)))) := by
  refine Eq.trans (g_A dX10_exposedBy_0 rfl rfl) ?_
  refine Eq.trans (g_A dX10_exposedBy_1 rfl rfl) ?_
  refine Eq.trans (g_sI (as := [.int v1]) (rest := [.ref 34]) dX10_exposedBy_2 rfl cl120 m208 rfl rfl rfl rfl (Nat.le_of_ble_eq_true rfl) rfl rfl rfl) ?_
  refine am_bI_c (fun r1 t1 => ?_)
  refine Eq.trans (g_ifeq (t := 20) dX10_exposedBy_5 rfl rfl) ?_
  refine am_ite ?_ ?_
  · rfl
  · refine Eq.trans (g_A dX10_exposedBy_8 rfl rfl) ?_
    refine Eq.trans (g_A dX10_exposedBy_9 rfl rfl) ?_
    refine Eq.trans (g_vI (a := 34) (as := [.int v2]) (rest := [.ref 34]) dX10_exposedBy_10 cl124 m185 rfl rfl rfl rfl (Nat.le_of_ble_eq_true rfl) rfl rfl rfl rfl) ?_
    refine am_bI_c (fun r2 t2 => ?_)
    refine Eq.trans (g_ifeq (t := 20) dX10_exposedBy_13 rfl rfl) ?_
    refine am_ite ?_ ?_
    · rfl
    · refine Eq.trans (g_K (v := nI 0) dX10_exposedBy_16 rfl rfl) ?_
      refine Eq.trans (g_goto (pc' := 21) dX10_exposedBy_17 rfl) ?_
      rfl
theorem q214_20 (C : am_C) (σ : am_M) (v1 v2 : Int32) : am_go am_X0 C M214 20 [.ref 34, .int v1, .int v2, .null, .null, .null, .null, .null, .null] [.ref 34] σ = am_go am_X0 C M214 21 [.ref 34, .int v1, .int v2, .null, .null, .null, .null, .null, .null] [.int (nI 1), .ref 34] σ := by
  refine Eq.trans (g_K (v := nI 1) dX10_exposedBy_20 rfl rfl) ?_
  rfl
theorem q214_21 (C : am_C) (σ : am_M) (v1 v2 s0 : Int32) : am_go am_X0 C M214 21 [.ref 34, .int v1, .int v2, .null, .null, .null, .null, .null, .null] [.int s0, .ref 34] σ = if (nI 0) < ((am_wI σ 34 25 s0).1 34 25) then (some (.inl (some (.int (nI 0))), am_wI σ 34 25 s0)) else (if am_in v1 4 = true then (if (am_wI σ 34 25 s0).1 39 (v1 : Int32).toNatClampNeg = nI 0 then (some (.inl (some (.int (nI 0))), am_wI σ 34 25 s0)) else (if am_in v1 4 = true then (am_bV (C 196 [.ref 34, .int ((am_wI (am_wI σ 34 25 s0) 34 27 (nI 0)).1 39 (v1 : Int32).toNatClampNeg)] (am_wI (am_wI σ 34 25 s0) 34 27 (nI 0))) (fun t1 => if am_in v2 8 = true then (am_go am_X0 C M214 76 [.ref 34, .int v1, .int v2, .int ((nI 150) * v2), .int (((nI 150) * v2) + (t1.1 45 (v2 : Int32).toNatClampNeg)), .int (-1), .null, .null, .null] [] t1) else none)) else none)) else none) := by
  refine Eq.trans (g_put dX10_exposedBy_21 f13 sh34 rfl rfl rfl) ?_
  refine Eq.trans (g_A dX10_exposedBy_24 rfl rfl) ?_
  refine Eq.trans (g_getI dX10_exposedBy_25 f13 sh34 rfl rfl) ?_
  refine Eq.trans (g_ifgt (t := 40) dX10_exposedBy_28 rfl rfl) ?_
  refine am_ite ?_ ?_
  · refine Eq.trans (g_K (v := nI 0) dX10_exposedBy_40 rfl rfl) ?_
    exact g_iret dX10_exposedBy_41 rfl
  · refine Eq.trans (g_A dX10_exposedBy_31 rfl rfl) ?_
    refine Eq.trans (g_getR dX10_exposedBy_32 f19 sh34 rfl rfl) ?_
    refine Eq.trans (g_A dX10_exposedBy_35 rfl rfl) ?_
    refine Eq.trans (g_iald dX10_exposedBy_36 sh39 rfl) ?_
    refine am_ite ?_ rfl
    refine Eq.trans (g_ifne (t := 42) dX10_exposedBy_37 rfl rfl) ?_
    refine am_ite ?_ ?_
    · refine Eq.trans (g_K (v := nI 0) dX10_exposedBy_40 rfl rfl) ?_
      exact g_iret dX10_exposedBy_41 rfl
    · refine Eq.trans (g_A dX10_exposedBy_42 rfl rfl) ?_
      refine Eq.trans (g_K (v := nI 0) dX10_exposedBy_43 rfl rfl) ?_
      refine Eq.trans (g_put dX10_exposedBy_44 f31 sh34 rfl rfl rfl) ?_
      refine Eq.trans (g_A dX10_exposedBy_47 rfl rfl) ?_
      refine Eq.trans (g_A dX10_exposedBy_48 rfl rfl) ?_
      refine Eq.trans (g_getR dX10_exposedBy_49 f19 sh34 rfl rfl) ?_
      refine Eq.trans (g_A dX10_exposedBy_52 rfl rfl) ?_
      refine Eq.trans (g_iald dX10_exposedBy_53 sh39 rfl) ?_
      refine am_ite ?_ rfl
      refine Eq.trans (g_vV (a := 34) (as := [.int ((am_wI (am_wI σ 34 25 s0) 34 27 (nI 0)).1 39 (v1 : Int32).toNatClampNeg)]) (rest := []) dX10_exposedBy_54 cl109 m196 rfl rfl rfl rfl (Nat.le_of_ble_eq_true rfl) rfl rfl rfl rfl) ?_
      refine am_bV_c (fun t1 => ?_)
      refine Eq.trans (g_K (v := nI 150) dX10_exposedBy_57 rfl rfl) ?_
      refine Eq.trans (g_A dX10_exposedBy_60 rfl rfl) ?_
      refine Eq.trans (g_imul dX10_exposedBy_61 rfl) ?_
      refine Eq.trans (g_isn (k := 3) dX10_exposedBy_62 rfl (Nat.le_of_ble_eq_true rfl) rfl rfl rfl) ?_
      refine Eq.trans (g_A dX10_exposedBy_63 rfl rfl) ?_
      refine Eq.trans (g_A dX10_exposedBy_64 rfl rfl) ?_
      refine Eq.trans (g_getR dX10_exposedBy_65 f22 sh34 rfl rfl) ?_
      refine Eq.trans (g_A dX10_exposedBy_68 rfl rfl) ?_
      refine Eq.trans (g_iald dX10_exposedBy_69 sh45 rfl) ?_
      refine am_ite ?_ rfl
      refine Eq.trans (g_iadd dX10_exposedBy_70 rfl) ?_
      refine Eq.trans (g_ist (k := 4) dX10_exposedBy_71 (Nat.le_of_ble_eq_true rfl) rfl rfl rfl) ?_
      refine Eq.trans (g_K (v := (-1)) dX10_exposedBy_73 rfl rfl) ?_
      refine Eq.trans (g_ist (k := 5) dX10_exposedBy_74 (Nat.le_of_ble_eq_true rfl) rfl rfl rfl) ?_
      rfl
theorem q214_76 (C : am_C) (σ : am_M) (v1 v2 v3 v4 v5 : Int32) {u6 : Value} (hu6 : (!(u6.category == 2)) = true) : am_go am_X0 C M214 76 [.ref 34, .int v1, .int v2, .int v3, .int v4, .int v5, u6, .null, .null] [] σ = if v5 = σ.1 34 27 then (am_go am_X0 C M214 151 [.ref 34, .int v1, .int v2, .int v3, .int v4, .int (nI 0), .int (nI 0), .null, .null] [] σ) else (am_go am_X0 C M214 94 [.ref 34, .int v1, .int v2, .int v3, .int v4, .int (σ.1 34 27), .int v3, .null, .null] [] σ) := by
  refine Eq.trans (g_A dX10_exposedBy_76 rfl rfl) ?_
  refine Eq.trans (g_A dX10_exposedBy_78 rfl rfl) ?_
  refine Eq.trans (g_getI dX10_exposedBy_79 f31 sh34 rfl rfl) ?_
  refine Eq.trans (g_iceq (t := 145) dX10_exposedBy_82 rfl rfl) ?_
  refine am_ite ?_ ?_
  · refine Eq.trans (g_K (v := nI 0) dX10_exposedBy_145 rfl rfl) ?_
    refine Eq.trans (g_ist (k := 5) dX10_exposedBy_146 (Nat.le_of_ble_eq_true rfl) rfl rfl rfl) ?_
    refine Eq.trans (g_K (v := nI 0) dX10_exposedBy_148 rfl rfl) ?_
    refine Eq.trans (g_ist (k := 6) dX10_exposedBy_149 (Nat.le_of_ble_eq_true rfl) rfl rfl rfl) ?_
    rfl
  · refine Eq.trans (g_A dX10_exposedBy_85 rfl rfl) ?_
    refine Eq.trans (g_getI dX10_exposedBy_86 f31 sh34 rfl rfl) ?_
    refine Eq.trans (g_ist (k := 5) dX10_exposedBy_89 (Nat.le_of_ble_eq_true rfl) rfl rfl rfl) ?_
    refine Eq.trans (g_A dX10_exposedBy_91 rfl rfl) ?_
    refine Eq.trans (g_ist (k := 6) dX10_exposedBy_92 (Nat.le_of_ble_eq_true rfl) rfl rfl rfl) ?_
    rfl
theorem q214_94 (C : am_C) (σ : am_M) (v1 v2 v3 v4 v5 v6 : Int32) : am_go am_X0 C M214 94 [.ref 34, .int v1, .int v2, .int v3, .int v4, .int v5, .int v6, .null, .null] [] σ = if v4 ≤ v6 then (am_go am_X0 C M214 76 [.ref 34, .int v1, .int v2, .int v3, .int v4, .int v5, .int v6, .null, .null] [] σ) else (if am_in v6 1200 = true then (if σ.1 46 (v6 : Int32).toNatClampNeg = nI 0 then (if am_in v6 1200 = true then (am_bI (C 195 [.ref 34, .int (σ.1 48 (v6 : Int32).toNatClampNeg)] σ) (fun r1 t1 => if r1 = nI 0 then (am_go am_X0 C M214 94 [.ref 34, .int v1, .int v2, .int v3, .int v4, .int v5, .int (v6 + nI 1), .null, .null] [] t1) else (if am_in v6 1200 = true then (am_bV (C 196 [.ref 34, .int (t1.1 47 (v6 : Int32).toNatClampNeg)] t1) (fun t2 => am_go am_X0 C M214 94 [.ref 34, .int v1, .int v2, .int v3, .int v4, .int v5, .int (v6 + nI 1), .null, .null] [] t2)) else none))) else none) else (am_go am_X0 C M214 94 [.ref 34, .int v1, .int v2, .int v3, .int v4, .int v5, .int (v6 + nI 1), .null, .null] [] σ)) else none) := by
  refine Eq.trans (g_A dX10_exposedBy_94 rfl rfl) ?_
  refine Eq.trans (g_A dX10_exposedBy_96 rfl rfl) ?_
  refine Eq.trans (g_icge (t := 142) dX10_exposedBy_98 rfl rfl) ?_
  refine am_ite ?_ ?_
  · refine Eq.trans (g_goto (pc' := 76) dX10_exposedBy_142 rfl) ?_
    rfl
  · refine Eq.trans (g_A dX10_exposedBy_101 rfl rfl) ?_
    refine Eq.trans (g_getR dX10_exposedBy_102 f27 sh34 rfl rfl) ?_
    refine Eq.trans (g_A dX10_exposedBy_105 rfl rfl) ?_
    refine Eq.trans (g_iald dX10_exposedBy_107 sh46 rfl) ?_
    refine am_ite ?_ rfl
    refine Eq.trans (g_ifne (t := 136) dX10_exposedBy_108 rfl rfl) ?_
    refine am_ite ?_ ?_
    · refine Eq.trans (g_A dX10_exposedBy_111 rfl rfl) ?_
      refine Eq.trans (g_A dX10_exposedBy_112 rfl rfl) ?_
      refine Eq.trans (g_getR dX10_exposedBy_113 f29 sh34 rfl rfl) ?_
      refine Eq.trans (g_A dX10_exposedBy_116 rfl rfl) ?_
      refine Eq.trans (g_iald dX10_exposedBy_118 sh48 rfl) ?_
      refine am_ite ?_ rfl
      refine Eq.trans (g_vI (a := 34) (as := [.int (σ.1 48 (v6 : Int32).toNatClampNeg)]) (rest := []) dX10_exposedBy_119 cl108 m195 rfl rfl rfl rfl (Nat.le_of_ble_eq_true rfl) rfl rfl rfl rfl) ?_
      refine am_bI_c (fun r1 t1 => ?_)
      refine Eq.trans (g_ifeq (t := 136) dX10_exposedBy_122 rfl rfl) ?_
      refine am_ite ?_ ?_
      · refine Eq.trans (g_inc (v := v6 + nI 1) dX10_exposedBy_136 rfl (Nat.le_of_ble_eq_true rfl) rfl rfl rfl rfl) ?_
        refine Eq.trans (g_goto (pc' := 94) dX10_exposedBy_139 rfl) ?_
        rfl
      · refine Eq.trans (g_A dX10_exposedBy_125 rfl rfl) ?_
        refine Eq.trans (g_A dX10_exposedBy_126 rfl rfl) ?_
        refine Eq.trans (g_getR dX10_exposedBy_127 f28 sh34 rfl rfl) ?_
        refine Eq.trans (g_A dX10_exposedBy_130 rfl rfl) ?_
        refine Eq.trans (g_iald dX10_exposedBy_132 sh47 rfl) ?_
        refine am_ite ?_ rfl
        refine Eq.trans (g_vV (a := 34) (as := [.int (t1.1 47 (v6 : Int32).toNatClampNeg)]) (rest := []) dX10_exposedBy_133 cl109 m196 rfl rfl rfl rfl (Nat.le_of_ble_eq_true rfl) rfl rfl rfl rfl) ?_
        refine am_bV_c (fun t2 => ?_)
        refine Eq.trans (g_inc (v := v6 + nI 1) dX10_exposedBy_136 rfl (Nat.le_of_ble_eq_true rfl) rfl rfl rfl rfl) ?_
        refine Eq.trans (g_goto (pc' := 94) dX10_exposedBy_139 rfl) ?_
        rfl
    · refine Eq.trans (g_inc (v := v6 + nI 1) dX10_exposedBy_136 rfl (Nat.le_of_ble_eq_true rfl) rfl rfl rfl rfl) ?_
      refine Eq.trans (g_goto (pc' := 94) dX10_exposedBy_139 rfl) ?_
      rfl
theorem q214_151 (C : am_C) (σ : am_M) (v1 v2 v3 v4 v5 v6 : Int32) {u7 : Value} (hu7 : (!(u7.category == 2)) = true) {u8 : Value} (hu8 : (!(u8.category == 2)) = true) : am_go am_X0 C M214 151 [.ref 34, .int v1, .int v2, .int v3, .int v4, .int v5, .int v6, u7, u8] [] σ = if (σ.1 34 23) ≤ v6 then (some (.inl (some (.int v5)), σ)) else (am_go am_X0 C M214 166 [.ref 34, .int v1, .int v2, .int v3, .int v4, .int v5, .int v6, .int (nI 0), .int v3] [] σ) := by
  refine Eq.trans (g_A dX10_exposedBy_151 rfl rfl) ?_
  refine Eq.trans (g_A dX10_exposedBy_153 rfl rfl) ?_
  refine Eq.trans (g_getI dX10_exposedBy_154 f25 sh34 rfl rfl) ?_
  refine Eq.trans (g_icge (t := 249) dX10_exposedBy_157 rfl rfl) ?_
  refine am_ite ?_ ?_
  · refine Eq.trans (g_A dX10_exposedBy_249 rfl rfl) ?_
    exact g_iret dX10_exposedBy_251 rfl
  · refine Eq.trans (g_K (v := nI 0) dX10_exposedBy_160 rfl rfl) ?_
    refine Eq.trans (g_ist (k := 7) dX10_exposedBy_161 (Nat.le_of_ble_eq_true rfl) rfl rfl rfl) ?_
    refine Eq.trans (g_A dX10_exposedBy_163 rfl rfl) ?_
    refine Eq.trans (g_ist (k := 8) dX10_exposedBy_164 (Nat.le_of_ble_eq_true rfl) rfl rfl rfl) ?_
    rfl
theorem q214_166 (C : am_C) (σ : am_M) (v1 v2 v3 v4 v5 v6 v7 v8 : Int32) : am_go am_X0 C M214 166 [.ref 34, .int v1, .int v2, .int v3, .int v4, .int v5, .int v6, .int v7, .int v8] [] σ = if v4 ≤ v8 then (am_go am_X0 C M214 228 [.ref 34, .int v1, .int v2, .int v3, .int v4, .int v5, .int v6, .int v7, .int v8] [] σ) else (if v7 = nI 0 then (if am_in v8 1200 = true then (if σ.1 46 (v8 : Int32).toNatClampNeg = nI 1 then (if am_in v8 1200 = true then (if σ.1 47 (v8 : Int32).toNatClampNeg = v6 then (if am_in v8 1200 = true then (am_bI (C 195 [.ref 34, .int (σ.1 48 (v8 : Int32).toNatClampNeg)] σ) (fun r1 t1 => if r1 = nI 0 then (am_go am_X0 C M214 166 [.ref 34, .int v1, .int v2, .int v3, .int v4, .int v5, .int v6, .int (nI 0), .int (v8 + nI 1)] [] t1) else (am_go am_X0 C M214 166 [.ref 34, .int v1, .int v2, .int v3, .int v4, .int v5, .int v6, .int (nI 1), .int (v8 + nI 1)] [] t1))) else none) else (am_go am_X0 C M214 166 [.ref 34, .int v1, .int v2, .int v3, .int v4, .int v5, .int v6, .int (nI 0), .int (v8 + nI 1)] [] σ)) else none) else (am_go am_X0 C M214 166 [.ref 34, .int v1, .int v2, .int v3, .int v4, .int v5, .int v6, .int (nI 0), .int (v8 + nI 1)] [] σ)) else none) else (am_go am_X0 C M214 228 [.ref 34, .int v1, .int v2, .int v3, .int v4, .int v5, .int v6, .int v7, .int v8] [] σ)) := by
  refine Eq.trans (g_A dX10_exposedBy_166 rfl rfl) ?_
  refine Eq.trans (g_A dX10_exposedBy_168 rfl rfl) ?_
  refine Eq.trans (g_icge (t := 228) dX10_exposedBy_170 rfl rfl) ?_
  refine am_ite ?_ ?_
  · rfl
  · refine Eq.trans (g_A dX10_exposedBy_173 rfl rfl) ?_
    refine Eq.trans (g_ifne (t := 228) dX10_exposedBy_175 rfl rfl) ?_
    refine am_ite ?_ ?_
    · refine Eq.trans (g_A dX10_exposedBy_178 rfl rfl) ?_
      refine Eq.trans (g_getR dX10_exposedBy_179 f27 sh34 rfl rfl) ?_
      refine Eq.trans (g_A dX10_exposedBy_182 rfl rfl) ?_
      refine Eq.trans (g_iald dX10_exposedBy_184 sh46 rfl) ?_
      refine am_ite ?_ rfl
      refine Eq.trans (g_K (v := nI 1) dX10_exposedBy_185 rfl rfl) ?_
      refine Eq.trans (g_icne (t := 219) dX10_exposedBy_186 rfl rfl) ?_
      refine am_ite ?_ ?_
      · refine Eq.trans (g_A dX10_exposedBy_189 rfl rfl) ?_
        refine Eq.trans (g_getR dX10_exposedBy_190 f28 sh34 rfl rfl) ?_
        refine Eq.trans (g_A dX10_exposedBy_193 rfl rfl) ?_
        refine Eq.trans (g_iald dX10_exposedBy_195 sh47 rfl) ?_
        refine am_ite ?_ rfl
        refine Eq.trans (g_A dX10_exposedBy_196 rfl rfl) ?_
        refine Eq.trans (g_icne (t := 219) dX10_exposedBy_198 rfl rfl) ?_
        refine am_ite ?_ ?_
        · refine Eq.trans (g_A dX10_exposedBy_201 rfl rfl) ?_
          refine Eq.trans (g_A dX10_exposedBy_202 rfl rfl) ?_
          refine Eq.trans (g_getR dX10_exposedBy_203 f29 sh34 rfl rfl) ?_
          refine Eq.trans (g_A dX10_exposedBy_206 rfl rfl) ?_
          refine Eq.trans (g_iald dX10_exposedBy_208 sh48 rfl) ?_
          refine am_ite ?_ rfl
          refine Eq.trans (g_vI (a := 34) (as := [.int (σ.1 48 (v8 : Int32).toNatClampNeg)]) (rest := []) dX10_exposedBy_209 cl108 m195 rfl rfl rfl rfl (Nat.le_of_ble_eq_true rfl) rfl rfl rfl rfl) ?_
          refine am_bI_c (fun r1 t1 => ?_)
          refine Eq.trans (g_ifeq (t := 219) dX10_exposedBy_212 rfl rfl) ?_
          refine am_ite ?_ ?_
          · refine Eq.trans (g_K (v := nI 0) dX10_exposedBy_219 rfl rfl) ?_
            refine Eq.trans (g_ist (k := 7) dX10_exposedBy_220 (Nat.le_of_ble_eq_true rfl) rfl rfl rfl) ?_
            refine Eq.trans (g_inc (v := v8 + nI 1) dX10_exposedBy_222 rfl (Nat.le_of_ble_eq_true rfl) rfl rfl rfl rfl) ?_
            refine Eq.trans (g_goto (pc' := 166) dX10_exposedBy_225 rfl) ?_
            rfl
          · refine Eq.trans (g_K (v := nI 1) dX10_exposedBy_215 rfl rfl) ?_
            refine Eq.trans (g_goto (pc' := 220) dX10_exposedBy_216 rfl) ?_
            refine Eq.trans (g_ist (k := 7) dX10_exposedBy_220 (Nat.le_of_ble_eq_true rfl) rfl rfl rfl) ?_
            refine Eq.trans (g_inc (v := v8 + nI 1) dX10_exposedBy_222 rfl (Nat.le_of_ble_eq_true rfl) rfl rfl rfl rfl) ?_
            refine Eq.trans (g_goto (pc' := 166) dX10_exposedBy_225 rfl) ?_
            rfl
        · refine Eq.trans (g_K (v := nI 0) dX10_exposedBy_219 rfl rfl) ?_
          refine Eq.trans (g_ist (k := 7) dX10_exposedBy_220 (Nat.le_of_ble_eq_true rfl) rfl rfl rfl) ?_
          refine Eq.trans (g_inc (v := v8 + nI 1) dX10_exposedBy_222 rfl (Nat.le_of_ble_eq_true rfl) rfl rfl rfl rfl) ?_
          refine Eq.trans (g_goto (pc' := 166) dX10_exposedBy_225 rfl) ?_
          rfl
      · refine Eq.trans (g_K (v := nI 0) dX10_exposedBy_219 rfl rfl) ?_
        refine Eq.trans (g_ist (k := 7) dX10_exposedBy_220 (Nat.le_of_ble_eq_true rfl) rfl rfl rfl) ?_
        refine Eq.trans (g_inc (v := v8 + nI 1) dX10_exposedBy_222 rfl (Nat.le_of_ble_eq_true rfl) rfl rfl rfl rfl) ?_
        refine Eq.trans (g_goto (pc' := 166) dX10_exposedBy_225 rfl) ?_
        rfl
    · rfl
theorem q214_228 (C : am_C) (σ : am_M) (v1 v2 v3 v4 v5 v6 v7 v8 : Int32) : am_go am_X0 C M214 228 [.ref 34, .int v1, .int v2, .int v3, .int v4, .int v5, .int v6, .int v7, .int v8] [] σ = if v7 = nI 0 then (am_go am_X0 C M214 151 [.ref 34, .int v1, .int v2, .int v3, .int v4, .int (v5 + (nI 0)), .int (v6 + nI 1), .int v7, .int v8] [] σ) else (am_go am_X0 C M214 151 [.ref 34, .int v1, .int v2, .int v3, .int v4, .int (v5 + (nI 1)), .int (v6 + nI 1), .int v7, .int v8] [] σ) := by
  refine Eq.trans (g_A dX10_exposedBy_228 rfl rfl) ?_
  refine Eq.trans (g_A dX10_exposedBy_230 rfl rfl) ?_
  refine Eq.trans (g_ifeq (t := 239) dX10_exposedBy_232 rfl rfl) ?_
  refine am_ite ?_ ?_
  · refine Eq.trans (g_K (v := nI 0) dX10_exposedBy_239 rfl rfl) ?_
    refine Eq.trans (g_iadd dX10_exposedBy_240 rfl) ?_
    refine Eq.trans (g_ist (k := 5) dX10_exposedBy_241 (Nat.le_of_ble_eq_true rfl) rfl rfl rfl) ?_
    refine Eq.trans (g_inc (v := v6 + nI 1) dX10_exposedBy_243 rfl (Nat.le_of_ble_eq_true rfl) rfl rfl rfl rfl) ?_
    refine Eq.trans (g_goto (pc' := 151) dX10_exposedBy_246 rfl) ?_
    rfl
  · refine Eq.trans (g_K (v := nI 1) dX10_exposedBy_235 rfl rfl) ?_
    refine Eq.trans (g_goto (pc' := 240) dX10_exposedBy_236 rfl) ?_
    refine Eq.trans (g_iadd dX10_exposedBy_240 rfl) ?_
    refine Eq.trans (g_ist (k := 5) dX10_exposedBy_241 (Nat.le_of_ble_eq_true rfl) rfl rfl rfl) ?_
    refine Eq.trans (g_inc (v := v6 + nI 1) dX10_exposedBy_243 rfl (Nat.le_of_ble_eq_true rfl) rfl rfl rfl rfl) ?_
    refine Eq.trans (g_goto (pc' := 151) dX10_exposedBy_246 rfl) ?_
    rfl
