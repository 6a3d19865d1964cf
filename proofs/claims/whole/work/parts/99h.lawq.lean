/-! the law's rows -/
abbrev ML : am_Mt := (yL_law, cL_law, 8, (some .boolean), [], 1)
section SCR
variable {X : am_X} {C : am_C} {M : am_Mt} {pc pc' : Nat} {lv r : List Value} {σ : am_M}
theorem g_scld {j : Int32} (h : decode M.2.1 pc = .ok (.iaload, 1)) (hp : pc + 1 = pc') : am_go X C M pc lv (.int j :: .ref 1001 :: r) σ = if am_in j (X.1 - 1) = true then am_go X C M pc' lv (.int (X.2 j.toNatClampNeg) :: r) σ else none := by
  have hs : am_sh[1001]? = none := by decide
  have h0 : ((1001 : Nat) == 1000) = false := by decide
  by_cases hj : am_in j (X.1 - 1) = true
  · rw [if_pos hj]
    refine g_D h rfl rfl rfl ?_ hp
    simp [am_fD, am_rd, hs, hj, h0, am_oI]
  · rw [if_neg hj]
    refine g_D0 h rfl rfl rfl ?_ rfl
    simp only [Bool.not_eq_true] at hj
    simp [am_fD, am_rd, hs, hj, h0, am_oI]
theorem g_sclen (h : decode M.2.1 pc = .ok (.arraylength, 1)) (hX : 0 < X.1) (hp : pc + 1 = pc') : am_go X C M pc lv (.ref 1001 :: r) σ = am_go X C M pc' lv (.int (nI (X.1 - 1)) :: r) σ := by
  have hs : am_sh[1001]? = none := by decide
  refine g_D h rfl rfl rfl ?_ hp
  simp [am_fD, am_len, hs, hX, am_oI]
end SCR
theorem ql_20 {Xs : am_X} (hX : 0 < Xs.1) (C : am_C) (σ : am_M) : am_go Xs C ML 20 [.ref 1001, .ref 0, .ref 34, .ref 57, .null, .null, .null, .null] [] σ = am_go Xs C ML 23 [.ref 1001, .ref 0, .ref 34, .ref 57, .int (nI 0), .null, .null, .null] [] σ := by
  refine Eq.trans (g_K (v := nI 0) dL_law_20 rfl rfl) ?_
  refine Eq.trans (g_ist (k := 4) dL_law_21 (Nat.le_of_ble_eq_true rfl) rfl rfl rfl) ?_
  rfl
theorem ql_23 {Xs : am_X} (hX : 0 < Xs.1) (C : am_C) (σ : am_M) (v4 : Int32) {u5 : Value} {u6 : Value} : am_go Xs C ML 23 [.ref 1001, .ref 0, .ref 34, .ref 57, .int v4, u5, u6, .null] [] σ = if ((nI (Xs.1 - 1)) - (nI 4)) < v4 then (some (.inl (some (.int (nI 1))), σ)) else (if am_in v4 (Xs.1 - 1) = true then (am_go Xs C ML 39 [.ref 1001, .ref 0, .ref 34, .ref 57, .int v4, u5, u6, .null] [.int ((Xs.2 (v4 : Int32).toNatClampNeg) &&& (nI 63))] σ) else none) := by
  refine Eq.trans (g_A dL_law_23 rfl rfl) ?_
  refine Eq.trans (g_A dL_law_25 rfl rfl) ?_
  refine Eq.trans (g_sclen dL_law_26 hX rfl) ?_
  refine Eq.trans (g_K (v := nI 4) dL_law_27 rfl rfl) ?_
  refine Eq.trans (g_isub dL_law_28 rfl) ?_
  refine Eq.trans (g_icgt (t := 2791) dL_law_29 rfl rfl) ?_
  refine am_ite ?_ ?_
  · refine Eq.trans (g_K (v := nI 1) dL_law_2791 rfl rfl) ?_
    exact g_zl dL_law_2792 rfl (Or.inr rfl)
  · refine Eq.trans (g_A dL_law_32 rfl rfl) ?_
    refine Eq.trans (g_A dL_law_33 rfl rfl) ?_
    refine Eq.trans (g_scld dL_law_35 rfl) ?_
    refine am_ite ?_ rfl
    refine Eq.trans (g_K (v := nI 63) dL_law_36 rfl rfl) ?_
    refine Eq.trans (g_iand dL_law_38 rfl) ?_
    rfl
theorem ql_39_0 {Xs : am_X} (hX : 0 < Xs.1) (C : am_C) (σ : am_M) (v4 : Int32) {u5 : Value} {u6 : Value} : am_go Xs C ML 39 [.ref 1001, .ref 0, .ref 34, .ref 57, .int v4, u5, u6, .null] [.int (nI 0)] σ = am_go Xs C ML 236 [.ref 1001, .ref 0, .ref 34, .ref 57, .int v4, u5, u6, .null] [] σ := g_ts (i := 0) dL_law_39 (by decide +kernel) (by decide) rfl rfl
theorem ql_39_1 {Xs : am_X} (hX : 0 < Xs.1) (C : am_C) (σ : am_M) (v4 : Int32) {u5 : Value} {u6 : Value} : am_go Xs C ML 39 [.ref 1001, .ref 0, .ref 34, .ref 57, .int v4, u5, u6, .null] [.int (nI 1)] σ = am_go Xs C ML 259 [.ref 1001, .ref 0, .ref 34, .ref 57, .int v4, u5, u6, .null] [] σ := g_ts (i := 1) dL_law_39 (by decide +kernel) (by decide) rfl rfl
theorem ql_39_2 {Xs : am_X} (hX : 0 < Xs.1) (C : am_C) (σ : am_M) (v4 : Int32) {u5 : Value} {u6 : Value} : am_go Xs C ML 39 [.ref 1001, .ref 0, .ref 34, .ref 57, .int v4, u5, u6, .null] [.int (nI 2)] σ = am_go Xs C ML 359 [.ref 1001, .ref 0, .ref 34, .ref 57, .int v4, u5, u6, .null] [] σ := g_ts (i := 2) dL_law_39 (by decide +kernel) (by decide) rfl rfl
theorem ql_39_3 {Xs : am_X} (hX : 0 < Xs.1) (C : am_C) (σ : am_M) (v4 : Int32) {u5 : Value} {u6 : Value} : am_go Xs C ML 39 [.ref 1001, .ref 0, .ref 34, .ref 57, .int v4, u5, u6, .null] [.int (nI 3)] σ = am_go Xs C ML 414 [.ref 1001, .ref 0, .ref 34, .ref 57, .int v4, u5, u6, .null] [] σ := g_ts (i := 3) dL_law_39 (by decide +kernel) (by decide) rfl rfl
theorem ql_39_4 {Xs : am_X} (hX : 0 < Xs.1) (C : am_C) (σ : am_M) (v4 : Int32) {u5 : Value} {u6 : Value} : am_go Xs C ML 39 [.ref 1001, .ref 0, .ref 34, .ref 57, .int v4, u5, u6, .null] [.int (nI 4)] σ = am_go Xs C ML 470 [.ref 1001, .ref 0, .ref 34, .ref 57, .int v4, u5, u6, .null] [] σ := g_ts (i := 4) dL_law_39 (by decide +kernel) (by decide) rfl rfl
theorem ql_39_5 {Xs : am_X} (hX : 0 < Xs.1) (C : am_C) (σ : am_M) (v4 : Int32) {u5 : Value} {u6 : Value} : am_go Xs C ML 39 [.ref 1001, .ref 0, .ref 34, .ref 57, .int v4, u5, u6, .null] [.int (nI 5)] σ = am_go Xs C ML 526 [.ref 1001, .ref 0, .ref 34, .ref 57, .int v4, u5, u6, .null] [] σ := g_ts (i := 5) dL_law_39 (by decide +kernel) (by decide) rfl rfl
theorem ql_39_6 {Xs : am_X} (hX : 0 < Xs.1) (C : am_C) (σ : am_M) (v4 : Int32) {u5 : Value} {u6 : Value} : am_go Xs C ML 39 [.ref 1001, .ref 0, .ref 34, .ref 57, .int v4, u5, u6, .null] [.int (nI 6)] σ = am_go Xs C ML 582 [.ref 1001, .ref 0, .ref 34, .ref 57, .int v4, u5, u6, .null] [] σ := g_ts (i := 6) dL_law_39 (by decide +kernel) (by decide) rfl rfl
theorem ql_39_7 {Xs : am_X} (hX : 0 < Xs.1) (C : am_C) (σ : am_M) (v4 : Int32) {u5 : Value} {u6 : Value} : am_go Xs C ML 39 [.ref 1001, .ref 0, .ref 34, .ref 57, .int v4, u5, u6, .null] [.int (nI 7)] σ = am_go Xs C ML 638 [.ref 1001, .ref 0, .ref 34, .ref 57, .int v4, u5, u6, .null] [] σ := g_ts (i := 7) dL_law_39 (by decide +kernel) (by decide) rfl rfl
theorem ql_39_8 {Xs : am_X} (hX : 0 < Xs.1) (C : am_C) (σ : am_M) (v4 : Int32) {u5 : Value} {u6 : Value} : am_go Xs C ML 39 [.ref 1001, .ref 0, .ref 34, .ref 57, .int v4, u5, u6, .null] [.int (nI 8)] σ = am_go Xs C ML 705 [.ref 1001, .ref 0, .ref 34, .ref 57, .int v4, u5, u6, .null] [] σ := g_ts (i := 8) dL_law_39 (by decide +kernel) (by decide) rfl rfl
theorem ql_39_9 {Xs : am_X} (hX : 0 < Xs.1) (C : am_C) (σ : am_M) (v4 : Int32) {u5 : Value} {u6 : Value} : am_go Xs C ML 39 [.ref 1001, .ref 0, .ref 34, .ref 57, .int v4, u5, u6, .null] [.int (nI 9)] σ = am_go Xs C ML 773 [.ref 1001, .ref 0, .ref 34, .ref 57, .int v4, u5, u6, .null] [] σ := g_ts (i := 9) dL_law_39 (by decide +kernel) (by decide) rfl rfl
theorem ql_39_10 {Xs : am_X} (hX : 0 < Xs.1) (C : am_C) (σ : am_M) (v4 : Int32) {u5 : Value} {u6 : Value} : am_go Xs C ML 39 [.ref 1001, .ref 0, .ref 34, .ref 57, .int v4, u5, u6, .null] [.int (nI 10)] σ = am_go Xs C ML 841 [.ref 1001, .ref 0, .ref 34, .ref 57, .int v4, u5, u6, .null] [] σ := g_ts (i := 10) dL_law_39 (by decide +kernel) (by decide) rfl rfl
theorem ql_39_11 {Xs : am_X} (hX : 0 < Xs.1) (C : am_C) (σ : am_M) (v4 : Int32) {u5 : Value} {u6 : Value} : am_go Xs C ML 39 [.ref 1001, .ref 0, .ref 34, .ref 57, .int v4, u5, u6, .null] [.int (nI 11)] σ = am_go Xs C ML 909 [.ref 1001, .ref 0, .ref 34, .ref 57, .int v4, u5, u6, .null] [] σ := g_ts (i := 11) dL_law_39 (by decide +kernel) (by decide) rfl rfl
theorem ql_39_12 {Xs : am_X} (hX : 0 < Xs.1) (C : am_C) (σ : am_M) (v4 : Int32) {u5 : Value} {u6 : Value} : am_go Xs C ML 39 [.ref 1001, .ref 0, .ref 34, .ref 57, .int v4, u5, u6, .null] [.int (nI 12)] σ = am_go Xs C ML 965 [.ref 1001, .ref 0, .ref 34, .ref 57, .int v4, u5, u6, .null] [] σ := g_ts (i := 12) dL_law_39 (by decide +kernel) (by decide) rfl rfl
theorem ql_39_13 {Xs : am_X} (hX : 0 < Xs.1) (C : am_C) (σ : am_M) (v4 : Int32) {u5 : Value} {u6 : Value} : am_go Xs C ML 39 [.ref 1001, .ref 0, .ref 34, .ref 57, .int v4, u5, u6, .null] [.int (nI 13)] σ = am_go Xs C ML 1021 [.ref 1001, .ref 0, .ref 34, .ref 57, .int v4, u5, u6, .null] [] σ := g_ts (i := 13) dL_law_39 (by decide +kernel) (by decide) rfl rfl
theorem ql_39_14 {Xs : am_X} (hX : 0 < Xs.1) (C : am_C) (σ : am_M) (v4 : Int32) {u5 : Value} {u6 : Value} : am_go Xs C ML 39 [.ref 1001, .ref 0, .ref 34, .ref 57, .int v4, u5, u6, .null] [.int (nI 14)] σ = am_go Xs C ML 1112 [.ref 1001, .ref 0, .ref 34, .ref 57, .int v4, u5, u6, .null] [] σ := g_ts (i := 14) dL_law_39 (by decide +kernel) (by decide) rfl rfl
theorem ql_39_15 {Xs : am_X} (hX : 0 < Xs.1) (C : am_C) (σ : am_M) (v4 : Int32) {u5 : Value} {u6 : Value} : am_go Xs C ML 39 [.ref 1001, .ref 0, .ref 34, .ref 57, .int v4, u5, u6, .null] [.int (nI 15)] σ = am_go Xs C ML 1125 [.ref 1001, .ref 0, .ref 34, .ref 57, .int v4, u5, u6, .null] [] σ := g_ts (i := 15) dL_law_39 (by decide +kernel) (by decide) rfl rfl
theorem ql_39_16 {Xs : am_X} (hX : 0 < Xs.1) (C : am_C) (σ : am_M) (v4 : Int32) {u5 : Value} {u6 : Value} : am_go Xs C ML 39 [.ref 1001, .ref 0, .ref 34, .ref 57, .int v4, u5, u6, .null] [.int (nI 16)] σ = am_go Xs C ML 1193 [.ref 1001, .ref 0, .ref 34, .ref 57, .int v4, u5, u6, .null] [] σ := g_ts (i := 16) dL_law_39 (by decide +kernel) (by decide) rfl rfl
theorem ql_39_17 {Xs : am_X} (hX : 0 < Xs.1) (C : am_C) (σ : am_M) (v4 : Int32) {u5 : Value} {u6 : Value} : am_go Xs C ML 39 [.ref 1001, .ref 0, .ref 34, .ref 57, .int v4, u5, u6, .null] [.int (nI 17)] σ = am_go Xs C ML 1249 [.ref 1001, .ref 0, .ref 34, .ref 57, .int v4, u5, u6, .null] [] σ := g_ts (i := 17) dL_law_39 (by decide +kernel) (by decide) rfl rfl
theorem ql_39_18 {Xs : am_X} (hX : 0 < Xs.1) (C : am_C) (σ : am_M) (v4 : Int32) {u5 : Value} {u6 : Value} : am_go Xs C ML 39 [.ref 1001, .ref 0, .ref 34, .ref 57, .int v4, u5, u6, .null] [.int (nI 18)] σ = am_go Xs C ML 1262 [.ref 1001, .ref 0, .ref 34, .ref 57, .int v4, u5, u6, .null] [] σ := g_ts (i := 18) dL_law_39 (by decide +kernel) (by decide) rfl rfl
theorem ql_39_19 {Xs : am_X} (hX : 0 < Xs.1) (C : am_C) (σ : am_M) (v4 : Int32) {u5 : Value} {u6 : Value} : am_go Xs C ML 39 [.ref 1001, .ref 0, .ref 34, .ref 57, .int v4, u5, u6, .null] [.int (nI 19)] σ = am_go Xs C ML 1303 [.ref 1001, .ref 0, .ref 34, .ref 57, .int v4, u5, u6, .null] [] σ := g_ts (i := 19) dL_law_39 (by decide +kernel) (by decide) rfl rfl
theorem ql_39_20 {Xs : am_X} (hX : 0 < Xs.1) (C : am_C) (σ : am_M) (v4 : Int32) {u5 : Value} {u6 : Value} : am_go Xs C ML 39 [.ref 1001, .ref 0, .ref 34, .ref 57, .int v4, u5, u6, .null] [.int (nI 20)] σ = am_go Xs C ML 1359 [.ref 1001, .ref 0, .ref 34, .ref 57, .int v4, u5, u6, .null] [] σ := g_ts (i := 20) dL_law_39 (by decide +kernel) (by decide) rfl rfl
theorem ql_39_21 {Xs : am_X} (hX : 0 < Xs.1) (C : am_C) (σ : am_M) (v4 : Int32) {u5 : Value} {u6 : Value} : am_go Xs C ML 39 [.ref 1001, .ref 0, .ref 34, .ref 57, .int v4, u5, u6, .null] [.int (nI 21)] σ = am_go Xs C ML 1431 [.ref 1001, .ref 0, .ref 34, .ref 57, .int v4, u5, u6, .null] [] σ := g_ts (i := 21) dL_law_39 (by decide +kernel) (by decide) rfl rfl
theorem ql_39_22 {Xs : am_X} (hX : 0 < Xs.1) (C : am_C) (σ : am_M) (v4 : Int32) {u5 : Value} {u6 : Value} : am_go Xs C ML 39 [.ref 1001, .ref 0, .ref 34, .ref 57, .int v4, u5, u6, .null] [.int (nI 22)] σ = am_go Xs C ML 1444 [.ref 1001, .ref 0, .ref 34, .ref 57, .int v4, u5, u6, .null] [] σ := g_ts (i := 22) dL_law_39 (by decide +kernel) (by decide) rfl rfl
theorem ql_39_23 {Xs : am_X} (hX : 0 < Xs.1) (C : am_C) (σ : am_M) (v4 : Int32) {u5 : Value} {u6 : Value} : am_go Xs C ML 39 [.ref 1001, .ref 0, .ref 34, .ref 57, .int v4, u5, u6, .null] [.int (nI 23)] σ = am_go Xs C ML 1500 [.ref 1001, .ref 0, .ref 34, .ref 57, .int v4, u5, u6, .null] [] σ := g_ts (i := 23) dL_law_39 (by decide +kernel) (by decide) rfl rfl
theorem ql_39_24 {Xs : am_X} (hX : 0 < Xs.1) (C : am_C) (σ : am_M) (v4 : Int32) {u5 : Value} {u6 : Value} : am_go Xs C ML 39 [.ref 1001, .ref 0, .ref 34, .ref 57, .int v4, u5, u6, .null] [.int (nI 24)] σ = am_go Xs C ML 1556 [.ref 1001, .ref 0, .ref 34, .ref 57, .int v4, u5, u6, .null] [] σ := g_ts (i := 24) dL_law_39 (by decide +kernel) (by decide) rfl rfl
theorem ql_39_25 {Xs : am_X} (hX : 0 < Xs.1) (C : am_C) (σ : am_M) (v4 : Int32) {u5 : Value} {u6 : Value} : am_go Xs C ML 39 [.ref 1001, .ref 0, .ref 34, .ref 57, .int v4, u5, u6, .null] [.int (nI 25)] σ = am_go Xs C ML 1612 [.ref 1001, .ref 0, .ref 34, .ref 57, .int v4, u5, u6, .null] [] σ := g_ts (i := 25) dL_law_39 (by decide +kernel) (by decide) rfl rfl
theorem ql_39_26 {Xs : am_X} (hX : 0 < Xs.1) (C : am_C) (σ : am_M) (v4 : Int32) {u5 : Value} {u6 : Value} : am_go Xs C ML 39 [.ref 1001, .ref 0, .ref 34, .ref 57, .int v4, u5, u6, .null] [.int (nI 26)] σ = am_go Xs C ML 1680 [.ref 1001, .ref 0, .ref 34, .ref 57, .int v4, u5, u6, .null] [] σ := g_ts (i := 26) dL_law_39 (by decide +kernel) (by decide) rfl rfl
theorem ql_39_27 {Xs : am_X} (hX : 0 < Xs.1) (C : am_C) (σ : am_M) (v4 : Int32) {u5 : Value} {u6 : Value} : am_go Xs C ML 39 [.ref 1001, .ref 0, .ref 34, .ref 57, .int v4, u5, u6, .null] [.int (nI 27)] σ = am_go Xs C ML 1736 [.ref 1001, .ref 0, .ref 34, .ref 57, .int v4, u5, u6, .null] [] σ := g_ts (i := 27) dL_law_39 (by decide +kernel) (by decide) rfl rfl
theorem ql_39_28 {Xs : am_X} (hX : 0 < Xs.1) (C : am_C) (σ : am_M) (v4 : Int32) {u5 : Value} {u6 : Value} : am_go Xs C ML 39 [.ref 1001, .ref 0, .ref 34, .ref 57, .int v4, u5, u6, .null] [.int (nI 28)] σ = am_go Xs C ML 1804 [.ref 1001, .ref 0, .ref 34, .ref 57, .int v4, u5, u6, .null] [] σ := g_ts (i := 28) dL_law_39 (by decide +kernel) (by decide) rfl rfl
theorem ql_39_29 {Xs : am_X} (hX : 0 < Xs.1) (C : am_C) (σ : am_M) (v4 : Int32) {u5 : Value} {u6 : Value} : am_go Xs C ML 39 [.ref 1001, .ref 0, .ref 34, .ref 57, .int v4, u5, u6, .null] [.int (nI 29)] σ = am_go Xs C ML 1860 [.ref 1001, .ref 0, .ref 34, .ref 57, .int v4, u5, u6, .null] [] σ := g_ts (i := 29) dL_law_39 (by decide +kernel) (by decide) rfl rfl
theorem ql_39_30 {Xs : am_X} (hX : 0 < Xs.1) (C : am_C) (σ : am_M) (v4 : Int32) {u5 : Value} {u6 : Value} : am_go Xs C ML 39 [.ref 1001, .ref 0, .ref 34, .ref 57, .int v4, u5, u6, .null] [.int (nI 30)] σ = am_go Xs C ML 1928 [.ref 1001, .ref 0, .ref 34, .ref 57, .int v4, u5, u6, .null] [] σ := g_ts (i := 30) dL_law_39 (by decide +kernel) (by decide) rfl rfl
theorem ql_39_31 {Xs : am_X} (hX : 0 < Xs.1) (C : am_C) (σ : am_M) (v4 : Int32) {u5 : Value} {u6 : Value} : am_go Xs C ML 39 [.ref 1001, .ref 0, .ref 34, .ref 57, .int v4, u5, u6, .null] [.int (nI 31)] σ = am_go Xs C ML 1984 [.ref 1001, .ref 0, .ref 34, .ref 57, .int v4, u5, u6, .null] [] σ := g_ts (i := 31) dL_law_39 (by decide +kernel) (by decide) rfl rfl
theorem ql_39_32 {Xs : am_X} (hX : 0 < Xs.1) (C : am_C) (σ : am_M) (v4 : Int32) {u5 : Value} {u6 : Value} : am_go Xs C ML 39 [.ref 1001, .ref 0, .ref 34, .ref 57, .int v4, u5, u6, .null] [.int (nI 32)] σ = am_go Xs C ML 2028 [.ref 1001, .ref 0, .ref 34, .ref 57, .int v4, u5, u6, .null] [] σ := g_ts (i := 32) dL_law_39 (by decide +kernel) (by decide) rfl rfl
theorem ql_39_33 {Xs : am_X} (hX : 0 < Xs.1) (C : am_C) (σ : am_M) (v4 : Int32) {u5 : Value} {u6 : Value} : am_go Xs C ML 39 [.ref 1001, .ref 0, .ref 34, .ref 57, .int v4, u5, u6, .null] [.int (nI 33)] σ = am_go Xs C ML 2041 [.ref 1001, .ref 0, .ref 34, .ref 57, .int v4, u5, u6, .null] [] σ := g_ts (i := 33) dL_law_39 (by decide +kernel) (by decide) rfl rfl
theorem ql_39_34 {Xs : am_X} (hX : 0 < Xs.1) (C : am_C) (σ : am_M) (v4 : Int32) {u5 : Value} {u6 : Value} : am_go Xs C ML 39 [.ref 1001, .ref 0, .ref 34, .ref 57, .int v4, u5, u6, .null] [.int (nI 34)] σ = am_go Xs C ML 2109 [.ref 1001, .ref 0, .ref 34, .ref 57, .int v4, u5, u6, .null] [] σ := g_ts (i := 34) dL_law_39 (by decide +kernel) (by decide) rfl rfl
theorem ql_39_35 {Xs : am_X} (hX : 0 < Xs.1) (C : am_C) (σ : am_M) (v4 : Int32) {u5 : Value} {u6 : Value} : am_go Xs C ML 39 [.ref 1001, .ref 0, .ref 34, .ref 57, .int v4, u5, u6, .null] [.int (nI 35)] σ = am_go Xs C ML 2188 [.ref 1001, .ref 0, .ref 34, .ref 57, .int v4, u5, u6, .null] [] σ := g_ts (i := 35) dL_law_39 (by decide +kernel) (by decide) rfl rfl
theorem ql_39_36 {Xs : am_X} (hX : 0 < Xs.1) (C : am_C) (σ : am_M) (v4 : Int32) {u5 : Value} {u6 : Value} : am_go Xs C ML 39 [.ref 1001, .ref 0, .ref 34, .ref 57, .int v4, u5, u6, .null] [.int (nI 36)] σ = am_go Xs C ML 2244 [.ref 1001, .ref 0, .ref 34, .ref 57, .int v4, u5, u6, .null] [] σ := g_ts (i := 36) dL_law_39 (by decide +kernel) (by decide) rfl rfl
theorem ql_39_37 {Xs : am_X} (hX : 0 < Xs.1) (C : am_C) (σ : am_M) (v4 : Int32) {u5 : Value} {u6 : Value} : am_go Xs C ML 39 [.ref 1001, .ref 0, .ref 34, .ref 57, .int v4, u5, u6, .null] [.int (nI 37)] σ = am_go Xs C ML 2300 [.ref 1001, .ref 0, .ref 34, .ref 57, .int v4, u5, u6, .null] [] σ := g_ts (i := 37) dL_law_39 (by decide +kernel) (by decide) rfl rfl
theorem ql_39_38 {Xs : am_X} (hX : 0 < Xs.1) (C : am_C) (σ : am_M) (v4 : Int32) {u5 : Value} {u6 : Value} : am_go Xs C ML 39 [.ref 1001, .ref 0, .ref 34, .ref 57, .int v4, u5, u6, .null] [.int (nI 38)] σ = am_go Xs C ML 2356 [.ref 1001, .ref 0, .ref 34, .ref 57, .int v4, u5, u6, .null] [] σ := g_ts (i := 38) dL_law_39 (by decide +kernel) (by decide) rfl rfl
theorem ql_39_39 {Xs : am_X} (hX : 0 < Xs.1) (C : am_C) (σ : am_M) (v4 : Int32) {u5 : Value} {u6 : Value} : am_go Xs C ML 39 [.ref 1001, .ref 0, .ref 34, .ref 57, .int v4, u5, u6, .null] [.int (nI 39)] σ = am_go Xs C ML 2412 [.ref 1001, .ref 0, .ref 34, .ref 57, .int v4, u5, u6, .null] [] σ := g_ts (i := 39) dL_law_39 (by decide +kernel) (by decide) rfl rfl
theorem ql_39_40 {Xs : am_X} (hX : 0 < Xs.1) (C : am_C) (σ : am_M) (v4 : Int32) {u5 : Value} {u6 : Value} : am_go Xs C ML 39 [.ref 1001, .ref 0, .ref 34, .ref 57, .int v4, u5, u6, .null] [.int (nI 40)] σ = am_go Xs C ML 2456 [.ref 1001, .ref 0, .ref 34, .ref 57, .int v4, u5, u6, .null] [] σ := g_ts (i := 40) dL_law_39 (by decide +kernel) (by decide) rfl rfl
theorem ql_39_41 {Xs : am_X} (hX : 0 < Xs.1) (C : am_C) (σ : am_M) (v4 : Int32) {u5 : Value} {u6 : Value} : am_go Xs C ML 39 [.ref 1001, .ref 0, .ref 34, .ref 57, .int v4, u5, u6, .null] [.int (nI 41)] σ = am_go Xs C ML 2469 [.ref 1001, .ref 0, .ref 34, .ref 57, .int v4, u5, u6, .null] [] σ := g_ts (i := 41) dL_law_39 (by decide +kernel) (by decide) rfl rfl
theorem ql_39_42 {Xs : am_X} (hX : 0 < Xs.1) (C : am_C) (σ : am_M) (v4 : Int32) {u5 : Value} {u6 : Value} : am_go Xs C ML 39 [.ref 1001, .ref 0, .ref 34, .ref 57, .int v4, u5, u6, .null] [.int (nI 42)] σ = am_go Xs C ML 2525 [.ref 1001, .ref 0, .ref 34, .ref 57, .int v4, u5, u6, .null] [] σ := g_ts (i := 42) dL_law_39 (by decide +kernel) (by decide) rfl rfl
theorem ql_39_43 {Xs : am_X} (hX : 0 < Xs.1) (C : am_C) (σ : am_M) (v4 : Int32) {u5 : Value} {u6 : Value} : am_go Xs C ML 39 [.ref 1001, .ref 0, .ref 34, .ref 57, .int v4, u5, u6, .null] [.int (nI 43)] σ = am_go Xs C ML 2593 [.ref 1001, .ref 0, .ref 34, .ref 57, .int v4, u5, u6, .null] [] σ := g_ts (i := 43) dL_law_39 (by decide +kernel) (by decide) rfl rfl
theorem ql_39_44 {Xs : am_X} (hX : 0 < Xs.1) (C : am_C) (σ : am_M) (v4 : Int32) {u5 : Value} {u6 : Value} : am_go Xs C ML 39 [.ref 1001, .ref 0, .ref 34, .ref 57, .int v4, u5, u6, .null] [.int (nI 44)] σ = am_go Xs C ML 2661 [.ref 1001, .ref 0, .ref 34, .ref 57, .int v4, u5, u6, .null] [] σ := g_ts (i := 44) dL_law_39 (by decide +kernel) (by decide) rfl rfl
theorem ql_39_45 {Xs : am_X} (hX : 0 < Xs.1) (C : am_C) (σ : am_M) (v4 : Int32) {u5 : Value} {u6 : Value} : am_go Xs C ML 39 [.ref 1001, .ref 0, .ref 34, .ref 57, .int v4, u5, u6, .null] [.int (nI 45)] σ = am_go Xs C ML 2717 [.ref 1001, .ref 0, .ref 34, .ref 57, .int v4, u5, u6, .null] [] σ := g_ts (i := 45) dL_law_39 (by decide +kernel) (by decide) rfl rfl
theorem ql_39_d {Xs : am_X} (hX : 0 < Xs.1) (C : am_C) (σ : am_M) (v4 : Int32) {u5 : Value} {u6 : Value} {x : Int32} (hx : x.toInt < 0 ∨ 45 < x.toInt) : am_go Xs C ML 39 [.ref 1001, .ref 0, .ref 34, .ref 57, .int v4, u5, u6, .null] [.int x] σ = am_go Xs C ML 2785 [.ref 1001, .ref 0, .ref 34, .ref 57, .int v4, u5, u6, .null] [] σ := g_tsd dL_law_39 hx rfl
theorem ql_236 {Xs : am_X} (hX : 0 < Xs.1) (C : am_C) (σ : am_M) (v4 : Int32) {u5 : Value} {u6 : Value} : am_go Xs C ML 236 [.ref 1001, .ref 0, .ref 34, .ref 57, .int v4, u5, u6, .null] [] σ = if am_in (v4 + (nI 1)) (Xs.1 - 1) = true then (am_bV (C 97 [.ref 0, .int (Xs.2 (v4 + (nI 1) : Int32).toNatClampNeg)] σ) (fun t1 => if am_in (v4 + (nI 1)) (Xs.1 - 1) = true then (am_bV (C 175 [.ref 34, .int (Xs.2 (v4 + (nI 1) : Int32).toNatClampNeg)] t1) (fun t2 => am_go Xs C ML 2785 [.ref 1001, .ref 0, .ref 34, .ref 57, .int v4, u5, u6, .null] [] t2)) else none)) else none := by
  refine Eq.trans (g_A dL_law_236 rfl rfl) ?_
  refine Eq.trans (g_A dL_law_237 rfl rfl) ?_
  refine Eq.trans (g_A dL_law_238 rfl rfl) ?_
  refine Eq.trans (g_K (v := nI 1) dL_law_240 rfl rfl) ?_
  refine Eq.trans (g_iadd dL_law_241 rfl) ?_
  refine Eq.trans (g_scld dL_law_242 rfl) ?_
  refine am_ite ?_ rfl
  refine Eq.trans (g_vV (a := 0) (as := [.int (Xs.2 (v4 + (nI 1) : Int32).toNatClampNeg)]) (rest := []) dL_law_243 cl302 m97 rfl rfl rfl rfl (Nat.le_of_ble_eq_true rfl) rfl rfl rfl rfl) ?_
  refine am_bV_c (fun t1 => ?_)
  refine Eq.trans (g_A dL_law_246 rfl rfl) ?_
  refine Eq.trans (g_A dL_law_247 rfl rfl) ?_
  refine Eq.trans (g_A dL_law_248 rfl rfl) ?_
  refine Eq.trans (g_K (v := nI 1) dL_law_250 rfl rfl) ?_
  refine Eq.trans (g_iadd dL_law_251 rfl) ?_
  refine Eq.trans (g_scld dL_law_252 rfl) ?_
  refine am_ite ?_ rfl
  refine Eq.trans (g_vV (a := 34) (as := [.int (Xs.2 (v4 + (nI 1) : Int32).toNatClampNeg)]) (rest := []) dL_law_253 cl303 m175 rfl rfl rfl rfl (Nat.le_of_ble_eq_true rfl) rfl rfl rfl rfl) ?_
  refine am_bV_c (fun t2 => ?_)
  refine Eq.trans (g_goto (pc' := 2785) dL_law_256 rfl) ?_
  rfl
theorem ql_259 {Xs : am_X} (hX : 0 < Xs.1) (C : am_C) (σ : am_M) (v4 : Int32) {u5 : Value} {u6 : Value} : am_go Xs C ML 259 [.ref 1001, .ref 0, .ref 34, .ref 57, .int v4, u5, u6, .null] [] σ = if am_in (v4 + (nI 1)) (Xs.1 - 1) = true then (if am_in (v4 + (nI 2)) (Xs.1 - 1) = true then (if am_in (v4 + (nI 3)) (Xs.1 - 1) = true then (am_bI (C 277 [.ref 0, .int (Xs.2 (v4 + (nI 1) : Int32).toNatClampNeg), .long ((((Xs.2 (v4 + (nI 2) : Int32).toNatClampNeg : Int32).toInt64) <<< ((nI 32 : Int32).toInt64 &&& 63)) ||| (((Xs.2 (v4 + (nI 3) : Int32).toNatClampNeg : Int32).toInt64) &&& (4294967295))), .ref 57] σ) (fun r1 t1 => if am_in (v4 + (nI 1)) (Xs.1 - 1) = true then (if am_in (v4 + (nI 2)) (Xs.1 - 1) = true then (if am_in (v4 + (nI 3)) (Xs.1 - 1) = true then (am_bI (C 202 [.ref 34, .int (Xs.2 (v4 + (nI 1) : Int32).toNatClampNeg), .long ((((Xs.2 (v4 + (nI 2) : Int32).toNatClampNeg : Int32).toInt64) <<< ((nI 32 : Int32).toInt64 &&& 63)) ||| (((Xs.2 (v4 + (nI 3) : Int32).toNatClampNeg : Int32).toInt64) &&& (4294967295)))] t1) (fun r2 t2 => am_bI (C 172 [.ref 34] t2) (fun r3 t3 => if r3 = r1 then (if r1 = nI 0 then (if am_in (nI 0) 1 = true then (if lg_cmp (t3.2.1 57 (nI 0 : Int32).toNatClampNeg) ((r2 : Int32).toInt64) = nI 0 then (am_go Xs C ML 2785 [.ref 1001, .ref 0, .ref 34, .ref 57, .int v4, .int r1, .int r2, .null] [] t3) else (some (.inl (some (.int (nI 0))), t3))) else none) else (am_go Xs C ML 2785 [.ref 1001, .ref 0, .ref 34, .ref 57, .int v4, .int r1, .int r2, .null] [] t3)) else (some (.inl (some (.int (nI 0))), t3))))) else none) else none) else none)) else none) else none) else none := by
  refine Eq.trans (g_A dL_law_259 rfl rfl) ?_
  refine Eq.trans (g_A dL_law_260 rfl rfl) ?_
  refine Eq.trans (g_A dL_law_261 rfl rfl) ?_
  refine Eq.trans (g_K (v := nI 1) dL_law_263 rfl rfl) ?_
  refine Eq.trans (g_iadd dL_law_264 rfl) ?_
  refine Eq.trans (g_scld dL_law_265 rfl) ?_
  refine am_ite ?_ rfl
  refine Eq.trans (g_A dL_law_266 rfl rfl) ?_
  refine Eq.trans (g_A dL_law_267 rfl rfl) ?_
  refine Eq.trans (g_K (v := nI 2) dL_law_269 rfl rfl) ?_
  refine Eq.trans (g_iadd dL_law_270 rfl) ?_
  refine Eq.trans (g_scld dL_law_271 rfl) ?_
  refine am_ite ?_ rfl
  refine Eq.trans (g_i2l dL_law_272 rfl) ?_
  refine Eq.trans (g_K (v := nI 32) dL_law_273 rfl rfl) ?_
  refine Eq.trans (g_lshl dL_law_275 rfl) ?_
  refine Eq.trans (g_A dL_law_276 rfl rfl) ?_
  refine Eq.trans (g_A dL_law_277 rfl rfl) ?_
  refine Eq.trans (g_K (v := nI 3) dL_law_279 rfl rfl) ?_
  refine Eq.trans (g_iadd dL_law_280 rfl) ?_
  refine Eq.trans (g_scld dL_law_281 rfl) ?_
  refine am_ite ?_ rfl
  refine Eq.trans (g_i2l dL_law_282 rfl) ?_
  refine Eq.trans (g_ld2 dL_law_283 kj13 rfl) ?_
  refine Eq.trans (g_land dL_law_286 rfl) ?_
  refine Eq.trans (g_lor dL_law_287 rfl) ?_
  refine Eq.trans (g_A dL_law_288 rfl rfl) ?_
  refine Eq.trans (g_sI (as := [.ref 0, .int (Xs.2 (v4 + (nI 1) : Int32).toNatClampNeg), .long ((((Xs.2 (v4 + (nI 2) : Int32).toNatClampNeg : Int32).toInt64) <<< ((nI 32 : Int32).toInt64 &&& 63)) ||| (((Xs.2 (v4 + (nI 3) : Int32).toNatClampNeg : Int32).toInt64) &&& (4294967295))), .ref 57]) (rest := []) dL_law_289 rfl cl304 m277 rfl rfl rfl rfl (Nat.le_of_ble_eq_true rfl) rfl rfl rfl) ?_
  refine am_bI_c (fun r1 t1 => ?_)
  refine Eq.trans (g_ist (k := 5) dL_law_292 (Nat.le_of_ble_eq_true rfl) rfl rfl rfl) ?_
  refine Eq.trans (g_A dL_law_294 rfl rfl) ?_
  refine Eq.trans (g_A dL_law_295 rfl rfl) ?_
  refine Eq.trans (g_A dL_law_296 rfl rfl) ?_
  refine Eq.trans (g_K (v := nI 1) dL_law_298 rfl rfl) ?_
  refine Eq.trans (g_iadd dL_law_299 rfl) ?_
  refine Eq.trans (g_scld dL_law_300 rfl) ?_
  refine am_ite ?_ rfl
  refine Eq.trans (g_A dL_law_301 rfl rfl) ?_
  refine Eq.trans (g_A dL_law_302 rfl rfl) ?_
  refine Eq.trans (g_K (v := nI 2) dL_law_304 rfl rfl) ?_
  refine Eq.trans (g_iadd dL_law_305 rfl) ?_
  refine Eq.trans (g_scld dL_law_306 rfl) ?_
  refine am_ite ?_ rfl
  refine Eq.trans (g_i2l dL_law_307 rfl) ?_
  refine Eq.trans (g_K (v := nI 32) dL_law_308 rfl rfl) ?_
  refine Eq.trans (g_lshl dL_law_310 rfl) ?_
  refine Eq.trans (g_A dL_law_311 rfl rfl) ?_
  refine Eq.trans (g_A dL_law_312 rfl rfl) ?_
  refine Eq.trans (g_K (v := nI 3) dL_law_314 rfl rfl) ?_
  refine Eq.trans (g_iadd dL_law_315 rfl) ?_
  refine Eq.trans (g_scld dL_law_316 rfl) ?_
  refine am_ite ?_ rfl
  refine Eq.trans (g_i2l dL_law_317 rfl) ?_
  refine Eq.trans (g_ld2 dL_law_318 kj13 rfl) ?_
  refine Eq.trans (g_land dL_law_321 rfl) ?_
  refine Eq.trans (g_lor dL_law_322 rfl) ?_
  refine Eq.trans (g_vI (a := 34) (as := [.int (Xs.2 (v4 + (nI 1) : Int32).toNatClampNeg), .long ((((Xs.2 (v4 + (nI 2) : Int32).toNatClampNeg : Int32).toInt64) <<< ((nI 32 : Int32).toInt64 &&& 63)) ||| (((Xs.2 (v4 + (nI 3) : Int32).toNatClampNeg : Int32).toInt64) &&& (4294967295)))]) (rest := []) dL_law_323 cl305 m202 rfl rfl rfl rfl (Nat.le_of_ble_eq_true rfl) rfl rfl rfl rfl) ?_
  refine am_bI_c (fun r2 t2 => ?_)
  refine Eq.trans (g_ist (k := 6) dL_law_326 (Nat.le_of_ble_eq_true rfl) rfl rfl rfl) ?_
  refine Eq.trans (g_A dL_law_328 rfl rfl) ?_
  refine Eq.trans (g_vI (a := 34) (as := []) (rest := []) dL_law_329 cl306 m172 rfl rfl rfl rfl (Nat.le_of_ble_eq_true rfl) rfl rfl rfl rfl) ?_
  refine am_bI_c (fun r3 t3 => ?_)
  refine Eq.trans (g_A dL_law_332 rfl rfl) ?_
  refine Eq.trans (g_iceq (t := 339) dL_law_334 rfl rfl) ?_
  refine am_ite ?_ ?_
  · refine Eq.trans (g_A dL_law_339 rfl rfl) ?_
    refine Eq.trans (g_ifne (t := 356) dL_law_341 rfl rfl) ?_
    refine am_ite ?_ ?_
    · refine Eq.trans (g_A dL_law_344 rfl rfl) ?_
      refine Eq.trans (g_K (v := nI 0) dL_law_345 rfl rfl) ?_
      refine Eq.trans (g_lald dL_law_346 sh57 rfl) ?_
      refine am_ite ?_ rfl
      refine Eq.trans (g_A dL_law_347 rfl rfl) ?_
      refine Eq.trans (g_i2l dL_law_349 rfl) ?_
      refine Eq.trans (g_lcmp dL_law_350 rfl) ?_
      refine Eq.trans (g_ifeq (t := 356) dL_law_351 rfl rfl) ?_
      refine am_ite ?_ ?_
      · refine Eq.trans (g_goto (pc' := 2785) dL_law_356 rfl) ?_
        rfl
      · refine Eq.trans (g_K (v := nI 0) dL_law_354 rfl rfl) ?_
        exact g_zl dL_law_355 rfl (Or.inl rfl)
    · refine Eq.trans (g_goto (pc' := 2785) dL_law_356 rfl) ?_
      rfl
  · refine Eq.trans (g_K (v := nI 0) dL_law_337 rfl rfl) ?_
    exact g_zl dL_law_338 rfl (Or.inl rfl)
theorem ql_359 {Xs : am_X} (hX : 0 < Xs.1) (C : am_C) (σ : am_M) (v4 : Int32) {u5 : Value} {u6 : Value} : am_go Xs C ML 359 [.ref 1001, .ref 0, .ref 34, .ref 57, .int v4, u5, u6, .null] [] σ = if am_in (v4 + (nI 1)) (Xs.1 - 1) = true then (am_bI (C 278 [.ref 0, .int (Xs.2 (v4 + (nI 1) : Int32).toNatClampNeg), .ref 57] σ) (fun r1 t1 => if am_in (v4 + (nI 1)) (Xs.1 - 1) = true then (am_bJ (C 203 [.ref 34, .int (Xs.2 (v4 + (nI 1) : Int32).toNatClampNeg)] t1) (fun r2 t2 => am_bI (C 172 [.ref 34] t2) (fun r3 t3 => if r3 = r1 then (if r1 = nI 0 then (if am_in (nI 0) 1 = true then (if lg_cmp (t3.2.1 57 (nI 0 : Int32).toNatClampNeg) r2 = nI 0 then (am_go Xs C ML 2785 [.ref 1001, .ref 0, .ref 34, .ref 57, .int v4, .int r1, .long r2, .null] [] t3) else (some (.inl (some (.int (nI 0))), t3))) else none) else (am_go Xs C ML 2785 [.ref 1001, .ref 0, .ref 34, .ref 57, .int v4, .int r1, .long r2, .null] [] t3)) else (some (.inl (some (.int (nI 0))), t3))))) else none)) else none := by
  refine Eq.trans (g_A dL_law_359 rfl rfl) ?_
  refine Eq.trans (g_A dL_law_360 rfl rfl) ?_
  refine Eq.trans (g_A dL_law_361 rfl rfl) ?_
  refine Eq.trans (g_K (v := nI 1) dL_law_363 rfl rfl) ?_
  refine Eq.trans (g_iadd dL_law_364 rfl) ?_
  refine Eq.trans (g_scld dL_law_365 rfl) ?_
  refine am_ite ?_ rfl
  refine Eq.trans (g_A dL_law_366 rfl rfl) ?_
  refine Eq.trans (g_sI (as := [.ref 0, .int (Xs.2 (v4 + (nI 1) : Int32).toNatClampNeg), .ref 57]) (rest := []) dL_law_367 rfl cl307 m278 rfl rfl rfl rfl (Nat.le_of_ble_eq_true rfl) rfl rfl rfl) ?_
  refine am_bI_c (fun r1 t1 => ?_)
  refine Eq.trans (g_ist (k := 5) dL_law_370 (Nat.le_of_ble_eq_true rfl) rfl rfl rfl) ?_
  refine Eq.trans (g_A dL_law_372 rfl rfl) ?_
  refine Eq.trans (g_A dL_law_373 rfl rfl) ?_
  refine Eq.trans (g_A dL_law_374 rfl rfl) ?_
  refine Eq.trans (g_K (v := nI 1) dL_law_376 rfl rfl) ?_
  refine Eq.trans (g_iadd dL_law_377 rfl) ?_
  refine Eq.trans (g_scld dL_law_378 rfl) ?_
  refine am_ite ?_ rfl
  refine Eq.trans (g_vJ (a := 34) (as := [.int (Xs.2 (v4 + (nI 1) : Int32).toNatClampNeg)]) (rest := []) dL_law_379 cl308 m203 rfl rfl rfl rfl (Nat.le_of_ble_eq_true rfl) rfl rfl rfl rfl) ?_
  refine am_bJ_c (fun r2 t2 => ?_)
  refine Eq.trans (g_lst (k := 6) dL_law_382 (Nat.le_of_ble_eq_true rfl) rfl rfl rfl) ?_
  refine Eq.trans (g_A dL_law_384 rfl rfl) ?_
  refine Eq.trans (g_vI (a := 34) (as := []) (rest := []) dL_law_385 cl306 m172 rfl rfl rfl rfl (Nat.le_of_ble_eq_true rfl) rfl rfl rfl rfl) ?_
  refine am_bI_c (fun r3 t3 => ?_)
  refine Eq.trans (g_A dL_law_388 rfl rfl) ?_
  refine Eq.trans (g_iceq (t := 395) dL_law_390 rfl rfl) ?_
  refine am_ite ?_ ?_
  · refine Eq.trans (g_A dL_law_395 rfl rfl) ?_
    refine Eq.trans (g_ifne (t := 411) dL_law_397 rfl rfl) ?_
    refine am_ite ?_ ?_
    · refine Eq.trans (g_A dL_law_400 rfl rfl) ?_
      refine Eq.trans (g_K (v := nI 0) dL_law_401 rfl rfl) ?_
      refine Eq.trans (g_lald dL_law_402 sh57 rfl) ?_
      refine am_ite ?_ rfl
      refine Eq.trans (g_A dL_law_403 rfl rfl) ?_
      refine Eq.trans (g_lcmp dL_law_405 rfl) ?_
      refine Eq.trans (g_ifeq (t := 411) dL_law_406 rfl rfl) ?_
      refine am_ite ?_ ?_
      · refine Eq.trans (g_goto (pc' := 2785) dL_law_411 rfl) ?_
        rfl
      · refine Eq.trans (g_K (v := nI 0) dL_law_409 rfl rfl) ?_
        exact g_zl dL_law_410 rfl (Or.inl rfl)
    · refine Eq.trans (g_goto (pc' := 2785) dL_law_411 rfl) ?_
      rfl
  · refine Eq.trans (g_K (v := nI 0) dL_law_393 rfl rfl) ?_
    exact g_zl dL_law_394 rfl (Or.inl rfl)
theorem ql_414 {Xs : am_X} (hX : 0 < Xs.1) (C : am_C) (σ : am_M) (v4 : Int32) {u5 : Value} {u6 : Value} : am_go Xs C ML 414 [.ref 1001, .ref 0, .ref 34, .ref 57, .int v4, u5, u6, .null] [] σ = if am_in (v4 + (nI 1)) (Xs.1 - 1) = true then (am_bI (C 279 [.ref 0, .int (Xs.2 (v4 + (nI 1) : Int32).toNatClampNeg), .ref 57] σ) (fun r1 t1 => if am_in (v4 + (nI 1)) (Xs.1 - 1) = true then (am_bI (C 204 [.ref 34, .int (Xs.2 (v4 + (nI 1) : Int32).toNatClampNeg)] t1) (fun r2 t2 => am_bI (C 172 [.ref 34] t2) (fun r3 t3 => if r3 = r1 then (if r1 = nI 0 then (if am_in (nI 0) 1 = true then (if lg_cmp (t3.2.1 57 (nI 0 : Int32).toNatClampNeg) ((r2 : Int32).toInt64) = nI 0 then (am_go Xs C ML 2785 [.ref 1001, .ref 0, .ref 34, .ref 57, .int v4, .int r1, .int r2, .null] [] t3) else (some (.inl (some (.int (nI 0))), t3))) else none) else (am_go Xs C ML 2785 [.ref 1001, .ref 0, .ref 34, .ref 57, .int v4, .int r1, .int r2, .null] [] t3)) else (some (.inl (some (.int (nI 0))), t3))))) else none)) else none := by
  refine Eq.trans (g_A dL_law_414 rfl rfl) ?_
  refine Eq.trans (g_A dL_law_415 rfl rfl) ?_
  refine Eq.trans (g_A dL_law_416 rfl rfl) ?_
  refine Eq.trans (g_K (v := nI 1) dL_law_418 rfl rfl) ?_
  refine Eq.trans (g_iadd dL_law_419 rfl) ?_
  refine Eq.trans (g_scld dL_law_420 rfl) ?_
  refine am_ite ?_ rfl
  refine Eq.trans (g_A dL_law_421 rfl rfl) ?_
  refine Eq.trans (g_sI (as := [.ref 0, .int (Xs.2 (v4 + (nI 1) : Int32).toNatClampNeg), .ref 57]) (rest := []) dL_law_422 rfl cl309 m279 rfl rfl rfl rfl (Nat.le_of_ble_eq_true rfl) rfl rfl rfl) ?_
  refine am_bI_c (fun r1 t1 => ?_)
  refine Eq.trans (g_ist (k := 5) dL_law_425 (Nat.le_of_ble_eq_true rfl) rfl rfl rfl) ?_
  refine Eq.trans (g_A dL_law_427 rfl rfl) ?_
  refine Eq.trans (g_A dL_law_428 rfl rfl) ?_
  refine Eq.trans (g_A dL_law_429 rfl rfl) ?_
  refine Eq.trans (g_K (v := nI 1) dL_law_431 rfl rfl) ?_
  refine Eq.trans (g_iadd dL_law_432 rfl) ?_
  refine Eq.trans (g_scld dL_law_433 rfl) ?_
  refine am_ite ?_ rfl
  refine Eq.trans (g_vI (a := 34) (as := [.int (Xs.2 (v4 + (nI 1) : Int32).toNatClampNeg)]) (rest := []) dL_law_434 cl310 m204 rfl rfl rfl rfl (Nat.le_of_ble_eq_true rfl) rfl rfl rfl rfl) ?_
  refine am_bI_c (fun r2 t2 => ?_)
  refine Eq.trans (g_ist (k := 6) dL_law_437 (Nat.le_of_ble_eq_true rfl) rfl rfl rfl) ?_
  refine Eq.trans (g_A dL_law_439 rfl rfl) ?_
  refine Eq.trans (g_vI (a := 34) (as := []) (rest := []) dL_law_440 cl306 m172 rfl rfl rfl rfl (Nat.le_of_ble_eq_true rfl) rfl rfl rfl rfl) ?_
  refine am_bI_c (fun r3 t3 => ?_)
  refine Eq.trans (g_A dL_law_443 rfl rfl) ?_
  refine Eq.trans (g_iceq (t := 450) dL_law_445 rfl rfl) ?_
  refine am_ite ?_ ?_
  · refine Eq.trans (g_A dL_law_450 rfl rfl) ?_
    refine Eq.trans (g_ifne (t := 467) dL_law_452 rfl rfl) ?_
    refine am_ite ?_ ?_
    · refine Eq.trans (g_A dL_law_455 rfl rfl) ?_
      refine Eq.trans (g_K (v := nI 0) dL_law_456 rfl rfl) ?_
      refine Eq.trans (g_lald dL_law_457 sh57 rfl) ?_
      refine am_ite ?_ rfl
      refine Eq.trans (g_A dL_law_458 rfl rfl) ?_
      refine Eq.trans (g_i2l dL_law_460 rfl) ?_
      refine Eq.trans (g_lcmp dL_law_461 rfl) ?_
      refine Eq.trans (g_ifeq (t := 467) dL_law_462 rfl rfl) ?_
      refine am_ite ?_ ?_
      · refine Eq.trans (g_goto (pc' := 2785) dL_law_467 rfl) ?_
        rfl
      · refine Eq.trans (g_K (v := nI 0) dL_law_465 rfl rfl) ?_
        exact g_zl dL_law_466 rfl (Or.inl rfl)
    · refine Eq.trans (g_goto (pc' := 2785) dL_law_467 rfl) ?_
      rfl
  · refine Eq.trans (g_K (v := nI 0) dL_law_448 rfl rfl) ?_
    exact g_zl dL_law_449 rfl (Or.inl rfl)
theorem ql_470 {Xs : am_X} (hX : 0 < Xs.1) (C : am_C) (σ : am_M) (v4 : Int32) {u5 : Value} {u6 : Value} : am_go Xs C ML 470 [.ref 1001, .ref 0, .ref 34, .ref 57, .int v4, u5, u6, .null] [] σ = if am_in (v4 + (nI 1)) (Xs.1 - 1) = true then (am_bI (C 280 [.ref 0, .int (Xs.2 (v4 + (nI 1) : Int32).toNatClampNeg), .ref 57] σ) (fun r1 t1 => if am_in (v4 + (nI 1)) (Xs.1 - 1) = true then (am_bI (C 205 [.ref 34, .int (Xs.2 (v4 + (nI 1) : Int32).toNatClampNeg)] t1) (fun r2 t2 => am_bI (C 172 [.ref 34] t2) (fun r3 t3 => if r3 = r1 then (if r1 = nI 0 then (if am_in (nI 0) 1 = true then (if lg_cmp (t3.2.1 57 (nI 0 : Int32).toNatClampNeg) ((r2 : Int32).toInt64) = nI 0 then (am_go Xs C ML 2785 [.ref 1001, .ref 0, .ref 34, .ref 57, .int v4, .int r1, .int r2, .null] [] t3) else (some (.inl (some (.int (nI 0))), t3))) else none) else (am_go Xs C ML 2785 [.ref 1001, .ref 0, .ref 34, .ref 57, .int v4, .int r1, .int r2, .null] [] t3)) else (some (.inl (some (.int (nI 0))), t3))))) else none)) else none := by
  refine Eq.trans (g_A dL_law_470 rfl rfl) ?_
  refine Eq.trans (g_A dL_law_471 rfl rfl) ?_
  refine Eq.trans (g_A dL_law_472 rfl rfl) ?_
  refine Eq.trans (g_K (v := nI 1) dL_law_474 rfl rfl) ?_
  refine Eq.trans (g_iadd dL_law_475 rfl) ?_
  refine Eq.trans (g_scld dL_law_476 rfl) ?_
  refine am_ite ?_ rfl
  refine Eq.trans (g_A dL_law_477 rfl rfl) ?_
  refine Eq.trans (g_sI (as := [.ref 0, .int (Xs.2 (v4 + (nI 1) : Int32).toNatClampNeg), .ref 57]) (rest := []) dL_law_478 rfl cl311 m280 rfl rfl rfl rfl (Nat.le_of_ble_eq_true rfl) rfl rfl rfl) ?_
  refine am_bI_c (fun r1 t1 => ?_)
  refine Eq.trans (g_ist (k := 5) dL_law_481 (Nat.le_of_ble_eq_true rfl) rfl rfl rfl) ?_
  refine Eq.trans (g_A dL_law_483 rfl rfl) ?_
  refine Eq.trans (g_A dL_law_484 rfl rfl) ?_
  refine Eq.trans (g_A dL_law_485 rfl rfl) ?_
  refine Eq.trans (g_K (v := nI 1) dL_law_487 rfl rfl) ?_
  refine Eq.trans (g_iadd dL_law_488 rfl) ?_
  refine Eq.trans (g_scld dL_law_489 rfl) ?_
  refine am_ite ?_ rfl
  refine Eq.trans (g_vI (a := 34) (as := [.int (Xs.2 (v4 + (nI 1) : Int32).toNatClampNeg)]) (rest := []) dL_law_490 cl312 m205 rfl rfl rfl rfl (Nat.le_of_ble_eq_true rfl) rfl rfl rfl rfl) ?_
  refine am_bI_c (fun r2 t2 => ?_)
  refine Eq.trans (g_ist (k := 6) dL_law_493 (Nat.le_of_ble_eq_true rfl) rfl rfl rfl) ?_
  refine Eq.trans (g_A dL_law_495 rfl rfl) ?_
  refine Eq.trans (g_vI (a := 34) (as := []) (rest := []) dL_law_496 cl306 m172 rfl rfl rfl rfl (Nat.le_of_ble_eq_true rfl) rfl rfl rfl rfl) ?_
  refine am_bI_c (fun r3 t3 => ?_)
  refine Eq.trans (g_A dL_law_499 rfl rfl) ?_
  refine Eq.trans (g_iceq (t := 506) dL_law_501 rfl rfl) ?_
  refine am_ite ?_ ?_
  · refine Eq.trans (g_A dL_law_506 rfl rfl) ?_
    refine Eq.trans (g_ifne (t := 523) dL_law_508 rfl rfl) ?_
    refine am_ite ?_ ?_
    · refine Eq.trans (g_A dL_law_511 rfl rfl) ?_
      refine Eq.trans (g_K (v := nI 0) dL_law_512 rfl rfl) ?_
      refine Eq.trans (g_lald dL_law_513 sh57 rfl) ?_
      refine am_ite ?_ rfl
      refine Eq.trans (g_A dL_law_514 rfl rfl) ?_
      refine Eq.trans (g_i2l dL_law_516 rfl) ?_
      refine Eq.trans (g_lcmp dL_law_517 rfl) ?_
      refine Eq.trans (g_ifeq (t := 523) dL_law_518 rfl rfl) ?_
      refine am_ite ?_ ?_
      · refine Eq.trans (g_goto (pc' := 2785) dL_law_523 rfl) ?_
        rfl
      · refine Eq.trans (g_K (v := nI 0) dL_law_521 rfl rfl) ?_
        exact g_zl dL_law_522 rfl (Or.inl rfl)
    · refine Eq.trans (g_goto (pc' := 2785) dL_law_523 rfl) ?_
      rfl
  · refine Eq.trans (g_K (v := nI 0) dL_law_504 rfl rfl) ?_
    exact g_zl dL_law_505 rfl (Or.inl rfl)
theorem ql_526 {Xs : am_X} (hX : 0 < Xs.1) (C : am_C) (σ : am_M) (v4 : Int32) {u5 : Value} {u6 : Value} : am_go Xs C ML 526 [.ref 1001, .ref 0, .ref 34, .ref 57, .int v4, u5, u6, .null] [] σ = if am_in (v4 + (nI 1)) (Xs.1 - 1) = true then (am_bI (C 281 [.ref 0, .int (Xs.2 (v4 + (nI 1) : Int32).toNatClampNeg), .ref 57] σ) (fun r1 t1 => if am_in (v4 + (nI 1)) (Xs.1 - 1) = true then (am_bI (C 206 [.ref 34, .int (Xs.2 (v4 + (nI 1) : Int32).toNatClampNeg)] t1) (fun r2 t2 => am_bI (C 172 [.ref 34] t2) (fun r3 t3 => if r3 = r1 then (if r1 = nI 0 then (if am_in (nI 0) 1 = true then (if lg_cmp (t3.2.1 57 (nI 0 : Int32).toNatClampNeg) ((r2 : Int32).toInt64) = nI 0 then (am_go Xs C ML 2785 [.ref 1001, .ref 0, .ref 34, .ref 57, .int v4, .int r1, .int r2, .null] [] t3) else (some (.inl (some (.int (nI 0))), t3))) else none) else (am_go Xs C ML 2785 [.ref 1001, .ref 0, .ref 34, .ref 57, .int v4, .int r1, .int r2, .null] [] t3)) else (some (.inl (some (.int (nI 0))), t3))))) else none)) else none := by
  refine Eq.trans (g_A dL_law_526 rfl rfl) ?_
  refine Eq.trans (g_A dL_law_527 rfl rfl) ?_
  refine Eq.trans (g_A dL_law_528 rfl rfl) ?_
  refine Eq.trans (g_K (v := nI 1) dL_law_530 rfl rfl) ?_
  refine Eq.trans (g_iadd dL_law_531 rfl) ?_
  refine Eq.trans (g_scld dL_law_532 rfl) ?_
  refine am_ite ?_ rfl
  refine Eq.trans (g_A dL_law_533 rfl rfl) ?_
  refine Eq.trans (g_sI (as := [.ref 0, .int (Xs.2 (v4 + (nI 1) : Int32).toNatClampNeg), .ref 57]) (rest := []) dL_law_534 rfl cl313 m281 rfl rfl rfl rfl (Nat.le_of_ble_eq_true rfl) rfl rfl rfl) ?_
  refine am_bI_c (fun r1 t1 => ?_)
  refine Eq.trans (g_ist (k := 5) dL_law_537 (Nat.le_of_ble_eq_true rfl) rfl rfl rfl) ?_
  refine Eq.trans (g_A dL_law_539 rfl rfl) ?_
  refine Eq.trans (g_A dL_law_540 rfl rfl) ?_
  refine Eq.trans (g_A dL_law_541 rfl rfl) ?_
  refine Eq.trans (g_K (v := nI 1) dL_law_543 rfl rfl) ?_
  refine Eq.trans (g_iadd dL_law_544 rfl) ?_
  refine Eq.trans (g_scld dL_law_545 rfl) ?_
  refine am_ite ?_ rfl
  refine Eq.trans (g_vI (a := 34) (as := [.int (Xs.2 (v4 + (nI 1) : Int32).toNatClampNeg)]) (rest := []) dL_law_546 cl314 m206 rfl rfl rfl rfl (Nat.le_of_ble_eq_true rfl) rfl rfl rfl rfl) ?_
  refine am_bI_c (fun r2 t2 => ?_)
  refine Eq.trans (g_ist (k := 6) dL_law_549 (Nat.le_of_ble_eq_true rfl) rfl rfl rfl) ?_
  refine Eq.trans (g_A dL_law_551 rfl rfl) ?_
  refine Eq.trans (g_vI (a := 34) (as := []) (rest := []) dL_law_552 cl306 m172 rfl rfl rfl rfl (Nat.le_of_ble_eq_true rfl) rfl rfl rfl rfl) ?_
  refine am_bI_c (fun r3 t3 => ?_)
  refine Eq.trans (g_A dL_law_555 rfl rfl) ?_
  refine Eq.trans (g_iceq (t := 562) dL_law_557 rfl rfl) ?_
  refine am_ite ?_ ?_
  · refine Eq.trans (g_A dL_law_562 rfl rfl) ?_
    refine Eq.trans (g_ifne (t := 579) dL_law_564 rfl rfl) ?_
    refine am_ite ?_ ?_
    · refine Eq.trans (g_A dL_law_567 rfl rfl) ?_
      refine Eq.trans (g_K (v := nI 0) dL_law_568 rfl rfl) ?_
      refine Eq.trans (g_lald dL_law_569 sh57 rfl) ?_
      refine am_ite ?_ rfl
      refine Eq.trans (g_A dL_law_570 rfl rfl) ?_
      refine Eq.trans (g_i2l dL_law_572 rfl) ?_
      refine Eq.trans (g_lcmp dL_law_573 rfl) ?_
      refine Eq.trans (g_ifeq (t := 579) dL_law_574 rfl rfl) ?_
      refine am_ite ?_ ?_
      · refine Eq.trans (g_goto (pc' := 2785) dL_law_579 rfl) ?_
        rfl
      · refine Eq.trans (g_K (v := nI 0) dL_law_577 rfl rfl) ?_
        exact g_zl dL_law_578 rfl (Or.inl rfl)
    · refine Eq.trans (g_goto (pc' := 2785) dL_law_579 rfl) ?_
      rfl
  · refine Eq.trans (g_K (v := nI 0) dL_law_560 rfl rfl) ?_
    exact g_zl dL_law_561 rfl (Or.inl rfl)
theorem ql_582 {Xs : am_X} (hX : 0 < Xs.1) (C : am_C) (σ : am_M) (v4 : Int32) {u5 : Value} {u6 : Value} : am_go Xs C ML 582 [.ref 1001, .ref 0, .ref 34, .ref 57, .int v4, u5, u6, .null] [] σ = if am_in (v4 + (nI 1)) (Xs.1 - 1) = true then (am_bI (C 282 [.ref 0, .int (Xs.2 (v4 + (nI 1) : Int32).toNatClampNeg), .ref 57] σ) (fun r1 t1 => if am_in (v4 + (nI 1)) (Xs.1 - 1) = true then (am_bI (C 207 [.ref 34, .int (Xs.2 (v4 + (nI 1) : Int32).toNatClampNeg)] t1) (fun r2 t2 => am_bI (C 172 [.ref 34] t2) (fun r3 t3 => if r3 = r1 then (if r1 = nI 0 then (if am_in (nI 0) 1 = true then (if lg_cmp (t3.2.1 57 (nI 0 : Int32).toNatClampNeg) ((r2 : Int32).toInt64) = nI 0 then (am_go Xs C ML 2785 [.ref 1001, .ref 0, .ref 34, .ref 57, .int v4, .int r1, .int r2, .null] [] t3) else (some (.inl (some (.int (nI 0))), t3))) else none) else (am_go Xs C ML 2785 [.ref 1001, .ref 0, .ref 34, .ref 57, .int v4, .int r1, .int r2, .null] [] t3)) else (some (.inl (some (.int (nI 0))), t3))))) else none)) else none := by
  refine Eq.trans (g_A dL_law_582 rfl rfl) ?_
  refine Eq.trans (g_A dL_law_583 rfl rfl) ?_
  refine Eq.trans (g_A dL_law_584 rfl rfl) ?_
  refine Eq.trans (g_K (v := nI 1) dL_law_586 rfl rfl) ?_
  refine Eq.trans (g_iadd dL_law_587 rfl) ?_
  refine Eq.trans (g_scld dL_law_588 rfl) ?_
  refine am_ite ?_ rfl
  refine Eq.trans (g_A dL_law_589 rfl rfl) ?_
  refine Eq.trans (g_sI (as := [.ref 0, .int (Xs.2 (v4 + (nI 1) : Int32).toNatClampNeg), .ref 57]) (rest := []) dL_law_590 rfl cl315 m282 rfl rfl rfl rfl (Nat.le_of_ble_eq_true rfl) rfl rfl rfl) ?_
  refine am_bI_c (fun r1 t1 => ?_)
  refine Eq.trans (g_ist (k := 5) dL_law_593 (Nat.le_of_ble_eq_true rfl) rfl rfl rfl) ?_
  refine Eq.trans (g_A dL_law_595 rfl rfl) ?_
  refine Eq.trans (g_A dL_law_596 rfl rfl) ?_
  refine Eq.trans (g_A dL_law_597 rfl rfl) ?_
  refine Eq.trans (g_K (v := nI 1) dL_law_599 rfl rfl) ?_
  refine Eq.trans (g_iadd dL_law_600 rfl) ?_
  refine Eq.trans (g_scld dL_law_601 rfl) ?_
  refine am_ite ?_ rfl
  refine Eq.trans (g_vI (a := 34) (as := [.int (Xs.2 (v4 + (nI 1) : Int32).toNatClampNeg)]) (rest := []) dL_law_602 cl316 m207 rfl rfl rfl rfl (Nat.le_of_ble_eq_true rfl) rfl rfl rfl rfl) ?_
  refine am_bI_c (fun r2 t2 => ?_)
  refine Eq.trans (g_ist (k := 6) dL_law_605 (Nat.le_of_ble_eq_true rfl) rfl rfl rfl) ?_
  refine Eq.trans (g_A dL_law_607 rfl rfl) ?_
  refine Eq.trans (g_vI (a := 34) (as := []) (rest := []) dL_law_608 cl306 m172 rfl rfl rfl rfl (Nat.le_of_ble_eq_true rfl) rfl rfl rfl rfl) ?_
  refine am_bI_c (fun r3 t3 => ?_)
  refine Eq.trans (g_A dL_law_611 rfl rfl) ?_
  refine Eq.trans (g_iceq (t := 618) dL_law_613 rfl rfl) ?_
  refine am_ite ?_ ?_
  · refine Eq.trans (g_A dL_law_618 rfl rfl) ?_
    refine Eq.trans (g_ifne (t := 635) dL_law_620 rfl rfl) ?_
    refine am_ite ?_ ?_
    · refine Eq.trans (g_A dL_law_623 rfl rfl) ?_
      refine Eq.trans (g_K (v := nI 0) dL_law_624 rfl rfl) ?_
      refine Eq.trans (g_lald dL_law_625 sh57 rfl) ?_
      refine am_ite ?_ rfl
      refine Eq.trans (g_A dL_law_626 rfl rfl) ?_
      refine Eq.trans (g_i2l dL_law_628 rfl) ?_
      refine Eq.trans (g_lcmp dL_law_629 rfl) ?_
      refine Eq.trans (g_ifeq (t := 635) dL_law_630 rfl rfl) ?_
      refine am_ite ?_ ?_
      · refine Eq.trans (g_goto (pc' := 2785) dL_law_635 rfl) ?_
        rfl
      · refine Eq.trans (g_K (v := nI 0) dL_law_633 rfl rfl) ?_
        exact g_zl dL_law_634 rfl (Or.inl rfl)
    · refine Eq.trans (g_goto (pc' := 2785) dL_law_635 rfl) ?_
      rfl
  · refine Eq.trans (g_K (v := nI 0) dL_law_616 rfl rfl) ?_
    exact g_zl dL_law_617 rfl (Or.inl rfl)
theorem ql_638 {Xs : am_X} (hX : 0 < Xs.1) (C : am_C) (σ : am_M) (v4 : Int32) {u5 : Value} {u6 : Value} : am_go Xs C ML 638 [.ref 1001, .ref 0, .ref 34, .ref 57, .int v4, u5, u6, .null] [] σ = if am_in (v4 + (nI 1)) (Xs.1 - 1) = true then (if am_in (v4 + (nI 2)) (Xs.1 - 1) = true then (am_bI (C 283 [.ref 0, .int (Xs.2 (v4 + (nI 1) : Int32).toNatClampNeg), .int (Xs.2 (v4 + (nI 2) : Int32).toNatClampNeg), .ref 57] σ) (fun r1 t1 => if am_in (v4 + (nI 1)) (Xs.1 - 1) = true then (if am_in (v4 + (nI 2)) (Xs.1 - 1) = true then (am_bJ (C 209 [.ref 34, .int (Xs.2 (v4 + (nI 1) : Int32).toNatClampNeg), .int (Xs.2 (v4 + (nI 2) : Int32).toNatClampNeg)] t1) (fun r2 t2 => am_bI (C 172 [.ref 34] t2) (fun r3 t3 => if r3 = r1 then (if r1 = nI 0 then (if am_in (nI 0) 1 = true then (if lg_cmp (t3.2.1 57 (nI 0 : Int32).toNatClampNeg) r2 = nI 0 then (am_go Xs C ML 2785 [.ref 1001, .ref 0, .ref 34, .ref 57, .int v4, .int r1, .long r2, .null] [] t3) else (some (.inl (some (.int (nI 0))), t3))) else none) else (am_go Xs C ML 2785 [.ref 1001, .ref 0, .ref 34, .ref 57, .int v4, .int r1, .long r2, .null] [] t3)) else (some (.inl (some (.int (nI 0))), t3))))) else none) else none)) else none) else none := by
  refine Eq.trans (g_A dL_law_638 rfl rfl) ?_
  refine Eq.trans (g_A dL_law_639 rfl rfl) ?_
  refine Eq.trans (g_A dL_law_640 rfl rfl) ?_
  refine Eq.trans (g_K (v := nI 1) dL_law_642 rfl rfl) ?_
  refine Eq.trans (g_iadd dL_law_643 rfl) ?_
  refine Eq.trans (g_scld dL_law_644 rfl) ?_
  refine am_ite ?_ rfl
  refine Eq.trans (g_A dL_law_645 rfl rfl) ?_
  refine Eq.trans (g_A dL_law_646 rfl rfl) ?_
  refine Eq.trans (g_K (v := nI 2) dL_law_648 rfl rfl) ?_
  refine Eq.trans (g_iadd dL_law_649 rfl) ?_
  refine Eq.trans (g_scld dL_law_650 rfl) ?_
  refine am_ite ?_ rfl
  refine Eq.trans (g_A dL_law_651 rfl rfl) ?_
  refine Eq.trans (g_sI (as := [.ref 0, .int (Xs.2 (v4 + (nI 1) : Int32).toNatClampNeg), .int (Xs.2 (v4 + (nI 2) : Int32).toNatClampNeg), .ref 57]) (rest := []) dL_law_652 rfl cl317 m283 rfl rfl rfl rfl (Nat.le_of_ble_eq_true rfl) rfl rfl rfl) ?_
  refine am_bI_c (fun r1 t1 => ?_)
  refine Eq.trans (g_ist (k := 5) dL_law_655 (Nat.le_of_ble_eq_true rfl) rfl rfl rfl) ?_
  refine Eq.trans (g_A dL_law_657 rfl rfl) ?_
  refine Eq.trans (g_A dL_law_658 rfl rfl) ?_
  refine Eq.trans (g_A dL_law_659 rfl rfl) ?_
  refine Eq.trans (g_K (v := nI 1) dL_law_661 rfl rfl) ?_
  refine Eq.trans (g_iadd dL_law_662 rfl) ?_
  refine Eq.trans (g_scld dL_law_663 rfl) ?_
  refine am_ite ?_ rfl
  refine Eq.trans (g_A dL_law_664 rfl rfl) ?_
  refine Eq.trans (g_A dL_law_665 rfl rfl) ?_
  refine Eq.trans (g_K (v := nI 2) dL_law_667 rfl rfl) ?_
  refine Eq.trans (g_iadd dL_law_668 rfl) ?_
  refine Eq.trans (g_scld dL_law_669 rfl) ?_
  refine am_ite ?_ rfl
  refine Eq.trans (g_vJ (a := 34) (as := [.int (Xs.2 (v4 + (nI 1) : Int32).toNatClampNeg), .int (Xs.2 (v4 + (nI 2) : Int32).toNatClampNeg)]) (rest := []) dL_law_670 cl318 m209 rfl rfl rfl rfl (Nat.le_of_ble_eq_true rfl) rfl rfl rfl rfl) ?_
  refine am_bJ_c (fun r2 t2 => ?_)
  refine Eq.trans (g_lst (k := 6) dL_law_673 (Nat.le_of_ble_eq_true rfl) rfl rfl rfl) ?_
  refine Eq.trans (g_A dL_law_675 rfl rfl) ?_
  refine Eq.trans (g_vI (a := 34) (as := []) (rest := []) dL_law_676 cl306 m172 rfl rfl rfl rfl (Nat.le_of_ble_eq_true rfl) rfl rfl rfl rfl) ?_
  refine am_bI_c (fun r3 t3 => ?_)
  refine Eq.trans (g_A dL_law_679 rfl rfl) ?_
  refine Eq.trans (g_iceq (t := 686) dL_law_681 rfl rfl) ?_
  refine am_ite ?_ ?_
  · refine Eq.trans (g_A dL_law_686 rfl rfl) ?_
    refine Eq.trans (g_ifne (t := 702) dL_law_688 rfl rfl) ?_
    refine am_ite ?_ ?_
    · refine Eq.trans (g_A dL_law_691 rfl rfl) ?_
      refine Eq.trans (g_K (v := nI 0) dL_law_692 rfl rfl) ?_
      refine Eq.trans (g_lald dL_law_693 sh57 rfl) ?_
      refine am_ite ?_ rfl
      refine Eq.trans (g_A dL_law_694 rfl rfl) ?_
      refine Eq.trans (g_lcmp dL_law_696 rfl) ?_
      refine Eq.trans (g_ifeq (t := 702) dL_law_697 rfl rfl) ?_
      refine am_ite ?_ ?_
      · refine Eq.trans (g_goto (pc' := 2785) dL_law_702 rfl) ?_
        rfl
      · refine Eq.trans (g_K (v := nI 0) dL_law_700 rfl rfl) ?_
        exact g_zl dL_law_701 rfl (Or.inl rfl)
    · refine Eq.trans (g_goto (pc' := 2785) dL_law_702 rfl) ?_
      rfl
  · refine Eq.trans (g_K (v := nI 0) dL_law_684 rfl rfl) ?_
    exact g_zl dL_law_685 rfl (Or.inl rfl)
theorem ql_705 {Xs : am_X} (hX : 0 < Xs.1) (C : am_C) (σ : am_M) (v4 : Int32) {u5 : Value} {u6 : Value} : am_go Xs C ML 705 [.ref 1001, .ref 0, .ref 34, .ref 57, .int v4, u5, u6, .null] [] σ = if am_in (v4 + (nI 1)) (Xs.1 - 1) = true then (if am_in (v4 + (nI 2)) (Xs.1 - 1) = true then (am_bI (C 284 [.ref 0, .int (Xs.2 (v4 + (nI 1) : Int32).toNatClampNeg), .int (Xs.2 (v4 + (nI 2) : Int32).toNatClampNeg), .ref 57] σ) (fun r1 t1 => if am_in (v4 + (nI 1)) (Xs.1 - 1) = true then (if am_in (v4 + (nI 2)) (Xs.1 - 1) = true then (am_bI (C 213 [.ref 34, .int (Xs.2 (v4 + (nI 1) : Int32).toNatClampNeg), .int (Xs.2 (v4 + (nI 2) : Int32).toNatClampNeg)] t1) (fun r2 t2 => am_bI (C 172 [.ref 34] t2) (fun r3 t3 => if r3 = r1 then (if r1 = nI 0 then (if am_in (nI 0) 1 = true then (if lg_cmp (t3.2.1 57 (nI 0 : Int32).toNatClampNeg) ((r2 : Int32).toInt64) = nI 0 then (am_go Xs C ML 2785 [.ref 1001, .ref 0, .ref 34, .ref 57, .int v4, .int r1, .int r2, .null] [] t3) else (some (.inl (some (.int (nI 0))), t3))) else none) else (am_go Xs C ML 2785 [.ref 1001, .ref 0, .ref 34, .ref 57, .int v4, .int r1, .int r2, .null] [] t3)) else (some (.inl (some (.int (nI 0))), t3))))) else none) else none)) else none) else none := by
  refine Eq.trans (g_A dL_law_705 rfl rfl) ?_
  refine Eq.trans (g_A dL_law_706 rfl rfl) ?_
  refine Eq.trans (g_A dL_law_707 rfl rfl) ?_
  refine Eq.trans (g_K (v := nI 1) dL_law_709 rfl rfl) ?_
  refine Eq.trans (g_iadd dL_law_710 rfl) ?_
  refine Eq.trans (g_scld dL_law_711 rfl) ?_
  refine am_ite ?_ rfl
  refine Eq.trans (g_A dL_law_712 rfl rfl) ?_
  refine Eq.trans (g_A dL_law_713 rfl rfl) ?_
  refine Eq.trans (g_K (v := nI 2) dL_law_715 rfl rfl) ?_
  refine Eq.trans (g_iadd dL_law_716 rfl) ?_
  refine Eq.trans (g_scld dL_law_717 rfl) ?_
  refine am_ite ?_ rfl
  refine Eq.trans (g_A dL_law_718 rfl rfl) ?_
  refine Eq.trans (g_sI (as := [.ref 0, .int (Xs.2 (v4 + (nI 1) : Int32).toNatClampNeg), .int (Xs.2 (v4 + (nI 2) : Int32).toNatClampNeg), .ref 57]) (rest := []) dL_law_719 rfl cl319 m284 rfl rfl rfl rfl (Nat.le_of_ble_eq_true rfl) rfl rfl rfl) ?_
  refine am_bI_c (fun r1 t1 => ?_)
  refine Eq.trans (g_ist (k := 5) dL_law_722 (Nat.le_of_ble_eq_true rfl) rfl rfl rfl) ?_
  refine Eq.trans (g_A dL_law_724 rfl rfl) ?_
  refine Eq.trans (g_A dL_law_725 rfl rfl) ?_
  refine Eq.trans (g_A dL_law_726 rfl rfl) ?_
  refine Eq.trans (g_K (v := nI 1) dL_law_728 rfl rfl) ?_
  refine Eq.trans (g_iadd dL_law_729 rfl) ?_
  refine Eq.trans (g_scld dL_law_730 rfl) ?_
  refine am_ite ?_ rfl
  refine Eq.trans (g_A dL_law_731 rfl rfl) ?_
  refine Eq.trans (g_A dL_law_732 rfl rfl) ?_
  refine Eq.trans (g_K (v := nI 2) dL_law_734 rfl rfl) ?_
  refine Eq.trans (g_iadd dL_law_735 rfl) ?_
  refine Eq.trans (g_scld dL_law_736 rfl) ?_
  refine am_ite ?_ rfl
  refine Eq.trans (g_vI (a := 34) (as := [.int (Xs.2 (v4 + (nI 1) : Int32).toNatClampNeg), .int (Xs.2 (v4 + (nI 2) : Int32).toNatClampNeg)]) (rest := []) dL_law_737 cl320 m213 rfl rfl rfl rfl (Nat.le_of_ble_eq_true rfl) rfl rfl rfl rfl) ?_
  refine am_bI_c (fun r2 t2 => ?_)
  refine Eq.trans (g_ist (k := 6) dL_law_740 (Nat.le_of_ble_eq_true rfl) rfl rfl rfl) ?_
  refine Eq.trans (g_A dL_law_742 rfl rfl) ?_
  refine Eq.trans (g_vI (a := 34) (as := []) (rest := []) dL_law_743 cl306 m172 rfl rfl rfl rfl (Nat.le_of_ble_eq_true rfl) rfl rfl rfl rfl) ?_
  refine am_bI_c (fun r3 t3 => ?_)
  refine Eq.trans (g_A dL_law_746 rfl rfl) ?_
  refine Eq.trans (g_iceq (t := 753) dL_law_748 rfl rfl) ?_
  refine am_ite ?_ ?_
  · refine Eq.trans (g_A dL_law_753 rfl rfl) ?_
    refine Eq.trans (g_ifne (t := 770) dL_law_755 rfl rfl) ?_
    refine am_ite ?_ ?_
    · refine Eq.trans (g_A dL_law_758 rfl rfl) ?_
      refine Eq.trans (g_K (v := nI 0) dL_law_759 rfl rfl) ?_
      refine Eq.trans (g_lald dL_law_760 sh57 rfl) ?_
      refine am_ite ?_ rfl
      refine Eq.trans (g_A dL_law_761 rfl rfl) ?_
      refine Eq.trans (g_i2l dL_law_763 rfl) ?_
      refine Eq.trans (g_lcmp dL_law_764 rfl) ?_
      refine Eq.trans (g_ifeq (t := 770) dL_law_765 rfl rfl) ?_
      refine am_ite ?_ ?_
      · refine Eq.trans (g_goto (pc' := 2785) dL_law_770 rfl) ?_
        rfl
      · refine Eq.trans (g_K (v := nI 0) dL_law_768 rfl rfl) ?_
        exact g_zl dL_law_769 rfl (Or.inl rfl)
    · refine Eq.trans (g_goto (pc' := 2785) dL_law_770 rfl) ?_
      rfl
  · refine Eq.trans (g_K (v := nI 0) dL_law_751 rfl rfl) ?_
    exact g_zl dL_law_752 rfl (Or.inl rfl)
theorem ql_773 {Xs : am_X} (hX : 0 < Xs.1) (C : am_C) (σ : am_M) (v4 : Int32) {u5 : Value} {u6 : Value} : am_go Xs C ML 773 [.ref 1001, .ref 0, .ref 34, .ref 57, .int v4, u5, u6, .null] [] σ = if am_in (v4 + (nI 1)) (Xs.1 - 1) = true then (if am_in (v4 + (nI 2)) (Xs.1 - 1) = true then (am_bI (C 285 [.ref 0, .int (Xs.2 (v4 + (nI 1) : Int32).toNatClampNeg), .int (Xs.2 (v4 + (nI 2) : Int32).toNatClampNeg), .ref 57] σ) (fun r1 t1 => if am_in (v4 + (nI 1)) (Xs.1 - 1) = true then (if am_in (v4 + (nI 2)) (Xs.1 - 1) = true then (am_bI (C 214 [.ref 34, .int (Xs.2 (v4 + (nI 1) : Int32).toNatClampNeg), .int (Xs.2 (v4 + (nI 2) : Int32).toNatClampNeg)] t1) (fun r2 t2 => am_bI (C 172 [.ref 34] t2) (fun r3 t3 => if r3 = r1 then (if r1 = nI 0 then (if am_in (nI 0) 1 = true then (if lg_cmp (t3.2.1 57 (nI 0 : Int32).toNatClampNeg) ((r2 : Int32).toInt64) = nI 0 then (am_go Xs C ML 2785 [.ref 1001, .ref 0, .ref 34, .ref 57, .int v4, .int r1, .int r2, .null] [] t3) else (some (.inl (some (.int (nI 0))), t3))) else none) else (am_go Xs C ML 2785 [.ref 1001, .ref 0, .ref 34, .ref 57, .int v4, .int r1, .int r2, .null] [] t3)) else (some (.inl (some (.int (nI 0))), t3))))) else none) else none)) else none) else none := by
  refine Eq.trans (g_A dL_law_773 rfl rfl) ?_
  refine Eq.trans (g_A dL_law_774 rfl rfl) ?_
  refine Eq.trans (g_A dL_law_775 rfl rfl) ?_
  refine Eq.trans (g_K (v := nI 1) dL_law_777 rfl rfl) ?_
  refine Eq.trans (g_iadd dL_law_778 rfl) ?_
  refine Eq.trans (g_scld dL_law_779 rfl) ?_
  refine am_ite ?_ rfl
  refine Eq.trans (g_A dL_law_780 rfl rfl) ?_
  refine Eq.trans (g_A dL_law_781 rfl rfl) ?_
  refine Eq.trans (g_K (v := nI 2) dL_law_783 rfl rfl) ?_
  refine Eq.trans (g_iadd dL_law_784 rfl) ?_
  refine Eq.trans (g_scld dL_law_785 rfl) ?_
  refine am_ite ?_ rfl
  refine Eq.trans (g_A dL_law_786 rfl rfl) ?_
  refine Eq.trans (g_sI (as := [.ref 0, .int (Xs.2 (v4 + (nI 1) : Int32).toNatClampNeg), .int (Xs.2 (v4 + (nI 2) : Int32).toNatClampNeg), .ref 57]) (rest := []) dL_law_787 rfl cl321 m285 rfl rfl rfl rfl (Nat.le_of_ble_eq_true rfl) rfl rfl rfl) ?_
  refine am_bI_c (fun r1 t1 => ?_)
  refine Eq.trans (g_ist (k := 5) dL_law_790 (Nat.le_of_ble_eq_true rfl) rfl rfl rfl) ?_
  refine Eq.trans (g_A dL_law_792 rfl rfl) ?_
  refine Eq.trans (g_A dL_law_793 rfl rfl) ?_
  refine Eq.trans (g_A dL_law_794 rfl rfl) ?_
  refine Eq.trans (g_K (v := nI 1) dL_law_796 rfl rfl) ?_
  refine Eq.trans (g_iadd dL_law_797 rfl) ?_
  refine Eq.trans (g_scld dL_law_798 rfl) ?_
  refine am_ite ?_ rfl
  refine Eq.trans (g_A dL_law_799 rfl rfl) ?_
  refine Eq.trans (g_A dL_law_800 rfl rfl) ?_
  refine Eq.trans (g_K (v := nI 2) dL_law_802 rfl rfl) ?_
  refine Eq.trans (g_iadd dL_law_803 rfl) ?_
  refine Eq.trans (g_scld dL_law_804 rfl) ?_
  refine am_ite ?_ rfl
  refine Eq.trans (g_vI (a := 34) (as := [.int (Xs.2 (v4 + (nI 1) : Int32).toNatClampNeg), .int (Xs.2 (v4 + (nI 2) : Int32).toNatClampNeg)]) (rest := []) dL_law_805 cl322 m214 rfl rfl rfl rfl (Nat.le_of_ble_eq_true rfl) rfl rfl rfl rfl) ?_
  refine am_bI_c (fun r2 t2 => ?_)
  refine Eq.trans (g_ist (k := 6) dL_law_808 (Nat.le_of_ble_eq_true rfl) rfl rfl rfl) ?_
  refine Eq.trans (g_A dL_law_810 rfl rfl) ?_
  refine Eq.trans (g_vI (a := 34) (as := []) (rest := []) dL_law_811 cl306 m172 rfl rfl rfl rfl (Nat.le_of_ble_eq_true rfl) rfl rfl rfl rfl) ?_
  refine am_bI_c (fun r3 t3 => ?_)
  refine Eq.trans (g_A dL_law_814 rfl rfl) ?_
  refine Eq.trans (g_iceq (t := 821) dL_law_816 rfl rfl) ?_
  refine am_ite ?_ ?_
  · refine Eq.trans (g_A dL_law_821 rfl rfl) ?_
    refine Eq.trans (g_ifne (t := 838) dL_law_823 rfl rfl) ?_
    refine am_ite ?_ ?_
    · refine Eq.trans (g_A dL_law_826 rfl rfl) ?_
      refine Eq.trans (g_K (v := nI 0) dL_law_827 rfl rfl) ?_
      refine Eq.trans (g_lald dL_law_828 sh57 rfl) ?_
      refine am_ite ?_ rfl
      refine Eq.trans (g_A dL_law_829 rfl rfl) ?_
      refine Eq.trans (g_i2l dL_law_831 rfl) ?_
      refine Eq.trans (g_lcmp dL_law_832 rfl) ?_
      refine Eq.trans (g_ifeq (t := 838) dL_law_833 rfl rfl) ?_
      refine am_ite ?_ ?_
      · refine Eq.trans (g_goto (pc' := 2785) dL_law_838 rfl) ?_
        rfl
      · refine Eq.trans (g_K (v := nI 0) dL_law_836 rfl rfl) ?_
        exact g_zl dL_law_837 rfl (Or.inl rfl)
    · refine Eq.trans (g_goto (pc' := 2785) dL_law_838 rfl) ?_
      rfl
  · refine Eq.trans (g_K (v := nI 0) dL_law_819 rfl rfl) ?_
    exact g_zl dL_law_820 rfl (Or.inl rfl)
theorem ql_841 {Xs : am_X} (hX : 0 < Xs.1) (C : am_C) (σ : am_M) (v4 : Int32) {u5 : Value} {u6 : Value} : am_go Xs C ML 841 [.ref 1001, .ref 0, .ref 34, .ref 57, .int v4, u5, u6, .null] [] σ = if am_in (v4 + (nI 1)) (Xs.1 - 1) = true then (if am_in (v4 + (nI 2)) (Xs.1 - 1) = true then (am_bI (C 286 [.ref 0, .int (Xs.2 (v4 + (nI 1) : Int32).toNatClampNeg), .int (Xs.2 (v4 + (nI 2) : Int32).toNatClampNeg), .ref 57] σ) (fun r1 t1 => if am_in (v4 + (nI 1)) (Xs.1 - 1) = true then (if am_in (v4 + (nI 2)) (Xs.1 - 1) = true then (am_bI (C 221 [.ref 34, .int (Xs.2 (v4 + (nI 1) : Int32).toNatClampNeg), .int (Xs.2 (v4 + (nI 2) : Int32).toNatClampNeg)] t1) (fun r2 t2 => am_bI (C 172 [.ref 34] t2) (fun r3 t3 => if r3 = r1 then (if r1 = nI 0 then (if am_in (nI 0) 1 = true then (if lg_cmp (t3.2.1 57 (nI 0 : Int32).toNatClampNeg) ((r2 : Int32).toInt64) = nI 0 then (am_go Xs C ML 2785 [.ref 1001, .ref 0, .ref 34, .ref 57, .int v4, .int r1, .int r2, .null] [] t3) else (some (.inl (some (.int (nI 0))), t3))) else none) else (am_go Xs C ML 2785 [.ref 1001, .ref 0, .ref 34, .ref 57, .int v4, .int r1, .int r2, .null] [] t3)) else (some (.inl (some (.int (nI 0))), t3))))) else none) else none)) else none) else none := by
  refine Eq.trans (g_A dL_law_841 rfl rfl) ?_
  refine Eq.trans (g_A dL_law_842 rfl rfl) ?_
  refine Eq.trans (g_A dL_law_843 rfl rfl) ?_
  refine Eq.trans (g_K (v := nI 1) dL_law_845 rfl rfl) ?_
  refine Eq.trans (g_iadd dL_law_846 rfl) ?_
  refine Eq.trans (g_scld dL_law_847 rfl) ?_
  refine am_ite ?_ rfl
  refine Eq.trans (g_A dL_law_848 rfl rfl) ?_
  refine Eq.trans (g_A dL_law_849 rfl rfl) ?_
  refine Eq.trans (g_K (v := nI 2) dL_law_851 rfl rfl) ?_
  refine Eq.trans (g_iadd dL_law_852 rfl) ?_
  refine Eq.trans (g_scld dL_law_853 rfl) ?_
  refine am_ite ?_ rfl
  refine Eq.trans (g_A dL_law_854 rfl rfl) ?_
  refine Eq.trans (g_sI (as := [.ref 0, .int (Xs.2 (v4 + (nI 1) : Int32).toNatClampNeg), .int (Xs.2 (v4 + (nI 2) : Int32).toNatClampNeg), .ref 57]) (rest := []) dL_law_855 rfl cl323 m286 rfl rfl rfl rfl (Nat.le_of_ble_eq_true rfl) rfl rfl rfl) ?_
  refine am_bI_c (fun r1 t1 => ?_)
  refine Eq.trans (g_ist (k := 5) dL_law_858 (Nat.le_of_ble_eq_true rfl) rfl rfl rfl) ?_
  refine Eq.trans (g_A dL_law_860 rfl rfl) ?_
  refine Eq.trans (g_A dL_law_861 rfl rfl) ?_
  refine Eq.trans (g_A dL_law_862 rfl rfl) ?_
  refine Eq.trans (g_K (v := nI 1) dL_law_864 rfl rfl) ?_
  refine Eq.trans (g_iadd dL_law_865 rfl) ?_
  refine Eq.trans (g_scld dL_law_866 rfl) ?_
  refine am_ite ?_ rfl
  refine Eq.trans (g_A dL_law_867 rfl rfl) ?_
  refine Eq.trans (g_A dL_law_868 rfl rfl) ?_
  refine Eq.trans (g_K (v := nI 2) dL_law_870 rfl rfl) ?_
  refine Eq.trans (g_iadd dL_law_871 rfl) ?_
  refine Eq.trans (g_scld dL_law_872 rfl) ?_
  refine am_ite ?_ rfl
  refine Eq.trans (g_vI (a := 34) (as := [.int (Xs.2 (v4 + (nI 1) : Int32).toNatClampNeg), .int (Xs.2 (v4 + (nI 2) : Int32).toNatClampNeg)]) (rest := []) dL_law_873 cl324 m221 rfl rfl rfl rfl (Nat.le_of_ble_eq_true rfl) rfl rfl rfl rfl) ?_
  refine am_bI_c (fun r2 t2 => ?_)
  refine Eq.trans (g_ist (k := 6) dL_law_876 (Nat.le_of_ble_eq_true rfl) rfl rfl rfl) ?_
  refine Eq.trans (g_A dL_law_878 rfl rfl) ?_
  refine Eq.trans (g_vI (a := 34) (as := []) (rest := []) dL_law_879 cl306 m172 rfl rfl rfl rfl (Nat.le_of_ble_eq_true rfl) rfl rfl rfl rfl) ?_
  refine am_bI_c (fun r3 t3 => ?_)
  refine Eq.trans (g_A dL_law_882 rfl rfl) ?_
  refine Eq.trans (g_iceq (t := 889) dL_law_884 rfl rfl) ?_
  refine am_ite ?_ ?_
  · refine Eq.trans (g_A dL_law_889 rfl rfl) ?_
    refine Eq.trans (g_ifne (t := 906) dL_law_891 rfl rfl) ?_
    refine am_ite ?_ ?_
    · refine Eq.trans (g_A dL_law_894 rfl rfl) ?_
      refine Eq.trans (g_K (v := nI 0) dL_law_895 rfl rfl) ?_
      refine Eq.trans (g_lald dL_law_896 sh57 rfl) ?_
      refine am_ite ?_ rfl
      refine Eq.trans (g_A dL_law_897 rfl rfl) ?_
      refine Eq.trans (g_i2l dL_law_899 rfl) ?_
      refine Eq.trans (g_lcmp dL_law_900 rfl) ?_
      refine Eq.trans (g_ifeq (t := 906) dL_law_901 rfl rfl) ?_
      refine am_ite ?_ ?_
      · refine Eq.trans (g_goto (pc' := 2785) dL_law_906 rfl) ?_
        rfl
      · refine Eq.trans (g_K (v := nI 0) dL_law_904 rfl rfl) ?_
        exact g_zl dL_law_905 rfl (Or.inl rfl)
    · refine Eq.trans (g_goto (pc' := 2785) dL_law_906 rfl) ?_
      rfl
  · refine Eq.trans (g_K (v := nI 0) dL_law_887 rfl rfl) ?_
    exact g_zl dL_law_888 rfl (Or.inl rfl)
theorem ql_909 {Xs : am_X} (hX : 0 < Xs.1) (C : am_C) (σ : am_M) (v4 : Int32) {u5 : Value} {u6 : Value} : am_go Xs C ML 909 [.ref 1001, .ref 0, .ref 34, .ref 57, .int v4, u5, u6, .null] [] σ = if am_in (v4 + (nI 1)) (Xs.1 - 1) = true then (am_bI (C 287 [.ref 0, .int (Xs.2 (v4 + (nI 1) : Int32).toNatClampNeg), .ref 57] σ) (fun r1 t1 => if am_in (v4 + (nI 1)) (Xs.1 - 1) = true then (am_bI (C 222 [.ref 34, .int (Xs.2 (v4 + (nI 1) : Int32).toNatClampNeg)] t1) (fun r2 t2 => am_bI (C 172 [.ref 34] t2) (fun r3 t3 => if r3 = r1 then (if r1 = nI 0 then (if am_in (nI 0) 1 = true then (if lg_cmp (t3.2.1 57 (nI 0 : Int32).toNatClampNeg) ((r2 : Int32).toInt64) = nI 0 then (am_go Xs C ML 2785 [.ref 1001, .ref 0, .ref 34, .ref 57, .int v4, .int r1, .int r2, .null] [] t3) else (some (.inl (some (.int (nI 0))), t3))) else none) else (am_go Xs C ML 2785 [.ref 1001, .ref 0, .ref 34, .ref 57, .int v4, .int r1, .int r2, .null] [] t3)) else (some (.inl (some (.int (nI 0))), t3))))) else none)) else none := by
  refine Eq.trans (g_A dL_law_909 rfl rfl) ?_
  refine Eq.trans (g_A dL_law_910 rfl rfl) ?_
  refine Eq.trans (g_A dL_law_911 rfl rfl) ?_
  refine Eq.trans (g_K (v := nI 1) dL_law_913 rfl rfl) ?_
  refine Eq.trans (g_iadd dL_law_914 rfl) ?_
  refine Eq.trans (g_scld dL_law_915 rfl) ?_
  refine am_ite ?_ rfl
  refine Eq.trans (g_A dL_law_916 rfl rfl) ?_
  refine Eq.trans (g_sI (as := [.ref 0, .int (Xs.2 (v4 + (nI 1) : Int32).toNatClampNeg), .ref 57]) (rest := []) dL_law_917 rfl cl325 m287 rfl rfl rfl rfl (Nat.le_of_ble_eq_true rfl) rfl rfl rfl) ?_
  refine am_bI_c (fun r1 t1 => ?_)
  refine Eq.trans (g_ist (k := 5) dL_law_920 (Nat.le_of_ble_eq_true rfl) rfl rfl rfl) ?_
  refine Eq.trans (g_A dL_law_922 rfl rfl) ?_
  refine Eq.trans (g_A dL_law_923 rfl rfl) ?_
  refine Eq.trans (g_A dL_law_924 rfl rfl) ?_
  refine Eq.trans (g_K (v := nI 1) dL_law_926 rfl rfl) ?_
  refine Eq.trans (g_iadd dL_law_927 rfl) ?_
  refine Eq.trans (g_scld dL_law_928 rfl) ?_
  refine am_ite ?_ rfl
  refine Eq.trans (g_vI (a := 34) (as := [.int (Xs.2 (v4 + (nI 1) : Int32).toNatClampNeg)]) (rest := []) dL_law_929 cl326 m222 rfl rfl rfl rfl (Nat.le_of_ble_eq_true rfl) rfl rfl rfl rfl) ?_
  refine am_bI_c (fun r2 t2 => ?_)
  refine Eq.trans (g_ist (k := 6) dL_law_932 (Nat.le_of_ble_eq_true rfl) rfl rfl rfl) ?_
  refine Eq.trans (g_A dL_law_934 rfl rfl) ?_
  refine Eq.trans (g_vI (a := 34) (as := []) (rest := []) dL_law_935 cl306 m172 rfl rfl rfl rfl (Nat.le_of_ble_eq_true rfl) rfl rfl rfl rfl) ?_
  refine am_bI_c (fun r3 t3 => ?_)
  refine Eq.trans (g_A dL_law_938 rfl rfl) ?_
  refine Eq.trans (g_iceq (t := 945) dL_law_940 rfl rfl) ?_
  refine am_ite ?_ ?_
  · refine Eq.trans (g_A dL_law_945 rfl rfl) ?_
    refine Eq.trans (g_ifne (t := 962) dL_law_947 rfl rfl) ?_
    refine am_ite ?_ ?_
    · refine Eq.trans (g_A dL_law_950 rfl rfl) ?_
      refine Eq.trans (g_K (v := nI 0) dL_law_951 rfl rfl) ?_
      refine Eq.trans (g_lald dL_law_952 sh57 rfl) ?_
      refine am_ite ?_ rfl
      refine Eq.trans (g_A dL_law_953 rfl rfl) ?_
      refine Eq.trans (g_i2l dL_law_955 rfl) ?_
      refine Eq.trans (g_lcmp dL_law_956 rfl) ?_
      refine Eq.trans (g_ifeq (t := 962) dL_law_957 rfl rfl) ?_
      refine am_ite ?_ ?_
      · refine Eq.trans (g_goto (pc' := 2785) dL_law_962 rfl) ?_
        rfl
      · refine Eq.trans (g_K (v := nI 0) dL_law_960 rfl rfl) ?_
        exact g_zl dL_law_961 rfl (Or.inl rfl)
    · refine Eq.trans (g_goto (pc' := 2785) dL_law_962 rfl) ?_
      rfl
  · refine Eq.trans (g_K (v := nI 0) dL_law_943 rfl rfl) ?_
    exact g_zl dL_law_944 rfl (Or.inl rfl)
theorem ql_965 {Xs : am_X} (hX : 0 < Xs.1) (C : am_C) (σ : am_M) (v4 : Int32) {u5 : Value} {u6 : Value} : am_go Xs C ML 965 [.ref 1001, .ref 0, .ref 34, .ref 57, .int v4, u5, u6, .null] [] σ = if am_in (v4 + (nI 1)) (Xs.1 - 1) = true then (am_bI (C 288 [.ref 0, .int (Xs.2 (v4 + (nI 1) : Int32).toNatClampNeg), .ref 57] σ) (fun r1 t1 => if am_in (v4 + (nI 1)) (Xs.1 - 1) = true then (am_bI (C 224 [.ref 34, .int (Xs.2 (v4 + (nI 1) : Int32).toNatClampNeg)] t1) (fun r2 t2 => am_bI (C 172 [.ref 34] t2) (fun r3 t3 => if r3 = r1 then (if r1 = nI 0 then (if am_in (nI 0) 1 = true then (if lg_cmp (t3.2.1 57 (nI 0 : Int32).toNatClampNeg) ((r2 : Int32).toInt64) = nI 0 then (am_go Xs C ML 2785 [.ref 1001, .ref 0, .ref 34, .ref 57, .int v4, .int r1, .int r2, .null] [] t3) else (some (.inl (some (.int (nI 0))), t3))) else none) else (am_go Xs C ML 2785 [.ref 1001, .ref 0, .ref 34, .ref 57, .int v4, .int r1, .int r2, .null] [] t3)) else (some (.inl (some (.int (nI 0))), t3))))) else none)) else none := by
  refine Eq.trans (g_A dL_law_965 rfl rfl) ?_
  refine Eq.trans (g_A dL_law_966 rfl rfl) ?_
  refine Eq.trans (g_A dL_law_967 rfl rfl) ?_
  refine Eq.trans (g_K (v := nI 1) dL_law_969 rfl rfl) ?_
  refine Eq.trans (g_iadd dL_law_970 rfl) ?_
  refine Eq.trans (g_scld dL_law_971 rfl) ?_
  refine am_ite ?_ rfl
  refine Eq.trans (g_A dL_law_972 rfl rfl) ?_
  refine Eq.trans (g_sI (as := [.ref 0, .int (Xs.2 (v4 + (nI 1) : Int32).toNatClampNeg), .ref 57]) (rest := []) dL_law_973 rfl cl327 m288 rfl rfl rfl rfl (Nat.le_of_ble_eq_true rfl) rfl rfl rfl) ?_
  refine am_bI_c (fun r1 t1 => ?_)
  refine Eq.trans (g_ist (k := 5) dL_law_976 (Nat.le_of_ble_eq_true rfl) rfl rfl rfl) ?_
  refine Eq.trans (g_A dL_law_978 rfl rfl) ?_
  refine Eq.trans (g_A dL_law_979 rfl rfl) ?_
  refine Eq.trans (g_A dL_law_980 rfl rfl) ?_
  refine Eq.trans (g_K (v := nI 1) dL_law_982 rfl rfl) ?_
  refine Eq.trans (g_iadd dL_law_983 rfl) ?_
  refine Eq.trans (g_scld dL_law_984 rfl) ?_
  refine am_ite ?_ rfl
  refine Eq.trans (g_vI (a := 34) (as := [.int (Xs.2 (v4 + (nI 1) : Int32).toNatClampNeg)]) (rest := []) dL_law_985 cl328 m224 rfl rfl rfl rfl (Nat.le_of_ble_eq_true rfl) rfl rfl rfl rfl) ?_
  refine am_bI_c (fun r2 t2 => ?_)
  refine Eq.trans (g_ist (k := 6) dL_law_988 (Nat.le_of_ble_eq_true rfl) rfl rfl rfl) ?_
  refine Eq.trans (g_A dL_law_990 rfl rfl) ?_
  refine Eq.trans (g_vI (a := 34) (as := []) (rest := []) dL_law_991 cl306 m172 rfl rfl rfl rfl (Nat.le_of_ble_eq_true rfl) rfl rfl rfl rfl) ?_
  refine am_bI_c (fun r3 t3 => ?_)
  refine Eq.trans (g_A dL_law_994 rfl rfl) ?_
  refine Eq.trans (g_iceq (t := 1001) dL_law_996 rfl rfl) ?_
  refine am_ite ?_ ?_
  · refine Eq.trans (g_A dL_law_1001 rfl rfl) ?_
    refine Eq.trans (g_ifne (t := 1018) dL_law_1003 rfl rfl) ?_
    refine am_ite ?_ ?_
    · refine Eq.trans (g_A dL_law_1006 rfl rfl) ?_
      refine Eq.trans (g_K (v := nI 0) dL_law_1007 rfl rfl) ?_
      refine Eq.trans (g_lald dL_law_1008 sh57 rfl) ?_
      refine am_ite ?_ rfl
      refine Eq.trans (g_A dL_law_1009 rfl rfl) ?_
      refine Eq.trans (g_i2l dL_law_1011 rfl) ?_
      refine Eq.trans (g_lcmp dL_law_1012 rfl) ?_
      refine Eq.trans (g_ifeq (t := 1018) dL_law_1013 rfl rfl) ?_
      refine am_ite ?_ ?_
      · refine Eq.trans (g_goto (pc' := 2785) dL_law_1018 rfl) ?_
        rfl
      · refine Eq.trans (g_K (v := nI 0) dL_law_1016 rfl rfl) ?_
        exact g_zl dL_law_1017 rfl (Or.inl rfl)
    · refine Eq.trans (g_goto (pc' := 2785) dL_law_1018 rfl) ?_
      rfl
  · refine Eq.trans (g_K (v := nI 0) dL_law_999 rfl rfl) ?_
    exact g_zl dL_law_1000 rfl (Or.inl rfl)
theorem ql_1021 {Xs : am_X} (hX : 0 < Xs.1) (C : am_C) (σ : am_M) (v4 : Int32) {u5 : Value} {u6 : Value} : am_go Xs C ML 1021 [.ref 1001, .ref 0, .ref 34, .ref 57, .int v4, u5, u6, .null] [] σ = if am_in (v4 + (nI 1)) (Xs.1 - 1) = true then (if am_in (v4 + (nI 2)) (Xs.1 - 1) = true then (if Xs.2 (v4 + (nI 2) : Int32).toNatClampNeg = nI 0 then (am_bI (C 289 [.ref 0, .int (Xs.2 (v4 + (nI 1) : Int32).toNatClampNeg), .int (nI 0), .ref 57] σ) (fun r1 t1 => if am_in (v4 + (nI 1)) (Xs.1 - 1) = true then (if am_in (v4 + (nI 2)) (Xs.1 - 1) = true then (if Xs.2 (v4 + (nI 2) : Int32).toNatClampNeg = nI 0 then (am_bI (C 225 [.ref 34, .int (Xs.2 (v4 + (nI 1) : Int32).toNatClampNeg), .int (nI 0)] t1) (fun r2 t2 => am_bI (C 172 [.ref 34] t2) (fun r3 t3 => if r3 = r1 then (if r1 = nI 0 then (if am_in (nI 0) 1 = true then (if r2 = nI 0 then (if lg_cmp (t3.2.1 57 (nI 0 : Int32).toNatClampNeg) (0 : Int64) = nI 0 then (am_go Xs C ML 2785 [.ref 1001, .ref 0, .ref 34, .ref 57, .int v4, .int r1, .int r2, .null] [] t3) else (some (.inl (some (.int (nI 0))), t3))) else (if lg_cmp (t3.2.1 57 (nI 0 : Int32).toNatClampNeg) (1 : Int64) = nI 0 then (am_go Xs C ML 2785 [.ref 1001, .ref 0, .ref 34, .ref 57, .int v4, .int r1, .int r2, .null] [] t3) else (some (.inl (some (.int (nI 0))), t3)))) else none) else (am_go Xs C ML 2785 [.ref 1001, .ref 0, .ref 34, .ref 57, .int v4, .int r1, .int r2, .null] [] t3)) else (some (.inl (some (.int (nI 0))), t3))))) else (am_bI (C 225 [.ref 34, .int (Xs.2 (v4 + (nI 1) : Int32).toNatClampNeg), .int (nI 1)] t1) (fun r4 t4 => am_bI (C 172 [.ref 34] t4) (fun r5 t5 => if r5 = r1 then (if r1 = nI 0 then (if am_in (nI 0) 1 = true then (if r4 = nI 0 then (if lg_cmp (t5.2.1 57 (nI 0 : Int32).toNatClampNeg) (0 : Int64) = nI 0 then (am_go Xs C ML 2785 [.ref 1001, .ref 0, .ref 34, .ref 57, .int v4, .int r1, .int r4, .null] [] t5) else (some (.inl (some (.int (nI 0))), t5))) else (if lg_cmp (t5.2.1 57 (nI 0 : Int32).toNatClampNeg) (1 : Int64) = nI 0 then (am_go Xs C ML 2785 [.ref 1001, .ref 0, .ref 34, .ref 57, .int v4, .int r1, .int r4, .null] [] t5) else (some (.inl (some (.int (nI 0))), t5)))) else none) else (am_go Xs C ML 2785 [.ref 1001, .ref 0, .ref 34, .ref 57, .int v4, .int r1, .int r4, .null] [] t5)) else (some (.inl (some (.int (nI 0))), t5)))))) else none) else none)) else (am_bI (C 289 [.ref 0, .int (Xs.2 (v4 + (nI 1) : Int32).toNatClampNeg), .int (nI 1), .ref 57] σ) (fun r6 t6 => if am_in (v4 + (nI 1)) (Xs.1 - 1) = true then (if am_in (v4 + (nI 2)) (Xs.1 - 1) = true then (if Xs.2 (v4 + (nI 2) : Int32).toNatClampNeg = nI 0 then (am_bI (C 225 [.ref 34, .int (Xs.2 (v4 + (nI 1) : Int32).toNatClampNeg), .int (nI 0)] t6) (fun r7 t7 => am_bI (C 172 [.ref 34] t7) (fun r8 t8 => if r8 = r6 then (if r6 = nI 0 then (if am_in (nI 0) 1 = true then (if r7 = nI 0 then (if lg_cmp (t8.2.1 57 (nI 0 : Int32).toNatClampNeg) (0 : Int64) = nI 0 then (am_go Xs C ML 2785 [.ref 1001, .ref 0, .ref 34, .ref 57, .int v4, .int r6, .int r7, .null] [] t8) else (some (.inl (some (.int (nI 0))), t8))) else (if lg_cmp (t8.2.1 57 (nI 0 : Int32).toNatClampNeg) (1 : Int64) = nI 0 then (am_go Xs C ML 2785 [.ref 1001, .ref 0, .ref 34, .ref 57, .int v4, .int r6, .int r7, .null] [] t8) else (some (.inl (some (.int (nI 0))), t8)))) else none) else (am_go Xs C ML 2785 [.ref 1001, .ref 0, .ref 34, .ref 57, .int v4, .int r6, .int r7, .null] [] t8)) else (some (.inl (some (.int (nI 0))), t8))))) else (am_bI (C 225 [.ref 34, .int (Xs.2 (v4 + (nI 1) : Int32).toNatClampNeg), .int (nI 1)] t6) (fun r9 t9 => am_bI (C 172 [.ref 34] t9) (fun r10 t10 => if r10 = r6 then (if r6 = nI 0 then (if am_in (nI 0) 1 = true then (if r9 = nI 0 then (if lg_cmp (t10.2.1 57 (nI 0 : Int32).toNatClampNeg) (0 : Int64) = nI 0 then (am_go Xs C ML 2785 [.ref 1001, .ref 0, .ref 34, .ref 57, .int v4, .int r6, .int r9, .null] [] t10) else (some (.inl (some (.int (nI 0))), t10))) else (if lg_cmp (t10.2.1 57 (nI 0 : Int32).toNatClampNeg) (1 : Int64) = nI 0 then (am_go Xs C ML 2785 [.ref 1001, .ref 0, .ref 34, .ref 57, .int v4, .int r6, .int r9, .null] [] t10) else (some (.inl (some (.int (nI 0))), t10)))) else none) else (am_go Xs C ML 2785 [.ref 1001, .ref 0, .ref 34, .ref 57, .int v4, .int r6, .int r9, .null] [] t10)) else (some (.inl (some (.int (nI 0))), t10)))))) else none) else none))) else none) else none := by
  refine Eq.trans (g_A dL_law_1021 rfl rfl) ?_
  refine Eq.trans (g_A dL_law_1022 rfl rfl) ?_
  refine Eq.trans (g_A dL_law_1023 rfl rfl) ?_
  refine Eq.trans (g_K (v := nI 1) dL_law_1025 rfl rfl) ?_
  refine Eq.trans (g_iadd dL_law_1026 rfl) ?_
  refine Eq.trans (g_scld dL_law_1027 rfl) ?_
  refine am_ite ?_ rfl
  refine Eq.trans (g_A dL_law_1028 rfl rfl) ?_
  refine Eq.trans (g_A dL_law_1029 rfl rfl) ?_
  refine Eq.trans (g_K (v := nI 2) dL_law_1031 rfl rfl) ?_
  refine Eq.trans (g_iadd dL_law_1032 rfl) ?_
  refine Eq.trans (g_scld dL_law_1033 rfl) ?_
  refine am_ite ?_ rfl
  refine Eq.trans (g_ifeq (t := 1041) dL_law_1034 rfl rfl) ?_
  refine am_ite ?_ ?_
  · refine Eq.trans (g_K (v := nI 0) dL_law_1041 rfl rfl) ?_
    refine Eq.trans (g_A dL_law_1042 rfl rfl) ?_
    refine Eq.trans (g_sI (as := [.ref 0, .int (Xs.2 (v4 + (nI 1) : Int32).toNatClampNeg), .int (nI 0), .ref 57]) (rest := []) dL_law_1043 rfl cl329 m289 rfl rfl rfl rfl (Nat.le_of_ble_eq_true rfl) rfl rfl rfl) ?_
    refine am_bI_c (fun r1 t1 => ?_)
    refine Eq.trans (g_ist (k := 5) dL_law_1046 (Nat.le_of_ble_eq_true rfl) rfl rfl rfl) ?_
    refine Eq.trans (g_A dL_law_1048 rfl rfl) ?_
    refine Eq.trans (g_A dL_law_1049 rfl rfl) ?_
    refine Eq.trans (g_A dL_law_1050 rfl rfl) ?_
    refine Eq.trans (g_K (v := nI 1) dL_law_1052 rfl rfl) ?_
    refine Eq.trans (g_iadd dL_law_1053 rfl) ?_
    refine Eq.trans (g_scld dL_law_1054 rfl) ?_
    refine am_ite ?_ rfl
    refine Eq.trans (g_A dL_law_1055 rfl rfl) ?_
    refine Eq.trans (g_A dL_law_1056 rfl rfl) ?_
    refine Eq.trans (g_K (v := nI 2) dL_law_1058 rfl rfl) ?_
    refine Eq.trans (g_iadd dL_law_1059 rfl) ?_
    refine Eq.trans (g_scld dL_law_1060 rfl) ?_
    refine am_ite ?_ rfl
    refine Eq.trans (g_ifeq (t := 1068) dL_law_1061 rfl rfl) ?_
    refine am_ite ?_ ?_
    · refine Eq.trans (g_K (v := nI 0) dL_law_1068 rfl rfl) ?_
      refine Eq.trans (g_vI (a := 34) (as := [.int (Xs.2 (v4 + (nI 1) : Int32).toNatClampNeg), .int (nI 0)]) (rest := []) dL_law_1069 cl330 m225 rfl rfl rfl rfl (Nat.le_of_ble_eq_true rfl) rfl rfl rfl rfl) ?_
      refine am_bI_c (fun r2 t2 => ?_)
      refine Eq.trans (g_ist (k := 6) dL_law_1072 (Nat.le_of_ble_eq_true rfl) rfl rfl rfl) ?_
      refine Eq.trans (g_A dL_law_1074 rfl rfl) ?_
      refine Eq.trans (g_vI (a := 34) (as := []) (rest := []) dL_law_1075 cl306 m172 rfl rfl rfl rfl (Nat.le_of_ble_eq_true rfl) rfl rfl rfl rfl) ?_
      refine am_bI_c (fun r3 t3 => ?_)
      refine Eq.trans (g_A dL_law_1078 rfl rfl) ?_
      refine Eq.trans (g_iceq (t := 1085) dL_law_1080 rfl rfl) ?_
      refine am_ite ?_ ?_
      · refine Eq.trans (g_A dL_law_1085 rfl rfl) ?_
        refine Eq.trans (g_ifne (t := 1109) dL_law_1087 rfl rfl) ?_
        refine am_ite ?_ ?_
        · refine Eq.trans (g_A dL_law_1090 rfl rfl) ?_
          refine Eq.trans (g_K (v := nI 0) dL_law_1091 rfl rfl) ?_
          refine Eq.trans (g_lald dL_law_1092 sh57 rfl) ?_
          refine am_ite ?_ rfl
          refine Eq.trans (g_A dL_law_1093 rfl rfl) ?_
          refine Eq.trans (g_ifeq (t := 1102) dL_law_1095 rfl rfl) ?_
          refine am_ite ?_ ?_
          · refine Eq.trans (g_KJ (v := (0 : Int64)) dL_law_1102 rfl rfl) ?_
            refine Eq.trans (g_lcmp dL_law_1103 rfl) ?_
            refine Eq.trans (g_ifeq (t := 1109) dL_law_1104 rfl rfl) ?_
            refine am_ite ?_ ?_
            · refine Eq.trans (g_goto (pc' := 2785) dL_law_1109 rfl) ?_
              rfl
            · refine Eq.trans (g_K (v := nI 0) dL_law_1107 rfl rfl) ?_
              exact g_zl dL_law_1108 rfl (Or.inl rfl)
          · refine Eq.trans (g_KJ (v := (1 : Int64)) dL_law_1098 rfl rfl) ?_
            refine Eq.trans (g_goto (pc' := 1103) dL_law_1099 rfl) ?_
            refine Eq.trans (g_lcmp dL_law_1103 rfl) ?_
            refine Eq.trans (g_ifeq (t := 1109) dL_law_1104 rfl rfl) ?_
            refine am_ite ?_ ?_
            · refine Eq.trans (g_goto (pc' := 2785) dL_law_1109 rfl) ?_
              rfl
            · refine Eq.trans (g_K (v := nI 0) dL_law_1107 rfl rfl) ?_
              exact g_zl dL_law_1108 rfl (Or.inl rfl)
        · refine Eq.trans (g_goto (pc' := 2785) dL_law_1109 rfl) ?_
          rfl
      · refine Eq.trans (g_K (v := nI 0) dL_law_1083 rfl rfl) ?_
        exact g_zl dL_law_1084 rfl (Or.inl rfl)
    · refine Eq.trans (g_K (v := nI 1) dL_law_1064 rfl rfl) ?_
      refine Eq.trans (g_goto (pc' := 1069) dL_law_1065 rfl) ?_
      refine Eq.trans (g_vI (a := 34) (as := [.int (Xs.2 (v4 + (nI 1) : Int32).toNatClampNeg), .int (nI 1)]) (rest := []) dL_law_1069 cl330 m225 rfl rfl rfl rfl (Nat.le_of_ble_eq_true rfl) rfl rfl rfl rfl) ?_
      refine am_bI_c (fun r4 t4 => ?_)
      refine Eq.trans (g_ist (k := 6) dL_law_1072 (Nat.le_of_ble_eq_true rfl) rfl rfl rfl) ?_
      refine Eq.trans (g_A dL_law_1074 rfl rfl) ?_
      refine Eq.trans (g_vI (a := 34) (as := []) (rest := []) dL_law_1075 cl306 m172 rfl rfl rfl rfl (Nat.le_of_ble_eq_true rfl) rfl rfl rfl rfl) ?_
      refine am_bI_c (fun r5 t5 => ?_)
      refine Eq.trans (g_A dL_law_1078 rfl rfl) ?_
      refine Eq.trans (g_iceq (t := 1085) dL_law_1080 rfl rfl) ?_
      refine am_ite ?_ ?_
      · refine Eq.trans (g_A dL_law_1085 rfl rfl) ?_
        refine Eq.trans (g_ifne (t := 1109) dL_law_1087 rfl rfl) ?_
        refine am_ite ?_ ?_
        · refine Eq.trans (g_A dL_law_1090 rfl rfl) ?_
          refine Eq.trans (g_K (v := nI 0) dL_law_1091 rfl rfl) ?_
          refine Eq.trans (g_lald dL_law_1092 sh57 rfl) ?_
          refine am_ite ?_ rfl
          refine Eq.trans (g_A dL_law_1093 rfl rfl) ?_
          refine Eq.trans (g_ifeq (t := 1102) dL_law_1095 rfl rfl) ?_
          refine am_ite ?_ ?_
          · refine Eq.trans (g_KJ (v := (0 : Int64)) dL_law_1102 rfl rfl) ?_
            refine Eq.trans (g_lcmp dL_law_1103 rfl) ?_
            refine Eq.trans (g_ifeq (t := 1109) dL_law_1104 rfl rfl) ?_
            refine am_ite ?_ ?_
            · refine Eq.trans (g_goto (pc' := 2785) dL_law_1109 rfl) ?_
              rfl
            · refine Eq.trans (g_K (v := nI 0) dL_law_1107 rfl rfl) ?_
              exact g_zl dL_law_1108 rfl (Or.inl rfl)
          · refine Eq.trans (g_KJ (v := (1 : Int64)) dL_law_1098 rfl rfl) ?_
            refine Eq.trans (g_goto (pc' := 1103) dL_law_1099 rfl) ?_
            refine Eq.trans (g_lcmp dL_law_1103 rfl) ?_
            refine Eq.trans (g_ifeq (t := 1109) dL_law_1104 rfl rfl) ?_
            refine am_ite ?_ ?_
            · refine Eq.trans (g_goto (pc' := 2785) dL_law_1109 rfl) ?_
              rfl
            · refine Eq.trans (g_K (v := nI 0) dL_law_1107 rfl rfl) ?_
              exact g_zl dL_law_1108 rfl (Or.inl rfl)
        · refine Eq.trans (g_goto (pc' := 2785) dL_law_1109 rfl) ?_
          rfl
      · refine Eq.trans (g_K (v := nI 0) dL_law_1083 rfl rfl) ?_
        exact g_zl dL_law_1084 rfl (Or.inl rfl)
  · refine Eq.trans (g_K (v := nI 1) dL_law_1037 rfl rfl) ?_
    refine Eq.trans (g_goto (pc' := 1042) dL_law_1038 rfl) ?_
    refine Eq.trans (g_A dL_law_1042 rfl rfl) ?_
    refine Eq.trans (g_sI (as := [.ref 0, .int (Xs.2 (v4 + (nI 1) : Int32).toNatClampNeg), .int (nI 1), .ref 57]) (rest := []) dL_law_1043 rfl cl329 m289 rfl rfl rfl rfl (Nat.le_of_ble_eq_true rfl) rfl rfl rfl) ?_
    refine am_bI_c (fun r6 t6 => ?_)
    refine Eq.trans (g_ist (k := 5) dL_law_1046 (Nat.le_of_ble_eq_true rfl) rfl rfl rfl) ?_
    refine Eq.trans (g_A dL_law_1048 rfl rfl) ?_
    refine Eq.trans (g_A dL_law_1049 rfl rfl) ?_
    refine Eq.trans (g_A dL_law_1050 rfl rfl) ?_
    refine Eq.trans (g_K (v := nI 1) dL_law_1052 rfl rfl) ?_
    refine Eq.trans (g_iadd dL_law_1053 rfl) ?_
    refine Eq.trans (g_scld dL_law_1054 rfl) ?_
    refine am_ite ?_ rfl
    refine Eq.trans (g_A dL_law_1055 rfl rfl) ?_
    refine Eq.trans (g_A dL_law_1056 rfl rfl) ?_
    refine Eq.trans (g_K (v := nI 2) dL_law_1058 rfl rfl) ?_
    refine Eq.trans (g_iadd dL_law_1059 rfl) ?_
    refine Eq.trans (g_scld dL_law_1060 rfl) ?_
    refine am_ite ?_ rfl
    refine Eq.trans (g_ifeq (t := 1068) dL_law_1061 rfl rfl) ?_
    refine am_ite ?_ ?_
    · refine Eq.trans (g_K (v := nI 0) dL_law_1068 rfl rfl) ?_
      refine Eq.trans (g_vI (a := 34) (as := [.int (Xs.2 (v4 + (nI 1) : Int32).toNatClampNeg), .int (nI 0)]) (rest := []) dL_law_1069 cl330 m225 rfl rfl rfl rfl (Nat.le_of_ble_eq_true rfl) rfl rfl rfl rfl) ?_
      refine am_bI_c (fun r7 t7 => ?_)
      refine Eq.trans (g_ist (k := 6) dL_law_1072 (Nat.le_of_ble_eq_true rfl) rfl rfl rfl) ?_
      refine Eq.trans (g_A dL_law_1074 rfl rfl) ?_
      refine Eq.trans (g_vI (a := 34) (as := []) (rest := []) dL_law_1075 cl306 m172 rfl rfl rfl rfl (Nat.le_of_ble_eq_true rfl) rfl rfl rfl rfl) ?_
      refine am_bI_c (fun r8 t8 => ?_)
      refine Eq.trans (g_A dL_law_1078 rfl rfl) ?_
      refine Eq.trans (g_iceq (t := 1085) dL_law_1080 rfl rfl) ?_
      refine am_ite ?_ ?_
      · refine Eq.trans (g_A dL_law_1085 rfl rfl) ?_
        refine Eq.trans (g_ifne (t := 1109) dL_law_1087 rfl rfl) ?_
        refine am_ite ?_ ?_
        · refine Eq.trans (g_A dL_law_1090 rfl rfl) ?_
          refine Eq.trans (g_K (v := nI 0) dL_law_1091 rfl rfl) ?_
          refine Eq.trans (g_lald dL_law_1092 sh57 rfl) ?_
          refine am_ite ?_ rfl
          refine Eq.trans (g_A dL_law_1093 rfl rfl) ?_
          refine Eq.trans (g_ifeq (t := 1102) dL_law_1095 rfl rfl) ?_
          refine am_ite ?_ ?_
          · refine Eq.trans (g_KJ (v := (0 : Int64)) dL_law_1102 rfl rfl) ?_
            refine Eq.trans (g_lcmp dL_law_1103 rfl) ?_
            refine Eq.trans (g_ifeq (t := 1109) dL_law_1104 rfl rfl) ?_
            refine am_ite ?_ ?_
            · refine Eq.trans (g_goto (pc' := 2785) dL_law_1109 rfl) ?_
              rfl
            · refine Eq.trans (g_K (v := nI 0) dL_law_1107 rfl rfl) ?_
              exact g_zl dL_law_1108 rfl (Or.inl rfl)
          · refine Eq.trans (g_KJ (v := (1 : Int64)) dL_law_1098 rfl rfl) ?_
            refine Eq.trans (g_goto (pc' := 1103) dL_law_1099 rfl) ?_
            refine Eq.trans (g_lcmp dL_law_1103 rfl) ?_
            refine Eq.trans (g_ifeq (t := 1109) dL_law_1104 rfl rfl) ?_
            refine am_ite ?_ ?_
            · refine Eq.trans (g_goto (pc' := 2785) dL_law_1109 rfl) ?_
              rfl
            · refine Eq.trans (g_K (v := nI 0) dL_law_1107 rfl rfl) ?_
              exact g_zl dL_law_1108 rfl (Or.inl rfl)
        · refine Eq.trans (g_goto (pc' := 2785) dL_law_1109 rfl) ?_
          rfl
      · refine Eq.trans (g_K (v := nI 0) dL_law_1083 rfl rfl) ?_
        exact g_zl dL_law_1084 rfl (Or.inl rfl)
    · refine Eq.trans (g_K (v := nI 1) dL_law_1064 rfl rfl) ?_
      refine Eq.trans (g_goto (pc' := 1069) dL_law_1065 rfl) ?_
      refine Eq.trans (g_vI (a := 34) (as := [.int (Xs.2 (v4 + (nI 1) : Int32).toNatClampNeg), .int (nI 1)]) (rest := []) dL_law_1069 cl330 m225 rfl rfl rfl rfl (Nat.le_of_ble_eq_true rfl) rfl rfl rfl rfl) ?_
      refine am_bI_c (fun r9 t9 => ?_)
      refine Eq.trans (g_ist (k := 6) dL_law_1072 (Nat.le_of_ble_eq_true rfl) rfl rfl rfl) ?_
      refine Eq.trans (g_A dL_law_1074 rfl rfl) ?_
      refine Eq.trans (g_vI (a := 34) (as := []) (rest := []) dL_law_1075 cl306 m172 rfl rfl rfl rfl (Nat.le_of_ble_eq_true rfl) rfl rfl rfl rfl) ?_
      refine am_bI_c (fun r10 t10 => ?_)
      refine Eq.trans (g_A dL_law_1078 rfl rfl) ?_
      refine Eq.trans (g_iceq (t := 1085) dL_law_1080 rfl rfl) ?_
      refine am_ite ?_ ?_
      · refine Eq.trans (g_A dL_law_1085 rfl rfl) ?_
        refine Eq.trans (g_ifne (t := 1109) dL_law_1087 rfl rfl) ?_
        refine am_ite ?_ ?_
        · refine Eq.trans (g_A dL_law_1090 rfl rfl) ?_
          refine Eq.trans (g_K (v := nI 0) dL_law_1091 rfl rfl) ?_
          refine Eq.trans (g_lald dL_law_1092 sh57 rfl) ?_
          refine am_ite ?_ rfl
          refine Eq.trans (g_A dL_law_1093 rfl rfl) ?_
          refine Eq.trans (g_ifeq (t := 1102) dL_law_1095 rfl rfl) ?_
          refine am_ite ?_ ?_
          · refine Eq.trans (g_KJ (v := (0 : Int64)) dL_law_1102 rfl rfl) ?_
            refine Eq.trans (g_lcmp dL_law_1103 rfl) ?_
            refine Eq.trans (g_ifeq (t := 1109) dL_law_1104 rfl rfl) ?_
            refine am_ite ?_ ?_
            · refine Eq.trans (g_goto (pc' := 2785) dL_law_1109 rfl) ?_
              rfl
            · refine Eq.trans (g_K (v := nI 0) dL_law_1107 rfl rfl) ?_
              exact g_zl dL_law_1108 rfl (Or.inl rfl)
          · refine Eq.trans (g_KJ (v := (1 : Int64)) dL_law_1098 rfl rfl) ?_
            refine Eq.trans (g_goto (pc' := 1103) dL_law_1099 rfl) ?_
            refine Eq.trans (g_lcmp dL_law_1103 rfl) ?_
            refine Eq.trans (g_ifeq (t := 1109) dL_law_1104 rfl rfl) ?_
            refine am_ite ?_ ?_
            · refine Eq.trans (g_goto (pc' := 2785) dL_law_1109 rfl) ?_
              rfl
            · refine Eq.trans (g_K (v := nI 0) dL_law_1107 rfl rfl) ?_
              exact g_zl dL_law_1108 rfl (Or.inl rfl)
        · refine Eq.trans (g_goto (pc' := 2785) dL_law_1109 rfl) ?_
          rfl
      · refine Eq.trans (g_K (v := nI 0) dL_law_1083 rfl rfl) ?_
        exact g_zl dL_law_1084 rfl (Or.inl rfl)
theorem ql_1112 {Xs : am_X} (hX : 0 < Xs.1) (C : am_C) (σ : am_M) (v4 : Int32) {u5 : Value} {u6 : Value} : am_go Xs C ML 1112 [.ref 1001, .ref 0, .ref 34, .ref 57, .int v4, u5, u6, .null] [] σ = am_bI (C 111 [.ref 0] σ) (fun r1 t1 => am_bI (C 227 [.ref 34] t1) (fun r2 t2 => if r1 = r2 then (am_go Xs C ML 2785 [.ref 1001, .ref 0, .ref 34, .ref 57, .int v4, u5, u6, .null] [] t2) else (some (.inl (some (.int (nI 0))), t2)))) := by
  refine Eq.trans (g_A dL_law_1112 rfl rfl) ?_
  refine Eq.trans (g_vI (a := 0) (as := []) (rest := []) dL_law_1113 cl331 m111 rfl rfl rfl rfl (Nat.le_of_ble_eq_true rfl) rfl rfl rfl rfl) ?_
  refine am_bI_c (fun r1 t1 => ?_)
  refine Eq.trans (g_A dL_law_1116 rfl rfl) ?_
  refine Eq.trans (g_vI (a := 34) (as := []) (rest := [.int r1]) dL_law_1117 cl332 m227 rfl rfl rfl rfl (Nat.le_of_ble_eq_true rfl) rfl rfl rfl rfl) ?_
  refine am_bI_c (fun r2 t2 => ?_)
  refine Eq.trans (g_iceq (t := 2785) dL_law_1120 rfl rfl) ?_
  refine am_ite ?_ ?_
  · rfl
  · refine Eq.trans (g_K (v := nI 0) dL_law_1123 rfl rfl) ?_
    exact g_zl dL_law_1124 rfl (Or.inl rfl)
theorem ql_1125 {Xs : am_X} (hX : 0 < Xs.1) (C : am_C) (σ : am_M) (v4 : Int32) {u5 : Value} {u6 : Value} : am_go Xs C ML 1125 [.ref 1001, .ref 0, .ref 34, .ref 57, .int v4, u5, u6, .null] [] σ = if am_in (v4 + (nI 1)) (Xs.1 - 1) = true then (if am_in (v4 + (nI 2)) (Xs.1 - 1) = true then (am_bI (C 290 [.ref 0, .int (Xs.2 (v4 + (nI 1) : Int32).toNatClampNeg), .int (Xs.2 (v4 + (nI 2) : Int32).toNatClampNeg), .ref 57] σ) (fun r1 t1 => if am_in (v4 + (nI 1)) (Xs.1 - 1) = true then (if am_in (v4 + (nI 2)) (Xs.1 - 1) = true then (am_bI (C 216 [.ref 34, .int (Xs.2 (v4 + (nI 1) : Int32).toNatClampNeg), .int (Xs.2 (v4 + (nI 2) : Int32).toNatClampNeg)] t1) (fun r2 t2 => am_bI (C 172 [.ref 34] t2) (fun r3 t3 => if r3 = r1 then (if r1 = nI 0 then (if am_in (nI 0) 1 = true then (if lg_cmp (t3.2.1 57 (nI 0 : Int32).toNatClampNeg) ((r2 : Int32).toInt64) = nI 0 then (am_go Xs C ML 2785 [.ref 1001, .ref 0, .ref 34, .ref 57, .int v4, .int r1, .int r2, .null] [] t3) else (some (.inl (some (.int (nI 0))), t3))) else none) else (am_go Xs C ML 2785 [.ref 1001, .ref 0, .ref 34, .ref 57, .int v4, .int r1, .int r2, .null] [] t3)) else (some (.inl (some (.int (nI 0))), t3))))) else none) else none)) else none) else none := by
  refine Eq.trans (g_A dL_law_1125 rfl rfl) ?_
  refine Eq.trans (g_A dL_law_1126 rfl rfl) ?_
  refine Eq.trans (g_A dL_law_1127 rfl rfl) ?_
  refine Eq.trans (g_K (v := nI 1) dL_law_1129 rfl rfl) ?_
  refine Eq.trans (g_iadd dL_law_1130 rfl) ?_
  refine Eq.trans (g_scld dL_law_1131 rfl) ?_
  refine am_ite ?_ rfl
  refine Eq.trans (g_A dL_law_1132 rfl rfl) ?_
  refine Eq.trans (g_A dL_law_1133 rfl rfl) ?_
  refine Eq.trans (g_K (v := nI 2) dL_law_1135 rfl rfl) ?_
  refine Eq.trans (g_iadd dL_law_1136 rfl) ?_
  refine Eq.trans (g_scld dL_law_1137 rfl) ?_
  refine am_ite ?_ rfl
  refine Eq.trans (g_A dL_law_1138 rfl rfl) ?_
  refine Eq.trans (g_sI (as := [.ref 0, .int (Xs.2 (v4 + (nI 1) : Int32).toNatClampNeg), .int (Xs.2 (v4 + (nI 2) : Int32).toNatClampNeg), .ref 57]) (rest := []) dL_law_1139 rfl cl333 m290 rfl rfl rfl rfl (Nat.le_of_ble_eq_true rfl) rfl rfl rfl) ?_
  refine am_bI_c (fun r1 t1 => ?_)
  refine Eq.trans (g_ist (k := 5) dL_law_1142 (Nat.le_of_ble_eq_true rfl) rfl rfl rfl) ?_
  refine Eq.trans (g_A dL_law_1144 rfl rfl) ?_
  refine Eq.trans (g_A dL_law_1145 rfl rfl) ?_
  refine Eq.trans (g_A dL_law_1146 rfl rfl) ?_
  refine Eq.trans (g_K (v := nI 1) dL_law_1148 rfl rfl) ?_
  refine Eq.trans (g_iadd dL_law_1149 rfl) ?_
  refine Eq.trans (g_scld dL_law_1150 rfl) ?_
  refine am_ite ?_ rfl
  refine Eq.trans (g_A dL_law_1151 rfl rfl) ?_
  refine Eq.trans (g_A dL_law_1152 rfl rfl) ?_
  refine Eq.trans (g_K (v := nI 2) dL_law_1154 rfl rfl) ?_
  refine Eq.trans (g_iadd dL_law_1155 rfl) ?_
  refine Eq.trans (g_scld dL_law_1156 rfl) ?_
  refine am_ite ?_ rfl
  refine Eq.trans (g_vI (a := 34) (as := [.int (Xs.2 (v4 + (nI 1) : Int32).toNatClampNeg), .int (Xs.2 (v4 + (nI 2) : Int32).toNatClampNeg)]) (rest := []) dL_law_1157 cl334 m216 rfl rfl rfl rfl (Nat.le_of_ble_eq_true rfl) rfl rfl rfl rfl) ?_
  refine am_bI_c (fun r2 t2 => ?_)
  refine Eq.trans (g_ist (k := 6) dL_law_1160 (Nat.le_of_ble_eq_true rfl) rfl rfl rfl) ?_
  refine Eq.trans (g_A dL_law_1162 rfl rfl) ?_
  refine Eq.trans (g_vI (a := 34) (as := []) (rest := []) dL_law_1163 cl306 m172 rfl rfl rfl rfl (Nat.le_of_ble_eq_true rfl) rfl rfl rfl rfl) ?_
  refine am_bI_c (fun r3 t3 => ?_)
  refine Eq.trans (g_A dL_law_1166 rfl rfl) ?_
  refine Eq.trans (g_iceq (t := 1173) dL_law_1168 rfl rfl) ?_
  refine am_ite ?_ ?_
  · refine Eq.trans (g_A dL_law_1173 rfl rfl) ?_
    refine Eq.trans (g_ifne (t := 1190) dL_law_1175 rfl rfl) ?_
    refine am_ite ?_ ?_
    · refine Eq.trans (g_A dL_law_1178 rfl rfl) ?_
      refine Eq.trans (g_K (v := nI 0) dL_law_1179 rfl rfl) ?_
      refine Eq.trans (g_lald dL_law_1180 sh57 rfl) ?_
      refine am_ite ?_ rfl
      refine Eq.trans (g_A dL_law_1181 rfl rfl) ?_
      refine Eq.trans (g_i2l dL_law_1183 rfl) ?_
      refine Eq.trans (g_lcmp dL_law_1184 rfl) ?_
      refine Eq.trans (g_ifeq (t := 1190) dL_law_1185 rfl rfl) ?_
      refine am_ite ?_ ?_
      · refine Eq.trans (g_goto (pc' := 2785) dL_law_1190 rfl) ?_
        rfl
      · refine Eq.trans (g_K (v := nI 0) dL_law_1188 rfl rfl) ?_
        exact g_zl dL_law_1189 rfl (Or.inl rfl)
    · refine Eq.trans (g_goto (pc' := 2785) dL_law_1190 rfl) ?_
      rfl
  · refine Eq.trans (g_K (v := nI 0) dL_law_1171 rfl rfl) ?_
    exact g_zl dL_law_1172 rfl (Or.inl rfl)
theorem ql_1193 {Xs : am_X} (hX : 0 < Xs.1) (C : am_C) (σ : am_M) (v4 : Int32) {u5 : Value} {u6 : Value} : am_go Xs C ML 1193 [.ref 1001, .ref 0, .ref 34, .ref 57, .int v4, u5, u6, .null] [] σ = if am_in (v4 + (nI 1)) (Xs.1 - 1) = true then (am_bI (C 291 [.ref 0, .int (Xs.2 (v4 + (nI 1) : Int32).toNatClampNeg), .ref 57] σ) (fun r1 t1 => if am_in (v4 + (nI 1)) (Xs.1 - 1) = true then (am_bI (C 217 [.ref 34, .int (Xs.2 (v4 + (nI 1) : Int32).toNatClampNeg)] t1) (fun r2 t2 => am_bI (C 172 [.ref 34] t2) (fun r3 t3 => if r3 = r1 then (if r1 = nI 0 then (if am_in (nI 0) 1 = true then (if lg_cmp (t3.2.1 57 (nI 0 : Int32).toNatClampNeg) ((r2 : Int32).toInt64) = nI 0 then (am_go Xs C ML 2785 [.ref 1001, .ref 0, .ref 34, .ref 57, .int v4, .int r1, .int r2, .null] [] t3) else (some (.inl (some (.int (nI 0))), t3))) else none) else (am_go Xs C ML 2785 [.ref 1001, .ref 0, .ref 34, .ref 57, .int v4, .int r1, .int r2, .null] [] t3)) else (some (.inl (some (.int (nI 0))), t3))))) else none)) else none := by
  refine Eq.trans (g_A dL_law_1193 rfl rfl) ?_
  refine Eq.trans (g_A dL_law_1194 rfl rfl) ?_
  refine Eq.trans (g_A dL_law_1195 rfl rfl) ?_
  refine Eq.trans (g_K (v := nI 1) dL_law_1197 rfl rfl) ?_
  refine Eq.trans (g_iadd dL_law_1198 rfl) ?_
  refine Eq.trans (g_scld dL_law_1199 rfl) ?_
  refine am_ite ?_ rfl
  refine Eq.trans (g_A dL_law_1200 rfl rfl) ?_
  refine Eq.trans (g_sI (as := [.ref 0, .int (Xs.2 (v4 + (nI 1) : Int32).toNatClampNeg), .ref 57]) (rest := []) dL_law_1201 rfl cl335 m291 rfl rfl rfl rfl (Nat.le_of_ble_eq_true rfl) rfl rfl rfl) ?_
  refine am_bI_c (fun r1 t1 => ?_)
  refine Eq.trans (g_ist (k := 5) dL_law_1204 (Nat.le_of_ble_eq_true rfl) rfl rfl rfl) ?_
  refine Eq.trans (g_A dL_law_1206 rfl rfl) ?_
  refine Eq.trans (g_A dL_law_1207 rfl rfl) ?_
  refine Eq.trans (g_A dL_law_1208 rfl rfl) ?_
  refine Eq.trans (g_K (v := nI 1) dL_law_1210 rfl rfl) ?_
  refine Eq.trans (g_iadd dL_law_1211 rfl) ?_
  refine Eq.trans (g_scld dL_law_1212 rfl) ?_
  refine am_ite ?_ rfl
  refine Eq.trans (g_vI (a := 34) (as := [.int (Xs.2 (v4 + (nI 1) : Int32).toNatClampNeg)]) (rest := []) dL_law_1213 cl336 m217 rfl rfl rfl rfl (Nat.le_of_ble_eq_true rfl) rfl rfl rfl rfl) ?_
  refine am_bI_c (fun r2 t2 => ?_)
  refine Eq.trans (g_ist (k := 6) dL_law_1216 (Nat.le_of_ble_eq_true rfl) rfl rfl rfl) ?_
  refine Eq.trans (g_A dL_law_1218 rfl rfl) ?_
  refine Eq.trans (g_vI (a := 34) (as := []) (rest := []) dL_law_1219 cl306 m172 rfl rfl rfl rfl (Nat.le_of_ble_eq_true rfl) rfl rfl rfl rfl) ?_
  refine am_bI_c (fun r3 t3 => ?_)
  refine Eq.trans (g_A dL_law_1222 rfl rfl) ?_
  refine Eq.trans (g_iceq (t := 1229) dL_law_1224 rfl rfl) ?_
  refine am_ite ?_ ?_
  · refine Eq.trans (g_A dL_law_1229 rfl rfl) ?_
    refine Eq.trans (g_ifne (t := 1246) dL_law_1231 rfl rfl) ?_
    refine am_ite ?_ ?_
    · refine Eq.trans (g_A dL_law_1234 rfl rfl) ?_
      refine Eq.trans (g_K (v := nI 0) dL_law_1235 rfl rfl) ?_
      refine Eq.trans (g_lald dL_law_1236 sh57 rfl) ?_
      refine am_ite ?_ rfl
      refine Eq.trans (g_A dL_law_1237 rfl rfl) ?_
      refine Eq.trans (g_i2l dL_law_1239 rfl) ?_
      refine Eq.trans (g_lcmp dL_law_1240 rfl) ?_
      refine Eq.trans (g_ifeq (t := 1246) dL_law_1241 rfl rfl) ?_
      refine am_ite ?_ ?_
      · refine Eq.trans (g_goto (pc' := 2785) dL_law_1246 rfl) ?_
        rfl
      · refine Eq.trans (g_K (v := nI 0) dL_law_1244 rfl rfl) ?_
        exact g_zl dL_law_1245 rfl (Or.inl rfl)
    · refine Eq.trans (g_goto (pc' := 2785) dL_law_1246 rfl) ?_
      rfl
  · refine Eq.trans (g_K (v := nI 0) dL_law_1227 rfl rfl) ?_
    exact g_zl dL_law_1228 rfl (Or.inl rfl)
theorem ql_1249 {Xs : am_X} (hX : 0 < Xs.1) (C : am_C) (σ : am_M) (v4 : Int32) {u5 : Value} {u6 : Value} : am_go Xs C ML 1249 [.ref 1001, .ref 0, .ref 34, .ref 57, .int v4, u5, u6, .null] [] σ = am_bI (C 114 [.ref 0] σ) (fun r1 t1 => am_bI (C 218 [.ref 34] t1) (fun r2 t2 => if r1 = r2 then (am_go Xs C ML 2785 [.ref 1001, .ref 0, .ref 34, .ref 57, .int v4, u5, u6, .null] [] t2) else (some (.inl (some (.int (nI 0))), t2)))) := by
  refine Eq.trans (g_A dL_law_1249 rfl rfl) ?_
  refine Eq.trans (g_vI (a := 0) (as := []) (rest := []) dL_law_1250 cl337 m114 rfl rfl rfl rfl (Nat.le_of_ble_eq_true rfl) rfl rfl rfl rfl) ?_
  refine am_bI_c (fun r1 t1 => ?_)
  refine Eq.trans (g_A dL_law_1253 rfl rfl) ?_
  refine Eq.trans (g_vI (a := 34) (as := []) (rest := [.int r1]) dL_law_1254 cl338 m218 rfl rfl rfl rfl (Nat.le_of_ble_eq_true rfl) rfl rfl rfl rfl) ?_
  refine am_bI_c (fun r2 t2 => ?_)
  refine Eq.trans (g_iceq (t := 2785) dL_law_1257 rfl rfl) ?_
  refine am_ite ?_ ?_
  · rfl
  · refine Eq.trans (g_K (v := nI 0) dL_law_1260 rfl rfl) ?_
    exact g_zl dL_law_1261 rfl (Or.inl rfl)
theorem ql_1262 {Xs : am_X} (hX : 0 < Xs.1) (C : am_C) (σ : am_M) (v4 : Int32) {u5 : Value} {u6 : Value} : am_go Xs C ML 1262 [.ref 1001, .ref 0, .ref 34, .ref 57, .int v4, u5, u6, .null] [] σ = if am_in (v4 + (nI 1)) (Xs.1 - 1) = true then (if Xs.2 (v4 + (nI 1) : Int32).toNatClampNeg = nI 0 then (am_bI (C 115 [.ref 0, .int (nI 0)] σ) (fun r1 t1 => if am_in (v4 + (nI 1)) (Xs.1 - 1) = true then (if Xs.2 (v4 + (nI 1) : Int32).toNatClampNeg = nI 0 then (am_bI (C 219 [.ref 34, .int (nI 0)] t1) (fun r2 t2 => if r1 = r2 then (am_go Xs C ML 2785 [.ref 1001, .ref 0, .ref 34, .ref 57, .int v4, u5, u6, .null] [] t2) else (some (.inl (some (.int (nI 0))), t2)))) else (am_bI (C 219 [.ref 34, .int (nI 1)] t1) (fun r3 t3 => if r1 = r3 then (am_go Xs C ML 2785 [.ref 1001, .ref 0, .ref 34, .ref 57, .int v4, u5, u6, .null] [] t3) else (some (.inl (some (.int (nI 0))), t3))))) else none)) else (am_bI (C 115 [.ref 0, .int (nI 1)] σ) (fun r4 t4 => if am_in (v4 + (nI 1)) (Xs.1 - 1) = true then (if Xs.2 (v4 + (nI 1) : Int32).toNatClampNeg = nI 0 then (am_bI (C 219 [.ref 34, .int (nI 0)] t4) (fun r5 t5 => if r4 = r5 then (am_go Xs C ML 2785 [.ref 1001, .ref 0, .ref 34, .ref 57, .int v4, u5, u6, .null] [] t5) else (some (.inl (some (.int (nI 0))), t5)))) else (am_bI (C 219 [.ref 34, .int (nI 1)] t4) (fun r6 t6 => if r4 = r6 then (am_go Xs C ML 2785 [.ref 1001, .ref 0, .ref 34, .ref 57, .int v4, u5, u6, .null] [] t6) else (some (.inl (some (.int (nI 0))), t6))))) else none))) else none := by
  refine Eq.trans (g_A dL_law_1262 rfl rfl) ?_
  refine Eq.trans (g_A dL_law_1263 rfl rfl) ?_
  refine Eq.trans (g_A dL_law_1264 rfl rfl) ?_
  refine Eq.trans (g_K (v := nI 1) dL_law_1266 rfl rfl) ?_
  refine Eq.trans (g_iadd dL_law_1267 rfl) ?_
  refine Eq.trans (g_scld dL_law_1268 rfl) ?_
  refine am_ite ?_ rfl
  refine Eq.trans (g_ifeq (t := 1276) dL_law_1269 rfl rfl) ?_
  refine am_ite ?_ ?_
  · refine Eq.trans (g_K (v := nI 0) dL_law_1276 rfl rfl) ?_
    refine Eq.trans (g_vI (a := 0) (as := [.int (nI 0)]) (rest := []) dL_law_1277 cl339 m115 rfl rfl rfl rfl (Nat.le_of_ble_eq_true rfl) rfl rfl rfl rfl) ?_
    refine am_bI_c (fun r1 t1 => ?_)
    refine Eq.trans (g_A dL_law_1280 rfl rfl) ?_
    refine Eq.trans (g_A dL_law_1281 rfl rfl) ?_
    refine Eq.trans (g_A dL_law_1282 rfl rfl) ?_
    refine Eq.trans (g_K (v := nI 1) dL_law_1284 rfl rfl) ?_
    refine Eq.trans (g_iadd dL_law_1285 rfl) ?_
    refine Eq.trans (g_scld dL_law_1286 rfl) ?_
    refine am_ite ?_ rfl
    refine Eq.trans (g_ifeq (t := 1294) dL_law_1287 rfl rfl) ?_
    refine am_ite ?_ ?_
    · refine Eq.trans (g_K (v := nI 0) dL_law_1294 rfl rfl) ?_
      refine Eq.trans (g_vI (a := 34) (as := [.int (nI 0)]) (rest := [.int r1]) dL_law_1295 cl340 m219 rfl rfl rfl rfl (Nat.le_of_ble_eq_true rfl) rfl rfl rfl rfl) ?_
      refine am_bI_c (fun r2 t2 => ?_)
      refine Eq.trans (g_iceq (t := 2785) dL_law_1298 rfl rfl) ?_
      refine am_ite ?_ ?_
      · rfl
      · refine Eq.trans (g_K (v := nI 0) dL_law_1301 rfl rfl) ?_
        exact g_zl dL_law_1302 rfl (Or.inl rfl)
    · refine Eq.trans (g_K (v := nI 1) dL_law_1290 rfl rfl) ?_
      refine Eq.trans (g_goto (pc' := 1295) dL_law_1291 rfl) ?_
      refine Eq.trans (g_vI (a := 34) (as := [.int (nI 1)]) (rest := [.int r1]) dL_law_1295 cl340 m219 rfl rfl rfl rfl (Nat.le_of_ble_eq_true rfl) rfl rfl rfl rfl) ?_
      refine am_bI_c (fun r3 t3 => ?_)
      refine Eq.trans (g_iceq (t := 2785) dL_law_1298 rfl rfl) ?_
      refine am_ite ?_ ?_
      · rfl
      · refine Eq.trans (g_K (v := nI 0) dL_law_1301 rfl rfl) ?_
        exact g_zl dL_law_1302 rfl (Or.inl rfl)
  · refine Eq.trans (g_K (v := nI 1) dL_law_1272 rfl rfl) ?_
    refine Eq.trans (g_goto (pc' := 1277) dL_law_1273 rfl) ?_
    refine Eq.trans (g_vI (a := 0) (as := [.int (nI 1)]) (rest := []) dL_law_1277 cl339 m115 rfl rfl rfl rfl (Nat.le_of_ble_eq_true rfl) rfl rfl rfl rfl) ?_
    refine am_bI_c (fun r4 t4 => ?_)
    refine Eq.trans (g_A dL_law_1280 rfl rfl) ?_
    refine Eq.trans (g_A dL_law_1281 rfl rfl) ?_
    refine Eq.trans (g_A dL_law_1282 rfl rfl) ?_
    refine Eq.trans (g_K (v := nI 1) dL_law_1284 rfl rfl) ?_
    refine Eq.trans (g_iadd dL_law_1285 rfl) ?_
    refine Eq.trans (g_scld dL_law_1286 rfl) ?_
    refine am_ite ?_ rfl
    refine Eq.trans (g_ifeq (t := 1294) dL_law_1287 rfl rfl) ?_
    refine am_ite ?_ ?_
    · refine Eq.trans (g_K (v := nI 0) dL_law_1294 rfl rfl) ?_
      refine Eq.trans (g_vI (a := 34) (as := [.int (nI 0)]) (rest := [.int r4]) dL_law_1295 cl340 m219 rfl rfl rfl rfl (Nat.le_of_ble_eq_true rfl) rfl rfl rfl rfl) ?_
      refine am_bI_c (fun r5 t5 => ?_)
      refine Eq.trans (g_iceq (t := 2785) dL_law_1298 rfl rfl) ?_
      refine am_ite ?_ ?_
      · rfl
      · refine Eq.trans (g_K (v := nI 0) dL_law_1301 rfl rfl) ?_
        exact g_zl dL_law_1302 rfl (Or.inl rfl)
    · refine Eq.trans (g_K (v := nI 1) dL_law_1290 rfl rfl) ?_
      refine Eq.trans (g_goto (pc' := 1295) dL_law_1291 rfl) ?_
      refine Eq.trans (g_vI (a := 34) (as := [.int (nI 1)]) (rest := [.int r4]) dL_law_1295 cl340 m219 rfl rfl rfl rfl (Nat.le_of_ble_eq_true rfl) rfl rfl rfl rfl) ?_
      refine am_bI_c (fun r6 t6 => ?_)
      refine Eq.trans (g_iceq (t := 2785) dL_law_1298 rfl rfl) ?_
      refine am_ite ?_ ?_
      · rfl
      · refine Eq.trans (g_K (v := nI 0) dL_law_1301 rfl rfl) ?_
        exact g_zl dL_law_1302 rfl (Or.inl rfl)
theorem ql_1303 {Xs : am_X} (hX : 0 < Xs.1) (C : am_C) (σ : am_M) (v4 : Int32) {u5 : Value} {u6 : Value} : am_go Xs C ML 1303 [.ref 1001, .ref 0, .ref 34, .ref 57, .int v4, u5, u6, .null] [] σ = if am_in (v4 + (nI 1)) (Xs.1 - 1) = true then (am_bI (C 292 [.ref 0, .int (Xs.2 (v4 + (nI 1) : Int32).toNatClampNeg), .ref 57] σ) (fun r1 t1 => if am_in (v4 + (nI 1)) (Xs.1 - 1) = true then (am_bI (C 234 [.ref 34, .int (Xs.2 (v4 + (nI 1) : Int32).toNatClampNeg)] t1) (fun r2 t2 => am_bI (C 172 [.ref 34] t2) (fun r3 t3 => if r3 = r1 then (if r1 = nI 0 then (if am_in (nI 0) 1 = true then (if lg_cmp (t3.2.1 57 (nI 0 : Int32).toNatClampNeg) ((r2 : Int32).toInt64) = nI 0 then (am_go Xs C ML 2785 [.ref 1001, .ref 0, .ref 34, .ref 57, .int v4, .int r1, .int r2, .null] [] t3) else (some (.inl (some (.int (nI 0))), t3))) else none) else (am_go Xs C ML 2785 [.ref 1001, .ref 0, .ref 34, .ref 57, .int v4, .int r1, .int r2, .null] [] t3)) else (some (.inl (some (.int (nI 0))), t3))))) else none)) else none := by
  refine Eq.trans (g_A dL_law_1303 rfl rfl) ?_
  refine Eq.trans (g_A dL_law_1304 rfl rfl) ?_
  refine Eq.trans (g_A dL_law_1305 rfl rfl) ?_
  refine Eq.trans (g_K (v := nI 1) dL_law_1307 rfl rfl) ?_
  refine Eq.trans (g_iadd dL_law_1308 rfl) ?_
  refine Eq.trans (g_scld dL_law_1309 rfl) ?_
  refine am_ite ?_ rfl
  refine Eq.trans (g_A dL_law_1310 rfl rfl) ?_
  refine Eq.trans (g_sI (as := [.ref 0, .int (Xs.2 (v4 + (nI 1) : Int32).toNatClampNeg), .ref 57]) (rest := []) dL_law_1311 rfl cl341 m292 rfl rfl rfl rfl (Nat.le_of_ble_eq_true rfl) rfl rfl rfl) ?_
  refine am_bI_c (fun r1 t1 => ?_)
  refine Eq.trans (g_ist (k := 5) dL_law_1314 (Nat.le_of_ble_eq_true rfl) rfl rfl rfl) ?_
  refine Eq.trans (g_A dL_law_1316 rfl rfl) ?_
  refine Eq.trans (g_A dL_law_1317 rfl rfl) ?_
  refine Eq.trans (g_A dL_law_1318 rfl rfl) ?_
  refine Eq.trans (g_K (v := nI 1) dL_law_1320 rfl rfl) ?_
  refine Eq.trans (g_iadd dL_law_1321 rfl) ?_
  refine Eq.trans (g_scld dL_law_1322 rfl) ?_
  refine am_ite ?_ rfl
  refine Eq.trans (g_vI (a := 34) (as := [.int (Xs.2 (v4 + (nI 1) : Int32).toNatClampNeg)]) (rest := []) dL_law_1323 cl342 m234 rfl rfl rfl rfl (Nat.le_of_ble_eq_true rfl) rfl rfl rfl rfl) ?_
  refine am_bI_c (fun r2 t2 => ?_)
  refine Eq.trans (g_ist (k := 6) dL_law_1326 (Nat.le_of_ble_eq_true rfl) rfl rfl rfl) ?_
  refine Eq.trans (g_A dL_law_1328 rfl rfl) ?_
  refine Eq.trans (g_vI (a := 34) (as := []) (rest := []) dL_law_1329 cl306 m172 rfl rfl rfl rfl (Nat.le_of_ble_eq_true rfl) rfl rfl rfl rfl) ?_
  refine am_bI_c (fun r3 t3 => ?_)
  refine Eq.trans (g_A dL_law_1332 rfl rfl) ?_
  refine Eq.trans (g_iceq (t := 1339) dL_law_1334 rfl rfl) ?_
  refine am_ite ?_ ?_
  · refine Eq.trans (g_A dL_law_1339 rfl rfl) ?_
    refine Eq.trans (g_ifne (t := 1356) dL_law_1341 rfl rfl) ?_
    refine am_ite ?_ ?_
    · refine Eq.trans (g_A dL_law_1344 rfl rfl) ?_
      refine Eq.trans (g_K (v := nI 0) dL_law_1345 rfl rfl) ?_
      refine Eq.trans (g_lald dL_law_1346 sh57 rfl) ?_
      refine am_ite ?_ rfl
      refine Eq.trans (g_A dL_law_1347 rfl rfl) ?_
      refine Eq.trans (g_i2l dL_law_1349 rfl) ?_
      refine Eq.trans (g_lcmp dL_law_1350 rfl) ?_
      refine Eq.trans (g_ifeq (t := 1356) dL_law_1351 rfl rfl) ?_
      refine am_ite ?_ ?_
      · refine Eq.trans (g_goto (pc' := 2785) dL_law_1356 rfl) ?_
        rfl
      · refine Eq.trans (g_K (v := nI 0) dL_law_1354 rfl rfl) ?_
        exact g_zl dL_law_1355 rfl (Or.inl rfl)
    · refine Eq.trans (g_goto (pc' := 2785) dL_law_1356 rfl) ?_
      rfl
  · refine Eq.trans (g_K (v := nI 0) dL_law_1337 rfl rfl) ?_
    exact g_zl dL_law_1338 rfl (Or.inl rfl)
theorem ql_1359 {Xs : am_X} (hX : 0 < Xs.1) (C : am_C) (σ : am_M) (v4 : Int32) {u5 : Value} {u6 : Value} : am_go Xs C ML 1359 [.ref 1001, .ref 0, .ref 34, .ref 57, .int v4, u5, u6, .null] [] σ = if am_in (v4 + (nI 1)) (Xs.1 - 1) = true then (if Xs.2 (v4 + (nI 1) : Int32).toNatClampNeg = nI 0 then (am_bI (C 293 [.ref 0, .int (nI 0), .ref 57] σ) (fun r1 t1 => if am_in (v4 + (nI 1)) (Xs.1 - 1) = true then (if Xs.2 (v4 + (nI 1) : Int32).toNatClampNeg = nI 0 then (am_bI (C 230 [.ref 34, .int (nI 0)] t1) (fun r2 t2 => am_bI (C 172 [.ref 34] t2) (fun r3 t3 => if r3 = r1 then (if r1 = nI 0 then (if am_in (nI 0) 1 = true then (if lg_cmp (t3.2.1 57 (nI 0 : Int32).toNatClampNeg) ((r2 : Int32).toInt64) = nI 0 then (am_go Xs C ML 2785 [.ref 1001, .ref 0, .ref 34, .ref 57, .int v4, .int r1, .int r2, .null] [] t3) else (some (.inl (some (.int (nI 0))), t3))) else none) else (am_go Xs C ML 2785 [.ref 1001, .ref 0, .ref 34, .ref 57, .int v4, .int r1, .int r2, .null] [] t3)) else (some (.inl (some (.int (nI 0))), t3))))) else (am_bI (C 230 [.ref 34, .int (nI 1)] t1) (fun r4 t4 => am_bI (C 172 [.ref 34] t4) (fun r5 t5 => if r5 = r1 then (if r1 = nI 0 then (if am_in (nI 0) 1 = true then (if lg_cmp (t5.2.1 57 (nI 0 : Int32).toNatClampNeg) ((r4 : Int32).toInt64) = nI 0 then (am_go Xs C ML 2785 [.ref 1001, .ref 0, .ref 34, .ref 57, .int v4, .int r1, .int r4, .null] [] t5) else (some (.inl (some (.int (nI 0))), t5))) else none) else (am_go Xs C ML 2785 [.ref 1001, .ref 0, .ref 34, .ref 57, .int v4, .int r1, .int r4, .null] [] t5)) else (some (.inl (some (.int (nI 0))), t5)))))) else none)) else (am_bI (C 293 [.ref 0, .int (nI 1), .ref 57] σ) (fun r6 t6 => if am_in (v4 + (nI 1)) (Xs.1 - 1) = true then (if Xs.2 (v4 + (nI 1) : Int32).toNatClampNeg = nI 0 then (am_bI (C 230 [.ref 34, .int (nI 0)] t6) (fun r7 t7 => am_bI (C 172 [.ref 34] t7) (fun r8 t8 => if r8 = r6 then (if r6 = nI 0 then (if am_in (nI 0) 1 = true then (if lg_cmp (t8.2.1 57 (nI 0 : Int32).toNatClampNeg) ((r7 : Int32).toInt64) = nI 0 then (am_go Xs C ML 2785 [.ref 1001, .ref 0, .ref 34, .ref 57, .int v4, .int r6, .int r7, .null] [] t8) else (some (.inl (some (.int (nI 0))), t8))) else none) else (am_go Xs C ML 2785 [.ref 1001, .ref 0, .ref 34, .ref 57, .int v4, .int r6, .int r7, .null] [] t8)) else (some (.inl (some (.int (nI 0))), t8))))) else (am_bI (C 230 [.ref 34, .int (nI 1)] t6) (fun r9 t9 => am_bI (C 172 [.ref 34] t9) (fun r10 t10 => if r10 = r6 then (if r6 = nI 0 then (if am_in (nI 0) 1 = true then (if lg_cmp (t10.2.1 57 (nI 0 : Int32).toNatClampNeg) ((r9 : Int32).toInt64) = nI 0 then (am_go Xs C ML 2785 [.ref 1001, .ref 0, .ref 34, .ref 57, .int v4, .int r6, .int r9, .null] [] t10) else (some (.inl (some (.int (nI 0))), t10))) else none) else (am_go Xs C ML 2785 [.ref 1001, .ref 0, .ref 34, .ref 57, .int v4, .int r6, .int r9, .null] [] t10)) else (some (.inl (some (.int (nI 0))), t10)))))) else none))) else none := by
  refine Eq.trans (g_A dL_law_1359 rfl rfl) ?_
  refine Eq.trans (g_A dL_law_1360 rfl rfl) ?_
  refine Eq.trans (g_A dL_law_1361 rfl rfl) ?_
  refine Eq.trans (g_K (v := nI 1) dL_law_1363 rfl rfl) ?_
  refine Eq.trans (g_iadd dL_law_1364 rfl) ?_
  refine Eq.trans (g_scld dL_law_1365 rfl) ?_
  refine am_ite ?_ rfl
  refine Eq.trans (g_ifeq (t := 1373) dL_law_1366 rfl rfl) ?_
  refine am_ite ?_ ?_
  · refine Eq.trans (g_K (v := nI 0) dL_law_1373 rfl rfl) ?_
    refine Eq.trans (g_A dL_law_1374 rfl rfl) ?_
    refine Eq.trans (g_sI (as := [.ref 0, .int (nI 0), .ref 57]) (rest := []) dL_law_1375 rfl cl343 m293 rfl rfl rfl rfl (Nat.le_of_ble_eq_true rfl) rfl rfl rfl) ?_
    refine am_bI_c (fun r1 t1 => ?_)
    refine Eq.trans (g_ist (k := 5) dL_law_1378 (Nat.le_of_ble_eq_true rfl) rfl rfl rfl) ?_
    refine Eq.trans (g_A dL_law_1380 rfl rfl) ?_
    refine Eq.trans (g_A dL_law_1381 rfl rfl) ?_
    refine Eq.trans (g_A dL_law_1382 rfl rfl) ?_
    refine Eq.trans (g_K (v := nI 1) dL_law_1384 rfl rfl) ?_
    refine Eq.trans (g_iadd dL_law_1385 rfl) ?_
    refine Eq.trans (g_scld dL_law_1386 rfl) ?_
    refine am_ite ?_ rfl
    refine Eq.trans (g_ifeq (t := 1394) dL_law_1387 rfl rfl) ?_
    refine am_ite ?_ ?_
    · refine Eq.trans (g_K (v := nI 0) dL_law_1394 rfl rfl) ?_
      refine Eq.trans (g_vI (a := 34) (as := [.int (nI 0)]) (rest := []) dL_law_1395 cl344 m230 rfl rfl rfl rfl (Nat.le_of_ble_eq_true rfl) rfl rfl rfl rfl) ?_
      refine am_bI_c (fun r2 t2 => ?_)
      refine Eq.trans (g_ist (k := 6) dL_law_1398 (Nat.le_of_ble_eq_true rfl) rfl rfl rfl) ?_
      refine Eq.trans (g_A dL_law_1400 rfl rfl) ?_
      refine Eq.trans (g_vI (a := 34) (as := []) (rest := []) dL_law_1401 cl306 m172 rfl rfl rfl rfl (Nat.le_of_ble_eq_true rfl) rfl rfl rfl rfl) ?_
      refine am_bI_c (fun r3 t3 => ?_)
      refine Eq.trans (g_A dL_law_1404 rfl rfl) ?_
      refine Eq.trans (g_iceq (t := 1411) dL_law_1406 rfl rfl) ?_
      refine am_ite ?_ ?_
      · refine Eq.trans (g_A dL_law_1411 rfl rfl) ?_
        refine Eq.trans (g_ifne (t := 1428) dL_law_1413 rfl rfl) ?_
        refine am_ite ?_ ?_
        · refine Eq.trans (g_A dL_law_1416 rfl rfl) ?_
          refine Eq.trans (g_K (v := nI 0) dL_law_1417 rfl rfl) ?_
          refine Eq.trans (g_lald dL_law_1418 sh57 rfl) ?_
          refine am_ite ?_ rfl
          refine Eq.trans (g_A dL_law_1419 rfl rfl) ?_
          refine Eq.trans (g_i2l dL_law_1421 rfl) ?_
          refine Eq.trans (g_lcmp dL_law_1422 rfl) ?_
          refine Eq.trans (g_ifeq (t := 1428) dL_law_1423 rfl rfl) ?_
          refine am_ite ?_ ?_
          · refine Eq.trans (g_goto (pc' := 2785) dL_law_1428 rfl) ?_
            rfl
          · refine Eq.trans (g_K (v := nI 0) dL_law_1426 rfl rfl) ?_
            exact g_zl dL_law_1427 rfl (Or.inl rfl)
        · refine Eq.trans (g_goto (pc' := 2785) dL_law_1428 rfl) ?_
          rfl
      · refine Eq.trans (g_K (v := nI 0) dL_law_1409 rfl rfl) ?_
        exact g_zl dL_law_1410 rfl (Or.inl rfl)
    · refine Eq.trans (g_K (v := nI 1) dL_law_1390 rfl rfl) ?_
      refine Eq.trans (g_goto (pc' := 1395) dL_law_1391 rfl) ?_
      refine Eq.trans (g_vI (a := 34) (as := [.int (nI 1)]) (rest := []) dL_law_1395 cl344 m230 rfl rfl rfl rfl (Nat.le_of_ble_eq_true rfl) rfl rfl rfl rfl) ?_
      refine am_bI_c (fun r4 t4 => ?_)
      refine Eq.trans (g_ist (k := 6) dL_law_1398 (Nat.le_of_ble_eq_true rfl) rfl rfl rfl) ?_
      refine Eq.trans (g_A dL_law_1400 rfl rfl) ?_
      refine Eq.trans (g_vI (a := 34) (as := []) (rest := []) dL_law_1401 cl306 m172 rfl rfl rfl rfl (Nat.le_of_ble_eq_true rfl) rfl rfl rfl rfl) ?_
      refine am_bI_c (fun r5 t5 => ?_)
      refine Eq.trans (g_A dL_law_1404 rfl rfl) ?_
      refine Eq.trans (g_iceq (t := 1411) dL_law_1406 rfl rfl) ?_
      refine am_ite ?_ ?_
      · refine Eq.trans (g_A dL_law_1411 rfl rfl) ?_
        refine Eq.trans (g_ifne (t := 1428) dL_law_1413 rfl rfl) ?_
        refine am_ite ?_ ?_
        · refine Eq.trans (g_A dL_law_1416 rfl rfl) ?_
          refine Eq.trans (g_K (v := nI 0) dL_law_1417 rfl rfl) ?_
          refine Eq.trans (g_lald dL_law_1418 sh57 rfl) ?_
          refine am_ite ?_ rfl
          refine Eq.trans (g_A dL_law_1419 rfl rfl) ?_
          refine Eq.trans (g_i2l dL_law_1421 rfl) ?_
          refine Eq.trans (g_lcmp dL_law_1422 rfl) ?_
          refine Eq.trans (g_ifeq (t := 1428) dL_law_1423 rfl rfl) ?_
          refine am_ite ?_ ?_
          · refine Eq.trans (g_goto (pc' := 2785) dL_law_1428 rfl) ?_
            rfl
          · refine Eq.trans (g_K (v := nI 0) dL_law_1426 rfl rfl) ?_
            exact g_zl dL_law_1427 rfl (Or.inl rfl)
        · refine Eq.trans (g_goto (pc' := 2785) dL_law_1428 rfl) ?_
          rfl
      · refine Eq.trans (g_K (v := nI 0) dL_law_1409 rfl rfl) ?_
        exact g_zl dL_law_1410 rfl (Or.inl rfl)
  · refine Eq.trans (g_K (v := nI 1) dL_law_1369 rfl rfl) ?_
    refine Eq.trans (g_goto (pc' := 1374) dL_law_1370 rfl) ?_
    refine Eq.trans (g_A dL_law_1374 rfl rfl) ?_
    refine Eq.trans (g_sI (as := [.ref 0, .int (nI 1), .ref 57]) (rest := []) dL_law_1375 rfl cl343 m293 rfl rfl rfl rfl (Nat.le_of_ble_eq_true rfl) rfl rfl rfl) ?_
    refine am_bI_c (fun r6 t6 => ?_)
    refine Eq.trans (g_ist (k := 5) dL_law_1378 (Nat.le_of_ble_eq_true rfl) rfl rfl rfl) ?_
    refine Eq.trans (g_A dL_law_1380 rfl rfl) ?_
    refine Eq.trans (g_A dL_law_1381 rfl rfl) ?_
    refine Eq.trans (g_A dL_law_1382 rfl rfl) ?_
    refine Eq.trans (g_K (v := nI 1) dL_law_1384 rfl rfl) ?_
    refine Eq.trans (g_iadd dL_law_1385 rfl) ?_
    refine Eq.trans (g_scld dL_law_1386 rfl) ?_
    refine am_ite ?_ rfl
    refine Eq.trans (g_ifeq (t := 1394) dL_law_1387 rfl rfl) ?_
    refine am_ite ?_ ?_
    · refine Eq.trans (g_K (v := nI 0) dL_law_1394 rfl rfl) ?_
      refine Eq.trans (g_vI (a := 34) (as := [.int (nI 0)]) (rest := []) dL_law_1395 cl344 m230 rfl rfl rfl rfl (Nat.le_of_ble_eq_true rfl) rfl rfl rfl rfl) ?_
      refine am_bI_c (fun r7 t7 => ?_)
      refine Eq.trans (g_ist (k := 6) dL_law_1398 (Nat.le_of_ble_eq_true rfl) rfl rfl rfl) ?_
      refine Eq.trans (g_A dL_law_1400 rfl rfl) ?_
      refine Eq.trans (g_vI (a := 34) (as := []) (rest := []) dL_law_1401 cl306 m172 rfl rfl rfl rfl (Nat.le_of_ble_eq_true rfl) rfl rfl rfl rfl) ?_
      refine am_bI_c (fun r8 t8 => ?_)
      refine Eq.trans (g_A dL_law_1404 rfl rfl) ?_
      refine Eq.trans (g_iceq (t := 1411) dL_law_1406 rfl rfl) ?_
      refine am_ite ?_ ?_
      · refine Eq.trans (g_A dL_law_1411 rfl rfl) ?_
        refine Eq.trans (g_ifne (t := 1428) dL_law_1413 rfl rfl) ?_
        refine am_ite ?_ ?_
        · refine Eq.trans (g_A dL_law_1416 rfl rfl) ?_
          refine Eq.trans (g_K (v := nI 0) dL_law_1417 rfl rfl) ?_
          refine Eq.trans (g_lald dL_law_1418 sh57 rfl) ?_
          refine am_ite ?_ rfl
          refine Eq.trans (g_A dL_law_1419 rfl rfl) ?_
          refine Eq.trans (g_i2l dL_law_1421 rfl) ?_
          refine Eq.trans (g_lcmp dL_law_1422 rfl) ?_
          refine Eq.trans (g_ifeq (t := 1428) dL_law_1423 rfl rfl) ?_
          refine am_ite ?_ ?_
          · refine Eq.trans (g_goto (pc' := 2785) dL_law_1428 rfl) ?_
            rfl
          · refine Eq.trans (g_K (v := nI 0) dL_law_1426 rfl rfl) ?_
            exact g_zl dL_law_1427 rfl (Or.inl rfl)
        · refine Eq.trans (g_goto (pc' := 2785) dL_law_1428 rfl) ?_
          rfl
      · refine Eq.trans (g_K (v := nI 0) dL_law_1409 rfl rfl) ?_
        exact g_zl dL_law_1410 rfl (Or.inl rfl)
    · refine Eq.trans (g_K (v := nI 1) dL_law_1390 rfl rfl) ?_
      refine Eq.trans (g_goto (pc' := 1395) dL_law_1391 rfl) ?_
      refine Eq.trans (g_vI (a := 34) (as := [.int (nI 1)]) (rest := []) dL_law_1395 cl344 m230 rfl rfl rfl rfl (Nat.le_of_ble_eq_true rfl) rfl rfl rfl rfl) ?_
      refine am_bI_c (fun r9 t9 => ?_)
      refine Eq.trans (g_ist (k := 6) dL_law_1398 (Nat.le_of_ble_eq_true rfl) rfl rfl rfl) ?_
      refine Eq.trans (g_A dL_law_1400 rfl rfl) ?_
      refine Eq.trans (g_vI (a := 34) (as := []) (rest := []) dL_law_1401 cl306 m172 rfl rfl rfl rfl (Nat.le_of_ble_eq_true rfl) rfl rfl rfl rfl) ?_
      refine am_bI_c (fun r10 t10 => ?_)
      refine Eq.trans (g_A dL_law_1404 rfl rfl) ?_
      refine Eq.trans (g_iceq (t := 1411) dL_law_1406 rfl rfl) ?_
      refine am_ite ?_ ?_
      · refine Eq.trans (g_A dL_law_1411 rfl rfl) ?_
        refine Eq.trans (g_ifne (t := 1428) dL_law_1413 rfl rfl) ?_
        refine am_ite ?_ ?_
        · refine Eq.trans (g_A dL_law_1416 rfl rfl) ?_
          refine Eq.trans (g_K (v := nI 0) dL_law_1417 rfl rfl) ?_
          refine Eq.trans (g_lald dL_law_1418 sh57 rfl) ?_
          refine am_ite ?_ rfl
          refine Eq.trans (g_A dL_law_1419 rfl rfl) ?_
          refine Eq.trans (g_i2l dL_law_1421 rfl) ?_
          refine Eq.trans (g_lcmp dL_law_1422 rfl) ?_
          refine Eq.trans (g_ifeq (t := 1428) dL_law_1423 rfl rfl) ?_
          refine am_ite ?_ ?_
          · refine Eq.trans (g_goto (pc' := 2785) dL_law_1428 rfl) ?_
            rfl
          · refine Eq.trans (g_K (v := nI 0) dL_law_1426 rfl rfl) ?_
            exact g_zl dL_law_1427 rfl (Or.inl rfl)
        · refine Eq.trans (g_goto (pc' := 2785) dL_law_1428 rfl) ?_
          rfl
      · refine Eq.trans (g_K (v := nI 0) dL_law_1409 rfl rfl) ?_
        exact g_zl dL_law_1410 rfl (Or.inl rfl)
theorem ql_1431 {Xs : am_X} (hX : 0 < Xs.1) (C : am_C) (σ : am_M) (v4 : Int32) {u5 : Value} {u6 : Value} : am_go Xs C ML 1431 [.ref 1001, .ref 0, .ref 34, .ref 57, .int v4, u5, u6, .null] [] σ = am_bI (C 118 [.ref 0] σ) (fun r1 t1 => am_bI (C 233 [.ref 34] t1) (fun r2 t2 => if r1 = r2 then (am_go Xs C ML 2785 [.ref 1001, .ref 0, .ref 34, .ref 57, .int v4, u5, u6, .null] [] t2) else (some (.inl (some (.int (nI 0))), t2)))) := by
  refine Eq.trans (g_A dL_law_1431 rfl rfl) ?_
  refine Eq.trans (g_vI (a := 0) (as := []) (rest := []) dL_law_1432 cl345 m118 rfl rfl rfl rfl (Nat.le_of_ble_eq_true rfl) rfl rfl rfl rfl) ?_
  refine am_bI_c (fun r1 t1 => ?_)
  refine Eq.trans (g_A dL_law_1435 rfl rfl) ?_
  refine Eq.trans (g_vI (a := 34) (as := []) (rest := [.int r1]) dL_law_1436 cl346 m233 rfl rfl rfl rfl (Nat.le_of_ble_eq_true rfl) rfl rfl rfl rfl) ?_
  refine am_bI_c (fun r2 t2 => ?_)
  refine Eq.trans (g_iceq (t := 2785) dL_law_1439 rfl rfl) ?_
  refine am_ite ?_ ?_
  · rfl
  · refine Eq.trans (g_K (v := nI 0) dL_law_1442 rfl rfl) ?_
    exact g_zl dL_law_1443 rfl (Or.inl rfl)
theorem ql_1444 {Xs : am_X} (hX : 0 < Xs.1) (C : am_C) (σ : am_M) (v4 : Int32) {u5 : Value} {u6 : Value} : am_go Xs C ML 1444 [.ref 1001, .ref 0, .ref 34, .ref 57, .int v4, u5, u6, .null] [] σ = if am_in (v4 + (nI 1)) (Xs.1 - 1) = true then (am_bI (C 294 [.ref 0, .int (Xs.2 (v4 + (nI 1) : Int32).toNatClampNeg), .ref 57] σ) (fun r1 t1 => if am_in (v4 + (nI 1)) (Xs.1 - 1) = true then (am_bI (C 235 [.ref 34, .int (Xs.2 (v4 + (nI 1) : Int32).toNatClampNeg)] t1) (fun r2 t2 => am_bI (C 172 [.ref 34] t2) (fun r3 t3 => if r3 = r1 then (if r1 = nI 0 then (if am_in (nI 0) 1 = true then (if lg_cmp (t3.2.1 57 (nI 0 : Int32).toNatClampNeg) ((r2 : Int32).toInt64) = nI 0 then (am_go Xs C ML 2785 [.ref 1001, .ref 0, .ref 34, .ref 57, .int v4, .int r1, .int r2, .null] [] t3) else (some (.inl (some (.int (nI 0))), t3))) else none) else (am_go Xs C ML 2785 [.ref 1001, .ref 0, .ref 34, .ref 57, .int v4, .int r1, .int r2, .null] [] t3)) else (some (.inl (some (.int (nI 0))), t3))))) else none)) else none := by
  refine Eq.trans (g_A dL_law_1444 rfl rfl) ?_
  refine Eq.trans (g_A dL_law_1445 rfl rfl) ?_
  refine Eq.trans (g_A dL_law_1446 rfl rfl) ?_
  refine Eq.trans (g_K (v := nI 1) dL_law_1448 rfl rfl) ?_
  refine Eq.trans (g_iadd dL_law_1449 rfl) ?_
  refine Eq.trans (g_scld dL_law_1450 rfl) ?_
  refine am_ite ?_ rfl
  refine Eq.trans (g_A dL_law_1451 rfl rfl) ?_
  refine Eq.trans (g_sI (as := [.ref 0, .int (Xs.2 (v4 + (nI 1) : Int32).toNatClampNeg), .ref 57]) (rest := []) dL_law_1452 rfl cl347 m294 rfl rfl rfl rfl (Nat.le_of_ble_eq_true rfl) rfl rfl rfl) ?_
  refine am_bI_c (fun r1 t1 => ?_)
  refine Eq.trans (g_ist (k := 5) dL_law_1455 (Nat.le_of_ble_eq_true rfl) rfl rfl rfl) ?_
  refine Eq.trans (g_A dL_law_1457 rfl rfl) ?_
  refine Eq.trans (g_A dL_law_1458 rfl rfl) ?_
  refine Eq.trans (g_A dL_law_1459 rfl rfl) ?_
  refine Eq.trans (g_K (v := nI 1) dL_law_1461 rfl rfl) ?_
  refine Eq.trans (g_iadd dL_law_1462 rfl) ?_
  refine Eq.trans (g_scld dL_law_1463 rfl) ?_
  refine am_ite ?_ rfl
  refine Eq.trans (g_vI (a := 34) (as := [.int (Xs.2 (v4 + (nI 1) : Int32).toNatClampNeg)]) (rest := []) dL_law_1464 cl348 m235 rfl rfl rfl rfl (Nat.le_of_ble_eq_true rfl) rfl rfl rfl rfl) ?_
  refine am_bI_c (fun r2 t2 => ?_)
  refine Eq.trans (g_ist (k := 6) dL_law_1467 (Nat.le_of_ble_eq_true rfl) rfl rfl rfl) ?_
  refine Eq.trans (g_A dL_law_1469 rfl rfl) ?_
  refine Eq.trans (g_vI (a := 34) (as := []) (rest := []) dL_law_1470 cl306 m172 rfl rfl rfl rfl (Nat.le_of_ble_eq_true rfl) rfl rfl rfl rfl) ?_
  refine am_bI_c (fun r3 t3 => ?_)
  refine Eq.trans (g_A dL_law_1473 rfl rfl) ?_
  refine Eq.trans (g_iceq (t := 1480) dL_law_1475 rfl rfl) ?_
  refine am_ite ?_ ?_
  · refine Eq.trans (g_A dL_law_1480 rfl rfl) ?_
    refine Eq.trans (g_ifne (t := 1497) dL_law_1482 rfl rfl) ?_
    refine am_ite ?_ ?_
    · refine Eq.trans (g_A dL_law_1485 rfl rfl) ?_
      refine Eq.trans (g_K (v := nI 0) dL_law_1486 rfl rfl) ?_
      refine Eq.trans (g_lald dL_law_1487 sh57 rfl) ?_
      refine am_ite ?_ rfl
      refine Eq.trans (g_A dL_law_1488 rfl rfl) ?_
      refine Eq.trans (g_i2l dL_law_1490 rfl) ?_
      refine Eq.trans (g_lcmp dL_law_1491 rfl) ?_
      refine Eq.trans (g_ifeq (t := 1497) dL_law_1492 rfl rfl) ?_
      refine am_ite ?_ ?_
      · refine Eq.trans (g_goto (pc' := 2785) dL_law_1497 rfl) ?_
        rfl
      · refine Eq.trans (g_K (v := nI 0) dL_law_1495 rfl rfl) ?_
        exact g_zl dL_law_1496 rfl (Or.inl rfl)
    · refine Eq.trans (g_goto (pc' := 2785) dL_law_1497 rfl) ?_
      rfl
  · refine Eq.trans (g_K (v := nI 0) dL_law_1478 rfl rfl) ?_
    exact g_zl dL_law_1479 rfl (Or.inl rfl)
theorem ql_1500 {Xs : am_X} (hX : 0 < Xs.1) (C : am_C) (σ : am_M) (v4 : Int32) {u5 : Value} {u6 : Value} : am_go Xs C ML 1500 [.ref 1001, .ref 0, .ref 34, .ref 57, .int v4, u5, u6, .null] [] σ = if am_in (v4 + (nI 1)) (Xs.1 - 1) = true then (am_bI (C 295 [.ref 0, .int (Xs.2 (v4 + (nI 1) : Int32).toNatClampNeg), .ref 57] σ) (fun r1 t1 => if am_in (v4 + (nI 1)) (Xs.1 - 1) = true then (am_bI (C 236 [.ref 34, .int (Xs.2 (v4 + (nI 1) : Int32).toNatClampNeg)] t1) (fun r2 t2 => am_bI (C 172 [.ref 34] t2) (fun r3 t3 => if r3 = r1 then (if r1 = nI 0 then (if am_in (nI 0) 1 = true then (if lg_cmp (t3.2.1 57 (nI 0 : Int32).toNatClampNeg) ((r2 : Int32).toInt64) = nI 0 then (am_go Xs C ML 2785 [.ref 1001, .ref 0, .ref 34, .ref 57, .int v4, .int r1, .int r2, .null] [] t3) else (some (.inl (some (.int (nI 0))), t3))) else none) else (am_go Xs C ML 2785 [.ref 1001, .ref 0, .ref 34, .ref 57, .int v4, .int r1, .int r2, .null] [] t3)) else (some (.inl (some (.int (nI 0))), t3))))) else none)) else none := by
  refine Eq.trans (g_A dL_law_1500 rfl rfl) ?_
  refine Eq.trans (g_A dL_law_1501 rfl rfl) ?_
  refine Eq.trans (g_A dL_law_1502 rfl rfl) ?_
  refine Eq.trans (g_K (v := nI 1) dL_law_1504 rfl rfl) ?_
  refine Eq.trans (g_iadd dL_law_1505 rfl) ?_
  refine Eq.trans (g_scld dL_law_1506 rfl) ?_
  refine am_ite ?_ rfl
  refine Eq.trans (g_A dL_law_1507 rfl rfl) ?_
  refine Eq.trans (g_sI (as := [.ref 0, .int (Xs.2 (v4 + (nI 1) : Int32).toNatClampNeg), .ref 57]) (rest := []) dL_law_1508 rfl cl349 m295 rfl rfl rfl rfl (Nat.le_of_ble_eq_true rfl) rfl rfl rfl) ?_
  refine am_bI_c (fun r1 t1 => ?_)
  refine Eq.trans (g_ist (k := 5) dL_law_1511 (Nat.le_of_ble_eq_true rfl) rfl rfl rfl) ?_
  refine Eq.trans (g_A dL_law_1513 rfl rfl) ?_
  refine Eq.trans (g_A dL_law_1514 rfl rfl) ?_
  refine Eq.trans (g_A dL_law_1515 rfl rfl) ?_
  refine Eq.trans (g_K (v := nI 1) dL_law_1517 rfl rfl) ?_
  refine Eq.trans (g_iadd dL_law_1518 rfl) ?_
  refine Eq.trans (g_scld dL_law_1519 rfl) ?_
  refine am_ite ?_ rfl
  refine Eq.trans (g_vI (a := 34) (as := [.int (Xs.2 (v4 + (nI 1) : Int32).toNatClampNeg)]) (rest := []) dL_law_1520 cl350 m236 rfl rfl rfl rfl (Nat.le_of_ble_eq_true rfl) rfl rfl rfl rfl) ?_
  refine am_bI_c (fun r2 t2 => ?_)
  refine Eq.trans (g_ist (k := 6) dL_law_1523 (Nat.le_of_ble_eq_true rfl) rfl rfl rfl) ?_
  refine Eq.trans (g_A dL_law_1525 rfl rfl) ?_
  refine Eq.trans (g_vI (a := 34) (as := []) (rest := []) dL_law_1526 cl306 m172 rfl rfl rfl rfl (Nat.le_of_ble_eq_true rfl) rfl rfl rfl rfl) ?_
  refine am_bI_c (fun r3 t3 => ?_)
  refine Eq.trans (g_A dL_law_1529 rfl rfl) ?_
  refine Eq.trans (g_iceq (t := 1536) dL_law_1531 rfl rfl) ?_
  refine am_ite ?_ ?_
  · refine Eq.trans (g_A dL_law_1536 rfl rfl) ?_
    refine Eq.trans (g_ifne (t := 1553) dL_law_1538 rfl rfl) ?_
    refine am_ite ?_ ?_
    · refine Eq.trans (g_A dL_law_1541 rfl rfl) ?_
      refine Eq.trans (g_K (v := nI 0) dL_law_1542 rfl rfl) ?_
      refine Eq.trans (g_lald dL_law_1543 sh57 rfl) ?_
      refine am_ite ?_ rfl
      refine Eq.trans (g_A dL_law_1544 rfl rfl) ?_
      refine Eq.trans (g_i2l dL_law_1546 rfl) ?_
      refine Eq.trans (g_lcmp dL_law_1547 rfl) ?_
      refine Eq.trans (g_ifeq (t := 1553) dL_law_1548 rfl rfl) ?_
      refine am_ite ?_ ?_
      · refine Eq.trans (g_goto (pc' := 2785) dL_law_1553 rfl) ?_
        rfl
      · refine Eq.trans (g_K (v := nI 0) dL_law_1551 rfl rfl) ?_
        exact g_zl dL_law_1552 rfl (Or.inl rfl)
    · refine Eq.trans (g_goto (pc' := 2785) dL_law_1553 rfl) ?_
      rfl
  · refine Eq.trans (g_K (v := nI 0) dL_law_1534 rfl rfl) ?_
    exact g_zl dL_law_1535 rfl (Or.inl rfl)
theorem ql_1556 {Xs : am_X} (hX : 0 < Xs.1) (C : am_C) (σ : am_M) (v4 : Int32) {u5 : Value} {u6 : Value} : am_go Xs C ML 1556 [.ref 1001, .ref 0, .ref 34, .ref 57, .int v4, u5, u6, .null] [] σ = if am_in (v4 + (nI 1)) (Xs.1 - 1) = true then (am_bI (C 296 [.ref 0, .int (Xs.2 (v4 + (nI 1) : Int32).toNatClampNeg), .ref 57] σ) (fun r1 t1 => if am_in (v4 + (nI 1)) (Xs.1 - 1) = true then (am_bI (C 237 [.ref 34, .int (Xs.2 (v4 + (nI 1) : Int32).toNatClampNeg)] t1) (fun r2 t2 => am_bI (C 172 [.ref 34] t2) (fun r3 t3 => if r3 = r1 then (if r1 = nI 0 then (if am_in (nI 0) 1 = true then (if lg_cmp (t3.2.1 57 (nI 0 : Int32).toNatClampNeg) ((r2 : Int32).toInt64) = nI 0 then (am_go Xs C ML 2785 [.ref 1001, .ref 0, .ref 34, .ref 57, .int v4, .int r1, .int r2, .null] [] t3) else (some (.inl (some (.int (nI 0))), t3))) else none) else (am_go Xs C ML 2785 [.ref 1001, .ref 0, .ref 34, .ref 57, .int v4, .int r1, .int r2, .null] [] t3)) else (some (.inl (some (.int (nI 0))), t3))))) else none)) else none := by
  refine Eq.trans (g_A dL_law_1556 rfl rfl) ?_
  refine Eq.trans (g_A dL_law_1557 rfl rfl) ?_
  refine Eq.trans (g_A dL_law_1558 rfl rfl) ?_
  refine Eq.trans (g_K (v := nI 1) dL_law_1560 rfl rfl) ?_
  refine Eq.trans (g_iadd dL_law_1561 rfl) ?_
  refine Eq.trans (g_scld dL_law_1562 rfl) ?_
  refine am_ite ?_ rfl
  refine Eq.trans (g_A dL_law_1563 rfl rfl) ?_
  refine Eq.trans (g_sI (as := [.ref 0, .int (Xs.2 (v4 + (nI 1) : Int32).toNatClampNeg), .ref 57]) (rest := []) dL_law_1564 rfl cl351 m296 rfl rfl rfl rfl (Nat.le_of_ble_eq_true rfl) rfl rfl rfl) ?_
  refine am_bI_c (fun r1 t1 => ?_)
  refine Eq.trans (g_ist (k := 5) dL_law_1567 (Nat.le_of_ble_eq_true rfl) rfl rfl rfl) ?_
  refine Eq.trans (g_A dL_law_1569 rfl rfl) ?_
  refine Eq.trans (g_A dL_law_1570 rfl rfl) ?_
  refine Eq.trans (g_A dL_law_1571 rfl rfl) ?_
  refine Eq.trans (g_K (v := nI 1) dL_law_1573 rfl rfl) ?_
  refine Eq.trans (g_iadd dL_law_1574 rfl) ?_
  refine Eq.trans (g_scld dL_law_1575 rfl) ?_
  refine am_ite ?_ rfl
  refine Eq.trans (g_vI (a := 34) (as := [.int (Xs.2 (v4 + (nI 1) : Int32).toNatClampNeg)]) (rest := []) dL_law_1576 cl352 m237 rfl rfl rfl rfl (Nat.le_of_ble_eq_true rfl) rfl rfl rfl rfl) ?_
  refine am_bI_c (fun r2 t2 => ?_)
  refine Eq.trans (g_ist (k := 6) dL_law_1579 (Nat.le_of_ble_eq_true rfl) rfl rfl rfl) ?_
  refine Eq.trans (g_A dL_law_1581 rfl rfl) ?_
  refine Eq.trans (g_vI (a := 34) (as := []) (rest := []) dL_law_1582 cl306 m172 rfl rfl rfl rfl (Nat.le_of_ble_eq_true rfl) rfl rfl rfl rfl) ?_
  refine am_bI_c (fun r3 t3 => ?_)
  refine Eq.trans (g_A dL_law_1585 rfl rfl) ?_
  refine Eq.trans (g_iceq (t := 1592) dL_law_1587 rfl rfl) ?_
  refine am_ite ?_ ?_
  · refine Eq.trans (g_A dL_law_1592 rfl rfl) ?_
    refine Eq.trans (g_ifne (t := 1609) dL_law_1594 rfl rfl) ?_
    refine am_ite ?_ ?_
    · refine Eq.trans (g_A dL_law_1597 rfl rfl) ?_
      refine Eq.trans (g_K (v := nI 0) dL_law_1598 rfl rfl) ?_
      refine Eq.trans (g_lald dL_law_1599 sh57 rfl) ?_
      refine am_ite ?_ rfl
      refine Eq.trans (g_A dL_law_1600 rfl rfl) ?_
      refine Eq.trans (g_i2l dL_law_1602 rfl) ?_
      refine Eq.trans (g_lcmp dL_law_1603 rfl) ?_
      refine Eq.trans (g_ifeq (t := 1609) dL_law_1604 rfl rfl) ?_
      refine am_ite ?_ ?_
      · refine Eq.trans (g_goto (pc' := 2785) dL_law_1609 rfl) ?_
        rfl
      · refine Eq.trans (g_K (v := nI 0) dL_law_1607 rfl rfl) ?_
        exact g_zl dL_law_1608 rfl (Or.inl rfl)
    · refine Eq.trans (g_goto (pc' := 2785) dL_law_1609 rfl) ?_
      rfl
  · refine Eq.trans (g_K (v := nI 0) dL_law_1590 rfl rfl) ?_
    exact g_zl dL_law_1591 rfl (Or.inl rfl)
theorem ql_1612 {Xs : am_X} (hX : 0 < Xs.1) (C : am_C) (σ : am_M) (v4 : Int32) {u5 : Value} {u6 : Value} : am_go Xs C ML 1612 [.ref 1001, .ref 0, .ref 34, .ref 57, .int v4, u5, u6, .null] [] σ = if am_in (v4 + (nI 1)) (Xs.1 - 1) = true then (if am_in (v4 + (nI 2)) (Xs.1 - 1) = true then (am_bI (C 297 [.ref 0, .int (Xs.2 (v4 + (nI 1) : Int32).toNatClampNeg), .int (Xs.2 (v4 + (nI 2) : Int32).toNatClampNeg), .ref 57] σ) (fun r1 t1 => if am_in (v4 + (nI 1)) (Xs.1 - 1) = true then (if am_in (v4 + (nI 2)) (Xs.1 - 1) = true then (am_bI (C 238 [.ref 34, .int (Xs.2 (v4 + (nI 1) : Int32).toNatClampNeg), .int (Xs.2 (v4 + (nI 2) : Int32).toNatClampNeg)] t1) (fun r2 t2 => am_bI (C 172 [.ref 34] t2) (fun r3 t3 => if r3 = r1 then (if r1 = nI 0 then (if am_in (nI 0) 1 = true then (if lg_cmp (t3.2.1 57 (nI 0 : Int32).toNatClampNeg) ((r2 : Int32).toInt64) = nI 0 then (am_go Xs C ML 2785 [.ref 1001, .ref 0, .ref 34, .ref 57, .int v4, .int r1, .int r2, .null] [] t3) else (some (.inl (some (.int (nI 0))), t3))) else none) else (am_go Xs C ML 2785 [.ref 1001, .ref 0, .ref 34, .ref 57, .int v4, .int r1, .int r2, .null] [] t3)) else (some (.inl (some (.int (nI 0))), t3))))) else none) else none)) else none) else none := by
  refine Eq.trans (g_A dL_law_1612 rfl rfl) ?_
  refine Eq.trans (g_A dL_law_1613 rfl rfl) ?_
  refine Eq.trans (g_A dL_law_1614 rfl rfl) ?_
  refine Eq.trans (g_K (v := nI 1) dL_law_1616 rfl rfl) ?_
  refine Eq.trans (g_iadd dL_law_1617 rfl) ?_
  refine Eq.trans (g_scld dL_law_1618 rfl) ?_
  refine am_ite ?_ rfl
  refine Eq.trans (g_A dL_law_1619 rfl rfl) ?_
  refine Eq.trans (g_A dL_law_1620 rfl rfl) ?_
  refine Eq.trans (g_K (v := nI 2) dL_law_1622 rfl rfl) ?_
  refine Eq.trans (g_iadd dL_law_1623 rfl) ?_
  refine Eq.trans (g_scld dL_law_1624 rfl) ?_
  refine am_ite ?_ rfl
  refine Eq.trans (g_A dL_law_1625 rfl rfl) ?_
  refine Eq.trans (g_sI (as := [.ref 0, .int (Xs.2 (v4 + (nI 1) : Int32).toNatClampNeg), .int (Xs.2 (v4 + (nI 2) : Int32).toNatClampNeg), .ref 57]) (rest := []) dL_law_1626 rfl cl353 m297 rfl rfl rfl rfl (Nat.le_of_ble_eq_true rfl) rfl rfl rfl) ?_
  refine am_bI_c (fun r1 t1 => ?_)
  refine Eq.trans (g_ist (k := 5) dL_law_1629 (Nat.le_of_ble_eq_true rfl) rfl rfl rfl) ?_
  refine Eq.trans (g_A dL_law_1631 rfl rfl) ?_
  refine Eq.trans (g_A dL_law_1632 rfl rfl) ?_
  refine Eq.trans (g_A dL_law_1633 rfl rfl) ?_
  refine Eq.trans (g_K (v := nI 1) dL_law_1635 rfl rfl) ?_
  refine Eq.trans (g_iadd dL_law_1636 rfl) ?_
  refine Eq.trans (g_scld dL_law_1637 rfl) ?_
  refine am_ite ?_ rfl
  refine Eq.trans (g_A dL_law_1638 rfl rfl) ?_
  refine Eq.trans (g_A dL_law_1639 rfl rfl) ?_
  refine Eq.trans (g_K (v := nI 2) dL_law_1641 rfl rfl) ?_
  refine Eq.trans (g_iadd dL_law_1642 rfl) ?_
  refine Eq.trans (g_scld dL_law_1643 rfl) ?_
  refine am_ite ?_ rfl
  refine Eq.trans (g_vI (a := 34) (as := [.int (Xs.2 (v4 + (nI 1) : Int32).toNatClampNeg), .int (Xs.2 (v4 + (nI 2) : Int32).toNatClampNeg)]) (rest := []) dL_law_1644 cl354 m238 rfl rfl rfl rfl (Nat.le_of_ble_eq_true rfl) rfl rfl rfl rfl) ?_
  refine am_bI_c (fun r2 t2 => ?_)
  refine Eq.trans (g_ist (k := 6) dL_law_1647 (Nat.le_of_ble_eq_true rfl) rfl rfl rfl) ?_
  refine Eq.trans (g_A dL_law_1649 rfl rfl) ?_
  refine Eq.trans (g_vI (a := 34) (as := []) (rest := []) dL_law_1650 cl306 m172 rfl rfl rfl rfl (Nat.le_of_ble_eq_true rfl) rfl rfl rfl rfl) ?_
  refine am_bI_c (fun r3 t3 => ?_)
  refine Eq.trans (g_A dL_law_1653 rfl rfl) ?_
  refine Eq.trans (g_iceq (t := 1660) dL_law_1655 rfl rfl) ?_
  refine am_ite ?_ ?_
  · refine Eq.trans (g_A dL_law_1660 rfl rfl) ?_
    refine Eq.trans (g_ifne (t := 1677) dL_law_1662 rfl rfl) ?_
    refine am_ite ?_ ?_
    · refine Eq.trans (g_A dL_law_1665 rfl rfl) ?_
      refine Eq.trans (g_K (v := nI 0) dL_law_1666 rfl rfl) ?_
      refine Eq.trans (g_lald dL_law_1667 sh57 rfl) ?_
      refine am_ite ?_ rfl
      refine Eq.trans (g_A dL_law_1668 rfl rfl) ?_
      refine Eq.trans (g_i2l dL_law_1670 rfl) ?_
      refine Eq.trans (g_lcmp dL_law_1671 rfl) ?_
      refine Eq.trans (g_ifeq (t := 1677) dL_law_1672 rfl rfl) ?_
      refine am_ite ?_ ?_
      · refine Eq.trans (g_goto (pc' := 2785) dL_law_1677 rfl) ?_
        rfl
      · refine Eq.trans (g_K (v := nI 0) dL_law_1675 rfl rfl) ?_
        exact g_zl dL_law_1676 rfl (Or.inl rfl)
    · refine Eq.trans (g_goto (pc' := 2785) dL_law_1677 rfl) ?_
      rfl
  · refine Eq.trans (g_K (v := nI 0) dL_law_1658 rfl rfl) ?_
    exact g_zl dL_law_1659 rfl (Or.inl rfl)
theorem ql_1680 {Xs : am_X} (hX : 0 < Xs.1) (C : am_C) (σ : am_M) (v4 : Int32) {u5 : Value} {u6 : Value} : am_go Xs C ML 1680 [.ref 1001, .ref 0, .ref 34, .ref 57, .int v4, u5, u6, .null] [] σ = if am_in (v4 + (nI 1)) (Xs.1 - 1) = true then (am_bI (C 298 [.ref 0, .int (Xs.2 (v4 + (nI 1) : Int32).toNatClampNeg), .ref 57] σ) (fun r1 t1 => if am_in (v4 + (nI 1)) (Xs.1 - 1) = true then (am_bI (C 239 [.ref 34, .int (Xs.2 (v4 + (nI 1) : Int32).toNatClampNeg)] t1) (fun r2 t2 => am_bI (C 172 [.ref 34] t2) (fun r3 t3 => if r3 = r1 then (if r1 = nI 0 then (if am_in (nI 0) 1 = true then (if lg_cmp (t3.2.1 57 (nI 0 : Int32).toNatClampNeg) ((r2 : Int32).toInt64) = nI 0 then (am_go Xs C ML 2785 [.ref 1001, .ref 0, .ref 34, .ref 57, .int v4, .int r1, .int r2, .null] [] t3) else (some (.inl (some (.int (nI 0))), t3))) else none) else (am_go Xs C ML 2785 [.ref 1001, .ref 0, .ref 34, .ref 57, .int v4, .int r1, .int r2, .null] [] t3)) else (some (.inl (some (.int (nI 0))), t3))))) else none)) else none := by
  refine Eq.trans (g_A dL_law_1680 rfl rfl) ?_
  refine Eq.trans (g_A dL_law_1681 rfl rfl) ?_
  refine Eq.trans (g_A dL_law_1682 rfl rfl) ?_
  refine Eq.trans (g_K (v := nI 1) dL_law_1684 rfl rfl) ?_
  refine Eq.trans (g_iadd dL_law_1685 rfl) ?_
  refine Eq.trans (g_scld dL_law_1686 rfl) ?_
  refine am_ite ?_ rfl
  refine Eq.trans (g_A dL_law_1687 rfl rfl) ?_
  refine Eq.trans (g_sI (as := [.ref 0, .int (Xs.2 (v4 + (nI 1) : Int32).toNatClampNeg), .ref 57]) (rest := []) dL_law_1688 rfl cl355 m298 rfl rfl rfl rfl (Nat.le_of_ble_eq_true rfl) rfl rfl rfl) ?_
  refine am_bI_c (fun r1 t1 => ?_)
  refine Eq.trans (g_ist (k := 5) dL_law_1691 (Nat.le_of_ble_eq_true rfl) rfl rfl rfl) ?_
  refine Eq.trans (g_A dL_law_1693 rfl rfl) ?_
  refine Eq.trans (g_A dL_law_1694 rfl rfl) ?_
  refine Eq.trans (g_A dL_law_1695 rfl rfl) ?_
  refine Eq.trans (g_K (v := nI 1) dL_law_1697 rfl rfl) ?_
  refine Eq.trans (g_iadd dL_law_1698 rfl) ?_
  refine Eq.trans (g_scld dL_law_1699 rfl) ?_
  refine am_ite ?_ rfl
  refine Eq.trans (g_vI (a := 34) (as := [.int (Xs.2 (v4 + (nI 1) : Int32).toNatClampNeg)]) (rest := []) dL_law_1700 cl356 m239 rfl rfl rfl rfl (Nat.le_of_ble_eq_true rfl) rfl rfl rfl rfl) ?_
  refine am_bI_c (fun r2 t2 => ?_)
  refine Eq.trans (g_ist (k := 6) dL_law_1703 (Nat.le_of_ble_eq_true rfl) rfl rfl rfl) ?_
  refine Eq.trans (g_A dL_law_1705 rfl rfl) ?_
  refine Eq.trans (g_vI (a := 34) (as := []) (rest := []) dL_law_1706 cl306 m172 rfl rfl rfl rfl (Nat.le_of_ble_eq_true rfl) rfl rfl rfl rfl) ?_
  refine am_bI_c (fun r3 t3 => ?_)
  refine Eq.trans (g_A dL_law_1709 rfl rfl) ?_
  refine Eq.trans (g_iceq (t := 1716) dL_law_1711 rfl rfl) ?_
  refine am_ite ?_ ?_
  · refine Eq.trans (g_A dL_law_1716 rfl rfl) ?_
    refine Eq.trans (g_ifne (t := 1733) dL_law_1718 rfl rfl) ?_
    refine am_ite ?_ ?_
    · refine Eq.trans (g_A dL_law_1721 rfl rfl) ?_
      refine Eq.trans (g_K (v := nI 0) dL_law_1722 rfl rfl) ?_
      refine Eq.trans (g_lald dL_law_1723 sh57 rfl) ?_
      refine am_ite ?_ rfl
      refine Eq.trans (g_A dL_law_1724 rfl rfl) ?_
      refine Eq.trans (g_i2l dL_law_1726 rfl) ?_
      refine Eq.trans (g_lcmp dL_law_1727 rfl) ?_
      refine Eq.trans (g_ifeq (t := 1733) dL_law_1728 rfl rfl) ?_
      refine am_ite ?_ ?_
      · refine Eq.trans (g_goto (pc' := 2785) dL_law_1733 rfl) ?_
        rfl
      · refine Eq.trans (g_K (v := nI 0) dL_law_1731 rfl rfl) ?_
        exact g_zl dL_law_1732 rfl (Or.inl rfl)
    · refine Eq.trans (g_goto (pc' := 2785) dL_law_1733 rfl) ?_
      rfl
  · refine Eq.trans (g_K (v := nI 0) dL_law_1714 rfl rfl) ?_
    exact g_zl dL_law_1715 rfl (Or.inl rfl)
theorem ql_1736 {Xs : am_X} (hX : 0 < Xs.1) (C : am_C) (σ : am_M) (v4 : Int32) {u5 : Value} {u6 : Value} : am_go Xs C ML 1736 [.ref 1001, .ref 0, .ref 34, .ref 57, .int v4, u5, u6, .null] [] σ = if am_in (v4 + (nI 1)) (Xs.1 - 1) = true then (if am_in (v4 + (nI 2)) (Xs.1 - 1) = true then (am_bI (C 299 [.ref 0, .int (Xs.2 (v4 + (nI 1) : Int32).toNatClampNeg), .int (Xs.2 (v4 + (nI 2) : Int32).toNatClampNeg), .ref 57] σ) (fun r1 t1 => if am_in (v4 + (nI 1)) (Xs.1 - 1) = true then (if am_in (v4 + (nI 2)) (Xs.1 - 1) = true then (am_bI (C 242 [.ref 34, .int (Xs.2 (v4 + (nI 1) : Int32).toNatClampNeg), .int (Xs.2 (v4 + (nI 2) : Int32).toNatClampNeg)] t1) (fun r2 t2 => am_bI (C 172 [.ref 34] t2) (fun r3 t3 => if r3 = r1 then (if r1 = nI 0 then (if am_in (nI 0) 1 = true then (if lg_cmp (t3.2.1 57 (nI 0 : Int32).toNatClampNeg) ((r2 : Int32).toInt64) = nI 0 then (am_go Xs C ML 2785 [.ref 1001, .ref 0, .ref 34, .ref 57, .int v4, .int r1, .int r2, .null] [] t3) else (some (.inl (some (.int (nI 0))), t3))) else none) else (am_go Xs C ML 2785 [.ref 1001, .ref 0, .ref 34, .ref 57, .int v4, .int r1, .int r2, .null] [] t3)) else (some (.inl (some (.int (nI 0))), t3))))) else none) else none)) else none) else none := by
  refine Eq.trans (g_A dL_law_1736 rfl rfl) ?_
  refine Eq.trans (g_A dL_law_1737 rfl rfl) ?_
  refine Eq.trans (g_A dL_law_1738 rfl rfl) ?_
  refine Eq.trans (g_K (v := nI 1) dL_law_1740 rfl rfl) ?_
  refine Eq.trans (g_iadd dL_law_1741 rfl) ?_
  refine Eq.trans (g_scld dL_law_1742 rfl) ?_
  refine am_ite ?_ rfl
  refine Eq.trans (g_A dL_law_1743 rfl rfl) ?_
  refine Eq.trans (g_A dL_law_1744 rfl rfl) ?_
  refine Eq.trans (g_K (v := nI 2) dL_law_1746 rfl rfl) ?_
  refine Eq.trans (g_iadd dL_law_1747 rfl) ?_
  refine Eq.trans (g_scld dL_law_1748 rfl) ?_
  refine am_ite ?_ rfl
  refine Eq.trans (g_A dL_law_1749 rfl rfl) ?_
  refine Eq.trans (g_sI (as := [.ref 0, .int (Xs.2 (v4 + (nI 1) : Int32).toNatClampNeg), .int (Xs.2 (v4 + (nI 2) : Int32).toNatClampNeg), .ref 57]) (rest := []) dL_law_1750 rfl cl357 m299 rfl rfl rfl rfl (Nat.le_of_ble_eq_true rfl) rfl rfl rfl) ?_
  refine am_bI_c (fun r1 t1 => ?_)
  refine Eq.trans (g_ist (k := 5) dL_law_1753 (Nat.le_of_ble_eq_true rfl) rfl rfl rfl) ?_
  refine Eq.trans (g_A dL_law_1755 rfl rfl) ?_
  refine Eq.trans (g_A dL_law_1756 rfl rfl) ?_
  refine Eq.trans (g_A dL_law_1757 rfl rfl) ?_
  refine Eq.trans (g_K (v := nI 1) dL_law_1759 rfl rfl) ?_
  refine Eq.trans (g_iadd dL_law_1760 rfl) ?_
  refine Eq.trans (g_scld dL_law_1761 rfl) ?_
  refine am_ite ?_ rfl
  refine Eq.trans (g_A dL_law_1762 rfl rfl) ?_
  refine Eq.trans (g_A dL_law_1763 rfl rfl) ?_
  refine Eq.trans (g_K (v := nI 2) dL_law_1765 rfl rfl) ?_
  refine Eq.trans (g_iadd dL_law_1766 rfl) ?_
  refine Eq.trans (g_scld dL_law_1767 rfl) ?_
  refine am_ite ?_ rfl
  refine Eq.trans (g_vI (a := 34) (as := [.int (Xs.2 (v4 + (nI 1) : Int32).toNatClampNeg), .int (Xs.2 (v4 + (nI 2) : Int32).toNatClampNeg)]) (rest := []) dL_law_1768 cl358 m242 rfl rfl rfl rfl (Nat.le_of_ble_eq_true rfl) rfl rfl rfl rfl) ?_
  refine am_bI_c (fun r2 t2 => ?_)
  refine Eq.trans (g_ist (k := 6) dL_law_1771 (Nat.le_of_ble_eq_true rfl) rfl rfl rfl) ?_
  refine Eq.trans (g_A dL_law_1773 rfl rfl) ?_
  refine Eq.trans (g_vI (a := 34) (as := []) (rest := []) dL_law_1774 cl306 m172 rfl rfl rfl rfl (Nat.le_of_ble_eq_true rfl) rfl rfl rfl rfl) ?_
  refine am_bI_c (fun r3 t3 => ?_)
  refine Eq.trans (g_A dL_law_1777 rfl rfl) ?_
  refine Eq.trans (g_iceq (t := 1784) dL_law_1779 rfl rfl) ?_
  refine am_ite ?_ ?_
  · refine Eq.trans (g_A dL_law_1784 rfl rfl) ?_
    refine Eq.trans (g_ifne (t := 1801) dL_law_1786 rfl rfl) ?_
    refine am_ite ?_ ?_
    · refine Eq.trans (g_A dL_law_1789 rfl rfl) ?_
      refine Eq.trans (g_K (v := nI 0) dL_law_1790 rfl rfl) ?_
      refine Eq.trans (g_lald dL_law_1791 sh57 rfl) ?_
      refine am_ite ?_ rfl
      refine Eq.trans (g_A dL_law_1792 rfl rfl) ?_
      refine Eq.trans (g_i2l dL_law_1794 rfl) ?_
      refine Eq.trans (g_lcmp dL_law_1795 rfl) ?_
      refine Eq.trans (g_ifeq (t := 1801) dL_law_1796 rfl rfl) ?_
      refine am_ite ?_ ?_
      · refine Eq.trans (g_goto (pc' := 2785) dL_law_1801 rfl) ?_
        rfl
      · refine Eq.trans (g_K (v := nI 0) dL_law_1799 rfl rfl) ?_
        exact g_zl dL_law_1800 rfl (Or.inl rfl)
    · refine Eq.trans (g_goto (pc' := 2785) dL_law_1801 rfl) ?_
      rfl
  · refine Eq.trans (g_K (v := nI 0) dL_law_1782 rfl rfl) ?_
    exact g_zl dL_law_1783 rfl (Or.inl rfl)
theorem ql_1804 {Xs : am_X} (hX : 0 < Xs.1) (C : am_C) (σ : am_M) (v4 : Int32) {u5 : Value} {u6 : Value} : am_go Xs C ML 1804 [.ref 1001, .ref 0, .ref 34, .ref 57, .int v4, u5, u6, .null] [] σ = if am_in (v4 + (nI 1)) (Xs.1 - 1) = true then (am_bI (C 300 [.ref 0, .int (Xs.2 (v4 + (nI 1) : Int32).toNatClampNeg), .ref 57] σ) (fun r1 t1 => if am_in (v4 + (nI 1)) (Xs.1 - 1) = true then (am_bI (C 243 [.ref 34, .int (Xs.2 (v4 + (nI 1) : Int32).toNatClampNeg)] t1) (fun r2 t2 => am_bI (C 172 [.ref 34] t2) (fun r3 t3 => if r3 = r1 then (if r1 = nI 0 then (if am_in (nI 0) 1 = true then (if lg_cmp (t3.2.1 57 (nI 0 : Int32).toNatClampNeg) ((r2 : Int32).toInt64) = nI 0 then (am_go Xs C ML 2785 [.ref 1001, .ref 0, .ref 34, .ref 57, .int v4, .int r1, .int r2, .null] [] t3) else (some (.inl (some (.int (nI 0))), t3))) else none) else (am_go Xs C ML 2785 [.ref 1001, .ref 0, .ref 34, .ref 57, .int v4, .int r1, .int r2, .null] [] t3)) else (some (.inl (some (.int (nI 0))), t3))))) else none)) else none := by
  refine Eq.trans (g_A dL_law_1804 rfl rfl) ?_
  refine Eq.trans (g_A dL_law_1805 rfl rfl) ?_
  refine Eq.trans (g_A dL_law_1806 rfl rfl) ?_
  refine Eq.trans (g_K (v := nI 1) dL_law_1808 rfl rfl) ?_
  refine Eq.trans (g_iadd dL_law_1809 rfl) ?_
  refine Eq.trans (g_scld dL_law_1810 rfl) ?_
  refine am_ite ?_ rfl
  refine Eq.trans (g_A dL_law_1811 rfl rfl) ?_
  refine Eq.trans (g_sI (as := [.ref 0, .int (Xs.2 (v4 + (nI 1) : Int32).toNatClampNeg), .ref 57]) (rest := []) dL_law_1812 rfl cl359 m300 rfl rfl rfl rfl (Nat.le_of_ble_eq_true rfl) rfl rfl rfl) ?_
  refine am_bI_c (fun r1 t1 => ?_)
  refine Eq.trans (g_ist (k := 5) dL_law_1815 (Nat.le_of_ble_eq_true rfl) rfl rfl rfl) ?_
  refine Eq.trans (g_A dL_law_1817 rfl rfl) ?_
  refine Eq.trans (g_A dL_law_1818 rfl rfl) ?_
  refine Eq.trans (g_A dL_law_1819 rfl rfl) ?_
  refine Eq.trans (g_K (v := nI 1) dL_law_1821 rfl rfl) ?_
  refine Eq.trans (g_iadd dL_law_1822 rfl) ?_
  refine Eq.trans (g_scld dL_law_1823 rfl) ?_
  refine am_ite ?_ rfl
  refine Eq.trans (g_vI (a := 34) (as := [.int (Xs.2 (v4 + (nI 1) : Int32).toNatClampNeg)]) (rest := []) dL_law_1824 cl360 m243 rfl rfl rfl rfl (Nat.le_of_ble_eq_true rfl) rfl rfl rfl rfl) ?_
  refine am_bI_c (fun r2 t2 => ?_)
  refine Eq.trans (g_ist (k := 6) dL_law_1827 (Nat.le_of_ble_eq_true rfl) rfl rfl rfl) ?_
  refine Eq.trans (g_A dL_law_1829 rfl rfl) ?_
  refine Eq.trans (g_vI (a := 34) (as := []) (rest := []) dL_law_1830 cl306 m172 rfl rfl rfl rfl (Nat.le_of_ble_eq_true rfl) rfl rfl rfl rfl) ?_
  refine am_bI_c (fun r3 t3 => ?_)
  refine Eq.trans (g_A dL_law_1833 rfl rfl) ?_
  refine Eq.trans (g_iceq (t := 1840) dL_law_1835 rfl rfl) ?_
  refine am_ite ?_ ?_
  · refine Eq.trans (g_A dL_law_1840 rfl rfl) ?_
    refine Eq.trans (g_ifne (t := 1857) dL_law_1842 rfl rfl) ?_
    refine am_ite ?_ ?_
    · refine Eq.trans (g_A dL_law_1845 rfl rfl) ?_
      refine Eq.trans (g_K (v := nI 0) dL_law_1846 rfl rfl) ?_
      refine Eq.trans (g_lald dL_law_1847 sh57 rfl) ?_
      refine am_ite ?_ rfl
      refine Eq.trans (g_A dL_law_1848 rfl rfl) ?_
      refine Eq.trans (g_i2l dL_law_1850 rfl) ?_
      refine Eq.trans (g_lcmp dL_law_1851 rfl) ?_
      refine Eq.trans (g_ifeq (t := 1857) dL_law_1852 rfl rfl) ?_
      refine am_ite ?_ ?_
      · refine Eq.trans (g_goto (pc' := 2785) dL_law_1857 rfl) ?_
        rfl
      · refine Eq.trans (g_K (v := nI 0) dL_law_1855 rfl rfl) ?_
        exact g_zl dL_law_1856 rfl (Or.inl rfl)
    · refine Eq.trans (g_goto (pc' := 2785) dL_law_1857 rfl) ?_
      rfl
  · refine Eq.trans (g_K (v := nI 0) dL_law_1838 rfl rfl) ?_
    exact g_zl dL_law_1839 rfl (Or.inl rfl)
theorem ql_1860 {Xs : am_X} (hX : 0 < Xs.1) (C : am_C) (σ : am_M) (v4 : Int32) {u5 : Value} {u6 : Value} : am_go Xs C ML 1860 [.ref 1001, .ref 0, .ref 34, .ref 57, .int v4, u5, u6, .null] [] σ = if am_in (v4 + (nI 1)) (Xs.1 - 1) = true then (if am_in (v4 + (nI 2)) (Xs.1 - 1) = true then (am_bI (C 301 [.ref 0, .int (Xs.2 (v4 + (nI 1) : Int32).toNatClampNeg), .int (Xs.2 (v4 + (nI 2) : Int32).toNatClampNeg), .ref 57] σ) (fun r1 t1 => if am_in (v4 + (nI 1)) (Xs.1 - 1) = true then (if am_in (v4 + (nI 2)) (Xs.1 - 1) = true then (am_bI (C 246 [.ref 34, .int (Xs.2 (v4 + (nI 1) : Int32).toNatClampNeg), .int (Xs.2 (v4 + (nI 2) : Int32).toNatClampNeg)] t1) (fun r2 t2 => am_bI (C 172 [.ref 34] t2) (fun r3 t3 => if r3 = r1 then (if r1 = nI 0 then (if am_in (nI 0) 1 = true then (if lg_cmp (t3.2.1 57 (nI 0 : Int32).toNatClampNeg) ((r2 : Int32).toInt64) = nI 0 then (am_go Xs C ML 2785 [.ref 1001, .ref 0, .ref 34, .ref 57, .int v4, .int r1, .int r2, .null] [] t3) else (some (.inl (some (.int (nI 0))), t3))) else none) else (am_go Xs C ML 2785 [.ref 1001, .ref 0, .ref 34, .ref 57, .int v4, .int r1, .int r2, .null] [] t3)) else (some (.inl (some (.int (nI 0))), t3))))) else none) else none)) else none) else none := by
  refine Eq.trans (g_A dL_law_1860 rfl rfl) ?_
  refine Eq.trans (g_A dL_law_1861 rfl rfl) ?_
  refine Eq.trans (g_A dL_law_1862 rfl rfl) ?_
  refine Eq.trans (g_K (v := nI 1) dL_law_1864 rfl rfl) ?_
  refine Eq.trans (g_iadd dL_law_1865 rfl) ?_
  refine Eq.trans (g_scld dL_law_1866 rfl) ?_
  refine am_ite ?_ rfl
  refine Eq.trans (g_A dL_law_1867 rfl rfl) ?_
  refine Eq.trans (g_A dL_law_1868 rfl rfl) ?_
  refine Eq.trans (g_K (v := nI 2) dL_law_1870 rfl rfl) ?_
  refine Eq.trans (g_iadd dL_law_1871 rfl) ?_
  refine Eq.trans (g_scld dL_law_1872 rfl) ?_
  refine am_ite ?_ rfl
  refine Eq.trans (g_A dL_law_1873 rfl rfl) ?_
  refine Eq.trans (g_sI (as := [.ref 0, .int (Xs.2 (v4 + (nI 1) : Int32).toNatClampNeg), .int (Xs.2 (v4 + (nI 2) : Int32).toNatClampNeg), .ref 57]) (rest := []) dL_law_1874 rfl cl361 m301 rfl rfl rfl rfl (Nat.le_of_ble_eq_true rfl) rfl rfl rfl) ?_
  refine am_bI_c (fun r1 t1 => ?_)
  refine Eq.trans (g_ist (k := 5) dL_law_1877 (Nat.le_of_ble_eq_true rfl) rfl rfl rfl) ?_
  refine Eq.trans (g_A dL_law_1879 rfl rfl) ?_
  refine Eq.trans (g_A dL_law_1880 rfl rfl) ?_
  refine Eq.trans (g_A dL_law_1881 rfl rfl) ?_
  refine Eq.trans (g_K (v := nI 1) dL_law_1883 rfl rfl) ?_
  refine Eq.trans (g_iadd dL_law_1884 rfl) ?_
  refine Eq.trans (g_scld dL_law_1885 rfl) ?_
  refine am_ite ?_ rfl
  refine Eq.trans (g_A dL_law_1886 rfl rfl) ?_
  refine Eq.trans (g_A dL_law_1887 rfl rfl) ?_
  refine Eq.trans (g_K (v := nI 2) dL_law_1889 rfl rfl) ?_
  refine Eq.trans (g_iadd dL_law_1890 rfl) ?_
  refine Eq.trans (g_scld dL_law_1891 rfl) ?_
  refine am_ite ?_ rfl
  refine Eq.trans (g_vI (a := 34) (as := [.int (Xs.2 (v4 + (nI 1) : Int32).toNatClampNeg), .int (Xs.2 (v4 + (nI 2) : Int32).toNatClampNeg)]) (rest := []) dL_law_1892 cl362 m246 rfl rfl rfl rfl (Nat.le_of_ble_eq_true rfl) rfl rfl rfl rfl) ?_
  refine am_bI_c (fun r2 t2 => ?_)
  refine Eq.trans (g_ist (k := 6) dL_law_1895 (Nat.le_of_ble_eq_true rfl) rfl rfl rfl) ?_
  refine Eq.trans (g_A dL_law_1897 rfl rfl) ?_
  refine Eq.trans (g_vI (a := 34) (as := []) (rest := []) dL_law_1898 cl306 m172 rfl rfl rfl rfl (Nat.le_of_ble_eq_true rfl) rfl rfl rfl rfl) ?_
  refine am_bI_c (fun r3 t3 => ?_)
  refine Eq.trans (g_A dL_law_1901 rfl rfl) ?_
  refine Eq.trans (g_iceq (t := 1908) dL_law_1903 rfl rfl) ?_
  refine am_ite ?_ ?_
  · refine Eq.trans (g_A dL_law_1908 rfl rfl) ?_
    refine Eq.trans (g_ifne (t := 1925) dL_law_1910 rfl rfl) ?_
    refine am_ite ?_ ?_
    · refine Eq.trans (g_A dL_law_1913 rfl rfl) ?_
      refine Eq.trans (g_K (v := nI 0) dL_law_1914 rfl rfl) ?_
      refine Eq.trans (g_lald dL_law_1915 sh57 rfl) ?_
      refine am_ite ?_ rfl
      refine Eq.trans (g_A dL_law_1916 rfl rfl) ?_
      refine Eq.trans (g_i2l dL_law_1918 rfl) ?_
      refine Eq.trans (g_lcmp dL_law_1919 rfl) ?_
      refine Eq.trans (g_ifeq (t := 1925) dL_law_1920 rfl rfl) ?_
      refine am_ite ?_ ?_
      · refine Eq.trans (g_goto (pc' := 2785) dL_law_1925 rfl) ?_
        rfl
      · refine Eq.trans (g_K (v := nI 0) dL_law_1923 rfl rfl) ?_
        exact g_zl dL_law_1924 rfl (Or.inl rfl)
    · refine Eq.trans (g_goto (pc' := 2785) dL_law_1925 rfl) ?_
      rfl
  · refine Eq.trans (g_K (v := nI 0) dL_law_1906 rfl rfl) ?_
    exact g_zl dL_law_1907 rfl (Or.inl rfl)
theorem ql_1928 {Xs : am_X} (hX : 0 < Xs.1) (C : am_C) (σ : am_M) (v4 : Int32) {u5 : Value} {u6 : Value} : am_go Xs C ML 1928 [.ref 1001, .ref 0, .ref 34, .ref 57, .int v4, u5, u6, .null] [] σ = if am_in (v4 + (nI 1)) (Xs.1 - 1) = true then (am_bI (C 302 [.ref 0, .int (Xs.2 (v4 + (nI 1) : Int32).toNatClampNeg), .ref 57] σ) (fun r1 t1 => if am_in (v4 + (nI 1)) (Xs.1 - 1) = true then (am_bI (C 247 [.ref 34, .int (Xs.2 (v4 + (nI 1) : Int32).toNatClampNeg)] t1) (fun r2 t2 => am_bI (C 172 [.ref 34] t2) (fun r3 t3 => if r3 = r1 then (if r1 = nI 0 then (if am_in (nI 0) 1 = true then (if lg_cmp (t3.2.1 57 (nI 0 : Int32).toNatClampNeg) ((r2 : Int32).toInt64) = nI 0 then (am_go Xs C ML 2785 [.ref 1001, .ref 0, .ref 34, .ref 57, .int v4, .int r1, .int r2, .null] [] t3) else (some (.inl (some (.int (nI 0))), t3))) else none) else (am_go Xs C ML 2785 [.ref 1001, .ref 0, .ref 34, .ref 57, .int v4, .int r1, .int r2, .null] [] t3)) else (some (.inl (some (.int (nI 0))), t3))))) else none)) else none := by
  refine Eq.trans (g_A dL_law_1928 rfl rfl) ?_
  refine Eq.trans (g_A dL_law_1929 rfl rfl) ?_
  refine Eq.trans (g_A dL_law_1930 rfl rfl) ?_
  refine Eq.trans (g_K (v := nI 1) dL_law_1932 rfl rfl) ?_
  refine Eq.trans (g_iadd dL_law_1933 rfl) ?_
  refine Eq.trans (g_scld dL_law_1934 rfl) ?_
  refine am_ite ?_ rfl
  refine Eq.trans (g_A dL_law_1935 rfl rfl) ?_
  refine Eq.trans (g_sI (as := [.ref 0, .int (Xs.2 (v4 + (nI 1) : Int32).toNatClampNeg), .ref 57]) (rest := []) dL_law_1936 rfl cl363 m302 rfl rfl rfl rfl (Nat.le_of_ble_eq_true rfl) rfl rfl rfl) ?_
  refine am_bI_c (fun r1 t1 => ?_)
  refine Eq.trans (g_ist (k := 5) dL_law_1939 (Nat.le_of_ble_eq_true rfl) rfl rfl rfl) ?_
  refine Eq.trans (g_A dL_law_1941 rfl rfl) ?_
  refine Eq.trans (g_A dL_law_1942 rfl rfl) ?_
  refine Eq.trans (g_A dL_law_1943 rfl rfl) ?_
  refine Eq.trans (g_K (v := nI 1) dL_law_1945 rfl rfl) ?_
  refine Eq.trans (g_iadd dL_law_1946 rfl) ?_
  refine Eq.trans (g_scld dL_law_1947 rfl) ?_
  refine am_ite ?_ rfl
  refine Eq.trans (g_vI (a := 34) (as := [.int (Xs.2 (v4 + (nI 1) : Int32).toNatClampNeg)]) (rest := []) dL_law_1948 cl364 m247 rfl rfl rfl rfl (Nat.le_of_ble_eq_true rfl) rfl rfl rfl rfl) ?_
  refine am_bI_c (fun r2 t2 => ?_)
  refine Eq.trans (g_ist (k := 6) dL_law_1951 (Nat.le_of_ble_eq_true rfl) rfl rfl rfl) ?_
  refine Eq.trans (g_A dL_law_1953 rfl rfl) ?_
  refine Eq.trans (g_vI (a := 34) (as := []) (rest := []) dL_law_1954 cl306 m172 rfl rfl rfl rfl (Nat.le_of_ble_eq_true rfl) rfl rfl rfl rfl) ?_
  refine am_bI_c (fun r3 t3 => ?_)
  refine Eq.trans (g_A dL_law_1957 rfl rfl) ?_
  refine Eq.trans (g_iceq (t := 1964) dL_law_1959 rfl rfl) ?_
  refine am_ite ?_ ?_
  · refine Eq.trans (g_A dL_law_1964 rfl rfl) ?_
    refine Eq.trans (g_ifne (t := 1981) dL_law_1966 rfl rfl) ?_
    refine am_ite ?_ ?_
    · refine Eq.trans (g_A dL_law_1969 rfl rfl) ?_
      refine Eq.trans (g_K (v := nI 0) dL_law_1970 rfl rfl) ?_
      refine Eq.trans (g_lald dL_law_1971 sh57 rfl) ?_
      refine am_ite ?_ rfl
      refine Eq.trans (g_A dL_law_1972 rfl rfl) ?_
      refine Eq.trans (g_i2l dL_law_1974 rfl) ?_
      refine Eq.trans (g_lcmp dL_law_1975 rfl) ?_
      refine Eq.trans (g_ifeq (t := 1981) dL_law_1976 rfl rfl) ?_
      refine am_ite ?_ ?_
      · refine Eq.trans (g_goto (pc' := 2785) dL_law_1981 rfl) ?_
        rfl
      · refine Eq.trans (g_K (v := nI 0) dL_law_1979 rfl rfl) ?_
        exact g_zl dL_law_1980 rfl (Or.inl rfl)
    · refine Eq.trans (g_goto (pc' := 2785) dL_law_1981 rfl) ?_
      rfl
  · refine Eq.trans (g_K (v := nI 0) dL_law_1962 rfl rfl) ?_
    exact g_zl dL_law_1963 rfl (Or.inl rfl)
theorem ql_1984 {Xs : am_X} (hX : 0 < Xs.1) (C : am_C) (σ : am_M) (v4 : Int32) {u5 : Value} {u6 : Value} : am_go Xs C ML 1984 [.ref 1001, .ref 0, .ref 34, .ref 57, .int v4, u5, u6, .null] [] σ = am_bI (C 303 [.ref 0, .ref 57] σ) (fun r1 t1 => am_bI (C 248 [.ref 34] t1) (fun r2 t2 => am_bI (C 172 [.ref 34] t2) (fun r3 t3 => if r3 = r1 then (if r1 = nI 0 then (if am_in (nI 0) 1 = true then (if lg_cmp (t3.2.1 57 (nI 0 : Int32).toNatClampNeg) ((r2 : Int32).toInt64) = nI 0 then (am_go Xs C ML 2785 [.ref 1001, .ref 0, .ref 34, .ref 57, .int v4, .int r1, .int r2, .null] [] t3) else (some (.inl (some (.int (nI 0))), t3))) else none) else (am_go Xs C ML 2785 [.ref 1001, .ref 0, .ref 34, .ref 57, .int v4, .int r1, .int r2, .null] [] t3)) else (some (.inl (some (.int (nI 0))), t3))))) := by
  refine Eq.trans (g_A dL_law_1984 rfl rfl) ?_
  refine Eq.trans (g_A dL_law_1985 rfl rfl) ?_
  refine Eq.trans (g_sI (as := [.ref 0, .ref 57]) (rest := []) dL_law_1986 rfl cl365 m303 rfl rfl rfl rfl (Nat.le_of_ble_eq_true rfl) rfl rfl rfl) ?_
  refine am_bI_c (fun r1 t1 => ?_)
  refine Eq.trans (g_ist (k := 5) dL_law_1989 (Nat.le_of_ble_eq_true rfl) rfl rfl rfl) ?_
  refine Eq.trans (g_A dL_law_1991 rfl rfl) ?_
  refine Eq.trans (g_vI (a := 34) (as := []) (rest := []) dL_law_1992 cl366 m248 rfl rfl rfl rfl (Nat.le_of_ble_eq_true rfl) rfl rfl rfl rfl) ?_
  refine am_bI_c (fun r2 t2 => ?_)
  refine Eq.trans (g_ist (k := 6) dL_law_1995 (Nat.le_of_ble_eq_true rfl) rfl rfl rfl) ?_
  refine Eq.trans (g_A dL_law_1997 rfl rfl) ?_
  refine Eq.trans (g_vI (a := 34) (as := []) (rest := []) dL_law_1998 cl306 m172 rfl rfl rfl rfl (Nat.le_of_ble_eq_true rfl) rfl rfl rfl rfl) ?_
  refine am_bI_c (fun r3 t3 => ?_)
  refine Eq.trans (g_A dL_law_2001 rfl rfl) ?_
  refine Eq.trans (g_iceq (t := 2008) dL_law_2003 rfl rfl) ?_
  refine am_ite ?_ ?_
  · refine Eq.trans (g_A dL_law_2008 rfl rfl) ?_
    refine Eq.trans (g_ifne (t := 2025) dL_law_2010 rfl rfl) ?_
    refine am_ite ?_ ?_
    · refine Eq.trans (g_A dL_law_2013 rfl rfl) ?_
      refine Eq.trans (g_K (v := nI 0) dL_law_2014 rfl rfl) ?_
      refine Eq.trans (g_lald dL_law_2015 sh57 rfl) ?_
      refine am_ite ?_ rfl
      refine Eq.trans (g_A dL_law_2016 rfl rfl) ?_
      refine Eq.trans (g_i2l dL_law_2018 rfl) ?_
      refine Eq.trans (g_lcmp dL_law_2019 rfl) ?_
      refine Eq.trans (g_ifeq (t := 2025) dL_law_2020 rfl rfl) ?_
      refine am_ite ?_ ?_
      · refine Eq.trans (g_goto (pc' := 2785) dL_law_2025 rfl) ?_
        rfl
      · refine Eq.trans (g_K (v := nI 0) dL_law_2023 rfl rfl) ?_
        exact g_zl dL_law_2024 rfl (Or.inl rfl)
    · refine Eq.trans (g_goto (pc' := 2785) dL_law_2025 rfl) ?_
      rfl
  · refine Eq.trans (g_K (v := nI 0) dL_law_2006 rfl rfl) ?_
    exact g_zl dL_law_2007 rfl (Or.inl rfl)
theorem ql_2028 {Xs : am_X} (hX : 0 < Xs.1) (C : am_C) (σ : am_M) (v4 : Int32) {u5 : Value} {u6 : Value} : am_go Xs C ML 2028 [.ref 1001, .ref 0, .ref 34, .ref 57, .int v4, u5, u6, .null] [] σ = am_bI (C 129 [.ref 0] σ) (fun r1 t1 => am_bI (C 249 [.ref 34] t1) (fun r2 t2 => if r1 = r2 then (am_go Xs C ML 2785 [.ref 1001, .ref 0, .ref 34, .ref 57, .int v4, u5, u6, .null] [] t2) else (some (.inl (some (.int (nI 0))), t2)))) := by
  refine Eq.trans (g_A dL_law_2028 rfl rfl) ?_
  refine Eq.trans (g_vI (a := 0) (as := []) (rest := []) dL_law_2029 cl367 m129 rfl rfl rfl rfl (Nat.le_of_ble_eq_true rfl) rfl rfl rfl rfl) ?_
  refine am_bI_c (fun r1 t1 => ?_)
  refine Eq.trans (g_A dL_law_2032 rfl rfl) ?_
  refine Eq.trans (g_vI (a := 34) (as := []) (rest := [.int r1]) dL_law_2033 cl368 m249 rfl rfl rfl rfl (Nat.le_of_ble_eq_true rfl) rfl rfl rfl rfl) ?_
  refine am_bI_c (fun r2 t2 => ?_)
  refine Eq.trans (g_iceq (t := 2785) dL_law_2036 rfl rfl) ?_
  refine am_ite ?_ ?_
  · rfl
  · refine Eq.trans (g_K (v := nI 0) dL_law_2039 rfl rfl) ?_
    exact g_zl dL_law_2040 rfl (Or.inl rfl)
theorem ql_2041 {Xs : am_X} (hX : 0 < Xs.1) (C : am_C) (σ : am_M) (v4 : Int32) {u5 : Value} {u6 : Value} : am_go Xs C ML 2041 [.ref 1001, .ref 0, .ref 34, .ref 57, .int v4, u5, u6, .null] [] σ = if am_in (v4 + (nI 1)) (Xs.1 - 1) = true then (if am_in (v4 + (nI 2)) (Xs.1 - 1) = true then (am_bI (C 304 [.ref 0, .int (Xs.2 (v4 + (nI 1) : Int32).toNatClampNeg), .int (Xs.2 (v4 + (nI 2) : Int32).toNatClampNeg), .ref 57] σ) (fun r1 t1 => if am_in (v4 + (nI 1)) (Xs.1 - 1) = true then (if am_in (v4 + (nI 2)) (Xs.1 - 1) = true then (am_bI (C 254 [.ref 34, .int (Xs.2 (v4 + (nI 1) : Int32).toNatClampNeg), .int (Xs.2 (v4 + (nI 2) : Int32).toNatClampNeg)] t1) (fun r2 t2 => am_bI (C 172 [.ref 34] t2) (fun r3 t3 => if r3 = r1 then (if r1 = nI 0 then (if am_in (nI 0) 1 = true then (if lg_cmp (t3.2.1 57 (nI 0 : Int32).toNatClampNeg) ((r2 : Int32).toInt64) = nI 0 then (am_go Xs C ML 2785 [.ref 1001, .ref 0, .ref 34, .ref 57, .int v4, .int r1, .int r2, .null] [] t3) else (some (.inl (some (.int (nI 0))), t3))) else none) else (am_go Xs C ML 2785 [.ref 1001, .ref 0, .ref 34, .ref 57, .int v4, .int r1, .int r2, .null] [] t3)) else (some (.inl (some (.int (nI 0))), t3))))) else none) else none)) else none) else none := by
  refine Eq.trans (g_A dL_law_2041 rfl rfl) ?_
  refine Eq.trans (g_A dL_law_2042 rfl rfl) ?_
  refine Eq.trans (g_A dL_law_2043 rfl rfl) ?_
  refine Eq.trans (g_K (v := nI 1) dL_law_2045 rfl rfl) ?_
  refine Eq.trans (g_iadd dL_law_2046 rfl) ?_
  refine Eq.trans (g_scld dL_law_2047 rfl) ?_
  refine am_ite ?_ rfl
  refine Eq.trans (g_A dL_law_2048 rfl rfl) ?_
  refine Eq.trans (g_A dL_law_2049 rfl rfl) ?_
  refine Eq.trans (g_K (v := nI 2) dL_law_2051 rfl rfl) ?_
  refine Eq.trans (g_iadd dL_law_2052 rfl) ?_
  refine Eq.trans (g_scld dL_law_2053 rfl) ?_
  refine am_ite ?_ rfl
  refine Eq.trans (g_A dL_law_2054 rfl rfl) ?_
  refine Eq.trans (g_sI (as := [.ref 0, .int (Xs.2 (v4 + (nI 1) : Int32).toNatClampNeg), .int (Xs.2 (v4 + (nI 2) : Int32).toNatClampNeg), .ref 57]) (rest := []) dL_law_2055 rfl cl369 m304 rfl rfl rfl rfl (Nat.le_of_ble_eq_true rfl) rfl rfl rfl) ?_
  refine am_bI_c (fun r1 t1 => ?_)
  refine Eq.trans (g_ist (k := 5) dL_law_2058 (Nat.le_of_ble_eq_true rfl) rfl rfl rfl) ?_
  refine Eq.trans (g_A dL_law_2060 rfl rfl) ?_
  refine Eq.trans (g_A dL_law_2061 rfl rfl) ?_
  refine Eq.trans (g_A dL_law_2062 rfl rfl) ?_
  refine Eq.trans (g_K (v := nI 1) dL_law_2064 rfl rfl) ?_
  refine Eq.trans (g_iadd dL_law_2065 rfl) ?_
  refine Eq.trans (g_scld dL_law_2066 rfl) ?_
  refine am_ite ?_ rfl
  refine Eq.trans (g_A dL_law_2067 rfl rfl) ?_
  refine Eq.trans (g_A dL_law_2068 rfl rfl) ?_
  refine Eq.trans (g_K (v := nI 2) dL_law_2070 rfl rfl) ?_
  refine Eq.trans (g_iadd dL_law_2071 rfl) ?_
  refine Eq.trans (g_scld dL_law_2072 rfl) ?_
  refine am_ite ?_ rfl
  refine Eq.trans (g_vI (a := 34) (as := [.int (Xs.2 (v4 + (nI 1) : Int32).toNatClampNeg), .int (Xs.2 (v4 + (nI 2) : Int32).toNatClampNeg)]) (rest := []) dL_law_2073 cl370 m254 rfl rfl rfl rfl (Nat.le_of_ble_eq_true rfl) rfl rfl rfl rfl) ?_
  refine am_bI_c (fun r2 t2 => ?_)
  refine Eq.trans (g_ist (k := 6) dL_law_2076 (Nat.le_of_ble_eq_true rfl) rfl rfl rfl) ?_
  refine Eq.trans (g_A dL_law_2078 rfl rfl) ?_
  refine Eq.trans (g_vI (a := 34) (as := []) (rest := []) dL_law_2079 cl306 m172 rfl rfl rfl rfl (Nat.le_of_ble_eq_true rfl) rfl rfl rfl rfl) ?_
  refine am_bI_c (fun r3 t3 => ?_)
  refine Eq.trans (g_A dL_law_2082 rfl rfl) ?_
  refine Eq.trans (g_iceq (t := 2089) dL_law_2084 rfl rfl) ?_
  refine am_ite ?_ ?_
  · refine Eq.trans (g_A dL_law_2089 rfl rfl) ?_
    refine Eq.trans (g_ifne (t := 2106) dL_law_2091 rfl rfl) ?_
    refine am_ite ?_ ?_
    · refine Eq.trans (g_A dL_law_2094 rfl rfl) ?_
      refine Eq.trans (g_K (v := nI 0) dL_law_2095 rfl rfl) ?_
      refine Eq.trans (g_lald dL_law_2096 sh57 rfl) ?_
      refine am_ite ?_ rfl
      refine Eq.trans (g_A dL_law_2097 rfl rfl) ?_
      refine Eq.trans (g_i2l dL_law_2099 rfl) ?_
      refine Eq.trans (g_lcmp dL_law_2100 rfl) ?_
      refine Eq.trans (g_ifeq (t := 2106) dL_law_2101 rfl rfl) ?_
      refine am_ite ?_ ?_
      · refine Eq.trans (g_goto (pc' := 2785) dL_law_2106 rfl) ?_
        rfl
      · refine Eq.trans (g_K (v := nI 0) dL_law_2104 rfl rfl) ?_
        exact g_zl dL_law_2105 rfl (Or.inl rfl)
    · refine Eq.trans (g_goto (pc' := 2785) dL_law_2106 rfl) ?_
      rfl
  · refine Eq.trans (g_K (v := nI 0) dL_law_2087 rfl rfl) ?_
    exact g_zl dL_law_2088 rfl (Or.inl rfl)
theorem ql_2109 {Xs : am_X} (hX : 0 < Xs.1) (C : am_C) (σ : am_M) (v4 : Int32) {u5 : Value} {u6 : Value} : am_go Xs C ML 2109 [.ref 1001, .ref 0, .ref 34, .ref 57, .int v4, u5, u6, .null] [] σ = if am_in (v4 + (nI 1)) (Xs.1 - 1) = true then (if am_in (v4 + (nI 2)) (Xs.1 - 1) = true then (if am_in (v4 + (nI 3)) (Xs.1 - 1) = true then (am_bI (C 305 [.ref 0, .int (Xs.2 (v4 + (nI 1) : Int32).toNatClampNeg), .int (Xs.2 (v4 + (nI 2) : Int32).toNatClampNeg), .int (Xs.2 (v4 + (nI 3) : Int32).toNatClampNeg), .ref 57] σ) (fun r1 t1 => if am_in (v4 + (nI 1)) (Xs.1 - 1) = true then (if am_in (v4 + (nI 2)) (Xs.1 - 1) = true then (if am_in (v4 + (nI 3)) (Xs.1 - 1) = true then (am_bJ (C 255 [.ref 34, .int (Xs.2 (v4 + (nI 1) : Int32).toNatClampNeg), .int (Xs.2 (v4 + (nI 2) : Int32).toNatClampNeg), .int (Xs.2 (v4 + (nI 3) : Int32).toNatClampNeg)] t1) (fun r2 t2 => am_bI (C 172 [.ref 34] t2) (fun r3 t3 => if r3 = r1 then (if r1 = nI 0 then (if am_in (nI 0) 1 = true then (if lg_cmp (t3.2.1 57 (nI 0 : Int32).toNatClampNeg) r2 = nI 0 then (am_go Xs C ML 2785 [.ref 1001, .ref 0, .ref 34, .ref 57, .int v4, .int r1, .long r2, .null] [] t3) else (some (.inl (some (.int (nI 0))), t3))) else none) else (am_go Xs C ML 2785 [.ref 1001, .ref 0, .ref 34, .ref 57, .int v4, .int r1, .long r2, .null] [] t3)) else (some (.inl (some (.int (nI 0))), t3))))) else none) else none) else none)) else none) else none) else none := by
  refine Eq.trans (g_A dL_law_2109 rfl rfl) ?_
  refine Eq.trans (g_A dL_law_2110 rfl rfl) ?_
  refine Eq.trans (g_A dL_law_2111 rfl rfl) ?_
  refine Eq.trans (g_K (v := nI 1) dL_law_2113 rfl rfl) ?_
  refine Eq.trans (g_iadd dL_law_2114 rfl) ?_
  refine Eq.trans (g_scld dL_law_2115 rfl) ?_
  refine am_ite ?_ rfl
  refine Eq.trans (g_A dL_law_2116 rfl rfl) ?_
  refine Eq.trans (g_A dL_law_2117 rfl rfl) ?_
  refine Eq.trans (g_K (v := nI 2) dL_law_2119 rfl rfl) ?_
  refine Eq.trans (g_iadd dL_law_2120 rfl) ?_
  refine Eq.trans (g_scld dL_law_2121 rfl) ?_
  refine am_ite ?_ rfl
  refine Eq.trans (g_A dL_law_2122 rfl rfl) ?_
  refine Eq.trans (g_A dL_law_2123 rfl rfl) ?_
  refine Eq.trans (g_K (v := nI 3) dL_law_2125 rfl rfl) ?_
  refine Eq.trans (g_iadd dL_law_2126 rfl) ?_
  refine Eq.trans (g_scld dL_law_2127 rfl) ?_
  refine am_ite ?_ rfl
  refine Eq.trans (g_A dL_law_2128 rfl rfl) ?_
  refine Eq.trans (g_sI (as := [.ref 0, .int (Xs.2 (v4 + (nI 1) : Int32).toNatClampNeg), .int (Xs.2 (v4 + (nI 2) : Int32).toNatClampNeg), .int (Xs.2 (v4 + (nI 3) : Int32).toNatClampNeg), .ref 57]) (rest := []) dL_law_2129 rfl cl371 m305 rfl rfl rfl rfl (Nat.le_of_ble_eq_true rfl) rfl rfl rfl) ?_
  refine am_bI_c (fun r1 t1 => ?_)
  refine Eq.trans (g_ist (k := 5) dL_law_2132 (Nat.le_of_ble_eq_true rfl) rfl rfl rfl) ?_
  refine Eq.trans (g_A dL_law_2134 rfl rfl) ?_
  refine Eq.trans (g_A dL_law_2135 rfl rfl) ?_
  refine Eq.trans (g_A dL_law_2136 rfl rfl) ?_
  refine Eq.trans (g_K (v := nI 1) dL_law_2138 rfl rfl) ?_
  refine Eq.trans (g_iadd dL_law_2139 rfl) ?_
  refine Eq.trans (g_scld dL_law_2140 rfl) ?_
  refine am_ite ?_ rfl
  refine Eq.trans (g_A dL_law_2141 rfl rfl) ?_
  refine Eq.trans (g_A dL_law_2142 rfl rfl) ?_
  refine Eq.trans (g_K (v := nI 2) dL_law_2144 rfl rfl) ?_
  refine Eq.trans (g_iadd dL_law_2145 rfl) ?_
  refine Eq.trans (g_scld dL_law_2146 rfl) ?_
  refine am_ite ?_ rfl
  refine Eq.trans (g_A dL_law_2147 rfl rfl) ?_
  refine Eq.trans (g_A dL_law_2148 rfl rfl) ?_
  refine Eq.trans (g_K (v := nI 3) dL_law_2150 rfl rfl) ?_
  refine Eq.trans (g_iadd dL_law_2151 rfl) ?_
  refine Eq.trans (g_scld dL_law_2152 rfl) ?_
  refine am_ite ?_ rfl
  refine Eq.trans (g_vJ (a := 34) (as := [.int (Xs.2 (v4 + (nI 1) : Int32).toNatClampNeg), .int (Xs.2 (v4 + (nI 2) : Int32).toNatClampNeg), .int (Xs.2 (v4 + (nI 3) : Int32).toNatClampNeg)]) (rest := []) dL_law_2153 cl372 m255 rfl rfl rfl rfl (Nat.le_of_ble_eq_true rfl) rfl rfl rfl rfl) ?_
  refine am_bJ_c (fun r2 t2 => ?_)
  refine Eq.trans (g_lst (k := 6) dL_law_2156 (Nat.le_of_ble_eq_true rfl) rfl rfl rfl) ?_
  refine Eq.trans (g_A dL_law_2158 rfl rfl) ?_
  refine Eq.trans (g_vI (a := 34) (as := []) (rest := []) dL_law_2159 cl306 m172 rfl rfl rfl rfl (Nat.le_of_ble_eq_true rfl) rfl rfl rfl rfl) ?_
  refine am_bI_c (fun r3 t3 => ?_)
  refine Eq.trans (g_A dL_law_2162 rfl rfl) ?_
  refine Eq.trans (g_iceq (t := 2169) dL_law_2164 rfl rfl) ?_
  refine am_ite ?_ ?_
  · refine Eq.trans (g_A dL_law_2169 rfl rfl) ?_
    refine Eq.trans (g_ifne (t := 2185) dL_law_2171 rfl rfl) ?_
    refine am_ite ?_ ?_
    · refine Eq.trans (g_A dL_law_2174 rfl rfl) ?_
      refine Eq.trans (g_K (v := nI 0) dL_law_2175 rfl rfl) ?_
      refine Eq.trans (g_lald dL_law_2176 sh57 rfl) ?_
      refine am_ite ?_ rfl
      refine Eq.trans (g_A dL_law_2177 rfl rfl) ?_
      refine Eq.trans (g_lcmp dL_law_2179 rfl) ?_
      refine Eq.trans (g_ifeq (t := 2185) dL_law_2180 rfl rfl) ?_
      refine am_ite ?_ ?_
      · refine Eq.trans (g_goto (pc' := 2785) dL_law_2185 rfl) ?_
        rfl
      · refine Eq.trans (g_K (v := nI 0) dL_law_2183 rfl rfl) ?_
        exact g_zl dL_law_2184 rfl (Or.inl rfl)
    · refine Eq.trans (g_goto (pc' := 2785) dL_law_2185 rfl) ?_
      rfl
  · refine Eq.trans (g_K (v := nI 0) dL_law_2167 rfl rfl) ?_
    exact g_zl dL_law_2168 rfl (Or.inl rfl)
theorem ql_2188 {Xs : am_X} (hX : 0 < Xs.1) (C : am_C) (σ : am_M) (v4 : Int32) {u5 : Value} {u6 : Value} : am_go Xs C ML 2188 [.ref 1001, .ref 0, .ref 34, .ref 57, .int v4, u5, u6, .null] [] σ = if am_in (v4 + (nI 1)) (Xs.1 - 1) = true then (am_bI (C 306 [.ref 0, .int (Xs.2 (v4 + (nI 1) : Int32).toNatClampNeg), .ref 57] σ) (fun r1 t1 => if am_in (v4 + (nI 1)) (Xs.1 - 1) = true then (am_bI (C 257 [.ref 34, .int (Xs.2 (v4 + (nI 1) : Int32).toNatClampNeg)] t1) (fun r2 t2 => am_bI (C 172 [.ref 34] t2) (fun r3 t3 => if r3 = r1 then (if r1 = nI 0 then (if am_in (nI 0) 1 = true then (if lg_cmp (t3.2.1 57 (nI 0 : Int32).toNatClampNeg) ((r2 : Int32).toInt64) = nI 0 then (am_go Xs C ML 2785 [.ref 1001, .ref 0, .ref 34, .ref 57, .int v4, .int r1, .int r2, .null] [] t3) else (some (.inl (some (.int (nI 0))), t3))) else none) else (am_go Xs C ML 2785 [.ref 1001, .ref 0, .ref 34, .ref 57, .int v4, .int r1, .int r2, .null] [] t3)) else (some (.inl (some (.int (nI 0))), t3))))) else none)) else none := by
  refine Eq.trans (g_A dL_law_2188 rfl rfl) ?_
  refine Eq.trans (g_A dL_law_2189 rfl rfl) ?_
  refine Eq.trans (g_A dL_law_2190 rfl rfl) ?_
  refine Eq.trans (g_K (v := nI 1) dL_law_2192 rfl rfl) ?_
  refine Eq.trans (g_iadd dL_law_2193 rfl) ?_
  refine Eq.trans (g_scld dL_law_2194 rfl) ?_
  refine am_ite ?_ rfl
  refine Eq.trans (g_A dL_law_2195 rfl rfl) ?_
  refine Eq.trans (g_sI (as := [.ref 0, .int (Xs.2 (v4 + (nI 1) : Int32).toNatClampNeg), .ref 57]) (rest := []) dL_law_2196 rfl cl373 m306 rfl rfl rfl rfl (Nat.le_of_ble_eq_true rfl) rfl rfl rfl) ?_
  refine am_bI_c (fun r1 t1 => ?_)
  refine Eq.trans (g_ist (k := 5) dL_law_2199 (Nat.le_of_ble_eq_true rfl) rfl rfl rfl) ?_
  refine Eq.trans (g_A dL_law_2201 rfl rfl) ?_
  refine Eq.trans (g_A dL_law_2202 rfl rfl) ?_
  refine Eq.trans (g_A dL_law_2203 rfl rfl) ?_
  refine Eq.trans (g_K (v := nI 1) dL_law_2205 rfl rfl) ?_
  refine Eq.trans (g_iadd dL_law_2206 rfl) ?_
  refine Eq.trans (g_scld dL_law_2207 rfl) ?_
  refine am_ite ?_ rfl
  refine Eq.trans (g_vI (a := 34) (as := [.int (Xs.2 (v4 + (nI 1) : Int32).toNatClampNeg)]) (rest := []) dL_law_2208 cl374 m257 rfl rfl rfl rfl (Nat.le_of_ble_eq_true rfl) rfl rfl rfl rfl) ?_
  refine am_bI_c (fun r2 t2 => ?_)
  refine Eq.trans (g_ist (k := 6) dL_law_2211 (Nat.le_of_ble_eq_true rfl) rfl rfl rfl) ?_
  refine Eq.trans (g_A dL_law_2213 rfl rfl) ?_
  refine Eq.trans (g_vI (a := 34) (as := []) (rest := []) dL_law_2214 cl306 m172 rfl rfl rfl rfl (Nat.le_of_ble_eq_true rfl) rfl rfl rfl rfl) ?_
  refine am_bI_c (fun r3 t3 => ?_)
  refine Eq.trans (g_A dL_law_2217 rfl rfl) ?_
  refine Eq.trans (g_iceq (t := 2224) dL_law_2219 rfl rfl) ?_
  refine am_ite ?_ ?_
  · refine Eq.trans (g_A dL_law_2224 rfl rfl) ?_
    refine Eq.trans (g_ifne (t := 2241) dL_law_2226 rfl rfl) ?_
    refine am_ite ?_ ?_
    · refine Eq.trans (g_A dL_law_2229 rfl rfl) ?_
      refine Eq.trans (g_K (v := nI 0) dL_law_2230 rfl rfl) ?_
      refine Eq.trans (g_lald dL_law_2231 sh57 rfl) ?_
      refine am_ite ?_ rfl
      refine Eq.trans (g_A dL_law_2232 rfl rfl) ?_
      refine Eq.trans (g_i2l dL_law_2234 rfl) ?_
      refine Eq.trans (g_lcmp dL_law_2235 rfl) ?_
      refine Eq.trans (g_ifeq (t := 2241) dL_law_2236 rfl rfl) ?_
      refine am_ite ?_ ?_
      · refine Eq.trans (g_goto (pc' := 2785) dL_law_2241 rfl) ?_
        rfl
      · refine Eq.trans (g_K (v := nI 0) dL_law_2239 rfl rfl) ?_
        exact g_zl dL_law_2240 rfl (Or.inl rfl)
    · refine Eq.trans (g_goto (pc' := 2785) dL_law_2241 rfl) ?_
      rfl
  · refine Eq.trans (g_K (v := nI 0) dL_law_2222 rfl rfl) ?_
    exact g_zl dL_law_2223 rfl (Or.inl rfl)
theorem ql_2244 {Xs : am_X} (hX : 0 < Xs.1) (C : am_C) (σ : am_M) (v4 : Int32) {u5 : Value} {u6 : Value} : am_go Xs C ML 2244 [.ref 1001, .ref 0, .ref 34, .ref 57, .int v4, u5, u6, .null] [] σ = if am_in (v4 + (nI 1)) (Xs.1 - 1) = true then (am_bI (C 307 [.ref 0, .int (Xs.2 (v4 + (nI 1) : Int32).toNatClampNeg), .ref 57] σ) (fun r1 t1 => if am_in (v4 + (nI 1)) (Xs.1 - 1) = true then (am_bI (C 258 [.ref 34, .int (Xs.2 (v4 + (nI 1) : Int32).toNatClampNeg)] t1) (fun r2 t2 => am_bI (C 172 [.ref 34] t2) (fun r3 t3 => if r3 = r1 then (if r1 = nI 0 then (if am_in (nI 0) 1 = true then (if lg_cmp (t3.2.1 57 (nI 0 : Int32).toNatClampNeg) ((r2 : Int32).toInt64) = nI 0 then (am_go Xs C ML 2785 [.ref 1001, .ref 0, .ref 34, .ref 57, .int v4, .int r1, .int r2, .null] [] t3) else (some (.inl (some (.int (nI 0))), t3))) else none) else (am_go Xs C ML 2785 [.ref 1001, .ref 0, .ref 34, .ref 57, .int v4, .int r1, .int r2, .null] [] t3)) else (some (.inl (some (.int (nI 0))), t3))))) else none)) else none := by
  refine Eq.trans (g_A dL_law_2244 rfl rfl) ?_
  refine Eq.trans (g_A dL_law_2245 rfl rfl) ?_
  refine Eq.trans (g_A dL_law_2246 rfl rfl) ?_
  refine Eq.trans (g_K (v := nI 1) dL_law_2248 rfl rfl) ?_
  refine Eq.trans (g_iadd dL_law_2249 rfl) ?_
  refine Eq.trans (g_scld dL_law_2250 rfl) ?_
  refine am_ite ?_ rfl
  refine Eq.trans (g_A dL_law_2251 rfl rfl) ?_
  refine Eq.trans (g_sI (as := [.ref 0, .int (Xs.2 (v4 + (nI 1) : Int32).toNatClampNeg), .ref 57]) (rest := []) dL_law_2252 rfl cl375 m307 rfl rfl rfl rfl (Nat.le_of_ble_eq_true rfl) rfl rfl rfl) ?_
  refine am_bI_c (fun r1 t1 => ?_)
  refine Eq.trans (g_ist (k := 5) dL_law_2255 (Nat.le_of_ble_eq_true rfl) rfl rfl rfl) ?_
  refine Eq.trans (g_A dL_law_2257 rfl rfl) ?_
  refine Eq.trans (g_A dL_law_2258 rfl rfl) ?_
  refine Eq.trans (g_A dL_law_2259 rfl rfl) ?_
  refine Eq.trans (g_K (v := nI 1) dL_law_2261 rfl rfl) ?_
  refine Eq.trans (g_iadd dL_law_2262 rfl) ?_
  refine Eq.trans (g_scld dL_law_2263 rfl) ?_
  refine am_ite ?_ rfl
  refine Eq.trans (g_vI (a := 34) (as := [.int (Xs.2 (v4 + (nI 1) : Int32).toNatClampNeg)]) (rest := []) dL_law_2264 cl376 m258 rfl rfl rfl rfl (Nat.le_of_ble_eq_true rfl) rfl rfl rfl rfl) ?_
  refine am_bI_c (fun r2 t2 => ?_)
  refine Eq.trans (g_ist (k := 6) dL_law_2267 (Nat.le_of_ble_eq_true rfl) rfl rfl rfl) ?_
  refine Eq.trans (g_A dL_law_2269 rfl rfl) ?_
  refine Eq.trans (g_vI (a := 34) (as := []) (rest := []) dL_law_2270 cl306 m172 rfl rfl rfl rfl (Nat.le_of_ble_eq_true rfl) rfl rfl rfl rfl) ?_
  refine am_bI_c (fun r3 t3 => ?_)
  refine Eq.trans (g_A dL_law_2273 rfl rfl) ?_
  refine Eq.trans (g_iceq (t := 2280) dL_law_2275 rfl rfl) ?_
  refine am_ite ?_ ?_
  · refine Eq.trans (g_A dL_law_2280 rfl rfl) ?_
    refine Eq.trans (g_ifne (t := 2297) dL_law_2282 rfl rfl) ?_
    refine am_ite ?_ ?_
    · refine Eq.trans (g_A dL_law_2285 rfl rfl) ?_
      refine Eq.trans (g_K (v := nI 0) dL_law_2286 rfl rfl) ?_
      refine Eq.trans (g_lald dL_law_2287 sh57 rfl) ?_
      refine am_ite ?_ rfl
      refine Eq.trans (g_A dL_law_2288 rfl rfl) ?_
      refine Eq.trans (g_i2l dL_law_2290 rfl) ?_
      refine Eq.trans (g_lcmp dL_law_2291 rfl) ?_
      refine Eq.trans (g_ifeq (t := 2297) dL_law_2292 rfl rfl) ?_
      refine am_ite ?_ ?_
      · refine Eq.trans (g_goto (pc' := 2785) dL_law_2297 rfl) ?_
        rfl
      · refine Eq.trans (g_K (v := nI 0) dL_law_2295 rfl rfl) ?_
        exact g_zl dL_law_2296 rfl (Or.inl rfl)
    · refine Eq.trans (g_goto (pc' := 2785) dL_law_2297 rfl) ?_
      rfl
  · refine Eq.trans (g_K (v := nI 0) dL_law_2278 rfl rfl) ?_
    exact g_zl dL_law_2279 rfl (Or.inl rfl)
theorem ql_2300 {Xs : am_X} (hX : 0 < Xs.1) (C : am_C) (σ : am_M) (v4 : Int32) {u5 : Value} {u6 : Value} : am_go Xs C ML 2300 [.ref 1001, .ref 0, .ref 34, .ref 57, .int v4, u5, u6, .null] [] σ = if am_in (v4 + (nI 1)) (Xs.1 - 1) = true then (am_bI (C 308 [.ref 0, .int (Xs.2 (v4 + (nI 1) : Int32).toNatClampNeg), .ref 57] σ) (fun r1 t1 => if am_in (v4 + (nI 1)) (Xs.1 - 1) = true then (am_bI (C 259 [.ref 34, .int (Xs.2 (v4 + (nI 1) : Int32).toNatClampNeg)] t1) (fun r2 t2 => am_bI (C 172 [.ref 34] t2) (fun r3 t3 => if r3 = r1 then (if r1 = nI 0 then (if am_in (nI 0) 1 = true then (if lg_cmp (t3.2.1 57 (nI 0 : Int32).toNatClampNeg) ((r2 : Int32).toInt64) = nI 0 then (am_go Xs C ML 2785 [.ref 1001, .ref 0, .ref 34, .ref 57, .int v4, .int r1, .int r2, .null] [] t3) else (some (.inl (some (.int (nI 0))), t3))) else none) else (am_go Xs C ML 2785 [.ref 1001, .ref 0, .ref 34, .ref 57, .int v4, .int r1, .int r2, .null] [] t3)) else (some (.inl (some (.int (nI 0))), t3))))) else none)) else none := by
  refine Eq.trans (g_A dL_law_2300 rfl rfl) ?_
  refine Eq.trans (g_A dL_law_2301 rfl rfl) ?_
  refine Eq.trans (g_A dL_law_2302 rfl rfl) ?_
  refine Eq.trans (g_K (v := nI 1) dL_law_2304 rfl rfl) ?_
  refine Eq.trans (g_iadd dL_law_2305 rfl) ?_
  refine Eq.trans (g_scld dL_law_2306 rfl) ?_
  refine am_ite ?_ rfl
  refine Eq.trans (g_A dL_law_2307 rfl rfl) ?_
  refine Eq.trans (g_sI (as := [.ref 0, .int (Xs.2 (v4 + (nI 1) : Int32).toNatClampNeg), .ref 57]) (rest := []) dL_law_2308 rfl cl377 m308 rfl rfl rfl rfl (Nat.le_of_ble_eq_true rfl) rfl rfl rfl) ?_
  refine am_bI_c (fun r1 t1 => ?_)
  refine Eq.trans (g_ist (k := 5) dL_law_2311 (Nat.le_of_ble_eq_true rfl) rfl rfl rfl) ?_
  refine Eq.trans (g_A dL_law_2313 rfl rfl) ?_
  refine Eq.trans (g_A dL_law_2314 rfl rfl) ?_
  refine Eq.trans (g_A dL_law_2315 rfl rfl) ?_
  refine Eq.trans (g_K (v := nI 1) dL_law_2317 rfl rfl) ?_
  refine Eq.trans (g_iadd dL_law_2318 rfl) ?_
  refine Eq.trans (g_scld dL_law_2319 rfl) ?_
  refine am_ite ?_ rfl
  refine Eq.trans (g_vI (a := 34) (as := [.int (Xs.2 (v4 + (nI 1) : Int32).toNatClampNeg)]) (rest := []) dL_law_2320 cl378 m259 rfl rfl rfl rfl (Nat.le_of_ble_eq_true rfl) rfl rfl rfl rfl) ?_
  refine am_bI_c (fun r2 t2 => ?_)
  refine Eq.trans (g_ist (k := 6) dL_law_2323 (Nat.le_of_ble_eq_true rfl) rfl rfl rfl) ?_
  refine Eq.trans (g_A dL_law_2325 rfl rfl) ?_
  refine Eq.trans (g_vI (a := 34) (as := []) (rest := []) dL_law_2326 cl306 m172 rfl rfl rfl rfl (Nat.le_of_ble_eq_true rfl) rfl rfl rfl rfl) ?_
  refine am_bI_c (fun r3 t3 => ?_)
  refine Eq.trans (g_A dL_law_2329 rfl rfl) ?_
  refine Eq.trans (g_iceq (t := 2336) dL_law_2331 rfl rfl) ?_
  refine am_ite ?_ ?_
  · refine Eq.trans (g_A dL_law_2336 rfl rfl) ?_
    refine Eq.trans (g_ifne (t := 2353) dL_law_2338 rfl rfl) ?_
    refine am_ite ?_ ?_
    · refine Eq.trans (g_A dL_law_2341 rfl rfl) ?_
      refine Eq.trans (g_K (v := nI 0) dL_law_2342 rfl rfl) ?_
      refine Eq.trans (g_lald dL_law_2343 sh57 rfl) ?_
      refine am_ite ?_ rfl
      refine Eq.trans (g_A dL_law_2344 rfl rfl) ?_
      refine Eq.trans (g_i2l dL_law_2346 rfl) ?_
      refine Eq.trans (g_lcmp dL_law_2347 rfl) ?_
      refine Eq.trans (g_ifeq (t := 2353) dL_law_2348 rfl rfl) ?_
      refine am_ite ?_ ?_
      · refine Eq.trans (g_goto (pc' := 2785) dL_law_2353 rfl) ?_
        rfl
      · refine Eq.trans (g_K (v := nI 0) dL_law_2351 rfl rfl) ?_
        exact g_zl dL_law_2352 rfl (Or.inl rfl)
    · refine Eq.trans (g_goto (pc' := 2785) dL_law_2353 rfl) ?_
      rfl
  · refine Eq.trans (g_K (v := nI 0) dL_law_2334 rfl rfl) ?_
    exact g_zl dL_law_2335 rfl (Or.inl rfl)
theorem ql_2356 {Xs : am_X} (hX : 0 < Xs.1) (C : am_C) (σ : am_M) (v4 : Int32) {u5 : Value} {u6 : Value} : am_go Xs C ML 2356 [.ref 1001, .ref 0, .ref 34, .ref 57, .int v4, u5, u6, .null] [] σ = if am_in (v4 + (nI 1)) (Xs.1 - 1) = true then (am_bI (C 309 [.ref 0, .int (Xs.2 (v4 + (nI 1) : Int32).toNatClampNeg), .ref 57] σ) (fun r1 t1 => if am_in (v4 + (nI 1)) (Xs.1 - 1) = true then (am_bI (C 262 [.ref 34, .int (Xs.2 (v4 + (nI 1) : Int32).toNatClampNeg)] t1) (fun r2 t2 => am_bI (C 172 [.ref 34] t2) (fun r3 t3 => if r3 = r1 then (if r1 = nI 0 then (if am_in (nI 0) 1 = true then (if lg_cmp (t3.2.1 57 (nI 0 : Int32).toNatClampNeg) ((r2 : Int32).toInt64) = nI 0 then (am_go Xs C ML 2785 [.ref 1001, .ref 0, .ref 34, .ref 57, .int v4, .int r1, .int r2, .null] [] t3) else (some (.inl (some (.int (nI 0))), t3))) else none) else (am_go Xs C ML 2785 [.ref 1001, .ref 0, .ref 34, .ref 57, .int v4, .int r1, .int r2, .null] [] t3)) else (some (.inl (some (.int (nI 0))), t3))))) else none)) else none := by
  refine Eq.trans (g_A dL_law_2356 rfl rfl) ?_
  refine Eq.trans (g_A dL_law_2357 rfl rfl) ?_
  refine Eq.trans (g_A dL_law_2358 rfl rfl) ?_
  refine Eq.trans (g_K (v := nI 1) dL_law_2360 rfl rfl) ?_
  refine Eq.trans (g_iadd dL_law_2361 rfl) ?_
  refine Eq.trans (g_scld dL_law_2362 rfl) ?_
  refine am_ite ?_ rfl
  refine Eq.trans (g_A dL_law_2363 rfl rfl) ?_
  refine Eq.trans (g_sI (as := [.ref 0, .int (Xs.2 (v4 + (nI 1) : Int32).toNatClampNeg), .ref 57]) (rest := []) dL_law_2364 rfl cl379 m309 rfl rfl rfl rfl (Nat.le_of_ble_eq_true rfl) rfl rfl rfl) ?_
  refine am_bI_c (fun r1 t1 => ?_)
  refine Eq.trans (g_ist (k := 5) dL_law_2367 (Nat.le_of_ble_eq_true rfl) rfl rfl rfl) ?_
  refine Eq.trans (g_A dL_law_2369 rfl rfl) ?_
  refine Eq.trans (g_A dL_law_2370 rfl rfl) ?_
  refine Eq.trans (g_A dL_law_2371 rfl rfl) ?_
  refine Eq.trans (g_K (v := nI 1) dL_law_2373 rfl rfl) ?_
  refine Eq.trans (g_iadd dL_law_2374 rfl) ?_
  refine Eq.trans (g_scld dL_law_2375 rfl) ?_
  refine am_ite ?_ rfl
  refine Eq.trans (g_vI (a := 34) (as := [.int (Xs.2 (v4 + (nI 1) : Int32).toNatClampNeg)]) (rest := []) dL_law_2376 cl380 m262 rfl rfl rfl rfl (Nat.le_of_ble_eq_true rfl) rfl rfl rfl rfl) ?_
  refine am_bI_c (fun r2 t2 => ?_)
  refine Eq.trans (g_ist (k := 6) dL_law_2379 (Nat.le_of_ble_eq_true rfl) rfl rfl rfl) ?_
  refine Eq.trans (g_A dL_law_2381 rfl rfl) ?_
  refine Eq.trans (g_vI (a := 34) (as := []) (rest := []) dL_law_2382 cl306 m172 rfl rfl rfl rfl (Nat.le_of_ble_eq_true rfl) rfl rfl rfl rfl) ?_
  refine am_bI_c (fun r3 t3 => ?_)
  refine Eq.trans (g_A dL_law_2385 rfl rfl) ?_
  refine Eq.trans (g_iceq (t := 2392) dL_law_2387 rfl rfl) ?_
  refine am_ite ?_ ?_
  · refine Eq.trans (g_A dL_law_2392 rfl rfl) ?_
    refine Eq.trans (g_ifne (t := 2409) dL_law_2394 rfl rfl) ?_
    refine am_ite ?_ ?_
    · refine Eq.trans (g_A dL_law_2397 rfl rfl) ?_
      refine Eq.trans (g_K (v := nI 0) dL_law_2398 rfl rfl) ?_
      refine Eq.trans (g_lald dL_law_2399 sh57 rfl) ?_
      refine am_ite ?_ rfl
      refine Eq.trans (g_A dL_law_2400 rfl rfl) ?_
      refine Eq.trans (g_i2l dL_law_2402 rfl) ?_
      refine Eq.trans (g_lcmp dL_law_2403 rfl) ?_
      refine Eq.trans (g_ifeq (t := 2409) dL_law_2404 rfl rfl) ?_
      refine am_ite ?_ ?_
      · refine Eq.trans (g_goto (pc' := 2785) dL_law_2409 rfl) ?_
        rfl
      · refine Eq.trans (g_K (v := nI 0) dL_law_2407 rfl rfl) ?_
        exact g_zl dL_law_2408 rfl (Or.inl rfl)
    · refine Eq.trans (g_goto (pc' := 2785) dL_law_2409 rfl) ?_
      rfl
  · refine Eq.trans (g_K (v := nI 0) dL_law_2390 rfl rfl) ?_
    exact g_zl dL_law_2391 rfl (Or.inl rfl)
theorem ql_2412 {Xs : am_X} (hX : 0 < Xs.1) (C : am_C) (σ : am_M) (v4 : Int32) {u5 : Value} {u6 : Value} : am_go Xs C ML 2412 [.ref 1001, .ref 0, .ref 34, .ref 57, .int v4, u5, u6, .null] [] σ = am_bI (C 310 [.ref 0, .ref 57] σ) (fun r1 t1 => am_bI (C 265 [.ref 34] t1) (fun r2 t2 => am_bI (C 172 [.ref 34] t2) (fun r3 t3 => if r3 = r1 then (if r1 = nI 0 then (if am_in (nI 0) 1 = true then (if lg_cmp (t3.2.1 57 (nI 0 : Int32).toNatClampNeg) ((r2 : Int32).toInt64) = nI 0 then (am_go Xs C ML 2785 [.ref 1001, .ref 0, .ref 34, .ref 57, .int v4, .int r1, .int r2, .null] [] t3) else (some (.inl (some (.int (nI 0))), t3))) else none) else (am_go Xs C ML 2785 [.ref 1001, .ref 0, .ref 34, .ref 57, .int v4, .int r1, .int r2, .null] [] t3)) else (some (.inl (some (.int (nI 0))), t3))))) := by
  refine Eq.trans (g_A dL_law_2412 rfl rfl) ?_
  refine Eq.trans (g_A dL_law_2413 rfl rfl) ?_
  refine Eq.trans (g_sI (as := [.ref 0, .ref 57]) (rest := []) dL_law_2414 rfl cl381 m310 rfl rfl rfl rfl (Nat.le_of_ble_eq_true rfl) rfl rfl rfl) ?_
  refine am_bI_c (fun r1 t1 => ?_)
  refine Eq.trans (g_ist (k := 5) dL_law_2417 (Nat.le_of_ble_eq_true rfl) rfl rfl rfl) ?_
  refine Eq.trans (g_A dL_law_2419 rfl rfl) ?_
  refine Eq.trans (g_vI (a := 34) (as := []) (rest := []) dL_law_2420 cl382 m265 rfl rfl rfl rfl (Nat.le_of_ble_eq_true rfl) rfl rfl rfl rfl) ?_
  refine am_bI_c (fun r2 t2 => ?_)
  refine Eq.trans (g_ist (k := 6) dL_law_2423 (Nat.le_of_ble_eq_true rfl) rfl rfl rfl) ?_
  refine Eq.trans (g_A dL_law_2425 rfl rfl) ?_
  refine Eq.trans (g_vI (a := 34) (as := []) (rest := []) dL_law_2426 cl306 m172 rfl rfl rfl rfl (Nat.le_of_ble_eq_true rfl) rfl rfl rfl rfl) ?_
  refine am_bI_c (fun r3 t3 => ?_)
  refine Eq.trans (g_A dL_law_2429 rfl rfl) ?_
  refine Eq.trans (g_iceq (t := 2436) dL_law_2431 rfl rfl) ?_
  refine am_ite ?_ ?_
  · refine Eq.trans (g_A dL_law_2436 rfl rfl) ?_
    refine Eq.trans (g_ifne (t := 2453) dL_law_2438 rfl rfl) ?_
    refine am_ite ?_ ?_
    · refine Eq.trans (g_A dL_law_2441 rfl rfl) ?_
      refine Eq.trans (g_K (v := nI 0) dL_law_2442 rfl rfl) ?_
      refine Eq.trans (g_lald dL_law_2443 sh57 rfl) ?_
      refine am_ite ?_ rfl
      refine Eq.trans (g_A dL_law_2444 rfl rfl) ?_
      refine Eq.trans (g_i2l dL_law_2446 rfl) ?_
      refine Eq.trans (g_lcmp dL_law_2447 rfl) ?_
      refine Eq.trans (g_ifeq (t := 2453) dL_law_2448 rfl rfl) ?_
      refine am_ite ?_ ?_
      · refine Eq.trans (g_goto (pc' := 2785) dL_law_2453 rfl) ?_
        rfl
      · refine Eq.trans (g_K (v := nI 0) dL_law_2451 rfl rfl) ?_
        exact g_zl dL_law_2452 rfl (Or.inl rfl)
    · refine Eq.trans (g_goto (pc' := 2785) dL_law_2453 rfl) ?_
      rfl
  · refine Eq.trans (g_K (v := nI 0) dL_law_2434 rfl rfl) ?_
    exact g_zl dL_law_2435 rfl (Or.inl rfl)
theorem ql_2456 {Xs : am_X} (hX : 0 < Xs.1) (C : am_C) (σ : am_M) (v4 : Int32) {u5 : Value} {u6 : Value} : am_go Xs C ML 2456 [.ref 1001, .ref 0, .ref 34, .ref 57, .int v4, u5, u6, .null] [] σ = am_bI (C 137 [.ref 0] σ) (fun r1 t1 => am_bI (C 260 [.ref 34] t1) (fun r2 t2 => if r1 = r2 then (am_go Xs C ML 2785 [.ref 1001, .ref 0, .ref 34, .ref 57, .int v4, u5, u6, .null] [] t2) else (some (.inl (some (.int (nI 0))), t2)))) := by
  refine Eq.trans (g_A dL_law_2456 rfl rfl) ?_
  refine Eq.trans (g_vI (a := 0) (as := []) (rest := []) dL_law_2457 cl383 m137 rfl rfl rfl rfl (Nat.le_of_ble_eq_true rfl) rfl rfl rfl rfl) ?_
  refine am_bI_c (fun r1 t1 => ?_)
  refine Eq.trans (g_A dL_law_2460 rfl rfl) ?_
  refine Eq.trans (g_vI (a := 34) (as := []) (rest := [.int r1]) dL_law_2461 cl384 m260 rfl rfl rfl rfl (Nat.le_of_ble_eq_true rfl) rfl rfl rfl rfl) ?_
  refine am_bI_c (fun r2 t2 => ?_)
  refine Eq.trans (g_iceq (t := 2785) dL_law_2464 rfl rfl) ?_
  refine am_ite ?_ ?_
  · rfl
  · refine Eq.trans (g_K (v := nI 0) dL_law_2467 rfl rfl) ?_
    exact g_zl dL_law_2468 rfl (Or.inl rfl)
theorem ql_2469 {Xs : am_X} (hX : 0 < Xs.1) (C : am_C) (σ : am_M) (v4 : Int32) {u5 : Value} {u6 : Value} : am_go Xs C ML 2469 [.ref 1001, .ref 0, .ref 34, .ref 57, .int v4, u5, u6, .null] [] σ = if am_in (v4 + (nI 1)) (Xs.1 - 1) = true then (am_bI (C 311 [.ref 0, .int (Xs.2 (v4 + (nI 1) : Int32).toNatClampNeg), .ref 57] σ) (fun r1 t1 => if am_in (v4 + (nI 1)) (Xs.1 - 1) = true then (am_bI (C 267 [.ref 34, .int (Xs.2 (v4 + (nI 1) : Int32).toNatClampNeg)] t1) (fun r2 t2 => am_bI (C 172 [.ref 34] t2) (fun r3 t3 => if r3 = r1 then (if r1 = nI 0 then (if am_in (nI 0) 1 = true then (if lg_cmp (t3.2.1 57 (nI 0 : Int32).toNatClampNeg) ((r2 : Int32).toInt64) = nI 0 then (am_go Xs C ML 2785 [.ref 1001, .ref 0, .ref 34, .ref 57, .int v4, .int r1, .int r2, .null] [] t3) else (some (.inl (some (.int (nI 0))), t3))) else none) else (am_go Xs C ML 2785 [.ref 1001, .ref 0, .ref 34, .ref 57, .int v4, .int r1, .int r2, .null] [] t3)) else (some (.inl (some (.int (nI 0))), t3))))) else none)) else none := by
  refine Eq.trans (g_A dL_law_2469 rfl rfl) ?_
  refine Eq.trans (g_A dL_law_2470 rfl rfl) ?_
  refine Eq.trans (g_A dL_law_2471 rfl rfl) ?_
  refine Eq.trans (g_K (v := nI 1) dL_law_2473 rfl rfl) ?_
  refine Eq.trans (g_iadd dL_law_2474 rfl) ?_
  refine Eq.trans (g_scld dL_law_2475 rfl) ?_
  refine am_ite ?_ rfl
  refine Eq.trans (g_A dL_law_2476 rfl rfl) ?_
  refine Eq.trans (g_sI (as := [.ref 0, .int (Xs.2 (v4 + (nI 1) : Int32).toNatClampNeg), .ref 57]) (rest := []) dL_law_2477 rfl cl385 m311 rfl rfl rfl rfl (Nat.le_of_ble_eq_true rfl) rfl rfl rfl) ?_
  refine am_bI_c (fun r1 t1 => ?_)
  refine Eq.trans (g_ist (k := 5) dL_law_2480 (Nat.le_of_ble_eq_true rfl) rfl rfl rfl) ?_
  refine Eq.trans (g_A dL_law_2482 rfl rfl) ?_
  refine Eq.trans (g_A dL_law_2483 rfl rfl) ?_
  refine Eq.trans (g_A dL_law_2484 rfl rfl) ?_
  refine Eq.trans (g_K (v := nI 1) dL_law_2486 rfl rfl) ?_
  refine Eq.trans (g_iadd dL_law_2487 rfl) ?_
  refine Eq.trans (g_scld dL_law_2488 rfl) ?_
  refine am_ite ?_ rfl
  refine Eq.trans (g_vI (a := 34) (as := [.int (Xs.2 (v4 + (nI 1) : Int32).toNatClampNeg)]) (rest := []) dL_law_2489 cl386 m267 rfl rfl rfl rfl (Nat.le_of_ble_eq_true rfl) rfl rfl rfl rfl) ?_
  refine am_bI_c (fun r2 t2 => ?_)
  refine Eq.trans (g_ist (k := 6) dL_law_2492 (Nat.le_of_ble_eq_true rfl) rfl rfl rfl) ?_
  refine Eq.trans (g_A dL_law_2494 rfl rfl) ?_
  refine Eq.trans (g_vI (a := 34) (as := []) (rest := []) dL_law_2495 cl306 m172 rfl rfl rfl rfl (Nat.le_of_ble_eq_true rfl) rfl rfl rfl rfl) ?_
  refine am_bI_c (fun r3 t3 => ?_)
  refine Eq.trans (g_A dL_law_2498 rfl rfl) ?_
  refine Eq.trans (g_iceq (t := 2505) dL_law_2500 rfl rfl) ?_
  refine am_ite ?_ ?_
  · refine Eq.trans (g_A dL_law_2505 rfl rfl) ?_
    refine Eq.trans (g_ifne (t := 2522) dL_law_2507 rfl rfl) ?_
    refine am_ite ?_ ?_
    · refine Eq.trans (g_A dL_law_2510 rfl rfl) ?_
      refine Eq.trans (g_K (v := nI 0) dL_law_2511 rfl rfl) ?_
      refine Eq.trans (g_lald dL_law_2512 sh57 rfl) ?_
      refine am_ite ?_ rfl
      refine Eq.trans (g_A dL_law_2513 rfl rfl) ?_
      refine Eq.trans (g_i2l dL_law_2515 rfl) ?_
      refine Eq.trans (g_lcmp dL_law_2516 rfl) ?_
      refine Eq.trans (g_ifeq (t := 2522) dL_law_2517 rfl rfl) ?_
      refine am_ite ?_ ?_
      · refine Eq.trans (g_goto (pc' := 2785) dL_law_2522 rfl) ?_
        rfl
      · refine Eq.trans (g_K (v := nI 0) dL_law_2520 rfl rfl) ?_
        exact g_zl dL_law_2521 rfl (Or.inl rfl)
    · refine Eq.trans (g_goto (pc' := 2785) dL_law_2522 rfl) ?_
      rfl
  · refine Eq.trans (g_K (v := nI 0) dL_law_2503 rfl rfl) ?_
    exact g_zl dL_law_2504 rfl (Or.inl rfl)
theorem ql_2525 {Xs : am_X} (hX : 0 < Xs.1) (C : am_C) (σ : am_M) (v4 : Int32) {u5 : Value} {u6 : Value} : am_go Xs C ML 2525 [.ref 1001, .ref 0, .ref 34, .ref 57, .int v4, u5, u6, .null] [] σ = if am_in (v4 + (nI 1)) (Xs.1 - 1) = true then (if am_in (v4 + (nI 2)) (Xs.1 - 1) = true then (am_bI (C 312 [.ref 0, .int (Xs.2 (v4 + (nI 1) : Int32).toNatClampNeg), .int (Xs.2 (v4 + (nI 2) : Int32).toNatClampNeg), .ref 57] σ) (fun r1 t1 => if am_in (v4 + (nI 1)) (Xs.1 - 1) = true then (if am_in (v4 + (nI 2)) (Xs.1 - 1) = true then (am_bI (C 269 [.ref 34, .int (Xs.2 (v4 + (nI 1) : Int32).toNatClampNeg), .int (Xs.2 (v4 + (nI 2) : Int32).toNatClampNeg)] t1) (fun r2 t2 => am_bI (C 172 [.ref 34] t2) (fun r3 t3 => if r3 = r1 then (if r1 = nI 0 then (if am_in (nI 0) 1 = true then (if lg_cmp (t3.2.1 57 (nI 0 : Int32).toNatClampNeg) ((r2 : Int32).toInt64) = nI 0 then (am_go Xs C ML 2785 [.ref 1001, .ref 0, .ref 34, .ref 57, .int v4, .int r1, .int r2, .null] [] t3) else (some (.inl (some (.int (nI 0))), t3))) else none) else (am_go Xs C ML 2785 [.ref 1001, .ref 0, .ref 34, .ref 57, .int v4, .int r1, .int r2, .null] [] t3)) else (some (.inl (some (.int (nI 0))), t3))))) else none) else none)) else none) else none := by
  refine Eq.trans (g_A dL_law_2525 rfl rfl) ?_
  refine Eq.trans (g_A dL_law_2526 rfl rfl) ?_
  refine Eq.trans (g_A dL_law_2527 rfl rfl) ?_
  refine Eq.trans (g_K (v := nI 1) dL_law_2529 rfl rfl) ?_
  refine Eq.trans (g_iadd dL_law_2530 rfl) ?_
  refine Eq.trans (g_scld dL_law_2531 rfl) ?_
  refine am_ite ?_ rfl
  refine Eq.trans (g_A dL_law_2532 rfl rfl) ?_
  refine Eq.trans (g_A dL_law_2533 rfl rfl) ?_
  refine Eq.trans (g_K (v := nI 2) dL_law_2535 rfl rfl) ?_
  refine Eq.trans (g_iadd dL_law_2536 rfl) ?_
  refine Eq.trans (g_scld dL_law_2537 rfl) ?_
  refine am_ite ?_ rfl
  refine Eq.trans (g_A dL_law_2538 rfl rfl) ?_
  refine Eq.trans (g_sI (as := [.ref 0, .int (Xs.2 (v4 + (nI 1) : Int32).toNatClampNeg), .int (Xs.2 (v4 + (nI 2) : Int32).toNatClampNeg), .ref 57]) (rest := []) dL_law_2539 rfl cl387 m312 rfl rfl rfl rfl (Nat.le_of_ble_eq_true rfl) rfl rfl rfl) ?_
  refine am_bI_c (fun r1 t1 => ?_)
  refine Eq.trans (g_ist (k := 5) dL_law_2542 (Nat.le_of_ble_eq_true rfl) rfl rfl rfl) ?_
  refine Eq.trans (g_A dL_law_2544 rfl rfl) ?_
  refine Eq.trans (g_A dL_law_2545 rfl rfl) ?_
  refine Eq.trans (g_A dL_law_2546 rfl rfl) ?_
  refine Eq.trans (g_K (v := nI 1) dL_law_2548 rfl rfl) ?_
  refine Eq.trans (g_iadd dL_law_2549 rfl) ?_
  refine Eq.trans (g_scld dL_law_2550 rfl) ?_
  refine am_ite ?_ rfl
  refine Eq.trans (g_A dL_law_2551 rfl rfl) ?_
  refine Eq.trans (g_A dL_law_2552 rfl rfl) ?_
  refine Eq.trans (g_K (v := nI 2) dL_law_2554 rfl rfl) ?_
  refine Eq.trans (g_iadd dL_law_2555 rfl) ?_
  refine Eq.trans (g_scld dL_law_2556 rfl) ?_
  refine am_ite ?_ rfl
  refine Eq.trans (g_vI (a := 34) (as := [.int (Xs.2 (v4 + (nI 1) : Int32).toNatClampNeg), .int (Xs.2 (v4 + (nI 2) : Int32).toNatClampNeg)]) (rest := []) dL_law_2557 cl388 m269 rfl rfl rfl rfl (Nat.le_of_ble_eq_true rfl) rfl rfl rfl rfl) ?_
  refine am_bI_c (fun r2 t2 => ?_)
  refine Eq.trans (g_ist (k := 6) dL_law_2560 (Nat.le_of_ble_eq_true rfl) rfl rfl rfl) ?_
  refine Eq.trans (g_A dL_law_2562 rfl rfl) ?_
  refine Eq.trans (g_vI (a := 34) (as := []) (rest := []) dL_law_2563 cl306 m172 rfl rfl rfl rfl (Nat.le_of_ble_eq_true rfl) rfl rfl rfl rfl) ?_
  refine am_bI_c (fun r3 t3 => ?_)
  refine Eq.trans (g_A dL_law_2566 rfl rfl) ?_
  refine Eq.trans (g_iceq (t := 2573) dL_law_2568 rfl rfl) ?_
  refine am_ite ?_ ?_
  · refine Eq.trans (g_A dL_law_2573 rfl rfl) ?_
    refine Eq.trans (g_ifne (t := 2590) dL_law_2575 rfl rfl) ?_
    refine am_ite ?_ ?_
    · refine Eq.trans (g_A dL_law_2578 rfl rfl) ?_
      refine Eq.trans (g_K (v := nI 0) dL_law_2579 rfl rfl) ?_
      refine Eq.trans (g_lald dL_law_2580 sh57 rfl) ?_
      refine am_ite ?_ rfl
      refine Eq.trans (g_A dL_law_2581 rfl rfl) ?_
      refine Eq.trans (g_i2l dL_law_2583 rfl) ?_
      refine Eq.trans (g_lcmp dL_law_2584 rfl) ?_
      refine Eq.trans (g_ifeq (t := 2590) dL_law_2585 rfl rfl) ?_
      refine am_ite ?_ ?_
      · refine Eq.trans (g_goto (pc' := 2785) dL_law_2590 rfl) ?_
        rfl
      · refine Eq.trans (g_K (v := nI 0) dL_law_2588 rfl rfl) ?_
        exact g_zl dL_law_2589 rfl (Or.inl rfl)
    · refine Eq.trans (g_goto (pc' := 2785) dL_law_2590 rfl) ?_
      rfl
  · refine Eq.trans (g_K (v := nI 0) dL_law_2571 rfl rfl) ?_
    exact g_zl dL_law_2572 rfl (Or.inl rfl)
theorem ql_2593 {Xs : am_X} (hX : 0 < Xs.1) (C : am_C) (σ : am_M) (v4 : Int32) {u5 : Value} {u6 : Value} : am_go Xs C ML 2593 [.ref 1001, .ref 0, .ref 34, .ref 57, .int v4, u5, u6, .null] [] σ = if am_in (v4 + (nI 1)) (Xs.1 - 1) = true then (if am_in (v4 + (nI 2)) (Xs.1 - 1) = true then (am_bI (C 313 [.ref 0, .int (Xs.2 (v4 + (nI 1) : Int32).toNatClampNeg), .int (Xs.2 (v4 + (nI 2) : Int32).toNatClampNeg), .ref 57] σ) (fun r1 t1 => if am_in (v4 + (nI 1)) (Xs.1 - 1) = true then (if am_in (v4 + (nI 2)) (Xs.1 - 1) = true then (am_bI (C 271 [.ref 34, .int (Xs.2 (v4 + (nI 1) : Int32).toNatClampNeg), .int (Xs.2 (v4 + (nI 2) : Int32).toNatClampNeg)] t1) (fun r2 t2 => am_bI (C 172 [.ref 34] t2) (fun r3 t3 => if r3 = r1 then (if r1 = nI 0 then (if am_in (nI 0) 1 = true then (if lg_cmp (t3.2.1 57 (nI 0 : Int32).toNatClampNeg) ((r2 : Int32).toInt64) = nI 0 then (am_go Xs C ML 2785 [.ref 1001, .ref 0, .ref 34, .ref 57, .int v4, .int r1, .int r2, .null] [] t3) else (some (.inl (some (.int (nI 0))), t3))) else none) else (am_go Xs C ML 2785 [.ref 1001, .ref 0, .ref 34, .ref 57, .int v4, .int r1, .int r2, .null] [] t3)) else (some (.inl (some (.int (nI 0))), t3))))) else none) else none)) else none) else none := by
  refine Eq.trans (g_A dL_law_2593 rfl rfl) ?_
  refine Eq.trans (g_A dL_law_2594 rfl rfl) ?_
  refine Eq.trans (g_A dL_law_2595 rfl rfl) ?_
  refine Eq.trans (g_K (v := nI 1) dL_law_2597 rfl rfl) ?_
  refine Eq.trans (g_iadd dL_law_2598 rfl) ?_
  refine Eq.trans (g_scld dL_law_2599 rfl) ?_
  refine am_ite ?_ rfl
  refine Eq.trans (g_A dL_law_2600 rfl rfl) ?_
  refine Eq.trans (g_A dL_law_2601 rfl rfl) ?_
  refine Eq.trans (g_K (v := nI 2) dL_law_2603 rfl rfl) ?_
  refine Eq.trans (g_iadd dL_law_2604 rfl) ?_
  refine Eq.trans (g_scld dL_law_2605 rfl) ?_
  refine am_ite ?_ rfl
  refine Eq.trans (g_A dL_law_2606 rfl rfl) ?_
  refine Eq.trans (g_sI (as := [.ref 0, .int (Xs.2 (v4 + (nI 1) : Int32).toNatClampNeg), .int (Xs.2 (v4 + (nI 2) : Int32).toNatClampNeg), .ref 57]) (rest := []) dL_law_2607 rfl cl389 m313 rfl rfl rfl rfl (Nat.le_of_ble_eq_true rfl) rfl rfl rfl) ?_
  refine am_bI_c (fun r1 t1 => ?_)
  refine Eq.trans (g_ist (k := 5) dL_law_2610 (Nat.le_of_ble_eq_true rfl) rfl rfl rfl) ?_
  refine Eq.trans (g_A dL_law_2612 rfl rfl) ?_
  refine Eq.trans (g_A dL_law_2613 rfl rfl) ?_
  refine Eq.trans (g_A dL_law_2614 rfl rfl) ?_
  refine Eq.trans (g_K (v := nI 1) dL_law_2616 rfl rfl) ?_
  refine Eq.trans (g_iadd dL_law_2617 rfl) ?_
  refine Eq.trans (g_scld dL_law_2618 rfl) ?_
  refine am_ite ?_ rfl
  refine Eq.trans (g_A dL_law_2619 rfl rfl) ?_
  refine Eq.trans (g_A dL_law_2620 rfl rfl) ?_
  refine Eq.trans (g_K (v := nI 2) dL_law_2622 rfl rfl) ?_
  refine Eq.trans (g_iadd dL_law_2623 rfl) ?_
  refine Eq.trans (g_scld dL_law_2624 rfl) ?_
  refine am_ite ?_ rfl
  refine Eq.trans (g_vI (a := 34) (as := [.int (Xs.2 (v4 + (nI 1) : Int32).toNatClampNeg), .int (Xs.2 (v4 + (nI 2) : Int32).toNatClampNeg)]) (rest := []) dL_law_2625 cl390 m271 rfl rfl rfl rfl (Nat.le_of_ble_eq_true rfl) rfl rfl rfl rfl) ?_
  refine am_bI_c (fun r2 t2 => ?_)
  refine Eq.trans (g_ist (k := 6) dL_law_2628 (Nat.le_of_ble_eq_true rfl) rfl rfl rfl) ?_
  refine Eq.trans (g_A dL_law_2630 rfl rfl) ?_
  refine Eq.trans (g_vI (a := 34) (as := []) (rest := []) dL_law_2631 cl306 m172 rfl rfl rfl rfl (Nat.le_of_ble_eq_true rfl) rfl rfl rfl rfl) ?_
  refine am_bI_c (fun r3 t3 => ?_)
  refine Eq.trans (g_A dL_law_2634 rfl rfl) ?_
  refine Eq.trans (g_iceq (t := 2641) dL_law_2636 rfl rfl) ?_
  refine am_ite ?_ ?_
  · refine Eq.trans (g_A dL_law_2641 rfl rfl) ?_
    refine Eq.trans (g_ifne (t := 2658) dL_law_2643 rfl rfl) ?_
    refine am_ite ?_ ?_
    · refine Eq.trans (g_A dL_law_2646 rfl rfl) ?_
      refine Eq.trans (g_K (v := nI 0) dL_law_2647 rfl rfl) ?_
      refine Eq.trans (g_lald dL_law_2648 sh57 rfl) ?_
      refine am_ite ?_ rfl
      refine Eq.trans (g_A dL_law_2649 rfl rfl) ?_
      refine Eq.trans (g_i2l dL_law_2651 rfl) ?_
      refine Eq.trans (g_lcmp dL_law_2652 rfl) ?_
      refine Eq.trans (g_ifeq (t := 2658) dL_law_2653 rfl rfl) ?_
      refine am_ite ?_ ?_
      · refine Eq.trans (g_goto (pc' := 2785) dL_law_2658 rfl) ?_
        rfl
      · refine Eq.trans (g_K (v := nI 0) dL_law_2656 rfl rfl) ?_
        exact g_zl dL_law_2657 rfl (Or.inl rfl)
    · refine Eq.trans (g_goto (pc' := 2785) dL_law_2658 rfl) ?_
      rfl
  · refine Eq.trans (g_K (v := nI 0) dL_law_2639 rfl rfl) ?_
    exact g_zl dL_law_2640 rfl (Or.inl rfl)
theorem ql_2661 {Xs : am_X} (hX : 0 < Xs.1) (C : am_C) (σ : am_M) (v4 : Int32) {u5 : Value} {u6 : Value} : am_go Xs C ML 2661 [.ref 1001, .ref 0, .ref 34, .ref 57, .int v4, u5, u6, .null] [] σ = if am_in (v4 + (nI 1)) (Xs.1 - 1) = true then (am_bI (C 314 [.ref 0, .int (Xs.2 (v4 + (nI 1) : Int32).toNatClampNeg), .ref 57] σ) (fun r1 t1 => if am_in (v4 + (nI 1)) (Xs.1 - 1) = true then (am_bI (C 273 [.ref 34, .int (Xs.2 (v4 + (nI 1) : Int32).toNatClampNeg)] t1) (fun r2 t2 => am_bI (C 172 [.ref 34] t2) (fun r3 t3 => if r3 = r1 then (if r1 = nI 0 then (if am_in (nI 0) 1 = true then (if lg_cmp (t3.2.1 57 (nI 0 : Int32).toNatClampNeg) ((r2 : Int32).toInt64) = nI 0 then (am_go Xs C ML 2785 [.ref 1001, .ref 0, .ref 34, .ref 57, .int v4, .int r1, .int r2, .null] [] t3) else (some (.inl (some (.int (nI 0))), t3))) else none) else (am_go Xs C ML 2785 [.ref 1001, .ref 0, .ref 34, .ref 57, .int v4, .int r1, .int r2, .null] [] t3)) else (some (.inl (some (.int (nI 0))), t3))))) else none)) else none := by
  refine Eq.trans (g_A dL_law_2661 rfl rfl) ?_
  refine Eq.trans (g_A dL_law_2662 rfl rfl) ?_
  refine Eq.trans (g_A dL_law_2663 rfl rfl) ?_
  refine Eq.trans (g_K (v := nI 1) dL_law_2665 rfl rfl) ?_
  refine Eq.trans (g_iadd dL_law_2666 rfl) ?_
  refine Eq.trans (g_scld dL_law_2667 rfl) ?_
  refine am_ite ?_ rfl
  refine Eq.trans (g_A dL_law_2668 rfl rfl) ?_
  refine Eq.trans (g_sI (as := [.ref 0, .int (Xs.2 (v4 + (nI 1) : Int32).toNatClampNeg), .ref 57]) (rest := []) dL_law_2669 rfl cl391 m314 rfl rfl rfl rfl (Nat.le_of_ble_eq_true rfl) rfl rfl rfl) ?_
  refine am_bI_c (fun r1 t1 => ?_)
  refine Eq.trans (g_ist (k := 5) dL_law_2672 (Nat.le_of_ble_eq_true rfl) rfl rfl rfl) ?_
  refine Eq.trans (g_A dL_law_2674 rfl rfl) ?_
  refine Eq.trans (g_A dL_law_2675 rfl rfl) ?_
  refine Eq.trans (g_A dL_law_2676 rfl rfl) ?_
  refine Eq.trans (g_K (v := nI 1) dL_law_2678 rfl rfl) ?_
  refine Eq.trans (g_iadd dL_law_2679 rfl) ?_
  refine Eq.trans (g_scld dL_law_2680 rfl) ?_
  refine am_ite ?_ rfl
  refine Eq.trans (g_vI (a := 34) (as := [.int (Xs.2 (v4 + (nI 1) : Int32).toNatClampNeg)]) (rest := []) dL_law_2681 cl392 m273 rfl rfl rfl rfl (Nat.le_of_ble_eq_true rfl) rfl rfl rfl rfl) ?_
  refine am_bI_c (fun r2 t2 => ?_)
  refine Eq.trans (g_ist (k := 6) dL_law_2684 (Nat.le_of_ble_eq_true rfl) rfl rfl rfl) ?_
  refine Eq.trans (g_A dL_law_2686 rfl rfl) ?_
  refine Eq.trans (g_vI (a := 34) (as := []) (rest := []) dL_law_2687 cl306 m172 rfl rfl rfl rfl (Nat.le_of_ble_eq_true rfl) rfl rfl rfl rfl) ?_
  refine am_bI_c (fun r3 t3 => ?_)
  refine Eq.trans (g_A dL_law_2690 rfl rfl) ?_
  refine Eq.trans (g_iceq (t := 2697) dL_law_2692 rfl rfl) ?_
  refine am_ite ?_ ?_
  · refine Eq.trans (g_A dL_law_2697 rfl rfl) ?_
    refine Eq.trans (g_ifne (t := 2714) dL_law_2699 rfl rfl) ?_
    refine am_ite ?_ ?_
    · refine Eq.trans (g_A dL_law_2702 rfl rfl) ?_
      refine Eq.trans (g_K (v := nI 0) dL_law_2703 rfl rfl) ?_
      refine Eq.trans (g_lald dL_law_2704 sh57 rfl) ?_
      refine am_ite ?_ rfl
      refine Eq.trans (g_A dL_law_2705 rfl rfl) ?_
      refine Eq.trans (g_i2l dL_law_2707 rfl) ?_
      refine Eq.trans (g_lcmp dL_law_2708 rfl) ?_
      refine Eq.trans (g_ifeq (t := 2714) dL_law_2709 rfl rfl) ?_
      refine am_ite ?_ ?_
      · refine Eq.trans (g_goto (pc' := 2785) dL_law_2714 rfl) ?_
        rfl
      · refine Eq.trans (g_K (v := nI 0) dL_law_2712 rfl rfl) ?_
        exact g_zl dL_law_2713 rfl (Or.inl rfl)
    · refine Eq.trans (g_goto (pc' := 2785) dL_law_2714 rfl) ?_
      rfl
  · refine Eq.trans (g_K (v := nI 0) dL_law_2695 rfl rfl) ?_
    exact g_zl dL_law_2696 rfl (Or.inl rfl)
theorem ql_2717 {Xs : am_X} (hX : 0 < Xs.1) (C : am_C) (σ : am_M) (v4 : Int32) {u5 : Value} {u6 : Value} : am_go Xs C ML 2717 [.ref 1001, .ref 0, .ref 34, .ref 57, .int v4, u5, u6, .null] [] σ = if am_in (v4 + (nI 1)) (Xs.1 - 1) = true then (if am_in (v4 + (nI 2)) (Xs.1 - 1) = true then (am_bI (C 315 [.ref 0, .int (Xs.2 (v4 + (nI 1) : Int32).toNatClampNeg), .int (Xs.2 (v4 + (nI 2) : Int32).toNatClampNeg), .ref 57] σ) (fun r1 t1 => if am_in (v4 + (nI 1)) (Xs.1 - 1) = true then (if am_in (v4 + (nI 2)) (Xs.1 - 1) = true then (am_bI (C 274 [.ref 34, .int (Xs.2 (v4 + (nI 1) : Int32).toNatClampNeg), .int (Xs.2 (v4 + (nI 2) : Int32).toNatClampNeg)] t1) (fun r2 t2 => am_bI (C 172 [.ref 34] t2) (fun r3 t3 => if r3 = r1 then (if r1 = nI 0 then (if am_in (nI 0) 1 = true then (if lg_cmp (t3.2.1 57 (nI 0 : Int32).toNatClampNeg) ((r2 : Int32).toInt64) = nI 0 then (am_go Xs C ML 2785 [.ref 1001, .ref 0, .ref 34, .ref 57, .int v4, .int r1, .int r2, .null] [] t3) else (some (.inl (some (.int (nI 0))), t3))) else none) else (am_go Xs C ML 2785 [.ref 1001, .ref 0, .ref 34, .ref 57, .int v4, .int r1, .int r2, .null] [] t3)) else (some (.inl (some (.int (nI 0))), t3))))) else none) else none)) else none) else none := by
  refine Eq.trans (g_A dL_law_2717 rfl rfl) ?_
  refine Eq.trans (g_A dL_law_2718 rfl rfl) ?_
  refine Eq.trans (g_A dL_law_2719 rfl rfl) ?_
  refine Eq.trans (g_K (v := nI 1) dL_law_2721 rfl rfl) ?_
  refine Eq.trans (g_iadd dL_law_2722 rfl) ?_
  refine Eq.trans (g_scld dL_law_2723 rfl) ?_
  refine am_ite ?_ rfl
  refine Eq.trans (g_A dL_law_2724 rfl rfl) ?_
  refine Eq.trans (g_A dL_law_2725 rfl rfl) ?_
  refine Eq.trans (g_K (v := nI 2) dL_law_2727 rfl rfl) ?_
  refine Eq.trans (g_iadd dL_law_2728 rfl) ?_
  refine Eq.trans (g_scld dL_law_2729 rfl) ?_
  refine am_ite ?_ rfl
  refine Eq.trans (g_A dL_law_2730 rfl rfl) ?_
  refine Eq.trans (g_sI (as := [.ref 0, .int (Xs.2 (v4 + (nI 1) : Int32).toNatClampNeg), .int (Xs.2 (v4 + (nI 2) : Int32).toNatClampNeg), .ref 57]) (rest := []) dL_law_2731 rfl cl393 m315 rfl rfl rfl rfl (Nat.le_of_ble_eq_true rfl) rfl rfl rfl) ?_
  refine am_bI_c (fun r1 t1 => ?_)
  refine Eq.trans (g_ist (k := 5) dL_law_2734 (Nat.le_of_ble_eq_true rfl) rfl rfl rfl) ?_
  refine Eq.trans (g_A dL_law_2736 rfl rfl) ?_
  refine Eq.trans (g_A dL_law_2737 rfl rfl) ?_
  refine Eq.trans (g_A dL_law_2738 rfl rfl) ?_
  refine Eq.trans (g_K (v := nI 1) dL_law_2740 rfl rfl) ?_
  refine Eq.trans (g_iadd dL_law_2741 rfl) ?_
  refine Eq.trans (g_scld dL_law_2742 rfl) ?_
  refine am_ite ?_ rfl
  refine Eq.trans (g_A dL_law_2743 rfl rfl) ?_
  refine Eq.trans (g_A dL_law_2744 rfl rfl) ?_
  refine Eq.trans (g_K (v := nI 2) dL_law_2746 rfl rfl) ?_
  refine Eq.trans (g_iadd dL_law_2747 rfl) ?_
  refine Eq.trans (g_scld dL_law_2748 rfl) ?_
  refine am_ite ?_ rfl
  refine Eq.trans (g_vI (a := 34) (as := [.int (Xs.2 (v4 + (nI 1) : Int32).toNatClampNeg), .int (Xs.2 (v4 + (nI 2) : Int32).toNatClampNeg)]) (rest := []) dL_law_2749 cl394 m274 rfl rfl rfl rfl (Nat.le_of_ble_eq_true rfl) rfl rfl rfl rfl) ?_
  refine am_bI_c (fun r2 t2 => ?_)
  refine Eq.trans (g_ist (k := 6) dL_law_2752 (Nat.le_of_ble_eq_true rfl) rfl rfl rfl) ?_
  refine Eq.trans (g_A dL_law_2754 rfl rfl) ?_
  refine Eq.trans (g_vI (a := 34) (as := []) (rest := []) dL_law_2755 cl306 m172 rfl rfl rfl rfl (Nat.le_of_ble_eq_true rfl) rfl rfl rfl rfl) ?_
  refine am_bI_c (fun r3 t3 => ?_)
  refine Eq.trans (g_A dL_law_2758 rfl rfl) ?_
  refine Eq.trans (g_iceq (t := 2765) dL_law_2760 rfl rfl) ?_
  refine am_ite ?_ ?_
  · refine Eq.trans (g_A dL_law_2765 rfl rfl) ?_
    refine Eq.trans (g_ifne (t := 2782) dL_law_2767 rfl rfl) ?_
    refine am_ite ?_ ?_
    · refine Eq.trans (g_A dL_law_2770 rfl rfl) ?_
      refine Eq.trans (g_K (v := nI 0) dL_law_2771 rfl rfl) ?_
      refine Eq.trans (g_lald dL_law_2772 sh57 rfl) ?_
      refine am_ite ?_ rfl
      refine Eq.trans (g_A dL_law_2773 rfl rfl) ?_
      refine Eq.trans (g_i2l dL_law_2775 rfl) ?_
      refine Eq.trans (g_lcmp dL_law_2776 rfl) ?_
      refine Eq.trans (g_ifeq (t := 2782) dL_law_2777 rfl rfl) ?_
      refine am_ite ?_ ?_
      · refine Eq.trans (g_goto (pc' := 2785) dL_law_2782 rfl) ?_
        rfl
      · refine Eq.trans (g_K (v := nI 0) dL_law_2780 rfl rfl) ?_
        exact g_zl dL_law_2781 rfl (Or.inl rfl)
    · refine Eq.trans (g_goto (pc' := 2785) dL_law_2782 rfl) ?_
      rfl
  · refine Eq.trans (g_K (v := nI 0) dL_law_2763 rfl rfl) ?_
    exact g_zl dL_law_2764 rfl (Or.inl rfl)
theorem ql_2785 {Xs : am_X} (hX : 0 < Xs.1) (C : am_C) (σ : am_M) (v4 : Int32) {u5 : Value} {u6 : Value} : am_go Xs C ML 2785 [.ref 1001, .ref 0, .ref 34, .ref 57, .int v4, u5, u6, .null] [] σ = am_go Xs C ML 23 [.ref 1001, .ref 0, .ref 34, .ref 57, .int (v4 + nI 4), u5, u6, .null] [] σ := by
  refine Eq.trans (g_inc (v := v4 + nI 4) dL_law_2785 rfl (Nat.le_of_ble_eq_true rfl) rfl rfl rfl rfl) ?_
  refine Eq.trans (g_goto (pc' := 23) dL_law_2788 rfl) ?_
  rfl
