/-! switches, lengths, Arrays.fill -/
section SWI
variable {X : am_X} {C : am_C} {M : am_Mt} {pc pc' : Nat} {lv lv' st st' r : List Value} {σ σ' : am_M} {i : Nat}
theorem g_ts {dflt lo hi off : Int} {offs : Array Int} {len t : Nat} {x : Int32} (h : decode M.2.1 pc = .ok (.tableswitch dflt lo hi offs, len)) (hx : x.toInt = lo + (i : Int)) (hi' : lo + (i : Int) ≤ hi) (ho : offs[i]? = some off) (hp : (pc : Int) + off = (t : Int)) : am_go X C M pc lv (.int x :: r) σ = am_go X C M t lv r σ := by
  have h1 : am_tgok pc off = true := by unfold am_tgok; rw [hp]; simp
  have h2 : am_tg pc off = t := by unfold am_tg; rw [hp]; simp
  refine g_C h rfl rfl ?_
  unfold am_fC
  simp only [hx]
  rw [if_neg (by omega), show (lo + (i : Int) - lo).toNat = i by omega, ho]
  simp only [h1, h2, if_true]
theorem g_tsd {dflt lo hi : Int} {offs : Array Int} {len t : Nat} {x : Int32} (h : decode M.2.1 pc = .ok (.tableswitch dflt lo hi offs, len)) (hx : x.toInt < lo ∨ hi < x.toInt) (hp : (pc : Int) + dflt = (t : Int)) : am_go X C M pc lv (.int x :: r) σ = am_go X C M t lv r σ := by
  have h1 : am_tgok pc dflt = true := by unfold am_tgok; rw [hp]; simp
  have h2 : am_tg pc dflt = t := by unfold am_tg; rw [hp]; simp
  refine g_C h rfl rfl ?_
  unfold am_fC
  simp only []
  rw [if_pos hx]
  simp only [h1, h2, if_true]
theorem g_len {a t n : Nat} (h : decode M.2.1 pc = .ok (.arraylength, 1)) (hs : am_sh[a]? = some (.inl (t, n))) (hp : pc + 1 = pc') : am_go X C M pc lv (.ref a :: r) σ = am_go X C M pc' lv (.int (nI n) :: r) σ := by
  refine g_D h rfl rfl rfl ?_ hp
  simp only [am_fD, am_len, hs, am_oI]
end SWI
theorem q242_0 (C : am_C) (σ : am_M) (v1 v2 : Int32) : am_go am_X0 C M242 0 [.ref 34, .int v1, .int v2, .null] [] σ = am_bI (C 208 [.int v1] σ) (fun r1 t1 => if r1 = nI 0 then (am_go am_X0 C M242 29 [.ref 34, .int v1, .int v2, .null] [.int (nI 1), .ref 34] t1) else (am_bI (C 173 [.long ((v2 : Int32).toInt64), .long (0 : Int64), .long (4)] t1) (fun r2 t2 => if r2 = nI 0 then (am_go am_X0 C M242 29 [.ref 34, .int v1, .int v2, .null] [.int (nI 2), .ref 34] t2) else (am_go am_X0 C M242 29 [.ref 34, .int v1, .int v2, .null] [.int (nI 0), .ref 34] t2)))) := by
  refine Eq.trans (g_A dX10_custodian_0 rfl rfl) ?_
  refine Eq.trans (g_A dX10_custodian_1 rfl rfl) ?_
  refine Eq.trans (g_sI (as := [.int v1]) (rest := [.ref 34]) dX10_custodian_2 rfl cl120 m208 rfl rfl rfl rfl (Nat.le_of_ble_eq_true rfl) rfl rfl rfl) ?_
  refine am_bI_c (fun r1 t1 => ?_)
  refine Eq.trans (g_ifne (t := 12) dX10_custodian_5 rfl rfl) ?_
  refine am_ite ?_ ?_
  · refine Eq.trans (g_K (v := nI 1) dX10_custodian_8 rfl rfl) ?_
    refine Eq.trans (g_goto (pc' := 29) dX10_custodian_9 rfl) ?_
    rfl
  · refine Eq.trans (g_A dX10_custodian_12 rfl rfl) ?_
    refine Eq.trans (g_i2l dX10_custodian_13 rfl) ?_
    refine Eq.trans (g_KJ (v := (0 : Int64)) dX10_custodian_14 rfl rfl) ?_
    refine Eq.trans (g_ld2 dX10_custodian_15 kj10 rfl) ?_
    refine Eq.trans (g_sI (as := [.long ((v2 : Int32).toInt64), .long (0 : Int64), .long (4)]) (rest := [.ref 34]) dX10_custodian_18 rfl cl101 m173 rfl rfl rfl rfl (Nat.le_of_ble_eq_true rfl) rfl rfl rfl) ?_
    refine am_bI_c (fun r2 t2 => ?_)
    refine Eq.trans (g_ifne (t := 28) dX10_custodian_21 rfl rfl) ?_
    refine am_ite ?_ ?_
    · refine Eq.trans (g_K (v := nI 2) dX10_custodian_24 rfl rfl) ?_
      refine Eq.trans (g_goto (pc' := 29) dX10_custodian_25 rfl) ?_
      rfl
    · refine Eq.trans (g_K (v := nI 0) dX10_custodian_28 rfl rfl) ?_
      rfl
theorem q242_29 (C : am_C) (σ : am_M) (v1 v2 s0 : Int32) : am_go am_X0 C M242 29 [.ref 34, .int v1, .int v2, .null] [.int s0, .ref 34] σ = if ((am_wI σ 34 25 s0).1 34 25) ≤ (nI 0) then (if am_in v1 4 = true then (if (am_wI σ 34 25 s0).1 39 (v1 : Int32).toNatClampNeg = nI 0 then (some (.inl (some (.int (-1))), am_wI σ 34 25 s0)) else (am_go am_X0 C M242 55 [.ref 34, .int v1, .int v2, .int ((am_wI σ 34 25 s0).1 39 (v1 : Int32).toNatClampNeg)] [.int v2] (am_wI σ 34 25 s0))) else none) else (some (.inl (some (.int (nI 0))), am_wI σ 34 25 s0)) := by
  refine Eq.trans (g_put dX10_custodian_29 f13 sh34 rfl rfl rfl) ?_
  refine Eq.trans (g_A dX10_custodian_32 rfl rfl) ?_
  refine Eq.trans (g_getI dX10_custodian_33 f13 sh34 rfl rfl) ?_
  refine Eq.trans (g_ifle (t := 41) dX10_custodian_36 rfl rfl) ?_
  refine am_ite ?_ ?_
  · refine Eq.trans (g_A dX10_custodian_41 rfl rfl) ?_
    refine Eq.trans (g_getR dX10_custodian_42 f19 sh34 rfl rfl) ?_
    refine Eq.trans (g_A dX10_custodian_45 rfl rfl) ?_
    refine Eq.trans (g_iald dX10_custodian_46 sh39 rfl) ?_
    refine am_ite ?_ rfl
    refine Eq.trans (g_isn (k := 3) dX10_custodian_47 rfl (Nat.le_of_ble_eq_true rfl) rfl rfl rfl) ?_
    refine Eq.trans (g_A dX10_custodian_48 rfl rfl) ?_
    refine Eq.trans (g_ifne (t := 54) dX10_custodian_49 rfl rfl) ?_
    refine am_ite ?_ ?_
    · refine Eq.trans (g_K (v := (-1)) dX10_custodian_52 rfl rfl) ?_
      exact g_iret dX10_custodian_53 rfl
    · refine Eq.trans (g_A dX10_custodian_54 rfl rfl) ?_
      rfl
  · refine Eq.trans (g_K (v := nI 0) dX10_custodian_39 rfl rfl) ?_
    exact g_iret dX10_custodian_40 rfl
theorem q242_55_0 (C : am_C) (σ : am_M) (v1 v2 v3 : Int32) : am_go am_X0 C M242 55 [.ref 34, .int v1, .int v2, .int v3] [.int (nI 0)] σ = am_go am_X0 C M242 80 [.ref 34, .int v1, .int v2, .int v3] [] σ := g_ts (i := 0) dX10_custodian_55 (by decide +kernel) (by decide) rfl rfl
theorem q242_55_1 (C : am_C) (σ : am_M) (v1 v2 v3 : Int32) : am_go am_X0 C M242 55 [.ref 34, .int v1, .int v2, .int v3] [.int (nI 1)] σ = am_go am_X0 C M242 82 [.ref 34, .int v1, .int v2, .int v3] [] σ := g_ts (i := 1) dX10_custodian_55 (by decide +kernel) (by decide) rfl rfl
theorem q242_55_2 (C : am_C) (σ : am_M) (v1 v2 v3 : Int32) : am_go am_X0 C M242 55 [.ref 34, .int v1, .int v2, .int v3] [.int (nI 2)] σ = am_go am_X0 C M242 89 [.ref 34, .int v1, .int v2, .int v3] [] σ := g_ts (i := 2) dX10_custodian_55 (by decide +kernel) (by decide) rfl rfl
theorem q242_55_d (C : am_C) (σ : am_M) (v1 v2 v3 : Int32) {x : Int32} (hx : x.toInt < 0 ∨ 2 < x.toInt) : am_go am_X0 C M242 55 [.ref 34, .int v1, .int v2, .int v3] [.int x] σ = am_go am_X0 C M242 110 [.ref 34, .int v1, .int v2, .int v3] [] σ := g_tsd dX10_custodian_55 hx rfl
theorem q242_80 (C : am_C) (σ : am_M) (v1 v2 v3 : Int32) : am_go am_X0 C M242 80 [.ref 34, .int v1, .int v2, .int v3] [] σ = some (.inl (some (.int v3)), σ) := by
  refine Eq.trans (g_A dX10_custodian_80 rfl rfl) ?_
  exact g_iret dX10_custodian_81 rfl
theorem q242_82 (C : am_C) (σ : am_M) (v1 v2 v3 : Int32) : am_go am_X0 C M242 82 [.ref 34, .int v1, .int v2, .int v3] [] σ = if am_in v1 4 = true then (some (.inl (some (.int (σ.1 40 (v1 : Int32).toNatClampNeg))), σ)) else none := by
  refine Eq.trans (g_A dX10_custodian_82 rfl rfl) ?_
  refine Eq.trans (g_getR dX10_custodian_83 f40 sh34 rfl rfl) ?_
  refine Eq.trans (g_A dX10_custodian_86 rfl rfl) ?_
  refine Eq.trans (g_iald dX10_custodian_87 sh40 rfl) ?_
  refine am_ite ?_ rfl
  exact g_iret dX10_custodian_88 rfl
theorem q242_89 (C : am_C) (σ : am_M) (v1 v2 v3 : Int32) : am_go am_X0 C M242 89 [.ref 34, .int v1, .int v2, .int v3] [] σ = if am_in v1 4 = true then (if am_in (σ.1 40 (v1 : Int32).toNatClampNeg) 85 = true then (if σ.1 35 (σ.1 40 (v1 : Int32).toNatClampNeg : Int32).toNatClampNeg = v3 then (some (.inl (some (.int (nI 1))), σ)) else (some (.inl (some (.int (nI 0))), σ))) else none) else none := by
  refine Eq.trans (g_A dX10_custodian_89 rfl rfl) ?_
  refine Eq.trans (g_getR dX10_custodian_90 f15 sh34 rfl rfl) ?_
  refine Eq.trans (g_A dX10_custodian_93 rfl rfl) ?_
  refine Eq.trans (g_getR dX10_custodian_94 f40 sh34 rfl rfl) ?_
  refine Eq.trans (g_A dX10_custodian_97 rfl rfl) ?_
  refine Eq.trans (g_iald dX10_custodian_98 sh40 rfl) ?_
  refine am_ite ?_ rfl
  refine Eq.trans (g_iald dX10_custodian_99 sh35 rfl) ?_
  refine am_ite ?_ rfl
  refine Eq.trans (g_A dX10_custodian_100 rfl rfl) ?_
  refine Eq.trans (g_icne (t := 108) dX10_custodian_101 rfl rfl) ?_
  refine am_ite ?_ ?_
  · refine Eq.trans (g_K (v := nI 1) dX10_custodian_104 rfl rfl) ?_
    refine Eq.trans (g_goto (pc' := 109) dX10_custodian_105 rfl) ?_
    exact g_iret dX10_custodian_109 rfl
  · refine Eq.trans (g_K (v := nI 0) dX10_custodian_108 rfl rfl) ?_
    exact g_iret dX10_custodian_109 rfl
theorem q242_110 (C : am_C) (σ : am_M) (v1 v2 v3 : Int32) : am_go am_X0 C M242 110 [.ref 34, .int v1, .int v2, .int v3] [] σ = if v2 = nI 3 then (am_go am_X0 C M242 122 [.ref 34, .int v1, .int v2, .int v3] [.int (nI 1), .int v3, .ref 34] σ) else (am_go am_X0 C M242 122 [.ref 34, .int v1, .int v2, .int v3] [.int (nI 0), .int v3, .ref 34] σ) := by
  refine Eq.trans (g_A dX10_custodian_110 rfl rfl) ?_
  refine Eq.trans (g_A dX10_custodian_111 rfl rfl) ?_
  refine Eq.trans (g_A dX10_custodian_112 rfl rfl) ?_
  refine Eq.trans (g_K (v := nI 3) dX10_custodian_113 rfl rfl) ?_
  refine Eq.trans (g_icne (t := 121) dX10_custodian_114 rfl rfl) ?_
  refine am_ite ?_ ?_
  · refine Eq.trans (g_K (v := nI 1) dX10_custodian_117 rfl rfl) ?_
    refine Eq.trans (g_goto (pc' := 122) dX10_custodian_118 rfl) ?_
    rfl
  · refine Eq.trans (g_K (v := nI 0) dX10_custodian_121 rfl rfl) ?_
    rfl
theorem q242_122 (C : am_C) (σ : am_M) (v1 v2 v3 s0 s1 : Int32) : am_go am_X0 C M242 122 [.ref 34, .int v1, .int v2, .int v3] [.int s0, .int s1, .ref 34] σ = am_bI (C 240 [.ref 34, .int s1, .int s0] σ) (fun r1 t1 => some (.inl (some (.int r1)), t1)) := by
  refine Eq.trans (g_vI (a := 34) (as := [.int s1, .int s0]) (rest := []) dX10_custodian_122 cl135 m240 rfl rfl rfl rfl (Nat.le_of_ble_eq_true rfl) rfl rfl rfl rfl) ?_
  refine am_bI_c (fun r1 t1 => ?_)
  exact g_iret dX10_custodian_125 rfl
