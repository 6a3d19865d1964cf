/-! what holds at the entry of the law -/
section ENT
variable {s : State} {args : Array Value}
theorem zdq_0 : Cond.instantiable RX0 6 ∈ am_G := am_G_mem (am_at_mem (p := 1138) (by decide +kernel)) rfl
theorem zdq_1 : Cond.instantiable RX1 5 ∈ am_G := am_G_mem (am_at_mem (p := 1163) (by decide +kernel)) rfl
theorem zdq_2 : Cond.instantiable RX2 2 ∈ am_G := am_G_mem (am_at_mem (p := 1185) (by decide +kernel)) rfl
theorem zdq_3 : Cond.instantiable RX3 3 ∈ am_G := am_G_mem (am_at_mem (p := 1031) (by decide +kernel)) rfl
theorem zdq_4 : Cond.instantiable RX4 6 ∈ am_G := am_G_mem (am_at_mem (p := 1091) (by decide +kernel)) rfl
theorem zdq_5 : Cond.instantiable RX5 4 ∈ am_G := am_G_mem (am_at_mem (p := 1198) (by decide +kernel)) rfl
theorem zdq_6 : Cond.instantiable RX6 3 ∈ am_G := am_G_mem (am_at_mem (p := 1048) (by decide +kernel)) rfl
theorem zdq_7 : Cond.instantiable RX7 5 ∈ am_G := am_G_mem (am_at_mem (p := 1116) (by decide +kernel)) rfl
theorem zdq_8 : Cond.instantiable RX8 6 ∈ am_G := am_G_mem (am_at_mem (p := 1065) (by decide +kernel)) rfl
theorem zdq_9 : Cond.instantiable RX9 13 ∈ am_G := am_G_mem (am_at_mem (p := 1023) (by decide +kernel)) rfl
theorem zdq_10 : Cond.instantiable RX10 29 ∈ am_G := am_G_mem (am_at_mem (p := 6085) (by decide +kernel)) rfl
theorem zdi_9 : Cond.initialized RX9 ∈ am_G := am_G_mem (am_at_mem (p := 1001) (by decide +kernel)) rfl
theorem zdm_9 : Cond.instanceMethod yX9_init ∈ am_G := am_G_mem (am_at_mem (p := 1025) (by decide +kernel)) rfl
theorem zdc_9 : Cond.code yX9_init cX9_init 1 none ∈ am_G := am_G_mem (am_at_mem (p := 1026) (by decide +kernel)) rfl
theorem zdi_10 : Cond.initialized RX10 ∈ am_G := am_G_mem (am_at_mem (p := 1012) (by decide +kernel)) rfl
theorem zdm_10 : Cond.instanceMethod yX10_init ∈ am_G := am_G_mem (am_at_mem (p := 6087) (by decide +kernel)) rfl
theorem zdc_10 : Cond.code yX10_init cX10_init 1 none ∈ am_G := am_G_mem (am_at_mem (p := 6088) (by decide +kernel)) rfl
theorem zdl_9 : Cond.methodLink RL 143 yX9_init ∈ am_G := am_G_mem (am_at_mem (p := 1024) (by decide +kernel)) rfl
theorem zdl_10 : Cond.methodLink RL 146 yX10_init ∈ am_G := am_G_mem (am_at_mem (p := 6086) (by decide +kernel)) rfl
theorem zdk_9 : Cond.classLink RL 8 RX9 ∈ am_G := am_G_mem (am_at_mem (p := 1022) (by decide +kernel)) rfl
theorem zdk_10 : Cond.classLink RL 144 RX10 ∈ am_G := am_G_mem (am_at_mem (p := 6084) (by decide +kernel)) rfl
theorem zds_0 : Cond.laysStatic "KeyArchive" "LEVEL_STARTS" "[I" ∈ lw_tbl := (am_at_mem (p := 2118) (by decide +kernel))
theorem zds_1 : Cond.laysStatic Bundle.tN "UNASSIGNED_STACK" Bundle.steD ∈ lw_tbl := (am_at_mem (p := 3104) (by decide +kernel))
theorem zds_2 : Cond.laysStatic Bundle.tN "SUPPRESSED_SENTINEL" Bundle.listD ∈ lw_tbl := (am_at_mem (p := 3106) (by decide +kernel))
theorem zdi_t : Cond.initialized Bundle.tN ∈ am_G := am_G_mem (am_at_mem (p := 1013) (by decide +kernel)) rfl
set_option maxRecDepth 100000 in
theorem xt_ok1 : am_xt.all (fun q => am_at q.2.2.2.2.2.2.2.2 (.stringRef q.1 q.2.2.1 q.2.2.2.2.2.1)) = true := by decide +kernel
set_option maxRecDepth 100000 in
theorem xt_ok2 : am_xt.all (fun q => decide (Cond.exactly (.string q.1 q.2.2.1) "java/lang/String" ∈ flatC (Jvm.Cond.and given_1 narrow_1))) = true := by decide +kernel
theorem cln_4 (k : Nat) : am_cln k = "java/lang/IndexOutOfBoundsException" ∨ am_cln k = "java/lang/IllegalStateException" ∨ am_cln k = "java/lang/IllegalArgumentException" ∨ am_cln k = "java/util/NoSuchElementException" := by
  unfold am_cln
  split
  · exact Or.inl rfl
  · split
    · exact Or.inr (Or.inl rfl)
    · split
      · exact Or.inr (Or.inr (Or.inl rfl))
      · exact Or.inr (Or.inr (Or.inr rfl))
set_option maxRecDepth 100000 in
theorem nc_01 : Cond.not (.castable "java/lang/IndexOutOfBoundsException" "java/lang/IllegalStateException") ∈ flatC (Jvm.Cond.and given_1 narrow_1) := by decide +kernel
set_option maxRecDepth 100000 in
theorem nc_02 : Cond.not (.castable "java/lang/IndexOutOfBoundsException" "java/lang/IllegalArgumentException") ∈ flatC (Jvm.Cond.and given_1 narrow_1) := by decide +kernel
set_option maxRecDepth 100000 in
theorem nc_03 : Cond.not (.castable "java/lang/IndexOutOfBoundsException" "java/util/NoSuchElementException") ∈ flatC (Jvm.Cond.and given_1 narrow_1) := by decide +kernel
set_option maxRecDepth 100000 in
theorem nc_10 : Cond.not (.castable "java/lang/IllegalStateException" "java/lang/IndexOutOfBoundsException") ∈ flatC (Jvm.Cond.and given_1 narrow_1) := by decide +kernel
set_option maxRecDepth 100000 in
theorem nc_12 : Cond.not (.castable "java/lang/IllegalStateException" "java/lang/IllegalArgumentException") ∈ flatC (Jvm.Cond.and given_1 narrow_1) := by decide +kernel
set_option maxRecDepth 100000 in
theorem nc_13 : Cond.not (.castable "java/lang/IllegalStateException" "java/util/NoSuchElementException") ∈ flatC (Jvm.Cond.and given_1 narrow_1) := by decide +kernel
set_option maxRecDepth 100000 in
theorem nc_20 : Cond.not (.castable "java/lang/IllegalArgumentException" "java/lang/IndexOutOfBoundsException") ∈ flatC (Jvm.Cond.and given_1 narrow_1) := by decide +kernel
set_option maxRecDepth 100000 in
theorem nc_21 : Cond.not (.castable "java/lang/IllegalArgumentException" "java/lang/IllegalStateException") ∈ flatC (Jvm.Cond.and given_1 narrow_1) := by decide +kernel
set_option maxRecDepth 100000 in
theorem nc_23 : Cond.not (.castable "java/lang/IllegalArgumentException" "java/util/NoSuchElementException") ∈ flatC (Jvm.Cond.and given_1 narrow_1) := by decide +kernel
set_option maxRecDepth 100000 in
theorem nc_30 : Cond.not (.castable "java/util/NoSuchElementException" "java/lang/IndexOutOfBoundsException") ∈ flatC (Jvm.Cond.and given_1 narrow_1) := by decide +kernel
set_option maxRecDepth 100000 in
theorem nc_31 : Cond.not (.castable "java/util/NoSuchElementException" "java/lang/IllegalStateException") ∈ flatC (Jvm.Cond.and given_1 narrow_1) := by decide +kernel
set_option maxRecDepth 100000 in
theorem nc_32 : Cond.not (.castable "java/util/NoSuchElementException" "java/lang/IllegalArgumentException") ∈ flatC (Jvm.Cond.and given_1 narrow_1) := by decide +kernel
theorem st_Zw (hts : ∀ w ∈ lw_tbl, w.before args s = true) (hg : (Jvm.Cond.and given_1 narrow_1).before args s = true) : am_Zw s := by
  have hs := flat_of_before _ hg
  refine ⟨fun w hw => va_Nw.of (am_nw_tab (am_NW_nw hw)) (hts w (List.mem_filter.mp hw).1), fun q hq => ?_, fun j k hne => ?_⟩
  · have h1 := hts _ (am_at_mem (List.all_eq_true.mp xt_ok1 q hq))
    have h2 := hs _ (of_decide_eq_true (List.all_eq_true.mp xt_ok2 q hq))
    obtain ⟨a, c, cell, k, e1, -⟩ := Cond.exactly_spec h2
    exact ⟨a, vk_R.of h1 e1⟩
  · rcases cln_4 j with e1 | e1 | e1 | e1 <;> rcases cln_4 k with e2 | e2 | e2 | e2 <;> rw [e1, e2] at hne ⊢
    · exact absurd rfl hne
    · exact va_Nc.of (hs _ nc_01)
    · exact va_Nc.of (hs _ nc_02)
    · exact va_Nc.of (hs _ nc_03)
    · exact va_Nc.of (hs _ nc_10)
    · exact absurd rfl hne
    · exact va_Nc.of (hs _ nc_12)
    · exact va_Nc.of (hs _ nc_13)
    · exact va_Nc.of (hs _ nc_20)
    · exact va_Nc.of (hs _ nc_21)
    · exact absurd rfl hne
    · exact va_Nc.of (hs _ nc_23)
    · exact va_Nc.of (hs _ nc_30)
    · exact va_Nc.of (hs _ nc_31)
    · exact va_Nc.of (hs _ nc_32)
    · exact absurd rfl hne
set_option maxRecDepth 100000 in
theorem gv_a : Cond.arrayOf (.static "KeyArchive" "LEVEL_STARTS" "[I") .int ∈ flatC (Jvm.Cond.and given_1 narrow_1) := by decide +kernel
set_option maxRecDepth 100000 in
theorem gv_l : Cond.eq (.length (.static "KeyArchive" "LEVEL_STARTS" "[I")) (.int 5) ∈ flatC (Jvm.Cond.and given_1 narrow_1) := by decide +kernel
set_option maxRecDepth 100000 in
theorem gv_0 : Cond.eq (.elem (.static "KeyArchive" "LEVEL_STARTS" "[I") (.int 0)) (.int 0) ∈ flatC (Jvm.Cond.and given_1 narrow_1) := by decide +kernel
set_option maxRecDepth 100000 in
theorem gv_1 : Cond.eq (.elem (.static "KeyArchive" "LEVEL_STARTS" "[I") (.int 1)) (.int 1) ∈ flatC (Jvm.Cond.and given_1 narrow_1) := by decide +kernel
set_option maxRecDepth 100000 in
theorem gv_2 : Cond.eq (.elem (.static "KeyArchive" "LEVEL_STARTS" "[I") (.int 2)) (.int 5) ∈ flatC (Jvm.Cond.and given_1 narrow_1) := by decide +kernel
set_option maxRecDepth 100000 in
theorem gv_3 : Cond.eq (.elem (.static "KeyArchive" "LEVEL_STARTS" "[I") (.int 3)) (.int 21) ∈ flatC (Jvm.Cond.and given_1 narrow_1) := by decide +kernel
set_option maxRecDepth 100000 in
theorem gv_4 : Cond.eq (.elem (.static "KeyArchive" "LEVEL_STARTS" "[I") (.int 4)) (.int 85) ∈ flatC (Jvm.Cond.and given_1 narrow_1) := by decide +kernel
set_option maxRecDepth 100000 in
theorem gv_u : Cond.isRef (.static Bundle.tN "UNASSIGNED_STACK" Bundle.steD) ∈ flatC (Jvm.Cond.and given_1 narrow_1) := by decide +kernel
set_option maxRecDepth 100000 in
theorem gv_s : Cond.isRef (.static Bundle.tN "SUPPRESSED_SENTINEL" Bundle.listD) ∈ flatC (Jvm.Cond.and given_1 narrow_1) := by decide +kernel
theorem st_Zo (hts : ∀ w ∈ lw_tbl, w.before args s = true) (hg : (Jvm.Cond.and given_1 narrow_1).before args s = true) {A : Nat → Prop} (hA : ∀ a : Nat, a < s.heap.size → ¬ A a) : ∃ t : Nat, ∀ ad : Nat → Nat, ad 1000 = t → am_Zo ad A s := by
  have hs := flat_of_before _ hg
  obtain ⟨t, e1, e2⟩ := va_Tof (N := 5) (tm := (.static "KeyArchive" "LEVEL_STARTS" "[I")) (ty := .int) (f := fun j => .int (am_lst.getD j 0)) (by decide) (hs _ gv_a) (va_eqt (hs _ gv_l)) (fun j hj => by
    rcases (show j = 0 ∨ j = 1 ∨ j = 2 ∨ j = 3 ∨ j = 4 by omega) with rfl | rfl | rfl | rfl | rfl
    · exact va_eqt (hs _ gv_0)
    · exact va_eqt (hs _ gv_1)
    · exact va_eqt (hs _ gv_2)
    · exact va_eqt (hs _ gv_3)
    · exact va_eqt (hs _ gv_4)) hA
  refine ⟨t, fun ad had => ?_⟩
  unfold am_Zo
  rw [had]
  exact ⟨va_Zof (hts _ zds_0) (hts _ (List.mem_filter.mp zdi_9).1) e1 hA, e2⟩
theorem st_Zt (hts : ∀ w ∈ lw_tbl, w.before args s = true) (hg : (Jvm.Cond.and given_1 narrow_1).before args s = true) {A : Nat → Prop} (hA : ∀ a : Nat, a < s.heap.size → ¬ A a) : am_Zt A s s.heap := by
  have hs := flat_of_before _ hg
  exact ⟨vx_Zqof (hts _ zds_1) (hts _ (List.mem_filter.mp zdi_t).1) (hs _ gv_u) hA, vx_Zqof (hts _ zds_2) (hts _ (List.mem_filter.mp zdi_t).1) (hs _ gv_s) hA⟩
theorem st_Kn (hts : ∀ w ∈ am_G, w.before args s = true) (c0 : ClassId) : ∀ k : Nat, ∃ cd : ClassId × (Nat → Nat), ∀ q : vw_C, vwCl[k]? = some q → u_Kn s q.1 q.2.1 q.2.2 cd.1 cd.2
  | 0 => by
    obtain ⟨c, i, h⟩ := u_known (C := RX0) (T := TX0) (N := 6) (n := 6) hts (am_cls (ci := 0) rfl) (hts _ zdq_0)
    exact ⟨(c, i), fun q hq => by cases hq; exact h⟩
  | 1 => by
    obtain ⟨c, i, h⟩ := u_known (C := RX1) (T := TX1) (N := 5) (n := 5) hts (am_cls (ci := 1) rfl) (hts _ zdq_1)
    exact ⟨(c, i), fun q hq => by cases hq; exact h⟩
  | 2 => by
    obtain ⟨c, i, h⟩ := u_known (C := RX2) (T := TX2) (N := 2) (n := 2) hts (am_cls (ci := 2) rfl) (hts _ zdq_2)
    exact ⟨(c, i), fun q hq => by cases hq; exact h⟩
  | 3 => by
    obtain ⟨c, i, h⟩ := u_known (C := RX3) (T := TX3) (N := 3) (n := 3) hts (am_cls (ci := 3) rfl) (hts _ zdq_3)
    exact ⟨(c, i), fun q hq => by cases hq; exact h⟩
  | 4 => by
    obtain ⟨c, i, h⟩ := u_known (C := RX4) (T := TX4) (N := 6) (n := 6) hts (am_cls (ci := 4) rfl) (hts _ zdq_4)
    exact ⟨(c, i), fun q hq => by cases hq; exact h⟩
  | 5 => by
    obtain ⟨c, i, h⟩ := u_known (C := RX5) (T := TX5) (N := 4) (n := 4) hts (am_cls (ci := 5) rfl) (hts _ zdq_5)
    exact ⟨(c, i), fun q hq => by cases hq; exact h⟩
  | 6 => by
    obtain ⟨c, i, h⟩ := u_known (C := RX6) (T := TX6) (N := 3) (n := 3) hts (am_cls (ci := 6) rfl) (hts _ zdq_6)
    exact ⟨(c, i), fun q hq => by cases hq; exact h⟩
  | 7 => by
    obtain ⟨c, i, h⟩ := u_known (C := RX7) (T := TX7) (N := 5) (n := 5) hts (am_cls (ci := 7) rfl) (hts _ zdq_7)
    exact ⟨(c, i), fun q hq => by cases hq; exact h⟩
  | 8 => by
    obtain ⟨c, i, h⟩ := u_known (C := RX8) (T := TX8) (N := 6) (n := 6) hts (am_cls (ci := 8) rfl) (hts _ zdq_8)
    exact ⟨(c, i), fun q hq => by cases hq; exact h⟩
  | 9 => by
    obtain ⟨c, i, h⟩ := u_known (C := RX9) (T := TX9) (N := 13) (n := 13) hts (am_cls (ci := 9) rfl) (hts _ zdq_9)
    exact ⟨(c, i), fun q hq => by cases hq; exact h⟩
  | 10 => by
    obtain ⟨c, i, h⟩ := u_known (C := RX10) (T := TX10) (N := 29) (n := 29) hts (am_cls (ci := 10) rfl) (hts _ zdq_10)
    exact ⟨(c, i), fun q hq => by cases hq; exact h⟩
  | k + 11 => ⟨(c0, fun _ => 0), fun q hq => by simp at hq⟩
theorem st_Ar (hts : ∀ w ∈ am_G, w.before args s = true) {ty : FieldType} (h : Cond.arrayClass ty ∈ am_G) : ∃ c : ClassId, ArrOfT s c ty ∧ s.vm.findClass ("[" ++ ty.toString) = some c := by
  obtain ⟨c, k, comp, e1, e2, e3⟩ := Cond.arrayClass_spec (hts _ h)
  exact ⟨c, fun n z => ⟨fun k h => (by cases h), k, e2, comp, e3⟩, e1⟩
theorem st_K (hts : ∀ w ∈ am_G, w.before args s = true) (c0 : ClassId) : ∃ (D : va_G) (cA : Nat → ClassId), va_K D vwCl (am_tys cA) s := by
  obtain ⟨f, hf⟩ := Classical.axiomOfChoice (st_Kn hts c0)
  obtain ⟨a0, h0, g0⟩ := st_Ar hts cw_ai
  obtain ⟨a1, h1, g1⟩ := st_Ar hts cw_az
  obtain ⟨a2, h2, g2⟩ := st_Ar hts cw_aj
  refine ⟨(fun k => (f k).1, fun k => (f k).2), fun t => if t = 0 then a0 else if t = 1 then a1 else a2, fun k q hq => hf k q hq, fun k q hq => ?_⟩
  match k, hq with
  | 0, hq => cases hq; exact ⟨h0, g0⟩
  | 1, hq => cases hq; exact ⟨h1, g1⟩
  | 2, hq => cases hq; exact ⟨h2, g2⟩
  | k + 3, hq => simp [am_tys] at hq
/-- the law's own end -/
theorem nx_ret {X : am_X} {C : am_C} {M : am_Mt} {pc : Nat} {lv st : List Value} {σ σ' : am_M} {v : Int32} (h : am_nxt X C M pc lv st σ = some (.inl (.inl (some (.int v)), σ'))) : decode M.2.1 pc = .ok (.ireturn, 1) ∧ st = [.int v] := by
  have inv : ∀ (kd : Bool) (k : Nat), am_inv kd C M k pc lv st σ = some (.inl (.inl (some (.int v)), σ')) → False := by
    intro kd k h
    obtain ⟨z, N, as, rest, hz, hN, hk, hst, hlen, hcat, hrecv, h9⟩ := am_inv_spec h
    unfold am_aft at h9
    split at h9
    · cases h9
    · obtain ⟨-, h9⟩ := Option.ite_none_right_eq_some.mp h9
      cases h9
    · split at h9
      · cases h9
      · unfold am_exc at h9
        split at h9
        · cases h9
        · split at h9
          · cases h9
          · split at h9
            · split at h9 <;> cases h9
            · split at h9 <;> cases h9
            · cases h9
  have new : ∀ (ik is ic : Nat), am_new M ik is ic st σ = some (.inl (.inl (some (.int v)), σ')) → False := by
    intro ik is ic h
    unfold am_new at h
    split at h
    · obtain ⟨-, h⟩ := Option.ite_none_right_eq_some.mp h
      split at h <;> cases h
    · cases h
  unfold am_nxt at h
  split at h
  · cases h
  · rename_i i len hd
    split at h
    · cases h
    · split at h
      · cases h
      · split at h
        · cases h
        · split at h
          · cases h
          · unfold am_fE at h
            split at h
            · exact (inv _ _ h).elim
            · exact (inv _ _ h).elim
            · split at h
              · obtain ⟨hr, h⟩ := Option.ite_none_right_eq_some.mp h
                cases h
                exact ⟨hd, rfl⟩
              · cases h
            · split at h
              · obtain ⟨-, h⟩ := Option.ite_none_right_eq_some.mp h
                cases h
              · cases h
            · split at h
              · obtain ⟨-, h⟩ := Option.ite_none_right_eq_some.mp h
                cases h
              · cases h
            · obtain ⟨d3, h⟩ := Option.ite_none_right_eq_some.mp h
              split at h
              · split at h
                · obtain ⟨d9, h⟩ := Option.ite_none_right_eq_some.mp h
                  exact (new _ _ _ h).elim
                · cases h
              · split at h
                · obtain ⟨d9, h⟩ := Option.ite_none_right_eq_some.mp h
                  exact (new _ _ _ h).elim
                · cases h
              · cases h
            · cases h
/-- memory at the law's loop -/
abbrev am_ZC : am_M := bgC am_Z0 (nI 0)
theorem zc_z : ∀ i, 34 ≤ i → am_ZC.1 i = (fun _ => 0) ∧ am_ZC.2.1 i = (fun _ => 0) := by
  intro i hi
  refine ⟨?_, ?_⟩
  · have h : ∀ a, a < 34 → i ≠ a := fun a ha => by omega
    have hr : ∀ (τ : am_M) (kc p : Nat), (rnw τ kc p).1 i = τ.1 i := fun τ kc p => rnw_o τ kc p ⟨h 16 (by decide), h 13 (by decide), h 1 (by decide)⟩
    simp only [bgC, s_rd, hr, h 0 (by decide), h 1 (by decide), h 2 (by decide), h 3 (by decide), h 4 (by decide), h 10 (by decide), h 11 (by decide), h 12 (by decide), h 13 (by decide), h 16 (by decide), h 17 (by decide), h 18 (by decide), h 19 (by decide), h 20 (by decide), h 21 (by decide), h 32 (by decide), if_false]
    rfl
  · simp +decide only [bgC, s_J, rnw_J]
    rfl
theorem bgM_2 (σ : am_M) (s : Int32) : (bgM σ s).2 = σ.2 := rfl
theorem zm_57 : (bgM am_ZC (nI 0)).2.1 57 = fun _ => 0 := by
  rw [bgM_2]
  exact (zc_z 57 (by decide)).2
theorem zm_k : (bgM am_ZC (nI 0)).2.2 = 0 := by
  rw [bgM_2, (bg_M (σ := am_Z0) (nI 0)).2.2.2.2]
  rfl
theorem st_inv : IvE 0 (bgM am_ZC (nI 0)) := by
  have hm := bg_M (σ := am_Z0) (nI 0)
  have e := y174 0 am_ZC (nI 0)
  obtain ⟨Y', e1, _, e3⟩ := frM_run (Z := am_ZC) (B := am_ZC) (by decide) (okM2 (nI 0)) (hy_self aM am_ZC) e
  rw [e] at e1
  cases e1
  have h := bg_inv (σ := am_Z0) (W := am_ZC) (nI 0) (hm.1 46 (by decide) (by decide) (by decide)) (hm.1 47 (by decide) (by decide) (by decide)) (hm.1 48 (by decide) (by decide) (by decide)) (hm.1 51 (by decide) (by decide) (by decide)) (hm.1 53 (by decide) (by decide) (by decide)) hm.2.2.2.1 (hm.1 35 (by decide) (by decide) (by decide)) (hm.1 37 (by decide) (by decide) (by decide)) (hm.1 38 (by decide) (by decide) (by decide)) (hm.1 41 (by decide) (by decide) (by decide)) (hm.1 54 (by decide) (by decide) (by decide))
  have e4 : hy aM (bgC am_Z0 (nI 0)) (bgM am_ZC (nI 0)) = bgM am_ZC (nI 0) := e3
  rw [e4] at h
  exact ⟨1, 1, 0, 0, _, _, h⟩
end ENT
theorem df_9 : ∀ j : Nat, j < 13 → defaultValue (tyX9 j) = vp_V [.null, .null, .null, .null, .null, .null, .null, .null, .null, .null, .null, .null, .int 0] j
  | 0, _ => rfl
  | 1, _ => rfl
  | 2, _ => rfl
  | 3, _ => rfl
  | 4, _ => rfl
  | 5, _ => rfl
  | 6, _ => rfl
  | 7, _ => rfl
  | 8, _ => rfl
  | 9, _ => rfl
  | 10, _ => rfl
  | 11, _ => rfl
  | 12, _ => rfl
  | j + 13, h => absurd h (by omega)
theorem df_10 : ∀ j : Nat, j < 29 → defaultValue (tyX10 j) = vp_V [.null, .null, .null, .null, .null, .null, .null, .null, .null, .null, .null, .null, .null, .null, .null, .null, .null, .null, .null, .null, .int 0, .int 0, .int 0, .int 0, .int 0, .int 0, .null, .int 0, .null] j
  | 0, _ => rfl
  | 1, _ => rfl
  | 2, _ => rfl
  | 3, _ => rfl
  | 4, _ => rfl
  | 5, _ => rfl
  | 6, _ => rfl
  | 7, _ => rfl
  | 8, _ => rfl
  | 9, _ => rfl
  | 10, _ => rfl
  | 11, _ => rfl
  | 12, _ => rfl
  | 13, _ => rfl
  | 14, _ => rfl
  | 15, _ => rfl
  | 16, _ => rfl
  | 17, _ => rfl
  | 18, _ => rfl
  | 19, _ => rfl
  | 20, _ => rfl
  | 21, _ => rfl
  | 22, _ => rfl
  | 23, _ => rfl
  | 24, _ => rfl
  | 25, _ => rfl
  | 26, _ => rfl
  | 27, _ => rfl
  | 28, _ => rfl
  | j + 29, h => absurd h (by omega)
