/-! constructors of the inner classes -/
section INR
theorem zco_inst : Cond.instanceMethod Lib.objectInit ∈ am_G := am_G_mem (am_at_mem (p := 1028) (by decide +kernel)) rfl
theorem zco_code : Cond.code Lib.objectInit ⟨#[0xb1]⟩ 1 none ∈ am_G := am_G_mem (am_at_mem (p := 1029) (by decide +kernel)) rfl
theorem zco_0 : Cond.methodLink RX0 3 Lib.objectInit ∈ am_G := am_G_mem (am_at_mem (p := 1142) (by decide +kernel)) rfl
theorem zcf_0_11 : Cond.fieldLink RX0 11 RX0 (TX0 4).2.1 (TX0 4).2.2.1 ∈ am_G := am_G_mem (am_at_mem (p := 1147) (by decide +kernel)) rfl
theorem zcf_0_15 : Cond.fieldLink RX0 15 RX0 (TX0 5).2.1 (TX0 5).2.2.1 ∈ am_G := am_G_mem (am_at_mem (p := 1148) (by decide +kernel)) rfl
theorem zcf_0_18 : Cond.fieldLink RX0 18 RX0 (TX0 0).2.1 (TX0 0).2.2.1 ∈ am_G := am_G_mem (am_at_mem (p := 1143) (by decide +kernel)) rfl
theorem zcf_0_22 : Cond.fieldLink RX0 22 RX0 (TX0 1).2.1 (TX0 1).2.2.1 ∈ am_G := am_G_mem (am_at_mem (p := 1144) (by decide +kernel)) rfl
theorem zcf_0_26 : Cond.fieldLink RX0 26 RX0 (TX0 2).2.1 (TX0 2).2.2.1 ∈ am_G := am_G_mem (am_at_mem (p := 1145) (by decide +kernel)) rfl
theorem zcf_0_30 : Cond.fieldLink RX0 30 RX0 (TX0 3).2.1 (TX0 3).2.2.1 ∈ am_G := am_G_mem (am_at_mem (p := 1146) (by decide +kernel)) rfl
theorem zco_1 : Cond.methodLink RX1 3 Lib.objectInit ∈ am_G := am_G_mem (am_at_mem (p := 1167) (by decide +kernel)) rfl
theorem zcf_1_9 : Cond.fieldLink RX1 9 RX1 (TX1 2).2.1 (TX1 2).2.2.1 ∈ am_G := am_G_mem (am_at_mem (p := 1170) (by decide +kernel)) rfl
theorem zcf_1_15 : Cond.fieldLink RX1 15 RX1 (TX1 3).2.1 (TX1 3).2.2.1 ∈ am_G := am_G_mem (am_at_mem (p := 1171) (by decide +kernel)) rfl
theorem zcf_1_18 : Cond.fieldLink RX1 18 RX1 (TX1 0).2.1 (TX1 0).2.2.1 ∈ am_G := am_G_mem (am_at_mem (p := 1168) (by decide +kernel)) rfl
theorem zcf_1_22 : Cond.fieldLink RX1 22 RX1 (TX1 1).2.1 (TX1 1).2.2.1 ∈ am_G := am_G_mem (am_at_mem (p := 1169) (by decide +kernel)) rfl
theorem zco_2 : Cond.methodLink RX2 3 Lib.objectInit ∈ am_G := am_G_mem (am_at_mem (p := 1189) (by decide +kernel)) rfl
theorem zcf_2_9 : Cond.fieldLink RX2 9 RX2 (TX2 1).2.1 (TX2 1).2.2.1 ∈ am_G := am_G_mem (am_at_mem (p := 1191) (by decide +kernel)) rfl
theorem zcf_2_15 : Cond.fieldLink RX2 15 RX2 (TX2 0).2.1 (TX2 0).2.2.1 ∈ am_G := am_G_mem (am_at_mem (p := 1190) (by decide +kernel)) rfl
theorem zco_3 : Cond.methodLink RX3 3 Lib.objectInit ∈ am_G := am_G_mem (am_at_mem (p := 1035) (by decide +kernel)) rfl
theorem zcf_3_9 : Cond.fieldLink RX3 9 RX3 (TX3 0).2.1 (TX3 0).2.2.1 ∈ am_G := am_G_mem (am_at_mem (p := 1036) (by decide +kernel)) rfl
theorem zco_4 : Cond.methodLink RX4 3 Lib.objectInit ∈ am_G := am_G_mem (am_at_mem (p := 1095) (by decide +kernel)) rfl
theorem zcf_4_9 : Cond.fieldLink RX4 9 RX4 (TX4 0).2.1 (TX4 0).2.2.1 ∈ am_G := am_G_mem (am_at_mem (p := 1096) (by decide +kernel)) rfl
theorem zcf_4_15 : Cond.fieldLink RX4 15 RX4 (TX4 1).2.1 (TX4 1).2.2.1 ∈ am_G := am_G_mem (am_at_mem (p := 1097) (by decide +kernel)) rfl
theorem zcf_4_18 : Cond.fieldLink RX4 18 RX4 (TX4 2).2.1 (TX4 2).2.2.1 ∈ am_G := am_G_mem (am_at_mem (p := 1098) (by decide +kernel)) rfl
theorem zcf_4_21 : Cond.fieldLink RX4 21 RX4 (TX4 3).2.1 (TX4 3).2.2.1 ∈ am_G := am_G_mem (am_at_mem (p := 1099) (by decide +kernel)) rfl
theorem zcf_4_24 : Cond.fieldLink RX4 24 RX4 (TX4 4).2.1 (TX4 4).2.2.1 ∈ am_G := am_G_mem (am_at_mem (p := 1100) (by decide +kernel)) rfl
theorem zco_5 : Cond.methodLink RX5 3 Lib.objectInit ∈ am_G := am_G_mem (am_at_mem (p := 1202) (by decide +kernel)) rfl
theorem zcf_5_9 : Cond.fieldLink RX5 9 RX5 (TX5 2).2.1 (TX5 2).2.2.1 ∈ am_G := am_G_mem (am_at_mem (p := 1205) (by decide +kernel)) rfl
theorem zcf_5_15 : Cond.fieldLink RX5 15 RX5 (TX5 3).2.1 (TX5 3).2.2.1 ∈ am_G := am_G_mem (am_at_mem (p := 1206) (by decide +kernel)) rfl
theorem zcf_5_18 : Cond.fieldLink RX5 18 RX5 (TX5 0).2.1 (TX5 0).2.2.1 ∈ am_G := am_G_mem (am_at_mem (p := 1203) (by decide +kernel)) rfl
theorem zcf_5_22 : Cond.fieldLink RX5 22 RX5 (TX5 1).2.1 (TX5 1).2.2.1 ∈ am_G := am_G_mem (am_at_mem (p := 1204) (by decide +kernel)) rfl
theorem zco_6 : Cond.methodLink RX6 3 Lib.objectInit ∈ am_G := am_G_mem (am_at_mem (p := 1052) (by decide +kernel)) rfl
theorem zcf_6_9 : Cond.fieldLink RX6 9 RX6 (TX6 0).2.1 (TX6 0).2.2.1 ∈ am_G := am_G_mem (am_at_mem (p := 1053) (by decide +kernel)) rfl
theorem zcf_6_15 : Cond.fieldLink RX6 15 RX6 (TX6 1).2.1 (TX6 1).2.2.1 ∈ am_G := am_G_mem (am_at_mem (p := 1054) (by decide +kernel)) rfl
theorem zco_7 : Cond.methodLink RX7 3 Lib.objectInit ∈ am_G := am_G_mem (am_at_mem (p := 1120) (by decide +kernel)) rfl
theorem zcf_7_9 : Cond.fieldLink RX7 9 RX7 (TX7 3).2.1 (TX7 3).2.2.1 ∈ am_G := am_G_mem (am_at_mem (p := 1124) (by decide +kernel)) rfl
theorem zcf_7_15 : Cond.fieldLink RX7 15 RX7 (TX7 4).2.1 (TX7 4).2.2.1 ∈ am_G := am_G_mem (am_at_mem (p := 1125) (by decide +kernel)) rfl
theorem zcf_7_19 : Cond.fieldLink RX7 19 RX7 (TX7 0).2.1 (TX7 0).2.2.1 ∈ am_G := am_G_mem (am_at_mem (p := 1121) (by decide +kernel)) rfl
theorem zcf_7_23 : Cond.fieldLink RX7 23 RX7 (TX7 1).2.1 (TX7 1).2.2.1 ∈ am_G := am_G_mem (am_at_mem (p := 1122) (by decide +kernel)) rfl
theorem zcf_7_27 : Cond.fieldLink RX7 27 RX7 (TX7 2).2.1 (TX7 2).2.2.1 ∈ am_G := am_G_mem (am_at_mem (p := 1123) (by decide +kernel)) rfl
theorem zco_8 : Cond.methodLink RX8 3 Lib.objectInit ∈ am_G := am_G_mem (am_at_mem (p := 1069) (by decide +kernel)) rfl
theorem zcf_8_9 : Cond.fieldLink RX8 9 RX8 (TX8 2).2.1 (TX8 2).2.2.1 ∈ am_G := am_G_mem (am_at_mem (p := 1072) (by decide +kernel)) rfl
theorem zcf_8_15 : Cond.fieldLink RX8 15 RX8 (TX8 3).2.1 (TX8 3).2.2.1 ∈ am_G := am_G_mem (am_at_mem (p := 1073) (by decide +kernel)) rfl
theorem zcf_8_18 : Cond.fieldLink RX8 18 RX8 (TX8 4).2.1 (TX8 4).2.2.1 ∈ am_G := am_G_mem (am_at_mem (p := 1074) (by decide +kernel)) rfl
theorem zcf_8_21 : Cond.fieldLink RX8 21 RX8 (TX8 5).2.1 (TX8 5).2.2.1 ∈ am_G := am_G_mem (am_at_mem (p := 1075) (by decide +kernel)) rfl
theorem zcf_8_25 : Cond.fieldLink RX8 25 RX8 (TX8 0).2.1 (TX8 0).2.2.1 ∈ am_G := am_G_mem (am_at_mem (p := 1070) (by decide +kernel)) rfl
theorem zcf_8_29 : Cond.fieldLink RX8 29 RX8 (TX8 1).2.1 (TX8 1).2.2.1 ∈ am_G := am_G_mem (am_at_mem (p := 1071) (by decide +kernel)) rfl
set_option maxHeartbeats 4000000 in
set_option maxRecDepth 100000 in
theorem cn_X0 (l : Launch) (D : va_G) (cA : Nat → ClassId) (A : Nat → Prop) (h0 : Nat) (ws : va_W) (p1 : Nat) (p2 : Nat) (p3 : Nat) (p4 : Nat) : Met l yX0_init (Cond.code yX0_init cX0_init 5 none :: am_G) { frames := 1, cells := 2, slots := 299, locals := 40 } (cnPc D cA A h0 [.ref p1, .ref p2, .ref p3, .ref p4] 0 [.null, .null, .null, .null, .null, .null] ws (fun _ => True)) (cnQc D A (fun W9 => ∃ q1 q2 : Nat, W9 = ((h0, .inr (0, [.ref p1, .ref p2, .ref p3, .ref p4, .ref q1, .ref q2])) :: ((ws ++ [(q1, arE cA 0 149)]) ++ [(q2, arE cA 0 150)])))) 2 299 A := by
  refine Met.ofW (cc := cX0_init) (maxL := 5) (ret := none) (by decide +kernel) rfl ?_
  intro p e s m args below meth c s₁ B hml hv
  obtain ⟨rfl, hP, hK, hD, hA, -⟩ := hv
  have hx := B.exec
  have hb := B.bytes
  have hr := B.returns
  have hts0 := atoms_spec (ws := Cond.code yX0_init cX0_init 5 none :: am_G) B.pre
  have hts : ∀ w ∈ am_G, w.before ([.ref h0, .ref p1, .ref p2, .ref p3, .ref p4] : List Value).toArray s = true := fun w hw => hts0 w (List.mem_cons_of_mem _ hw)
  have hown : s.vm.findClass RX0 = some m.cls := findClass_of_methodNamed B.named
  have hlocks := B.notSynchronized
  have hin : meth.name = "<init>" := (name_of_methodNamed B.named B.method).1
  have hC : cnX p s m ([.ref h0, .ref p1, .ref p2, .ref p3, .ref p4] : List Value).toArray c cX0_init RX0 D cA A := ⟨hx, hb, hown, hts, hK, hA⟩
  have hS : va_S A s.heap s.heap [] := va_S.rf
  have hl := lv_entry ([.ref h0, .ref p1, .ref p2, .ref p3, .ref p4]) (n := 5) (Nat.le_of_ble_eq_true rfl)
  rw [lg_entry_eq]
  generalize (lg_sl ([.ref h0, .ref p1, .ref p2, .ref p3, .ref p4]) ++ List.replicate (5 - (lg_sl ([.ref h0, .ref p1, .ref p2, .ref p3, .ref p4])).length) Slot.unset).toArray = ls at hl ⊢
  have hl : lv_has ls 5 [(0, .ref h0), (1, .ref p1), (2, .ref p2), (3, .ref p3), (4, .ref p4)] := hl
  refine lv_aload_n hx hb dX0_init_0 rfl (lv_at hl 0 rfl) ?_
  refine W.objInit hx hb hown (hts _ zco_0) (hts _ zco_inst) (hts _ zco_code) rfl (by rw [hml]; exact hl.1) rfl dX0_init_1 (Nat.le_of_ble_eq_true rfl) (Nat.le_of_ble_eq_true rfl) ?_
  refine W.eq (g2 := F0 m 4 ls []) rfl ?_
  refine lv_aload_n hx hb dX0_init_4 rfl (lv_at hl 0 rfl) ?_
  refine lv_sipush (v := nI 149) hx hb dX0_init_5 (by decide +kernel) ?_
  refine cn_arrI (N := 149) hC hP hD hS (Nat.le_of_ble_eq_true rfl) (Nat.le_of_ble_eq_true rfl) (Nat.le_of_ble_eq_true rfl) dX0_init_8 (fun q1 H hP hD hS => ?_)
  have hP : va_P D vwCl ((h0, .inr (0, [.null, .null, .null, .null, .null, .null])) :: (ws ++ [(q1, arE cA 0 149)])) H := hP
  have hD : va_D A ((h0, .inr (0, [.null, .null, .null, .null, .null, .null])) :: (ws ++ [(q1, arE cA 0 149)])) := hD
  refine cn_put (T := TX0) (N := 6) (k := 4) (ci := 0) (ty := tyX0 4) hC hin rfl hP hD hS zcf_0_11 (Nat.le_of_ble_eq_true rfl) rfl rfl (tyX0_ok 4 (Nat.le_of_ble_eq_true rfl)) rfl rfl (Nat.le_of_ble_eq_true rfl) dX0_init_10 (fun H locs hP hD hS => ?_)
  have hP : va_P D vwCl ((h0, .inr (0, [.null, .null, .null, .null, .ref q1, .null])) :: (ws ++ [(q1, arE cA 0 149)])) H := hP
  have hD : va_D A ((h0, .inr (0, [.null, .null, .null, .null, .ref q1, .null])) :: (ws ++ [(q1, arE cA 0 149)])) := hD
  refine lv_aload_n hx hb dX0_init_13 rfl (lv_at hl 0 rfl) ?_
  refine lv_sipush (v := nI 150) hx hb dX0_init_14 (by decide +kernel) ?_
  refine cn_arrI (N := 150) hC hP hD hS (Nat.le_of_ble_eq_true rfl) (Nat.le_of_ble_eq_true rfl) (Nat.le_of_ble_eq_true rfl) dX0_init_17 (fun q2 H hP hD hS => ?_)
  have hP : va_P D vwCl ((h0, .inr (0, [.null, .null, .null, .null, .ref q1, .null])) :: ((ws ++ [(q1, arE cA 0 149)]) ++ [(q2, arE cA 0 150)])) H := hP
  have hD : va_D A ((h0, .inr (0, [.null, .null, .null, .null, .ref q1, .null])) :: ((ws ++ [(q1, arE cA 0 149)]) ++ [(q2, arE cA 0 150)])) := hD
  refine cn_put (T := TX0) (N := 6) (k := 5) (ci := 0) (ty := tyX0 5) hC hin rfl hP hD hS zcf_0_15 (Nat.le_of_ble_eq_true rfl) rfl rfl (tyX0_ok 5 (Nat.le_of_ble_eq_true rfl)) rfl rfl (Nat.le_of_ble_eq_true rfl) dX0_init_19 (fun H locs hP hD hS => ?_)
  have hP : va_P D vwCl ((h0, .inr (0, [.null, .null, .null, .null, .ref q1, .ref q2])) :: ((ws ++ [(q1, arE cA 0 149)]) ++ [(q2, arE cA 0 150)])) H := hP
  have hD : va_D A ((h0, .inr (0, [.null, .null, .null, .null, .ref q1, .ref q2])) :: ((ws ++ [(q1, arE cA 0 149)]) ++ [(q2, arE cA 0 150)])) := hD
  refine lv_aload_n hx hb dX0_init_22 rfl (lv_at hl 0 rfl) ?_
  refine lv_aload_n hx hb dX0_init_23 rfl (lv_at hl 1 rfl) ?_
  refine cn_put (T := TX0) (N := 6) (k := 0) (ci := 0) (ty := tyX0 0) hC hin rfl hP hD hS zcf_0_18 (Nat.le_of_ble_eq_true rfl) rfl rfl (tyX0_ok 0 (Nat.le_of_ble_eq_true rfl)) rfl rfl (Nat.le_of_ble_eq_true rfl) dX0_init_24 (fun H locs hP hD hS => ?_)
  have hP : va_P D vwCl ((h0, .inr (0, [.ref p1, .null, .null, .null, .ref q1, .ref q2])) :: ((ws ++ [(q1, arE cA 0 149)]) ++ [(q2, arE cA 0 150)])) H := hP
  have hD : va_D A ((h0, .inr (0, [.ref p1, .null, .null, .null, .ref q1, .ref q2])) :: ((ws ++ [(q1, arE cA 0 149)]) ++ [(q2, arE cA 0 150)])) := hD
  refine lv_aload_n hx hb dX0_init_27 rfl (lv_at hl 0 rfl) ?_
  refine lv_aload_n hx hb dX0_init_28 rfl (lv_at hl 2 rfl) ?_
  refine cn_put (T := TX0) (N := 6) (k := 1) (ci := 0) (ty := tyX0 1) hC hin rfl hP hD hS zcf_0_22 (Nat.le_of_ble_eq_true rfl) rfl rfl (tyX0_ok 1 (Nat.le_of_ble_eq_true rfl)) rfl rfl (Nat.le_of_ble_eq_true rfl) dX0_init_29 (fun H locs hP hD hS => ?_)
  have hP : va_P D vwCl ((h0, .inr (0, [.ref p1, .ref p2, .null, .null, .ref q1, .ref q2])) :: ((ws ++ [(q1, arE cA 0 149)]) ++ [(q2, arE cA 0 150)])) H := hP
  have hD : va_D A ((h0, .inr (0, [.ref p1, .ref p2, .null, .null, .ref q1, .ref q2])) :: ((ws ++ [(q1, arE cA 0 149)]) ++ [(q2, arE cA 0 150)])) := hD
  refine lv_aload_n hx hb dX0_init_32 rfl (lv_at hl 0 rfl) ?_
  refine lv_aload_n hx hb dX0_init_33 rfl (lv_at hl 3 rfl) ?_
  refine cn_put (T := TX0) (N := 6) (k := 2) (ci := 0) (ty := tyX0 2) hC hin rfl hP hD hS zcf_0_26 (Nat.le_of_ble_eq_true rfl) rfl rfl (tyX0_ok 2 (Nat.le_of_ble_eq_true rfl)) rfl rfl (Nat.le_of_ble_eq_true rfl) dX0_init_34 (fun H locs hP hD hS => ?_)
  have hP : va_P D vwCl ((h0, .inr (0, [.ref p1, .ref p2, .ref p3, .null, .ref q1, .ref q2])) :: ((ws ++ [(q1, arE cA 0 149)]) ++ [(q2, arE cA 0 150)])) H := hP
  have hD : va_D A ((h0, .inr (0, [.ref p1, .ref p2, .ref p3, .null, .ref q1, .ref q2])) :: ((ws ++ [(q1, arE cA 0 149)]) ++ [(q2, arE cA 0 150)])) := hD
  refine lv_aload_n hx hb dX0_init_37 rfl (lv_at hl 0 rfl) ?_
  refine lv_aload hx hb dX0_init_38 (lv_at hl 4 rfl) ?_
  refine cn_put (T := TX0) (N := 6) (k := 3) (ci := 0) (ty := tyX0 3) hC hin rfl hP hD hS zcf_0_30 (Nat.le_of_ble_eq_true rfl) rfl rfl (tyX0_ok 3 (Nat.le_of_ble_eq_true rfl)) rfl rfl (Nat.le_of_ble_eq_true rfl) dX0_init_40 (fun H locs hP hD hS => ?_)
  have hP : va_P D vwCl ((h0, .inr (0, [.ref p1, .ref p2, .ref p3, .ref p4, .ref q1, .ref q2])) :: ((ws ++ [(q1, arE cA 0 149)]) ++ [(q2, arE cA 0 150)])) H := hP
  have hD : va_D A ((h0, .inr (0, [.ref p1, .ref p2, .ref p3, .ref p4, .ref q1, .ref q2])) :: ((ws ++ [(q1, arE cA 0 149)]) ++ [(q2, arE cA 0 150)])) := hD
  refine W.widen (k := 2) (n := 299) (Nat.le_of_ble_eq_true rfl) (Nat.le_of_ble_eq_true rfl) ?_
  exact W.vret hx hb hr (fun t ht hW => ⟨rfl, ⟨_, ⟨q1, q2, rfl⟩, by rw [ht]; exact hP, hD⟩, hS.F ht⟩) hS.2.2 dX0_init_43
set_option maxHeartbeats 4000000 in
set_option maxRecDepth 100000 in
theorem cn_X1 (l : Launch) (D : va_G) (cA : Nat → ClassId) (A : Nat → Prop) (h0 : Nat) (ws : va_W) (p1 : Nat) (p2 : Nat) : Met l yX1_init (Cond.code yX1_init cX1_init 3 none :: am_G) { frames := 1, cells := 2, slots := 170, locals := 40 } (cnPc D cA A h0 [.ref p1, .ref p2] 1 [.null, .null, .null, .null, .int 0] ws (fun _ => True)) (cnQc D A (fun W9 => ∃ q1 q2 : Nat, W9 = ((h0, .inr (1, [.ref p1, .ref p2, .ref q1, .ref q2, .int 0])) :: ((ws ++ [(q1, arE cA 1 85)]) ++ [(q2, arE cA 1 85)])))) 2 170 A := by
  refine Met.ofW (cc := cX1_init) (maxL := 3) (ret := none) (by decide +kernel) rfl ?_
  intro p e s m args below meth c s₁ B hml hv
  obtain ⟨rfl, hP, hK, hD, hA, -⟩ := hv
  have hx := B.exec
  have hb := B.bytes
  have hr := B.returns
  have hts0 := atoms_spec (ws := Cond.code yX1_init cX1_init 3 none :: am_G) B.pre
  have hts : ∀ w ∈ am_G, w.before ([.ref h0, .ref p1, .ref p2] : List Value).toArray s = true := fun w hw => hts0 w (List.mem_cons_of_mem _ hw)
  have hown : s.vm.findClass RX1 = some m.cls := findClass_of_methodNamed B.named
  have hlocks := B.notSynchronized
  have hin : meth.name = "<init>" := (name_of_methodNamed B.named B.method).1
  have hC : cnX p s m ([.ref h0, .ref p1, .ref p2] : List Value).toArray c cX1_init RX1 D cA A := ⟨hx, hb, hown, hts, hK, hA⟩
  have hS : va_S A s.heap s.heap [] := va_S.rf
  have hl := lv_entry ([.ref h0, .ref p1, .ref p2]) (n := 3) (Nat.le_of_ble_eq_true rfl)
  rw [lg_entry_eq]
  generalize (lg_sl ([.ref h0, .ref p1, .ref p2]) ++ List.replicate (3 - (lg_sl ([.ref h0, .ref p1, .ref p2])).length) Slot.unset).toArray = ls at hl ⊢
  have hl : lv_has ls 3 [(0, .ref h0), (1, .ref p1), (2, .ref p2)] := hl
  refine lv_aload_n hx hb dX1_init_0 rfl (lv_at hl 0 rfl) ?_
  refine W.objInit hx hb hown (hts _ zco_1) (hts _ zco_inst) (hts _ zco_code) rfl (by rw [hml]; exact hl.1) rfl dX1_init_1 (Nat.le_of_ble_eq_true rfl) (Nat.le_of_ble_eq_true rfl) ?_
  refine W.eq (g2 := F0 m 4 ls []) rfl ?_
  refine lv_aload_n hx hb dX1_init_4 rfl (lv_at hl 0 rfl) ?_
  refine lv_bipush (v := nI 85) hx hb dX1_init_5 (by decide +kernel) ?_
  refine cn_arrZ (N := 85) hC hP hD hS (Nat.le_of_ble_eq_true rfl) (Nat.le_of_ble_eq_true rfl) (Nat.le_of_ble_eq_true rfl) dX1_init_7 (fun q1 H hP hD hS => ?_)
  have hP : va_P D vwCl ((h0, .inr (1, [.null, .null, .null, .null, .int 0])) :: (ws ++ [(q1, arE cA 1 85)])) H := hP
  have hD : va_D A ((h0, .inr (1, [.null, .null, .null, .null, .int 0])) :: (ws ++ [(q1, arE cA 1 85)])) := hD
  refine cn_put (T := TX1) (N := 5) (k := 2) (ci := 1) (ty := tyX1 2) hC hin rfl hP hD hS zcf_1_9 (Nat.le_of_ble_eq_true rfl) rfl rfl (tyX1_ok 2 (Nat.le_of_ble_eq_true rfl)) rfl rfl (Nat.le_of_ble_eq_true rfl) dX1_init_9 (fun H locs hP hD hS => ?_)
  have hP : va_P D vwCl ((h0, .inr (1, [.null, .null, .ref q1, .null, .int 0])) :: (ws ++ [(q1, arE cA 1 85)])) H := hP
  have hD : va_D A ((h0, .inr (1, [.null, .null, .ref q1, .null, .int 0])) :: (ws ++ [(q1, arE cA 1 85)])) := hD
  refine lv_aload_n hx hb dX1_init_12 rfl (lv_at hl 0 rfl) ?_
  refine lv_bipush (v := nI 85) hx hb dX1_init_13 (by decide +kernel) ?_
  refine cn_arrZ (N := 85) hC hP hD hS (Nat.le_of_ble_eq_true rfl) (Nat.le_of_ble_eq_true rfl) (Nat.le_of_ble_eq_true rfl) dX1_init_15 (fun q2 H hP hD hS => ?_)
  have hP : va_P D vwCl ((h0, .inr (1, [.null, .null, .ref q1, .null, .int 0])) :: ((ws ++ [(q1, arE cA 1 85)]) ++ [(q2, arE cA 1 85)])) H := hP
  have hD : va_D A ((h0, .inr (1, [.null, .null, .ref q1, .null, .int 0])) :: ((ws ++ [(q1, arE cA 1 85)]) ++ [(q2, arE cA 1 85)])) := hD
  refine cn_put (T := TX1) (N := 5) (k := 3) (ci := 1) (ty := tyX1 3) hC hin rfl hP hD hS zcf_1_15 (Nat.le_of_ble_eq_true rfl) rfl rfl (tyX1_ok 3 (Nat.le_of_ble_eq_true rfl)) rfl rfl (Nat.le_of_ble_eq_true rfl) dX1_init_17 (fun H locs hP hD hS => ?_)
  have hP : va_P D vwCl ((h0, .inr (1, [.null, .null, .ref q1, .ref q2, .int 0])) :: ((ws ++ [(q1, arE cA 1 85)]) ++ [(q2, arE cA 1 85)])) H := hP
  have hD : va_D A ((h0, .inr (1, [.null, .null, .ref q1, .ref q2, .int 0])) :: ((ws ++ [(q1, arE cA 1 85)]) ++ [(q2, arE cA 1 85)])) := hD
  refine lv_aload_n hx hb dX1_init_20 rfl (lv_at hl 0 rfl) ?_
  refine lv_aload_n hx hb dX1_init_21 rfl (lv_at hl 1 rfl) ?_
  refine cn_put (T := TX1) (N := 5) (k := 0) (ci := 1) (ty := tyX1 0) hC hin rfl hP hD hS zcf_1_18 (Nat.le_of_ble_eq_true rfl) rfl rfl (tyX1_ok 0 (Nat.le_of_ble_eq_true rfl)) rfl rfl (Nat.le_of_ble_eq_true rfl) dX1_init_22 (fun H locs hP hD hS => ?_)
  have hP : va_P D vwCl ((h0, .inr (1, [.ref p1, .null, .ref q1, .ref q2, .int 0])) :: ((ws ++ [(q1, arE cA 1 85)]) ++ [(q2, arE cA 1 85)])) H := hP
  have hD : va_D A ((h0, .inr (1, [.ref p1, .null, .ref q1, .ref q2, .int 0])) :: ((ws ++ [(q1, arE cA 1 85)]) ++ [(q2, arE cA 1 85)])) := hD
  refine lv_aload_n hx hb dX1_init_25 rfl (lv_at hl 0 rfl) ?_
  refine lv_aload_n hx hb dX1_init_26 rfl (lv_at hl 2 rfl) ?_
  refine cn_put (T := TX1) (N := 5) (k := 1) (ci := 1) (ty := tyX1 1) hC hin rfl hP hD hS zcf_1_22 (Nat.le_of_ble_eq_true rfl) rfl rfl (tyX1_ok 1 (Nat.le_of_ble_eq_true rfl)) rfl rfl (Nat.le_of_ble_eq_true rfl) dX1_init_27 (fun H locs hP hD hS => ?_)
  have hP : va_P D vwCl ((h0, .inr (1, [.ref p1, .ref p2, .ref q1, .ref q2, .int 0])) :: ((ws ++ [(q1, arE cA 1 85)]) ++ [(q2, arE cA 1 85)])) H := hP
  have hD : va_D A ((h0, .inr (1, [.ref p1, .ref p2, .ref q1, .ref q2, .int 0])) :: ((ws ++ [(q1, arE cA 1 85)]) ++ [(q2, arE cA 1 85)])) := hD
  refine W.widen (k := 2) (n := 170) (Nat.le_of_ble_eq_true rfl) (Nat.le_of_ble_eq_true rfl) ?_
  exact W.vret hx hb hr (fun t ht hW => ⟨rfl, ⟨_, ⟨q1, q2, rfl⟩, by rw [ht]; exact hP, hD⟩, hS.F ht⟩) hS.2.2 dX1_init_30
set_option maxHeartbeats 4000000 in
set_option maxRecDepth 100000 in
theorem cn_X2 (l : Launch) (D : va_G) (cA : Nat → ClassId) (A : Nat → Prop) (h0 : Nat) (ws : va_W) (p1 : Nat) : Met l yX2_init (Cond.code yX2_init cX2_init 2 none :: am_G) { frames := 1, cells := 1, slots := 85, locals := 40 } (cnPc D cA A h0 [.ref p1] 2 [.null, .null] ws (fun _ => True)) (cnQc D A (fun W9 => ∃ q1 : Nat, W9 = ((h0, .inr (2, [.ref p1, .ref q1])) :: (ws ++ [(q1, arE cA 0 85)])))) 1 85 A := by
  refine Met.ofW (cc := cX2_init) (maxL := 2) (ret := none) (by decide +kernel) rfl ?_
  intro p e s m args below meth c s₁ B hml hv
  obtain ⟨rfl, hP, hK, hD, hA, -⟩ := hv
  have hx := B.exec
  have hb := B.bytes
  have hr := B.returns
  have hts0 := atoms_spec (ws := Cond.code yX2_init cX2_init 2 none :: am_G) B.pre
  have hts : ∀ w ∈ am_G, w.before ([.ref h0, .ref p1] : List Value).toArray s = true := fun w hw => hts0 w (List.mem_cons_of_mem _ hw)
  have hown : s.vm.findClass RX2 = some m.cls := findClass_of_methodNamed B.named
  have hlocks := B.notSynchronized
  have hin : meth.name = "<init>" := (name_of_methodNamed B.named B.method).1
  have hC : cnX p s m ([.ref h0, .ref p1] : List Value).toArray c cX2_init RX2 D cA A := ⟨hx, hb, hown, hts, hK, hA⟩
  have hS : va_S A s.heap s.heap [] := va_S.rf
  have hl := lv_entry ([.ref h0, .ref p1]) (n := 2) (Nat.le_of_ble_eq_true rfl)
  rw [lg_entry_eq]
  generalize (lg_sl ([.ref h0, .ref p1]) ++ List.replicate (2 - (lg_sl ([.ref h0, .ref p1])).length) Slot.unset).toArray = ls at hl ⊢
  have hl : lv_has ls 2 [(0, .ref h0), (1, .ref p1)] := hl
  refine lv_aload_n hx hb dX2_init_0 rfl (lv_at hl 0 rfl) ?_
  refine W.objInit hx hb hown (hts _ zco_2) (hts _ zco_inst) (hts _ zco_code) rfl (by rw [hml]; exact hl.1) rfl dX2_init_1 (Nat.le_of_ble_eq_true rfl) (Nat.le_of_ble_eq_true rfl) ?_
  refine W.eq (g2 := F0 m 4 ls []) rfl ?_
  refine lv_aload_n hx hb dX2_init_4 rfl (lv_at hl 0 rfl) ?_
  refine lv_bipush (v := nI 85) hx hb dX2_init_5 (by decide +kernel) ?_
  refine cn_arrI (N := 85) hC hP hD hS (Nat.le_of_ble_eq_true rfl) (Nat.le_of_ble_eq_true rfl) (Nat.le_of_ble_eq_true rfl) dX2_init_7 (fun q1 H hP hD hS => ?_)
  have hP : va_P D vwCl ((h0, .inr (2, [.null, .null])) :: (ws ++ [(q1, arE cA 0 85)])) H := hP
  have hD : va_D A ((h0, .inr (2, [.null, .null])) :: (ws ++ [(q1, arE cA 0 85)])) := hD
  refine cn_put (T := TX2) (N := 2) (k := 1) (ci := 2) (ty := tyX2 1) hC hin rfl hP hD hS zcf_2_9 (Nat.le_of_ble_eq_true rfl) rfl rfl (tyX2_ok 1 (Nat.le_of_ble_eq_true rfl)) rfl rfl (Nat.le_of_ble_eq_true rfl) dX2_init_9 (fun H locs hP hD hS => ?_)
  have hP : va_P D vwCl ((h0, .inr (2, [.null, .ref q1])) :: (ws ++ [(q1, arE cA 0 85)])) H := hP
  have hD : va_D A ((h0, .inr (2, [.null, .ref q1])) :: (ws ++ [(q1, arE cA 0 85)])) := hD
  refine lv_aload_n hx hb dX2_init_12 rfl (lv_at hl 0 rfl) ?_
  refine lv_aload_n hx hb dX2_init_13 rfl (lv_at hl 1 rfl) ?_
  refine cn_put (T := TX2) (N := 2) (k := 0) (ci := 2) (ty := tyX2 0) hC hin rfl hP hD hS zcf_2_15 (Nat.le_of_ble_eq_true rfl) rfl rfl (tyX2_ok 0 (Nat.le_of_ble_eq_true rfl)) rfl rfl (Nat.le_of_ble_eq_true rfl) dX2_init_14 (fun H locs hP hD hS => ?_)
  have hP : va_P D vwCl ((h0, .inr (2, [.ref p1, .ref q1])) :: (ws ++ [(q1, arE cA 0 85)])) H := hP
  have hD : va_D A ((h0, .inr (2, [.ref p1, .ref q1])) :: (ws ++ [(q1, arE cA 0 85)])) := hD
  refine W.widen (k := 1) (n := 85) (Nat.le_of_ble_eq_true rfl) (Nat.le_of_ble_eq_true rfl) ?_
  exact W.vret hx hb hr (fun t ht hW => ⟨rfl, ⟨_, ⟨q1, rfl⟩, by rw [ht]; exact hP, hD⟩, hS.F ht⟩) hS.2.2 dX2_init_17
set_option maxHeartbeats 4000000 in
set_option maxRecDepth 100000 in
theorem cn_X3 (l : Launch) (D : va_G) (cA : Nat → ClassId) (A : Nat → Prop) (h0 : Nat) (ws : va_W) : Met l yX3_init (Cond.code yX3_init cX3_init 1 none :: am_G) { frames := 1, cells := 1, slots := 2049, locals := 40 } (cnPc D cA A h0 [] 3 [.null, .int 0, .int 0] ws (fun _ => True)) (cnQc D A (fun W9 => ∃ q1 : Nat, W9 = ((h0, .inr (3, [.ref q1, .int 0, .int 0])) :: (ws ++ [(q1, arE cA 0 2049)])))) 1 2049 A := by
  refine Met.ofW (cc := cX3_init) (maxL := 1) (ret := none) (by decide +kernel) rfl ?_
  intro p e s m args below meth c s₁ B hml hv
  obtain ⟨rfl, hP, hK, hD, hA, -⟩ := hv
  have hx := B.exec
  have hb := B.bytes
  have hr := B.returns
  have hts0 := atoms_spec (ws := Cond.code yX3_init cX3_init 1 none :: am_G) B.pre
  have hts : ∀ w ∈ am_G, w.before ([.ref h0] : List Value).toArray s = true := fun w hw => hts0 w (List.mem_cons_of_mem _ hw)
  have hown : s.vm.findClass RX3 = some m.cls := findClass_of_methodNamed B.named
  have hlocks := B.notSynchronized
  have hin : meth.name = "<init>" := (name_of_methodNamed B.named B.method).1
  have hC : cnX p s m ([.ref h0] : List Value).toArray c cX3_init RX3 D cA A := ⟨hx, hb, hown, hts, hK, hA⟩
  have hS : va_S A s.heap s.heap [] := va_S.rf
  have hl := lv_entry ([.ref h0]) (n := 1) (Nat.le_of_ble_eq_true rfl)
  rw [lg_entry_eq]
  generalize (lg_sl ([.ref h0]) ++ List.replicate (1 - (lg_sl ([.ref h0])).length) Slot.unset).toArray = ls at hl ⊢
  have hl : lv_has ls 1 [(0, .ref h0)] := hl
  refine lv_aload_n hx hb dX3_init_0 rfl (lv_at hl 0 rfl) ?_
  refine W.objInit hx hb hown (hts _ zco_3) (hts _ zco_inst) (hts _ zco_code) rfl (by rw [hml]; exact hl.1) rfl dX3_init_1 (Nat.le_of_ble_eq_true rfl) (Nat.le_of_ble_eq_true rfl) ?_
  refine W.eq (g2 := F0 m 4 ls []) rfl ?_
  refine lv_aload_n hx hb dX3_init_4 rfl (lv_at hl 0 rfl) ?_
  refine lv_sipush (v := nI 2049) hx hb dX3_init_5 (by decide +kernel) ?_
  refine cn_arrI (N := 2049) hC hP hD hS (Nat.le_of_ble_eq_true rfl) (Nat.le_of_ble_eq_true rfl) (Nat.le_of_ble_eq_true rfl) dX3_init_8 (fun q1 H hP hD hS => ?_)
  have hP : va_P D vwCl ((h0, .inr (3, [.null, .int 0, .int 0])) :: (ws ++ [(q1, arE cA 0 2049)])) H := hP
  have hD : va_D A ((h0, .inr (3, [.null, .int 0, .int 0])) :: (ws ++ [(q1, arE cA 0 2049)])) := hD
  refine cn_put (T := TX3) (N := 3) (k := 0) (ci := 3) (ty := tyX3 0) hC hin rfl hP hD hS zcf_3_9 (Nat.le_of_ble_eq_true rfl) rfl rfl (tyX3_ok 0 (Nat.le_of_ble_eq_true rfl)) rfl rfl (Nat.le_of_ble_eq_true rfl) dX3_init_10 (fun H locs hP hD hS => ?_)
  have hP : va_P D vwCl ((h0, .inr (3, [.ref q1, .int 0, .int 0])) :: (ws ++ [(q1, arE cA 0 2049)])) H := hP
  have hD : va_D A ((h0, .inr (3, [.ref q1, .int 0, .int 0])) :: (ws ++ [(q1, arE cA 0 2049)])) := hD
  refine W.widen (k := 1) (n := 2049) (Nat.le_of_ble_eq_true rfl) (Nat.le_of_ble_eq_true rfl) ?_
  exact W.vret hx hb hr (fun t ht hW => ⟨rfl, ⟨_, ⟨q1, rfl⟩, by rw [ht]; exact hP, hD⟩, hS.F ht⟩) hS.2.2 dX3_init_13
set_option maxHeartbeats 4000000 in
set_option maxRecDepth 100000 in
theorem cn_X4 (l : Launch) (D : va_G) (cA : Nat → ClassId) (A : Nat → Prop) (h0 : Nat) (ws : va_W) : Met l yX4_init (Cond.code yX4_init cX4_init 1 none :: am_G) { frames := 1, cells := 5, slots := 3616, locals := 40 } (cnPc D cA A h0 [] 4 [.null, .null, .null, .null, .null, .int 0] ws (fun _ => True)) (cnQc D A (fun W9 => ∃ q1 q2 q3 q4 q5 : Nat, W9 = ((h0, .inr (4, [.ref q1, .ref q2, .ref q3, .ref q4, .ref q5, .int 0])) :: (((((ws ++ [(q1, arE cA 0 8)]) ++ [(q2, arE cA 0 8)]) ++ [(q3, arE cA 0 1200)]) ++ [(q4, arE cA 0 1200)]) ++ [(q5, arE cA 0 1200)])))) 5 3616 A := by
  refine Met.ofW (cc := cX4_init) (maxL := 1) (ret := none) (by decide +kernel) rfl ?_
  intro p e s m args below meth c s₁ B hml hv
  obtain ⟨rfl, hP, hK, hD, hA, -⟩ := hv
  have hx := B.exec
  have hb := B.bytes
  have hr := B.returns
  have hts0 := atoms_spec (ws := Cond.code yX4_init cX4_init 1 none :: am_G) B.pre
  have hts : ∀ w ∈ am_G, w.before ([.ref h0] : List Value).toArray s = true := fun w hw => hts0 w (List.mem_cons_of_mem _ hw)
  have hown : s.vm.findClass RX4 = some m.cls := findClass_of_methodNamed B.named
  have hlocks := B.notSynchronized
  have hin : meth.name = "<init>" := (name_of_methodNamed B.named B.method).1
  have hC : cnX p s m ([.ref h0] : List Value).toArray c cX4_init RX4 D cA A := ⟨hx, hb, hown, hts, hK, hA⟩
  have hS : va_S A s.heap s.heap [] := va_S.rf
  have hl := lv_entry ([.ref h0]) (n := 1) (Nat.le_of_ble_eq_true rfl)
  rw [lg_entry_eq]
  generalize (lg_sl ([.ref h0]) ++ List.replicate (1 - (lg_sl ([.ref h0])).length) Slot.unset).toArray = ls at hl ⊢
  have hl : lv_has ls 1 [(0, .ref h0)] := hl
  refine lv_aload_n hx hb dX4_init_0 rfl (lv_at hl 0 rfl) ?_
  refine W.objInit hx hb hown (hts _ zco_4) (hts _ zco_inst) (hts _ zco_code) rfl (by rw [hml]; exact hl.1) rfl dX4_init_1 (Nat.le_of_ble_eq_true rfl) (Nat.le_of_ble_eq_true rfl) ?_
  refine W.eq (g2 := F0 m 4 ls []) rfl ?_
  refine lv_aload_n hx hb dX4_init_4 rfl (lv_at hl 0 rfl) ?_
  refine lv_bipush (v := nI 8) hx hb dX4_init_5 (by decide +kernel) ?_
  refine cn_arrI (N := 8) hC hP hD hS (Nat.le_of_ble_eq_true rfl) (Nat.le_of_ble_eq_true rfl) (Nat.le_of_ble_eq_true rfl) dX4_init_7 (fun q1 H hP hD hS => ?_)
  have hP : va_P D vwCl ((h0, .inr (4, [.null, .null, .null, .null, .null, .int 0])) :: (ws ++ [(q1, arE cA 0 8)])) H := hP
  have hD : va_D A ((h0, .inr (4, [.null, .null, .null, .null, .null, .int 0])) :: (ws ++ [(q1, arE cA 0 8)])) := hD
  refine cn_put (T := TX4) (N := 6) (k := 0) (ci := 4) (ty := tyX4 0) hC hin rfl hP hD hS zcf_4_9 (Nat.le_of_ble_eq_true rfl) rfl rfl (tyX4_ok 0 (Nat.le_of_ble_eq_true rfl)) rfl rfl (Nat.le_of_ble_eq_true rfl) dX4_init_9 (fun H locs hP hD hS => ?_)
  have hP : va_P D vwCl ((h0, .inr (4, [.ref q1, .null, .null, .null, .null, .int 0])) :: (ws ++ [(q1, arE cA 0 8)])) H := hP
  have hD : va_D A ((h0, .inr (4, [.ref q1, .null, .null, .null, .null, .int 0])) :: (ws ++ [(q1, arE cA 0 8)])) := hD
  refine lv_aload_n hx hb dX4_init_12 rfl (lv_at hl 0 rfl) ?_
  refine lv_bipush (v := nI 8) hx hb dX4_init_13 (by decide +kernel) ?_
  refine cn_arrI (N := 8) hC hP hD hS (Nat.le_of_ble_eq_true rfl) (Nat.le_of_ble_eq_true rfl) (Nat.le_of_ble_eq_true rfl) dX4_init_15 (fun q2 H hP hD hS => ?_)
  have hP : va_P D vwCl ((h0, .inr (4, [.ref q1, .null, .null, .null, .null, .int 0])) :: ((ws ++ [(q1, arE cA 0 8)]) ++ [(q2, arE cA 0 8)])) H := hP
  have hD : va_D A ((h0, .inr (4, [.ref q1, .null, .null, .null, .null, .int 0])) :: ((ws ++ [(q1, arE cA 0 8)]) ++ [(q2, arE cA 0 8)])) := hD
  refine cn_put (T := TX4) (N := 6) (k := 1) (ci := 4) (ty := tyX4 1) hC hin rfl hP hD hS zcf_4_15 (Nat.le_of_ble_eq_true rfl) rfl rfl (tyX4_ok 1 (Nat.le_of_ble_eq_true rfl)) rfl rfl (Nat.le_of_ble_eq_true rfl) dX4_init_17 (fun H locs hP hD hS => ?_)
  have hP : va_P D vwCl ((h0, .inr (4, [.ref q1, .ref q2, .null, .null, .null, .int 0])) :: ((ws ++ [(q1, arE cA 0 8)]) ++ [(q2, arE cA 0 8)])) H := hP
  have hD : va_D A ((h0, .inr (4, [.ref q1, .ref q2, .null, .null, .null, .int 0])) :: ((ws ++ [(q1, arE cA 0 8)]) ++ [(q2, arE cA 0 8)])) := hD
  refine lv_aload_n hx hb dX4_init_20 rfl (lv_at hl 0 rfl) ?_
  refine lv_sipush (v := nI 1200) hx hb dX4_init_21 (by decide +kernel) ?_
  refine cn_arrI (N := 1200) hC hP hD hS (Nat.le_of_ble_eq_true rfl) (Nat.le_of_ble_eq_true rfl) (Nat.le_of_ble_eq_true rfl) dX4_init_24 (fun q3 H hP hD hS => ?_)
  have hP : va_P D vwCl ((h0, .inr (4, [.ref q1, .ref q2, .null, .null, .null, .int 0])) :: (((ws ++ [(q1, arE cA 0 8)]) ++ [(q2, arE cA 0 8)]) ++ [(q3, arE cA 0 1200)])) H := hP
  have hD : va_D A ((h0, .inr (4, [.ref q1, .ref q2, .null, .null, .null, .int 0])) :: (((ws ++ [(q1, arE cA 0 8)]) ++ [(q2, arE cA 0 8)]) ++ [(q3, arE cA 0 1200)])) := hD
  refine cn_put (T := TX4) (N := 6) (k := 2) (ci := 4) (ty := tyX4 2) hC hin rfl hP hD hS zcf_4_18 (Nat.le_of_ble_eq_true rfl) rfl rfl (tyX4_ok 2 (Nat.le_of_ble_eq_true rfl)) rfl rfl (Nat.le_of_ble_eq_true rfl) dX4_init_26 (fun H locs hP hD hS => ?_)
  have hP : va_P D vwCl ((h0, .inr (4, [.ref q1, .ref q2, .ref q3, .null, .null, .int 0])) :: (((ws ++ [(q1, arE cA 0 8)]) ++ [(q2, arE cA 0 8)]) ++ [(q3, arE cA 0 1200)])) H := hP
  have hD : va_D A ((h0, .inr (4, [.ref q1, .ref q2, .ref q3, .null, .null, .int 0])) :: (((ws ++ [(q1, arE cA 0 8)]) ++ [(q2, arE cA 0 8)]) ++ [(q3, arE cA 0 1200)])) := hD
  refine lv_aload_n hx hb dX4_init_29 rfl (lv_at hl 0 rfl) ?_
  refine lv_sipush (v := nI 1200) hx hb dX4_init_30 (by decide +kernel) ?_
  refine cn_arrI (N := 1200) hC hP hD hS (Nat.le_of_ble_eq_true rfl) (Nat.le_of_ble_eq_true rfl) (Nat.le_of_ble_eq_true rfl) dX4_init_33 (fun q4 H hP hD hS => ?_)
  have hP : va_P D vwCl ((h0, .inr (4, [.ref q1, .ref q2, .ref q3, .null, .null, .int 0])) :: ((((ws ++ [(q1, arE cA 0 8)]) ++ [(q2, arE cA 0 8)]) ++ [(q3, arE cA 0 1200)]) ++ [(q4, arE cA 0 1200)])) H := hP
  have hD : va_D A ((h0, .inr (4, [.ref q1, .ref q2, .ref q3, .null, .null, .int 0])) :: ((((ws ++ [(q1, arE cA 0 8)]) ++ [(q2, arE cA 0 8)]) ++ [(q3, arE cA 0 1200)]) ++ [(q4, arE cA 0 1200)])) := hD
  refine cn_put (T := TX4) (N := 6) (k := 3) (ci := 4) (ty := tyX4 3) hC hin rfl hP hD hS zcf_4_21 (Nat.le_of_ble_eq_true rfl) rfl rfl (tyX4_ok 3 (Nat.le_of_ble_eq_true rfl)) rfl rfl (Nat.le_of_ble_eq_true rfl) dX4_init_35 (fun H locs hP hD hS => ?_)
  have hP : va_P D vwCl ((h0, .inr (4, [.ref q1, .ref q2, .ref q3, .ref q4, .null, .int 0])) :: ((((ws ++ [(q1, arE cA 0 8)]) ++ [(q2, arE cA 0 8)]) ++ [(q3, arE cA 0 1200)]) ++ [(q4, arE cA 0 1200)])) H := hP
  have hD : va_D A ((h0, .inr (4, [.ref q1, .ref q2, .ref q3, .ref q4, .null, .int 0])) :: ((((ws ++ [(q1, arE cA 0 8)]) ++ [(q2, arE cA 0 8)]) ++ [(q3, arE cA 0 1200)]) ++ [(q4, arE cA 0 1200)])) := hD
  refine lv_aload_n hx hb dX4_init_38 rfl (lv_at hl 0 rfl) ?_
  refine lv_sipush (v := nI 1200) hx hb dX4_init_39 (by decide +kernel) ?_
  refine cn_arrI (N := 1200) hC hP hD hS (Nat.le_of_ble_eq_true rfl) (Nat.le_of_ble_eq_true rfl) (Nat.le_of_ble_eq_true rfl) dX4_init_42 (fun q5 H hP hD hS => ?_)
  have hP : va_P D vwCl ((h0, .inr (4, [.ref q1, .ref q2, .ref q3, .ref q4, .null, .int 0])) :: (((((ws ++ [(q1, arE cA 0 8)]) ++ [(q2, arE cA 0 8)]) ++ [(q3, arE cA 0 1200)]) ++ [(q4, arE cA 0 1200)]) ++ [(q5, arE cA 0 1200)])) H := hP
  have hD : va_D A ((h0, .inr (4, [.ref q1, .ref q2, .ref q3, .ref q4, .null, .int 0])) :: (((((ws ++ [(q1, arE cA 0 8)]) ++ [(q2, arE cA 0 8)]) ++ [(q3, arE cA 0 1200)]) ++ [(q4, arE cA 0 1200)]) ++ [(q5, arE cA 0 1200)])) := hD
  refine cn_put (T := TX4) (N := 6) (k := 4) (ci := 4) (ty := tyX4 4) hC hin rfl hP hD hS zcf_4_24 (Nat.le_of_ble_eq_true rfl) rfl rfl (tyX4_ok 4 (Nat.le_of_ble_eq_true rfl)) rfl rfl (Nat.le_of_ble_eq_true rfl) dX4_init_44 (fun H locs hP hD hS => ?_)
  have hP : va_P D vwCl ((h0, .inr (4, [.ref q1, .ref q2, .ref q3, .ref q4, .ref q5, .int 0])) :: (((((ws ++ [(q1, arE cA 0 8)]) ++ [(q2, arE cA 0 8)]) ++ [(q3, arE cA 0 1200)]) ++ [(q4, arE cA 0 1200)]) ++ [(q5, arE cA 0 1200)])) H := hP
  have hD : va_D A ((h0, .inr (4, [.ref q1, .ref q2, .ref q3, .ref q4, .ref q5, .int 0])) :: (((((ws ++ [(q1, arE cA 0 8)]) ++ [(q2, arE cA 0 8)]) ++ [(q3, arE cA 0 1200)]) ++ [(q4, arE cA 0 1200)]) ++ [(q5, arE cA 0 1200)])) := hD
  refine W.widen (k := 5) (n := 3616) (Nat.le_of_ble_eq_true rfl) (Nat.le_of_ble_eq_true rfl) ?_
  exact W.vret hx hb hr (fun t ht hW => ⟨rfl, ⟨_, ⟨q1, q2, q3, q4, q5, rfl⟩, by rw [ht]; exact hP, hD⟩, hS.F ht⟩) hS.2.2 dX4_init_47
set_option maxHeartbeats 4000000 in
set_option maxRecDepth 100000 in
theorem cn_X5 (l : Launch) (D : va_G) (cA : Nat → ClassId) (A : Nat → Prop) (h0 : Nat) (ws : va_W) (p1 : Nat) (p2 : Nat) : Met l yX5_init (Cond.code yX5_init cX5_init 3 none :: am_G) { frames := 1, cells := 2, slots := 56, locals := 40 } (cnPc D cA A h0 [.ref p1, .ref p2] 5 [.null, .null, .null, .null] ws (fun _ => True)) (cnQc D A (fun W9 => ∃ q1 q2 : Nat, W9 = ((h0, .inr (5, [.ref p1, .ref p2, .ref q1, .ref q2])) :: ((ws ++ [(q1, arE cA 0 4)]) ++ [(q2, arE cA 0 52)])))) 2 56 A := by
  refine Met.ofW (cc := cX5_init) (maxL := 3) (ret := none) (by decide +kernel) rfl ?_
  intro p e s m args below meth c s₁ B hml hv
  obtain ⟨rfl, hP, hK, hD, hA, -⟩ := hv
  have hx := B.exec
  have hb := B.bytes
  have hr := B.returns
  have hts0 := atoms_spec (ws := Cond.code yX5_init cX5_init 3 none :: am_G) B.pre
  have hts : ∀ w ∈ am_G, w.before ([.ref h0, .ref p1, .ref p2] : List Value).toArray s = true := fun w hw => hts0 w (List.mem_cons_of_mem _ hw)
  have hown : s.vm.findClass RX5 = some m.cls := findClass_of_methodNamed B.named
  have hlocks := B.notSynchronized
  have hin : meth.name = "<init>" := (name_of_methodNamed B.named B.method).1
  have hC : cnX p s m ([.ref h0, .ref p1, .ref p2] : List Value).toArray c cX5_init RX5 D cA A := ⟨hx, hb, hown, hts, hK, hA⟩
  have hS : va_S A s.heap s.heap [] := va_S.rf
  have hl := lv_entry ([.ref h0, .ref p1, .ref p2]) (n := 3) (Nat.le_of_ble_eq_true rfl)
  rw [lg_entry_eq]
  generalize (lg_sl ([.ref h0, .ref p1, .ref p2]) ++ List.replicate (3 - (lg_sl ([.ref h0, .ref p1, .ref p2])).length) Slot.unset).toArray = ls at hl ⊢
  have hl : lv_has ls 3 [(0, .ref h0), (1, .ref p1), (2, .ref p2)] := hl
  refine lv_aload_n hx hb dX5_init_0 rfl (lv_at hl 0 rfl) ?_
  refine W.objInit hx hb hown (hts _ zco_5) (hts _ zco_inst) (hts _ zco_code) rfl (by rw [hml]; exact hl.1) rfl dX5_init_1 (Nat.le_of_ble_eq_true rfl) (Nat.le_of_ble_eq_true rfl) ?_
  refine W.eq (g2 := F0 m 4 ls []) rfl ?_
  refine lv_aload_n hx hb dX5_init_4 rfl (lv_at hl 0 rfl) ?_
  refine lv_iconst (v := nI 4) hx hb dX5_init_5 (by decide +kernel) ?_
  refine cn_arrI (N := 4) hC hP hD hS (Nat.le_of_ble_eq_true rfl) (Nat.le_of_ble_eq_true rfl) (Nat.le_of_ble_eq_true rfl) dX5_init_6 (fun q1 H hP hD hS => ?_)
  have hP : va_P D vwCl ((h0, .inr (5, [.null, .null, .null, .null])) :: (ws ++ [(q1, arE cA 0 4)])) H := hP
  have hD : va_D A ((h0, .inr (5, [.null, .null, .null, .null])) :: (ws ++ [(q1, arE cA 0 4)])) := hD
  refine cn_put (T := TX5) (N := 4) (k := 2) (ci := 5) (ty := tyX5 2) hC hin rfl hP hD hS zcf_5_9 (Nat.le_of_ble_eq_true rfl) rfl rfl (tyX5_ok 2 (Nat.le_of_ble_eq_true rfl)) rfl rfl (Nat.le_of_ble_eq_true rfl) dX5_init_8 (fun H locs hP hD hS => ?_)
  have hP : va_P D vwCl ((h0, .inr (5, [.null, .null, .ref q1, .null])) :: (ws ++ [(q1, arE cA 0 4)])) H := hP
  have hD : va_D A ((h0, .inr (5, [.null, .null, .ref q1, .null])) :: (ws ++ [(q1, arE cA 0 4)])) := hD
  refine lv_aload_n hx hb dX5_init_11 rfl (lv_at hl 0 rfl) ?_
  refine lv_bipush (v := nI 52) hx hb dX5_init_12 (by decide +kernel) ?_
  refine cn_arrI (N := 52) hC hP hD hS (Nat.le_of_ble_eq_true rfl) (Nat.le_of_ble_eq_true rfl) (Nat.le_of_ble_eq_true rfl) dX5_init_14 (fun q2 H hP hD hS => ?_)
  have hP : va_P D vwCl ((h0, .inr (5, [.null, .null, .ref q1, .null])) :: ((ws ++ [(q1, arE cA 0 4)]) ++ [(q2, arE cA 0 52)])) H := hP
  have hD : va_D A ((h0, .inr (5, [.null, .null, .ref q1, .null])) :: ((ws ++ [(q1, arE cA 0 4)]) ++ [(q2, arE cA 0 52)])) := hD
  refine cn_put (T := TX5) (N := 4) (k := 3) (ci := 5) (ty := tyX5 3) hC hin rfl hP hD hS zcf_5_15 (Nat.le_of_ble_eq_true rfl) rfl rfl (tyX5_ok 3 (Nat.le_of_ble_eq_true rfl)) rfl rfl (Nat.le_of_ble_eq_true rfl) dX5_init_16 (fun H locs hP hD hS => ?_)
  have hP : va_P D vwCl ((h0, .inr (5, [.null, .null, .ref q1, .ref q2])) :: ((ws ++ [(q1, arE cA 0 4)]) ++ [(q2, arE cA 0 52)])) H := hP
  have hD : va_D A ((h0, .inr (5, [.null, .null, .ref q1, .ref q2])) :: ((ws ++ [(q1, arE cA 0 4)]) ++ [(q2, arE cA 0 52)])) := hD
  refine lv_aload_n hx hb dX5_init_19 rfl (lv_at hl 0 rfl) ?_
  refine lv_aload_n hx hb dX5_init_20 rfl (lv_at hl 1 rfl) ?_
  refine cn_put (T := TX5) (N := 4) (k := 0) (ci := 5) (ty := tyX5 0) hC hin rfl hP hD hS zcf_5_18 (Nat.le_of_ble_eq_true rfl) rfl rfl (tyX5_ok 0 (Nat.le_of_ble_eq_true rfl)) rfl rfl (Nat.le_of_ble_eq_true rfl) dX5_init_21 (fun H locs hP hD hS => ?_)
  have hP : va_P D vwCl ((h0, .inr (5, [.ref p1, .null, .ref q1, .ref q2])) :: ((ws ++ [(q1, arE cA 0 4)]) ++ [(q2, arE cA 0 52)])) H := hP
  have hD : va_D A ((h0, .inr (5, [.ref p1, .null, .ref q1, .ref q2])) :: ((ws ++ [(q1, arE cA 0 4)]) ++ [(q2, arE cA 0 52)])) := hD
  refine lv_aload_n hx hb dX5_init_24 rfl (lv_at hl 0 rfl) ?_
  refine lv_aload_n hx hb dX5_init_25 rfl (lv_at hl 2 rfl) ?_
  refine cn_put (T := TX5) (N := 4) (k := 1) (ci := 5) (ty := tyX5 1) hC hin rfl hP hD hS zcf_5_22 (Nat.le_of_ble_eq_true rfl) rfl rfl (tyX5_ok 1 (Nat.le_of_ble_eq_true rfl)) rfl rfl (Nat.le_of_ble_eq_true rfl) dX5_init_26 (fun H locs hP hD hS => ?_)
  have hP : va_P D vwCl ((h0, .inr (5, [.ref p1, .ref p2, .ref q1, .ref q2])) :: ((ws ++ [(q1, arE cA 0 4)]) ++ [(q2, arE cA 0 52)])) H := hP
  have hD : va_D A ((h0, .inr (5, [.ref p1, .ref p2, .ref q1, .ref q2])) :: ((ws ++ [(q1, arE cA 0 4)]) ++ [(q2, arE cA 0 52)])) := hD
  refine W.widen (k := 2) (n := 56) (Nat.le_of_ble_eq_true rfl) (Nat.le_of_ble_eq_true rfl) ?_
  exact W.vret hx hb hr (fun t ht hW => ⟨rfl, ⟨_, ⟨q1, q2, rfl⟩, by rw [ht]; exact hP, hD⟩, hS.F ht⟩) hS.2.2 dX5_init_29
set_option maxHeartbeats 4000000 in
set_option maxRecDepth 100000 in
theorem cn_X6 (l : Launch) (D : va_G) (cA : Nat → ClassId) (A : Nat → Prop) (h0 : Nat) (ws : va_W) : Met l yX6_init (Cond.code yX6_init cX6_init 1 none :: am_G) { frames := 1, cells := 2, slots := 400, locals := 40 } (cnPc D cA A h0 [] 6 [.null, .null, .int 0] ws (fun _ => True)) (cnQc D A (fun W9 => ∃ q1 q2 : Nat, W9 = ((h0, .inr (6, [.ref q1, .ref q2, .int 0])) :: ((ws ++ [(q1, arE cA 2 200)]) ++ [(q2, arE cA 0 200)])))) 2 400 A := by
  refine Met.ofW (cc := cX6_init) (maxL := 1) (ret := none) (by decide +kernel) rfl ?_
  intro p e s m args below meth c s₁ B hml hv
  obtain ⟨rfl, hP, hK, hD, hA, -⟩ := hv
  have hx := B.exec
  have hb := B.bytes
  have hr := B.returns
  have hts0 := atoms_spec (ws := Cond.code yX6_init cX6_init 1 none :: am_G) B.pre
  have hts : ∀ w ∈ am_G, w.before ([.ref h0] : List Value).toArray s = true := fun w hw => hts0 w (List.mem_cons_of_mem _ hw)
  have hown : s.vm.findClass RX6 = some m.cls := findClass_of_methodNamed B.named
  have hlocks := B.notSynchronized
  have hin : meth.name = "<init>" := (name_of_methodNamed B.named B.method).1
  have hC : cnX p s m ([.ref h0] : List Value).toArray c cX6_init RX6 D cA A := ⟨hx, hb, hown, hts, hK, hA⟩
  have hS : va_S A s.heap s.heap [] := va_S.rf
  have hl := lv_entry ([.ref h0]) (n := 1) (Nat.le_of_ble_eq_true rfl)
  rw [lg_entry_eq]
  generalize (lg_sl ([.ref h0]) ++ List.replicate (1 - (lg_sl ([.ref h0])).length) Slot.unset).toArray = ls at hl ⊢
  have hl : lv_has ls 1 [(0, .ref h0)] := hl
  refine lv_aload_n hx hb dX6_init_0 rfl (lv_at hl 0 rfl) ?_
  refine W.objInit hx hb hown (hts _ zco_6) (hts _ zco_inst) (hts _ zco_code) rfl (by rw [hml]; exact hl.1) rfl dX6_init_1 (Nat.le_of_ble_eq_true rfl) (Nat.le_of_ble_eq_true rfl) ?_
  refine W.eq (g2 := F0 m 4 ls []) rfl ?_
  refine lv_aload_n hx hb dX6_init_4 rfl (lv_at hl 0 rfl) ?_
  refine lv_sipush (v := nI 200) hx hb dX6_init_5 (by decide +kernel) ?_
  refine cn_arrJ (N := 200) hC hP hD hS (Nat.le_of_ble_eq_true rfl) (Nat.le_of_ble_eq_true rfl) (Nat.le_of_ble_eq_true rfl) dX6_init_8 (fun q1 H hP hD hS => ?_)
  have hP : va_P D vwCl ((h0, .inr (6, [.null, .null, .int 0])) :: (ws ++ [(q1, arE cA 2 200)])) H := hP
  have hD : va_D A ((h0, .inr (6, [.null, .null, .int 0])) :: (ws ++ [(q1, arE cA 2 200)])) := hD
  refine cn_put (T := TX6) (N := 3) (k := 0) (ci := 6) (ty := tyX6 0) hC hin rfl hP hD hS zcf_6_9 (Nat.le_of_ble_eq_true rfl) rfl rfl (tyX6_ok 0 (Nat.le_of_ble_eq_true rfl)) rfl rfl (Nat.le_of_ble_eq_true rfl) dX6_init_10 (fun H locs hP hD hS => ?_)
  have hP : va_P D vwCl ((h0, .inr (6, [.ref q1, .null, .int 0])) :: (ws ++ [(q1, arE cA 2 200)])) H := hP
  have hD : va_D A ((h0, .inr (6, [.ref q1, .null, .int 0])) :: (ws ++ [(q1, arE cA 2 200)])) := hD
  refine lv_aload_n hx hb dX6_init_13 rfl (lv_at hl 0 rfl) ?_
  refine lv_sipush (v := nI 200) hx hb dX6_init_14 (by decide +kernel) ?_
  refine cn_arrI (N := 200) hC hP hD hS (Nat.le_of_ble_eq_true rfl) (Nat.le_of_ble_eq_true rfl) (Nat.le_of_ble_eq_true rfl) dX6_init_17 (fun q2 H hP hD hS => ?_)
  have hP : va_P D vwCl ((h0, .inr (6, [.ref q1, .null, .int 0])) :: ((ws ++ [(q1, arE cA 2 200)]) ++ [(q2, arE cA 0 200)])) H := hP
  have hD : va_D A ((h0, .inr (6, [.ref q1, .null, .int 0])) :: ((ws ++ [(q1, arE cA 2 200)]) ++ [(q2, arE cA 0 200)])) := hD
  refine cn_put (T := TX6) (N := 3) (k := 1) (ci := 6) (ty := tyX6 1) hC hin rfl hP hD hS zcf_6_15 (Nat.le_of_ble_eq_true rfl) rfl rfl (tyX6_ok 1 (Nat.le_of_ble_eq_true rfl)) rfl rfl (Nat.le_of_ble_eq_true rfl) dX6_init_19 (fun H locs hP hD hS => ?_)
  have hP : va_P D vwCl ((h0, .inr (6, [.ref q1, .ref q2, .int 0])) :: ((ws ++ [(q1, arE cA 2 200)]) ++ [(q2, arE cA 0 200)])) H := hP
  have hD : va_D A ((h0, .inr (6, [.ref q1, .ref q2, .int 0])) :: ((ws ++ [(q1, arE cA 2 200)]) ++ [(q2, arE cA 0 200)])) := hD
  refine W.widen (k := 2) (n := 400) (Nat.le_of_ble_eq_true rfl) (Nat.le_of_ble_eq_true rfl) ?_
  exact W.vret hx hb hr (fun t ht hW => ⟨rfl, ⟨_, ⟨q1, q2, rfl⟩, by rw [ht]; exact hP, hD⟩, hS.F ht⟩) hS.2.2 dX6_init_22
set_option maxHeartbeats 4000000 in
set_option maxRecDepth 100000 in
theorem cn_X7 (l : Launch) (D : va_G) (cA : Nat → ClassId) (A : Nat → Prop) (h0 : Nat) (ws : va_W) (p1 : Nat) (p2 : Nat) (p3 : Nat) : Met l yX7_init (Cond.code yX7_init cX7_init 4 none :: am_G) { frames := 1, cells := 2, slots := 2249, locals := 40 } (cnPc D cA A h0 [.ref p1, .ref p2, .ref p3] 7 [.null, .null, .null, .null, .null] ws (fun _ => True)) (cnQc D A (fun W9 => ∃ q1 q2 : Nat, W9 = ((h0, .inr (7, [.ref p1, .ref p2, .ref p3, .ref q1, .ref q2])) :: ((ws ++ [(q1, arE cA 0 2049)]) ++ [(q2, arE cA 1 200)])))) 2 2249 A := by
  refine Met.ofW (cc := cX7_init) (maxL := 4) (ret := none) (by decide +kernel) rfl ?_
  intro p e s m args below meth c s₁ B hml hv
  obtain ⟨rfl, hP, hK, hD, hA, -⟩ := hv
  have hx := B.exec
  have hb := B.bytes
  have hr := B.returns
  have hts0 := atoms_spec (ws := Cond.code yX7_init cX7_init 4 none :: am_G) B.pre
  have hts : ∀ w ∈ am_G, w.before ([.ref h0, .ref p1, .ref p2, .ref p3] : List Value).toArray s = true := fun w hw => hts0 w (List.mem_cons_of_mem _ hw)
  have hown : s.vm.findClass RX7 = some m.cls := findClass_of_methodNamed B.named
  have hlocks := B.notSynchronized
  have hin : meth.name = "<init>" := (name_of_methodNamed B.named B.method).1
  have hC : cnX p s m ([.ref h0, .ref p1, .ref p2, .ref p3] : List Value).toArray c cX7_init RX7 D cA A := ⟨hx, hb, hown, hts, hK, hA⟩
  have hS : va_S A s.heap s.heap [] := va_S.rf
  have hl := lv_entry ([.ref h0, .ref p1, .ref p2, .ref p3]) (n := 4) (Nat.le_of_ble_eq_true rfl)
  rw [lg_entry_eq]
  generalize (lg_sl ([.ref h0, .ref p1, .ref p2, .ref p3]) ++ List.replicate (4 - (lg_sl ([.ref h0, .ref p1, .ref p2, .ref p3])).length) Slot.unset).toArray = ls at hl ⊢
  have hl : lv_has ls 4 [(0, .ref h0), (1, .ref p1), (2, .ref p2), (3, .ref p3)] := hl
  refine lv_aload_n hx hb dX7_init_0 rfl (lv_at hl 0 rfl) ?_
  refine W.objInit hx hb hown (hts _ zco_7) (hts _ zco_inst) (hts _ zco_code) rfl (by rw [hml]; exact hl.1) rfl dX7_init_1 (Nat.le_of_ble_eq_true rfl) (Nat.le_of_ble_eq_true rfl) ?_
  refine W.eq (g2 := F0 m 4 ls []) rfl ?_
  refine lv_aload_n hx hb dX7_init_4 rfl (lv_at hl 0 rfl) ?_
  refine lv_sipush (v := nI 2049) hx hb dX7_init_5 (by decide +kernel) ?_
  refine cn_arrI (N := 2049) hC hP hD hS (Nat.le_of_ble_eq_true rfl) (Nat.le_of_ble_eq_true rfl) (Nat.le_of_ble_eq_true rfl) dX7_init_8 (fun q1 H hP hD hS => ?_)
  have hP : va_P D vwCl ((h0, .inr (7, [.null, .null, .null, .null, .null])) :: (ws ++ [(q1, arE cA 0 2049)])) H := hP
  have hD : va_D A ((h0, .inr (7, [.null, .null, .null, .null, .null])) :: (ws ++ [(q1, arE cA 0 2049)])) := hD
  refine cn_put (T := TX7) (N := 5) (k := 3) (ci := 7) (ty := tyX7 3) hC hin rfl hP hD hS zcf_7_9 (Nat.le_of_ble_eq_true rfl) rfl rfl (tyX7_ok 3 (Nat.le_of_ble_eq_true rfl)) rfl rfl (Nat.le_of_ble_eq_true rfl) dX7_init_10 (fun H locs hP hD hS => ?_)
  have hP : va_P D vwCl ((h0, .inr (7, [.null, .null, .null, .ref q1, .null])) :: (ws ++ [(q1, arE cA 0 2049)])) H := hP
  have hD : va_D A ((h0, .inr (7, [.null, .null, .null, .ref q1, .null])) :: (ws ++ [(q1, arE cA 0 2049)])) := hD
  refine lv_aload_n hx hb dX7_init_13 rfl (lv_at hl 0 rfl) ?_
  refine lv_sipush (v := nI 200) hx hb dX7_init_14 (by decide +kernel) ?_
  refine cn_arrZ (N := 200) hC hP hD hS (Nat.le_of_ble_eq_true rfl) (Nat.le_of_ble_eq_true rfl) (Nat.le_of_ble_eq_true rfl) dX7_init_17 (fun q2 H hP hD hS => ?_)
  have hP : va_P D vwCl ((h0, .inr (7, [.null, .null, .null, .ref q1, .null])) :: ((ws ++ [(q1, arE cA 0 2049)]) ++ [(q2, arE cA 1 200)])) H := hP
  have hD : va_D A ((h0, .inr (7, [.null, .null, .null, .ref q1, .null])) :: ((ws ++ [(q1, arE cA 0 2049)]) ++ [(q2, arE cA 1 200)])) := hD
  refine cn_put (T := TX7) (N := 5) (k := 4) (ci := 7) (ty := tyX7 4) hC hin rfl hP hD hS zcf_7_15 (Nat.le_of_ble_eq_true rfl) rfl rfl (tyX7_ok 4 (Nat.le_of_ble_eq_true rfl)) rfl rfl (Nat.le_of_ble_eq_true rfl) dX7_init_19 (fun H locs hP hD hS => ?_)
  have hP : va_P D vwCl ((h0, .inr (7, [.null, .null, .null, .ref q1, .ref q2])) :: ((ws ++ [(q1, arE cA 0 2049)]) ++ [(q2, arE cA 1 200)])) H := hP
  have hD : va_D A ((h0, .inr (7, [.null, .null, .null, .ref q1, .ref q2])) :: ((ws ++ [(q1, arE cA 0 2049)]) ++ [(q2, arE cA 1 200)])) := hD
  refine lv_aload_n hx hb dX7_init_22 rfl (lv_at hl 0 rfl) ?_
  refine lv_aload_n hx hb dX7_init_23 rfl (lv_at hl 1 rfl) ?_
  refine cn_put (T := TX7) (N := 5) (k := 0) (ci := 7) (ty := tyX7 0) hC hin rfl hP hD hS zcf_7_19 (Nat.le_of_ble_eq_true rfl) rfl rfl (tyX7_ok 0 (Nat.le_of_ble_eq_true rfl)) rfl rfl (Nat.le_of_ble_eq_true rfl) dX7_init_24 (fun H locs hP hD hS => ?_)
  have hP : va_P D vwCl ((h0, .inr (7, [.ref p1, .null, .null, .ref q1, .ref q2])) :: ((ws ++ [(q1, arE cA 0 2049)]) ++ [(q2, arE cA 1 200)])) H := hP
  have hD : va_D A ((h0, .inr (7, [.ref p1, .null, .null, .ref q1, .ref q2])) :: ((ws ++ [(q1, arE cA 0 2049)]) ++ [(q2, arE cA 1 200)])) := hD
  refine lv_aload_n hx hb dX7_init_27 rfl (lv_at hl 0 rfl) ?_
  refine lv_aload_n hx hb dX7_init_28 rfl (lv_at hl 2 rfl) ?_
  refine cn_put (T := TX7) (N := 5) (k := 1) (ci := 7) (ty := tyX7 1) hC hin rfl hP hD hS zcf_7_23 (Nat.le_of_ble_eq_true rfl) rfl rfl (tyX7_ok 1 (Nat.le_of_ble_eq_true rfl)) rfl rfl (Nat.le_of_ble_eq_true rfl) dX7_init_29 (fun H locs hP hD hS => ?_)
  have hP : va_P D vwCl ((h0, .inr (7, [.ref p1, .ref p2, .null, .ref q1, .ref q2])) :: ((ws ++ [(q1, arE cA 0 2049)]) ++ [(q2, arE cA 1 200)])) H := hP
  have hD : va_D A ((h0, .inr (7, [.ref p1, .ref p2, .null, .ref q1, .ref q2])) :: ((ws ++ [(q1, arE cA 0 2049)]) ++ [(q2, arE cA 1 200)])) := hD
  refine lv_aload_n hx hb dX7_init_32 rfl (lv_at hl 0 rfl) ?_
  refine lv_aload_n hx hb dX7_init_33 rfl (lv_at hl 3 rfl) ?_
  refine cn_put (T := TX7) (N := 5) (k := 2) (ci := 7) (ty := tyX7 2) hC hin rfl hP hD hS zcf_7_27 (Nat.le_of_ble_eq_true rfl) rfl rfl (tyX7_ok 2 (Nat.le_of_ble_eq_true rfl)) rfl rfl (Nat.le_of_ble_eq_true rfl) dX7_init_34 (fun H locs hP hD hS => ?_)
  have hP : va_P D vwCl ((h0, .inr (7, [.ref p1, .ref p2, .ref p3, .ref q1, .ref q2])) :: ((ws ++ [(q1, arE cA 0 2049)]) ++ [(q2, arE cA 1 200)])) H := hP
  have hD : va_D A ((h0, .inr (7, [.ref p1, .ref p2, .ref p3, .ref q1, .ref q2])) :: ((ws ++ [(q1, arE cA 0 2049)]) ++ [(q2, arE cA 1 200)])) := hD
  refine W.widen (k := 2) (n := 2249) (Nat.le_of_ble_eq_true rfl) (Nat.le_of_ble_eq_true rfl) ?_
  exact W.vret hx hb hr (fun t ht hW => ⟨rfl, ⟨_, ⟨q1, q2, rfl⟩, by rw [ht]; exact hP, hD⟩, hS.F ht⟩) hS.2.2 dX7_init_37
set_option maxHeartbeats 4000000 in
set_option maxRecDepth 100000 in
theorem cn_X8 (l : Launch) (D : va_G) (cA : Nat → ClassId) (A : Nat → Prop) (h0 : Nat) (ws : va_W) (p1 : Nat) (p2 : Nat) : Met l yX8_init (Cond.code yX8_init cX8_init 3 none :: am_G) { frames := 1, cells := 4, slots := 277, locals := 40 } (cnPc D cA A h0 [.ref p1, .ref p2] 8 [.null, .null, .null, .null, .null, .null] ws (fun _ => True)) (cnQc D A (fun W9 => ∃ q1 q2 q3 q4 : Nat, W9 = ((h0, .inr (8, [.ref p1, .ref p2, .ref q1, .ref q2, .ref q3, .ref q4])) :: ((((ws ++ [(q1, arE cA 0 85)]) ++ [(q2, arE cA 0 64)]) ++ [(q3, arE cA 0 64)]) ++ [(q4, arE cA 1 64)])))) 4 277 A := by
  refine Met.ofW (cc := cX8_init) (maxL := 3) (ret := none) (by decide +kernel) rfl ?_
  intro p e s m args below meth c s₁ B hml hv
  obtain ⟨rfl, hP, hK, hD, hA, -⟩ := hv
  have hx := B.exec
  have hb := B.bytes
  have hr := B.returns
  have hts0 := atoms_spec (ws := Cond.code yX8_init cX8_init 3 none :: am_G) B.pre
  have hts : ∀ w ∈ am_G, w.before ([.ref h0, .ref p1, .ref p2] : List Value).toArray s = true := fun w hw => hts0 w (List.mem_cons_of_mem _ hw)
  have hown : s.vm.findClass RX8 = some m.cls := findClass_of_methodNamed B.named
  have hlocks := B.notSynchronized
  have hin : meth.name = "<init>" := (name_of_methodNamed B.named B.method).1
  have hC : cnX p s m ([.ref h0, .ref p1, .ref p2] : List Value).toArray c cX8_init RX8 D cA A := ⟨hx, hb, hown, hts, hK, hA⟩
  have hS : va_S A s.heap s.heap [] := va_S.rf
  have hl := lv_entry ([.ref h0, .ref p1, .ref p2]) (n := 3) (Nat.le_of_ble_eq_true rfl)
  rw [lg_entry_eq]
  generalize (lg_sl ([.ref h0, .ref p1, .ref p2]) ++ List.replicate (3 - (lg_sl ([.ref h0, .ref p1, .ref p2])).length) Slot.unset).toArray = ls at hl ⊢
  have hl : lv_has ls 3 [(0, .ref h0), (1, .ref p1), (2, .ref p2)] := hl
  refine lv_aload_n hx hb dX8_init_0 rfl (lv_at hl 0 rfl) ?_
  refine W.objInit hx hb hown (hts _ zco_8) (hts _ zco_inst) (hts _ zco_code) rfl (by rw [hml]; exact hl.1) rfl dX8_init_1 (Nat.le_of_ble_eq_true rfl) (Nat.le_of_ble_eq_true rfl) ?_
  refine W.eq (g2 := F0 m 4 ls []) rfl ?_
  refine lv_aload_n hx hb dX8_init_4 rfl (lv_at hl 0 rfl) ?_
  refine lv_bipush (v := nI 85) hx hb dX8_init_5 (by decide +kernel) ?_
  refine cn_arrI (N := 85) hC hP hD hS (Nat.le_of_ble_eq_true rfl) (Nat.le_of_ble_eq_true rfl) (Nat.le_of_ble_eq_true rfl) dX8_init_7 (fun q1 H hP hD hS => ?_)
  have hP : va_P D vwCl ((h0, .inr (8, [.null, .null, .null, .null, .null, .null])) :: (ws ++ [(q1, arE cA 0 85)])) H := hP
  have hD : va_D A ((h0, .inr (8, [.null, .null, .null, .null, .null, .null])) :: (ws ++ [(q1, arE cA 0 85)])) := hD
  refine cn_put (T := TX8) (N := 6) (k := 2) (ci := 8) (ty := tyX8 2) hC hin rfl hP hD hS zcf_8_9 (Nat.le_of_ble_eq_true rfl) rfl rfl (tyX8_ok 2 (Nat.le_of_ble_eq_true rfl)) rfl rfl (Nat.le_of_ble_eq_true rfl) dX8_init_9 (fun H locs hP hD hS => ?_)
  have hP : va_P D vwCl ((h0, .inr (8, [.null, .null, .ref q1, .null, .null, .null])) :: (ws ++ [(q1, arE cA 0 85)])) H := hP
  have hD : va_D A ((h0, .inr (8, [.null, .null, .ref q1, .null, .null, .null])) :: (ws ++ [(q1, arE cA 0 85)])) := hD
  refine lv_aload_n hx hb dX8_init_12 rfl (lv_at hl 0 rfl) ?_
  refine lv_bipush (v := nI 64) hx hb dX8_init_13 (by decide +kernel) ?_
  refine cn_arrI (N := 64) hC hP hD hS (Nat.le_of_ble_eq_true rfl) (Nat.le_of_ble_eq_true rfl) (Nat.le_of_ble_eq_true rfl) dX8_init_15 (fun q2 H hP hD hS => ?_)
  have hP : va_P D vwCl ((h0, .inr (8, [.null, .null, .ref q1, .null, .null, .null])) :: ((ws ++ [(q1, arE cA 0 85)]) ++ [(q2, arE cA 0 64)])) H := hP
  have hD : va_D A ((h0, .inr (8, [.null, .null, .ref q1, .null, .null, .null])) :: ((ws ++ [(q1, arE cA 0 85)]) ++ [(q2, arE cA 0 64)])) := hD
  refine cn_put (T := TX8) (N := 6) (k := 3) (ci := 8) (ty := tyX8 3) hC hin rfl hP hD hS zcf_8_15 (Nat.le_of_ble_eq_true rfl) rfl rfl (tyX8_ok 3 (Nat.le_of_ble_eq_true rfl)) rfl rfl (Nat.le_of_ble_eq_true rfl) dX8_init_17 (fun H locs hP hD hS => ?_)
  have hP : va_P D vwCl ((h0, .inr (8, [.null, .null, .ref q1, .ref q2, .null, .null])) :: ((ws ++ [(q1, arE cA 0 85)]) ++ [(q2, arE cA 0 64)])) H := hP
  have hD : va_D A ((h0, .inr (8, [.null, .null, .ref q1, .ref q2, .null, .null])) :: ((ws ++ [(q1, arE cA 0 85)]) ++ [(q2, arE cA 0 64)])) := hD
  refine lv_aload_n hx hb dX8_init_20 rfl (lv_at hl 0 rfl) ?_
  refine lv_bipush (v := nI 64) hx hb dX8_init_21 (by decide +kernel) ?_
  refine cn_arrI (N := 64) hC hP hD hS (Nat.le_of_ble_eq_true rfl) (Nat.le_of_ble_eq_true rfl) (Nat.le_of_ble_eq_true rfl) dX8_init_23 (fun q3 H hP hD hS => ?_)
  have hP : va_P D vwCl ((h0, .inr (8, [.null, .null, .ref q1, .ref q2, .null, .null])) :: (((ws ++ [(q1, arE cA 0 85)]) ++ [(q2, arE cA 0 64)]) ++ [(q3, arE cA 0 64)])) H := hP
  have hD : va_D A ((h0, .inr (8, [.null, .null, .ref q1, .ref q2, .null, .null])) :: (((ws ++ [(q1, arE cA 0 85)]) ++ [(q2, arE cA 0 64)]) ++ [(q3, arE cA 0 64)])) := hD
  refine cn_put (T := TX8) (N := 6) (k := 4) (ci := 8) (ty := tyX8 4) hC hin rfl hP hD hS zcf_8_18 (Nat.le_of_ble_eq_true rfl) rfl rfl (tyX8_ok 4 (Nat.le_of_ble_eq_true rfl)) rfl rfl (Nat.le_of_ble_eq_true rfl) dX8_init_25 (fun H locs hP hD hS => ?_)
  have hP : va_P D vwCl ((h0, .inr (8, [.null, .null, .ref q1, .ref q2, .ref q3, .null])) :: (((ws ++ [(q1, arE cA 0 85)]) ++ [(q2, arE cA 0 64)]) ++ [(q3, arE cA 0 64)])) H := hP
  have hD : va_D A ((h0, .inr (8, [.null, .null, .ref q1, .ref q2, .ref q3, .null])) :: (((ws ++ [(q1, arE cA 0 85)]) ++ [(q2, arE cA 0 64)]) ++ [(q3, arE cA 0 64)])) := hD
  refine lv_aload_n hx hb dX8_init_28 rfl (lv_at hl 0 rfl) ?_
  refine lv_bipush (v := nI 64) hx hb dX8_init_29 (by decide +kernel) ?_
  refine cn_arrZ (N := 64) hC hP hD hS (Nat.le_of_ble_eq_true rfl) (Nat.le_of_ble_eq_true rfl) (Nat.le_of_ble_eq_true rfl) dX8_init_31 (fun q4 H hP hD hS => ?_)
  have hP : va_P D vwCl ((h0, .inr (8, [.null, .null, .ref q1, .ref q2, .ref q3, .null])) :: ((((ws ++ [(q1, arE cA 0 85)]) ++ [(q2, arE cA 0 64)]) ++ [(q3, arE cA 0 64)]) ++ [(q4, arE cA 1 64)])) H := hP
  have hD : va_D A ((h0, .inr (8, [.null, .null, .ref q1, .ref q2, .ref q3, .null])) :: ((((ws ++ [(q1, arE cA 0 85)]) ++ [(q2, arE cA 0 64)]) ++ [(q3, arE cA 0 64)]) ++ [(q4, arE cA 1 64)])) := hD
  refine cn_put (T := TX8) (N := 6) (k := 5) (ci := 8) (ty := tyX8 5) hC hin rfl hP hD hS zcf_8_21 (Nat.le_of_ble_eq_true rfl) rfl rfl (tyX8_ok 5 (Nat.le_of_ble_eq_true rfl)) rfl rfl (Nat.le_of_ble_eq_true rfl) dX8_init_33 (fun H locs hP hD hS => ?_)
  have hP : va_P D vwCl ((h0, .inr (8, [.null, .null, .ref q1, .ref q2, .ref q3, .ref q4])) :: ((((ws ++ [(q1, arE cA 0 85)]) ++ [(q2, arE cA 0 64)]) ++ [(q3, arE cA 0 64)]) ++ [(q4, arE cA 1 64)])) H := hP
  have hD : va_D A ((h0, .inr (8, [.null, .null, .ref q1, .ref q2, .ref q3, .ref q4])) :: ((((ws ++ [(q1, arE cA 0 85)]) ++ [(q2, arE cA 0 64)]) ++ [(q3, arE cA 0 64)]) ++ [(q4, arE cA 1 64)])) := hD
  refine lv_aload_n hx hb dX8_init_36 rfl (lv_at hl 0 rfl) ?_
  refine lv_aload_n hx hb dX8_init_37 rfl (lv_at hl 1 rfl) ?_
  refine cn_put (T := TX8) (N := 6) (k := 0) (ci := 8) (ty := tyX8 0) hC hin rfl hP hD hS zcf_8_25 (Nat.le_of_ble_eq_true rfl) rfl rfl (tyX8_ok 0 (Nat.le_of_ble_eq_true rfl)) rfl rfl (Nat.le_of_ble_eq_true rfl) dX8_init_38 (fun H locs hP hD hS => ?_)
  have hP : va_P D vwCl ((h0, .inr (8, [.ref p1, .null, .ref q1, .ref q2, .ref q3, .ref q4])) :: ((((ws ++ [(q1, arE cA 0 85)]) ++ [(q2, arE cA 0 64)]) ++ [(q3, arE cA 0 64)]) ++ [(q4, arE cA 1 64)])) H := hP
  have hD : va_D A ((h0, .inr (8, [.ref p1, .null, .ref q1, .ref q2, .ref q3, .ref q4])) :: ((((ws ++ [(q1, arE cA 0 85)]) ++ [(q2, arE cA 0 64)]) ++ [(q3, arE cA 0 64)]) ++ [(q4, arE cA 1 64)])) := hD
  refine lv_aload_n hx hb dX8_init_41 rfl (lv_at hl 0 rfl) ?_
  refine lv_aload_n hx hb dX8_init_42 rfl (lv_at hl 2 rfl) ?_
  refine cn_put (T := TX8) (N := 6) (k := 1) (ci := 8) (ty := tyX8 1) hC hin rfl hP hD hS zcf_8_29 (Nat.le_of_ble_eq_true rfl) rfl rfl (tyX8_ok 1 (Nat.le_of_ble_eq_true rfl)) rfl rfl (Nat.le_of_ble_eq_true rfl) dX8_init_43 (fun H locs hP hD hS => ?_)
  have hP : va_P D vwCl ((h0, .inr (8, [.ref p1, .ref p2, .ref q1, .ref q2, .ref q3, .ref q4])) :: ((((ws ++ [(q1, arE cA 0 85)]) ++ [(q2, arE cA 0 64)]) ++ [(q3, arE cA 0 64)]) ++ [(q4, arE cA 1 64)])) H := hP
  have hD : va_D A ((h0, .inr (8, [.ref p1, .ref p2, .ref q1, .ref q2, .ref q3, .ref q4])) :: ((((ws ++ [(q1, arE cA 0 85)]) ++ [(q2, arE cA 0 64)]) ++ [(q3, arE cA 0 64)]) ++ [(q4, arE cA 1 64)])) := hD
  refine W.widen (k := 4) (n := 277) (Nat.le_of_ble_eq_true rfl) (Nat.le_of_ble_eq_true rfl) ?_
  exact W.vret hx hb hr (fun t ht hW => ⟨rfl, ⟨_, ⟨q1, q2, q3, q4, rfl⟩, by rw [ht]; exact hP, hD⟩, hS.F ht⟩) hS.2.2 dX8_init_46
end INR
