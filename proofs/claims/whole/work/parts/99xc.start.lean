set_option maxHeartbeats 4000000 in
set_option maxRecDepth 100000 in
theorem whole_start {p : Program} {e : Env} {s : State} {m : MethodId} {below : List Frame} {meth : Method} {c : Code} (l : Launch) (hflags : l.flags = flags0) {b L : Nat} {xs : Nat → Int32} (hL : L ≤ 2048) (C0 : lw_At p s m meth c b L xs) : W p l e room_1 s m #[Value.ref b] below meth c s.heap [] 0 0 (lw_Z below #[Value.ref b] s) (entryFrame m ([Value.ref b] : List Value).toArray 8) := by
  obtain ⟨hx, hb, hr, hml, hown, hts, hX, hbl, hlocks, hgv, hexc⟩ := id C0
  have hAn : ∀ a : Nat, a < s.heap.size → ¬ (fun q : Nat => s.heap.size ≤ q) a := fun a h => Nat.not_le.mpr h
  have hA : ∀ q : Nat, s.heap.size ≤ q → (fun q : Nat => s.heap.size ≤ q) q := fun _ h => h
  have htr : l.stackTraces = false := by
    unfold Launch.stackTraces
    rw [hflags]
    decide
  have htsG : ∀ w ∈ am_G, w.before #[Value.ref b] s = true := fun w hw => hts w (List.mem_filter.mp hw).1
  obtain ⟨D, cA, hK⟩ := st_K htsG m.cls
  have hZw := st_Zw hts hgv
  obtain ⟨lv, hZo⟩ := st_Zo hts hgv hAn
  have hZt := st_Zt hts hgv hAn
  have hown : s.vm.findClass RL = some m.cls := hown
  have hC : cnX p s m #[Value.ref b] c cL_law RL D cA (fun q : Nat => s.heap.size ≤ q) := ⟨hx, hb, hown, htsG, hK, hA⟩
  have hS : va_S (fun q : Nat => s.heap.size ≤ q) s.heap s.heap [] := va_S.rf
  have hP : va_P D vwCl [] s.heap := fun k q h => by simp at h
  have hD : va_D (fun q : Nat => s.heap.size ≤ q) [] := ⟨fun i j p q h => by simp at h, fun k q h => by simp at h⟩
  have hP0 : ∀ (ad : Nat → Nat) (H : Heap), va_P D vwCl (bm_ws 0 ad cA am_Z0) H := fun ad H k q h => by
    have h9 : bm_ws 0 ad cA am_Z0 = [] := rfl
    rw [h9] at h
    simp at h
  have hl := lv_entry ([.ref b]) (n := 8) (Nat.le_of_ble_eq_true rfl)
  rw [lg_entry_eq]
  generalize (lg_sl ([.ref b]) ++ List.replicate (8 - (lg_sl ([.ref b])).length) Slot.unset).toArray = ls at hl ⊢
  have hl : lv_has ls 8 [(0, .ref b)] := hl
  refine va_new (ci := 9) (fs := [.null, .null, .null, .null, .null, .null, .null, .null, .null, .null, .null, .null, .int 0]) (C := RX9) (T := TX9) (N := 13) hx hb htsG (am_cls (ci := 9) rfl) tyX9 tyX9_ok hown (htsG _ zdk_9) (htsG _ zdq_9) (htsG _ zdi_9) hK hP hD hS hA rfl df_9 (Nat.le_of_ble_eq_true rfl) (Nat.le_of_ble_eq_true rfl) dL_law_0 (fun q0 H hP hD hS => ?_)
  have hP : va_P D vwCl [(q0, .inr (9, [.null, .null, .null, .null, .null, .null, .null, .null, .null, .null, .null, .null, .int 0]))] H := hP
  have hD : va_D (fun q : Nat => s.heap.size ≤ q) [(q0, .inr (9, [.null, .null, .null, .null, .null, .null, .null, .null, .null, .null, .null, .null, .int 0]))] := hD
  refine lv_dup hx hb dL_law_3 rfl ?_
  refine cn_call (as := []) (rest := [.ref q0]) (ws := []) (fs := [.null, .null, .null, .null, .null, .null, .null, .null, .null, .null, .null, .null, .int 0]) (n := 0) (Z := bm_Wd 0 D cA (adL [] lv b) (fun q : Nat => s.heap.size ≤ q) am_Z0) hC (hl.1.trans hml.symm) (fun U g mk a h => bm_Wd_blind h) (fun U hU hW => bm_Wd_call hK hZw (hZo (adL [] lv b) rfl) hZt hA hS (hP0 _ _) hU hW) (cn_X9 l htr D cA (fun q : Nat => s.heap.size ≤ q) q0 lv b) rfl zdc_9 zdi_9 zdm_9 (Or.inl zdl_9) (by decide +kernel) (by decide +kernel) rfl ⟨rfl, rfl, Nat.le_of_ble_eq_true rfl, Nat.le_of_ble_eq_true rfl⟩ ⟨Nat.le_of_ble_eq_true rfl, Nat.le_of_ble_eq_true rfl⟩ hP hD hS (Nat.le_of_ble_eq_true rfl) dL_law_4 (fun W9 H locs hF hP hD hS => ?_)
  obtain ⟨ad, had0, had1, had2, hW9⟩ := hF
  rw [hW9] at hP hD
  refine lv_astore_n (lv' := [(1, .ref q0), (0, .ref b)]) hx hb dL_law_7 rfl hl (by decide) rfl (fun ls hl => ?_)
  refine va_new (ci := 10) (fs := [.null, .null, .null, .null, .null, .null, .null, .null, .null, .null, .null, .null, .null, .null, .null, .null, .null, .null, .null, .null, .int 0, .int 0, .int 0, .int 0, .int 0, .int 0, .null, .int 0, .null]) (C := RX10) (T := TX10) (N := 29) hx hb htsG (am_cls (ci := 10) rfl) tyX10 tyX10_ok hown (htsG _ zdk_10) (htsG _ zdq_10) (htsG _ zdi_10) hK hP hD hS hA rfl df_10 (Nat.le_of_ble_eq_true rfl) (Nat.le_of_ble_eq_true rfl) dL_law_8 (fun q1 H hP hD hS => ?_)
  have hP := vP_perm (List.perm_append_singleton _ _) hP
  have hD := vD_perm (List.perm_append_singleton _ _) hD
  refine lv_dup hx hb dL_law_11 rfl ?_
  refine cn_call (as := []) (rest := [.ref q1]) (ws := bm_ws 34 ad cA am_ZC) (fs := [.null, .null, .null, .null, .null, .null, .null, .null, .null, .null, .null, .null, .null, .null, .null, .null, .null, .null, .null, .null, .int 0, .int 0, .int 0, .int 0, .int 0, .int 0, .null, .int 0, .null]) (n := 0) (Z := bm_Wd 0 D cA ad (fun q : Nat => s.heap.size ≤ q) am_Z0) hC (hl.1.trans hml.symm) (fun U g mk a h => bm_Wd_blind h) (fun U hU hW => bm_Wd_call hK hZw (hZo ad had1) hZt hA hS (hP0 _ _) hU hW) (cn_X10 l htr D cA (fun q : Nat => s.heap.size ≤ q) q1 ad am_ZC zc_z) rfl zdc_10 zdi_10 zdm_10 (Or.inl zdl_10) (by decide +kernel) (by decide +kernel) rfl ⟨rfl, rfl, Nat.le_of_ble_eq_true rfl, Nat.le_of_ble_eq_true rfl⟩ ⟨Nat.le_of_ble_eq_true rfl, Nat.le_of_ble_eq_true rfl⟩ hP hD hS (Nat.le_of_ble_eq_true rfl) dL_law_12 (fun W9 H locs hF hP hD hS => ?_)
  obtain ⟨ad1, hadC, hadM, had3, had4, hW8⟩ := hF
  rw [hW8] at hP hD
  refine lv_astore_n (lv' := [(2, .ref q1), (1, .ref q0), (0, .ref b)]) hx hb dL_law_15 rfl hl (by decide) rfl (fun ls hl => ?_)
  refine lv_iconst (v := nI 1) hx hb dL_law_16 (by decide +kernel) ?_
  refine cn_arrJ (N := 1) hC hP hD hS (Nat.le_of_ble_eq_true rfl) (Nat.le_of_ble_eq_true rfl) (Nat.le_of_ble_eq_true rfl) dL_law_17 (fun q2 H hP hD hS => ?_)
  refine lv_astore_n (lv' := [(3, .ref q2), (2, .ref q1), (1, .ref q0), (0, .ref b)]) hx hb dL_law_19 rfl hl (by decide) rfl (fun ls hl => ?_)
  have e9 : bm_ws 57 ad1 cA (bgM am_ZC (nI 0)) ++ [(q2, arE cA 2 1)] = am_ws (adO ad1 q2) cA (bgM am_ZC (nI 0)) := by
    rw [ws58, ← bm_ws_ad (ad := ad1) (ad' := adO ad1 q2) (fun i hi => (if_neg (by omega)).symm) clS57, zm_57]
    rfl
  rw [e9] at hP hD
  have a0 : adO ad1 q2 0 = q0 := (if_neg (by decide)).trans ((hadC 0 (by decide)).trans had0)
  have a34 : adO ad1 q2 34 = q1 := (if_neg (by decide)).trans hadM
  have a57 : adO ad1 q2 57 = q2 := if_pos rfl
  have a1000 : adO ad1 q2 1000 = lv := (if_neg (by decide)).trans (had3.trans had1)
  have a1001 : adO ad1 q2 1001 = b := (if_neg (by decide)).trans (had4.trans had2)
  generalize adO ad1 q2 = ad2 at hP hD a0 a34 a57 a1000 a1001
  have hDa : ∀ σ, va_D (fun q : Nat => s.heap.size ≤ q) (am_ws ad2 cA σ) := fun σ => vD_fst (am_ws_fst (σ := bgM am_ZC (nI 0))) hD
  refine W.widen (k := 58) (n := 20175) (Nat.le_of_ble_eq_true rfl) (Nat.le_of_ble_eq_true rfl) ?_
  exact law_run hL hx hb hr hml hown htsG hX hbl hlocks hexc hK hZw (hZo ad2 a1000) hZt htr hDa a1001 a0 a34 a57 hl hP hS
