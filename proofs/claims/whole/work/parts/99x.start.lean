/-! THE CLAIM OUT OF ONE WALK OF THE LAW'S BODY. Your part is whole_start (and what it stands on); all else here is the same for every law, but numbers. -/
def R_law : String := "KeyArchiveLaw"
def lw_P (b : Addr) (xs : List Int32) (args : Array Value) (s : State) : Prop := args = #[.ref b] ∧ s.IntsAt b xs ∧ xs.length ≤ 2048 ∧ (Jvm.Cond.and given_1 narrow_1).before args s = true
def lw_Q (_ : Array Value) (s : State) (o : Outcome) (t : State) : Prop := o = .returned (some (.int 1)) ∧ Framed s o t [] 601024 7293034
def lw_Z (below : List Frame) (a : Array Value) (s : State) : State → Prop := fun t => ∃ o, t.status = .running ∧ Ended t below o ∧ lw_Q a s o t
/-- the law's own end, with 1 on the stack, nothing written that was there before, its room as the claim has it -/
theorem lw_ret {p : Program} {l : Launch} {e : Env} {s : State} {m : MethodId} {below : List Frame} {meth : Method} {c : Code} {b : Nat} (hx : p.tables.exec = Jvm.exec) (hb : c.code = code) (hr : meth.sig.returnType = ret) (hlocks : meth.locks = false) {pc : Nat} {H : Heap} {ls : Array Slot} (hdg : decode code pc = .ok (.ireturn, 1)) : W p l e room_1 s m #[Value.ref b] below meth c H [] 601024 7293034 (lw_Z below #[Value.ref b] s) (F0 m pc ls [.int 1]) := by
  intro T hT X
  obtain ⟨fs, hret, hrun, hended, hW, hframe⟩ := X.leave (v := some (.int 1)) (hlocks := hlocks) (fun h => by rw [hr] at h; cases h)
  have hmeth' : T.vm.method? m = some meth := X.method'
  refine ⟨T.setFrames fs, ?_, .returned (some (.int 1)), hrun, hended, rfl, ⟨_, rfl⟩, hW, hframe⟩
  jvm_step X.here [X.here.top, hx, hb, hdg, hmeth', hr, ret, narrow_b1]
  (try refine ⟨rfl, ?_⟩); (try refine ⟨rfl, ?_⟩)
  first | (intro acts; rw [hret _ acts rfl rfl rfl]) | rw [hret _ _ rfl rfl rfl]
  exact Steps.refl _
/-- what holds at the law's entry: the machine, the code, the tables' words (any of lw_tbl by 'hts w (by decide +kernel)'), the script of L ints xs at the cell b, what the Statement gives of the start (any of its parts by flat_of_before) -/
def lw_At (p : Program) (s : State) (m : MethodId) (meth : Method) (c : Code) (b L : Nat) (xs : Nat → Int32) : Prop :=
  p.tables.exec = Jvm.exec ∧ c.code = code ∧ meth.sig.returnType = ret ∧ c.maxLocals = 8 ∧ s.vm.findClass R_law = some m.cls ∧ (∀ w ∈ lw_tbl, w.before #[Value.ref b] s = true) ∧ va_X b L xs s s.heap ∧ b < s.heap.size ∧ meth.locks = false ∧ (Jvm.Cond.and given_1 narrow_1).before #[Value.ref b] s = true ∧ ∀ z ∈ c.exceptionTable.toList, False
set_option maxHeartbeats 4000000 in
set_option maxRecDepth 100000 in
theorem whole_start {p : Program} {e : Env} {s : State} {m : MethodId} {below : List Frame} {meth : Method} {c : Code} (l : Launch) (hflags : l.flags = flags0) {b L : Nat} {xs : Nat → Int32} (hL : L ≤ 2048) (C0 : lw_At p s m meth c b L xs) : W p l e room_1 s m #[Value.ref b] below meth c s.heap [] 0 0 (lw_Z below #[Value.ref b] s) (entryFrame m ([Value.ref b] : List Value).toArray 8) := by
  obtain ⟨hx, hb, hr, hml, hown, hts, hX, hbl, hlocks, hgv, hexc⟩ := id C0
  have hAn : ∀ a : Nat, a < s.heap.size → ¬ (fun q : Nat => s.heap.size ≤ q) a := fun a h => Nat.not_le.mpr h
  have hA : ∀ q : Nat, s.heap.size ≤ q → (fun q : Nat => s.heap.size ≤ q) q := fun _ h => h
  have htr : l.stackTraces = false := by
    unfold Launch.stackTraces
    rw [hflags]
    decide
  have htsG : ∀ w ∈ am_G, w.before #[Value.ref b] s = true := fun w hw => hts w (List.mem_filter.mp hw).1
  obtain ⟨D, cA, hK⟩ := st_K htsG m.cls
  have hZw := st_Zw hts hgv
  obtain ⟨lv, hZo⟩ := st_Zo hts hgv hAn
  have hZt := st_Zt hts hgv hAn
  have hown : s.vm.findClass RL = some m.cls := hown
  have hC : cnX p s m #[Value.ref b] c cL_law RL D cA (fun q : Nat => s.heap.size ≤ q) := ⟨hx, hb, hown, htsG, hK, hA⟩
  have hS : va_S (fun q : Nat => s.heap.size ≤ q) s.heap s.heap [] := va_S.rf
  have hP : va_P D vwCl [] s.heap := fun k q h => by simp at h
  have hD : va_D (fun q : Nat => s.heap.size ≤ q) [] := ⟨fun i j p q h => by simp at h, fun k q h => by simp at h⟩
  have hP0 : ∀ (ad : Nat → Nat) (H : Heap), va_P D vwCl (bm_ws 0 ad cA am_Z0) H := fun ad H k q h => by
    have h9 : bm_ws 0 ad cA am_Z0 = [] := rfl
    rw [h9] at h
    simp at h
  have hl := lv_entry ([.ref b]) (n := 8) (Nat.le_of_ble_eq_true rfl)
  rw [lg_entry_eq]
  generalize (lg_sl ([.ref b]) ++ List.replicate (8 - (lg_sl ([.ref b])).length) Slot.unset).toArray = ls at hl ⊢
  have hl : lv_has ls 8 [(0, .ref b)] := hl
  refine va_new (ci := 9) (fs := [.null, .null, .null, .null, .null, .null, .null, .null, .null, .null, .null, .null, .int 0]) (C := RX9) (T := TX9) (N := 13) hx hb htsG (am_cls (ci := 9) rfl) tyX9 tyX9_ok hown (htsG _ zdk_9) (htsG _ zdq_9) (htsG _ zdi_9) hK hP hD hS hA rfl (fun j hj => by rcases (show j = 0 ∨ j = 1 ∨ j = 2 ∨ j = 3 ∨ j = 4 ∨ j = 5 ∨ j = 6 ∨ j = 7 ∨ j = 8 ∨ j = 9 ∨ j = 10 ∨ j = 11 ∨ j = 12 by omega) with rfl | rfl | rfl | rfl | rfl | rfl | rfl | rfl | rfl | rfl | rfl | rfl | rfl <;> rfl) (Nat.le_of_ble_eq_true rfl) (Nat.le_of_ble_eq_true rfl) dL_law_0 (fun q0 H hP hD hS => ?_)
  have hP : va_P D vwCl [(q0, .inr (9, [.null, .null, .null, .null, .null, .null, .null, .null, .null, .null, .null, .null, .int 0]))] H := hP
  have hD : va_D (fun q : Nat => s.heap.size ≤ q) [(q0, .inr (9, [.null, .null, .null, .null, .null, .null, .null, .null, .null, .null, .null, .null, .int 0]))] := hD
  refine lv_dup hx hb dL_law_3 rfl ?_
  refine cn_call (as := []) (rest := [.ref q0]) (ws := []) (fs := [.null, .null, .null, .null, .null, .null, .null, .null, .null, .null, .null, .null, .int 0]) (n := 0) (Z := bm_Wd 0 D cA (adL [] lv b) (fun q : Nat => s.heap.size ≤ q) am_Z0) hC (hl.1.trans hml.symm) (fun U g mk a h => bm_Wd_blind h) (fun U hU hW => bm_Wd_call hK hZw (hZo (adL [] lv b) rfl) hZt hA hS (hP0 _ _) hU hW) (cn_X9 l htr D cA (fun q : Nat => s.heap.size ≤ q) q0 lv b) rfl zdc_9 zdi_9 zdm_9 (Or.inl zdl_9) (by decide +kernel) (by decide +kernel) rfl ⟨rfl, rfl, Nat.le_of_ble_eq_true rfl, Nat.le_of_ble_eq_true rfl⟩ ⟨Nat.le_of_ble_eq_true rfl, Nat.le_of_ble_eq_true rfl⟩ hP hD hS (Nat.le_of_ble_eq_true rfl) dL_law_4 (fun W9 H locs hF hP hD hS => ?_)
  obtain ⟨ad, had0, had1, had2, rfl⟩ := hF
  refine lv_astore_n (lv' := [(1, .ref q0), (0, .ref b)]) hx hb dL_law_7 rfl hl (by decide) rfl (fun ls hl => ?_)
  refine va_new (ci := 10) (fs := [.null, .null, .null, .null, .null, .null, .null, .null, .null, .null, .null, .null, .null, .null, .null, .null, .null, .null, .null, .null, .int 0, .int 0, .int 0, .int 0, .int 0, .int 0, .null, .int 0, .null]) (C := RX10) (T := TX10) (N := 29) hx hb htsG (am_cls (ci := 10) rfl) tyX10 tyX10_ok hown (htsG _ zdk_10) (htsG _ zdq_10) (htsG _ zdi_10) hK hP hD hS hA rfl (fun j hj => by rcases (show j = 0 ∨ j = 1 ∨ j = 2 ∨ j = 3 ∨ j = 4 ∨ j = 5 ∨ j = 6 ∨ j = 7 ∨ j = 8 ∨ j = 9 ∨ j = 10 ∨ j = 11 ∨ j = 12 ∨ j = 13 ∨ j = 14 ∨ j = 15 ∨ j = 16 ∨ j = 17 ∨ j = 18 ∨ j = 19 ∨ j = 20 ∨ j = 21 ∨ j = 22 ∨ j = 23 ∨ j = 24 ∨ j = 25 ∨ j = 26 ∨ j = 27 ∨ j = 28 by omega) with rfl | rfl | rfl | rfl | rfl | rfl | rfl | rfl | rfl | rfl | rfl | rfl | rfl | rfl | rfl | rfl | rfl | rfl | rfl | rfl | rfl | rfl | rfl | rfl | rfl | rfl | rfl | rfl | rfl <;> rfl) (Nat.le_of_ble_eq_true rfl) (Nat.le_of_ble_eq_true rfl) dL_law_8 (fun q1 H hP hD hS => ?_)
  have hP := vP_perm (List.perm_append_singleton _ _) hP
  have hD := vD_perm (List.perm_append_singleton _ _) hD
  refine lv_dup hx hb dL_law_11 rfl ?_
  refine cn_call (as := []) (rest := [.ref q1]) (ws := bm_ws 34 ad cA am_ZC) (fs := [.null, .null, .null, .null, .null, .null, .null, .null, .null, .null, .null, .null, .null, .null, .null, .null, .null, .null, .null, .null, .int 0, .int 0, .int 0, .int 0, .int 0, .int 0, .null, .int 0, .null]) (n := 0) (Z := bm_Wd 0 D cA ad (fun q : Nat => s.heap.size ≤ q) am_Z0) hC (hl.1.trans hml.symm) (fun U g mk a h => bm_Wd_blind h) (fun U hU hW => bm_Wd_call hK hZw (hZo ad had1) hZt hA hS (hP0 _ _) hU hW) (cn_X10 l htr D cA (fun q : Nat => s.heap.size ≤ q) q1 ad am_ZC zc_z) rfl zdc_10 zdi_10 zdm_10 (Or.inl zdl_10) (by decide +kernel) (by decide +kernel) rfl ⟨rfl, rfl, Nat.le_of_ble_eq_true rfl, Nat.le_of_ble_eq_true rfl⟩ ⟨Nat.le_of_ble_eq_true rfl, Nat.le_of_ble_eq_true rfl⟩ hP hD hS (Nat.le_of_ble_eq_true rfl) dL_law_12 (fun W9 H locs hF hP hD hS => ?_)
  obtain ⟨ad1, hadC, hadM, had3, had4, rfl⟩ := hF
  refine lv_astore_n (lv' := [(2, .ref q1), (1, .ref q0), (0, .ref b)]) hx hb dL_law_15 rfl hl (by decide) rfl (fun ls hl => ?_)
  refine lv_iconst (v := nI 1) hx hb dL_law_16 (by decide +kernel) ?_
  refine cn_arrJ (N := 1) hC hP hD hS (Nat.le_of_ble_eq_true rfl) (Nat.le_of_ble_eq_true rfl) (Nat.le_of_ble_eq_true rfl) dL_law_17 (fun q2 H hP hD hS => ?_)
  refine lv_astore_n (lv' := [(3, .ref q2), (2, .ref q1), (1, .ref q0), (0, .ref b)]) hx hb dL_law_19 rfl hl (by decide) rfl (fun ls hl => ?_)
  have e57 : (bgM am_ZC (nI 0)).2.1 57 = fun _ => 0 := (zc_z 57 (by decide)).2
  have e9 : bm_ws 57 ad1 cA (bgM am_ZC (nI 0)) ++ [(q2, arE cA 2 1)] = am_ws (adO ad1 q2) cA (bgM am_ZC (nI 0)) := by
    rw [ws58, ← bm_ws_ad (ad := ad1) (ad' := adO ad1 q2) (fun i hi => (if_neg (by omega)).symm) clS57, e57]
    rfl
  rw [e9] at hP hD
  have a0 : adO ad1 q2 0 = q0 := (if_neg (by decide)).trans ((hadC 0 (by decide)).trans had0)
  have a34 : adO ad1 q2 34 = q1 := (if_neg (by decide)).trans hadM
  have a57 : adO ad1 q2 57 = q2 := if_pos rfl
  have a1000 : adO ad1 q2 1000 = lv := (if_neg (by decide)).trans (had3.trans had1)
  have a1001 : adO ad1 q2 1001 = b := (if_neg (by decide)).trans (had4.trans had2)
  generalize adO ad1 q2 = ad2 at hP hD a0 a34 a57 a1000 a1001
  have hDa : ∀ σ, va_D (fun q : Nat => s.heap.size ≤ q) (am_ws ad2 cA σ) := fun σ => vD_fst (am_ws_fst (σ := bgM am_ZC (nI 0))) hD
  have hCx : am_Cx p l room_1 s m #[Value.ref b] meth c ML D cA ad2 (fun q : Nat => s.heap.size ≤ q) 9 := ⟨⟨hx, hb, hml, hown, htsG⟩, ⟨hlocks, hr, fun _ => hexc, fun z => absurd rfl z, fun z hz => by cases hz⟩, ⟨hK, hZw, hZo ad2 a1000, hZt, hA, hDa⟩, htr, Nat.le_of_ble_eq_true rfl, Nat.le_of_ble_eq_true rfl⟩
  have hXo : am_Xo ad2 (fun q : Nat => s.heap.size ≤ q) (L + 1, xs) s := fun _ => by
    rw [a1001]
    exact ⟨hX, hbl, hAn b hbl⟩
  obtain ⟨Y, hgo, hYk⟩ := law_all 0 (Xs := (L + 1, xs)) (N := L) rfl hL st_inv
  obtain ⟨n, hn⟩ := am_go_ex hgo
  have hY0 : (bgM am_ZC (nI 0)).2.2 = 0 := rfl
  have hls : lv_has ls 8 (am_lvl ad2 [.ref 1001, .ref 0, .ref 34, .ref 57, .null, .null, .null, .null]) := by
    rw [show am_lvl ad2 [.ref 1001, .ref 0, .ref 34, .ref 57, .null, .null, .null, .null] = [(0, Value.ref (ad2 1001)), (1, Value.ref (ad2 0)), (2, Value.ref (ad2 34)), (3, Value.ref (ad2 57))] from rfl, a1001, a0, a34, a57]
    exact lv_sub hl [3, 2, 1, 0] rfl
  refine W.eq (g2 := F0 m 20 ls (([] : List Value).map (am_cv ad2))) rfl ?_
  refine W.widen (k := 58) (n := 20175) (Nat.le_of_ble_eq_true rfl) (Nat.le_of_ble_eq_true rfl) ?_
  refine am_run_sound (M := ML) (X := (L + 1, xs)) (C := am_ex 9) (d := 9) hCx hXo (am_ex_sound htr hDa 9) (res := .inl (some (.int (nI 1)))) (σf := Y) (cf := 58 + (Y.2.2 - (bgM am_ZC (nI 0)).2.2)) (sf := 20175 + 6 * (Y.2.2 - (bgM am_ZC (nI 0)).2.2)) ⟨?_, ?_⟩ ?_ n 20 [.ref 1001, .ref 0, .ref 34, .ref 57, .null, .null, .null, .null] [] (bgM am_ZC (nI 0)) ls H locs 58 20175 hn hls rfl hP hS rfl rfl
  · show 58 + (Y.2.2 - (bgM am_ZC (nI 0)).2.2) ≤ 601024
    omega
  · show 20175 + 6 * (Y.2.2 - (bgM am_ZC (nI 0)).2.2) ≤ 7293034
    omega
  · intro pc lv9 st9 σ9 ls9 H9 locs9 k9 n9 g1 g2 g3 g4 g5 g6 g7
    obtain ⟨r1, r2⟩ := nx_ret g1
    subst r2
    refine va_forget (fun q hq => g5.2.2 q hq) ?_
    refine W.widen (k := 601024) (n := 7293034) (by omega) (by omega) ?_
    refine W.eq (g2 := F0 m pc ls9 [.int 1]) rfl ?_
    exact lw_ret hx hb hr hlocks r1
