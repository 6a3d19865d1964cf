set_option maxHeartbeats 4000000 in
set_option maxRecDepth 100000 in
theorem law_run {p : Program} {l : Launch} {e : Env} {s : State} {m : MethodId} {below : List Frame} {meth : Method} {c : Code} {b L : Nat} {xs : Nat → Int32} (hL : L ≤ 2048) {D : va_G} {cA : Nat → ClassId} {ad2 : Nat → Nat} {H : Heap} {locs : List Loc} {ls : Array Slot} {q0 q1 q2 : Nat} (hx : p.tables.exec = Jvm.exec) (hb : c.code = code) (hr : meth.sig.returnType = ret) (hml : c.maxLocals = 8) (hown : s.vm.findClass RL = some m.cls) (htsG : ∀ w ∈ am_G, w.before #[Value.ref b] s = true) (hX : va_X b L xs s s.heap) (hbl : b < s.heap.size) (hlocks : meth.locks = false) (hexc : ∀ z ∈ c.exceptionTable.toList, False) (hK : va_K D vwCl (am_tys cA) s) (hZw : am_Zw s) (hZo : am_Zo ad2 (fun q : Nat => s.heap.size ≤ q) s) (hZt : am_Zt (fun q : Nat => s.heap.size ≤ q) s s.heap) (htr : l.stackTraces = false) (hDa : ∀ σ, va_D (fun q : Nat => s.heap.size ≤ q) (am_ws ad2 cA σ)) (a1001 : ad2 1001 = b) (a0 : ad2 0 = q0) (a34 : ad2 34 = q1) (a57 : ad2 57 = q2) (hl : lv_has ls 8 [(3, .ref q2), (2, .ref q1), (1, .ref q0), (0, .ref b)]) (hP : va_P D vwCl (am_ws ad2 cA (bgM am_ZC (nI 0))) H) (hS : va_S (fun q : Nat => s.heap.size ≤ q) s.heap H locs) : W p l e room_1 s m #[Value.ref b] below meth c H locs 58 20175 (lw_Z below #[Value.ref b] s) (F0 m 20 ls []) := by
  have hAn : ∀ a : Nat, a < s.heap.size → ¬ (fun q : Nat => s.heap.size ≤ q) a := fun a h => Nat.not_le.mpr h
  have hA : ∀ q : Nat, s.heap.size ≤ q → (fun q : Nat => s.heap.size ≤ q) q := fun _ h => h
  have hCx : am_Cx p l room_1 s m #[Value.ref b] meth c ML D cA ad2 (fun q : Nat => s.heap.size ≤ q) 9 := ⟨⟨hx, hb, hml, hown, htsG⟩, ⟨hlocks, hr, fun _ => hexc, fun z => absurd rfl z, fun z hz => by cases hz⟩, ⟨hK, hZw, hZo, hZt, hA, hDa⟩, htr, Nat.le_of_ble_eq_true rfl, Nat.le_of_ble_eq_true rfl⟩
  have hXo : am_Xo ad2 (fun q : Nat => s.heap.size ≤ q) (L + 1, xs) s := fun _ => by
    rw [a1001]
    exact ⟨hX, hbl, hAn b hbl⟩
  obtain ⟨Y, hgo, hYk⟩ := law_all 0 (Xs := (L + 1, xs)) (N := L) rfl hL st_inv
  obtain ⟨n, hn⟩ := am_go_ex hgo
  have hls : lv_has ls 8 (am_lvl ad2 [.ref 1001, .ref 0, .ref 34, .ref 57, .null, .null, .null, .null]) := by
    rw [show am_lvl ad2 [.ref 1001, .ref 0, .ref 34, .ref 57, .null, .null, .null, .null] = [(0, Value.ref (ad2 1001)), (1, Value.ref (ad2 0)), (2, Value.ref (ad2 34)), (3, Value.ref (ad2 57))] from rfl, a1001, a0, a34, a57]
    exact lv_sub hl [3, 2, 1, 0] rfl
  refine W.eq (g2 := F0 m 20 ls (([] : List Value).map (am_cv ad2))) rfl ?_
  refine am_run_sound (M := ML) (X := (L + 1, xs)) (C := am_ex 9) (d := 9) hCx hXo (am_ex_sound htr hDa 9) (res := .inl (some (.int (nI 1)))) (σf := Y) (cf := 58 + (Y.2.2 - (bgM am_ZC (nI 0)).2.2)) (sf := 20175 + 6 * (Y.2.2 - (bgM am_ZC (nI 0)).2.2)) ⟨?_, ?_⟩ ?_ n 20 [.ref 1001, .ref 0, .ref 34, .ref 57, .null, .null, .null, .null] [] (bgM am_ZC (nI 0)) ls H locs 58 20175 hn hls rfl hP hS rfl rfl
  · show 58 + (Y.2.2 - (bgM am_ZC (nI 0)).2.2) ≤ 601024
    omega
  · show 20175 + 6 * (Y.2.2 - (bgM am_ZC (nI 0)).2.2) ≤ 7293034
    omega
  · intro pc lv9 st9 σ9 ls9 H9 locs9 k9 n9 g1 g2 g3 g4 g5 g6 g7
    obtain ⟨r1, r2⟩ := nx_ret g1
    subst r2
    refine va_forget (fun q hq => g5.2.2 q hq) ?_
    refine W.widen (k := 601024) (n := 7293034) (by omega) (by omega) ?_
    refine W.eq (g2 := F0 m pc ls9 [.int 1]) rfl ?_
    exact lw_ret hx hb hr hlocks r1
