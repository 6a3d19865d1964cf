/-! what a constructor does: cells come, fields are set -/
section CNS
variable {p : Program} {l : Launch} {e : Env} {R : Room} {s : State} {m : MethodId} {args : Array Value} {below : List Frame} {meth : Method} {c : Code} {H : Heap} {locs : List Loc} {cells slots : Nat} {Q : State → Prop}
variable {cc : ByteArray} {own : String} {cA : Nat → ClassId} {D : va_G} {A : Nat → Prop} {pc : Nat} {ls : Array Slot} {rest : List Value} {ws : va_W}
abbrev cnX (p : Program) (s : State) (m : MethodId) (args : Array Value) (c : Code) (cc : ByteArray) (own : String) (D : va_G) (cA : Nat → ClassId) (A : Nat → Prop) : Prop := p.tables.exec = Jvm.exec ∧ c.code = cc ∧ s.vm.findClass own = some m.cls ∧ (∀ w ∈ am_G, w.before args s = true) ∧ va_K D vwCl (am_tys cA) s ∧ ∀ q, s.heap.size ≤ q → A q
/-- a new array's entry -/
abbrev arE (cA : Nat → ClassId) (t N : Nat) : va_E := .inl (cA t, N, if t = 2 then .inr (.inl fun _ => 0) else .inl fun _ => 0)
theorem cw_ai : Cond.arrayClass .int ∈ am_G := am_G_mem (am_at_mem (p := 1046) (by decide +kernel)) rfl
theorem cw_aj : Cond.arrayClass .long ∈ am_G := am_G_mem (am_at_mem (p := 1063) (by decide +kernel)) rfl
theorem cw_az : Cond.arrayClass .boolean ∈ am_G := am_G_mem (am_at_mem (p := 1089) (by decide +kernel)) rfl
theorem cn_nn {N : Nat} (h : N < 100000) : ¬ nI N < 0 := by
  rw [i_lt, i_n (by omega), show (0 : Int32).toInt = 0 from rfl]
  omega
theorem cn_arrI (hC : cnX p s m args c cc own D cA A) (hP : va_P D vwCl ws H) (hD : va_D A ws) (hS : va_S A s.heap H locs) {N : Nat} (hN : N < 100000) (hcells : cells + 1 ≤ R.cells) (hslots : slots + N ≤ R.slots) (hd : decode cc pc = .ok (.newarray .int, 2))
    (kk : ∀ (q : Nat) (H1 : Heap), va_P D vwCl (ws ++ [(q, arE cA 0 N)]) H1 → va_D A (ws ++ [(q, arE cA 0 N)]) → va_S A s.heap H1 locs → W p l e R s m args below meth c H1 locs (cells + 1) (slots + N) Q (F0 m (pc + 2) ls (.ref q :: rest))) : W p l e R s m args below meth c H locs cells slots Q (F0 m pc ls (.int (nI N) :: rest)) := by
  obtain ⟨hx, hb, hown, hts, hK, hA⟩ := hC
  refine va_newa (atype := .int) (ty := .int) (a0 := (N, .inl fun _ => 0)) hx hb (hts _ cw_ai) rfl hK hP hD hS hA (fun _ => rfl) (cn_nn hN) (nI_clamp (by omega)) (Nat.le_trans (Nat.mul_le_mul (Nat.le_of_lt hN) (show componentBytes FieldType.int ≤ 8 by decide)) (Nat.le_of_ble_eq_true rfl)) hcells hslots hd (fun q cB H1 hK1 hP1 hD1 hS1 => ?_)
  have e9 : cB = cA 0 := by
    have a1 : s.vm.findClass ("[" ++ FieldType.int.toString) = some cB := (hK1.2 3 (cB, .int) rfl).2
    have a2 : s.vm.findClass ("[" ++ FieldType.int.toString) = some (cA 0) := (hK.2 0 (cA 0, .int) rfl).2
    exact Option.some.inj (a1.symm.trans a2)
  subst e9
  exact kk q H1 hP1 hD1 hS1
theorem cn_arrZ (hC : cnX p s m args c cc own D cA A) (hP : va_P D vwCl ws H) (hD : va_D A ws) (hS : va_S A s.heap H locs) {N : Nat} (hN : N < 100000) (hcells : cells + 1 ≤ R.cells) (hslots : slots + N ≤ R.slots) (hd : decode cc pc = .ok (.newarray .boolean, 2))
    (kk : ∀ (q : Nat) (H1 : Heap), va_P D vwCl (ws ++ [(q, arE cA 1 N)]) H1 → va_D A (ws ++ [(q, arE cA 1 N)]) → va_S A s.heap H1 locs → W p l e R s m args below meth c H1 locs (cells + 1) (slots + N) Q (F0 m (pc + 2) ls (.ref q :: rest))) : W p l e R s m args below meth c H locs cells slots Q (F0 m pc ls (.int (nI N) :: rest)) := by
  obtain ⟨hx, hb, hown, hts, hK, hA⟩ := hC
  refine va_newa (atype := .boolean) (ty := .boolean) (a0 := (N, .inl fun _ => 0)) hx hb (hts _ cw_az) rfl hK hP hD hS hA (fun _ => rfl) (cn_nn hN) (nI_clamp (by omega)) (Nat.le_trans (Nat.mul_le_mul (Nat.le_of_lt hN) (show componentBytes FieldType.boolean ≤ 8 by decide)) (Nat.le_of_ble_eq_true rfl)) hcells hslots hd (fun q cB H1 hK1 hP1 hD1 hS1 => ?_)
  have e9 : cB = cA 1 := by
    have a1 : s.vm.findClass ("[" ++ FieldType.boolean.toString) = some cB := (hK1.2 3 (cB, .boolean) rfl).2
    have a2 : s.vm.findClass ("[" ++ FieldType.boolean.toString) = some (cA 1) := (hK.2 1 (cA 1, .boolean) rfl).2
    exact Option.some.inj (a1.symm.trans a2)
  subst e9
  exact kk q H1 hP1 hD1 hS1
theorem cn_arrJ (hC : cnX p s m args c cc own D cA A) (hP : va_P D vwCl ws H) (hD : va_D A ws) (hS : va_S A s.heap H locs) {N : Nat} (hN : N < 100000) (hcells : cells + 1 ≤ R.cells) (hslots : slots + N ≤ R.slots) (hd : decode cc pc = .ok (.newarray .long, 2))
    (kk : ∀ (q : Nat) (H1 : Heap), va_P D vwCl (ws ++ [(q, arE cA 2 N)]) H1 → va_D A (ws ++ [(q, arE cA 2 N)]) → va_S A s.heap H1 locs → W p l e R s m args below meth c H1 locs (cells + 1) (slots + N) Q (F0 m (pc + 2) ls (.ref q :: rest))) : W p l e R s m args below meth c H locs cells slots Q (F0 m pc ls (.int (nI N) :: rest)) := by
  obtain ⟨hx, hb, hown, hts, hK, hA⟩ := hC
  refine va_newa (atype := .long) (ty := .long) (a0 := (N, .inr (.inl fun _ => 0))) hx hb (hts _ cw_aj) rfl hK hP hD hS hA (fun _ => rfl) (cn_nn hN) (nI_clamp (by omega)) (Nat.le_trans (Nat.mul_le_mul (Nat.le_of_lt hN) (show componentBytes FieldType.long ≤ 8 by decide)) (Nat.le_of_ble_eq_true rfl)) hcells hslots hd (fun q cB H1 hK1 hP1 hD1 hS1 => ?_)
  have e9 : cB = cA 2 := by
    have a1 : s.vm.findClass ("[" ++ FieldType.long.toString) = some cB := (hK1.2 3 (cB, .long) rfl).2
    have a2 : s.vm.findClass ("[" ++ FieldType.long.toString) = some (cA 2) := (hK.2 2 (cA 2, .long) rfl).2
    exact Option.some.inj (a1.symm.trans a2)
  subst e9
  exact kk q H1 hP1 hD1 hS1
/-- a final field of the new object, set in its constructor -/
theorem cn_put (hC : cnX p s m args c cc own D cA A) (hin : meth.name = "<init>") {ci N k idx a : Nat} {T : u_T} {fs : List Value} {v : Value} {ty : FieldType} (hr : vwCl[ci]? = some (own, T, N)) (hP : va_P D vwCl ((a, .inr (ci, fs)) :: ws) H) (hD : va_D A ((a, .inr (ci, fs)) :: ws)) (hS : va_S A s.heap H locs) (hw : Cond.fieldLink own idx own (T k).2.1 (T k).2.2.1 ∈ am_G) (hk : k < N) (hdecl : (T k).1 = own) (hfin : (T k).2.2.2 = true) (hd : parseFieldDescriptor (T k).2.2.1 = some ty) (hn : narrow ty v = v) (hfit : fits ty v = true) (hl : k < fs.length) (hdg : decode cc pc = .ok (.putfield idx, 3))
    (kk : ∀ (H1 : Heap) (locs1 : List Loc), va_P D vwCl ((a, .inr (ci, fs.set k v)) :: ws) H1 → va_D A ((a, .inr (ci, fs.set k v)) :: ws) → va_S A s.heap H1 locs1 → W p l e R s m args below meth c H1 locs1 cells slots Q (F0 m (pc + 3) ls rest)) : W p l e R s m args below meth c H locs cells slots Q (F0 m pc ls (v :: .ref a :: rest)) := by
  obtain ⟨hx, hb, hown, hts, hK, hA⟩ := hC
  obtain ⟨ty0, hty, hnm⟩ := am_typ hr
  exact va_putF (own := own) (ref := own) hx hb hts (am_cls hr) ty0 hty hnm hown hK hP hD hS 0 rfl hr k hk (hts _ hw) (fun x h => by rw [hdecl] at h; exact h) hfin hin hdecl hd hn hfit hl hdg kk
theorem cn_get (hC : cnX p s m args c cc own D cA A) {ci N k idx a : Nat} {T : u_T} {fs : List Value} {v : Value} (hr : vwCl[ci]? = some (own, T, N)) (hP : va_P D vwCl ((a, .inr (ci, fs)) :: ws) H) (hw : Cond.fieldLink own idx own (T k).2.1 (T k).2.2.1 ∈ am_G) (hk : k < N) (hdecl : (T k).1 = own) (hv : fs[k]? = some v) (hdg : decode cc pc = .ok (.getfield idx, 3))
    (kk : W p l e R s m args below meth c H locs cells slots Q (F0 m (pc + 3) ls (v :: rest))) : W p l e R s m args below meth c H locs cells slots Q (F0 m pc ls (.ref a :: rest)) := by
  obtain ⟨hx, hb, hown, hts, hK, hA⟩ := hC
  exact va_get (own := own) (ref := own) hx hb hts (am_cls hr) hown hK hP 0 rfl hr k hk (hts _ hw) (fun x h => by rw [hdecl] at h; exact h) hv hdg kk
/-- a constructor's contract: the new object stands first, the rest of the world stays -/
abbrev cnPc (D : va_G) (cA : Nat → ClassId) (A : Nat → Prop) (h0 : Nat) (as : List Value) (ci : Nat) (fs : List Value) (ws : va_W) (Z : State → Prop) : Array Value → State → Prop := fun v U => v = (Value.ref h0 :: as).toArray ∧ va_P D vwCl ((h0, .inr (ci, fs)) :: ws) U.heap ∧ va_K D vwCl (am_tys cA) U ∧ va_D A ((h0, .inr (ci, fs)) :: ws) ∧ (∀ q, U.heap.size ≤ q → A q) ∧ Z U
abbrev cnQc (D : va_G) (A : Nat → Prop) (F : va_W → Prop) : Array Value → State → Outcome → State → Prop := fun _ st o t => o = .returned none ∧ (∃ W9, F W9 ∧ va_P D vwCl W9 t.heap ∧ va_D A W9) ∧ va_F A st t
theorem cnPc_blind {h0 ci : Nat} {as fs : List Value} {Z : State → Prop} (hZ : ∀ (U : State) (g : JFrame) (mk : MethodId) (a : Array Value), Z U → Z (U.calling g mk a)) : FrameBlind (cnPc D cA A h0 as ci fs ws Z) := fun a U g mk h => ⟨h.1, h.2.1, va_K.moved (u := U) (U := U.calling g mk a) (Vm.Alike.refl U.vm) h.2.2.1, h.2.2.2.1, h.2.2.2.2.1, hZ U g mk a h.2.2.2.2.2⟩
theorem cn_call (hC : cnX p s m args c cc own D cA A) (hml : ls.size = c.maxLocals) {y : MethodName} {bytes : ByteArray} {maxL n idx mc ms : Nat} {as : List Value} {ci q : Nat} {fs : List Value} {F : va_W → Prop} {rm : Room} {Z : State → Prop} (hZb : ∀ (U : State) (g : JFrame) (mk : MethodId) (a : Array Value), Z U → Z (U.calling g mk a)) (hZ : ∀ U : State, U.heap = H → s.WarmedH U.vm → Z U)
    (hM : Met l y (Cond.code y bytes maxL none :: am_G) rm (cnPc D cA A q as ci fs ws Z) (cnQc D A F) mc ms A) (hy1 : y.name = "<init>") (hw1 : Cond.code y bytes maxL none ∈ am_G) (hw2 : Cond.initialized y.cls ∈ am_G) (hw3 : Cond.instanceMethod y ∈ am_G)
    (hlk : Cond.methodLink own idx y ∈ am_G ∨ va_Nw (.methodLinkNest own idx y "KeyArchive") s) (hcl : y.cls ≠ "java/lang/invoke/MethodHandle" ∧ y.cls ≠ "java/lang/invoke/VarHandle") (hpar : (parseMethodDescriptor y.desc).map (fun d => d.parameters.length) = some n) (hn : as.length = n)
    (hrm : rm.cells = mc ∧ rm.slots = ms ∧ rm.frames + 1 ≤ R.frames ∧ 8 + (maxL + 11) + rm.locals ≤ R.locals) (hf : cells + mc ≤ R.cells ∧ slots + ms ≤ R.slots) (hP : va_P D vwCl ((q, .inr (ci, fs)) :: ws) H) (hD : va_D A ((q, .inr (ci, fs)) :: ws)) (hS : va_S A s.heap H locs) (hcat : (rest.map fun v => v.category).sum ≤ 8) (hd : decode cc pc = .ok (.invokespecial idx, 3))
    (kk : ∀ (W9 : va_W) (H1 : Heap) (locs1 : List Loc), F W9 → va_P D vwCl W9 H1 → va_D A W9 → va_S A s.heap H1 locs1 → W p l e R s m args below meth c H1 locs1 (cells + mc) (slots + ms) Q (F0 m (pc + 3) ls rest)) : W p l e R s m args below meth c H locs cells slots Q (F0 m pc ls (as.reverse ++ .ref q :: rest)) := by
  obtain ⟨hx, hb, hown, hts, hK, hA⟩ := hC
  have hsig : ∀ sig, parseMethodDescriptor y.desc = some sig → n = sig.parameters.length := fun sig h9 => by
    rw [h9] at hpar
    exact (Option.some.inj hpar).symm
  have hws : ∀ w ∈ (Cond.code y bytes maxL none :: am_G), ∀ (a' : Array Value) (U : State), s.WarmedH U.vm → w.before a' U = true := fun w hw a' U hW => by
    have hw9 : w ∈ am_G := (List.mem_cons.mp hw).elim (fun z => z ▸ hw1) id
    exact word_at hW (am_good hw9) (hts w hw9)
  have hPre : PreS s H (cnPc D cA A q as ci fs ws Z) (.ref q :: as) := ⟨cnPc_blind hZb, fun U hU hW => ⟨rfl, by rw [hU]; exact hP, va_K.moved hW.alike hK, hD, by rw [hU]; exact fun x hx => hA x (Nat.le_trans hS.1 hx), hZ U hU hW⟩⟩
  have hroom : 2 * (F0 m pc ls (as.reverse ++ .ref q :: rest)).monitorRoom + (rest.map fun v => v.category).sum ≤ 8 := lv_room hcat
  have hr : va_Run p l e R s m args below meth c H locs cells slots mc ms (F0 m pc ls (as.reverse ++ .ref q :: rest)) rest (cnQc D A F (Value.ref q :: as).toArray) A := by
    rcases hlk with hlk | hlk
    · exact va_runI (As := as) (index := idx) (n := n) (bytes := bytes) (maxL := maxL) ⟨hx, hb, rfl, hown, hts⟩ hM ⟨⟨hrm.1, hrm.2.1, hrm.2.2.1, hrm.2.2.2, hws, List.mem_cons_self, hts _ hw1, hts _ hw2, hcl, hsig, hts _ hlk⟩, hy1, hts _ hw3⟩ hPre rfl hn hml rfl hroom hd hf
    · exact va_runIN (As := as) (index := idx) (n := n) (bytes := bytes) (maxL := maxL) (host := "KeyArchive") ⟨hx, hb, rfl, hown, hts⟩ hM ⟨⟨⟨hrm.1, hrm.2.1, hrm.2.2.1, hrm.2.2.2, hws, List.mem_cons_self⟩, hts _ hw1, hts _ hw2, hcl, hsig, va_Nw.use rfl hlk⟩, hy1, hts _ hw3⟩ hPre rfl hn hml rfl hroom hd hf
  intro T hT X
  obtain ⟨v9, st₀, t, T', L, h0, X', hL, e1, e2, ⟨hv, ⟨W9, hF9, hP9, hD9⟩, hz, hk⟩, st⟩ := hr T hT X
  cases hv
  rw [h0] at hz hk
  obtain ⟨t2, a1, b1⟩ := kk W9 T'.heap (locs ++ L) hF9 (by rw [e1]; exact hP9) hD9
    ⟨Nat.le_trans hS.1 (by rw [e1]; exact hz), fun x h1 h2 => by rw [e1, hk x (Nat.lt_of_lt_of_le h1 hS.1) h2]; exact hS.2.1 x h1 h2, fun x hx => by
      rcases List.mem_append.mp hx with h | h
      · exact hS.2.2 x h
      · exact hL x h⟩ T' rfl X'
  exact ⟨t2, st t2 a1, b1⟩
end CNS
