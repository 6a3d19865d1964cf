/-! throws, ends, and all methods -/
section AMT
variable {p : Program} {l : Launch} {e : Env} {R : Room} {s : State} {m : MethodId} {args : Array Value} {below : List Frame} {meth : Method} {c : Code} {H : Heap} {locs : List Loc} {cells slots : Nat}
variable {Qc : Array Value → State → Outcome → State → Prop} {XC : String → State → State → Prop} {free : Addr → Prop} {ls : Array Slot} {rest : List Value}
set_option maxHeartbeats 4000000 in
theorem am_thrN {cc : ByteArray} {pc : Nat} (hexec : p.tables.exec = Jvm.exec) (hb : c.code = cc) (hl : l.stackTraces = false) {own text : String} {ik is ic k mc ms sa : Nat} {A : Nat → Prop}
    (hown : s.vm.findClass own = some m.cls)
    (hk : (Cond.classLink own ik am_NS).before args s = true) (hini : (Cond.initialized am_NS).before args s = true) (hstr : vk_R own is text sa s) (hat : ∀ w ∈ am_atN' own ic, w.before args s = true)
    (hgood : ∀ w ∈ Cond.classLink own ik am_NS :: Cond.initialized am_NS :: am_atN' own ic, vx_ot w = true)
    (hU : vx_Zq Bundle.tN "UNASSIGNED_STACK" Bundle.steD A s s.heap) (hN : vx_Zq Bundle.tN "SUPPRESSED_SENTINEL" Bundle.listD A s s.heap) (hS : va_S A s.heap H locs) (hsize : ls.size = c.maxLocals)
    (d0 : decode cc pc = .ok (.new ik, 3)) (d3 : decode cc (pc + 3) = .ok (.dup, 1)) (d4 : (decode cc (pc + 4) = .ok (.ldc is, 2) ∧ k = 2) ∨ (decode cc (pc + 4) = .ok (.ldc_w is, 3) ∧ k = 3)) (d6 : decode cc (pc + 4 + k) = .ok (.invokespecial ic, 3)) (d9 : decode cc (pc + 4 + k + 3) = .ok (.athrow, 1))
    (hout : ∀ x ∈ c.exceptionTable.toList, covers x (pc + 4 + k + 3) = false)
    (hRframes : 5 < R.frames) (hRlocals : (rest.map fun v => v.category).sum + 82 ≤ R.locals) (hRcells : cells + 1 ≤ R.cells) (hRslots : slots + 6 ≤ R.slots) (hlocks : meth.locks = false)
    (hx : ∀ t : State, s.vm.Alike t.vm → H.size ≤ t.heap.size → (∀ q : Nat, q < H.size → t.heap[q]? = H[q]?) → XC am_NS s t)
    (hf : ∀ z ∈ locs, free z.base) (hc : cells + 1 ≤ mc) (hs : slots + 6 ≤ ms) :
    W p l e R s m args below meth c H locs cells slots (vx_MQ below Qc XC args s mc ms free) (F0 m pc ls rest) := by
  intro T hT X
  have htr : e.platform.stackTraces = false := (show e.platform.stackTraces = l.stackTraces by rw [X.admits.platform]).trans hl
  have Y := vx_rebase X (R' := { frames := R.frames, locals := R.locals, cells := 1, slots := 6 }) (Nat.le_refl _) (Nat.le_refl _) hRcells hRslots
  obtain ⟨s', hA⟩ : ∃ z, z = (T.setVm s.vm).setFrames (.invoking m args :: below) := ⟨_, rfl⟩
  rw [← hA] at Y
  have hvm : s'.vm = s.vm := by rw [hA]; rfl
  have hhp : s'.heap = H := by rw [hA]; exact hT
  have hW0 : s.WarmedH s'.vm := by rw [hvm]; exact State.WarmedH.refl s
  have hat' : ∀ w ∈ am_atN' own ic, w.before args s' = true := fun w hw => vx_ot_at hW0 hvm.symm (hgood w (List.mem_cons_of_mem _ (List.mem_cons_of_mem _ hw))) (hat w hw)
  have hk' : (Cond.classLink own ik am_NS).before args s' = true := vx_ot_at hW0 hvm.symm (hgood _ List.mem_cons_self) hk
  have hini' : (Cond.initialized am_NS).before args s' = true := vx_ot_at hW0 hvm.symm (hgood _ (List.mem_cons_of_mem _ List.mem_cons_self)) hini
  have hU' : vx_Zq Bundle.tN "UNASSIGNED_STACK" Bundle.steD A s' s'.heap := by rw [hhp]; exact vx_Zq.moved hW0.alike (hU.kept hS.2.1)
  have hN' : vx_Zq Bundle.tN "SUPPRESSED_SENTINEL" Bundle.listD A s' s'.heap := by rw [hhp]; exact vx_Zq.moved hW0.alike (hN.kept hS.2.1)
  have h : ∀ w ∈ am_atN own ic, w.before args s' = true := vx_own hat' (vx_isRefq hU'.1) (vx_isRefq hN'.1) hU'.2.word hN'.2.word
  have hown' : s'.vm.findClass own = some m.cls := by rw [hvm]; exact hown
  have hins : (Cond.instantiable am_NS 6).before args s' = true := h _ (by simp [am_atN])
  obtain ⟨vm₁, cX, kX, hfX, hkX, -, -, X₁, st1⟩ := Y.newCold hexec (own := own) (C := am_NS) (index := ik) (n := 6) hown' hk' hins hini'
    (g := F0 m pc ls rest) rfl (by rw [hb]; exact d0) (Nat.le_refl _) (Nat.le_refl _)
  generalize hT1 : (T.setVm vm₁).pushCell { cls := cX, slots := kX.instanceTypes.map defaultValue, vm := .none } = T1 at X₁ st1
  have hcat : (Value.ref T.heap.size).category = 1 := rfl
  have hcellA : T1.heap[T.heap.size]? = some (freshCell cX kX) := by rw [← hT1]; exact State.heap_pushCell_size _ _
  have d3' : decode c.code (pc + 3) = .ok (.dup, 1) := by rw [hb]; exact d3
  have hstr' : vk_R own is text sa s' := vk_R.warm hW0 hstr
  obtain ⟨U, hsteps, hrun, hend, hW, hsame, ce, hce, hO1, hO2⟩ := am_ctorN X₁ hexec htr (own := own) (ic := ic) hown' h (fun x hx => nomatch hx) hfX hkX hcellA (by rw [hhp, hT]; exact Nat.le_refl _) (msg := .ref sa) rfl
    (g := { method := m, pc := pc + 4 + k, locals := ls, stack := .ref sa :: .ref T.heap.size :: .ref T.heap.size :: rest, locked := none }) rfl hsize rfl rfl (rest := rest) rfl
    (by rw [hb]; exact d6) (by rw [hb]; exact d9) hout hRframes (by simp only [List.map_cons, List.sum_cons, hcat]; show 2 * 0 + _ + _ ≤ _; omega) hlocks
  obtain ⟨f1, f2⟩ := vx_frame hsame
  rw [hhp] at f1 f2
  have hWs : s.WarmedH U.vm := State.WarmedH.trans hW0 hW
  have hcl : s.vm.findClass am_NS = some ce.cls := by rw [hvm] at hO2; exact hO2
  have hall : s.sameButNew ({ U with vm := s.vm } : State) locs mc ms := by
    subst hA
    obtain ⟨e1, e2⟩ := hsame
    rw [State.setFrames_setFrames] at e1
    have h2 : (T.setVm s.vm).sameButNew ({ U with vm := s.vm } : State) [] (0 + 1) (0 + 6) := ⟨e1, e2⟩
    have h3 := X.same.trans h2
    rw [List.append_nil] at h3
    exact h3.mono hc hs
  refine ⟨U, ?_, .threw T.heap.size, hrun, hend, Or.inr ⟨T.heap.size, rfl, am_NS, ce, locs, hx U hWs.alike f1 (fun q hq => f2 q hq (fun z hz => nomatch hz)), hce, hO1, hcl, hWs, hall, hf⟩⟩
  refine st1 _ ?_
  show Steps p.tables e below (T1.setTop { method := m, pc := pc + 3, locals := ls, stack := .ref T.heap.size :: rest, locked := none }) _
  jvm_step X₁.here [X₁.here.top, hexec, d3', Value.category]
  rcases d4 with ⟨d4, rfl⟩ | ⟨d4, rfl⟩
  · have d4' : decode c.code (pc + 4) = .ok (.ldc is, 2) := by rw [hb]; exact d4
    exact X₁.ldcString hexec (own := own) (text := text) (index := is) (a := sa) hown' hstr'.1 hstr'.2
      (g := { method := m, pc := pc + 4, locals := ls, stack := .ref T.heap.size :: .ref T.heap.size :: rest, locked := none }) rfl d4' _ hsteps
  · have d4' : decode c.code (pc + 4) = .ok (.ldc_w is, 3) := by rw [hb]; exact d4
    exact X₁.ldcStringW hexec (own := own) (text := text) (index := is) (a := sa) hown' hstr'.1 hstr'.2
      (g := { method := m, pc := pc + 4, locals := ls, stack := .ref T.heap.size :: .ref T.heap.size :: rest, locked := none }) rfl d4' _ hsteps
end AMT
theorem am_ot_good {w : Cond} (h : (goodWord w || am_nw w) = true) : vx_ot w = true := by
  unfold vx_ot
  simp only [Bool.or_eq_true] at h ⊢
  rcases h with h | h
  · exact Or.inr h
  · exact Or.inl (am_nw_tab h)
theorem am_words {args : Array Value} {s : State} (hts : ∀ w ∈ am_G, w.before args s = true) (hZw : am_Zw s) {L : List Cond} (h : L.all (fun w => decide (w ∈ lw_tbl) && (goodWord w || am_nw w)) = true) : (∀ w ∈ L, w.before args s = true) ∧ ∀ w ∈ L, vx_ot w = true := by
  constructor
  · intro w hw
    have h1 := List.all_eq_true.mp h w hw
    simp only [Bool.and_eq_true, decide_eq_true_eq, Bool.or_eq_true] at h1
    rcases h1.2 with h2 | h2
    · exact hts w (am_G_mem h1.1 h2)
    · exact va_Nw.use (am_nw_tab h2) (hZw.1 w (List.mem_filter.mpr ⟨h1.1, h2⟩))
  · intro w hw
    have h1 := List.all_eq_true.mp h w hw
    simp only [Bool.and_eq_true] at h1
    exact am_ot_good h1.2
section AMU
variable {p : Program} {l : Launch} {e : Env} {R : Room} {s : State} {m : MethodId} {args : Array Value} {below : List Frame} {meth : Method} {c : Code} {H : Heap} {locs : List Loc} {cells slots : Nat} {Q : State → Prop}
variable {ad : Nat → Nat} {cA : Nat → ClassId} {D : va_G} {A : Nat → Prop} {X : am_X} {C : am_C} {M : am_Mt} {d pc : Nat} {ls : Array Slot} {lv st : List Value} {σ σ' : am_M}
/-- a throw -/
theorem am_thr_sound (hC : am_Cx p l R s m args meth c M D cA ad A d) (hl : ls.size = M.2.2.1) (hP : va_P D vwCl (am_ws ad cA σ) H) (hS : va_S A s.heap H locs) {ik is ic k : Nat} {E : String} {mc ms : Nat} {Qc : Array Value → State → Outcome → State → Prop}
    (h : am_new M ik is ic st σ = some (.inl (.inr E, σ'))) (d0 : decode M.2.1 pc = .ok (.new ik, 3)) (d3 : decode M.2.1 (pc + 3) = .ok (.dup, 1)) (d4 : (decode M.2.1 (pc + 4) = .ok (.ldc is, 2) ∧ k = 2) ∨ (decode M.2.1 (pc + 4) = .ok (.ldc_w is, 3) ∧ k = 3)) (d6 : decode M.2.1 (pc + 4 + k) = .ok (.invokespecial ic, 3)) (d9 : decode M.2.1 (pc + 4 + k + 3) = .ok (.athrow, 1))
    (hm1 : cells + (σ'.2.2 - σ.2.2) = mc) (hm2 : slots + 6 * (σ'.2.2 - σ.2.2) = ms) (hcap : mc ≤ R.cells ∧ ms ≤ R.slots) :
    W p l e R s m args below meth c H locs cells slots (vx_MQ below Qc (am_Qx D cA ad A E σ') args s mc ms A) (F0 m pc ls (st.map (am_cv ad))) := by
  obtain ⟨⟨hx, hb, hml, hown, hts⟩, ⟨hlocks, hret, hE1, hE2, hhh⟩, ⟨hK, hZw, hZo, hZt, hA, hD⟩, htr, hRf, hRl⟩ := hC
  unfold am_new at h
  split at h
  · rename_i hh
    obtain ⟨hcat, h⟩ := Option.ite_none_right_eq_some.mp h
    have hcat := of_decide_eq_true hcat
    split at h
    · rename_i q hq
      cases h
      have hq1 := List.find?_some hq
      have hq2 := List.mem_of_find?_eq_some hq
      simp only [Bool.and_eq_true, beq_iff_eq] at hq1
      obtain ⟨e1, e2, e3, e4⟩ := hq1
      have hrow := List.all_eq_true.mp am_xt_ok q hq2
      simp only [Bool.and_eq_true, Bool.or_eq_true, decide_eq_true_eq, beq_iff_eq] at hrow
      obtain ⟨r1, r2, r3, r4⟩ := hrow
      have w3 := hts _ (am_G_mem (am_at_mem r3) rfl)
      have w4 := hts _ (am_G_mem (am_at_mem r4) rfl)
      rw [e1, e2] at w3
      obtain ⟨sa, hsa⟩ := hZw.2.1 q hq2
      rw [e1, e3] at hsa
      have hKA : M.1.cls = "KeyArchive" := e1.symm.trans r1
      have hk1 : (am_tick σ).2.2 - σ.2.2 = 1 := by show σ.2.2 + 1 - σ.2.2 = 1; omega
      rw [hk1] at hm1 hm2
      have hpost : ∀ t : State, s.vm.Alike t.vm → H.size ≤ t.heap.size → (∀ z : Nat, z < H.size → t.heap[z]? = H[z]?) → am_Qx D cA ad A q.2.2.2.2.1 (am_tick σ) q.2.2.2.2.1 s t := by
        intro t _ hz hkp
        refine ⟨rfl, ?_, Nat.le_trans hS.1 hz, fun z h1 h2 => by rw [hkp z (Nat.lt_of_lt_of_le h1 hS.1)]; exact hS.2.1 z h1 h2⟩
        have hsame : am_ws ad cA (am_tick σ) = am_ws ad cA σ := rfl
        rw [hsame]
        intro k9 q9 h9
        exact (hP k9 q9 h9).kept (hkp _ (hP k9 q9 h9).lt)
      rcases r2 with r2 | ⟨r2a, r2b⟩
      · have hxs := List.all_eq_true.mp am_xs_ok _ r2
        simp only [am_xok, Bool.and_eq_true] at hxs
        rw [e4, ← hKA] at hxs
        obtain ⟨u1, u2⟩ := am_words hts hZw hxs.2
        have hg : ∀ w ∈ Cond.classLink M.1.cls ik q.2.2.2.2.1 :: Cond.initialized q.2.2.2.2.1 :: vx_atS M.1.cls ic q.2.2.2.2.1 am_exn, vx_ot w = true := by
          intro w hw
          rcases List.mem_cons.mp hw with rfl | hw
          · rfl
          · rcases List.mem_cons.mp hw with rfl | hw
            · rfl
            · exact u2 w hw
        rcases d4 with ⟨d4, rfl⟩ | ⟨d4, rfl⟩
        · exact vx_throwS (A := A) hx hb htr (own := M.1.cls) (cls := q.2.2.2.2.1) (names := am_exn) hown hxs.1 am_fit_n w3 w4 hsa u1 hg hZt.1 hZt.2 hS (by rw [hml]; exact hl) d0 d3 d4 d6 d9 (fun x hx9 => (hE1 hh x hx9).elim) (by show 2 + 3 < R.frames; omega) (by rw [am_cat_cv]; show am_cat st + (13 * (2 + 1) + 43) ≤ R.locals; omega) (by omega) (by omega) hlocks hpost hS.2.2 (by omega) (by omega)
        · exact vx_throwSW (A := A) hx hb htr (own := M.1.cls) (cls := q.2.2.2.2.1) (names := am_exn) hown hxs.1 am_fit_n w3 w4 hsa u1 hg hZt.1 hZt.2 hS (by rw [hml]; exact hl) d0 d3 d4 d6 d9 (fun x hx9 => (hE1 hh x hx9).elim) (by show 2 + 3 < R.frames; omega) (by rw [am_cat_cv]; show am_cat st + (13 * (2 + 1) + 43) ≤ R.locals; omega) (by omega) (by omega) hlocks hpost hS.2.2 (by omega) (by omega)
      · rw [e4] at r2a
        subst r2a
        have r2b : q.2.2.2.2.1 = am_NS := r2b
        rw [r2b] at w3 w4 hpost ⊢
        obtain ⟨u1, u2⟩ := am_words hts hZw am_atN_ok.2.2.2
        rw [← hKA] at u1 u2
        exact am_thrN (A := A) hx hb htr (own := M.1.cls) hown w3 w4 hsa u1 (by
          intro w hw
          rcases List.mem_cons.mp hw with rfl | hw
          · rfl
          · rcases List.mem_cons.mp hw with rfl | hw
            · rfl
            · exact u2 w hw) hZt.1 hZt.2 hS (by rw [hml]; exact hl) d0 d3 d4 d6 d9 (fun x hx9 => (hE1 hh x hx9).elim) (by omega) (by rw [am_cat_cv]; omega) (by omega) (by omega) hlocks hpost hS.2.2 (by omega) (by omega)
    · cases h
  · cases h
/-- the end of a run that returns -/
theorem am_termR (hC : am_Cx p l R s m args meth c M D cA ad A d) (hP : va_P D vwCl (am_ws ad cA σ) H) (hS : va_S A s.heap H locs) {v : Option Value} (h : am_nxt X C M pc lv st σ = some (.inl (.inl v, σ'))) {mc ms : Nat} (h1 : cells + (σ'.2.2 - σ.2.2) = mc) (h2 : slots + 6 * (σ'.2.2 - σ.2.2) = ms) :
    W p l e R s m args below meth c H locs cells slots (MQ below (am_Qr D cA ad A v σ') args s mc ms A) (F0 m pc ls (st.map (am_cv ad))) := by
  obtain ⟨⟨hx, hb, hml, hown, hts⟩, ⟨hlocks, hret, hE1, hE2, hhh⟩, ⟨hK, hZw, hZo, hZt, hA, hD⟩, htr, hRf, hRl⟩ := hC
  have inv : ∀ (kd : Bool) (k : Nat), am_inv kd C M k pc lv st σ = some (.inl (.inl v, σ')) → False := by
    intro kd k h
    obtain ⟨z, N, as, rest, hz, hN, hk, hst, hlen, hcat, hrecv, h9⟩ := am_inv_spec h
    unfold am_aft at h9
    split at h9
    · cases h9
    · obtain ⟨-, h9⟩ := Option.ite_none_right_eq_some.mp h9
      cases h9
    · split at h9
      · cases h9
      · unfold am_exc at h9
        split at h9
        · cases h9
        · split at h9
          · cases h9
          · split at h9
            · split at h9 <;> cases h9
            · split at h9 <;> cases h9
            · cases h9
  have new : ∀ (ik is ic : Nat), am_new M ik is ic st σ = some (.inl (.inl v, σ')) → False := by
    intro ik is ic h
    unfold am_new at h
    split at h
    · obtain ⟨-, h⟩ := Option.ite_none_right_eq_some.mp h
      split at h <;> cases h
    · cases h
  unfold am_nxt at h
  split at h
  · cases h
  · rename_i i len hd
    split at h
    · cases h
    · split at h
      · cases h
      · split at h
        · cases h
        · split at h
          · cases h
          · unfold am_fE at h
            split at h
            · exact (inv _ _ h).elim
            · exact (inv _ _ h).elim
            · split at h
              · rename_i v9
                obtain ⟨hr, h⟩ := Option.ite_none_right_eq_some.mp h
                cases h
                simp only [Nat.sub_self, Nat.mul_zero, Nat.add_zero] at h1 h2
                subst h1; subst h2
                simp only [Bool.or_eq_true, Bool.and_eq_true, beq_iff_eq] at hr
                rcases hr with hr | ⟨hr, hz⟩
                · exact W.iret hx hb (hret.trans hr) (fun t ht hW => ⟨rfl, by rw [ht]; exact hP, hS.F ht⟩) hS.2.2 hd hlocks
                · refine W.zret hx hb (hret.trans hr) ?_ (fun t ht hW => ⟨rfl, by rw [ht]; exact hP, hS.F ht⟩) hS.2.2 hd hlocks
                  rcases hz with rfl | rfl
                  · decide +kernel
                  · decide +kernel
              · cases h
            · split at h
              · obtain ⟨hr, h⟩ := Option.ite_none_right_eq_some.mp h
                cases h
                simp only [Nat.sub_self, Nat.mul_zero, Nat.add_zero] at h1 h2
                subst h1; subst h2
                simp only [beq_iff_eq] at hr
                exact W.lret hx hb (hret.trans hr) (fun t ht hW => ⟨rfl, by rw [ht]; exact hP, hS.F ht⟩) hS.2.2 hd hlocks
              · cases h
            · split at h
              · obtain ⟨hr, h⟩ := Option.ite_none_right_eq_some.mp h
                cases h
                simp only [Nat.sub_self, Nat.mul_zero, Nat.add_zero] at h1 h2
                subst h1; subst h2
                simp only [beq_iff_eq] at hr
                exact W.vret hx hb (hret.trans hr) (fun t ht hW => ⟨rfl, by rw [ht]; exact hP, hS.F ht⟩) hS.2.2 hd hlocks
              · cases h
            · obtain ⟨-, h⟩ := Option.ite_none_right_eq_some.mp h
              split at h
              · split at h
                · obtain ⟨-, h⟩ := Option.ite_none_right_eq_some.mp h
                  exact (new _ _ _ h).elim
                · cases h
              · split at h
                · obtain ⟨-, h⟩ := Option.ite_none_right_eq_some.mp h
                  exact (new _ _ _ h).elim
                · cases h
              · cases h
            · cases h
/-- the end of a run that throws -/
theorem am_termX (hC : am_Cx p l R s m args meth c M D cA ad A d) (hSp : am_Sp l D cA ad A d C) (hl : ls.size = M.2.2.1) (hP : va_P D vwCl (am_ws ad cA σ) H) (hS : va_S A s.heap H locs) {E : String} (h : am_nxt X C M pc lv st σ = some (.inl (.inr E, σ'))) {mc ms : Nat} (h1 : cells + (σ'.2.2 - σ.2.2) = mc) (h2 : slots + 6 * (σ'.2.2 - σ.2.2) = ms) (hcap : mc ≤ R.cells ∧ ms ≤ R.slots) :
    M.2.2.2.2.1 = [] ∧ W p l e R s m args below meth c H locs cells slots (vx_MQ below (fun _ _ _ _ => False) (am_Qx D cA ad A E σ') args s mc ms A) (F0 m pc ls (st.map (am_cv ad))) := by
  obtain ⟨⟨hx, hb, hml, hown, hts⟩, ⟨hlocks, hret, hE1, hE2, hhh⟩, ⟨hK, hZw, hZo, hZt, hA, hD⟩, htr, hRf, hRl⟩ := id hC
  have inv : ∀ (kd : Bool) (k : Nat), decode M.2.1 pc = .ok (if kd then .invokevirtual k else .invokestatic k, 3) → am_inv kd C M k pc lv st σ = some (.inl (.inr E, σ')) → M.2.2.2.2.1 = [] ∧ W p l e R s m args below meth c H locs cells slots (vx_MQ below (fun _ _ _ _ => False) (am_Qx D cA ad A E σ') args s mc ms A) (F0 m pc ls (st.map (am_cv ad))) := by
    intro kd k hd h
    obtain ⟨z, N, as, rest, hz, hN, hk, hst, hlen, hcat, hrecv, h9⟩ := am_inv_spec h
    unfold am_aft at h9
    split at h9
    · cases h9
    · obtain ⟨-, h9⟩ := Option.ite_none_right_eq_some.mp h9
      cases h9
    · rename_i E9 σ9 hc
      split at h9
      · cases h9
      · rename_i hk2
        have hk2 : (z.2.2.1 == 2) = false := by simpa using hk2
        unfold am_exc at h9
        split at h9
        · rename_i hh
          cases h9
          refine ⟨hh, am_callX hC hSp hl hP hS hd hz hN hk hk2 hst hlen hcat hrecv hc ⟨by omega, by omega⟩ (fun qa ce H1 locs1 g1 g2 g3 g4 g5 => ?_)⟩
          exact vx_out (fun x hx9 => (hE1 hh x hx9).elim) hlocks g3 g4 g5 (fun t ht hW => ⟨rfl, by rw [ht]; exact g1, g2.F ht⟩) g2.2.2 (Nat.le_of_eq h1) (Nat.le_of_eq h2)
        · split at h9
          · cases h9
          · split at h9
            · split at h9 <;> cases h9
            · split at h9 <;> cases h9
            · cases h9
  have hnil : ∀ (ik is ic : Nat), am_new M ik is ic st σ = some (.inl (.inr E, σ')) → M.2.2.2.2.1 = [] := by
    intro ik is ic h
    unfold am_new at h
    split at h
    · assumption
    · cases h
  unfold am_nxt at h
  split at h
  · cases h
  · rename_i i len hd
    split at h
    · cases h
    · split at h
      · cases h
      · split at h
        · cases h
        · split at h
          · cases h
          · unfold am_fE at h
            split at h
            · exact inv true _ hd h
            · exact inv false _ hd h
            · split at h
              · obtain ⟨-, h⟩ := Option.ite_none_right_eq_some.mp h
                cases h
              · cases h
            · split at h
              · obtain ⟨-, h⟩ := Option.ite_none_right_eq_some.mp h
                cases h
              · cases h
            · split at h
              · obtain ⟨-, h⟩ := Option.ite_none_right_eq_some.mp h
                cases h
              · cases h
            · obtain ⟨d3, h⟩ := Option.ite_none_right_eq_some.mp h
              split at h
              · rename_i d4
                split at h
                · rename_i d6
                  obtain ⟨d9, h⟩ := Option.ite_none_right_eq_some.mp h
                  exact ⟨hnil _ _ _ h, am_thr_sound hC hl hP hS h hd d3 (Or.inl ⟨d4, rfl⟩) d6 d9 h1 h2 hcap⟩
                · cases h
              · rename_i d4
                split at h
                · rename_i d6
                  obtain ⟨d9, h⟩ := Option.ite_none_right_eq_some.mp h
                  exact ⟨hnil _ _ _ h, am_thr_sound hC hl hP hS h hd d3 (Or.inr ⟨d4, rfl⟩) d6 d9 h1 h2 hcap⟩
                · cases h
              · cases h
            · cases h
end AMU
