/-! its steps are the bytecode's -/
section BMB
variable {nS : Nat}
def bm_Wd (nS : Nat) (D : va_G) (cA : Nat → ClassId) (ad : Nat → Nat) (A : Nat → Prop) (σ : am_M) (U : State) : Prop := va_P D vwCl (bm_ws nS ad cA σ) U.heap ∧ va_K D vwCl (am_tys cA) U ∧ am_Zw U ∧ am_Zo ad A U ∧ am_Zt A U U.heap ∧ ∀ q, U.heap.size ≤ q → A q
section AMEB
variable {D : va_G} {cA : Nat → ClassId} {ad : Nat → Nat} {A : Nat → Prop} {σ σ' : am_M}
theorem bm_Wd_blind {U : State} {g : JFrame} {mk : MethodId} {a : Array Value} (h : bm_Wd nS D cA ad A σ U) : bm_Wd nS D cA ad A σ (U.calling g mk a) := by
  obtain ⟨h1, h2, ⟨h3, h4, h5⟩, ⟨h6, h7⟩, ⟨h8, h9⟩, h10⟩ := h
  have e : U.vm.Alike (U.calling g mk a).vm := Vm.Alike.refl U.vm
  refine ⟨h1, va_K.moved (u := U) (U := U.calling g mk a) e h2, ⟨fun w hw => va_Nw.same (u := U) (U := U.calling g mk a) (am_nw_tab (am_NW_nw hw)) rfl (h3 w hw), fun q hq => ?_, fun j k hne => va_Nc.moved e (h5 j k hne)⟩, ⟨va_Z.moved (u := U) (U := U.calling g mk a) e h6, va_T.moved (u := U) (U := U.calling g mk a) e h7⟩, ⟨vx_Zq.moved (u := U) (U := U.calling g mk a) e h8, vx_Zq.moved (u := U) (U := U.calling g mk a) e h9⟩, h10⟩
  obtain ⟨sa, hs⟩ := h4 q hq
  exact ⟨sa, vk_R.same rfl hs⟩
theorem bm_Wd_call {s U : State} {H : Heap} {locs : List Loc} (hK : va_K D vwCl (am_tys cA) s) (hZw : am_Zw s) (hZo : am_Zo ad A s) (hZt : am_Zt A s s.heap) (hA : ∀ q, s.heap.size ≤ q → A q) (hS : va_S A s.heap H locs) (hP : va_P D vwCl (bm_ws nS ad cA σ) H) (hU : U.heap = H) (hW : s.WarmedH U.vm) : bm_Wd nS D cA ad A σ U := by
  obtain ⟨h3, h4, h5⟩ := hZw
  refine ⟨by rw [hU]; exact hP, va_K.moved hW.alike hK, ⟨fun w hw => am_nw_warm (am_NW_nw hw) hW (h3 w hw), fun q hq => ?_, fun j k hne => va_Nc.moved hW.alike (h5 j k hne)⟩, ⟨?_, ?_⟩, ⟨?_, ?_⟩, ?_⟩
  · obtain ⟨sa, hs⟩ := h4 q hq
    exact ⟨sa, vk_R.warm hW hs⟩
  · rw [hU]; exact va_Z.moved hW.alike (hZo.1.kept hS.2.1)
  · rw [hU]; exact va_T.moved hW.alike (hZo.2.kept hS.2.1)
  · rw [hU]; exact vx_Zq.moved hW.alike (hZt.1.kept hS.2.1)
  · rw [hU]; exact vx_Zq.moved hW.alike (hZt.2.kept hS.2.1)
  · rw [hU]; exact fun q hq => hA q (Nat.le_trans hS.1 hq)
end AMEB
def bm_Pc (nS : Nat) (D : va_G) (cA : Nat → ClassId) (ad : Nat → Nat) (A : Nat → Prop) (as : List Value) (σ : am_M) : Array Value → State → Prop := fun v U => v = (as.map (am_cv ad)).toArray ∧ bm_Wd nS D cA ad A σ U
def bm_Qr (nS : Nat) (D : va_G) (cA : Nat → ClassId) (ad : Nat → Nat) (A : Nat → Prop) (v : Option Value) (σ : am_M) : Array Value → State → Outcome → State → Prop := fun _ st o t => o = .returned (v.map (am_cv ad)) ∧ va_P D vwCl (bm_ws nS ad cA σ) t.heap ∧ va_F A st t
def bm_Qx (nS : Nat) (D : va_G) (cA : Nat → ClassId) (ad : Nat → Nat) (A : Nat → Prop) (E : String) (σ : am_M) : String → State → State → Prop := fun E' st t => E' = E ∧ va_P D vwCl (bm_ws nS ad cA σ) t.heap ∧ va_F A st t
theorem bm_Pc_blind {D : va_G} {cA : Nat → ClassId} {ad : Nat → Nat} {A : Nat → Prop} {as : List Value} {σ : am_M} : FrameBlind (bm_Pc nS D cA ad A as σ) := fun _ _ _ _ h => ⟨h.1, bm_Wd_blind h.2⟩
/-- every answer of C is the bytecode's -/
def bm_Sp (nS : Nat) (l : Launch) (D : va_G) (cA : Nat → ClassId) (ad : Nat → Nat) (A : Nat → Prop) (d : Nat) (C : am_C) : Prop := ∀ (k : Nat) (as : List Value) (σ : am_M) (r : am_R) (σ' : am_M) (M : am_Mt), C k as σ = some (r, σ') → am_ml[k]? = some M → σ.2.2 ≤ σ'.2.2 ∧ (match r with
  | .inl v => Met l M.1 (am_wds M) (am_rm d (σ'.2.2 - σ.2.2)) (bm_Pc nS D cA ad A as σ) (bm_Qr nS D cA ad A v σ') (σ'.2.2 - σ.2.2) (6 * (σ'.2.2 - σ.2.2)) A
  | .inr E => M.2.2.2.2.1 = [] ∧ vx_Met l M.1 (am_wds M) (am_rm d (σ'.2.2 - σ.2.2)) (bm_Pc nS D cA ad A as σ) (fun _ _ _ _ => False) (bm_Qx nS D cA ad A E σ') (σ'.2.2 - σ.2.2) (6 * (σ'.2.2 - σ.2.2)) A)
/-- what holds all along a method's run -/
def bm_Cx (nS : Nat) (p : Program) (l : Launch) (R : Room) (s : State) (m : MethodId) (args : Array Value) (meth : Method) (c : Code) (M : am_Mt) (D : va_G) (cA : Nat → ClassId) (ad : Nat → Nat) (A : Nat → Prop) (d : Nat) : Prop :=
  (p.tables.exec = Jvm.exec ∧ c.code = M.2.1 ∧ c.maxLocals = M.2.2.1 ∧ s.vm.findClass M.1.cls = some m.cls ∧ ∀ w ∈ am_G, w.before args s = true) ∧
  (meth.locks = false ∧ meth.sig.returnType = M.2.2.2.1 ∧ (M.2.2.2.2.1 = [] → ∀ x ∈ c.exceptionTable.toList, False) ∧ (M.2.2.2.2.1 ≠ [] → c.exceptionTable.toList = tableOf M.2.2.2.2.1) ∧ ∀ z ∈ M.2.2.2.2.1, Cond.classLink M.1.cls z.2.2.2 (am_cln z.2.2.2) ∈ am_G ∧ z.2.2.2 ≠ 0) ∧
  (va_K D vwCl (am_tys cA) s ∧ am_Zw s ∧ am_Zo ad A s ∧ am_Zt A s s.heap ∧ (∀ q, s.heap.size ≤ q → A q) ∧ ∀ σ, va_D A (bm_ws nS ad cA σ)) ∧ l.stackTraces = false ∧ d + 9 ≤ R.frames ∧ 60 * d + 180 ≤ R.locals
section AMFB
variable {p : Program} {l : Launch} {e : Env} {R : Room} {s : State} {m : MethodId} {args : Array Value} {below : List Frame} {meth : Method} {c : Code} {H : Heap} {locs : List Loc} {cells slots : Nat} {Q : State → Prop}
variable {ad : Nat → Nat} {cA : Nat → ClassId} {D : va_G} {A : Nat → Prop} {X : am_X} {C : am_C} {M : am_Mt} {d pc mc ms : Nat} {ls : Array Slot} {lv st : List Value} {σ σ' : am_M}
theorem bm_back {v : Option Value} {aa : Array Value} {st0 rest : List Value} (hr : va_Run p l e R s m args below meth c H locs cells slots mc ms (F0 m pc ls st0) rest (bm_Qr nS D cA ad A v σ' aa) A) (hS : va_S A s.heap H locs)
    (kk : ∀ (H1 : Heap) (locs1 : List Loc), va_P D vwCl (bm_ws nS ad cA σ') H1 → va_S A s.heap H1 locs1 → W p l e R s m args below meth c H1 locs1 (cells + mc) (slots + ms) Q (F0 m (pc + 3) ls ((v.map (am_cv ad)).toList ++ rest))) : W p l e R s m args below meth c H locs cells slots Q (F0 m pc ls st0) := by
  intro T hT X
  obtain ⟨v9, st₀, t, T', L, h0, X', hL, e1, e2, ⟨hv, hp, hz, hk⟩, st⟩ := hr T hT X
  cases hv
  rw [h0] at hz hk
  obtain ⟨t2, a1, b1⟩ := kk T'.heap (locs ++ L) (by rw [e1]; exact hp)
    ⟨Nat.le_trans hS.1 (by rw [e1]; exact hz), fun q h1 h2 => by rw [e1, hk q (Nat.lt_of_lt_of_le h1 hS.1) h2]; exact hS.2.1 q h1 h2, fun q hq => by
      rcases List.mem_append.mp hq with h | h
      · exact hS.2.2 q h
      · exact hL q h⟩ T' rfl X'
  exact ⟨t2, st t2 a1, b1⟩
theorem bm_backX {E : String} {aa : Array Value} {st0 rest : List Value} (hr : vx_Run p l e R s m args below meth c H locs cells slots mc ms (F0 m pc ls st0) rest ((fun _ _ _ _ => False : Array Value → State → Outcome → State → Prop) aa) (bm_Qx nS D cA ad A E σ') A) (hS : va_S A s.heap H locs)
    (kk : ∀ (q : Addr) (ce : Cell) (H1 : Heap) (locs1 : List Loc), va_P D vwCl (bm_ws nS ad cA σ') H1 → va_S A s.heap H1 locs1 → H1[q]? = some ce → ce.vm = .none → s.vm.findClass E = some ce.cls → vx_W p l e R s m args below meth c H1 locs1 (cells + mc) (slots + ms) Q (F0 m pc ls rest) q) : W p l e R s m args below meth c H locs cells slots Q (F0 m pc ls st0) := by
  intro T hT X
  rcases hr T hT X with ⟨v, st₀, t, T', L, h0, X', hL, e1, e2, hF, st⟩ | ⟨q, st₀, t, T', L, E9, ce, h0, X', hL, e1, e2, ⟨rfl, hp, hF⟩, hce, hcv, hcl, st⟩
  · exact hF.elim
  · obtain ⟨k1, k2, k3⟩ := vx_keep h0 e1 hS (fun _ _ z => z) (fun _ z => z) hL hF
    obtain ⟨t2, a1, b1⟩ := kk q ce T'.heap (locs ++ L) (by rw [e1]; exact hp) k3 (by rw [e1]; exact hce) hcv hcl T' rfl X'
    exact ⟨t2, st.trans a1, b1⟩
/-- a call that returns -/
theorem bm_callR (hC : bm_Cx nS p l R s m args meth c M D cA ad A d) (hSp : bm_Sp nS l D cA ad A d C) (hl : ls.size = M.2.2.1) (hP : va_P D vwCl (bm_ws nS ad cA σ) H) (hS : va_S A s.heap H locs)
    {kd : Bool} {idx : Nat} {q : String × Nat × Nat × Nat × Nat × Nat × Nat × Nat} {N : am_Mt} {as rest : List Value} {v : Option Value} (hd : decode M.2.1 pc = .ok (if kd then .invokevirtual idx else .invokestatic idx, 3)) (hq : am_cal M.1.cls idx = some q) (hN : am_ml[q.2.2.2.1]? = some N) (hk : (q.2.2.1 == 0) = kd)
    (hst : st = as.reverse ++ rest) (hlen : as.length = N.2.2.2.2.2 + (if kd then 1 else 0)) (hcat : am_cat rest ≤ 8) (hrecv : kd = true → ∃ a as', as = .ref a :: as' ∧ bm_isO nS a N.1.cls = true) (hr : C q.2.2.2.1 as σ = some (.inl v, σ')) (hcap : cells + (σ'.2.2 - σ.2.2) ≤ R.cells ∧ slots + 6 * (σ'.2.2 - σ.2.2) ≤ R.slots)
    (kk : ∀ (H1 : Heap) (locs1 : List Loc), va_P D vwCl (bm_ws nS ad cA σ') H1 → va_S A s.heap H1 locs1 → W p l e R s m args below meth c H1 locs1 (cells + (σ'.2.2 - σ.2.2)) (slots + 6 * (σ'.2.2 - σ.2.2)) Q (F0 m (pc + 3) ls ((v.toList ++ rest).map (am_cv ad)))) :
    W p l e R s m args below meth c H locs cells slots Q (F0 m pc ls (st.map (am_cv ad))) := by
  obtain ⟨⟨hx, hb, hml, hown, hts⟩, ⟨hlocks, hret, hE1, hE2, hhh⟩, ⟨hK, hZw, hZo, hZt, hA, hD⟩, htr, hRf, hRl⟩ := hC
  obtain ⟨hcw, hmh, hvh, hpar, hpl, hmx, -⟩ := am_ml_spec hN
  obtain ⟨-, hM⟩ := hSp _ _ _ _ _ N hr hN
  have hM : Met l N.1 (am_wds N) (am_rm d (σ'.2.2 - σ.2.2)) (bm_Pc nS D cA ad A as σ) (bm_Qr nS D cA ad A v σ') (σ'.2.2 - σ.2.2) (6 * (σ'.2.2 - σ.2.2)) A := hM
  have hPre : ∀ U : State, U.heap = H → s.WarmedH U.vm → bm_Pc nS D cA ad A as σ (as.map (am_cv ad)).toArray U := fun U hU hW => ⟨rfl, bm_Wd_call hK hZw hZo hZt hA hS hP hU hW⟩
  have hws : ∀ w ∈ am_wds N, ∀ (a' : Array Value) (U : State), s.WarmedH U.vm → w.before a' U = true := fun w hw a' U hW => word_at hW (am_good (am_wds_G hcw w hw)) (hts w (am_wds_G hcw w hw))
  have hsig : ∀ sig, parseMethodDescriptor N.1.desc = some sig → N.2.2.2.2.2 = sig.parameters.length := fun sig h9 => by
    rw [h9] at hpar
    exact (Option.some.inj hpar).symm
  have hvt : ∀ v : Option Value, (v.map (am_cv ad)).toList ++ rest.map (am_cv ad) = (v.toList ++ rest).map (am_cv ad) := fun v => by cases v <;> simp
  have hroom : 2 * (F0 m pc ls (st.map (am_cv ad))).monitorRoom + ((rest.map (am_cv ad)).map fun v => v.category).sum ≤ 8 := lv_room (by rw [am_cat_cv]; exact hcat)
  have hfr : (am_rm d (σ'.2.2 - σ.2.2)).frames + 1 ≤ R.frames := by show d + 8 + 1 ≤ R.frames; omega
  have hlo : 8 + (N.2.2.1 + 11) + (am_rm d (σ'.2.2 - σ.2.2)).locals ≤ R.locals := by show 8 + (N.2.2.1 + 11) + (60 * d + 120) ≤ R.locals; omega
  rcases am_cal_spec hq hN with ⟨k0, w1, w2, w3, w4, hh⟩ | ⟨k1, w1, w2, w4⟩ | ⟨k2, w1, w2, w4, hh⟩
  · have hkd : kd = true := by rw [← hk, k0]; rfl
    subst hkd
    obtain ⟨a, as', rfl, hO⟩ := hrecv rfl
    have hcode : am_cw N = Cond.code N.1 N.2.1 N.2.2.1 N.2.2.2.1 := by unfold am_cw; rw [hh]
    have hobj : ∃ ci fs r, (am_sh.take nS)[a]? = some (.inr (ci, fs)) ∧ vwCl[ci]? = some r ∧ r.1 = N.1.cls := by
      unfold bm_isO at hO
      split at hO
      · rename_i ci fs hs
        split at hO
        · rename_i r hr9
          exact ⟨ci, fs, r, hs, hr9, by simpa using hO⟩
        · cases hO
      · cases hO
    obtain ⟨ci, fs, r, hs1, hs2, hs3⟩ := hobj
    have hrv := va_recv hK hP hs2 (bm_ws_get (ad := ad) (cA := cA) (σ := σ) hs1)
    rw [hs3] at hrv
    refine bm_back (va_runV (As := as'.map (am_cv ad)) (rest := rest.map (am_cv ad)) (b := ad a) (C := N.1.cls) (index := idx) (n := N.2.2.2.2.2) ⟨hx, hb, hml, hown, hts⟩ hM
      ⟨⟨rfl, rfl, hfr, hlo, hws, by rw [← hcode]; exact List.mem_cons_self, by rw [← hcode]; exact hts _ hcw, hts _ w4, ⟨hmh, hvh⟩, hsig, hts _ w1⟩, hts _ w2, hts _ w3⟩
      ⟨bm_Pc_blind, hrv, hPre⟩ rfl (by simpa using hlen) hl (by rw [hst]; simp [am_cv]) hroom hd hcap) hS (fun H1 locs1 hP1 hS1 => ?_)
    rw [hvt]
    exact kk H1 locs1 hP1 hS1
  · have hkd : kd = false := by rw [← hk, k1]; rfl
    subst hkd
    by_cases hh : N.2.2.2.2.1 = []
    · have hcode : am_cw N = Cond.code N.1 N.2.1 N.2.2.1 N.2.2.2.1 := by unfold am_cw; rw [hh]
      refine bm_back (va_runS (As := as.map (am_cv ad)) (rest := rest.map (am_cv ad)) (index := idx) (n := N.2.2.2.2.2) ⟨hx, hb, hml, hown, hts⟩ hM
        ⟨⟨rfl, rfl, hfr, hlo, hws, by rw [← hcode]; exact List.mem_cons_self, by rw [← hcode]; exact hts _ hcw, hts _ w4, ⟨hmh, hvh⟩, hsig, hts _ w1⟩, hts _ w2⟩
        ⟨bm_Pc_blind, hPre⟩ rfl (by simpa using hlen) hl (by rw [hst]; simp) hroom hd hcap) hS (fun H1 locs1 hP1 hS1 => ?_)
      rw [hvt]
      exact kk H1 locs1 hP1 hS1
    · have hcode : am_cw N = Cond.codeWith N.1 N.2.1 N.2.2.1 N.2.2.2.1 N.2.2.2.2.1 := by
        unfold am_cw
        split
        · rename_i h9; exact absurd h9 hh
        · rename_i h9; rw [h9]
      refine bm_back (vx_runSW (As := as.map (am_cv ad)) (rest := rest.map (am_cv ad)) (index := idx) (n := N.2.2.2.2.2) ⟨hx, hb, hml, hown, hts⟩ hM
        ⟨⟨rfl, rfl, hfr, hlo, hws, by rw [← hcode]; exact List.mem_cons_self⟩, by rw [← hcode]; exact hts _ hcw, hts _ w4, ⟨hmh, hvh⟩, hsig, hts _ w1, hts _ w2⟩
        ⟨bm_Pc_blind, hPre⟩ rfl (by simpa using hlen) hl (by rw [hst]; simp) hroom hd hcap) hS (fun H1 locs1 hP1 hS1 => ?_)
      rw [hvt]
      exact kk H1 locs1 hP1 hS1
  · have hkd : kd = false := by rw [← hk, k2]; rfl
    subst hkd
    have hcode : am_cw N = Cond.code N.1 N.2.1 N.2.2.1 N.2.2.2.1 := by unfold am_cw; rw [hh]
    have hnest : va_Nw (.methodLinkNest M.1.cls idx N.1 "KeyArchive") s := hZw.1 _ (List.mem_filter.mpr ⟨w1, rfl⟩)
    refine bm_back (va_runSN (As := as.map (am_cv ad)) (rest := rest.map (am_cv ad)) (index := idx) (host := "KeyArchive") (n := N.2.2.2.2.2) ⟨hx, hb, hml, hown, hts⟩ hM
      ⟨⟨⟨rfl, rfl, hfr, hlo, hws, by rw [← hcode]; exact List.mem_cons_self⟩, by rw [← hcode]; exact hts _ hcw, hts _ w4, ⟨hmh, hvh⟩, hsig, va_Nw.use rfl hnest⟩, hts _ w2, trivial⟩
      ⟨bm_Pc_blind, hPre⟩ rfl (by simpa using hlen) hl (by rw [hst]; simp) hroom hd hcap) hS (fun H1 locs1 hP1 hS1 => ?_)
    rw [hvt]
    exact kk H1 locs1 hP1 hS1
/-- a call that throws -/
theorem bm_callX (hC : bm_Cx nS p l R s m args meth c M D cA ad A d) (hSp : bm_Sp nS l D cA ad A d C) (hl : ls.size = M.2.2.1) (hP : va_P D vwCl (bm_ws nS ad cA σ) H) (hS : va_S A s.heap H locs)
    {kd : Bool} {idx : Nat} {q : String × Nat × Nat × Nat × Nat × Nat × Nat × Nat} {N : am_Mt} {as rest : List Value} {E : String} (hd : decode M.2.1 pc = .ok (if kd then .invokevirtual idx else .invokestatic idx, 3)) (hq : am_cal M.1.cls idx = some q) (hN : am_ml[q.2.2.2.1]? = some N) (hk : (q.2.2.1 == 0) = kd) (hk2 : (q.2.2.1 == 2) = false)
    (hst : st = as.reverse ++ rest) (hlen : as.length = N.2.2.2.2.2 + (if kd then 1 else 0)) (hcat : am_cat rest ≤ 8) (hrecv : kd = true → ∃ a as', as = .ref a :: as' ∧ bm_isO nS a N.1.cls = true) (hr : C q.2.2.2.1 as σ = some (.inr E, σ')) (hcap : cells + (σ'.2.2 - σ.2.2) ≤ R.cells ∧ slots + 6 * (σ'.2.2 - σ.2.2) ≤ R.slots)
    (kk : ∀ (q : Addr) (ce : Cell) (H1 : Heap) (locs1 : List Loc), va_P D vwCl (bm_ws nS ad cA σ') H1 → va_S A s.heap H1 locs1 → H1[q]? = some ce → ce.vm = .none → s.vm.findClass E = some ce.cls → vx_W p l e R s m args below meth c H1 locs1 (cells + (σ'.2.2 - σ.2.2)) (slots + 6 * (σ'.2.2 - σ.2.2)) Q (F0 m pc ls (rest.map (am_cv ad))) q) :
    W p l e R s m args below meth c H locs cells slots Q (F0 m pc ls (st.map (am_cv ad))) := by
  obtain ⟨⟨hx, hb, hml, hown, hts⟩, ⟨hlocks, hret, hE1, hE2, hhh⟩, ⟨hK, hZw, hZo, hZt, hA, hD⟩, htr, hRf, hRl⟩ := hC
  obtain ⟨hcw, hmh, hvh, hpar, hpl, hmx, -⟩ := am_ml_spec hN
  obtain ⟨-, hM⟩ := hSp _ _ _ _ _ N hr hN
  have hM : N.2.2.2.2.1 = [] ∧ vx_Met l N.1 (am_wds N) (am_rm d (σ'.2.2 - σ.2.2)) (bm_Pc nS D cA ad A as σ) (fun _ _ _ _ => False) (bm_Qx nS D cA ad A E σ') (σ'.2.2 - σ.2.2) (6 * (σ'.2.2 - σ.2.2)) A := hM
  obtain ⟨hh, hM⟩ := hM
  have hPre : ∀ U : State, U.heap = H → s.WarmedH U.vm → bm_Pc nS D cA ad A as σ (as.map (am_cv ad)).toArray U := fun U hU hW => ⟨rfl, bm_Wd_call hK hZw hZo hZt hA hS hP hU hW⟩
  have hws : ∀ w ∈ am_wds N, ∀ (a' : Array Value) (U : State), s.WarmedH U.vm → w.before a' U = true := fun w hw a' U hW => word_at hW (am_good (am_wds_G hcw w hw)) (hts w (am_wds_G hcw w hw))
  have hsig : ∀ sig, parseMethodDescriptor N.1.desc = some sig → N.2.2.2.2.2 = sig.parameters.length := fun sig h9 => by
    rw [h9] at hpar
    exact (Option.some.inj hpar).symm
  have hroom : 2 * (F0 m pc ls (st.map (am_cv ad))).monitorRoom + ((rest.map (am_cv ad)).map fun v => v.category).sum ≤ 8 := lv_room (by rw [am_cat_cv]; exact hcat)
  have hfr : (am_rm d (σ'.2.2 - σ.2.2)).frames + 1 ≤ R.frames := by show d + 8 + 1 ≤ R.frames; omega
  have hlo : 8 + (N.2.2.1 + 11) + (am_rm d (σ'.2.2 - σ.2.2)).locals ≤ R.locals := by show 8 + (N.2.2.1 + 11) + (60 * d + 120) ≤ R.locals; omega
  have hcode : am_cw N = Cond.code N.1 N.2.1 N.2.2.1 N.2.2.2.1 := by unfold am_cw; rw [hh]
  rcases am_cal_spec hq hN with ⟨k0, w1, w2, w3, w4, -⟩ | ⟨k1, w1, w2, w4⟩ | ⟨k2, -⟩
  · have hkd : kd = true := by rw [← hk, k0]; rfl
    subst hkd
    obtain ⟨a, as', rfl, hO⟩ := hrecv rfl
    have hobj : ∃ ci fs r, (am_sh.take nS)[a]? = some (.inr (ci, fs)) ∧ vwCl[ci]? = some r ∧ r.1 = N.1.cls := by
      unfold bm_isO at hO
      split at hO
      · rename_i ci fs hs
        split at hO
        · rename_i r hr9
          exact ⟨ci, fs, r, hs, hr9, by simpa using hO⟩
        · cases hO
      · cases hO
    obtain ⟨ci, fs, r, hs1, hs2, hs3⟩ := hobj
    have hrv := va_recv hK hP hs2 (bm_ws_get (ad := ad) (cA := cA) (σ := σ) hs1)
    rw [hs3] at hrv
    exact bm_backX (aa := #[]) (vx_runV (As := as'.map (am_cv ad)) (rest := rest.map (am_cv ad)) (b := ad a) (C := N.1.cls) (index := idx) (n := N.2.2.2.2.2) ⟨hx, hb, hml, hown, hts⟩ hM
      ⟨⟨rfl, rfl, hfr, hlo, hws, by rw [← hcode]; exact List.mem_cons_self, by rw [← hcode]; exact hts _ hcw, hts _ w4, ⟨hmh, hvh⟩, hsig, hts _ w1⟩, hts _ w2, hts _ w3⟩
      ⟨bm_Pc_blind, hrv, hPre⟩ rfl (by simpa using hlen) hl (by rw [hst]; simp [am_cv]) hroom hd hcap) hS kk
  · have hkd : kd = false := by rw [← hk, k1]; rfl
    subst hkd
    exact bm_backX (aa := #[]) (vx_runS (As := as.map (am_cv ad)) (rest := rest.map (am_cv ad)) (index := idx) (n := N.2.2.2.2.2) ⟨hx, hb, hml, hown, hts⟩ hM
      ⟨⟨rfl, rfl, hfr, hlo, hws, by rw [← hcode]; exact List.mem_cons_self, by rw [← hcode]; exact hts _ hcw, hts _ w4, ⟨hmh, hvh⟩, hsig, hts _ w1⟩, hts _ w2⟩
      ⟨bm_Pc_blind, hPre⟩ rfl (by simpa using hlen) hl (by rw [hst]; simp) hroom hd hcap) hS kk
  · rw [k2] at hk2; cases hk2
end AMFB
theorem bm_fD_k {X : am_X} {c : String} {i : Instr} {len : Nat} {st st' : List Value} {σ σ' : am_M} (h : bm_fD nS X c i len st σ = some (st', σ')) : σ'.2.2 = σ.2.2 := by
  have oI : ∀ (r : List Value) (v : Option Int32), am_oI r σ v = some (st', σ') → σ'.2.2 = σ.2.2 := by
    intro r v h
    unfold am_oI at h
    split at h
    · cases h; rfl
    · cases h
  have wr : ∀ (z a : Nat) (j x : Int32) (r : List Value), am_oM r (bm_wr nS z σ a j x) = some (st', σ') → σ'.2.2 = σ.2.2 := by
    intro z a j x r h
    unfold am_oM bm_wr at h
    split at h
    · rename_i h9
      cases h
      split at h9
      · split at h9
        · cases h9; rfl
        · cases h9
      · cases h9
    · cases h
  unfold bm_fD at h
  split at h
  · split at h
    · split at h
      · cases h; rfl
      · cases h
    · cases h
  · split at h
    · unfold am_oM bm_pf at h
      split at h
      · rename_i h9
        cases h
        split at h9
        · cases h9
        · split at h9
          · split at h9
            · split at h9
              · cases h9; rfl
              · cases h9
            · cases h9
          · cases h9
      · cases h
    · cases h
  · split at h
    · cases h; rfl
    · cases h
  · split at h
    · exact oI _ _ h
    · cases h
  · split at h
    · exact oI _ _ h
    · cases h
  · split at h
    · split at h
      · cases h; rfl
      · cases h
    · cases h
  · split at h
    · exact wr _ _ _ _ _ h
    · cases h
  · split at h
    · exact wr _ _ _ _ _ h
    · cases h
  · split at h
    · unfold am_oM bm_wrJ at h
      split at h
      · rename_i h9
        cases h
        split at h9
        · split at h9
          · cases h9; rfl
          · cases h9
        · cases h9
      · cases h
    · cases h
  · split at h
    · exact oI _ _ h
    · cases h
  · split at h
    · split at h
      · split at h
        · cases h; rfl
        · cases h
      · cases h
    · cases h
  · cases h
theorem bm_inv_spec {kd : Bool} {C : am_C} {M : am_Mt} {k pc : Nat} {lv st : List Value} {σ : am_M} {x : (am_R × am_M) ⊕ am_P} (h : bm_inv nS kd C M k pc lv st σ = some x) :
    ∃ (q : String × Nat × Nat × Nat × Nat × Nat × Nat × Nat) (N : am_Mt) (as rest : List Value), am_cal M.1.cls k = some q ∧ am_ml[q.2.2.2.1]? = some N ∧ (q.2.2.1 == 0) = kd ∧ st = as.reverse ++ rest ∧ as.length = N.2.2.2.2.2 + (if kd then 1 else 0) ∧ am_cat rest ≤ 8 ∧ (kd = true → ∃ a as', as = .ref a :: as' ∧ bm_isO nS a N.1.cls = true) ∧ am_aft N.2.2.2.1 (q.2.2.1 == 2) M pc lv rest (C q.2.2.2.1 as σ) = some x := by
  unfold bm_inv at h
  split at h
  · cases h
  · rename_i q hq
    split at h
    · cases h
    · rename_i N hN
      obtain ⟨hk, h⟩ := Option.ite_none_right_eq_some.mp h
      simp only [beq_iff_eq] at hk
      obtain ⟨hc, h⟩ := Option.ite_none_right_eq_some.mp h
      simp only [Bool.and_eq_true, decide_eq_true_eq] at hc
      refine ⟨q, N, (st.take (N.2.2.2.2.2 + (if kd then 1 else 0))).reverse, st.drop (N.2.2.2.2.2 + (if kd then 1 else 0)), hq, hN, hk, am_take rfl, ?_, hc.2, ?_, ?_⟩
      · simp only [List.length_reverse, List.length_take]
        omega
      · intro hkd
        subst hkd
        cases hz : (st.take (N.2.2.2.2.2 + (if true = true then 1 else 0))).reverse with
        | nil => rw [hz] at h; cases h
        | cons x0 xs =>
          rw [hz] at h
          cases x0 with
          | ref a =>
            obtain ⟨hO, h⟩ := Option.ite_none_right_eq_some.mp h
            exact ⟨a, xs, rfl, hO⟩
          | _ => cases h
      · cases kd with
        | false => exact h
        | true =>
          have h2 : (q.2.2.1 == 2) = false := by
            have h7 : q.2.2.1 = 0 := by simpa using hk
            rw [h7]; rfl
          rw [h2]
          cases hz : (st.take (N.2.2.2.2.2 + (if true = true then 1 else 0))).reverse with
          | nil => rw [hz] at h; cases h
          | cons x0 xs =>
            rw [hz] at h
            cases x0 with
            | ref a =>
              obtain ⟨hO, h⟩ := Option.ite_none_right_eq_some.mp h
              exact h
            | _ => cases h
section AMGB
variable {p : Program} {l : Launch} {e : Env} {R : Room} {s : State} {m : MethodId} {args : Array Value} {below : List Frame} {meth : Method} {c : Code} {H : Heap} {locs : List Loc} {cells slots : Nat} {Q : State → Prop}
variable {ad : Nat → Nat} {cA : Nat → ClassId} {D : va_G} {A : Nat → Prop} {X : am_X} {C : am_C} {M : am_Mt} {d pc : Nat} {ls : Array Slot} {lv st : List Value} {σ σ' : am_M}
/-- the memory's count of exceptions never falls -/
theorem bm_nxt_k (hSp : bm_Sp nS l D cA ad A d C) {x : (am_R × am_M) ⊕ am_P} (h : bm_nxt nS X C M pc lv st σ = some x) : σ.2.2 ≤ am_xk x := by
  have aft : ∀ (rt : Option FieldType) (nx : Bool) (q : Nat) (N : am_Mt) (as rest : List Value), am_ml[q]? = some N → am_aft rt nx M pc lv rest (C q as σ) = some x → σ.2.2 ≤ am_xk x := by
    intro rt nx q N as rest hN h
    unfold am_aft at h
    split at h
    · cases h
    · rename_i v σ9 h9
      obtain ⟨-, h⟩ := Option.ite_none_right_eq_some.mp h
      cases h
      exact (hSp _ _ _ _ _ N h9 hN).1
    · rename_i E σ9 h9
      have hm := (hSp _ _ _ _ _ N h9 hN).1
      split at h
      · cases h
      · unfold am_exc at h
        split at h
        · cases h; exact hm
        · split at h
          · cases h
          · split at h
            · split at h
              · cases h; exact hm
              · cases h
            · split at h
              · cases h; exact hm
              · cases h
            · cases h
  unfold bm_nxt at h
  split at h
  · cases h
  · split at h
    · cases h; exact Nat.le_refl _
    · split at h
      · cases h; exact Nat.le_refl _
      · split at h
        · cases h; exact Nat.le_refl _
        · split at h
          · rename_i h9; cases h; exact Nat.le_of_eq (bm_fD_k h9).symm
          · unfold bm_fE at h
            have new : ∀ (ik is ic : Nat), am_new M ik is ic st σ = some x → σ.2.2 ≤ am_xk x := by
              intro ik is ic h
              unfold am_new at h
              split at h
              · split at h
                · split at h
                  · cases h; exact Nat.le_succ _
                  · cases h
                · cases h
              · cases h
            split at h
            · obtain ⟨q, N, as, rest, -, hN, -, -, -, -, -, h9⟩ := bm_inv_spec h
              exact aft _ _ _ N _ _ hN h9
            · obtain ⟨q, N, as, rest, -, hN, -, -, -, -, -, h9⟩ := bm_inv_spec h
              exact aft _ _ _ N _ _ hN h9
            · split at h
              · obtain ⟨-, h⟩ := Option.ite_none_right_eq_some.mp h
                cases h; exact Nat.le_refl _
              · cases h
            · split at h
              · obtain ⟨-, h⟩ := Option.ite_none_right_eq_some.mp h
                cases h; exact Nat.le_refl _
              · cases h
            · split at h
              · obtain ⟨-, h⟩ := Option.ite_none_right_eq_some.mp h
                cases h; exact Nat.le_refl _
              · cases h
            · obtain ⟨-, h⟩ := Option.ite_none_right_eq_some.mp h
              split at h
              · split at h
                · obtain ⟨-, h⟩ := Option.ite_none_right_eq_some.mp h
                  exact new _ _ _ h
                · cases h
              · split at h
                · obtain ⟨-, h⟩ := Option.ite_none_right_eq_some.mp h
                  exact new _ _ _ h
                · cases h
              · cases h
            · cases h
theorem bm_run_k (hSp : bm_Sp nS l D cA ad A d C) : ∀ (n pc : Nat) (lv st : List Value) (σ : am_M) (r : am_R × am_M), bm_run nS X C M n pc lv st σ = some r → σ.2.2 ≤ r.2.2.2 := by
  intro n
  induction n with
  | zero => intro pc lv st σ r h; simp [bm_run] at h
  | succ n ih =>
    intro pc lv st σ r h
    unfold bm_run at h
    split at h
    · cases h
    · rename_i r9 h9
      cases h
      exact bm_nxt_k hSp h9
    · rename_i q h9
      exact Nat.le_trans (bm_nxt_k hSp h9) (ih _ _ _ _ _ h)
set_option maxHeartbeats 4000000 in
theorem bm_step (hC : bm_Cx nS p l R s m args meth c M D cA ad A d) (hX : am_Xo ad A X s) (hSp : bm_Sp nS l D cA ad A d C) (hl : lv_has ls M.2.2.1 (am_lvl ad lv)) (hn : lv.length = M.2.2.1) (hP : va_P D vwCl (bm_ws nS ad cA σ) H) (hS : va_S A s.heap H locs) {q : am_P} (h : bm_nxt nS X C M pc lv st σ = some (.inr q))
    (hcap : cells + (q.2.2.2.2.2 - σ.2.2) ≤ R.cells ∧ slots + 6 * (q.2.2.2.2.2 - σ.2.2) ≤ R.slots)
    (kk : ∀ (ls' : Array Slot) (H1 : Heap) (locs1 : List Loc), lv_has ls' M.2.2.1 (am_lvl ad q.2.1) → q.2.1.length = M.2.2.1 → va_P D vwCl (bm_ws nS ad cA q.2.2.2) H1 → va_S A s.heap H1 locs1 → W p l e R s m args below meth c H1 locs1 (cells + (q.2.2.2.2.2 - σ.2.2)) (slots + 6 * (q.2.2.2.2.2 - σ.2.2)) Q (F0 m q.1 ls' (q.2.2.1.map (am_cv ad)))) :
    W p l e R s m args below meth c H locs cells slots Q (F0 m pc ls (st.map (am_cv ad))) := by
  obtain ⟨⟨hx, hb, hml, hown, hts⟩, ⟨hlocks, hret, hE1, hE2, hhh⟩, ⟨hK, hZw, hZo, hZt, hA, hD⟩, htr, hRf, hRl⟩ := id hC
  unfold bm_nxt at h
  split at h
  · cases h
  · rename_i i len hd
    split at h
    · rename_i lv' st' h9
      cases h
      simp only [Nat.sub_self, Nat.mul_zero, Nat.add_zero] at kk
      exact am_sA hx hb hown hts hd h9 hl hn (fun ls' h1 h2 => kk ls' H locs h1 h2 hP hS)
    · split at h
      · rename_i st' h9
        cases h
        simp only [Nat.sub_self, Nat.mul_zero, Nat.add_zero] at kk
        exact am_sB hx hb hd h9 (kk ls H locs hl hn hP hS)
      · split at h
        · rename_i pc' st' h9
          cases h
          simp only [Nat.sub_self, Nat.mul_zero, Nat.add_zero] at kk
          exact am_sC hx hb hd h9 (kk ls H locs hl hn hP hS)
        · split at h
          · rename_i st' σ9 h9
            cases h
            have hk0 : σ9.2.2 = σ.2.2 := bm_fD_k h9
            simp only [hk0, Nat.sub_self, Nat.mul_zero, Nat.add_zero] at kk hcap
            exact bm_sD hx hb (by rw [hml]; exact hl.1) ⟨by omega, by omega, hcap.1, hcap.2⟩ hown hts hK hD hZo hX hP hS hd h9 (fun H1 locs1 h1 h2 => kk ls H1 locs1 hl hn h1 h2)
          · have call : ∀ (kd : Bool) (idx : Nat), decode M.2.1 pc = .ok (if kd then .invokevirtual idx else .invokestatic idx, 3) → bm_inv nS kd C M idx pc lv st σ = some (.inr q) → W p l e R s m args below meth c H locs cells slots Q (F0 m pc ls (st.map (am_cv ad))) := by
              intro kd idx hd h
              obtain ⟨z, N, as, rest, hz, hN, hk, hst, hlen, hcat, hrecv, h9⟩ := bm_inv_spec h
              unfold am_aft at h9
              split at h9
              · cases h9
              · rename_i v σ9 hc
                obtain ⟨-, h9⟩ := Option.ite_none_right_eq_some.mp h9
                cases h9
                exact bm_callR hC hSp hl.1 hP hS hd hz hN hk hst hlen hcat hrecv hc hcap (fun H1 locs1 h1 h2 => kk ls H1 locs1 hl hn h1 h2)
              · rename_i E σ9 hc
                split at h9
                · cases h9
                · rename_i hk2
                  have hk2 : (z.2.2.1 == 2) = false := by simpa using hk2
                  unfold am_exc at h9
                  split at h9
                  · cases h9
                  · rename_i q0 qs hh
                    split at h9
                    · cases h9
                    · rename_i z9 hf
                      have hne : M.2.2.2.2.1 ≠ [] := by rw [hh]; exact fun h => by cases h
                      have htab := hE2 hne
                      obtain ⟨hp9, as9, bs9, hsp, hall⟩ := List.find?_eq_some_iff_append.mp hf
                      simp only [Bool.and_eq_true, decide_eq_true_eq, beq_iff_eq] at hp9
                      obtain ⟨hp1, hp2, hp3⟩ := hp9
                      have hzm : z9 ∈ M.2.2.2.2.1 := by rw [hh, hsp]; simp
                      have hcatch : ∀ (qa : Addr) (ce : Cell) (H1 : Heap) (locs1 : List Loc) (k n : Nat), H1[qa]? = some ce → ce.vm = .none → s.vm.findClass E = some ce.cls → W p l e R s m args below meth c H1 locs1 k n Q (F0 m z9.2.2.1 ls [.ref qa]) → vx_W p l e R s m args below meth c H1 locs1 k n Q (F0 m pc ls (rest.map (am_cv ad))) qa := by
                        intro qa ce H1 locs1 k n g1 g2 g3 g4
                        refine vx_catch (own := M.1.cls) (name := E) hown (tableOf as9) ⟨z9.1, z9.2.1, z9.2.2.1, z9.2.2.2⟩ (tableOf bs9) (by rw [htab, hh, hsp]; simp [tableOf]) ?_ ?_ (hhh z9 hzm).2 ?_ ?_ g1 g2 g3 g4
                        · intro y hy
                          unfold tableOf at hy
                          obtain ⟨y9, hy9, rfl⟩ := List.mem_map.mp hy
                          have hno := hall y9 hy9
                          have hym : y9 ∈ M.2.2.2.2.1 := by rw [hh, hsp]; simp [hy9]
                          by_cases hc1 : y9.1 ≤ pc ∧ pc < y9.2.1
                          · right
                            refine ⟨(hhh y9 hym).2, am_cln y9.2.2.2, hts _ (hhh y9 hym).1, ?_⟩
                            rw [← hp3]
                            refine hZw.2.2 _ _ (fun he => ?_)
                            simp only [Bool.not_eq_true', Bool.and_eq_false_iff, decide_eq_false_iff_not, beq_eq_false_iff_ne] at hno
                            rcases hno with h1 | h1 | h1
                            · exact h1 hc1.1
                            · exact h1 hc1.2
                            · exact h1 (by rw [← he, hp3])
                          · left
                            simp only [covers, Bool.and_eq_false_iff, decide_eq_false_iff_not]
                            omega
                        · simp only [covers, Bool.and_eq_true, decide_eq_true_eq]
                          exact ⟨hp1, hp2⟩
                        · have := hts _ (hhh z9 hzm).1
                          rw [hp3] at this
                          exact this
                        · have hcst : Cond.castable E E ∈ am_NW := by
                            rw [← hp3]
                            exact am_cst z9.2.2.2
                          exact va_Nw.use rfl (hZw.1 _ hcst)
                      split at h9
                      · rename_i k9 hdh
                        split at h9
                        · rename_i lv9 hst9
                          cases h9
                          refine bm_callX hC hSp hl.1 hP hS hd hz hN hk hk2 hst hlen hcat hrecv hc hcap (fun qa ce H1 locs1 g1 g2 g3 g4 g5 => hcatch qa ce H1 locs1 _ _ g3 g4 g5 ?_)
                          refine lv_astore_n hx hb hdh rfl hl (hn ▸ (am_st1_spec hst9).1) rfl (fun ls' h' => ?_)
                          obtain ⟨a1, a2⟩ := am_st1_has (ad := ad) hst9 (fun z => absurd rfl z) h'
                          exact kk ls' H1 locs1 a1 (a2.trans hn) g1 g2
                        · cases h9
                      · rename_i k9 hdh
                        split at h9
                        · rename_i lv9 hst9
                          cases h9
                          refine bm_callX hC hSp hl.1 hP hS hd hz hN hk hk2 hst hlen hcat hrecv hc hcap (fun qa ce H1 locs1 g1 g2 g3 g4 g5 => hcatch qa ce H1 locs1 _ _ g3 g4 g5 ?_)
                          refine lv_astore hx hb hdh hl (hn ▸ (am_st1_spec hst9).1) rfl (fun ls' h' => ?_)
                          obtain ⟨a1, a2⟩ := am_st1_has (ad := ad) hst9 (fun z => absurd rfl z) h'
                          exact kk ls' H1 locs1 a1 (a2.trans hn) g1 g2
                        · cases h9
                      · cases h9
            have nonew : ∀ (ik is ic : Nat), am_new M ik is ic st σ = some (.inr q) → False := by
              intro ik is ic h
              unfold am_new at h
              split at h
              · split at h
                · split at h
                  · cases h
                  · cases h
                · cases h
              · cases h
            unfold bm_fE at h
            split at h
            · exact call true _ hd h
            · exact call false _ hd h
            · split at h
              · split at h <;> cases h
              · cases h
            · split at h
              · split at h <;> cases h
              · cases h
            · split at h
              · split at h <;> cases h
              · cases h
            · split at h
              · split at h
                · split at h
                  · split at h
                    · exact (nonew _ _ _ h).elim
                    · cases h
                  · cases h
                · split at h
                  · split at h
                    · exact (nonew _ _ _ h).elim
                    · cases h
                  · cases h
                · cases h
              · cases h
            · cases h
/-- a run, to its end -/
theorem bm_run_sound (hC : bm_Cx nS p l R s m args meth c M D cA ad A d) (hX : am_Xo ad A X s) (hSp : bm_Sp nS l D cA ad A d C) {res : am_R} {σf : am_M} {cf sf : Nat} (hcf : cf ≤ R.cells ∧ sf ≤ R.slots)
    (hterm : ∀ (pc : Nat) (lv st : List Value) (σ : am_M) (ls : Array Slot) (H : Heap) (locs : List Loc) (k n : Nat), bm_nxt nS X C M pc lv st σ = some (.inl (res, σf)) → lv_has ls M.2.2.1 (am_lvl ad lv) → lv.length = M.2.2.1 → va_P D vwCl (bm_ws nS ad cA σ) H → va_S A s.heap H locs → k + (σf.2.2 - σ.2.2) = cf → n + 6 * (σf.2.2 - σ.2.2) = sf → W p l e R s m args below meth c H locs k n Q (F0 m pc ls (st.map (am_cv ad)))) :
    ∀ (n pc : Nat) (lv st : List Value) (σ : am_M) (ls : Array Slot) (H : Heap) (locs : List Loc) (k n9 : Nat), bm_run nS X C M n pc lv st σ = some (res, σf) → lv_has ls M.2.2.1 (am_lvl ad lv) → lv.length = M.2.2.1 → va_P D vwCl (bm_ws nS ad cA σ) H → va_S A s.heap H locs → k + (σf.2.2 - σ.2.2) = cf → n9 + 6 * (σf.2.2 - σ.2.2) = sf → W p l e R s m args below meth c H locs k n9 Q (F0 m pc ls (st.map (am_cv ad))) := by
  intro n
  induction n with
  | zero => intro pc lv st σ ls H locs k n9 h; simp [bm_run] at h
  | succ n ih =>
    intro pc lv st σ ls H locs k n9 h hl hn hP hS h1 h2
    unfold bm_run at h
    split at h
    · cases h
    · rename_i r9 h9
      cases h
      exact hterm _ _ _ _ _ _ _ _ _ h9 hl hn hP hS h1 h2
    · rename_i q h9
      have m1 := bm_nxt_k hSp h9
      have m1 : σ.2.2 ≤ q.2.2.2.2.2 := m1
      have m2 := bm_run_k hSp _ _ _ _ _ _ h
      have m2 : q.2.2.2.2.2 ≤ σf.2.2 := m2
      refine bm_step hC hX hSp hl hn hP hS h9 ⟨by omega, by omega⟩ (fun ls' H1 locs1 g1 g2 g3 g4 => ?_)
      exact ih _ _ _ _ _ _ _ _ _ h g1 g2 g3 g4 (by omega) (by omega)
end AMGB
end BMB
