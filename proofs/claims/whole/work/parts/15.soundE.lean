/-! calls and ends: contracts of the machine's methods -/
/-- words beside the good ones, texts of throws, classes that are not one another's -/
def am_Zw (U : State) : Prop := (∀ w ∈ am_NW, va_Nw w U) ∧ (∀ q ∈ am_xt, ∃ sa, vk_R q.1 q.2.2.1 q.2.2.2.2.2.1 sa U) ∧ ∀ j k, am_cln j ≠ am_cln k → va_Nc (am_cln j) (am_cln k) U
def am_Zt (A : Nat → Prop) (U : State) (H : Heap) : Prop := vx_Zq Bundle.tN "UNASSIGNED_STACK" Bundle.steD A U H ∧ vx_Zq Bundle.tN "SUPPRESSED_SENTINEL" Bundle.listD A U H
def am_Wd (D : va_G) (cA : Nat → ClassId) (ad : Nat → Nat) (A : Nat → Prop) (σ : am_M) (U : State) : Prop := va_P D vwCl (am_ws ad cA σ) U.heap ∧ va_K D vwCl (am_tys cA) U ∧ am_Zw U ∧ am_Zo ad A U ∧ am_Zt A U U.heap ∧ ∀ q, U.heap.size ≤ q → A q
section AME
variable {D : va_G} {cA : Nat → ClassId} {ad : Nat → Nat} {A : Nat → Prop} {σ σ' : am_M}
theorem am_NW_nw {w : Cond} (h : w ∈ am_NW) : am_nw w = true := (List.mem_filter.mp h).2
theorem am_Wd_blind {U : State} {g : JFrame} {mk : MethodId} {a : Array Value} (h : am_Wd D cA ad A σ U) : am_Wd D cA ad A σ (U.calling g mk a) := by
  obtain ⟨h1, h2, ⟨h3, h4, h5⟩, ⟨h6, h7⟩, ⟨h8, h9⟩, h10⟩ := h
  have e : U.vm.Alike (U.calling g mk a).vm := Vm.Alike.refl U.vm
  refine ⟨h1, va_K.moved (u := U) (U := U.calling g mk a) e h2, ⟨fun w hw => va_Nw.same (u := U) (U := U.calling g mk a) (am_nw_tab (am_NW_nw hw)) rfl (h3 w hw), fun q hq => ?_, fun j k hne => va_Nc.moved e (h5 j k hne)⟩, ⟨va_Z.moved (u := U) (U := U.calling g mk a) e h6, va_T.moved (u := U) (U := U.calling g mk a) e h7⟩, ⟨vx_Zq.moved (u := U) (U := U.calling g mk a) e h8, vx_Zq.moved (u := U) (U := U.calling g mk a) e h9⟩, h10⟩
  obtain ⟨sa, hs⟩ := h4 q hq
  exact ⟨sa, vk_R.same rfl hs⟩
theorem am_Wd_call {s U : State} {H : Heap} {locs : List Loc} (hK : va_K D vwCl (am_tys cA) s) (hZw : am_Zw s) (hZo : am_Zo ad A s) (hZt : am_Zt A s s.heap) (hA : ∀ q, s.heap.size ≤ q → A q) (hS : va_S A s.heap H locs) (hP : va_P D vwCl (am_ws ad cA σ) H) (hU : U.heap = H) (hW : s.WarmedH U.vm) : am_Wd D cA ad A σ U := by
  obtain ⟨h3, h4, h5⟩ := hZw
  refine ⟨by rw [hU]; exact hP, va_K.moved hW.alike hK, ⟨fun w hw => am_nw_warm (am_NW_nw hw) hW (h3 w hw), fun q hq => ?_, fun j k hne => va_Nc.moved hW.alike (h5 j k hne)⟩, ⟨?_, ?_⟩, ⟨?_, ?_⟩, ?_⟩
  · obtain ⟨sa, hs⟩ := h4 q hq
    exact ⟨sa, vk_R.warm hW hs⟩
  · rw [hU]; exact va_Z.moved hW.alike (hZo.1.kept hS.2.1)
  · rw [hU]; exact va_T.moved hW.alike (hZo.2.kept hS.2.1)
  · rw [hU]; exact vx_Zq.moved hW.alike (hZt.1.kept hS.2.1)
  · rw [hU]; exact vx_Zq.moved hW.alike (hZt.2.kept hS.2.1)
  · rw [hU]; exact fun q hq => hA q (Nat.le_trans hS.1 hq)
end AME
def am_Pc (D : va_G) (cA : Nat → ClassId) (ad : Nat → Nat) (A : Nat → Prop) (as : List Value) (σ : am_M) : Array Value → State → Prop := fun v U => v = (as.map (am_cv ad)).toArray ∧ am_Wd D cA ad A σ U
def am_Qr (D : va_G) (cA : Nat → ClassId) (ad : Nat → Nat) (A : Nat → Prop) (v : Option Value) (σ : am_M) : Array Value → State → Outcome → State → Prop := fun _ st o t => o = .returned (v.map (am_cv ad)) ∧ va_P D vwCl (am_ws ad cA σ) t.heap ∧ va_F A st t
def am_Qx (D : va_G) (cA : Nat → ClassId) (ad : Nat → Nat) (A : Nat → Prop) (E : String) (σ : am_M) : String → State → State → Prop := fun E' st t => E' = E ∧ va_P D vwCl (am_ws ad cA σ) t.heap ∧ va_F A st t
def am_wds (M : am_Mt) : List Cond := am_cw M :: am_G
def am_rm (d k : Nat) : Room := { frames := d + 8, cells := k, slots := 6 * k, locals := 60 * d + 120 }
theorem am_Pc_blind {D : va_G} {cA : Nat → ClassId} {ad : Nat → Nat} {A : Nat → Prop} {as : List Value} {σ : am_M} : FrameBlind (am_Pc D cA ad A as σ) := fun _ _ _ _ h => ⟨h.1, am_Wd_blind h.2⟩
/-- every answer of C is the bytecode's -/
def am_Sp (l : Launch) (D : va_G) (cA : Nat → ClassId) (ad : Nat → Nat) (A : Nat → Prop) (d : Nat) (C : am_C) : Prop := ∀ (k : Nat) (as : List Value) (σ : am_M) (r : am_R) (σ' : am_M) (M : am_Mt), C k as σ = some (r, σ') → am_ml[k]? = some M → σ.2.2 ≤ σ'.2.2 ∧ (match r with
  | .inl v => Met l M.1 (am_wds M) (am_rm d (σ'.2.2 - σ.2.2)) (am_Pc D cA ad A as σ) (am_Qr D cA ad A v σ') (σ'.2.2 - σ.2.2) (6 * (σ'.2.2 - σ.2.2)) A
  | .inr E => M.2.2.2.2.1 = [] ∧ vx_Met l M.1 (am_wds M) (am_rm d (σ'.2.2 - σ.2.2)) (am_Pc D cA ad A as σ) (fun _ _ _ _ => False) (am_Qx D cA ad A E σ') (σ'.2.2 - σ.2.2) (6 * (σ'.2.2 - σ.2.2)) A)
/-- what holds all along a method's run -/
def am_Cx (p : Program) (l : Launch) (R : Room) (s : State) (m : MethodId) (args : Array Value) (meth : Method) (c : Code) (M : am_Mt) (D : va_G) (cA : Nat → ClassId) (ad : Nat → Nat) (A : Nat → Prop) (d : Nat) : Prop :=
  (p.tables.exec = Jvm.exec ∧ c.code = M.2.1 ∧ c.maxLocals = M.2.2.1 ∧ s.vm.findClass M.1.cls = some m.cls ∧ ∀ w ∈ am_G, w.before args s = true) ∧
  (meth.locks = false ∧ meth.sig.returnType = M.2.2.2.1 ∧ (M.2.2.2.2.1 = [] → ∀ x ∈ c.exceptionTable.toList, False) ∧ (M.2.2.2.2.1 ≠ [] → c.exceptionTable.toList = tableOf M.2.2.2.2.1) ∧ ∀ z ∈ M.2.2.2.2.1, Cond.classLink M.1.cls z.2.2.2 (am_cln z.2.2.2) ∈ am_G ∧ z.2.2.2 ≠ 0) ∧
  (va_K D vwCl (am_tys cA) s ∧ am_Zw s ∧ am_Zo ad A s ∧ am_Zt A s s.heap ∧ (∀ q, s.heap.size ≤ q → A q) ∧ ∀ σ, va_D A (am_ws ad cA σ)) ∧ l.stackTraces = false ∧ d + 9 ≤ R.frames ∧ 60 * d + 180 ≤ R.locals
theorem am_cat_cv (ad : Nat → Nat) (st : List Value) : ((st.map (am_cv ad)).map fun v => v.category).sum = am_cat st := by
  unfold am_cat
  rw [List.map_map]
  have : ((fun v : Value => v.category) ∘ am_cv ad) = fun v => v.category := funext fun v => am_cv_cat ad v
  rw [this]
theorem am_take {st as : List Value} {n : Nat} (h : (st.take n).reverse = as) : st = as.reverse ++ st.drop n := by
  rw [← h, List.reverse_reverse, List.take_append_drop]
section AMF
variable {p : Program} {l : Launch} {e : Env} {R : Room} {s : State} {m : MethodId} {args : Array Value} {below : List Frame} {meth : Method} {c : Code} {H : Heap} {locs : List Loc} {cells slots : Nat} {Q : State → Prop}
variable {ad : Nat → Nat} {cA : Nat → ClassId} {D : va_G} {A : Nat → Prop} {X : am_X} {C : am_C} {M : am_Mt} {d pc mc ms : Nat} {ls : Array Slot} {lv st : List Value} {σ σ' : am_M}
theorem am_back {v : Option Value} {aa : Array Value} {st0 rest : List Value} (hr : va_Run p l e R s m args below meth c H locs cells slots mc ms (F0 m pc ls st0) rest (am_Qr D cA ad A v σ' aa) A) (hS : va_S A s.heap H locs)
    (kk : ∀ (H1 : Heap) (locs1 : List Loc), va_P D vwCl (am_ws ad cA σ') H1 → va_S A s.heap H1 locs1 → W p l e R s m args below meth c H1 locs1 (cells + mc) (slots + ms) Q (F0 m (pc + 3) ls ((v.map (am_cv ad)).toList ++ rest))) : W p l e R s m args below meth c H locs cells slots Q (F0 m pc ls st0) := by
  intro T hT X
  obtain ⟨v9, st₀, t, T', L, h0, X', hL, e1, e2, ⟨hv, hp, hz, hk⟩, st⟩ := hr T hT X
  cases hv
  rw [h0] at hz hk
  obtain ⟨t2, a1, b1⟩ := kk T'.heap (locs ++ L) (by rw [e1]; exact hp)
    ⟨Nat.le_trans hS.1 (by rw [e1]; exact hz), fun q h1 h2 => by rw [e1, hk q (Nat.lt_of_lt_of_le h1 hS.1) h2]; exact hS.2.1 q h1 h2, fun q hq => by
      rcases List.mem_append.mp hq with h | h
      · exact hS.2.2 q h
      · exact hL q h⟩ T' rfl X'
  exact ⟨t2, st t2 a1, b1⟩
theorem am_backX {E : String} {aa : Array Value} {st0 rest : List Value} (hr : vx_Run p l e R s m args below meth c H locs cells slots mc ms (F0 m pc ls st0) rest ((fun _ _ _ _ => False : Array Value → State → Outcome → State → Prop) aa) (am_Qx D cA ad A E σ') A) (hS : va_S A s.heap H locs)
    (kk : ∀ (q : Addr) (ce : Cell) (H1 : Heap) (locs1 : List Loc), va_P D vwCl (am_ws ad cA σ') H1 → va_S A s.heap H1 locs1 → H1[q]? = some ce → ce.vm = .none → s.vm.findClass E = some ce.cls → vx_W p l e R s m args below meth c H1 locs1 (cells + mc) (slots + ms) Q (F0 m pc ls rest) q) : W p l e R s m args below meth c H locs cells slots Q (F0 m pc ls st0) := by
  intro T hT X
  rcases hr T hT X with ⟨v, st₀, t, T', L, h0, X', hL, e1, e2, hF, st⟩ | ⟨q, st₀, t, T', L, E9, ce, h0, X', hL, e1, e2, ⟨rfl, hp, hF⟩, hce, hcv, hcl, st⟩
  · exact hF.elim
  · obtain ⟨k1, k2, k3⟩ := vx_keep h0 e1 hS (fun _ _ z => z) (fun _ z => z) hL hF
    obtain ⟨t2, a1, b1⟩ := kk q ce T'.heap (locs ++ L) (by rw [e1]; exact hp) k3 (by rw [e1]; exact hce) hcv hcl T' rfl X'
    exact ⟨t2, st.trans a1, b1⟩
theorem am_good {w : Cond} (h : w ∈ am_G) : (w.onTables && w.keeps) = true ∨ ∃ ty, w = .arrayClass ty := good_of_word (List.mem_filter.mp h).2
theorem am_wds_G {N : am_Mt} (h : am_cw N ∈ am_G) : ∀ w ∈ am_wds N, w ∈ am_G := fun w hw => (List.mem_cons.mp hw).elim (fun q => q ▸ h) id
/-- a call that returns -/
theorem am_callR (hC : am_Cx p l R s m args meth c M D cA ad A d) (hSp : am_Sp l D cA ad A d C) (hl : ls.size = M.2.2.1) (hP : va_P D vwCl (am_ws ad cA σ) H) (hS : va_S A s.heap H locs)
    {kd : Bool} {idx : Nat} {q : String × Nat × Nat × Nat × Nat × Nat × Nat × Nat} {N : am_Mt} {as rest : List Value} {v : Option Value} (hd : decode M.2.1 pc = .ok (if kd then .invokevirtual idx else .invokestatic idx, 3)) (hq : am_cal M.1.cls idx = some q) (hN : am_ml[q.2.2.2.1]? = some N) (hk : (q.2.2.1 == 0) = kd)
    (hst : st = as.reverse ++ rest) (hlen : as.length = N.2.2.2.2.2 + (if kd then 1 else 0)) (hcat : am_cat rest ≤ 8) (hrecv : kd = true → ∃ a as', as = .ref a :: as' ∧ am_isO a N.1.cls = true) (hr : C q.2.2.2.1 as σ = some (.inl v, σ')) (hcap : cells + (σ'.2.2 - σ.2.2) ≤ R.cells ∧ slots + 6 * (σ'.2.2 - σ.2.2) ≤ R.slots)
    (kk : ∀ (H1 : Heap) (locs1 : List Loc), va_P D vwCl (am_ws ad cA σ') H1 → va_S A s.heap H1 locs1 → W p l e R s m args below meth c H1 locs1 (cells + (σ'.2.2 - σ.2.2)) (slots + 6 * (σ'.2.2 - σ.2.2)) Q (F0 m (pc + 3) ls ((v.toList ++ rest).map (am_cv ad)))) :
    W p l e R s m args below meth c H locs cells slots Q (F0 m pc ls (st.map (am_cv ad))) := by
  obtain ⟨⟨hx, hb, hml, hown, hts⟩, ⟨hlocks, hret, hE1, hE2, hhh⟩, ⟨hK, hZw, hZo, hZt, hA, hD⟩, htr, hRf, hRl⟩ := hC
  obtain ⟨hcw, hmh, hvh, hpar, hpl, hmx, -⟩ := am_ml_spec hN
  obtain ⟨-, hM⟩ := hSp _ _ _ _ _ N hr hN
  have hM : Met l N.1 (am_wds N) (am_rm d (σ'.2.2 - σ.2.2)) (am_Pc D cA ad A as σ) (am_Qr D cA ad A v σ') (σ'.2.2 - σ.2.2) (6 * (σ'.2.2 - σ.2.2)) A := hM
  have hPre : ∀ U : State, U.heap = H → s.WarmedH U.vm → am_Pc D cA ad A as σ (as.map (am_cv ad)).toArray U := fun U hU hW => ⟨rfl, am_Wd_call hK hZw hZo hZt hA hS hP hU hW⟩
  have hws : ∀ w ∈ am_wds N, ∀ (a' : Array Value) (U : State), s.WarmedH U.vm → w.before a' U = true := fun w hw a' U hW => word_at hW (am_good (am_wds_G hcw w hw)) (hts w (am_wds_G hcw w hw))
  have hsig : ∀ sig, parseMethodDescriptor N.1.desc = some sig → N.2.2.2.2.2 = sig.parameters.length := fun sig h9 => by
    rw [h9] at hpar
    exact (Option.some.inj hpar).symm
  have hvt : ∀ v : Option Value, (v.map (am_cv ad)).toList ++ rest.map (am_cv ad) = (v.toList ++ rest).map (am_cv ad) := fun v => by cases v <;> simp
  have hroom : 2 * (F0 m pc ls (st.map (am_cv ad))).monitorRoom + ((rest.map (am_cv ad)).map fun v => v.category).sum ≤ 8 := lv_room (by rw [am_cat_cv]; exact hcat)
  have hfr : (am_rm d (σ'.2.2 - σ.2.2)).frames + 1 ≤ R.frames := by show d + 8 + 1 ≤ R.frames; omega
  have hlo : 8 + (N.2.2.1 + 11) + (am_rm d (σ'.2.2 - σ.2.2)).locals ≤ R.locals := by show 8 + (N.2.2.1 + 11) + (60 * d + 120) ≤ R.locals; omega
  rcases am_cal_spec hq hN with ⟨k0, w1, w2, w3, w4, hh⟩ | ⟨k1, w1, w2, w4⟩ | ⟨k2, w1, w2, w4, hh⟩
  · have hkd : kd = true := by rw [← hk, k0]; rfl
    subst hkd
    obtain ⟨a, as', rfl, hO⟩ := hrecv rfl
    have hcode : am_cw N = Cond.code N.1 N.2.1 N.2.2.1 N.2.2.2.1 := by unfold am_cw; rw [hh]
    have hobj : ∃ ci fs r, am_sh[a]? = some (.inr (ci, fs)) ∧ vwCl[ci]? = some r ∧ r.1 = N.1.cls := by
      unfold am_isO at hO
      split at hO
      · rename_i ci fs hs
        split at hO
        · rename_i r hr9
          exact ⟨ci, fs, r, hs, hr9, by simpa using hO⟩
        · cases hO
      · cases hO
    obtain ⟨ci, fs, r, hs1, hs2, hs3⟩ := hobj
    have hrv := va_recv hK hP hs2 (am_ws_get (ad := ad) (cA := cA) (σ := σ) hs1)
    rw [hs3] at hrv
    refine am_back (va_runV (As := as'.map (am_cv ad)) (rest := rest.map (am_cv ad)) (b := ad a) (C := N.1.cls) (index := idx) (n := N.2.2.2.2.2) ⟨hx, hb, hml, hown, hts⟩ hM
      ⟨⟨rfl, rfl, hfr, hlo, hws, by rw [← hcode]; exact List.mem_cons_self, by rw [← hcode]; exact hts _ hcw, hts _ w4, ⟨hmh, hvh⟩, hsig, hts _ w1⟩, hts _ w2, hts _ w3⟩
      ⟨am_Pc_blind, hrv, hPre⟩ rfl (by simpa using hlen) hl (by rw [hst]; simp [am_cv]) hroom hd hcap) hS (fun H1 locs1 hP1 hS1 => ?_)
    rw [hvt]
    exact kk H1 locs1 hP1 hS1
  · have hkd : kd = false := by rw [← hk, k1]; rfl
    subst hkd
    by_cases hh : N.2.2.2.2.1 = []
    · have hcode : am_cw N = Cond.code N.1 N.2.1 N.2.2.1 N.2.2.2.1 := by unfold am_cw; rw [hh]
      refine am_back (va_runS (As := as.map (am_cv ad)) (rest := rest.map (am_cv ad)) (index := idx) (n := N.2.2.2.2.2) ⟨hx, hb, hml, hown, hts⟩ hM
        ⟨⟨rfl, rfl, hfr, hlo, hws, by rw [← hcode]; exact List.mem_cons_self, by rw [← hcode]; exact hts _ hcw, hts _ w4, ⟨hmh, hvh⟩, hsig, hts _ w1⟩, hts _ w2⟩
        ⟨am_Pc_blind, hPre⟩ rfl (by simpa using hlen) hl (by rw [hst]; simp) hroom hd hcap) hS (fun H1 locs1 hP1 hS1 => ?_)
      rw [hvt]
      exact kk H1 locs1 hP1 hS1
    · have hcode : am_cw N = Cond.codeWith N.1 N.2.1 N.2.2.1 N.2.2.2.1 N.2.2.2.2.1 := by
        unfold am_cw
        split
        · rename_i h9; exact absurd h9 hh
        · rename_i h9; rw [h9]
      refine am_back (vx_runSW (As := as.map (am_cv ad)) (rest := rest.map (am_cv ad)) (index := idx) (n := N.2.2.2.2.2) ⟨hx, hb, hml, hown, hts⟩ hM
        ⟨⟨rfl, rfl, hfr, hlo, hws, by rw [← hcode]; exact List.mem_cons_self⟩, by rw [← hcode]; exact hts _ hcw, hts _ w4, ⟨hmh, hvh⟩, hsig, hts _ w1, hts _ w2⟩
        ⟨am_Pc_blind, hPre⟩ rfl (by simpa using hlen) hl (by rw [hst]; simp) hroom hd hcap) hS (fun H1 locs1 hP1 hS1 => ?_)
      rw [hvt]
      exact kk H1 locs1 hP1 hS1
  · have hkd : kd = false := by rw [← hk, k2]; rfl
    subst hkd
    have hcode : am_cw N = Cond.code N.1 N.2.1 N.2.2.1 N.2.2.2.1 := by unfold am_cw; rw [hh]
    have hnest : va_Nw (.methodLinkNest M.1.cls idx N.1 "KeyArchive") s := hZw.1 _ (List.mem_filter.mpr ⟨w1, rfl⟩)
    refine am_back (va_runSN (As := as.map (am_cv ad)) (rest := rest.map (am_cv ad)) (index := idx) (host := "KeyArchive") (n := N.2.2.2.2.2) ⟨hx, hb, hml, hown, hts⟩ hM
      ⟨⟨⟨rfl, rfl, hfr, hlo, hws, by rw [← hcode]; exact List.mem_cons_self⟩, by rw [← hcode]; exact hts _ hcw, hts _ w4, ⟨hmh, hvh⟩, hsig, va_Nw.use rfl hnest⟩, hts _ w2, trivial⟩
      ⟨am_Pc_blind, hPre⟩ rfl (by simpa using hlen) hl (by rw [hst]; simp) hroom hd hcap) hS (fun H1 locs1 hP1 hS1 => ?_)
    rw [hvt]
    exact kk H1 locs1 hP1 hS1
/-- a call that throws -/
theorem am_callX (hC : am_Cx p l R s m args meth c M D cA ad A d) (hSp : am_Sp l D cA ad A d C) (hl : ls.size = M.2.2.1) (hP : va_P D vwCl (am_ws ad cA σ) H) (hS : va_S A s.heap H locs)
    {kd : Bool} {idx : Nat} {q : String × Nat × Nat × Nat × Nat × Nat × Nat × Nat} {N : am_Mt} {as rest : List Value} {E : String} (hd : decode M.2.1 pc = .ok (if kd then .invokevirtual idx else .invokestatic idx, 3)) (hq : am_cal M.1.cls idx = some q) (hN : am_ml[q.2.2.2.1]? = some N) (hk : (q.2.2.1 == 0) = kd) (hk2 : (q.2.2.1 == 2) = false)
    (hst : st = as.reverse ++ rest) (hlen : as.length = N.2.2.2.2.2 + (if kd then 1 else 0)) (hcat : am_cat rest ≤ 8) (hrecv : kd = true → ∃ a as', as = .ref a :: as' ∧ am_isO a N.1.cls = true) (hr : C q.2.2.2.1 as σ = some (.inr E, σ')) (hcap : cells + (σ'.2.2 - σ.2.2) ≤ R.cells ∧ slots + 6 * (σ'.2.2 - σ.2.2) ≤ R.slots)
    (kk : ∀ (q : Addr) (ce : Cell) (H1 : Heap) (locs1 : List Loc), va_P D vwCl (am_ws ad cA σ') H1 → va_S A s.heap H1 locs1 → H1[q]? = some ce → ce.vm = .none → s.vm.findClass E = some ce.cls → vx_W p l e R s m args below meth c H1 locs1 (cells + (σ'.2.2 - σ.2.2)) (slots + 6 * (σ'.2.2 - σ.2.2)) Q (F0 m pc ls (rest.map (am_cv ad))) q) :
    W p l e R s m args below meth c H locs cells slots Q (F0 m pc ls (st.map (am_cv ad))) := by
  obtain ⟨⟨hx, hb, hml, hown, hts⟩, ⟨hlocks, hret, hE1, hE2, hhh⟩, ⟨hK, hZw, hZo, hZt, hA, hD⟩, htr, hRf, hRl⟩ := hC
  obtain ⟨hcw, hmh, hvh, hpar, hpl, hmx, -⟩ := am_ml_spec hN
  obtain ⟨-, hM⟩ := hSp _ _ _ _ _ N hr hN
  have hM : N.2.2.2.2.1 = [] ∧ vx_Met l N.1 (am_wds N) (am_rm d (σ'.2.2 - σ.2.2)) (am_Pc D cA ad A as σ) (fun _ _ _ _ => False) (am_Qx D cA ad A E σ') (σ'.2.2 - σ.2.2) (6 * (σ'.2.2 - σ.2.2)) A := hM
  obtain ⟨hh, hM⟩ := hM
  have hPre : ∀ U : State, U.heap = H → s.WarmedH U.vm → am_Pc D cA ad A as σ (as.map (am_cv ad)).toArray U := fun U hU hW => ⟨rfl, am_Wd_call hK hZw hZo hZt hA hS hP hU hW⟩
  have hws : ∀ w ∈ am_wds N, ∀ (a' : Array Value) (U : State), s.WarmedH U.vm → w.before a' U = true := fun w hw a' U hW => word_at hW (am_good (am_wds_G hcw w hw)) (hts w (am_wds_G hcw w hw))
  have hsig : ∀ sig, parseMethodDescriptor N.1.desc = some sig → N.2.2.2.2.2 = sig.parameters.length := fun sig h9 => by
    rw [h9] at hpar
    exact (Option.some.inj hpar).symm
  have hroom : 2 * (F0 m pc ls (st.map (am_cv ad))).monitorRoom + ((rest.map (am_cv ad)).map fun v => v.category).sum ≤ 8 := lv_room (by rw [am_cat_cv]; exact hcat)
  have hfr : (am_rm d (σ'.2.2 - σ.2.2)).frames + 1 ≤ R.frames := by show d + 8 + 1 ≤ R.frames; omega
  have hlo : 8 + (N.2.2.1 + 11) + (am_rm d (σ'.2.2 - σ.2.2)).locals ≤ R.locals := by show 8 + (N.2.2.1 + 11) + (60 * d + 120) ≤ R.locals; omega
  have hcode : am_cw N = Cond.code N.1 N.2.1 N.2.2.1 N.2.2.2.1 := by unfold am_cw; rw [hh]
  rcases am_cal_spec hq hN with ⟨k0, w1, w2, w3, w4, -⟩ | ⟨k1, w1, w2, w4⟩ | ⟨k2, -⟩
  · have hkd : kd = true := by rw [← hk, k0]; rfl
    subst hkd
    obtain ⟨a, as', rfl, hO⟩ := hrecv rfl
    have hobj : ∃ ci fs r, am_sh[a]? = some (.inr (ci, fs)) ∧ vwCl[ci]? = some r ∧ r.1 = N.1.cls := by
      unfold am_isO at hO
      split at hO
      · rename_i ci fs hs
        split at hO
        · rename_i r hr9
          exact ⟨ci, fs, r, hs, hr9, by simpa using hO⟩
        · cases hO
      · cases hO
    obtain ⟨ci, fs, r, hs1, hs2, hs3⟩ := hobj
    have hrv := va_recv hK hP hs2 (am_ws_get (ad := ad) (cA := cA) (σ := σ) hs1)
    rw [hs3] at hrv
    exact am_backX (aa := #[]) (vx_runV (As := as'.map (am_cv ad)) (rest := rest.map (am_cv ad)) (b := ad a) (C := N.1.cls) (index := idx) (n := N.2.2.2.2.2) ⟨hx, hb, hml, hown, hts⟩ hM
      ⟨⟨rfl, rfl, hfr, hlo, hws, by rw [← hcode]; exact List.mem_cons_self, by rw [← hcode]; exact hts _ hcw, hts _ w4, ⟨hmh, hvh⟩, hsig, hts _ w1⟩, hts _ w2, hts _ w3⟩
      ⟨am_Pc_blind, hrv, hPre⟩ rfl (by simpa using hlen) hl (by rw [hst]; simp [am_cv]) hroom hd hcap) hS kk
  · have hkd : kd = false := by rw [← hk, k1]; rfl
    subst hkd
    exact am_backX (aa := #[]) (vx_runS (As := as.map (am_cv ad)) (rest := rest.map (am_cv ad)) (index := idx) (n := N.2.2.2.2.2) ⟨hx, hb, hml, hown, hts⟩ hM
      ⟨⟨rfl, rfl, hfr, hlo, hws, by rw [← hcode]; exact List.mem_cons_self, by rw [← hcode]; exact hts _ hcw, hts _ w4, ⟨hmh, hvh⟩, hsig, hts _ w1⟩, hts _ w2⟩
      ⟨am_Pc_blind, hPre⟩ rfl (by simpa using hlen) hl (by rw [hst]; simp) hroom hd hcap) hS kk
  · rw [k2] at hk2; cases hk2
end AMF
