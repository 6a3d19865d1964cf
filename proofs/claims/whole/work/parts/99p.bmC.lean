/-! its ends, and all methods -/
section BMC
variable {nS : Nat}
section AMTB
variable {p : Program} {l : Launch} {e : Env} {R : Room} {s : State} {m : MethodId} {args : Array Value} {below : List Frame} {meth : Method} {c : Code} {H : Heap} {locs : List Loc} {cells slots : Nat}
variable {Qc : Array Value → State → Outcome → State → Prop} {XC : String → State → State → Prop} {free : Addr → Prop} {ls : Array Slot} {rest : List Value}
end AMTB
section AMUB
variable {p : Program} {l : Launch} {e : Env} {R : Room} {s : State} {m : MethodId} {args : Array Value} {below : List Frame} {meth : Method} {c : Code} {H : Heap} {locs : List Loc} {cells slots : Nat} {Q : State → Prop}
variable {ad : Nat → Nat} {cA : Nat → ClassId} {D : va_G} {A : Nat → Prop} {X : am_X} {C : am_C} {M : am_Mt} {d pc : Nat} {ls : Array Slot} {lv st : List Value} {σ σ' : am_M}
/-- a throw -/
theorem bm_thr_sound (hC : bm_Cx nS p l R s m args meth c M D cA ad A d) (hl : ls.size = M.2.2.1) (hP : va_P D vwCl (bm_ws nS ad cA σ) H) (hS : va_S A s.heap H locs) {ik is ic k : Nat} {E : String} {mc ms : Nat} {Qc : Array Value → State → Outcome → State → Prop}
    (h : am_new M ik is ic st σ = some (.inl (.inr E, σ'))) (d0 : decode M.2.1 pc = .ok (.new ik, 3)) (d3 : decode M.2.1 (pc + 3) = .ok (.dup, 1)) (d4 : (decode M.2.1 (pc + 4) = .ok (.ldc is, 2) ∧ k = 2) ∨ (decode M.2.1 (pc + 4) = .ok (.ldc_w is, 3) ∧ k = 3)) (d6 : decode M.2.1 (pc + 4 + k) = .ok (.invokespecial ic, 3)) (d9 : decode M.2.1 (pc + 4 + k + 3) = .ok (.athrow, 1))
    (hm1 : cells + (σ'.2.2 - σ.2.2) = mc) (hm2 : slots + 6 * (σ'.2.2 - σ.2.2) = ms) (hcap : mc ≤ R.cells ∧ ms ≤ R.slots) :
    W p l e R s m args below meth c H locs cells slots (vx_MQ below Qc (bm_Qx nS D cA ad A E σ') args s mc ms A) (F0 m pc ls (st.map (am_cv ad))) := by
  obtain ⟨⟨hx, hb, hml, hown, hts⟩, ⟨hlocks, hret, hE1, hE2, hhh⟩, ⟨hK, hZw, hZo, hZt, hA, hD⟩, htr, hRf, hRl⟩ := hC
  unfold am_new at h
  split at h
  · rename_i hh
    obtain ⟨hcat, h⟩ := Option.ite_none_right_eq_some.mp h
    have hcat := of_decide_eq_true hcat
    split at h
    · rename_i q hq
      cases h
      have hq1 := List.find?_some hq
      have hq2 := List.mem_of_find?_eq_some hq
      simp only [Bool.and_eq_true, beq_iff_eq] at hq1
      obtain ⟨e1, e2, e3, e4⟩ := hq1
      have hrow := List.all_eq_true.mp am_xt_ok q hq2
      simp only [Bool.and_eq_true, Bool.or_eq_true, decide_eq_true_eq, beq_iff_eq] at hrow
      obtain ⟨r1, r2, r3, r4⟩ := hrow
      have w3 := hts _ (am_G_mem (am_at_mem r3) rfl)
      have w4 := hts _ (am_G_mem (am_at_mem r4) rfl)
      rw [e1, e2] at w3
      obtain ⟨sa, hsa⟩ := hZw.2.1 q hq2
      rw [e1, e3] at hsa
      have hKA : M.1.cls = "KeyArchive" := e1.symm.trans r1
      have hk1 : (am_tick σ).2.2 - σ.2.2 = 1 := by show σ.2.2 + 1 - σ.2.2 = 1; omega
      rw [hk1] at hm1 hm2
      have hpost : ∀ t : State, s.vm.Alike t.vm → H.size ≤ t.heap.size → (∀ z : Nat, z < H.size → t.heap[z]? = H[z]?) → bm_Qx nS D cA ad A q.2.2.2.2.1 (am_tick σ) q.2.2.2.2.1 s t := by
        intro t _ hz hkp
        refine ⟨rfl, ?_, Nat.le_trans hS.1 hz, fun z h1 h2 => by rw [hkp z (Nat.lt_of_lt_of_le h1 hS.1)]; exact hS.2.1 z h1 h2⟩
        have hsame : bm_ws nS ad cA (am_tick σ) = bm_ws nS ad cA σ := rfl
        rw [hsame]
        intro k9 q9 h9
        exact (hP k9 q9 h9).kept (hkp _ (hP k9 q9 h9).lt)
      rcases r2 with r2 | ⟨r2a, r2b⟩
      · have hxs := List.all_eq_true.mp am_xs_ok _ r2
        simp only [am_xok, Bool.and_eq_true] at hxs
        rw [e4, ← hKA] at hxs
        obtain ⟨u1, u2⟩ := am_words hts hZw hxs.2
        have hg : ∀ w ∈ Cond.classLink M.1.cls ik q.2.2.2.2.1 :: Cond.initialized q.2.2.2.2.1 :: vx_atS M.1.cls ic q.2.2.2.2.1 am_exn, vx_ot w = true := by
          intro w hw
          rcases List.mem_cons.mp hw with rfl | hw
          · rfl
          · rcases List.mem_cons.mp hw with rfl | hw
            · rfl
            · exact u2 w hw
        rcases d4 with ⟨d4, rfl⟩ | ⟨d4, rfl⟩
        · exact vx_throwS (A := A) hx hb htr (own := M.1.cls) (cls := q.2.2.2.2.1) (names := am_exn) hown hxs.1 am_fit_n w3 w4 hsa u1 hg hZt.1 hZt.2 hS (by rw [hml]; exact hl) d0 d3 d4 d6 d9 (fun x hx9 => (hE1 hh x hx9).elim) (by show 2 + 3 < R.frames; omega) (by rw [am_cat_cv]; show am_cat st + (13 * (2 + 1) + 43) ≤ R.locals; omega) (by omega) (by omega) hlocks hpost hS.2.2 (by omega) (by omega)
        · exact vx_throwSW (A := A) hx hb htr (own := M.1.cls) (cls := q.2.2.2.2.1) (names := am_exn) hown hxs.1 am_fit_n w3 w4 hsa u1 hg hZt.1 hZt.2 hS (by rw [hml]; exact hl) d0 d3 d4 d6 d9 (fun x hx9 => (hE1 hh x hx9).elim) (by show 2 + 3 < R.frames; omega) (by rw [am_cat_cv]; show am_cat st + (13 * (2 + 1) + 43) ≤ R.locals; omega) (by omega) (by omega) hlocks hpost hS.2.2 (by omega) (by omega)
      · rw [e4] at r2a
        subst r2a
        have r2b : q.2.2.2.2.1 = am_NS := r2b
        rw [r2b] at w3 w4 hpost ⊢
        obtain ⟨u1, u2⟩ := am_words hts hZw am_atN_ok.2.2.2
        rw [← hKA] at u1 u2
        exact am_thrN (A := A) hx hb htr (own := M.1.cls) hown w3 w4 hsa u1 (by
          intro w hw
          rcases List.mem_cons.mp hw with rfl | hw
          · rfl
          · rcases List.mem_cons.mp hw with rfl | hw
            · rfl
            · exact u2 w hw) hZt.1 hZt.2 hS (by rw [hml]; exact hl) d0 d3 d4 d6 d9 (fun x hx9 => (hE1 hh x hx9).elim) (by omega) (by rw [am_cat_cv]; omega) (by omega) (by omega) hlocks hpost hS.2.2 (by omega) (by omega)
    · cases h
  · cases h
/-- the end of a run that returns -/
theorem bm_termR (hC : bm_Cx nS p l R s m args meth c M D cA ad A d) (hP : va_P D vwCl (bm_ws nS ad cA σ) H) (hS : va_S A s.heap H locs) {v : Option Value} (h : bm_nxt nS X C M pc lv st σ = some (.inl (.inl v, σ'))) {mc ms : Nat} (h1 : cells + (σ'.2.2 - σ.2.2) = mc) (h2 : slots + 6 * (σ'.2.2 - σ.2.2) = ms) :
    W p l e R s m args below meth c H locs cells slots (MQ below (bm_Qr nS D cA ad A v σ') args s mc ms A) (F0 m pc ls (st.map (am_cv ad))) := by
  obtain ⟨⟨hx, hb, hml, hown, hts⟩, ⟨hlocks, hret, hE1, hE2, hhh⟩, ⟨hK, hZw, hZo, hZt, hA, hD⟩, htr, hRf, hRl⟩ := hC
  have inv : ∀ (kd : Bool) (k : Nat), bm_inv nS kd C M k pc lv st σ = some (.inl (.inl v, σ')) → False := by
    intro kd k h
    obtain ⟨z, N, as, rest, hz, hN, hk, hst, hlen, hcat, hrecv, h9⟩ := bm_inv_spec h
    unfold am_aft at h9
    split at h9
    · cases h9
    · obtain ⟨-, h9⟩ := Option.ite_none_right_eq_some.mp h9
      cases h9
    · split at h9
      · cases h9
      · unfold am_exc at h9
        split at h9
        · cases h9
        · split at h9
          · cases h9
          · split at h9
            · split at h9 <;> cases h9
            · split at h9 <;> cases h9
            · cases h9
  have new : ∀ (ik is ic : Nat), am_new M ik is ic st σ = some (.inl (.inl v, σ')) → False := by
    intro ik is ic h
    unfold am_new at h
    split at h
    · obtain ⟨-, h⟩ := Option.ite_none_right_eq_some.mp h
      split at h <;> cases h
    · cases h
  unfold bm_nxt at h
  split at h
  · cases h
  · rename_i i len hd
    split at h
    · cases h
    · split at h
      · cases h
      · split at h
        · cases h
        · split at h
          · cases h
          · unfold bm_fE at h
            split at h
            · exact (inv _ _ h).elim
            · exact (inv _ _ h).elim
            · split at h
              · rename_i v9
                obtain ⟨hr, h⟩ := Option.ite_none_right_eq_some.mp h
                cases h
                simp only [Nat.sub_self, Nat.mul_zero, Nat.add_zero] at h1 h2
                subst h1; subst h2
                simp only [Bool.or_eq_true, Bool.and_eq_true, beq_iff_eq] at hr
                rcases hr with hr | ⟨hr, hz⟩
                · exact W.iret hx hb (hret.trans hr) (fun t ht hW => ⟨rfl, by rw [ht]; exact hP, hS.F ht⟩) hS.2.2 hd hlocks
                · refine W.zret hx hb (hret.trans hr) ?_ (fun t ht hW => ⟨rfl, by rw [ht]; exact hP, hS.F ht⟩) hS.2.2 hd hlocks
                  rcases hz with rfl | rfl
                  · decide +kernel
                  · decide +kernel
              · cases h
            · split at h
              · obtain ⟨hr, h⟩ := Option.ite_none_right_eq_some.mp h
                cases h
                simp only [Nat.sub_self, Nat.mul_zero, Nat.add_zero] at h1 h2
                subst h1; subst h2
                simp only [beq_iff_eq] at hr
                exact W.lret hx hb (hret.trans hr) (fun t ht hW => ⟨rfl, by rw [ht]; exact hP, hS.F ht⟩) hS.2.2 hd hlocks
              · cases h
            · split at h
              · obtain ⟨hr, h⟩ := Option.ite_none_right_eq_some.mp h
                cases h
                simp only [Nat.sub_self, Nat.mul_zero, Nat.add_zero] at h1 h2
                subst h1; subst h2
                simp only [beq_iff_eq] at hr
                exact W.vret hx hb (hret.trans hr) (fun t ht hW => ⟨rfl, by rw [ht]; exact hP, hS.F ht⟩) hS.2.2 hd hlocks
              · cases h
            · obtain ⟨-, h⟩ := Option.ite_none_right_eq_some.mp h
              split at h
              · split at h
                · obtain ⟨-, h⟩ := Option.ite_none_right_eq_some.mp h
                  exact (new _ _ _ h).elim
                · cases h
              · split at h
                · obtain ⟨-, h⟩ := Option.ite_none_right_eq_some.mp h
                  exact (new _ _ _ h).elim
                · cases h
              · cases h
            · cases h
/-- the end of a run that throws -/
theorem bm_termX (hC : bm_Cx nS p l R s m args meth c M D cA ad A d) (hSp : bm_Sp nS l D cA ad A d C) (hl : ls.size = M.2.2.1) (hP : va_P D vwCl (bm_ws nS ad cA σ) H) (hS : va_S A s.heap H locs) {E : String} (h : bm_nxt nS X C M pc lv st σ = some (.inl (.inr E, σ'))) {mc ms : Nat} (h1 : cells + (σ'.2.2 - σ.2.2) = mc) (h2 : slots + 6 * (σ'.2.2 - σ.2.2) = ms) (hcap : mc ≤ R.cells ∧ ms ≤ R.slots) :
    M.2.2.2.2.1 = [] ∧ W p l e R s m args below meth c H locs cells slots (vx_MQ below (fun _ _ _ _ => False) (bm_Qx nS D cA ad A E σ') args s mc ms A) (F0 m pc ls (st.map (am_cv ad))) := by
  obtain ⟨⟨hx, hb, hml, hown, hts⟩, ⟨hlocks, hret, hE1, hE2, hhh⟩, ⟨hK, hZw, hZo, hZt, hA, hD⟩, htr, hRf, hRl⟩ := id hC
  have inv : ∀ (kd : Bool) (k : Nat), decode M.2.1 pc = .ok (if kd then .invokevirtual k else .invokestatic k, 3) → bm_inv nS kd C M k pc lv st σ = some (.inl (.inr E, σ')) → M.2.2.2.2.1 = [] ∧ W p l e R s m args below meth c H locs cells slots (vx_MQ below (fun _ _ _ _ => False) (bm_Qx nS D cA ad A E σ') args s mc ms A) (F0 m pc ls (st.map (am_cv ad))) := by
    intro kd k hd h
    obtain ⟨z, N, as, rest, hz, hN, hk, hst, hlen, hcat, hrecv, h9⟩ := bm_inv_spec h
    unfold am_aft at h9
    split at h9
    · cases h9
    · obtain ⟨-, h9⟩ := Option.ite_none_right_eq_some.mp h9
      cases h9
    · rename_i E9 σ9 hc
      split at h9
      · cases h9
      · rename_i hk2
        have hk2 : (z.2.2.1 == 2) = false := by simpa using hk2
        unfold am_exc at h9
        split at h9
        · rename_i hh
          cases h9
          refine ⟨hh, bm_callX hC hSp hl hP hS hd hz hN hk hk2 hst hlen hcat hrecv hc ⟨by omega, by omega⟩ (fun qa ce H1 locs1 g1 g2 g3 g4 g5 => ?_)⟩
          exact vx_out (fun x hx9 => (hE1 hh x hx9).elim) hlocks g3 g4 g5 (fun t ht hW => ⟨rfl, by rw [ht]; exact g1, g2.F ht⟩) g2.2.2 (Nat.le_of_eq h1) (Nat.le_of_eq h2)
        · split at h9
          · cases h9
          · split at h9
            · split at h9 <;> cases h9
            · split at h9 <;> cases h9
            · cases h9
  have hnil : ∀ (ik is ic : Nat), am_new M ik is ic st σ = some (.inl (.inr E, σ')) → M.2.2.2.2.1 = [] := by
    intro ik is ic h
    unfold am_new at h
    split at h
    · assumption
    · cases h
  unfold bm_nxt at h
  split at h
  · cases h
  · rename_i i len hd
    split at h
    · cases h
    · split at h
      · cases h
      · split at h
        · cases h
        · split at h
          · cases h
          · unfold bm_fE at h
            split at h
            · exact inv true _ hd h
            · exact inv false _ hd h
            · split at h
              · obtain ⟨-, h⟩ := Option.ite_none_right_eq_some.mp h
                cases h
              · cases h
            · split at h
              · obtain ⟨-, h⟩ := Option.ite_none_right_eq_some.mp h
                cases h
              · cases h
            · split at h
              · obtain ⟨-, h⟩ := Option.ite_none_right_eq_some.mp h
                cases h
              · cases h
            · obtain ⟨d3, h⟩ := Option.ite_none_right_eq_some.mp h
              split at h
              · rename_i d4
                split at h
                · rename_i d6
                  obtain ⟨d9, h⟩ := Option.ite_none_right_eq_some.mp h
                  exact ⟨hnil _ _ _ h, bm_thr_sound hC hl hP hS h hd d3 (Or.inl ⟨d4, rfl⟩) d6 d9 h1 h2 hcap⟩
                · cases h
              · rename_i d4
                split at h
                · rename_i d6
                  obtain ⟨d9, h⟩ := Option.ite_none_right_eq_some.mp h
                  exact ⟨hnil _ _ _ h, bm_thr_sound hC hl hP hS h hd d3 (Or.inr ⟨d4, rfl⟩) d6 d9 h1 h2 hcap⟩
                · cases h
              · cases h
            · cases h
end AMUB
theorem bm_nxt_inr {X : am_X} {C : am_C} {M : am_Mt} {pc : Nat} {lv st : List Value} {σ σ' : am_M} {E : String} (h : bm_nxt nS X C M pc lv st σ = some (.inl (.inr E, σ'))) : M.2.2.2.2.1 = [] := by
  have inv : ∀ (kd : Bool) (k : Nat), bm_inv nS kd C M k pc lv st σ = some (.inl (.inr E, σ')) → M.2.2.2.2.1 = [] := by
    intro kd k h
    obtain ⟨z, N, as, rest, hz, hN, hk, hst, hlen, hcat, hrecv, h9⟩ := bm_inv_spec h
    unfold am_aft at h9
    split at h9
    · cases h9
    · obtain ⟨-, h9⟩ := Option.ite_none_right_eq_some.mp h9
      cases h9
    · split at h9
      · cases h9
      · unfold am_exc at h9
        split at h9
        · assumption
        · split at h9
          · cases h9
          · split at h9
            · split at h9 <;> cases h9
            · split at h9 <;> cases h9
            · cases h9
  have hnil : ∀ (ik is ic : Nat), am_new M ik is ic st σ = some (.inl (.inr E, σ')) → M.2.2.2.2.1 = [] := by
    intro ik is ic h
    unfold am_new at h
    split at h
    · assumption
    · cases h
  unfold bm_nxt at h
  split at h
  · cases h
  · split at h
    · cases h
    · split at h
      · cases h
      · split at h
        · cases h
        · split at h
          · cases h
          · unfold bm_fE at h
            split at h
            · exact inv true _ h
            · exact inv false _ h
            · split at h
              · obtain ⟨-, h⟩ := Option.ite_none_right_eq_some.mp h
                cases h
              · cases h
            · split at h
              · obtain ⟨-, h⟩ := Option.ite_none_right_eq_some.mp h
                cases h
              · cases h
            · split at h
              · obtain ⟨-, h⟩ := Option.ite_none_right_eq_some.mp h
                cases h
              · cases h
            · obtain ⟨d3, h⟩ := Option.ite_none_right_eq_some.mp h
              split at h
              · split at h
                · obtain ⟨d9, h⟩ := Option.ite_none_right_eq_some.mp h
                  exact hnil _ _ _ h
                · cases h
              · split at h
                · obtain ⟨d9, h⟩ := Option.ite_none_right_eq_some.mp h
                  exact hnil _ _ _ h
                · cases h
              · cases h
            · cases h
theorem bm_run_inr {X : am_X} {C : am_C} {M : am_Mt} {E : String} {σ' : am_M} : ∀ (n pc : Nat) (lv st : List Value) (σ : am_M), bm_run nS X C M n pc lv st σ = some (.inr E, σ') → M.2.2.2.2.1 = [] := by
  intro n
  induction n with
  | zero => intro pc lv st σ h; simp [bm_run] at h
  | succ n ih =>
    intro pc lv st σ h
    unfold bm_run at h
    split at h
    · cases h
    · rename_i r9 h9
      cases h
      exact bm_nxt_inr h9
    · exact ih _ _ _ _ h
section AMVB
variable {l : Launch} {D : va_G} {cA : Nat → ClassId} {ad : Nat → Nat} {A : Nat → Prop}
theorem bm_body (htr : l.stackTraces = false) (hD : ∀ σ, va_D A (bm_ws nS ad cA σ)) {d k kk : Nat} {M : am_Mt} (hM : am_ml[k]? = some M) {σ : am_M} {p : Program} {e : Env} {s s₁ : State} {m : MethodId} {args : Array Value} {below : List Frame} {meth : Method} {c : Code}
    (B : BodyLoose p l M.1 (headSpec (am_wds M) (am_rm (d + 1) kk)) M.2.1 M.2.2.1 M.2.2.2.1 e s m args below meth c s₁) (hml : c.maxLocals = M.2.2.1) (hWd : bm_Wd nS D cA ad A σ s) : bm_Cx nS p l (headSpec (am_wds M) (am_rm (d + 1) kk)).room s m args meth c M D cA ad A d := by
  have hts := atoms_spec (ws := am_wds M) B.pre
  obtain ⟨h1, h2, h3, h4, h5, h6⟩ := hWd
  refine ⟨⟨B.exec, B.bytes, hml, findClass_of_methodNamed B.named, fun w hw => hts w (List.mem_cons_of_mem _ hw)⟩, ⟨B.notSynchronized, B.returns, fun hh => ?_, fun hh => ?_, (am_ml_spec hM).2.2.2.2.2.2⟩, ⟨h2, h3, h4, h5, h6, hD⟩, htr, by show d + 9 ≤ d + 1 + 8; omega, by show 60 * d + 180 ≤ 60 * (d + 1) + 120; omega⟩
  · have hcode : am_cw M = Cond.code M.1 M.2.1 M.2.2.1 M.2.2.2.1 := by unfold am_cw; rw [hh]
    have hw : (Cond.code M.1 M.2.1 M.2.2.1 M.2.2.2.1).before args s = true := by rw [← hcode]; exact hts _ List.mem_cons_self
    obtain ⟨meth9, c9, g1, g2, -, -, -, -, g7, -⟩ := Cond.code_spec B.named hw
    cases Option.some.inj (g1.symm.trans B.method)
    cases Option.some.inj (g2.symm.trans (Stand.of_body B).code)
    intro x hx
    rw [Array.isEmpty_iff.mp g7] at hx
    cases hx
  · have hcode : am_cw M = Cond.codeWith M.1 M.2.1 M.2.2.1 M.2.2.2.1 M.2.2.2.2.1 := by
      unfold am_cw
      split
      · rename_i h9; exact absurd h9 hh
      · rename_i h9; rw [h9]
    have hw : (Cond.codeWith M.1 M.2.1 M.2.2.1 M.2.2.2.1 M.2.2.2.2.1).before args s = true := by rw [← hcode]; exact hts _ List.mem_cons_self
    exact vx_table (x := M.1) B hw
theorem bm_ex_sound (htr : l.stackTraces = false) (hD : ∀ σ, va_D A (bm_ws nS ad cA σ)) : ∀ d, bm_Sp nS l D cA ad A d (bm_ex nS d) := by
  intro d
  induction d with
  | zero => intro k as σ r σ' M h; simp [bm_ex] at h
  | succ d ih =>
    intro k as σ r σ' M h hM
    unfold bm_ex at h
    rw [hM] at h
    obtain ⟨hlen, h⟩ := Option.ite_none_right_eq_some.mp h
    obtain ⟨n, hn⟩ := bm_go_ex h
    have hmono : σ.2.2 ≤ σ'.2.2 := bm_run_k ih _ _ _ _ _ _ hn
    refine ⟨hmono, ?_⟩
    have hpl := (am_ml_spec hM).2.2.2.2.1
    have hX0 : ∀ s : State, am_Xo ad A am_X0 s := fun s h0 => absurd h0 (Nat.lt_irrefl 0)
    cases r with
    | inl v =>
      show Met l M.1 (am_wds M) (am_rm (d + 1) (σ'.2.2 - σ.2.2)) (bm_Pc nS D cA ad A as σ) (bm_Qr nS D cA ad A v σ') (σ'.2.2 - σ.2.2) (6 * (σ'.2.2 - σ.2.2)) A
      have body : ∀ p e s m args below meth c s₁, BodyLoose p l M.1 (headSpec (am_wds M) (am_rm (d + 1) (σ'.2.2 - σ.2.2))) M.2.1 M.2.2.1 M.2.2.2.1 e s m args below meth c s₁ → c.maxLocals = M.2.2.1 → bm_Pc nS D cA ad A as σ args s →
          W p l e (headSpec (am_wds M) (am_rm (d + 1) (σ'.2.2 - σ.2.2))).room s m args below meth c s.heap [] 0 0 (MQ below (bm_Qr nS D cA ad A v σ') args s (σ'.2.2 - σ.2.2) (6 * (σ'.2.2 - σ.2.2)) A) (entryFrame m args M.2.2.1) := by
        intro p e s m args below meth c s₁ B hml hv
        obtain ⟨rfl, hWd⟩ := hv
        have hC := bm_body htr hD hM (d := d) B hml hWd
        obtain ⟨hl, hll⟩ := am_entry (ad := ad) hlen
        rw [lg_entry_eq]
        generalize (lg_sl (as.map (am_cv ad)) ++ List.replicate (M.2.2.1 - (lg_sl (as.map (am_cv ad))).length) Slot.unset).toArray = ls at hl ⊢
        exact bm_run_sound hC (hX0 s) ih (res := .inl v) (σf := σ') (cf := σ'.2.2 - σ.2.2) (sf := 6 * (σ'.2.2 - σ.2.2)) ⟨Nat.le_refl _, Nat.le_refl _⟩
          (fun pc lv st σ9 ls9 H9 locs9 k9 n9 g1 g2 g3 g4 g5 g6 g7 => bm_termR hC g4 g5 g1 g6 g7) n 0 (am_in0 as M.2.2.1) [] σ ls s.heap [] 0 0 hn hl hll hWd.1 va_S.rf (Nat.zero_add _) (Nat.zero_add _)
      by_cases hh : M.2.2.2.2.1 = []
      · have hcode : am_cw M = Cond.code M.1 M.2.1 M.2.2.1 M.2.2.2.1 := by unfold am_cw; rw [hh]
        exact Met.ofW hpl (by unfold am_wds; rw [hcode]) body
      · have hcode : am_cw M = Cond.codeWith M.1 M.2.1 M.2.2.1 M.2.2.2.1 M.2.2.2.2.1 := by
          unfold am_cw
          split
          · rename_i h9; exact absurd h9 hh
          · rename_i h9; rw [h9]
        exact va_MetW hpl (by unfold am_wds; rw [hcode]) body
    | inr E =>
      have hh := bm_run_inr _ _ _ _ _ hn
      refine ⟨hh, ?_⟩
      have hcode : am_cw M = Cond.code M.1 M.2.1 M.2.2.1 M.2.2.2.1 := by unfold am_cw; rw [hh]
      refine vx_ofW (cc := M.2.1) (maxL := M.2.2.1) (ret := M.2.2.2.1) hpl (by unfold am_wds; rw [hcode]) ?_
      intro p e s m args below meth c s₁ B hml _ hv
      obtain ⟨rfl, hWd⟩ := hv
      have hC := bm_body htr hD hM (d := d) B hml hWd
      obtain ⟨hl, hll⟩ := am_entry (ad := ad) hlen
      rw [lg_entry_eq]
      generalize (lg_sl (as.map (am_cv ad)) ++ List.replicate (M.2.2.1 - (lg_sl (as.map (am_cv ad))).length) Slot.unset).toArray = ls at hl ⊢
      exact bm_run_sound hC (hX0 s) ih (res := .inr E) (σf := σ') (cf := σ'.2.2 - σ.2.2) (sf := 6 * (σ'.2.2 - σ.2.2)) ⟨Nat.le_refl _, Nat.le_refl _⟩
        (fun pc lv st σ9 ls9 H9 locs9 k9 n9 g1 g2 g3 g4 g5 g6 g7 => (bm_termX hC ih g2.1 g4 g5 g1 g6 g7 ⟨Nat.le_refl _, Nat.le_refl _⟩).2) n 0 (am_in0 as M.2.2.1) [] σ ls s.heap [] 0 0 hn hl hll hWd.1 va_S.rf (Nat.zero_add _) (Nat.zero_add _)
end AMVB
end BMC
