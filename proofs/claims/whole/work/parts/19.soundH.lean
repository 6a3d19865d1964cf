/-! all methods, by the depth of calls -/
theorem am_nxt_inr {X : am_X} {C : am_C} {M : am_Mt} {pc : Nat} {lv st : List Value} {σ σ' : am_M} {E : String} (h : am_nxt X C M pc lv st σ = some (.inl (.inr E, σ'))) : M.2.2.2.2.1 = [] := by
  have inv : ∀ (kd : Bool) (k : Nat), am_inv kd C M k pc lv st σ = some (.inl (.inr E, σ')) → M.2.2.2.2.1 = [] := by
    intro kd k h
    obtain ⟨z, N, as, rest, hz, hN, hk, hst, hlen, hcat, hrecv, h9⟩ := am_inv_spec h
    unfold am_aft at h9
    split at h9
    · cases h9
    · obtain ⟨-, h9⟩ := Option.ite_none_right_eq_some.mp h9
      cases h9
    · split at h9
      · cases h9
      · unfold am_exc at h9
        split at h9
        · assumption
        · split at h9
          · cases h9
          · split at h9
            · split at h9 <;> cases h9
            · split at h9 <;> cases h9
            · cases h9
  have hnil : ∀ (ik is ic : Nat), am_new M ik is ic st σ = some (.inl (.inr E, σ')) → M.2.2.2.2.1 = [] := by
    intro ik is ic h
    unfold am_new at h
    split at h
    · assumption
    · cases h
  unfold am_nxt at h
  split at h
  · cases h
  · split at h
    · cases h
    · split at h
      · cases h
      · split at h
        · cases h
        · split at h
          · cases h
          · unfold am_fE at h
            split at h
            · exact inv true _ h
            · exact inv false _ h
            · split at h
              · obtain ⟨-, h⟩ := Option.ite_none_right_eq_some.mp h
                cases h
              · cases h
            · split at h
              · obtain ⟨-, h⟩ := Option.ite_none_right_eq_some.mp h
                cases h
              · cases h
            · split at h
              · obtain ⟨-, h⟩ := Option.ite_none_right_eq_some.mp h
                cases h
              · cases h
            · obtain ⟨d3, h⟩ := Option.ite_none_right_eq_some.mp h
              split at h
              · split at h
                · obtain ⟨d9, h⟩ := Option.ite_none_right_eq_some.mp h
                  exact hnil _ _ _ h
                · cases h
              · split at h
                · obtain ⟨d9, h⟩ := Option.ite_none_right_eq_some.mp h
                  exact hnil _ _ _ h
                · cases h
              · cases h
            · cases h
theorem am_run_inr {X : am_X} {C : am_C} {M : am_Mt} {E : String} {σ' : am_M} : ∀ (n pc : Nat) (lv st : List Value) (σ : am_M), am_run X C M n pc lv st σ = some (.inr E, σ') → M.2.2.2.2.1 = [] := by
  intro n
  induction n with
  | zero => intro pc lv st σ h; simp [am_run] at h
  | succ n ih =>
    intro pc lv st σ h
    unfold am_run at h
    split at h
    · cases h
    · rename_i r9 h9
      cases h
      exact am_nxt_inr h9
    · exact ih _ _ _ _ h
theorem am_args {ad : Nat → Nat} : ∀ (as : List Value) (off i : Nat) (v : Value), (am_ls as)[i]? = some v → v ≠ .null → (off + i, am_cv ad v) ∈ lv_args off (as.map (am_cv ad)) := by
  intro as
  induction as with
  | nil => intro off i v h; simp [am_ls] at h
  | cons x xs ih =>
    intro off i v h hv
    have e : am_ls (x :: xs) = (if x.category = 2 then [x, .null] else [x]) ++ am_ls xs := by simp [am_ls]
    rw [e] at h
    rw [List.map_cons, lv_args, am_cv_cat]
    by_cases hc : x.category = 2
    · rw [if_pos hc] at h ⊢
      match i, h with
      | 0, h => cases h; exact List.mem_cons_self
      | 1, h => cases h; exact absurd rfl hv
      | j + 2, h =>
        have := ih (off + 2) j v (by simpa using h) hv
        rw [show off + (j + 2) = off + 2 + j by omega]
        exact List.mem_cons_of_mem _ this
    · rw [if_neg hc] at h ⊢
      match i, h with
      | 0, h => cases h; exact List.mem_cons_self
      | j + 1, h =>
        have := ih (off + 1) j v (by simpa using h) hv
        rw [show off + (j + 1) = off + 1 + j by omega]
        exact List.mem_cons_of_mem _ this
theorem am_sl_len (ad : Nat → Nat) (as : List Value) : (lg_sl (as.map (am_cv ad))).length = (am_ls as).length := by
  induction as with
  | nil => rfl
  | cons x xs ih =>
    have e1 : am_ls (x :: xs) = (if x.category = 2 then [x, .null] else [x]) ++ am_ls xs := by simp [am_ls]
    have e2 : lg_sl ((x :: xs).map (am_cv ad)) = (if (am_cv ad x).category = 2 then [Slot.val (am_cv ad x), .second] else [.val (am_cv ad x)]) ++ lg_sl (xs.map (am_cv ad)) := by simp [lg_sl]
    rw [e1, e2, List.length_append, List.length_append, ih, am_cv_cat]
    by_cases hc : x.category = 2
    · rw [if_pos hc, if_pos hc]; rfl
    · rw [if_neg hc, if_neg hc]; rfl
theorem am_entry {ad : Nat → Nat} {as : List Value} {n : Nat} (h : (am_ls as).length ≤ n) : lv_has ((lg_sl (as.map (am_cv ad)) ++ List.replicate (n - (lg_sl (as.map (am_cv ad))).length) Slot.unset).toArray) n (am_lvl ad (am_in0 as n)) ∧ (am_in0 as n).length = n := by
  have h0 := lv_entry (as.map (am_cv ad)) (n := n) (by rw [am_sl_len]; exact h)
  have hlen : (am_in0 as n).length = n := by
    unfold am_in0
    rw [List.length_append, List.length_replicate]
    omega
  refine ⟨⟨h0.1, h0.2.1, fun q hq => h0.2.2 q ?_⟩, hlen⟩
  obtain ⟨q1, q2, q3⟩ := am_lvl_mem.mp hq
  have hlt : q.1 < (am_ls as).length := by
    rcases Nat.lt_or_ge q.1 (am_ls as).length with h1 | h1
    · exact h1
    · refine absurd ?_ q2
      unfold am_ld am_in0
      rw [List.getD, List.getElem?_append_right h1]
      cases hr : (List.replicate (n - (am_ls as).length) Value.null)[q.1 - (am_ls as).length]? with
      | none => rfl
      | some z =>
        have := List.mem_of_getElem? hr
        rw [List.mem_replicate] at this
        rw [this.2]; rfl
  have hget : (am_ls as)[q.1]? = some (am_ld (am_in0 as n) q.1) := by
    unfold am_ld am_in0
    rw [List.getD, List.getElem?_append_left hlt, List.getElem?_eq_getElem hlt]
    rfl
  have := am_args (ad := ad) as 0 q.1 _ hget q2
  rw [Nat.zero_add, ← q3] at this
  exact this
section AMV
variable {l : Launch} {D : va_G} {cA : Nat → ClassId} {ad : Nat → Nat} {A : Nat → Prop}
theorem am_body (htr : l.stackTraces = false) (hD : ∀ σ, va_D A (am_ws ad cA σ)) {d k kk : Nat} {M : am_Mt} (hM : am_ml[k]? = some M) {σ : am_M} {p : Program} {e : Env} {s s₁ : State} {m : MethodId} {args : Array Value} {below : List Frame} {meth : Method} {c : Code}
    (B : BodyLoose p l M.1 (headSpec (am_wds M) (am_rm (d + 1) kk)) M.2.1 M.2.2.1 M.2.2.2.1 e s m args below meth c s₁) (hml : c.maxLocals = M.2.2.1) (hWd : am_Wd D cA ad A σ s) : am_Cx p l (headSpec (am_wds M) (am_rm (d + 1) kk)).room s m args meth c M D cA ad A d := by
  have hts := atoms_spec (ws := am_wds M) B.pre
  obtain ⟨h1, h2, h3, h4, h5, h6⟩ := hWd
  refine ⟨⟨B.exec, B.bytes, hml, findClass_of_methodNamed B.named, fun w hw => hts w (List.mem_cons_of_mem _ hw)⟩, ⟨B.notSynchronized, B.returns, fun hh => ?_, fun hh => ?_, (am_ml_spec hM).2.2.2.2.2.2⟩, ⟨h2, h3, h4, h5, h6, hD⟩, htr, by show d + 9 ≤ d + 1 + 8; omega, by show 60 * d + 180 ≤ 60 * (d + 1) + 120; omega⟩
  · have hcode : am_cw M = Cond.code M.1 M.2.1 M.2.2.1 M.2.2.2.1 := by unfold am_cw; rw [hh]
    have hw : (Cond.code M.1 M.2.1 M.2.2.1 M.2.2.2.1).before args s = true := by rw [← hcode]; exact hts _ List.mem_cons_self
    obtain ⟨meth9, c9, g1, g2, -, -, -, -, g7, -⟩ := Cond.code_spec B.named hw
    cases Option.some.inj (g1.symm.trans B.method)
    cases Option.some.inj (g2.symm.trans (Stand.of_body B).code)
    intro x hx
    rw [Array.isEmpty_iff.mp g7] at hx
    cases hx
  · have hcode : am_cw M = Cond.codeWith M.1 M.2.1 M.2.2.1 M.2.2.2.1 M.2.2.2.2.1 := by
      unfold am_cw
      split
      · rename_i h9; exact absurd h9 hh
      · rename_i h9; rw [h9]
    have hw : (Cond.codeWith M.1 M.2.1 M.2.2.1 M.2.2.2.1 M.2.2.2.2.1).before args s = true := by rw [← hcode]; exact hts _ List.mem_cons_self
    exact vx_table (x := M.1) B hw
theorem am_ex_sound (htr : l.stackTraces = false) (hD : ∀ σ, va_D A (am_ws ad cA σ)) : ∀ d, am_Sp l D cA ad A d (am_ex d) := by
  intro d
  induction d with
  | zero => intro k as σ r σ' M h; simp [am_ex] at h
  | succ d ih =>
    intro k as σ r σ' M h hM
    unfold am_ex at h
    rw [hM] at h
    obtain ⟨hlen, h⟩ := Option.ite_none_right_eq_some.mp h
    obtain ⟨n, hn⟩ := am_go_ex h
    have hmono : σ.2.2 ≤ σ'.2.2 := am_run_k ih _ _ _ _ _ _ hn
    refine ⟨hmono, ?_⟩
    have hpl := (am_ml_spec hM).2.2.2.2.1
    have hX0 : ∀ s : State, am_Xo ad A am_X0 s := fun s h0 => absurd h0 (Nat.lt_irrefl 0)
    cases r with
    | inl v =>
      show Met l M.1 (am_wds M) (am_rm (d + 1) (σ'.2.2 - σ.2.2)) (am_Pc D cA ad A as σ) (am_Qr D cA ad A v σ') (σ'.2.2 - σ.2.2) (6 * (σ'.2.2 - σ.2.2)) A
      have body : ∀ p e s m args below meth c s₁, BodyLoose p l M.1 (headSpec (am_wds M) (am_rm (d + 1) (σ'.2.2 - σ.2.2))) M.2.1 M.2.2.1 M.2.2.2.1 e s m args below meth c s₁ → c.maxLocals = M.2.2.1 → am_Pc D cA ad A as σ args s →
          W p l e (headSpec (am_wds M) (am_rm (d + 1) (σ'.2.2 - σ.2.2))).room s m args below meth c s.heap [] 0 0 (MQ below (am_Qr D cA ad A v σ') args s (σ'.2.2 - σ.2.2) (6 * (σ'.2.2 - σ.2.2)) A) (entryFrame m args M.2.2.1) := by
        intro p e s m args below meth c s₁ B hml hv
        obtain ⟨rfl, hWd⟩ := hv
        have hC := am_body htr hD hM (d := d) B hml hWd
        obtain ⟨hl, hll⟩ := am_entry (ad := ad) hlen
        rw [lg_entry_eq]
        generalize (lg_sl (as.map (am_cv ad)) ++ List.replicate (M.2.2.1 - (lg_sl (as.map (am_cv ad))).length) Slot.unset).toArray = ls at hl ⊢
        exact am_run_sound hC (hX0 s) ih (res := .inl v) (σf := σ') (cf := σ'.2.2 - σ.2.2) (sf := 6 * (σ'.2.2 - σ.2.2)) ⟨Nat.le_refl _, Nat.le_refl _⟩
          (fun pc lv st σ9 ls9 H9 locs9 k9 n9 g1 g2 g3 g4 g5 g6 g7 => am_termR hC g4 g5 g1 g6 g7) n 0 (am_in0 as M.2.2.1) [] σ ls s.heap [] 0 0 hn hl hll hWd.1 va_S.rf (Nat.zero_add _) (Nat.zero_add _)
      by_cases hh : M.2.2.2.2.1 = []
      · have hcode : am_cw M = Cond.code M.1 M.2.1 M.2.2.1 M.2.2.2.1 := by unfold am_cw; rw [hh]
        exact Met.ofW hpl (by unfold am_wds; rw [hcode]) body
      · have hcode : am_cw M = Cond.codeWith M.1 M.2.1 M.2.2.1 M.2.2.2.1 M.2.2.2.2.1 := by
          unfold am_cw
          split
          · rename_i h9; exact absurd h9 hh
          · rename_i h9; rw [h9]
        exact va_MetW hpl (by unfold am_wds; rw [hcode]) body
    | inr E =>
      have hh := am_run_inr _ _ _ _ _ hn
      refine ⟨hh, ?_⟩
      have hcode : am_cw M = Cond.code M.1 M.2.1 M.2.2.1 M.2.2.2.1 := by unfold am_cw; rw [hh]
      refine vx_ofW (cc := M.2.1) (maxL := M.2.2.1) (ret := M.2.2.2.1) hpl (by unfold am_wds; rw [hcode]) ?_
      intro p e s m args below meth c s₁ B hml _ hv
      obtain ⟨rfl, hWd⟩ := hv
      have hC := am_body htr hD hM (d := d) B hml hWd
      obtain ⟨hl, hll⟩ := am_entry (ad := ad) hlen
      rw [lg_entry_eq]
      generalize (lg_sl (as.map (am_cv ad)) ++ List.replicate (M.2.2.1 - (lg_sl (as.map (am_cv ad))).length) Slot.unset).toArray = ls at hl ⊢
      exact am_run_sound hC (hX0 s) ih (res := .inr E) (σf := σ') (cf := σ'.2.2 - σ.2.2) (sf := 6 * (σ'.2.2 - σ.2.2)) ⟨Nat.le_refl _, Nat.le_refl _⟩
        (fun pc lv st σ9 ls9 H9 locs9 k9 n9 g1 g2 g3 g4 g5 g6 g7 => (am_termX hC ih g2.1 g4 g5 g1 g6 g7 ⟨Nat.le_refl _, Nat.le_refl _⟩).2) n 0 (am_in0 as M.2.2.1) [] σ ls s.heap [] 0 0 hn hl hll hWd.1 va_S.rf (Nat.zero_add _) (Nat.zero_add _)
end AMV
