theorem am_ml_spec {k : Nat} {M : am_Mt} (h : am_ml[k]? = some M) : am_cw M ∈ am_G ∧ M.1.cls ≠ "java/lang/invoke/MethodHandle" ∧ M.1.cls ≠ "java/lang/invoke/VarHandle" ∧ (parseMethodDescriptor M.1.desc).map (fun d => d.parameters.length) = some M.2.2.2.2.2 ∧ plainName M.1.cls = true ∧ M.2.2.1 ≤ 41 ∧ ∀ z ∈ M.2.2.2.2.1, Cond.classLink M.1.cls z.2.2.2 (am_cln z.2.2.2) ∈ am_G ∧ z.2.2.2 ≠ 0 := by
  obtain ⟨⟨M9, p9⟩, hz, he⟩ : ∃ q, q ∈ am_mlp ∧ q.1 = M := by
    have h9 := List.mem_of_getElem? h
    unfold am_ml at h9
    exact List.mem_map.mp h9
  subst he
  have h1 := List.all_eq_true.mp am_ml_ok1 _ hz
  have h2 := List.all_eq_true.mp am_ml_ok2 _ (List.mem_of_getElem? h)
  have h3 := List.all_eq_true.mp am_ml_ok3 _ (List.mem_of_getElem? h)
  simp only [Bool.and_eq_true, decide_eq_true_eq] at h2
  refine ⟨am_G_mem (am_at_mem h1) h2.1, h2.2.1, h2.2.2.1, h2.2.2.2.1, h2.2.2.2.2.1, h2.2.2.2.2.2, fun z hz9 => ?_⟩
  have h4 := List.all_eq_true.mp h3 z hz9
  simp only [am_hok, Bool.and_eq_true, decide_eq_true_eq] at h4
  exact ⟨am_G_mem h4.1 rfl, h4.2⟩
theorem am_cal_spec {c : String} {k : Nat} {q : String × Nat × Nat × Nat × Nat × Nat × Nat × Nat} {N : am_Mt} (h : am_cal c k = some q) (hN : am_ml[q.2.2.2.1]? = some N) :
    (q.2.2.1 = 0 ∧ Cond.methodLink c k N.1 ∈ am_G ∧ Cond.instanceMethod N.1 ∈ am_G ∧ Cond.selects N.1.cls N.1 N.1 ∈ am_G ∧ Cond.initialized N.1.cls ∈ am_G ∧ N.2.2.2.2.1 = []) ∨
    (q.2.2.1 = 1 ∧ Cond.methodLink c k N.1 ∈ am_G ∧ Cond.static N.1 ∈ am_G ∧ Cond.initialized N.1.cls ∈ am_G) ∨
    (q.2.2.1 = 2 ∧ Cond.methodLinkNest c k N.1 "KeyArchive" ∈ lw_tbl ∧ Cond.static N.1 ∈ am_G ∧ Cond.initialized N.1.cls ∈ am_G ∧ N.2.2.2.2.1 = []) := by
  have h1 := List.find?_some h
  have h2 := List.mem_of_find?_eq_some h
  simp only [Bool.and_eq_true, beq_iff_eq] at h1
  have h3 := List.all_eq_true.mp am_ct_ok q h2
  unfold am_cok2 at h3
  rw [hN] at h3
  simp only at h3
  split at h3
  · rename_i e
    simp only [Bool.and_eq_true, List.isEmpty_iff] at h3
    simp only [beq_iff_eq] at e
    rw [h1.1, h1.2] at h3
    exact Or.inl ⟨e, am_G_mem (am_at_mem h3.1) rfl, am_G_mem (am_at_mem h3.2.1) rfl, am_G_mem (am_at_mem h3.2.2.1) rfl, am_G_mem (am_at_mem h3.2.2.2.1) rfl, h3.2.2.2.2⟩
  · split at h3
    · rename_i e
      simp only [Bool.and_eq_true] at h3
      simp only [beq_iff_eq] at e
      rw [h1.1, h1.2] at h3
      exact Or.inr (Or.inl ⟨e, am_G_mem (am_at_mem h3.1) rfl, am_G_mem (am_at_mem h3.2.1) rfl, am_G_mem (am_at_mem h3.2.2) rfl⟩)
    · simp only [Bool.and_eq_true, List.isEmpty_iff, beq_iff_eq] at h3
      rw [h1.1, h1.2] at h3
      exact Or.inr (Or.inr ⟨h3.1, am_at_mem h3.2.1, am_G_mem (am_at_mem h3.2.2.1) rfl, am_G_mem (am_at_mem h3.2.2.2.1) rfl, h3.2.2.2.2⟩)
theorem am_nw_warm {w : Cond} (h : am_nw w = true) {s U : State} (hW : s.WarmedH U.vm) (hZ : va_Nw w s) : va_Nw w U := by
  cases w <;> first | exact va_Nw.warmM hW hZ | exact va_Nw.warmD hW hZ | exact va_Nw.warmC hW hZ | (simp [am_nw] at h)
theorem am_nw_tab {w : Cond} (h : am_nw w = true) : w.onTables = true := by
  cases w <;> first | rfl | (simp [am_nw] at h)
set_option maxRecDepth 100000 in
theorem am_cst_ok : [13, 15, 33, 21].all (fun k => decide (Cond.castable (am_cln k) (am_cln k) ∈ lw_tbl)) = true := by decide +kernel
theorem am_cst (k : Nat) : Cond.castable (am_cln k) (am_cln k) ∈ am_NW := by
  have h : ∀ j ∈ [13, 15, 33, 21], Cond.castable (am_cln j) (am_cln j) ∈ am_NW := fun j hj => List.mem_filter.mpr ⟨of_decide_eq_true (List.all_eq_true.mp am_cst_ok j hj), rfl⟩
  unfold am_cln
  split
  · exact h 13 (by simp)
  · split
    · exact h 15 (by simp)
    · split
      · exact h 33 (by simp)
      · exact h 21 (by simp)
