/-! the machine's plain steps are the bytecode's -/
def am_cv (ad : Nat → Nat) (v : Value) : Value := match v with
  | .ref i => .ref (ad i)
  | v => v
theorem am_cv_cat (ad : Nat → Nat) (v : Value) : (am_cv ad v).category = v.category := by cases v <;> rfl
theorem am_cv_null {ad : Nat → Nat} {v : Value} (h : v ≠ .null) : am_cv ad v ≠ .null := by cases v <;> simp_all [am_cv]
/-- the locals as the kit has them -/
def am_lvl (ad : Nat → Nat) (lv : List Value) : List (Nat × Value) := (List.range lv.length).filterMap (fun i => if am_ld lv i = .null then none else some (i, am_cv ad (am_ld lv i)))
theorem am_lvl_mem {ad : Nat → Nat} {lv : List Value} {q : Nat × Value} : q ∈ am_lvl ad lv ↔ q.1 < lv.length ∧ am_ld lv q.1 ≠ .null ∧ q.2 = am_cv ad (am_ld lv q.1) := by
  unfold am_lvl
  rw [List.mem_filterMap]
  constructor
  · rintro ⟨i, hi, h⟩
    split at h
    · cases h
    · cases h
      exact ⟨List.mem_range.mp hi, by assumption, rfl⟩
  · rintro ⟨h1, h2, h3⟩
    refine ⟨q.1, List.mem_range.mpr h1, ?_⟩
    rw [if_neg h2, ← h3]
theorem am_ld_lt {lv : List Value} {i : Nat} (h : am_ld lv i ≠ .null) : i < lv.length := by
  rcases Nat.lt_or_ge i lv.length with h1 | h1
  · exact h1
  · exact absurd (by simp [am_ld, List.getD, List.getElem?_eq_none h1]) h
theorem am_ld_has {ad : Nat → Nat} {lv : List Value} {ls : Array Slot} {nL i : Nat} {v : Value} (h : lv_has ls nL (am_lvl ad lv)) (hv : am_ld lv i = v) (hn : v ≠ .null) : ls[i]? = some (.val (am_cv ad v)) :=
  h.2.2 (i, am_cv ad v) (am_lvl_mem.mpr ⟨am_ld_lt (by rw [hv]; exact hn), by rw [hv]; exact hn, by rw [hv]⟩)
theorem am_ld_set {lv : List Value} {i j : Nat} {v : Value} (hi : i < lv.length) : am_ld (lv.set i v) j = if j = i then v else am_ld lv j := by
  unfold am_ld
  by_cases h : j = i
  · subst h
    simp [List.getD, hi]
  · simp [List.getD, h, List.getElem?_set, Ne.symm h]
theorem am_st1_spec {lv lv' : List Value} {i : Nat} {v : Value} (h : am_st1 lv i v = some lv') : i < lv.length ∧ lv' = lv.set i v ∧ ∀ j, j + 1 = i → (am_ld lv j).category ≠ 2 := by
  unfold am_st1 at h
  split at h
  · rename_i hc
    simp only [Bool.and_eq_true, decide_eq_true_eq] at hc
    refine ⟨hc.1, (Option.some.inj h).symm, fun j hj => ?_⟩
    subst hj
    have h2 := hc.2
    simp only [am_free, Bool.not_eq_true', beq_eq_false_iff_ne] at h2
    exact h2
  · cases h
theorem am_st2_spec {lv lv' : List Value} {i : Nat} {v : Value} (h : am_st2 lv i v = some lv') : i + 1 < lv.length ∧ lv' = (lv.set i v).set (i + 1) .null ∧ ∀ j, j + 1 = i → (am_ld lv j).category ≠ 2 := by
  unfold am_st2 at h
  split at h
  · rename_i hc
    simp only [Bool.and_eq_true, decide_eq_true_eq] at hc
    refine ⟨hc.1, (Option.some.inj h).symm, fun j hj => ?_⟩
    subst hj
    have h2 := hc.2
    simp only [am_free, Bool.not_eq_true', beq_eq_false_iff_ne] at h2
    exact h2
  · cases h
theorem am_st1_has {ad : Nat → Nat} {lv lv' : List Value} {ls' : Array Slot} {nL i : Nat} {v w : Value} (h : am_st1 lv i v = some lv') (hw : v ≠ .null → w = am_cv ad v)
    (hh : lv_has ls' nL ((i, w) :: (am_lvl ad lv).filter (fun q => !(q.1 == i) && !(q.1 + 1 == i && q.2.category == 2)))) : lv_has ls' nL (am_lvl ad lv') ∧ lv'.length = lv.length := by
  obtain ⟨h1, h2, h3⟩ := am_st1_spec h
  subst h2
  refine ⟨⟨hh.1, hh.2.1, fun q hq => hh.2.2 q ?_⟩, by simp⟩
  obtain ⟨q1, q2, q3⟩ := am_lvl_mem.mp hq
  rw [am_ld_set h1] at q2 q3
  by_cases e : q.1 = i
  · rw [if_pos e] at q2 q3
    rw [List.mem_cons]
    left
    rw [hw q2, ← q3, ← e]
  · rw [if_neg e] at q2 q3
    rw [List.mem_cons]
    right
    refine List.mem_filter.mpr ⟨am_lvl_mem.mpr ⟨by simpa using q1, q2, q3⟩, ?_⟩
    simp only [Bool.and_eq_true, Bool.not_eq_true', beq_eq_false_iff_ne, Bool.and_eq_false_iff]
    refine ⟨e, ?_⟩
    by_cases e2 : q.1 + 1 = i
    · right
      rw [q3, am_cv_cat]
      exact h3 _ e2
    · left; exact e2
theorem am_st2_has {ad : Nat → Nat} {lv lv' : List Value} {ls' : Array Slot} {nL i : Nat} {v : Value} (h : am_st2 lv i v = some lv')
    (hh : lv_has ls' nL ((i, am_cv ad v) :: (am_lvl ad lv).filter (fun q => !(q.1 == i) && (!(q.1 == i + 1) && !(q.1 + 1 == i && q.2.category == 2))))) : lv_has ls' nL (am_lvl ad lv') ∧ lv'.length = lv.length := by
  obtain ⟨h1, h2, h3⟩ := am_st2_spec h
  subst h2
  refine ⟨⟨hh.1, hh.2.1, fun q hq => hh.2.2 q ?_⟩, by simp⟩
  obtain ⟨q1, q2, q3⟩ := am_lvl_mem.mp hq
  rw [am_ld_set (by simpa using h1)] at q2 q3
  by_cases e1 : q.1 = i + 1
  · rw [if_pos e1] at q2
    exact absurd rfl q2
  · rw [if_neg e1, am_ld_set (by omega)] at q2 q3
    by_cases e : q.1 = i
    · rw [if_pos e] at q2 q3
      rw [List.mem_cons]
      left
      rw [← q3, ← e]
    · rw [if_neg e] at q2 q3
      rw [List.mem_cons]
      right
      refine List.mem_filter.mpr ⟨am_lvl_mem.mpr ⟨by simpa using q1, q2, q3⟩, ?_⟩
      simp only [Bool.and_eq_true, Bool.not_eq_true', beq_eq_false_iff_ne, Bool.and_eq_false_iff]
      refine ⟨e, e1, ?_⟩
      by_cases e2 : q.1 + 1 = i
      · right
        rw [q3, am_cv_cat]
        exact h3 _ e2
      · left; exact e2
/-! the constants' words -/
set_option maxRecDepth 100000 in
theorem am_kI_ok : am_kI.all (fun q => am_at q.2.2.2 (.constant q.1 q.2.1 q.2.2.1)) = true := by decide +kernel
set_option maxRecDepth 100000 in
theorem am_kJ_ok : am_kJ.all (fun q => am_at q.2.2.2 (.constantLong q.1 q.2.1 q.2.2.1)) = true := by decide +kernel
theorem am_cI_word {c : String} {k : Nat} {q : String × Nat × Int32 × Nat} (h : am_cI c k = some q) : Cond.constant c k q.2.2.1 ∈ am_G := by
  have h1 := List.find?_some h
  have h2 := List.mem_of_find?_eq_some h
  simp only [Bool.and_eq_true, beq_iff_eq] at h1
  have h3 := am_at_mem (List.all_eq_true.mp am_kI_ok q h2)
  rw [h1.1, h1.2] at h3
  exact am_G_mem h3 rfl
theorem am_cJ_word {c : String} {k : Nat} {q : String × Nat × Int64 × Nat} (h : am_cJ c k = some q) : Cond.constantLong c k q.2.2.1 ∈ am_G := by
  have h1 := List.find?_some h
  have h2 := List.mem_of_find?_eq_some h
  simp only [Bool.and_eq_true, beq_iff_eq] at h1
  have h3 := am_at_mem (List.all_eq_true.mp am_kJ_ok q h2)
  rw [h1.1, h1.2] at h3
  exact am_G_mem h3 rfl
section AMA
variable {p : Program} {l : Launch} {e : Env} {R : Room} {s : State} {m : MethodId} {args : Array Value} {below : List Frame} {meth : Method} {c : Code} {H : Heap} {locs : List Loc} {cells slots : Nat} {Q : State → Prop}
variable {cc : ByteArray} {own : String} {ad : Nat → Nat} {nL pc : Nat} {ls : Array Slot} {lv lv' st st' : List Value}
set_option maxHeartbeats 4000000 in
theorem am_sA (hx : p.tables.exec = Jvm.exec) (hb : c.code = cc) (hown : s.vm.findClass own = some m.cls) (hts : ∀ w ∈ am_G, w.before args s = true) {i : Instr} {len : Nat} (hd : decode cc pc = .ok (i, len)) (h : am_fA own i len lv st = some (lv', st'))
    (hl : lv_has ls nL (am_lvl ad lv)) (hn : lv.length = nL) (kk : ∀ ls' : Array Slot, lv_has ls' nL (am_lvl ad lv') → lv'.length = nL → W p l e R s m args below meth c H locs cells slots Q (F0 m (pc + len) ls' (st'.map (am_cv ad)))) :
    W p l e R s m args below meth c H locs cells slots Q (F0 m pc ls (st.map (am_cv ad))) := by
  have ldI : ∀ (k : Nat), am_ldI lv st k = some (lv', st') → ∃ x, am_ld lv k = .int x ∧ lv' = lv ∧ st' = .int x :: st := by
    intro k h
    unfold am_ldI at h
    split at h
    · rename_i x hx9
      cases h
      exact ⟨x, hx9, rfl, rfl⟩
    · cases h
  have ldJ : ∀ (k : Nat), am_ldJ lv st k = some (lv', st') → ∃ x, am_ld lv k = .long x ∧ lv' = lv ∧ st' = .long x :: st := by
    intro k h
    unfold am_ldJ at h
    split at h
    · rename_i x hx9
      cases h
      exact ⟨x, hx9, rfl, rfl⟩
    · cases h
  have ldA : ∀ (k : Nat), am_ldA lv st k = some (lv', st') → ∃ x, am_ld lv k = .ref x ∧ lv' = lv ∧ st' = .ref x :: st := by
    intro k h
    unfold am_ldA at h
    split at h
    · rename_i x hx9
      cases h
      exact ⟨x, hx9, rfl, rfl⟩
    · cases h
  have stI : ∀ (k : Nat), am_stI lv st k = some (lv', st') → ∃ x, st = .int x :: st' ∧ am_st1 lv k (.int x) = some lv' := by
    intro k h
    unfold am_stI at h
    split at h
    · split at h
      · rename_i l9 h9
        cases h
        exact ⟨_, rfl, h9⟩
      · cases h
    · cases h
  have stJ : ∀ (k : Nat), am_stJ lv st k = some (lv', st') → ∃ x, st = .long x :: st' ∧ am_st2 lv k (.long x) = some lv' := by
    intro k h
    unfold am_stJ at h
    split at h
    · split at h
      · rename_i l9 h9
        cases h
        exact ⟨_, rfl, h9⟩
      · cases h
    · cases h
  unfold am_fA at h
  split at h
  · cases h
    exact lv_iconst hx hb hd rfl (kk ls hl hn)
  · cases h
    exact lv_bipush hx hb hd rfl (kk ls hl hn)
  · cases h
    exact lv_sipush hx hb hd rfl (kk ls hl hn)
  · cases h
    exact lv_lconst hx hb hd rfl (kk ls hl hn)
  · rename_i k
    cases hq : am_cI own k with
    | none => rw [hq] at h; cases h
    | some q =>
      rw [hq] at h
      cases h
      exact lv_ldc hx hb hown (hts _ (am_cI_word hq)) hd (kk ls hl hn)
  · rename_i k
    cases hq : am_cI own k with
    | none => rw [hq] at h; cases h
    | some q =>
      rw [hq] at h
      cases h
      exact lv_ldcw hx hb hown (hts _ (am_cI_word hq)) hd (kk ls hl hn)
  · rename_i k
    cases hq : am_cJ own k with
    | none => rw [hq] at h; cases h
    | some q =>
      rw [hq] at h
      cases h
      exact lv_ldc2 hx hb hown (hts _ (am_cJ_word hq)) hd (kk ls hl hn)
  · obtain ⟨x, h1, rfl, rfl⟩ := ldI _ h
    exact lv_iload hx hb hd (am_ld_has hl h1 (by simp)) (kk ls hl hn)
  · obtain ⟨x, h1, rfl, rfl⟩ := ldI _ h
    exact lv_iload_n hx hb hd rfl (am_ld_has hl h1 (by simp)) (kk ls hl hn)
  · obtain ⟨x, h1, rfl, rfl⟩ := ldJ _ h
    exact lv_lload hx hb hd (am_ld_has hl h1 (by simp)) (kk ls hl hn)
  · obtain ⟨x, h1, rfl, rfl⟩ := ldJ _ h
    exact lv_lload_n hx hb hd rfl (am_ld_has hl h1 (by simp)) (kk ls hl hn)
  · obtain ⟨x, h1, rfl, rfl⟩ := ldA _ h
    exact lv_aload hx hb hd (am_ld_has hl h1 (by simp)) (kk ls hl hn)
  · obtain ⟨x, h1, rfl, rfl⟩ := ldA _ h
    exact lv_aload_n hx hb hd rfl (am_ld_has hl h1 (by simp)) (kk ls hl hn)
  · obtain ⟨x, rfl, h1⟩ := stI _ h
    refine lv_istore hx hb hd hl (hn ▸ (am_st1_spec h1).1) rfl (fun ls' h' => ?_)
    obtain ⟨a1, a2⟩ := am_st1_has (ad := ad) h1 (fun _ => rfl) h'
    exact kk ls' a1 (a2.trans hn)
  · obtain ⟨x, rfl, h1⟩ := stI _ h
    refine lv_istore_n hx hb hd rfl hl (hn ▸ (am_st1_spec h1).1) rfl (fun ls' h' => ?_)
    obtain ⟨a1, a2⟩ := am_st1_has (ad := ad) h1 (fun _ => rfl) h'
    exact kk ls' a1 (a2.trans hn)
  · obtain ⟨x, rfl, h1⟩ := stJ _ h
    refine lv_lstore hx hb hd hl (hn ▸ (am_st2_spec h1).1) rfl (fun ls' h' => ?_)
    obtain ⟨a1, a2⟩ := am_st2_has (ad := ad) h1 h'
    exact kk ls' a1 (a2.trans hn)
  · obtain ⟨x, rfl, h1⟩ := stJ _ h
    refine lv_lstore_n hx hb hd rfl hl (hn ▸ (am_st2_spec h1).1) rfl (fun ls' h' => ?_)
    obtain ⟨a1, a2⟩ := am_st2_has (ad := ad) h1 h'
    exact kk ls' a1 (a2.trans hn)
  · rename_i k n
    unfold am_inc at h
    split at h
    · rename_i x hx9
      split at h
      · rename_i l9 h9
        cases h
        obtain ⟨j, hj⟩ := List.getElem?_of_mem (am_lvl_mem (ad := ad) (lv := lv) (q := (k, .int x)) |>.mpr ⟨am_ld_lt (by rw [hx9]; simp), by rw [hx9]; simp, by rw [hx9]; rfl⟩)
        refine lv_iinc hx hb hd hl hj rfl (hn ▸ (am_st1_spec h9).1) rfl (fun ls' h' => ?_)
        obtain ⟨a1, a2⟩ := am_st1_has (ad := ad) h9 (fun _ => rfl) h'
        exact kk ls' a1 (a2.trans hn)
      · cases h
    · cases h
  · cases h
theorem am_i2_spec {f : Int32 → Int32 → Int32} (h : am_i2 st f = some st') : ∃ x y r, st = .int y :: .int x :: r ∧ st' = .int (f x y) :: r := by
  unfold am_i2 at h
  split at h
  · cases h; exact ⟨_, _, _, rfl, rfl⟩
  · cases h
theorem am_l2_spec {f : Int64 → Int64 → Int64} (h : am_l2 st f = some st') : ∃ x y r, st = .long y :: .long x :: r ∧ st' = .long (f x y) :: r := by
  unfold am_l2 at h
  split at h
  · cases h; exact ⟨_, _, _, rfl, rfl⟩
  · cases h
set_option maxHeartbeats 4000000 in
theorem am_sB (hx : p.tables.exec = Jvm.exec) (hb : c.code = cc) {i : Instr} {len : Nat} (hd : decode cc pc = .ok (i, len)) (h : am_fB i len st = some st')
    (kk : W p l e R s m args below meth c H locs cells slots Q (F0 m (pc + len) ls (st'.map (am_cv ad)))) :
    W p l e R s m args below meth c H locs cells slots Q (F0 m pc ls (st.map (am_cv ad))) := by
  unfold am_fB at h
  split at h
  · obtain ⟨x, y, r, rfl, rfl⟩ := am_i2_spec h; exact lv_iadd hx hb hd kk
  · obtain ⟨x, y, r, rfl, rfl⟩ := am_i2_spec h; exact lv_isub hx hb hd kk
  · obtain ⟨x, y, r, rfl, rfl⟩ := am_i2_spec h; exact lv_imul hx hb hd kk
  · obtain ⟨x, y, r, rfl, rfl⟩ := am_i2_spec h; exact lv_iand hx hb hd kk
  · obtain ⟨x, y, r, rfl, rfl⟩ := am_i2_spec h; exact lv_ior hx hb hd kk
  · obtain ⟨x, y, r, rfl, rfl⟩ := am_i2_spec h; exact lv_ixor hx hb hd kk
  · obtain ⟨x, y, r, rfl, rfl⟩ := am_i2_spec h; exact lv_ishl hx hb hd kk
  · obtain ⟨x, y, r, rfl, rfl⟩ := am_i2_spec h; exact lv_iushr hx hb hd rfl kk
  · split at h
    · split at h
      · cases h
      · rename_i hz; cases h; exact lv_idiv hx hb hd hz kk
    · cases h
  · obtain ⟨x, y, r, rfl, rfl⟩ := am_l2_spec h; exact lv_land hx hb hd kk
  · obtain ⟨x, y, r, rfl, rfl⟩ := am_l2_spec h; exact lv_lor hx hb hd kk
  · obtain ⟨x, y, r, rfl, rfl⟩ := am_l2_spec h; exact lv_lxor hx hb hd kk
  · split at h
    · cases h; exact lv_lshl hx hb hd rfl kk
    · cases h
  · split at h
    · cases h; exact lv_i2l hx hb hd rfl kk
    · cases h
  · split at h
    · cases h; exact W.lcmp hx hb hd kk
    · cases h
  · split at h
    · cases h; exact lv_dup hx hb hd rfl kk
    · cases h; exact lv_dup hx hb hd rfl kk
    · cases h
  · split at h
    · cases h; exact lv_dup2_11 hx hb hd rfl rfl kk
    · cases h
  · split at h
    · cases h; exact lv_pop hx hb hd rfl kk
    · cases h
  · cases h
theorem am_tg_ok {off : Int} (h : am_tgok pc off = true) : (pc : Int) + off = ((am_tg pc off : Nat) : Int) := by
  unfold am_tgok at h
  have h1 := of_decide_eq_true h
  unfold am_tg
  omega
set_option maxHeartbeats 4000000 in
theorem am_sC (hx : p.tables.exec = Jvm.exec) (hb : c.code = cc) {i : Instr} {len pc' : Nat} (hd : decode cc pc = .ok (i, len)) (h : am_fC i len pc st = some (pc', st'))
    (kk : W p l e R s m args below meth c H locs cells slots Q (F0 m pc' ls (st'.map (am_cv ad)))) :
    W p l e R s m args below meth c H locs cells slots Q (F0 m pc ls (st.map (am_cv ad))) := by
  unfold am_fC at h
  split at h
  · split at h
    · rename_i ht; cases h; exact lv_goto hx hb hd (am_tg_ok ht) kk
    · cases h
  · rename_i cd off
    split at h
    · split at h
      · rename_i ht
        cases h
        cases cd
        · exact lv_if_eq hx hb hd (am_tg_ok ht) (fun q => by simp only [am_cmp, decide_eq_true q, if_true] at kk; exact kk) (fun q => by simp only [am_cmp, decide_eq_false q] at kk; exact kk)
        · exact lv_if_ne hx hb hd (am_tg_ok ht) (fun q => by simp only [am_cmp, decide_eq_true q, if_true] at kk; exact kk) (fun q => by rw [if_neg (show ¬ am_cmp .ne _ _ = true by simp [am_cmp, q])] at kk; exact kk)
        · exact lv_if_lt hx hb hd (am_tg_ok ht) (fun q => by simp only [am_cmp, decide_eq_true q, if_true] at kk; exact kk) (fun q => by simp only [am_cmp, decide_eq_false q] at kk; exact kk)
        · exact lv_if_ge hx hb hd (am_tg_ok ht) (fun q => by simp only [am_cmp, decide_eq_true q, if_true] at kk; exact kk) (fun q => by simp only [am_cmp, decide_eq_false q] at kk; exact kk)
        · exact lv_if_gt hx hb hd (am_tg_ok ht) (fun q => by simp only [am_cmp, decide_eq_true q, if_true] at kk; exact kk) (fun q => by simp only [am_cmp, decide_eq_false q] at kk; exact kk)
        · exact lv_if_le hx hb hd (am_tg_ok ht) (fun q => by simp only [am_cmp, decide_eq_true q, if_true] at kk; exact kk) (fun q => by simp only [am_cmp, decide_eq_false q] at kk; exact kk)
      · cases h
    · cases h
  · rename_i cd off
    split at h
    · split at h
      · rename_i ht
        cases h
        cases cd
        · exact lv_icmp_eq hx hb hd (am_tg_ok ht) (fun q => by simp only [am_cmp, decide_eq_true q, if_true] at kk; exact kk) (fun q => by simp only [am_cmp, decide_eq_false q] at kk; exact kk)
        · exact lv_icmp_ne hx hb hd (am_tg_ok ht) (fun q => by simp only [am_cmp, decide_eq_true q, if_true] at kk; exact kk) (fun q => by rw [if_neg (show ¬ am_cmp .ne _ _ = true by simp [am_cmp, q])] at kk; exact kk)
        · exact lv_icmp_lt hx hb hd (am_tg_ok ht) (fun q => by simp only [am_cmp, decide_eq_true q, if_true] at kk; exact kk) (fun q => by simp only [am_cmp, decide_eq_false q] at kk; exact kk)
        · exact lv_icmp_ge hx hb hd (am_tg_ok ht) (fun q => by simp only [am_cmp, decide_eq_true q, if_true] at kk; exact kk) (fun q => by simp only [am_cmp, decide_eq_false q] at kk; exact kk)
        · exact lv_icmp_gt hx hb hd (am_tg_ok ht) (fun q => by simp only [am_cmp, decide_eq_true q, if_true] at kk; exact kk) (fun q => by simp only [am_cmp, decide_eq_false q] at kk; exact kk)
        · exact lv_icmp_le hx hb hd (am_tg_ok ht) (fun q => by simp only [am_cmp, decide_eq_true q, if_true] at kk; exact kk) (fun q => by simp only [am_cmp, decide_eq_false q] at kk; exact kk)
      · cases h
    · cases h
  · split at h
    · split at h
      · rename_i hlo
        split at h
        · rename_i ht; cases h; exact lv_tableOut hx hb hd hlo (am_tg_ok ht) kk
        · cases h
      · rename_i hlo
        split at h
        · rename_i off ho
          split at h
          · rename_i ht; cases h; exact lv_tableIn hx hb hd (fun q => hlo (Or.inl q)) (fun q => hlo (Or.inr q)) ho (am_tg_ok ht) kk
          · cases h
        · cases h
    · cases h
  · cases h
end AMA
