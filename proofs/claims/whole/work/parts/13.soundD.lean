/-! worlds: what lies at each numbered cell -/
def am_fv (ad : Nat → Nat) (σ : am_M) (i k : Nat) (f : Option Nat) : Value := match f with
  | some r => Value.ref (ad r)
  | none => Value.int (σ.1 i k)
def am_fs (ad : Nat → Nat) (σ : am_M) (i : Nat) (fs : List (Option Nat)) : List Value := fs.mapIdx (fun k f => am_fv ad σ i k f)
def am_ent (ad : Nat → Nat) (cA : Nat → ClassId) (σ : am_M) (i : Nat) (e : am_E) : va_E := match e with
  | .inl (t, n) => .inl (cA t, n, if t = 2 then .inr (.inl (σ.2.1 i)) else .inl (σ.1 i))
  | .inr (ci, fs) => .inr (ci, am_fs ad σ i fs)
def am_ws (ad : Nat → Nat) (cA : Nat → ClassId) (σ : am_M) : va_W := am_sh.mapIdx (fun i e => (ad i, am_ent ad cA σ i e))
def am_tys (cA : Nat → ClassId) : List (ClassId × FieldType) := [(cA 0, .int), (cA 1, .boolean), (cA 2, .long)]
theorem am_ws_get {ad : Nat → Nat} {cA : Nat → ClassId} {σ : am_M} {i : Nat} {e : am_E} (h : am_sh[i]? = some e) : (am_ws ad cA σ)[i]? = some (ad i, am_ent ad cA σ i e) := by
  unfold am_ws
  rw [List.getElem?_mapIdx, h]
  rfl
theorem am_ws_set {ad : Nat → Nat} {cA : Nat → ClassId} {σ σ' : am_M} {i : Nat} {e : am_E} (hi : am_sh[i]? = some e) (h1 : ∀ a, a ≠ i → σ'.1 a = σ.1 a) (h2 : ∀ a, a ≠ i → σ'.2.1 a = σ.2.1 a) : (am_ws ad cA σ).set i (ad i, am_ent ad cA σ' i e) = am_ws ad cA σ' := by
  apply List.ext_getElem?
  intro j
  by_cases hj : j = i
  · subst hj
    rw [am_ws_get hi, List.getElem?_set_self]
    exact (List.getElem?_eq_some_iff.mp (am_ws_get (ad := ad) (cA := cA) (σ := σ) hi)).1
  · rw [List.getElem?_set_ne (Ne.symm hj)]
    unfold am_ws
    rw [List.getElem?_mapIdx, List.getElem?_mapIdx]
    cases hs : am_sh[j]? with
    | none => rfl
    | some e2 =>
      have : am_ent ad cA σ j e2 = am_ent ad cA σ' j e2 := by
        cases e2 with
        | inl x => obtain ⟨t, n⟩ := x; simp only [am_ent, h1 j hj, h2 j hj]
        | inr x => obtain ⟨ci, fs⟩ := x; simp only [am_ent, am_fs, am_fv, h1 j hj]
      simp only [Option.map_some, this]
set_option maxRecDepth 100000 in
theorem am_ft_ok : am_ft.all (fun q => match vwCl[q.2.2.1]? with
    | some r => decide (q.2.2.2.1 < r.2.2) && am_at q.2.2.2.2 (.fieldLink q.1 q.2.1 (r.2.1 q.2.2.2.1).1 (r.2.1 q.2.2.2.1).2.1 (r.2.1 q.2.2.2.1).2.2.1)
    | none => false) = true := by decide +kernel
theorem am_fld_spec {c : String} {k : Nat} {q : String × Nat × Nat × Nat × Nat} (h : am_fld c k = some q) : ∃ r : vw_C, vwCl[q.2.2.1]? = some r ∧ q.2.2.2.1 < r.2.2 ∧ Cond.fieldLink c k (r.2.1 q.2.2.2.1).1 (r.2.1 q.2.2.2.1).2.1 (r.2.1 q.2.2.2.1).2.2.1 ∈ am_G := by
  have h1 := List.find?_some h
  have h2 := List.mem_of_find?_eq_some h
  simp only [Bool.and_eq_true, beq_iff_eq] at h1
  have h3 := List.all_eq_true.mp am_ft_ok q h2
  cases hr : vwCl[q.2.2.1]? with
  | none => rw [hr] at h3; cases h3
  | some r =>
    rw [hr] at h3
    simp only [Bool.and_eq_true, decide_eq_true_eq] at h3
    refine ⟨r, rfl, h3.1, ?_⟩
    have h4 := am_at_mem h3.2
    rw [h1.1, h1.2] at h4
    exact am_G_mem h4 rfl
def am_cok (ws : List Cond) : Bool := ws.all (fun w => decide (w ∈ lw_tbl) && goodWord w)
theorem am_cok_in {ws : List Cond} (h : am_cok ws = true) : ∀ w ∈ ws, w ∈ am_G := by
  intro w hw
  have h1 := List.all_eq_true.mp h w hw
  simp only [Bool.and_eq_true, decide_eq_true_eq] at h1
  exact am_G_mem h1.1 h1.2
set_option maxRecDepth 100000 in
theorem am_cls_ok : vwCl.all (fun r => am_cok (u_ws r.1 r.2.1 r.2.2)) = true := by decide +kernel
theorem am_cls {ci : Nat} {r : vw_C} (h : vwCl[ci]? = some r) : ∀ w ∈ u_ws r.1 r.2.1 r.2.2, w ∈ am_G := am_cok_in (List.all_eq_true.mp am_cls_ok r (List.mem_of_getElem? h))
theorem am_typ {ci : Nat} {r : vw_C} (h : vwCl[ci]? = some r) : ∃ ty0 : Nat → FieldType, (∀ k, k < r.2.2 → parseFieldDescriptor (r.2.1 k).2.2.1 = some (ty0 k)) ∧ ∀ a, a < r.2.2 → ∀ b, b < r.2.2 → a ≠ b → (r.2.1 a).2.1 ≠ (r.2.1 b).2.1 := by
  match ci, h with
  | 0, h => cases h; exact ⟨tyX0, tyX0_ok, nmX0⟩
  | 1, h => cases h; exact ⟨tyX1, tyX1_ok, nmX1⟩
  | 2, h => cases h; exact ⟨tyX2, tyX2_ok, nmX2⟩
  | 3, h => cases h; exact ⟨tyX3, tyX3_ok, nmX3⟩
  | 4, h => cases h; exact ⟨tyX4, tyX4_ok, nmX4⟩
  | 5, h => cases h; exact ⟨tyX5, tyX5_ok, nmX5⟩
  | 6, h => cases h; exact ⟨tyX6, tyX6_ok, nmX6⟩
  | 7, h => cases h; exact ⟨tyX7, tyX7_ok, nmX7⟩
  | 8, h => cases h; exact ⟨tyX8, tyX8_ok, nmX8⟩
  | 9, h => cases h; exact ⟨tyX9, tyX9_ok, nmX9⟩
  | 10, h => cases h; exact ⟨tyX10, tyX10_ok, nmX10⟩
  | n + 11, h => simp at h
set_option maxRecDepth 100000 in
theorem am_sh_ok : am_sh.all (fun e => match e with
    | .inl (t, _) => decide (t < 3)
    | .inr (ci, fs) => match vwCl[ci]? with
      | some r => decide (fs.length = r.2.2) && (List.range r.2.2).all (fun k => match fs[k]? with
        | some none => !(r.2.1 k).2.2.2 && decide ((r.2.1 k).2.2.1 = if ci = 1 ∧ k = 4 then "Z" else "I")
        | _ => true)
      | none => false) = true := by decide +kernel
theorem am_sh_obj {a ci : Nat} {fs : List (Option Nat)} {r : vw_C} (h : am_sh[a]? = some (.inr (ci, fs))) (hr : vwCl[ci]? = some r) : fs.length = r.2.2 ∧ ∀ k, k < r.2.2 → fs[k]? = some none → (r.2.1 k).2.2.2 = false ∧ (r.2.1 k).2.2.1 = if ci = 1 ∧ k = 4 then "Z" else "I" := by
  have h1 := List.all_eq_true.mp am_sh_ok _ (List.mem_of_getElem? h)
  simp only [hr, Bool.and_eq_true, decide_eq_true_eq] at h1
  refine ⟨h1.1, fun k hk hf => ?_⟩
  have h2 := List.all_eq_true.mp h1.2 k (List.mem_range.mpr hk)
  simp only [hf, Bool.and_eq_true, decide_eq_true_eq, Bool.not_eq_true'] at h2
  exact h2
theorem am_sh_arr {a t n : Nat} (h : am_sh[a]? = some (.inl (t, n))) : t < 3 := by
  have h1 := List.all_eq_true.mp am_sh_ok _ (List.mem_of_getElem? h)
  exact of_decide_eq_true h1
theorem am_in_iff {j : Int32} {n : Nat} (h : am_in j n = true) : vp_in j n := by
  unfold am_in at h
  unfold vp_in
  simp only [Bool.not_eq_true', Bool.or_eq_false_iff, decide_eq_false_iff_not] at h
  exact fun q => q.elim h.1 h.2
theorem am_fs_get {ad : Nat → Nat} {σ : am_M} {i k : Nat} {fs : List (Option Nat)} {f : Option Nat} (h : fs[k]? = some f) : (am_fs ad σ i fs)[k]? = some (am_fv ad σ i k f) := by
  unfold am_fs
  rw [List.getElem?_mapIdx, h]
  rfl
theorem am_fs_set {ad : Nat → Nat} {σ : am_M} {i k : Nat} {x : Int32} {fs : List (Option Nat)} (h : fs[k]? = some none) : (am_fs ad σ i fs).set k (.int x) = am_fs ad (am_wI σ i k x) i fs := by
  apply List.ext_getElem?
  intro j
  unfold am_fs
  by_cases hj : j = k
  · subst hj
    rw [List.getElem?_set_self (by simp [(List.getElem?_eq_some_iff.mp h).1]), List.getElem?_mapIdx, h]
    simp [am_fv, am_wI, va_up, upd]
  · rw [List.getElem?_set_ne (Ne.symm hj), List.getElem?_mapIdx, List.getElem?_mapIdx]
    cases fs[j]? with
    | none => rfl
    | some f => cases f <;> simp [am_fv, am_wI, va_up, upd, hj]
set_option maxRecDepth 100000 in
theorem am_LSw : Cond.fieldLink "KeyArchive" 273 "KeyArchive" "LEVEL_STARTS" "[I" ∈ am_G := am_cok_in (ws := [Cond.fieldLink "KeyArchive" 273 "KeyArchive" "LEVEL_STARTS" "[I"]) (by decide +kernel) _ List.mem_cons_self
theorem am_mmw : (Cond.methodLink "KeyArchive$Cover" 73 Lib.Math.min.name ∈ am_G) ∧ (Cond.static Lib.Math.min.name ∈ am_G) ∧ (Cond.initialized "java/lang/Math" ∈ am_G) ∧ (Cond.code Lib.Math.min.name Lib.Math.min.code 2 (some .int) ∈ am_G) := by
  have h : am_at 5209 (Cond.methodLink "KeyArchive$Cover" 73 Lib.Math.min.name) = true ∧ am_at 5210 (Cond.static Lib.Math.min.name) = true ∧ am_at 1021 (Cond.initialized "java/lang/Math") = true ∧ am_at 5211 (Cond.code Lib.Math.min.name Lib.Math.min.code 2 (some .int)) = true := by decide +kernel
  exact ⟨am_G_mem (am_at_mem h.1) rfl, am_G_mem (am_at_mem h.2.1) rfl, am_G_mem (am_at_mem h.2.2.1) rfl, am_G_mem (am_at_mem h.2.2.2) rfl⟩
section AMD
variable {p : Program} {l : Launch} {e : Env} {R : Room} {s : State} {m : MethodId} {args : Array Value} {below : List Frame} {meth : Method} {c : Code} {H : Heap} {locs : List Loc} {cells slots : Nat} {Q : State → Prop}
variable {cc : ByteArray} {own : String} {ad : Nat → Nat} {cA : Nat → ClassId} {D : va_G} {A : Nat → Prop} {X : am_X} {nL pc : Nat} {ls : Array Slot} {st st' : List Value} {σ σ' : am_M}
/-- what stands outside the numbered cells: the static table, the script -/
def am_Zo (ad : Nat → Nat) (A : Nat → Prop) (s : State) : Prop := va_Z "KeyArchive" "LEVEL_STARTS" "[I" (.ref (ad 1000)) A s s.heap ∧ va_T .int (ad 1000) 5 (fun j => .int (am_lst.getD j 0)) A s s.heap
def am_Xo (ad : Nat → Nat) (A : Nat → Prop) (X : am_X) (s : State) : Prop := 0 < X.1 → va_X (ad 1001) (X.1 - 1) X.2 s s.heap ∧ ad 1001 < s.heap.size ∧ ¬ A (ad 1001)
set_option maxHeartbeats 4000000 in
theorem am_sD (hx : p.tables.exec = Jvm.exec) (hb : c.code = cc) (hms : ls.size = c.maxLocals) (hRm : 1 ≤ R.frames ∧ 100 ≤ R.locals ∧ cells ≤ R.cells ∧ slots ≤ R.slots) (hown : s.vm.findClass own = some m.cls) (hts : ∀ w ∈ am_G, w.before args s = true) (hK : va_K D vwCl (am_tys cA) s) (hD : ∀ σ, va_D A (am_ws ad cA σ)) (hZ : am_Zo ad A s) (hX : am_Xo ad A X s)
    (hP : va_P D vwCl (am_ws ad cA σ) H) (hS : va_S A s.heap H locs) {i : Instr} {len : Nat} (hd : decode cc pc = .ok (i, len)) (h : am_fD X own i len st σ = some (st', σ'))
    (kk : ∀ (H1 : Heap) (locs1 : List Loc), va_P D vwCl (am_ws ad cA σ') H1 → va_S A s.heap H1 locs1 → W p l e R s m args below meth c H1 locs1 cells slots Q (F0 m (pc + len) ls (st'.map (am_cv ad)))) :
    W p l e R s m args below meth c H locs cells slots Q (F0 m pc ls (st.map (am_cv ad))) := by
  have rd : ∀ (z a : Nat) (j : Int32) (v : Int32), am_rd X z σ a j = some v → (∃ n, am_sh[a]? = some (.inl (z, n)) ∧ vp_in j n ∧ v = σ.1 a j.toNatClampNeg) ∨ (z = 0 ∧ a = 1000 ∧ vp_in j 5 ∧ v = am_lst.getD j.toNatClampNeg 0) ∨ (z = 0 ∧ a = 1001 ∧ vp_in j (X.1 - 1) ∧ v = X.2 j.toNatClampNeg) := by
    intro z a j v h
    unfold am_rd at h
    split at h
    · rename_i t n hs
      split at h
      · rename_i hc
        simp only [Bool.and_eq_true, beq_iff_eq] at hc
        cases h
        left
        exact ⟨n, by rw [← hc.1]; exact hs, am_in_iff hc.2, rfl⟩
      · cases h
    · cases h
    · split at h
      · rename_i hc
        simp only [Bool.and_eq_true, beq_iff_eq] at hc
        cases h
        right; left
        exact ⟨hc.1, hc.2.1, am_in_iff hc.2.2, rfl⟩
      · split at h
        · rename_i hc
          simp only [Bool.and_eq_true, beq_iff_eq] at hc
          cases h
          right; right
          exact ⟨hc.1, hc.2.1, am_in_iff hc.2.2, rfl⟩
        · cases h
  have wr : ∀ (z a : Nat) (j x : Int32) (σ' : am_M), am_wr z σ a j x = some σ' → ∃ n, am_sh[a]? = some (.inl (z, n)) ∧ vp_in j n ∧ σ' = am_wI σ a j.toNatClampNeg x := by
    intro z a j x σ' h
    unfold am_wr at h
    split at h
    · rename_i t n hs
      split at h
      · rename_i hc
        simp only [Bool.and_eq_true, beq_iff_eq] at hc
        cases h
        exact ⟨n, by rw [← hc.1]; exact hs, am_in_iff hc.2, rfl⟩
      · cases h
    · cases h
  have wI1 : ∀ (a j : Nat) (x : Int32) (b : Nat), b ≠ a → (am_wI σ a j x).1 b = σ.1 b := fun a j x b hb9 => by simp [am_wI, va_up, hb9]
  unfold am_fD at h
  split at h
  · split at h
    · rename_i k _ a r
      split at h
      · rename_i v hv
        cases h
        unfold am_gf at hv
        split at hv
        · cases hv
        · rename_i q hq
          obtain ⟨rr, hr1, hr2, hr3⟩ := am_fld_spec hq
          split at hv
          · rename_i ci fs hs
            split at hv
            · rename_i hci
              simp only [beq_iff_eq] at hci
              rw [hci] at hr1
              obtain ⟨C, T, N⟩ := rr
              have he := am_ws_get (ad := ad) (cA := cA) (σ := σ) hs
              split at hv
              · rename_i b hf
                cases hv
                exact va_get (D := D) hx hb hts (am_cls hr1) hown hK hP a he hr1 q.2.2.2.1 hr2 (hts _ hr3) (fun _ z => z) (am_fs_get hf) hd (kk H locs hP hS)
              · rename_i hf
                cases hv
                exact va_get (D := D) hx hb hts (am_cls hr1) hown hK hP a he hr1 q.2.2.2.1 hr2 (hts _ hr3) (fun _ z => z) (am_fs_get hf) hd (kk H locs hP hS)
              · cases hv
            · cases hv
          · cases hv
      · cases h
    · cases h
  · split at h
    · rename_i k _ x a r
      cases hv : am_pf own k σ a x with
      | none => rw [hv] at h; cases h
      | some σ9 =>
        rw [hv] at h
        cases h
        unfold am_pf at hv
        split at hv
        · cases hv
        · rename_i q hq
          obtain ⟨rr, hr1, hr2, hr3⟩ := am_fld_spec hq
          split at hv
          · rename_i ci fs hs
            split at hv
            · rename_i hci
              simp only [Bool.and_eq_true, beq_iff_eq] at hci
              obtain ⟨hci, hfz⟩ := hci
              rw [hci] at hr1
              have he := am_ws_get (ad := ad) (cA := cA) (σ := σ) hs
              split at hv
              · rename_i hf
                cases hv
                obtain ⟨hlen, hall⟩ := am_sh_obj hs hr1
                obtain ⟨hfin, hdesc⟩ := hall _ hr2 hf
                obtain ⟨ty0, ht1, ht2⟩ := am_typ hr1
                obtain ⟨C, T, N⟩ := rr
                have hput : ∃ ty : FieldType, parseFieldDescriptor (T q.2.2.2.1).2.2.1 = some ty ∧ narrow ty (.int x) = .int x ∧ fits ty (.int x) = true := by
                  rw [show (T q.2.2.2.1).2.2.1 = if ci = 1 ∧ q.2.2.2.1 = 4 then "Z" else "I" from hdesc]
                  by_cases hz : ci = 1 ∧ q.2.2.2.1 = 4
                  · rw [if_pos hz]
                    refine ⟨.boolean, by decide +kernel, ?_⟩
                    have h9 : x = 0 ∨ x = 1 := by
                      unfold am_fz at hfz
                      simp only [hz.1, hz.2, beq_self_eq_true, Bool.and_self, Bool.not_true, Bool.false_or, Bool.or_eq_true, beq_iff_eq] at hfz
                      exact hfz
                    rcases h9 with rfl | rfl
                    · exact ⟨by decide +kernel, by decide +kernel⟩
                    · exact ⟨by decide +kernel, by decide +kernel⟩
                  · rw [if_neg hz]
                    exact ⟨.int, by decide +kernel, rfl, rfl⟩
                obtain ⟨ty, hp1, hp2, hp3⟩ := hput
                refine va_put (D := D) hx hb hts (am_cls hr1) ty0 ht1 ht2 hown hK hP (hD σ) hS a he hr1 q.2.2.2.1 hr2 (hts _ hr3) (fun _ z => z) hfin hp1 hp2 hp3 (by simp [am_fs]; exact hlen ▸ hr2) hd (fun H1 locs1 hP1 _ hS1 => kk H1 locs1 ?_ hS1)
                rw [show am_cv ad (Value.int x) = Value.int x from rfl, am_fs_set hf] at hP1
                rw [← am_ws_set (σ := σ) hs (fun b hb9 => wI1 a q.2.2.2.1 x b hb9) (fun b _ => rfl)]
                exact hP1
              · cases hv
            · cases hv
          · cases hv
    · cases h
  · rename_i k
    split at h
    · rename_i hc
      simp only [Bool.and_eq_true, beq_iff_eq] at hc
      obtain ⟨rfl, rfl⟩ := hc
      cases h
      exact va_gets hx hb hZ.1 hS hown (hts _ am_LSw) (fun _ z => z) hd (kk H locs hP hS)
    · cases h
  · split at h
    · rename_i j a r
      cases hv : am_rd X 0 σ a j with
      | none => rw [hv] at h; cases h
      | some v =>
        rw [hv] at h
        cases h
        rcases rd 0 a j v hv with ⟨n, h1, h2, rfl⟩ | ⟨-, rfl, h2, rfl⟩ | ⟨-, rfl, h2, rfl⟩
        · exact va_iald (f := σ.1 a) hx hb hK hP a 0 (am_ws_get h1) rfl h2 hd (kk H locs hP hS)
        · exact va_ti hx hb hZ.2 hS h2 rfl hd (kk H locs hP hS)
        · have h0 : 0 < X.1 := by
            rcases Nat.eq_zero_or_pos X.1 with q | q
            · rw [q] at h2; exact absurd (Or.inr (Nat.zero_le _)) h2
            · exact q
          obtain ⟨hX1, hX2, hX3⟩ := hX h0
          exact va_sld hx hb hX1 hX2 hX3 hS h2 hd (kk H locs hP hS)
    · cases h
  · split at h
    · rename_i j a r
      cases hv : am_rd X 1 σ a j with
      | none => rw [hv] at h; cases h
      | some v =>
        rw [hv] at h
        cases h
        rcases rd 1 a j v hv with ⟨n, h1, h2, rfl⟩ | ⟨h0, -⟩ | ⟨h0, -⟩
        · exact va_zald (f := σ.1 a) hx hb hK hP a 1 (am_ws_get h1) rfl h2 hd (kk H locs hP hS)
        · cases h0
        · cases h0
    · cases h
  · split at h
    · rename_i j a r
      split at h
      · rename_i v hv
        cases h
        unfold am_rdJ at hv
        split at hv
        · rename_i t n hs
          split at hv
          · rename_i hc
            simp only [Bool.and_eq_true, beq_iff_eq] at hc
            obtain ⟨rfl, hc⟩ := hc
            cases hv
            exact va_lald (f := σ.2.1 a) hx hb hK hP a 2 (am_ws_get hs) rfl (am_in_iff hc) hd (kk H locs hP hS)
          · cases hv
        · cases hv
      · cases h
    · cases h
  · split at h
    · rename_i x j a r
      cases hv : am_wr 0 σ a j x with
      | none => rw [hv] at h; cases h
      | some σ9 =>
        rw [hv] at h
        cases h
        obtain ⟨n, h1, h2, rfl⟩ := wr 0 a j x _ hv
        refine va_iast (f := σ.1 a) hx hb hK hP (hD σ) hS a 0 (am_ws_get h1) rfl h2 hd (fun H1 locs1 hP1 _ hS1 => kk H1 locs1 ?_ hS1)
        rw [← am_ws_set (σ := σ) h1 (fun b hb9 => wI1 a _ x b hb9) (fun b _ => rfl)]
        simp only [am_ent, am_wI, va_up, if_true] at hP1 ⊢
        exact hP1
    · cases h
  · split at h
    · rename_i x j a r
      cases hv : am_wr 1 σ a j (vp_nar .boolean x) with
      | none => rw [hv] at h; cases h
      | some σ9 =>
        rw [hv] at h
        cases h
        obtain ⟨n, h1, h2, rfl⟩ := wr 1 a j _ _ hv
        refine va_zast (f := σ.1 a) hx hb hK hP (hD σ) hS a 1 (am_ws_get h1) rfl h2 hd (fun H1 locs1 hP1 _ hS1 => kk H1 locs1 ?_ hS1)
        rw [← am_ws_set (σ := σ) h1 (fun b hb9 => wI1 a _ _ b hb9) (fun b _ => rfl)]
        simp only [am_ent, am_wI, va_up, if_true] at hP1 ⊢
        exact hP1
    · cases h
  · split at h
    · rename_i x j a r
      cases hv : am_wrJ σ a j x with
      | none => rw [hv] at h; cases h
      | some σ9 =>
        rw [hv] at h
        cases h
        unfold am_wrJ at hv
        split at hv
        · rename_i t n hs
          split at hv
          · rename_i hc
            simp only [Bool.and_eq_true, beq_iff_eq] at hc
            obtain ⟨rfl, hc⟩ := hc
            cases hv
            refine va_last (f := σ.2.1 a) hx hb hK hP (hD σ) hS a 2 (am_ws_get hs) rfl (am_in_iff hc) hd (fun H1 locs1 hP1 _ hS1 => kk H1 locs1 ?_ hS1)
            rw [← am_ws_set (σ := σ) (σ' := am_wJ σ a j.toNatClampNeg x) hs (fun b _ => rfl) (fun b hb9 => by simp [am_wJ, va_up, hb9])]
            simp only [am_ent, am_wJ, va_up, if_true] at hP1 ⊢
            exact hP1
          · cases hv
        · cases hv
    · cases h
  · split at h
    · rename_i a r
      cases hv : am_len X a with
      | none => rw [hv] at h; cases h
      | some v =>
        rw [hv] at h
        cases h
        unfold am_len at hv
        split at hv
        · rename_i t n hs
          cases hv
          have ht := am_sh_arr hs
          have hty : ∃ (t0 : Nat) (ty : FieldType), (am_tys cA)[t0]? = some (cA t, ty) := by
            match t, ht with
            | 0, _ => exact ⟨0, _, rfl⟩
            | 1, _ => exact ⟨1, _, rfl⟩
            | 2, _ => exact ⟨2, _, rfl⟩
          obtain ⟨t0, ty, hty⟩ := hty
          exact va_alen hx hb hK hP a t0 (am_ws_get hs) hty rfl hd (kk H locs hP hS)
        · cases hv
        · split at hv
          · rename_i hc
            simp only [Bool.and_eq_true, beq_iff_eq, decide_eq_true_eq] at hc
            obtain ⟨rfl, h0⟩ := hc
            cases hv
            obtain ⟨hX1, hX2, hX3⟩ := hX h0
            exact va_slen hx hb hX1 hX2 hX3 hS hd (kk H locs hP hS)
          · cases hv
    · cases h
  · split at h
    · rename_i hc
      simp only [Bool.and_eq_true, beq_iff_eq] at hc
      obtain ⟨rfl, rfl⟩ := hc
      split at h
      · rename_i y x r
        split at h
        · rename_i hcat
          cases h
          have hcat2 : ((r.map (am_cv ad)).map fun v => v.category).sum ≤ 8 := by
            rw [List.map_map]
            have : ((fun v : Value => v.category) ∘ am_cv ad) = fun v => v.category := funext fun v => am_cv_cat ad v
            rw [this]
            exact hcat
          exact va_mmin hx hb hms.symm hown (hts _ am_mmw.1) (hts _ am_mmw.2.1) (hts _ am_mmw.2.2.1) (hts _ am_mmw.2.2.2) hRm.1 (by omega) hRm.2.2.1 hRm.2.2.2 hd (kk H locs hP hS)
        · cases h
      · cases h
    · cases h
  · cases h
end AMD
