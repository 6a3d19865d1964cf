/-! the machine once more, over the first nS cells alone -/
section BMA
variable {nS : Nat}
/-- the int at place j of array a, if a is an array of ints (z = 0) or of booleans (z = 1) and j lies in it -/
def bm_rd (nS : Nat) (X : am_X) (z : Nat) (σ : am_M) (a : Nat) (j : Int32) : Option Int32 := match (am_sh.take nS)[a]? with
  | some (.inl (t, n)) => if t == z && am_in j n then some (σ.1 a j.toNatClampNeg) else none
  | some (.inr _) => none
  | none => if z == 0 && (a == 1000 && am_in j 5) then some (am_lst.getD j.toNatClampNeg 0) else if z == 0 && (a == 1001 && am_in j (X.1 - 1)) then some (X.2 j.toNatClampNeg) else none
def bm_len (nS : Nat) (X : am_X) (a : Nat) : Option Int32 := match (am_sh.take nS)[a]? with
  | some (.inl (_, n)) => some (nI n)
  | some (.inr _) => none
  | none => if a == 1001 && decide (0 < X.1) then some (nI (X.1 - 1)) else none
def bm_gf (nS : Nat) (c : String) (k : Nat) (σ : am_M) (a : Nat) : Option Value := match am_fld c k with
  | none => none
  | some q => match (am_sh.take nS)[a]? with
    | some (.inr (ci, fs)) => if q.2.2.1 == ci then (match fs[q.2.2.2.1]? with
      | some (some b) => some (.ref b)
      | some none => some (.int (σ.1 a q.2.2.2.1))
      | none => none) else none
    | _ => none
def bm_pf (nS : Nat) (c : String) (k : Nat) (σ : am_M) (a : Nat) (x : Int32) : Option am_M := match am_fld c k with
  | none => none
  | some q => match (am_sh.take nS)[a]? with
    | some (.inr (ci, fs)) => if q.2.2.1 == ci && am_fz ci q.2.2.2.1 x then (match fs[q.2.2.2.1]? with
      | some none => some (am_wI σ a q.2.2.2.1 x)
      | _ => none) else none
    | _ => none
def bm_wr (nS : Nat) (z : Nat) (σ : am_M) (a : Nat) (j x : Int32) : Option am_M := match (am_sh.take nS)[a]? with
  | some (.inl (t, n)) => if t == z && am_in j n then some (am_wI σ a j.toNatClampNeg x) else none
  | _ => none
def bm_rdJ (nS : Nat) (σ : am_M) (a : Nat) (j : Int32) : Option Int64 := match (am_sh.take nS)[a]? with
  | some (.inl (t, n)) => if t == 2 && am_in j n then some (σ.2.1 a j.toNatClampNeg) else none
  | _ => none
def bm_wrJ (nS : Nat) (σ : am_M) (a : Nat) (j : Int32) (x : Int64) : Option am_M := match (am_sh.take nS)[a]? with
  | some (.inl (t, n)) => if t == 2 && am_in j n then some (am_wJ σ a j.toNatClampNeg x) else none
  | _ => none
/-- fields, arrays, and Math.min -/
def bm_fD (nS : Nat) (X : am_X) (c : String) (i : Instr) (len : Nat) (st : List Value) (σ : am_M) : Option (List Value × am_M) := match i, len with
  | .getfield k, 3 => match st with
    | .ref a :: r => match bm_gf nS c k σ a with
      | some v => some (v :: r, σ)
      | none => none
    | _ => none
  | .putfield k, 3 => match st with
    | .int x :: .ref a :: r => am_oM r (bm_pf nS c k σ a x)
    | _ => none
  | .getstatic k, 3 => if c == "KeyArchive" && k == 273 then some (.ref 1000 :: st, σ) else none
  | .iaload, 1 => match st with
    | .int j :: .ref a :: r => am_oI r σ (bm_rd nS X 0 σ a j)
    | _ => none
  | .baload, 1 => match st with
    | .int j :: .ref a :: r => am_oI r σ (bm_rd nS X 1 σ a j)
    | _ => none
  | .laload, 1 => match st with
    | .int j :: .ref a :: r => match bm_rdJ nS σ a j with
      | some v => some (.long v :: r, σ)
      | none => none
    | _ => none
  | .iastore, 1 => match st with
    | .int x :: .int j :: .ref a :: r => am_oM r (bm_wr nS 0 σ a j x)
    | _ => none
  | .bastore, 1 => match st with
    | .int x :: .int j :: .ref a :: r => am_oM r (bm_wr nS 1 σ a j (vp_nar .boolean x))
    | _ => none
  | .lastore, 1 => match st with
    | .long x :: .int j :: .ref a :: r => am_oM r (bm_wrJ nS σ a j x)
    | _ => none
  | .arraylength, 1 => match st with
    | .ref a :: r => am_oI r σ (bm_len nS X a)
    | _ => none
  | .invokestatic k, 3 => if c == "KeyArchive$Cover" && k == 73 then (match st with
    | .int y :: .int x :: r => if am_cat r ≤ 8 then some (.int (if y < x then y else x) :: r, σ) else none
    | _ => none) else none
  | _, _ => none
def bm_isO (nS : Nat) (a : Nat) (C : String) : Bool := match (am_sh.take nS)[a]? with
  | some (.inr (ci, _)) => match vwCl[ci]? with
    | some q => q.1 == C
    | none => false
  | _ => false
def bm_inv (nS : Nat) (kd : Bool) (C : am_C) (M : am_Mt) (k pc : Nat) (lv st : List Value) (σ : am_M) : Option ((am_R × am_M) ⊕ am_P) := match am_cal M.1.cls k with
  | none => none
  | some q => match am_ml[q.2.2.2.1]? with
    | none => none
    | some N => if (q.2.2.1 == 0) == kd then (
        let n := N.2.2.2.2.2 + (if kd then 1 else 0)
        if decide (n ≤ st.length) && decide (am_cat (st.drop n) ≤ 8) then (match kd, (st.take n).reverse with
          | true, .ref a :: as => if bm_isO nS a N.1.cls then am_aft N.2.2.2.1 false M pc lv (st.drop n) (C q.2.2.2.1 (.ref a :: as) σ) else none
          | true, _ => none
          | false, as => am_aft N.2.2.2.1 (q.2.2.1 == 2) M pc lv (st.drop n) (C q.2.2.2.1 as σ)) else none) else none
/-- calls, ends, throws -/
def bm_fE (nS : Nat) (C : am_C) (M : am_Mt) (i : Instr) (len pc : Nat) (lv st : List Value) (σ : am_M) : Option ((am_R × am_M) ⊕ am_P) := match i, len with
  | .invokevirtual k, 3 => bm_inv nS true C M k pc lv st σ
  | .invokestatic k, 3 => bm_inv nS false C M k pc lv st σ
  | .ireturn, 1 => match st with
    | [.int v] => if M.2.2.2.1 == some .int || (M.2.2.2.1 == some .boolean && (v == 0 || v == 1)) then some (.inl (.inl (some (.int v)), σ)) else none
    | _ => none
  | .lreturn, 1 => match st with
    | [.long v] => if M.2.2.2.1 == some .long then some (.inl (.inl (some (.long v)), σ)) else none
    | _ => none
  | .return_, 1 => match st with
    | [] => if M.2.2.2.1 == none then some (.inl (.inl none, σ)) else none
    | _ => none
  | .new ik, 3 => if decode M.2.1 (pc + 3) = .ok (.dup, 1) then (match decode M.2.1 (pc + 4) with
    | .ok (.ldc is, 2) => match decode M.2.1 (pc + 6) with
      | .ok (.invokespecial ic, 3) => if decode M.2.1 (pc + 9) = .ok (.athrow, 1) then am_new M ik is ic st σ else none
      | _ => none
    | .ok (.ldc_w is, 3) => match decode M.2.1 (pc + 7) with
      | .ok (.invokespecial ic, 3) => if decode M.2.1 (pc + 10) = .ok (.athrow, 1) then am_new M ik is ic st σ else none
      | _ => none
    | _ => none) else none
  | _, _ => none
def bm_nxt (nS : Nat) (X : am_X) (C : am_C) (M : am_Mt) (pc : Nat) (lv st : List Value) (σ : am_M) : Option ((am_R × am_M) ⊕ am_P) := match decode M.2.1 pc with
  | .error _ => none
  | .ok (i, len) => match am_fA M.1.cls i len lv st with
    | some (lv', st') => some (.inr (pc + len, lv', st', σ))
    | none => match am_fB i len st with
      | some st' => some (.inr (pc + len, lv, st', σ))
      | none => match am_fC i len pc st with
        | some (pc', st') => some (.inr (pc', lv, st', σ))
        | none => match bm_fD nS X M.1.cls i len st σ with
          | some (st', σ') => some (.inr (pc + len, lv, st', σ'))
          | none => bm_fE nS C M i len pc lv st σ
def bm_run (nS : Nat) (X : am_X) (C : am_C) (M : am_Mt) : Nat → Nat → List Value → List Value → am_M → Option (am_R × am_M)
  | 0, _, _, _, _ => none
  | n + 1, pc, lv, st, σ => match bm_nxt nS X C M pc lv st σ with
    | none => none
    | some (.inl r) => some r
    | some (.inr q) => bm_run nS X C M n q.1 q.2.1 q.2.2.1 q.2.2.2
theorem bm_run_mono {X : am_X} {C : am_C} {M : am_Mt} : ∀ (n k : Nat) (pc : Nat) (lv st : List Value) (σ : am_M) (r : am_R × am_M), bm_run nS X C M n pc lv st σ = some r → bm_run nS X C M (n + k) pc lv st σ = some r := by
  intro n
  induction n with
  | zero => intro k pc lv st σ r h; simp [bm_run] at h
  | succ n ih =>
    intro k pc lv st σ r h
    rw [show n + 1 + k = (n + k) + 1 by omega]
    unfold bm_run at h ⊢
    split at h
    · cases h
    · exact h
    · exact ih k _ _ _ _ _ h
/-- the answer, if some number of steps gives one -/
noncomputable def bm_go (nS : Nat) (X : am_X) (C : am_C) (M : am_Mt) (pc : Nat) (lv st : List Value) (σ : am_M) : Option (am_R × am_M) :=
  @dite _ (∃ n r, bm_run nS X C M n pc lv st σ = some r) (Classical.propDecidable _) (fun h => bm_run nS X C M h.choose pc lv st σ) (fun _ => none)
theorem bm_go_of {X : am_X} {C : am_C} {M : am_Mt} {n pc : Nat} {lv st : List Value} {σ : am_M} {r : am_R × am_M} (h : bm_run nS X C M n pc lv st σ = some r) : bm_go nS X C M pc lv st σ = some r := by
  unfold bm_go
  have he : ∃ n r, bm_run nS X C M n pc lv st σ = some r := ⟨n, r, h⟩
  rw [dif_pos he]
  obtain ⟨r', hr'⟩ := he.choose_spec
  have h1 := bm_run_mono _ n _ _ _ _ _ hr'
  have h2 := bm_run_mono _ he.choose _ _ _ _ _ h
  rw [Nat.add_comm] at h2
  rw [h1] at h2
  rw [hr']
  exact h2
theorem bm_go_ex {X : am_X} {C : am_C} {M : am_Mt} {pc : Nat} {lv st : List Value} {σ : am_M} {r : am_R × am_M} (h : bm_go nS X C M pc lv st σ = some r) : ∃ n, bm_run nS X C M n pc lv st σ = some r := by
  unfold bm_go at h
  split at h
  · exact ⟨_, h⟩
  · cases h
theorem bm_go_eq (X : am_X) (C : am_C) (M : am_Mt) (pc : Nat) (lv st : List Value) (σ : am_M) : bm_go nS X C M pc lv st σ = match bm_nxt nS X C M pc lv st σ with
    | none => none
    | some (.inl r) => some r
    | some (.inr q) => bm_go nS X C M q.1 q.2.1 q.2.2.1 q.2.2.2 := by
  cases hn : bm_nxt nS X C M pc lv st σ with
  | none =>
    cases hg : bm_go nS X C M pc lv st σ with
    | none => rfl
    | some r =>
      obtain ⟨n, h⟩ := bm_go_ex hg
      cases n with
      | zero => simp [bm_run] at h
      | succ n => unfold bm_run at h; rw [hn] at h; cases h
  | some x =>
    cases x with
    | inl r =>
      have h : bm_run nS X C M 1 pc lv st σ = some r := by unfold bm_run; rw [hn]
      exact bm_go_of h
    | inr q =>
      cases hg : bm_go nS X C M q.1 q.2.1 q.2.2.1 q.2.2.2 with
      | some r =>
        obtain ⟨n, h⟩ := bm_go_ex hg
        have h2 : bm_run nS X C M (n + 1) pc lv st σ = some r := by unfold bm_run; rw [hn]; exact h
        rw [bm_go_of h2]
        exact hg.symm
      | none =>
        cases hg2 : bm_go nS X C M pc lv st σ with
        | none => exact hg.symm
        | some r =>
          obtain ⟨n, h⟩ := bm_go_ex hg2
          cases n with
          | zero => simp [bm_run] at h
          | succ n =>
            unfold bm_run at h
            rw [hn] at h
            rw [bm_go_of h] at hg
            cases hg
/-- a call of method k, at most d calls deep -/
noncomputable def bm_ex (nS : Nat) : Nat → am_C
  | 0 => fun _ _ _ => none
  | d + 1 => fun k as σ => match am_ml[k]? with
    | none => none
    | some M => if (am_ls as).length ≤ M.2.2.1 then bm_go nS am_X0 (bm_ex nS d) M 0 (am_in0 as M.2.2.1) [] σ else none
def bm_ws (nS : Nat) (ad : Nat → Nat) (cA : Nat → ClassId) (σ : am_M) : va_W := (am_sh.take nS).mapIdx (fun i e => (ad i, am_ent ad cA σ i e))
theorem bm_ws_get {ad : Nat → Nat} {cA : Nat → ClassId} {σ : am_M} {i : Nat} {e : am_E} (h : (am_sh.take nS)[i]? = some e) : (bm_ws nS ad cA σ)[i]? = some (ad i, am_ent ad cA σ i e) := by
  unfold bm_ws
  rw [List.getElem?_mapIdx, h]
  rfl
theorem bm_ws_set {ad : Nat → Nat} {cA : Nat → ClassId} {σ σ' : am_M} {i : Nat} {e : am_E} (hi : (am_sh.take nS)[i]? = some e) (h1 : ∀ a, a ≠ i → σ'.1 a = σ.1 a) (h2 : ∀ a, a ≠ i → σ'.2.1 a = σ.2.1 a) : (bm_ws nS ad cA σ).set i (ad i, am_ent ad cA σ' i e) = bm_ws nS ad cA σ' := by
  apply List.ext_getElem?
  intro j
  by_cases hj : j = i
  · subst hj
    rw [bm_ws_get hi, List.getElem?_set_self]
    exact (List.getElem?_eq_some_iff.mp (bm_ws_get (ad := ad) (cA := cA) (σ := σ) hi)).1
  · rw [List.getElem?_set_ne (Ne.symm hj)]
    unfold bm_ws
    rw [List.getElem?_mapIdx, List.getElem?_mapIdx]
    cases hs : (am_sh.take nS)[j]? with
    | none => rfl
    | some e2 =>
      have : am_ent ad cA σ j e2 = am_ent ad cA σ' j e2 := by
        cases e2 with
        | inl x => obtain ⟨t, n⟩ := x; simp only [am_ent, h1 j hj, h2 j hj]
        | inr x => obtain ⟨ci, fs⟩ := x; simp only [am_ent, am_fs, am_fv, h1 j hj]
      simp only [Option.map_some, this]
set_option maxRecDepth 100000 in
theorem bm_sh_ok : (am_sh.take nS).all (fun e => match e with
    | .inl (t, _) => decide (t < 3)
    | .inr (ci, fs) => match vwCl[ci]? with
      | some r => decide (fs.length = r.2.2) && (List.range r.2.2).all (fun k => match fs[k]? with
        | some none => !(r.2.1 k).2.2.2 && decide ((r.2.1 k).2.2.1 = if ci = 1 ∧ k = 4 then "Z" else "I")
        | _ => true)
      | none => false) = true := List.all_eq_true.mpr (fun e he => List.all_eq_true.mp am_sh_ok e (List.mem_of_mem_take he))
theorem bm_sh_obj {a ci : Nat} {fs : List (Option Nat)} {r : vw_C} (h : (am_sh.take nS)[a]? = some (.inr (ci, fs))) (hr : vwCl[ci]? = some r) : fs.length = r.2.2 ∧ ∀ k, k < r.2.2 → fs[k]? = some none → (r.2.1 k).2.2.2 = false ∧ (r.2.1 k).2.2.1 = if ci = 1 ∧ k = 4 then "Z" else "I" := by
  have h1 := List.all_eq_true.mp bm_sh_ok _ (List.mem_of_getElem? h)
  simp only [hr, Bool.and_eq_true, decide_eq_true_eq] at h1
  refine ⟨h1.1, fun k hk hf => ?_⟩
  have h2 := List.all_eq_true.mp h1.2 k (List.mem_range.mpr hk)
  simp only [hf, Bool.and_eq_true, decide_eq_true_eq, Bool.not_eq_true'] at h2
  exact h2
theorem bm_sh_arr {a t n : Nat} (h : (am_sh.take nS)[a]? = some (.inl (t, n))) : t < 3 := by
  have h1 := List.all_eq_true.mp bm_sh_ok _ (List.mem_of_getElem? h)
  exact of_decide_eq_true h1
section AMDB
variable {p : Program} {l : Launch} {e : Env} {R : Room} {s : State} {m : MethodId} {args : Array Value} {below : List Frame} {meth : Method} {c : Code} {H : Heap} {locs : List Loc} {cells slots : Nat} {Q : State → Prop}
variable {cc : ByteArray} {own : String} {ad : Nat → Nat} {cA : Nat → ClassId} {D : va_G} {A : Nat → Prop} {X : am_X} {nL pc : Nat} {ls : Array Slot} {st st' : List Value} {σ σ' : am_M}
set_option maxHeartbeats 4000000 in
theorem bm_sD (hx : p.tables.exec = Jvm.exec) (hb : c.code = cc) (hms : ls.size = c.maxLocals) (hRm : 1 ≤ R.frames ∧ 100 ≤ R.locals ∧ cells ≤ R.cells ∧ slots ≤ R.slots) (hown : s.vm.findClass own = some m.cls) (hts : ∀ w ∈ am_G, w.before args s = true) (hK : va_K D vwCl (am_tys cA) s) (hD : ∀ σ, va_D A (bm_ws nS ad cA σ)) (hZ : am_Zo ad A s) (hX : am_Xo ad A X s)
    (hP : va_P D vwCl (bm_ws nS ad cA σ) H) (hS : va_S A s.heap H locs) {i : Instr} {len : Nat} (hd : decode cc pc = .ok (i, len)) (h : bm_fD nS X own i len st σ = some (st', σ'))
    (kk : ∀ (H1 : Heap) (locs1 : List Loc), va_P D vwCl (bm_ws nS ad cA σ') H1 → va_S A s.heap H1 locs1 → W p l e R s m args below meth c H1 locs1 cells slots Q (F0 m (pc + len) ls (st'.map (am_cv ad)))) :
    W p l e R s m args below meth c H locs cells slots Q (F0 m pc ls (st.map (am_cv ad))) := by
  have rd : ∀ (z a : Nat) (j : Int32) (v : Int32), bm_rd nS X z σ a j = some v → (∃ n, (am_sh.take nS)[a]? = some (.inl (z, n)) ∧ vp_in j n ∧ v = σ.1 a j.toNatClampNeg) ∨ (z = 0 ∧ a = 1000 ∧ vp_in j 5 ∧ v = am_lst.getD j.toNatClampNeg 0) ∨ (z = 0 ∧ a = 1001 ∧ vp_in j (X.1 - 1) ∧ v = X.2 j.toNatClampNeg) := by
    intro z a j v h
    unfold bm_rd at h
    split at h
    · rename_i t n hs
      split at h
      · rename_i hc
        simp only [Bool.and_eq_true, beq_iff_eq] at hc
        cases h
        left
        exact ⟨n, by rw [← hc.1]; exact hs, am_in_iff hc.2, rfl⟩
      · cases h
    · cases h
    · split at h
      · rename_i hc
        simp only [Bool.and_eq_true, beq_iff_eq] at hc
        cases h
        right; left
        exact ⟨hc.1, hc.2.1, am_in_iff hc.2.2, rfl⟩
      · split at h
        · rename_i hc
          simp only [Bool.and_eq_true, beq_iff_eq] at hc
          cases h
          right; right
          exact ⟨hc.1, hc.2.1, am_in_iff hc.2.2, rfl⟩
        · cases h
  have wr : ∀ (z a : Nat) (j x : Int32) (σ' : am_M), bm_wr nS z σ a j x = some σ' → ∃ n, (am_sh.take nS)[a]? = some (.inl (z, n)) ∧ vp_in j n ∧ σ' = am_wI σ a j.toNatClampNeg x := by
    intro z a j x σ' h
    unfold bm_wr at h
    split at h
    · rename_i t n hs
      split at h
      · rename_i hc
        simp only [Bool.and_eq_true, beq_iff_eq] at hc
        cases h
        exact ⟨n, by rw [← hc.1]; exact hs, am_in_iff hc.2, rfl⟩
      · cases h
    · cases h
  have wI1 : ∀ (a j : Nat) (x : Int32) (b : Nat), b ≠ a → (am_wI σ a j x).1 b = σ.1 b := fun a j x b hb9 => by simp [am_wI, va_up, hb9]
  unfold bm_fD at h
  split at h
  · split at h
    · rename_i k _ a r
      split at h
      · rename_i v hv
        cases h
        unfold bm_gf at hv
        split at hv
        · cases hv
        · rename_i q hq
          obtain ⟨rr, hr1, hr2, hr3⟩ := am_fld_spec hq
          split at hv
          · rename_i ci fs hs
            split at hv
            · rename_i hci
              simp only [beq_iff_eq] at hci
              rw [hci] at hr1
              obtain ⟨C, T, N⟩ := rr
              have he := bm_ws_get (ad := ad) (cA := cA) (σ := σ) hs
              split at hv
              · rename_i b hf
                cases hv
                exact va_get (D := D) hx hb hts (am_cls hr1) hown hK hP a he hr1 q.2.2.2.1 hr2 (hts _ hr3) (fun _ z => z) (am_fs_get hf) hd (kk H locs hP hS)
              · rename_i hf
                cases hv
                exact va_get (D := D) hx hb hts (am_cls hr1) hown hK hP a he hr1 q.2.2.2.1 hr2 (hts _ hr3) (fun _ z => z) (am_fs_get hf) hd (kk H locs hP hS)
              · cases hv
            · cases hv
          · cases hv
      · cases h
    · cases h
  · split at h
    · rename_i k _ x a r
      cases hv : bm_pf nS own k σ a x with
      | none => rw [hv] at h; cases h
      | some σ9 =>
        rw [hv] at h
        cases h
        unfold bm_pf at hv
        split at hv
        · cases hv
        · rename_i q hq
          obtain ⟨rr, hr1, hr2, hr3⟩ := am_fld_spec hq
          split at hv
          · rename_i ci fs hs
            split at hv
            · rename_i hci
              simp only [Bool.and_eq_true, beq_iff_eq] at hci
              obtain ⟨hci, hfz⟩ := hci
              rw [hci] at hr1
              have he := bm_ws_get (ad := ad) (cA := cA) (σ := σ) hs
              split at hv
              · rename_i hf
                cases hv
                obtain ⟨hlen, hall⟩ := bm_sh_obj hs hr1
                obtain ⟨hfin, hdesc⟩ := hall _ hr2 hf
                obtain ⟨ty0, ht1, ht2⟩ := am_typ hr1
                obtain ⟨C, T, N⟩ := rr
                have hput : ∃ ty : FieldType, parseFieldDescriptor (T q.2.2.2.1).2.2.1 = some ty ∧ narrow ty (.int x) = .int x ∧ fits ty (.int x) = true := by
                  rw [show (T q.2.2.2.1).2.2.1 = if ci = 1 ∧ q.2.2.2.1 = 4 then "Z" else "I" from hdesc]
                  by_cases hz : ci = 1 ∧ q.2.2.2.1 = 4
                  · rw [if_pos hz]
                    refine ⟨.boolean, by decide +kernel, ?_⟩
                    have h9 : x = 0 ∨ x = 1 := by
                      unfold am_fz at hfz
                      simp only [hz.1, hz.2, beq_self_eq_true, Bool.and_self, Bool.not_true, Bool.false_or, Bool.or_eq_true, beq_iff_eq] at hfz
                      exact hfz
                    rcases h9 with rfl | rfl
                    · exact ⟨by decide +kernel, by decide +kernel⟩
                    · exact ⟨by decide +kernel, by decide +kernel⟩
                  · rw [if_neg hz]
                    exact ⟨.int, by decide +kernel, rfl, rfl⟩
                obtain ⟨ty, hp1, hp2, hp3⟩ := hput
                refine va_put (D := D) hx hb hts (am_cls hr1) ty0 ht1 ht2 hown hK hP (hD σ) hS a he hr1 q.2.2.2.1 hr2 (hts _ hr3) (fun _ z => z) hfin hp1 hp2 hp3 (by simp [am_fs]; exact hlen ▸ hr2) hd (fun H1 locs1 hP1 _ hS1 => kk H1 locs1 ?_ hS1)
                rw [show am_cv ad (Value.int x) = Value.int x from rfl, am_fs_set hf] at hP1
                rw [← bm_ws_set (σ := σ) hs (fun b hb9 => wI1 a q.2.2.2.1 x b hb9) (fun b _ => rfl)]
                exact hP1
              · cases hv
            · cases hv
          · cases hv
    · cases h
  · rename_i k
    split at h
    · rename_i hc
      simp only [Bool.and_eq_true, beq_iff_eq] at hc
      obtain ⟨rfl, rfl⟩ := hc
      cases h
      exact va_gets hx hb hZ.1 hS hown (hts _ am_LSw) (fun _ z => z) hd (kk H locs hP hS)
    · cases h
  · split at h
    · rename_i j a r
      cases hv : bm_rd nS X 0 σ a j with
      | none => rw [hv] at h; cases h
      | some v =>
        rw [hv] at h
        cases h
        rcases rd 0 a j v hv with ⟨n, h1, h2, rfl⟩ | ⟨-, rfl, h2, rfl⟩ | ⟨-, rfl, h2, rfl⟩
        · exact va_iald (f := σ.1 a) hx hb hK hP a 0 (bm_ws_get h1) rfl h2 hd (kk H locs hP hS)
        · exact va_ti hx hb hZ.2 hS h2 rfl hd (kk H locs hP hS)
        · have h0 : 0 < X.1 := by
            rcases Nat.eq_zero_or_pos X.1 with q | q
            · rw [q] at h2; exact absurd (Or.inr (Nat.zero_le _)) h2
            · exact q
          obtain ⟨hX1, hX2, hX3⟩ := hX h0
          exact va_sld hx hb hX1 hX2 hX3 hS h2 hd (kk H locs hP hS)
    · cases h
  · split at h
    · rename_i j a r
      cases hv : bm_rd nS X 1 σ a j with
      | none => rw [hv] at h; cases h
      | some v =>
        rw [hv] at h
        cases h
        rcases rd 1 a j v hv with ⟨n, h1, h2, rfl⟩ | ⟨h0, -⟩ | ⟨h0, -⟩
        · exact va_zald (f := σ.1 a) hx hb hK hP a 1 (bm_ws_get h1) rfl h2 hd (kk H locs hP hS)
        · cases h0
        · cases h0
    · cases h
  · split at h
    · rename_i j a r
      split at h
      · rename_i v hv
        cases h
        unfold bm_rdJ at hv
        split at hv
        · rename_i t n hs
          split at hv
          · rename_i hc
            simp only [Bool.and_eq_true, beq_iff_eq] at hc
            obtain ⟨rfl, hc⟩ := hc
            cases hv
            exact va_lald (f := σ.2.1 a) hx hb hK hP a 2 (bm_ws_get hs) rfl (am_in_iff hc) hd (kk H locs hP hS)
          · cases hv
        · cases hv
      · cases h
    · cases h
  · split at h
    · rename_i x j a r
      cases hv : bm_wr nS 0 σ a j x with
      | none => rw [hv] at h; cases h
      | some σ9 =>
        rw [hv] at h
        cases h
        obtain ⟨n, h1, h2, rfl⟩ := wr 0 a j x _ hv
        refine va_iast (f := σ.1 a) hx hb hK hP (hD σ) hS a 0 (bm_ws_get h1) rfl h2 hd (fun H1 locs1 hP1 _ hS1 => kk H1 locs1 ?_ hS1)
        rw [← bm_ws_set (σ := σ) h1 (fun b hb9 => wI1 a _ x b hb9) (fun b _ => rfl)]
        simp only [am_ent, am_wI, va_up, if_true] at hP1 ⊢
        exact hP1
    · cases h
  · split at h
    · rename_i x j a r
      cases hv : bm_wr nS 1 σ a j (vp_nar .boolean x) with
      | none => rw [hv] at h; cases h
      | some σ9 =>
        rw [hv] at h
        cases h
        obtain ⟨n, h1, h2, rfl⟩ := wr 1 a j _ _ hv
        refine va_zast (f := σ.1 a) hx hb hK hP (hD σ) hS a 1 (bm_ws_get h1) rfl h2 hd (fun H1 locs1 hP1 _ hS1 => kk H1 locs1 ?_ hS1)
        rw [← bm_ws_set (σ := σ) h1 (fun b hb9 => wI1 a _ _ b hb9) (fun b _ => rfl)]
        simp only [am_ent, am_wI, va_up, if_true] at hP1 ⊢
        exact hP1
    · cases h
  · split at h
    · rename_i x j a r
      cases hv : bm_wrJ nS σ a j x with
      | none => rw [hv] at h; cases h
      | some σ9 =>
        rw [hv] at h
        cases h
        unfold bm_wrJ at hv
        split at hv
        · rename_i t n hs
          split at hv
          · rename_i hc
            simp only [Bool.and_eq_true, beq_iff_eq] at hc
            obtain ⟨rfl, hc⟩ := hc
            cases hv
            refine va_last (f := σ.2.1 a) hx hb hK hP (hD σ) hS a 2 (bm_ws_get hs) rfl (am_in_iff hc) hd (fun H1 locs1 hP1 _ hS1 => kk H1 locs1 ?_ hS1)
            rw [← bm_ws_set (σ := σ) (σ' := am_wJ σ a j.toNatClampNeg x) hs (fun b _ => rfl) (fun b hb9 => by simp [am_wJ, va_up, hb9])]
            simp only [am_ent, am_wJ, va_up, if_true] at hP1 ⊢
            exact hP1
          · cases hv
        · cases hv
    · cases h
  · split at h
    · rename_i a r
      cases hv : bm_len nS X a with
      | none => rw [hv] at h; cases h
      | some v =>
        rw [hv] at h
        cases h
        unfold bm_len at hv
        split at hv
        · rename_i t n hs
          cases hv
          have ht := bm_sh_arr hs
          have hty : ∃ (t0 : Nat) (ty : FieldType), (am_tys cA)[t0]? = some (cA t, ty) := by
            match t, ht with
            | 0, _ => exact ⟨0, _, rfl⟩
            | 1, _ => exact ⟨1, _, rfl⟩
            | 2, _ => exact ⟨2, _, rfl⟩
          obtain ⟨t0, ty, hty⟩ := hty
          exact va_alen hx hb hK hP a t0 (bm_ws_get hs) hty rfl hd (kk H locs hP hS)
        · cases hv
        · split at hv
          · rename_i hc
            simp only [Bool.and_eq_true, beq_iff_eq, decide_eq_true_eq] at hc
            obtain ⟨rfl, h0⟩ := hc
            cases hv
            obtain ⟨hX1, hX2, hX3⟩ := hX h0
            exact va_slen hx hb hX1 hX2 hX3 hS hd (kk H locs hP hS)
          · cases hv
    · cases h
  · split at h
    · rename_i hc
      simp only [Bool.and_eq_true, beq_iff_eq] at hc
      obtain ⟨rfl, rfl⟩ := hc
      split at h
      · rename_i y x r
        split at h
        · rename_i hcat
          cases h
          have hcat2 : ((r.map (am_cv ad)).map fun v => v.category).sum ≤ 8 := by
            rw [List.map_map]
            have : ((fun v : Value => v.category) ∘ am_cv ad) = fun v => v.category := funext fun v => am_cv_cat ad v
            rw [this]
            exact hcat
          exact va_mmin hx hb hms.symm hown (hts _ am_mmw.1) (hts _ am_mmw.2.1) (hts _ am_mmw.2.2.1) (hts _ am_mmw.2.2.2) hRm.1 (by omega) hRm.2.2.1 hRm.2.2.2 hd (kk H locs hP hS)
        · cases h
      · cases h
    · cases h
  · cases h
end AMDB
end BMA
