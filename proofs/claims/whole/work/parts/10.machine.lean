/-! A SMALL MACHINE OVER NUMBERED CELLS: its points are pc, locals, stack and memory; a reference is the number of a cell of am_sh. What it answers, the bytecode does (part 12). -/
abbrev am_M : Type := (Nat → Nat → Int32) × (Nat → Nat → Int64) × Nat
abbrev am_R : Type := Option Value ⊕ String
abbrev am_C : Type := Nat → List Value → am_M → Option (am_R × am_M)
abbrev am_P : Type := Nat × List Value × List Value × am_M
/-- the script: one more than its length (0: there is none), and its ints -/
abbrev am_X : Type := Nat × (Nat → Int32)
def am_wI (σ : am_M) (a j : Nat) (x : Int32) : am_M := (va_up σ.1 a (upd (σ.1 a) j x), σ.2)
def am_wJ (σ : am_M) (a j : Nat) (x : Int64) : am_M := (σ.1, va_up σ.2.1 a (vp_updL (σ.2.1 a) j x), σ.2.2)
def am_tick (σ : am_M) : am_M := (σ.1, σ.2.1, σ.2.2 + 1)
/-- the numbers of the two arrays outside: the static table, the script -/
def am_LS : Nat := 1000
def am_SC : Nat := 1001
def am_lst : List Int32 := [0, 1, 5, 21, 85]
/-! tables by key -/
def am_fld (c : String) (k : Nat) : Option (String × Nat × Nat × Nat × Nat) := am_ft.find? (fun q => q.1 == c && q.2.1 == k)
def am_cal (c : String) (k : Nat) : Option (String × Nat × Nat × Nat × Nat × Nat × Nat × Nat) := am_ct.find? (fun q => q.1 == c && q.2.1 == k)
def am_cI (c : String) (k : Nat) : Option (String × Nat × Int32 × Nat) := am_kI.find? (fun q => q.1 == c && q.2.1 == k)
def am_cJ (c : String) (k : Nat) : Option (String × Nat × Int64 × Nat) := am_kJ.find? (fun q => q.1 == c && q.2.1 == k)
def am_thr (c : String) (ik is ic : Nat) : Option (String × Nat × Nat × Nat × String × String × Nat × Nat × Nat) := am_xt.find? (fun q => q.1 == c && (q.2.1 == ik && (q.2.2.1 == is && q.2.2.2.1 == ic)))
/-! locals -/
def am_ld (lv : List Value) (i : Nat) : Value := lv.getD i .null
def am_free (lv : List Value) (i : Nat) : Bool := match i with
  | 0 => true
  | i + 1 => !((am_ld lv i).category == 2)
def am_st1 (lv : List Value) (i : Nat) (v : Value) : Option (List Value) := if decide (i < lv.length) && am_free lv i then some (lv.set i v) else none
def am_st2 (lv : List Value) (i : Nat) (v : Value) : Option (List Value) := if decide (i + 1 < lv.length) && am_free lv i then some ((lv.set i v).set (i + 1) .null) else none
def am_ldI (lv st : List Value) (i : Nat) : Option (List Value × List Value) := match am_ld lv i with
  | .int x => some (lv, .int x :: st)
  | _ => none
def am_ldJ (lv st : List Value) (i : Nat) : Option (List Value × List Value) := match am_ld lv i with
  | .long x => some (lv, .long x :: st)
  | _ => none
def am_ldA (lv st : List Value) (i : Nat) : Option (List Value × List Value) := match am_ld lv i with
  | .ref x => some (lv, .ref x :: st)
  | _ => none
def am_stI (lv st : List Value) (i : Nat) : Option (List Value × List Value) := match st with
  | .int x :: r => match am_st1 lv i (.int x) with
    | some l => some (l, r)
    | none => none
  | _ => none
def am_stJ (lv st : List Value) (i : Nat) : Option (List Value × List Value) := match st with
  | .long x :: r => match am_st2 lv i (.long x) with
    | some l => some (l, r)
    | none => none
  | _ => none
def am_inc (lv st : List Value) (i : Nat) (n : Int) : Option (List Value × List Value) := match am_ld lv i with
  | .int x => match am_st1 lv i (.int (x + Int32.ofInt n)) with
    | some l => some (l, st)
    | none => none
  | _ => none
def am_pI (lv st : List Value) (v : Option Int32) : Option (List Value × List Value) := match v with
  | some v => some (lv, .int v :: st)
  | none => none
def am_pJ (lv st : List Value) (v : Option Int64) : Option (List Value × List Value) := match v with
  | some v => some (lv, .long v :: st)
  | none => none
/-- constants and locals -/
def am_fA (c : String) (i : Instr) (len : Nat) (lv st : List Value) : Option (List Value × List Value) := match i, len with
  | .iconst n, 1 => some (lv, .int (Int32.ofInt n) :: st)
  | .bipush n, 2 => some (lv, .int (Int8.ofInt n).toInt32 :: st)
  | .sipush n, 3 => some (lv, .int (Int16.ofInt n).toInt32 :: st)
  | .lconst n, 1 => some (lv, .long (Int64.ofNat (n : Nat)) :: st)
  | .ldc k, 2 => am_pI lv st ((am_cI c k).map (fun q => q.2.2.1))
  | .ldc_w k, 3 => am_pI lv st ((am_cI c k).map (fun q => q.2.2.1))
  | .ldc2_w k, 3 => am_pJ lv st ((am_cJ c k).map (fun q => q.2.2.1))
  | .iload k, 2 => am_ldI lv st k
  | .iload_n k, 1 => am_ldI lv st (k : Nat)
  | .lload k, 2 => am_ldJ lv st k
  | .lload_n k, 1 => am_ldJ lv st (k : Nat)
  | .aload k, 2 => am_ldA lv st k
  | .aload_n k, 1 => am_ldA lv st (k : Nat)
  | .istore k, 2 => am_stI lv st k
  | .istore_n k, 1 => am_stI lv st (k : Nat)
  | .lstore k, 2 => am_stJ lv st k
  | .lstore_n k, 1 => am_stJ lv st (k : Nat)
  | .iinc k n, 3 => am_inc lv st k n
  | _, _ => none
def am_i2 (st : List Value) (f : Int32 → Int32 → Int32) : Option (List Value) := match st with
  | .int y :: .int x :: r => some (.int (f x y) :: r)
  | _ => none
def am_l2 (st : List Value) (f : Int64 → Int64 → Int64) : Option (List Value) := match st with
  | .long y :: .long x :: r => some (.long (f x y) :: r)
  | _ => none
/-- arithmetic and the stack -/
def am_fB (i : Instr) (len : Nat) (st : List Value) : Option (List Value) := match i, len with
  | .iadd, 1 => am_i2 st (fun x y => x + y)
  | .isub, 1 => am_i2 st (fun x y => x - y)
  | .imul, 1 => am_i2 st (fun x y => x * y)
  | .iand, 1 => am_i2 st (fun x y => x &&& y)
  | .ior, 1 => am_i2 st (fun x y => x ||| y)
  | .ixor, 1 => am_i2 st (fun x y => x ^^^ y)
  | .ishl, 1 => am_i2 st (fun x y => x <<< (y &&& 31))
  | .iushr, 1 => am_i2 st (fun x y => (x.toUInt32 >>> (y.toUInt32 &&& Int32.toUInt32 31)).toInt32)
  | .idiv, 1 => match st with
    | .int y :: .int x :: r => if y = 0 then none else some (.int (x / y) :: r)
    | _ => none
  | .land, 1 => am_l2 st (fun x y => x &&& y)
  | .lor, 1 => am_l2 st (fun x y => x ||| y)
  | .lxor, 1 => am_l2 st (fun x y => x ^^^ y)
  | .lshl, 1 => match st with
    | .int y :: .long x :: r => some (.long (x <<< (y.toInt64 &&& 63)) :: r)
    | _ => none
  | .i2l, 1 => match st with
    | .int x :: r => some (.long x.toInt64 :: r)
    | _ => none
  | .lcmp, 1 => match st with
    | .long y :: .long x :: r => some (.int (lg_cmp x y) :: r)
    | _ => none
  | .dup, 1 => match st with
    | .int x :: r => some (.int x :: .int x :: r)
    | .ref x :: r => some (.ref x :: .ref x :: r)
    | _ => none
  | .dup2, 1 => match st with
    | .int y :: .ref x :: r => some (.int y :: .ref x :: .int y :: .ref x :: r)
    | _ => none
  | .pop, 1 => match st with
    | .int _ :: r => some r
    | _ => none
  | _, _ => none
def am_cmp (cd : ClassFile.Cond) (x y : Int32) : Bool := match cd with
  | .eq => decide (x = y)
  | .ne => decide (¬ x = y)
  | .lt => decide (x < y)
  | .ge => decide (y ≤ x)
  | .gt => decide (y < x)
  | .le => decide (x ≤ y)
def am_tg (pc : Nat) (off : Int) : Nat := ((pc : Int) + off).toNat
def am_tgok (pc : Nat) (off : Int) : Bool := decide (0 ≤ (pc : Int) + off)
/-- branches -/
def am_fC (i : Instr) (len pc : Nat) (st : List Value) : Option (Nat × List Value) := match i, len with
  | .goto off, 3 => if am_tgok pc off then some (am_tg pc off, st) else none
  | .ifCond cd off, 3 => match st with
    | .int x :: r => if am_tgok pc off then some (if am_cmp cd x 0 then am_tg pc off else pc + 3, r) else none
    | _ => none
  | .if_icmp cd off, 3 => match st with
    | .int y :: .int x :: r => if am_tgok pc off then some (if am_cmp cd x y then am_tg pc off else pc + 3, r) else none
    | _ => none
  | .tableswitch dflt lo hi offs, _ => match st with
    | .int x :: r => if x.toInt < lo ∨ hi < x.toInt then (if am_tgok pc dflt then some (am_tg pc dflt, r) else none) else match offs[(x.toInt - lo).toNat]? with
      | some off => if am_tgok pc off then some (am_tg pc off, r) else none
      | none => none
    | _ => none
  | _, _ => none
def am_in (j : Int32) (n : Nat) : Bool := !(decide (j < 0) || decide (n ≤ j.toNatClampNeg))
/-- the int at place j of array a, if a is an array of ints (z = 0) or of booleans (z = 1) and j lies in it -/
def am_rd (X : am_X) (z : Nat) (σ : am_M) (a : Nat) (j : Int32) : Option Int32 := match am_sh[a]? with
  | some (.inl (t, n)) => if t == z && am_in j n then some (σ.1 a j.toNatClampNeg) else none
  | some (.inr _) => none
  | none => if z == 0 && (a == 1000 && am_in j 5) then some (am_lst.getD j.toNatClampNeg 0) else if z == 0 && (a == 1001 && am_in j (X.1 - 1)) then some (X.2 j.toNatClampNeg) else none
def am_len (X : am_X) (a : Nat) : Option Int32 := match am_sh[a]? with
  | some (.inl (_, n)) => some (nI n)
  | some (.inr _) => none
  | none => if a == 1001 && decide (0 < X.1) then some (nI (X.1 - 1)) else none
def am_gf (c : String) (k : Nat) (σ : am_M) (a : Nat) : Option Value := match am_fld c k with
  | none => none
  | some q => match am_sh[a]? with
    | some (.inr (ci, fs)) => if q.2.2.1 == ci then (match fs[q.2.2.2.1]? with
      | some (some b) => some (.ref b)
      | some none => some (.int (σ.1 a q.2.2.2.1))
      | none => none) else none
    | _ => none
def am_fz (ci fk : Nat) (x : Int32) : Bool := !(ci == 1 && fk == 4) || (x == 0 || x == 1)
def am_pf (c : String) (k : Nat) (σ : am_M) (a : Nat) (x : Int32) : Option am_M := match am_fld c k with
  | none => none
  | some q => match am_sh[a]? with
    | some (.inr (ci, fs)) => if q.2.2.1 == ci && am_fz ci q.2.2.2.1 x then (match fs[q.2.2.2.1]? with
      | some none => some (am_wI σ a q.2.2.2.1 x)
      | _ => none) else none
    | _ => none
def am_wr (z : Nat) (σ : am_M) (a : Nat) (j x : Int32) : Option am_M := match am_sh[a]? with
  | some (.inl (t, n)) => if t == z && am_in j n then some (am_wI σ a j.toNatClampNeg x) else none
  | _ => none
def am_rdJ (σ : am_M) (a : Nat) (j : Int32) : Option Int64 := match am_sh[a]? with
  | some (.inl (t, n)) => if t == 2 && am_in j n then some (σ.2.1 a j.toNatClampNeg) else none
  | _ => none
def am_wrJ (σ : am_M) (a : Nat) (j : Int32) (x : Int64) : Option am_M := match am_sh[a]? with
  | some (.inl (t, n)) => if t == 2 && am_in j n then some (am_wJ σ a j.toNatClampNeg x) else none
  | _ => none
def am_oI (r : List Value) (σ : am_M) (v : Option Int32) : Option (List Value × am_M) := match v with
  | some v => some (.int v :: r, σ)
  | none => none
def am_oM (r : List Value) (v : Option am_M) : Option (List Value × am_M) := match v with
  | some σ => some (r, σ)
  | none => none
def am_cat (st : List Value) : Nat := (st.map fun v => v.category).sum
/-- fields, arrays, and Math.min -/
def am_fD (X : am_X) (c : String) (i : Instr) (len : Nat) (st : List Value) (σ : am_M) : Option (List Value × am_M) := match i, len with
  | .getfield k, 3 => match st with
    | .ref a :: r => match am_gf c k σ a with
      | some v => some (v :: r, σ)
      | none => none
    | _ => none
  | .putfield k, 3 => match st with
    | .int x :: .ref a :: r => am_oM r (am_pf c k σ a x)
    | _ => none
  | .getstatic k, 3 => if c == "KeyArchive" && k == 273 then some (.ref 1000 :: st, σ) else none
  | .iaload, 1 => match st with
    | .int j :: .ref a :: r => am_oI r σ (am_rd X 0 σ a j)
    | _ => none
  | .baload, 1 => match st with
    | .int j :: .ref a :: r => am_oI r σ (am_rd X 1 σ a j)
    | _ => none
  | .laload, 1 => match st with
    | .int j :: .ref a :: r => match am_rdJ σ a j with
      | some v => some (.long v :: r, σ)
      | none => none
    | _ => none
  | .iastore, 1 => match st with
    | .int x :: .int j :: .ref a :: r => am_oM r (am_wr 0 σ a j x)
    | _ => none
  | .bastore, 1 => match st with
    | .int x :: .int j :: .ref a :: r => am_oM r (am_wr 1 σ a j (vp_nar .boolean x))
    | _ => none
  | .lastore, 1 => match st with
    | .long x :: .int j :: .ref a :: r => am_oM r (am_wrJ σ a j x)
    | _ => none
  | .arraylength, 1 => match st with
    | .ref a :: r => am_oI r σ (am_len X a)
    | _ => none
  | .invokestatic k, 3 => if c == "KeyArchive$Cover" && k == 73 then (match st with
    | .int y :: .int x :: r => if am_cat r ≤ 8 then some (.int (if y < x then y else x) :: r, σ) else none
    | _ => none) else none
  | _, _ => none
/-- E comes out of a call at pc -/
def am_exc (M : am_Mt) (pc : Nat) (lv : List Value) (E : String) (σ : am_M) : Option ((am_R × am_M) ⊕ am_P) := match M.2.2.2.2.1 with
  | [] => some (.inl (.inr E, σ))
  | q :: qs => match (q :: qs).find? (fun z => decide (z.1 ≤ pc) && (decide (pc < z.2.1) && am_cln z.2.2.2 == E)) with
    | none => none
    | some z => match decode M.2.1 z.2.2.1 with
      | .ok (.astore_n k, 1) => match am_st1 lv (k : Nat) .null with
        | some lv' => some (.inr (z.2.2.1 + 1, lv', [], σ))
        | none => none
      | .ok (.astore k, 2) => match am_st1 lv k .null with
        | some lv' => some (.inr (z.2.2.1 + 2, lv', [], σ))
        | none => none
      | _ => none
def am_rok (rt : Option FieldType) (v : Option Value) : Bool := match v with
  | none => rt == none
  | some (.int _) => rt == some .int || rt == some .boolean
  | some (.long _) => rt == some .long
  | some _ => false
def am_aft (rt : Option FieldType) (nx : Bool) (M : am_Mt) (pc : Nat) (lv rest : List Value) (o : Option (am_R × am_M)) : Option ((am_R × am_M) ⊕ am_P) := match o with
  | none => none
  | some (.inl v, σ) => if am_rok rt v then some (.inr (pc + 3, lv, v.toList ++ rest, σ)) else none
  | some (.inr E, σ) => if nx then none else am_exc M pc lv E σ
def am_isO (a : Nat) (C : String) : Bool := match am_sh[a]? with
  | some (.inr (ci, _)) => match vwCl[ci]? with
    | some q => q.1 == C
    | none => false
  | _ => false
def am_inv (kd : Bool) (C : am_C) (M : am_Mt) (k pc : Nat) (lv st : List Value) (σ : am_M) : Option ((am_R × am_M) ⊕ am_P) := match am_cal M.1.cls k with
  | none => none
  | some q => match am_ml[q.2.2.2.1]? with
    | none => none
    | some N => if (q.2.2.1 == 0) == kd then (
        let n := N.2.2.2.2.2 + (if kd then 1 else 0)
        if decide (n ≤ st.length) && decide (am_cat (st.drop n) ≤ 8) then (match kd, (st.take n).reverse with
          | true, .ref a :: as => if am_isO a N.1.cls then am_aft N.2.2.2.1 false M pc lv (st.drop n) (C q.2.2.2.1 (.ref a :: as) σ) else none
          | true, _ => none
          | false, as => am_aft N.2.2.2.1 (q.2.2.1 == 2) M pc lv (st.drop n) (C q.2.2.2.1 as σ)) else none) else none
def am_new (M : am_Mt) (ik is ic : Nat) (st : List Value) (σ : am_M) : Option ((am_R × am_M) ⊕ am_P) := match M.2.2.2.2.1 with
  | [] => if decide (am_cat st ≤ 8) then (match am_thr M.1.cls ik is ic with
    | some q => some (.inl (.inr q.2.2.2.2.1, am_tick σ))
    | none => none) else none
  | _ => none
/-- calls, ends, throws -/
def am_fE (C : am_C) (M : am_Mt) (i : Instr) (len pc : Nat) (lv st : List Value) (σ : am_M) : Option ((am_R × am_M) ⊕ am_P) := match i, len with
  | .invokevirtual k, 3 => am_inv true C M k pc lv st σ
  | .invokestatic k, 3 => am_inv false C M k pc lv st σ
  | .ireturn, 1 => match st with
    | [.int v] => if M.2.2.2.1 == some .int || (M.2.2.2.1 == some .boolean && (v == 0 || v == 1)) then some (.inl (.inl (some (.int v)), σ)) else none
    | _ => none
  | .lreturn, 1 => match st with
    | [.long v] => if M.2.2.2.1 == some .long then some (.inl (.inl (some (.long v)), σ)) else none
    | _ => none
  | .return_, 1 => match st with
    | [] => if M.2.2.2.1 == none then some (.inl (.inl none, σ)) else none
    | _ => none
  | .new ik, 3 => if decode M.2.1 (pc + 3) = .ok (.dup, 1) then (match decode M.2.1 (pc + 4) with
    | .ok (.ldc is, 2) => match decode M.2.1 (pc + 6) with
      | .ok (.invokespecial ic, 3) => if decode M.2.1 (pc + 9) = .ok (.athrow, 1) then am_new M ik is ic st σ else none
      | _ => none
    | .ok (.ldc_w is, 3) => match decode M.2.1 (pc + 7) with
      | .ok (.invokespecial ic, 3) => if decode M.2.1 (pc + 10) = .ok (.athrow, 1) then am_new M ik is ic st σ else none
      | _ => none
    | _ => none) else none
  | _, _ => none
def am_nxt (X : am_X) (C : am_C) (M : am_Mt) (pc : Nat) (lv st : List Value) (σ : am_M) : Option ((am_R × am_M) ⊕ am_P) := match decode M.2.1 pc with
  | .error _ => none
  | .ok (i, len) => match am_fA M.1.cls i len lv st with
    | some (lv', st') => some (.inr (pc + len, lv', st', σ))
    | none => match am_fB i len st with
      | some st' => some (.inr (pc + len, lv, st', σ))
      | none => match am_fC i len pc st with
        | some (pc', st') => some (.inr (pc', lv, st', σ))
        | none => match am_fD X M.1.cls i len st σ with
          | some (st', σ') => some (.inr (pc + len, lv, st', σ'))
          | none => am_fE C M i len pc lv st σ
def am_run (X : am_X) (C : am_C) (M : am_Mt) : Nat → Nat → List Value → List Value → am_M → Option (am_R × am_M)
  | 0, _, _, _, _ => none
  | n + 1, pc, lv, st, σ => match am_nxt X C M pc lv st σ with
    | none => none
    | some (.inl r) => some r
    | some (.inr q) => am_run X C M n q.1 q.2.1 q.2.2.1 q.2.2.2
theorem am_run_mono {X : am_X} {C : am_C} {M : am_Mt} : ∀ (n k : Nat) (pc : Nat) (lv st : List Value) (σ : am_M) (r : am_R × am_M), am_run X C M n pc lv st σ = some r → am_run X C M (n + k) pc lv st σ = some r := by
  intro n
  induction n with
  | zero => intro k pc lv st σ r h; simp [am_run] at h
  | succ n ih =>
    intro k pc lv st σ r h
    rw [show n + 1 + k = (n + k) + 1 by omega]
    unfold am_run at h ⊢
    split at h
    · cases h
    · exact h
    · exact ih k _ _ _ _ _ h
/-- the answer, if some number of steps gives one -/
noncomputable def am_go (X : am_X) (C : am_C) (M : am_Mt) (pc : Nat) (lv st : List Value) (σ : am_M) : Option (am_R × am_M) :=
  @dite _ (∃ n r, am_run X C M n pc lv st σ = some r) (Classical.propDecidable _) (fun h => am_run X C M h.choose pc lv st σ) (fun _ => none)
theorem am_go_of {X : am_X} {C : am_C} {M : am_Mt} {n pc : Nat} {lv st : List Value} {σ : am_M} {r : am_R × am_M} (h : am_run X C M n pc lv st σ = some r) : am_go X C M pc lv st σ = some r := by
  unfold am_go
  have he : ∃ n r, am_run X C M n pc lv st σ = some r := ⟨n, r, h⟩
  rw [dif_pos he]
  obtain ⟨r', hr'⟩ := he.choose_spec
  have h1 := am_run_mono _ n _ _ _ _ _ hr'
  have h2 := am_run_mono _ he.choose _ _ _ _ _ h
  rw [Nat.add_comm] at h2
  rw [h1] at h2
  rw [hr']
  exact h2
theorem am_go_ex {X : am_X} {C : am_C} {M : am_Mt} {pc : Nat} {lv st : List Value} {σ : am_M} {r : am_R × am_M} (h : am_go X C M pc lv st σ = some r) : ∃ n, am_run X C M n pc lv st σ = some r := by
  unfold am_go at h
  split at h
  · exact ⟨_, h⟩
  · cases h
theorem am_go_eq (X : am_X) (C : am_C) (M : am_Mt) (pc : Nat) (lv st : List Value) (σ : am_M) : am_go X C M pc lv st σ = match am_nxt X C M pc lv st σ with
    | none => none
    | some (.inl r) => some r
    | some (.inr q) => am_go X C M q.1 q.2.1 q.2.2.1 q.2.2.2 := by
  cases hn : am_nxt X C M pc lv st σ with
  | none =>
    cases hg : am_go X C M pc lv st σ with
    | none => rfl
    | some r =>
      obtain ⟨n, h⟩ := am_go_ex hg
      cases n with
      | zero => simp [am_run] at h
      | succ n => unfold am_run at h; rw [hn] at h; cases h
  | some x =>
    cases x with
    | inl r =>
      have h : am_run X C M 1 pc lv st σ = some r := by unfold am_run; rw [hn]
      exact am_go_of h
    | inr q =>
      cases hg : am_go X C M q.1 q.2.1 q.2.2.1 q.2.2.2 with
      | some r =>
        obtain ⟨n, h⟩ := am_go_ex hg
        have h2 : am_run X C M (n + 1) pc lv st σ = some r := by unfold am_run; rw [hn]; exact h
        rw [am_go_of h2]
        exact hg.symm
      | none =>
        cases hg2 : am_go X C M pc lv st σ with
        | none => exact hg.symm
        | some r =>
          obtain ⟨n, h⟩ := am_go_ex hg2
          cases n with
          | zero => simp [am_run] at h
          | succ n =>
            unfold am_run at h
            rw [hn] at h
            rw [am_go_of h] at hg
            cases hg
def am_X0 : am_X := (0, fun _ => 0)
/-- the locals at a method's entry -/
def am_ls (as : List Value) : List Value := as.flatMap (fun v => if v.category = 2 then [v, .null] else [v])
def am_in0 (as : List Value) (n : Nat) : List Value := am_ls as ++ List.replicate (n - (am_ls as).length) .null
/-- a call of method k, at most d calls deep -/
noncomputable def am_ex : Nat → am_C
  | 0 => fun _ _ _ => none
  | d + 1 => fun k as σ => match am_ml[k]? with
    | none => none
    | some M => if (am_ls as).length ≤ M.2.2.1 then am_go am_X0 (am_ex d) M 0 (am_in0 as M.2.2.1) [] σ else none
