/-! THE FRAME: a run touches and reads the cells of its own side only -/
section FRM
/-- cells of side A from Z, the others from σ -/
def hy (A : Nat → Bool) (σ Z : am_M) : am_M := (fun a => if A a = true then Z.1 a else σ.1 a, fun a => if A a = true then Z.2.1 a else σ.2.1 a, Z.2.2)
theorem hyI {A : Nat → Bool} {σ Z : am_M} {a : Nat} (h : A a = true) : (hy A σ Z).1 a = Z.1 a := if_pos h
theorem hyJ {A : Nat → Bool} {σ Z : am_M} {a : Nat} (h : A a = true) : (hy A σ Z).2.1 a = Z.2.1 a := if_pos h
theorem hyI' {A : Nat → Bool} {σ Z : am_M} {a : Nat} (h : A a = false) : (hy A σ Z).1 a = σ.1 a := if_neg (by rw [h]; decide)
theorem hyJ' {A : Nat → Bool} {σ Z : am_M} {a : Nat} (h : A a = false) : (hy A σ Z).2.1 a = σ.2.1 a := if_neg (by rw [h]; decide)
theorem hyN {A : Nat → Bool} {σ Z : am_M} : (hy A σ Z).2.2 = Z.2.2 := rfl
theorem hy_self (A : Nat → Bool) (Z : am_M) : hy A Z Z = Z := by
  unfold hy
  simp only [ite_self]
theorem hy_wI {A : Nat → Bool} {σ Z : am_M} {a : Nat} (h : A a = true) (j : Nat) (x : Int32) : am_wI (hy A σ Z) a j x = hy A σ (am_wI Z a j x) := by
  unfold am_wI
  rw [hyI h]
  unfold hy va_up
  simp only [Prod.mk.injEq, and_true]
  funext b
  by_cases e : b = a
  · subst e; simp [h]
  · simp [e]
theorem hy_wJ {A : Nat → Bool} {σ Z : am_M} {a : Nat} (h : A a = true) (j : Nat) (x : Int64) : am_wJ (hy A σ Z) a j x = hy A σ (am_wJ Z a j x) := by
  unfold am_wJ
  rw [hyJ h]
  unfold hy va_up
  simp only [Prod.mk.injEq, and_true, true_and]
  funext b
  by_cases e : b = a
  · subst e; simp [h]
  · simp [e]
def okb (A : Nat → Bool) (v : Value) : Bool := match v with
  | .ref a => A a
  | _ => true
abbrev shO (A : Nat → Bool) : Prop := ∀ (a ci : Nat) (fs : List (Option Nat)) (i b : Nat), A a = true → am_sh[a]? = some (.inr (ci, fs)) → fs[i]? = some (some b) → A b = true
abbrev okL (A : Nat → Bool) (l : List Value) : Prop := ∀ v, v ∈ l → okb A v = true
variable {A : Nat → Bool} {lv st lv' st' : List Value} {σ Z : am_M}
theorem okL_c {v : Value} {l : List Value} : okL A (v :: l) ↔ okb A v = true ∧ okL A l := by
  unfold okL
  simp only [List.mem_cons, forall_eq_or_imp]
theorem okL_set {v : Value} (h : okL A lv) (hv : okb A v = true) (i : Nat) : okL A (lv.set i v) := by
  intro w hw
  rcases List.mem_or_eq_of_mem_set hw with h1 | h1
  · exact h w h1
  · rw [h1]; exact hv
theorem ok_ld (h : okL A lv) (i : Nat) : okb A (am_ld lv i) = true := by
  unfold am_ld
  rw [List.getD_eq_getElem?_getD]
  cases e : lv[i]? with
  | none => rfl
  | some v => exact h v (List.mem_of_getElem? e)
theorem ok_st1 {i : Nat} {v : Value} {l : List Value} (e : am_st1 lv i v = some l) (h : okL A lv) (hv : okb A v = true) : okL A l := by
  unfold am_st1 at e
  split at e
  · cases e; exact okL_set h hv i
  · cases e
theorem ok_st2 {i : Nat} {v : Value} {l : List Value} (e : am_st2 lv i v = some l) (h : okL A lv) (hv : okb A v = true) : okL A l := by
  unfold am_st2 at e
  split at e
  · cases e; exact okL_set (okL_set h hv i) rfl _
  · cases e
theorem ok_ldI {i : Nat} (e : am_ldI lv st i = some (lv', st')) (h1 : okL A lv) (h2 : okL A st) : okL A lv' ∧ okL A st' := by
  unfold am_ldI at e
  split at e
  · cases e; exact ⟨h1, okL_c.mpr ⟨rfl, h2⟩⟩
  · cases e
theorem ok_ldJ {i : Nat} (e : am_ldJ lv st i = some (lv', st')) (h1 : okL A lv) (h2 : okL A st) : okL A lv' ∧ okL A st' := by
  unfold am_ldJ at e
  split at e
  · cases e; exact ⟨h1, okL_c.mpr ⟨rfl, h2⟩⟩
  · cases e
theorem ok_ldA {i : Nat} (e : am_ldA lv st i = some (lv', st')) (h1 : okL A lv) (h2 : okL A st) : okL A lv' ∧ okL A st' := by
  have h3 := ok_ld h1 i
  unfold am_ldA at e
  split at e
  · rename_i x hx
    rw [hx] at h3
    cases e; exact ⟨h1, okL_c.mpr ⟨h3, h2⟩⟩
  · cases e
theorem ok_stI {i : Nat} (e : am_stI lv st i = some (lv', st')) (h1 : okL A lv) (h2 : okL A st) : okL A lv' ∧ okL A st' := by
  unfold am_stI at e
  split at e
  · split at e
    · rename_i q
      cases e; exact ⟨ok_st1 q h1 rfl, (okL_c.mp h2).2⟩
    · cases e
  · cases e
theorem ok_stJ {i : Nat} (e : am_stJ lv st i = some (lv', st')) (h1 : okL A lv) (h2 : okL A st) : okL A lv' ∧ okL A st' := by
  unfold am_stJ at e
  split at e
  · split at e
    · rename_i q
      cases e; exact ⟨ok_st2 q h1 rfl, (okL_c.mp h2).2⟩
    · cases e
  · cases e
theorem ok_inc {i : Nat} {n : Int} (e : am_inc lv st i n = some (lv', st')) (h1 : okL A lv) (h2 : okL A st) : okL A lv' ∧ okL A st' := by
  unfold am_inc at e
  split at e
  · split at e
    · rename_i q
      cases e; exact ⟨ok_st1 q h1 rfl, h2⟩
    · cases e
  · cases e
theorem ok_pI {v : Option Int32} (e : am_pI lv st v = some (lv', st')) (h1 : okL A lv) (h2 : okL A st) : okL A lv' ∧ okL A st' := by
  unfold am_pI at e
  split at e
  · cases e; exact ⟨h1, okL_c.mpr ⟨rfl, h2⟩⟩
  · cases e
theorem ok_pJ {v : Option Int64} (e : am_pJ lv st v = some (lv', st')) (h1 : okL A lv) (h2 : okL A st) : okL A lv' ∧ okL A st' := by
  unfold am_pJ at e
  split at e
  · cases e; exact ⟨h1, okL_c.mpr ⟨rfl, h2⟩⟩
  · cases e
theorem ok_fA {c : String} {i : Instr} {len : Nat} (e : am_fA c i len lv st = some (lv', st')) (h1 : okL A lv) (h2 : okL A st) : okL A lv' ∧ okL A st' := by
  unfold am_fA at e
  split at e
  all_goals first
    | exact ok_ldI e h1 h2
    | exact ok_ldJ e h1 h2
    | exact ok_ldA e h1 h2
    | exact ok_stI e h1 h2
    | exact ok_stJ e h1 h2
    | exact ok_inc e h1 h2
    | exact ok_pI e h1 h2
    | exact ok_pJ e h1 h2
    | (cases e; exact ⟨h1, okL_c.mpr ⟨rfl, h2⟩⟩)
    | cases e
theorem ok_i2 {f : Int32 → Int32 → Int32} (e : am_i2 st f = some st') (h2 : okL A st) : okL A st' := by
  unfold am_i2 at e
  split at e
  · cases e; exact okL_c.mpr ⟨rfl, (okL_c.mp (okL_c.mp h2).2).2⟩
  · cases e
theorem ok_l2 {f : Int64 → Int64 → Int64} (e : am_l2 st f = some st') (h2 : okL A st) : okL A st' := by
  unfold am_l2 at e
  split at e
  · cases e; exact okL_c.mpr ⟨rfl, (okL_c.mp (okL_c.mp h2).2).2⟩
  · cases e
theorem ok_fB {i : Instr} {len : Nat} (e : am_fB i len st = some st') (h2 : okL A st) : okL A st' := by
  unfold am_fB at e
  split at e
  all_goals first
    | exact ok_i2 e h2
    | exact ok_l2 e h2
    | skip
  all_goals first
    | (split at e <;> first
        | (cases e; first | exact okL_c.mpr ⟨rfl, (okL_c.mp (okL_c.mp h2).2).2⟩ | exact okL_c.mpr ⟨rfl, (okL_c.mp h2).2⟩ | exact okL_c.mpr ⟨(okL_c.mp h2).1, h2⟩ | exact okL_c.mpr ⟨(okL_c.mp h2).1, okL_c.mpr ⟨(okL_c.mp (okL_c.mp h2).2).1, h2⟩⟩ | exact (okL_c.mp h2).2)
        | (split at e <;> first
          | (cases e; first | exact okL_c.mpr ⟨rfl, (okL_c.mp (okL_c.mp h2).2).2⟩ | exact okL_c.mpr ⟨rfl, (okL_c.mp h2).2⟩ | exact okL_c.mpr ⟨(okL_c.mp h2).1, h2⟩ | exact okL_c.mpr ⟨(okL_c.mp h2).1, okL_c.mpr ⟨(okL_c.mp (okL_c.mp h2).2).1, h2⟩⟩ | exact (okL_c.mp h2).2)
          | cases e)
        | cases e)
    | cases e
theorem ok_fC {i : Instr} {len pc pc' : Nat} (e : am_fC i len pc st = some (pc', st')) (h2 : okL A st) : okL A st' := by
  unfold am_fC at e
  split at e
  · split at e
    · cases e; exact h2
    · cases e
  · split at e
    · split at e
      · cases e; exact (okL_c.mp h2).2
      · cases e
    · cases e
  · split at e
    · split at e
      · cases e; exact (okL_c.mp (okL_c.mp h2).2).2
      · cases e
    · cases e
  · split at e
    · split at e
      · split at e
        · cases e; exact (okL_c.mp h2).2
        · cases e
      · split at e
        · split at e
          · cases e; exact (okL_c.mp h2).2
          · cases e
        · cases e
    · cases e
  · cases e
theorem fr_rd {X : am_X} {z a : Nat} {j : Int32} (ha : A a = true) : am_rd X z (hy A σ Z) a j = am_rd X z Z a j := by
  unfold am_rd
  rw [hyI ha]
theorem fr_rdJ {a : Nat} {j : Int32} (ha : A a = true) : am_rdJ (hy A σ Z) a j = am_rdJ Z a j := by
  unfold am_rdJ
  rw [hyJ ha]
theorem fr_gf {c : String} {k a : Nat} (ha : A a = true) : am_gf c k (hy A σ Z) a = am_gf c k Z a := by
  unfold am_gf
  rw [hyI ha]
theorem ok_gf {c : String} {k a : Nat} {v : Value} (hs : shO A) (ha : A a = true) (e : am_gf c k Z a = some v) : okb A v = true := by
  unfold am_gf at e
  split at e
  · cases e
  · split at e
    · rename_i hsh
      split at e
      · split at e
        · rename_i hf
          cases e; exact hs _ _ _ _ _ ha hsh hf
        · cases e; rfl
        · cases e
      · cases e
    · cases e
theorem fr_pf {c : String} {k a : Nat} {x : Int32} (ha : A a = true) : am_pf c k (hy A σ Z) a x = (am_pf c k Z a x).map (hy A σ) := by
  unfold am_pf
  split
  · rfl
  · split
    · split
      · split
        · rw [hy_wI ha]; rfl
        · rfl
      · rfl
    · rfl
theorem fr_wr {z a : Nat} {j x : Int32} (ha : A a = true) : am_wr z (hy A σ Z) a j x = (am_wr z Z a j x).map (hy A σ) := by
  unfold am_wr
  split
  · split
    · rw [hy_wI ha]; rfl
    · rfl
  · rfl
theorem fr_wrJ {a : Nat} {j : Int32} {x : Int64} (ha : A a = true) : am_wrJ (hy A σ Z) a j x = (am_wrJ Z a j x).map (hy A σ) := by
  unfold am_wrJ
  split
  · split
    · rw [hy_wJ ha]; rfl
    · rfl
  · rfl
theorem fr_oM {r : List Value} {v : Option am_M} : am_oM r (v.map (hy A σ)) = (am_oM r v).map (fun q => (q.1, hy A σ q.2)) := by
  cases v <;> rfl
theorem fr_oI {r : List Value} {v : Option Int32} : am_oI r (hy A σ Z) v = (am_oI r Z v).map (fun q => (q.1, hy A σ q.2)) := by
  cases v <;> rfl
theorem ok_oM {r st' : List Value} {v : Option am_M} {Z' : am_M} (e : am_oM r v = some (st', Z')) (h : okL A r) : okL A st' := by
  unfold am_oM at e
  split at e
  · cases e; exact h
  · cases e
theorem ok_oI {r st' : List Value} {v : Option Int32} {Z' : am_M} (e : am_oI r Z v = some (st', Z')) (h : okL A r) : okL A st' := by
  unfold am_oI at e
  split at e
  · cases e; exact okL_c.mpr ⟨rfl, h⟩
  · cases e
theorem fr_fD {X : am_X} {c : String} {i : Instr} {len : Nat} (h2 : okL A st) : am_fD X c i len st (hy A σ Z) = (am_fD X c i len st Z).map (fun r => (r.1, hy A σ r.2)) := by
  unfold am_fD
  split
  · split
    · rw [fr_gf (okL_c.mp h2).1]
      split <;> rfl
    · rfl
  · split
    · rw [fr_pf (okL_c.mp (okL_c.mp h2).2).1, fr_oM]
    · rfl
  · split <;> rfl
  · split
    · rw [fr_rd (okL_c.mp (okL_c.mp h2).2).1, fr_oI]
    · rfl
  · split
    · rw [fr_rd (okL_c.mp (okL_c.mp h2).2).1, fr_oI]
    · rfl
  · split
    · rw [fr_rdJ (okL_c.mp (okL_c.mp h2).2).1]
      split <;> rfl
    · rfl
  · split
    · rw [fr_wr (okL_c.mp (okL_c.mp (okL_c.mp h2).2).2).1, fr_oM]
    · rfl
  · split
    · rw [fr_wr (okL_c.mp (okL_c.mp (okL_c.mp h2).2).2).1, fr_oM]
    · rfl
  · split
    · rw [fr_wrJ (okL_c.mp (okL_c.mp (okL_c.mp h2).2).2).1, fr_oM]
    · rfl
  · split
    · rw [fr_oI]
    · rfl
  · split
    · split
      · split <;> rfl
      · rfl
    · rfl
  · rfl
theorem ok_fD {X : am_X} {c : String} {i : Instr} {len : Nat} {Z' : am_M} (hs : shO A) (hg : c = "KeyArchive" → A 1000 = true) (h2 : okL A st) (e : am_fD X c i len st Z = some (st', Z')) : okL A st' := by
  unfold am_fD at e
  split at e
  · split at e
    · split at e
      · rename_i hv
        cases e; exact okL_c.mpr ⟨ok_gf hs (okL_c.mp h2).1 hv, (okL_c.mp h2).2⟩
      · cases e
    · cases e
  · split at e
    · exact ok_oM e (okL_c.mp (okL_c.mp h2).2).2
    · cases e
  · split at e
    · rename_i hc
      simp only [Bool.and_eq_true, beq_iff_eq] at hc
      cases e; exact okL_c.mpr ⟨hg hc.1, h2⟩
    · cases e
  · split at e
    · exact ok_oI e (okL_c.mp (okL_c.mp h2).2).2
    · cases e
  · split at e
    · exact ok_oI e (okL_c.mp (okL_c.mp h2).2).2
    · cases e
  · split at e
    · split at e
      · cases e; exact okL_c.mpr ⟨rfl, (okL_c.mp (okL_c.mp h2).2).2⟩
      · cases e
    · cases e
  · split at e
    · exact ok_oM e (okL_c.mp (okL_c.mp (okL_c.mp h2).2).2).2
    · cases e
  · split at e
    · exact ok_oM e (okL_c.mp (okL_c.mp (okL_c.mp h2).2).2).2
    · cases e
  · split at e
    · exact ok_oM e (okL_c.mp (okL_c.mp (okL_c.mp h2).2).2).2
    · cases e
  · split at e
    · exact ok_oI e (okL_c.mp h2).2
    · cases e
  · split at e
    · split at e
      · split at e
        · cases e; exact okL_c.mpr ⟨rfl, (okL_c.mp (okL_c.mp h2).2).2⟩
        · cases e
      · cases e
    · cases e
  · cases e
/-- an outcome, with the other side's cells from σ -/
def mpO (A : Nat → Bool) (σ : am_M) (o : Option (am_R × am_M)) : Option (am_R × am_M) := o.map (fun r => (r.1, hy A σ r.2))
def mpS (A : Nat → Bool) (σ : am_M) (o : Option ((am_R × am_M) ⊕ am_P)) : Option ((am_R × am_M) ⊕ am_P) := match o with
  | none => none
  | some (.inl r) => some (.inl (r.1, hy A σ r.2))
  | some (.inr q) => some (.inr (q.1, q.2.1, q.2.2.1, hy A σ q.2.2.2))
variable {Q : Nat → Bool} {qc : String → Bool}
theorem fr_aft {rt : Option FieldType} {nx : Bool} {M : am_Mt} {pc : Nat} {rest : List Value} {o : Option (am_R × am_M)} (hM : M.2.2.2.2.1 = []) : am_aft rt nx M pc lv rest (mpO A σ o) = mpS A σ (am_aft rt nx M pc lv rest o) := by
  unfold am_aft am_exc
  rw [hM]
  rcases o with _ | ⟨v | E, s⟩
  · rfl
  · show (if am_rok rt v = true then _ else _) = mpS A σ (if am_rok rt v = true then _ else _)
    split <;> rfl
  · show (if nx = true then _ else _) = mpS A σ (if nx = true then _ else _)
    split <;> rfl
theorem ok_aft {rt : Option FieldType} {nx : Bool} {M : am_Mt} {pc : Nat} {rest : List Value} {o : Option (am_R × am_M)} {q : am_P} (hM : M.2.2.2.2.1 = []) (h1 : okL A lv) (h2 : okL A rest) (e : am_aft rt nx M pc lv rest o = some (.inr q)) : okL A q.2.1 ∧ okL A q.2.2.1 := by
  unfold am_aft am_exc at e
  rw [hM] at e
  rcases o with _ | ⟨v | E, s⟩
  · cases e
  · simp only at e
    split at e
    · rename_i hr
      cases e
      refine ⟨h1, ?_⟩
      rcases v with _ | v
      · exact h2
      · refine okL_c.mpr ⟨?_, h2⟩
        cases v <;> first | rfl | cases hr
    · cases e
  · simp only at e
    split at e <;> cases e
abbrev frC (A Q : Nat → Bool) (σ : am_M) (C : am_C) : Prop := ∀ k as Z, Q k = true → okL A as → C k as (hy A σ Z) = mpO A σ (C k as Z)
theorem fr_inv {kd : Bool} {C : am_C} {M : am_Mt} {k pc : Nat} (hC : frC A Q σ C) (hM : M.2.2.2.2.1 = []) (hq : ∀ q, q ∈ am_ct → qc q.1 = true → Q q.2.2.2.1 = true) (hc : qc M.1.cls = true) (h1 : okL A lv) (h2 : okL A st) : am_inv kd C M k pc lv st (hy A σ Z) = mpS A σ (am_inv kd C M k pc lv st Z) ∧ ∀ q, am_inv kd C M k pc lv st Z = some (.inr q) → okL A q.2.1 ∧ okL A q.2.2.1 := by
  unfold am_inv
  cases hq1 : am_cal M.1.cls k with
  | none => exact ⟨rfl, fun q e => by cases e⟩
  | some q =>
    have hQ : Q q.2.2.2.1 = true := by
      have a1 := List.find?_some hq1
      simp only [Bool.and_eq_true, beq_iff_eq] at a1
      exact hq q (List.mem_of_find?_eq_some hq1) (by rw [a1.1]; exact hc)
    cases hN : am_ml[q.2.2.2.1]? with
    | none => simp only [hN]; exact ⟨rfl, fun q e => by cases e⟩
    | some N =>
      simp only [hN]
      have hd : ∀ n, okL A (st.drop n) := fun n v hv => h2 v (List.mem_of_mem_drop hv)
      have ht : ∀ n, okL A ((st.take n).reverse) := fun n v hv => h2 v (List.mem_of_mem_take (List.mem_reverse.mp hv))
      cases kd with
      | false =>
        by_cases hk : ((q.2.2.1 == 0) == false) = true
        · rw [if_pos hk, if_pos hk]
          generalize N.2.2.2.2.2 + (if false = true then 1 else 0) = n
          by_cases hn : (decide (n ≤ st.length) && decide (am_cat (st.drop n) ≤ 8)) = true
          · rw [if_pos hn, if_pos hn]
            show am_aft N.2.2.2.1 (q.2.2.1 == 2) M pc lv (st.drop n) (C q.2.2.2.1 (st.take n).reverse (hy A σ Z)) = mpS A σ (am_aft N.2.2.2.1 (q.2.2.1 == 2) M pc lv (st.drop n) (C q.2.2.2.1 (st.take n).reverse Z)) ∧ ∀ q1, am_aft N.2.2.2.1 (q.2.2.1 == 2) M pc lv (st.drop n) (C q.2.2.2.1 (st.take n).reverse Z) = some (.inr q1) → _
            rw [hC _ _ _ hQ (ht n), fr_aft hM]
            exact ⟨rfl, fun q e => ok_aft hM h1 (hd _) e⟩
          · rw [if_neg hn, if_neg hn]
            exact ⟨rfl, fun q e => by cases e⟩
        · rw [if_neg hk, if_neg hk]
          exact ⟨rfl, fun q e => by cases e⟩
      | true =>
        by_cases hk : ((q.2.2.1 == 0) == true) = true
        · rw [if_pos hk, if_pos hk]
          generalize N.2.2.2.2.2 + (if true = true then 1 else 0) = n
          by_cases hn : (decide (n ≤ st.length) && decide (am_cat (st.drop n) ≤ 8)) = true
          · rw [if_pos hn, if_pos hn]
            have hTo := ht n
            generalize (st.take n).reverse = T at hTo
            cases T with
            | nil => exact ⟨rfl, fun q e => by cases e⟩
            | cons v as =>
              cases v with
              | ref a =>
                by_cases ho : am_isO a N.1.cls = true
                · show (if am_isO a N.1.cls = true then _ else _) = mpS A σ (if am_isO a N.1.cls = true then _ else _) ∧ ∀ q, (if am_isO a N.1.cls = true then _ else _) = _ → _
                  rw [if_pos ho, if_pos ho, hC _ _ _ hQ hTo, fr_aft hM]
                  exact ⟨rfl, fun q e => ok_aft hM h1 (hd _) e⟩
                · show (if am_isO a N.1.cls = true then _ else _) = mpS A σ (if am_isO a N.1.cls = true then _ else _) ∧ ∀ q, (if am_isO a N.1.cls = true then _ else _) = _ → _
                  rw [if_neg ho, if_neg ho]
                  exact ⟨rfl, fun q e => by cases e⟩
              | _ => exact ⟨rfl, fun q e => by cases e⟩
          · rw [if_neg hn, if_neg hn]
            exact ⟨rfl, fun q e => by cases e⟩
        · rw [if_neg hk, if_neg hk]
          exact ⟨rfl, fun q e => by cases e⟩
theorem fr_new {M : am_Mt} {ik is ic : Nat} : am_new M ik is ic st (hy A σ Z) = mpS A σ (am_new M ik is ic st Z) ∧ ∀ q, am_new M ik is ic st Z = some (.inr q) → okL A q.2.1 ∧ okL A q.2.2.1 := by
  unfold am_new
  split
  · split
    · split
      · exact ⟨rfl, fun q e => by cases e⟩
      · exact ⟨rfl, fun q e => by cases e⟩
    · exact ⟨rfl, fun q e => by cases e⟩
  · exact ⟨rfl, fun q e => by cases e⟩
theorem fr_fE {C : am_C} {M : am_Mt} {i : Instr} {len pc : Nat} (hC : frC A Q σ C) (hM : M.2.2.2.2.1 = []) (hq : ∀ q, q ∈ am_ct → qc q.1 = true → Q q.2.2.2.1 = true) (hc : qc M.1.cls = true) (h1 : okL A lv) (h2 : okL A st) : am_fE C M i len pc lv st (hy A σ Z) = mpS A σ (am_fE C M i len pc lv st Z) ∧ ∀ q, am_fE C M i len pc lv st Z = some (.inr q) → okL A q.2.1 ∧ okL A q.2.2.1 := by
  unfold am_fE
  split
  · exact fr_inv hC hM hq hc h1 h2
  · exact fr_inv hC hM hq hc h1 h2
  · split
    · split
      · exact ⟨rfl, fun q e => by cases e⟩
      · exact ⟨rfl, fun q e => by cases e⟩
    · exact ⟨rfl, fun q e => by cases e⟩
  · split
    · split
      · exact ⟨rfl, fun q e => by cases e⟩
      · exact ⟨rfl, fun q e => by cases e⟩
    · exact ⟨rfl, fun q e => by cases e⟩
  · split
    · split
      · exact ⟨rfl, fun q e => by cases e⟩
      · exact ⟨rfl, fun q e => by cases e⟩
    · exact ⟨rfl, fun q e => by cases e⟩
  · split
    · split
      · split
        · split
          · exact fr_new
          · exact ⟨rfl, fun q e => by cases e⟩
        · exact ⟨rfl, fun q e => by cases e⟩
      · split
        · split
          · exact fr_new
          · exact ⟨rfl, fun q e => by cases e⟩
        · exact ⟨rfl, fun q e => by cases e⟩
      · exact ⟨rfl, fun q e => by cases e⟩
    · exact ⟨rfl, fun q e => by cases e⟩
  · exact ⟨rfl, fun q e => by cases e⟩
theorem fr_nxt {X : am_X} {C : am_C} {M : am_Mt} {pc : Nat} (hC : frC A Q σ C) (hM : M.2.2.2.2.1 = []) (hq : ∀ q, q ∈ am_ct → qc q.1 = true → Q q.2.2.2.1 = true) (hc : qc M.1.cls = true) (hs : shO A) (hg : qc "KeyArchive" = true → A 1000 = true) (h1 : okL A lv) (h2 : okL A st) : am_nxt X C M pc lv st (hy A σ Z) = mpS A σ (am_nxt X C M pc lv st Z) ∧ ∀ q, am_nxt X C M pc lv st Z = some (.inr q) → okL A q.2.1 ∧ okL A q.2.2.1 := by
  unfold am_nxt
  cases hD : decode M.2.1 pc with
  | error e => exact ⟨rfl, fun q e => by cases e⟩
  | ok il =>
    obtain ⟨i, len⟩ := il
    simp only
    cases hA : am_fA M.1.cls i len lv st with
    | some r =>
      obtain ⟨lv', st'⟩ := r
      exact ⟨rfl, fun q e => by cases e; exact ok_fA hA h1 h2⟩
    | none =>
      simp only
      cases hB : am_fB i len st with
      | some st' => exact ⟨rfl, fun q e => by cases e; exact ⟨h1, ok_fB hB h2⟩⟩
      | none =>
        simp only
        cases hCC : am_fC i len pc st with
        | some r =>
          obtain ⟨pc', st'⟩ := r
          exact ⟨rfl, fun q e => by cases e; exact ⟨h1, ok_fC hCC h2⟩⟩
        | none =>
          simp only
          rw [fr_fD h2]
          cases hDD : am_fD X M.1.cls i len st Z with
          | some r =>
            obtain ⟨st', Z'⟩ := r
            exact ⟨rfl, fun q e => by cases e; exact ⟨h1, ok_fD hs (fun z => hg (z ▸ hc)) h2 hDD⟩⟩
          | none => exact fr_fE hC hM hq hc h1 h2
theorem fr_run {X : am_X} {C : am_C} {M : am_Mt} (hC : frC A Q σ C) (hM : M.2.2.2.2.1 = []) (hq : ∀ q, q ∈ am_ct → qc q.1 = true → Q q.2.2.2.1 = true) (hc : qc M.1.cls = true) (hs : shO A) (hg : qc "KeyArchive" = true → A 1000 = true) : ∀ (n pc : Nat) (lv st : List Value) (Z : am_M), okL A lv → okL A st → am_run X C M n pc lv st (hy A σ Z) = mpO A σ (am_run X C M n pc lv st Z) := by
  intro n
  induction n with
  | zero => intro pc lv st Z _ _; rfl
  | succ n ih =>
    intro pc lv st Z h1 h2
    obtain ⟨e1, e2⟩ := fr_nxt (X := X) (Z := Z) (pc := pc) hC hM hq hc hs hg h1 h2
    unfold am_run
    rw [e1]
    cases hN : am_nxt X C M pc lv st Z with
    | none => rfl
    | some x =>
      cases x with
      | inl r => rfl
      | inr q => exact ih _ _ _ _ (e2 q hN).1 (e2 q hN).2
theorem mpO_some {o : Option (am_R × am_M)} {r : am_R × am_M} (h : mpO A σ o = some r) : ∃ r', o = some r' := by
  cases o with
  | none => cases h
  | some r' => exact ⟨r', rfl⟩
theorem fr_go {X : am_X} {C : am_C} {M : am_Mt} (hC : frC A Q σ C) (hM : M.2.2.2.2.1 = []) (hq : ∀ q, q ∈ am_ct → qc q.1 = true → Q q.2.2.2.1 = true) (hc : qc M.1.cls = true) (hs : shO A) (hg : qc "KeyArchive" = true → A 1000 = true) {pc : Nat} (h1 : okL A lv) (h2 : okL A st) : am_go X C M pc lv st (hy A σ Z) = mpO A σ (am_go X C M pc lv st Z) := by
  have key := fun n => fr_run (X := X) hC hM hq hc hs hg n pc lv st Z h1 h2
  cases hg1 : am_go X C M pc lv st Z with
  | some r =>
    obtain ⟨n, hn⟩ := am_go_ex hg1
    have := key n
    rw [hn] at this
    exact am_go_of this
  | none =>
    cases hg2 : am_go X C M pc lv st (hy A σ Z) with
    | none => rfl
    | some r =>
      obtain ⟨n, hn⟩ := am_go_ex hg2
      have := key n
      rw [hn] at this
      obtain ⟨r', hr'⟩ := mpO_some this.symm
      rw [am_go_of hr'] at hg1
      cases hg1
theorem ok_in0 {as : List Value} {n : Nat} (h : okL A as) : okL A (am_in0 as n) := by
  intro v hv
  unfold am_in0 at hv
  rcases List.mem_append.mp hv with h1 | h1
  · unfold am_ls at h1
    obtain ⟨w, hw, hv2⟩ := List.mem_flatMap.mp h1
    split at hv2
    · rcases List.mem_cons.mp hv2 with e | e
      · rw [e]; exact h w hw
      · rcases List.mem_cons.mp e with e | e
        · rw [e]; rfl
        · cases e
    · rcases List.mem_cons.mp hv2 with e | e
      · rw [e]; exact h w hw
      · cases e
  · rw [(List.mem_replicate.mp h1).2]; rfl
theorem fr_ex (hm : ∀ k M, Q k = true → am_ml[k]? = some M → qc M.1.cls = true ∧ M.2.2.2.2.1 = []) (hq : ∀ q, q ∈ am_ct → qc q.1 = true → Q q.2.2.2.1 = true) (hs : shO A) (hg : qc "KeyArchive" = true → A 1000 = true) : ∀ d, frC A Q σ (am_ex d) := by
  intro d
  induction d with
  | zero => intro k as Z _ _; rfl
  | succ d ih =>
    intro k as Z hQ ha
    unfold am_ex
    cases hM : am_ml[k]? with
    | none => rfl
    | some M =>
      obtain ⟨h1, h2⟩ := hm k M hQ hM
      simp only
      split
      · exact fr_go ih h2 hq h1 hs hg (ok_in0 ha) (fun v hv => by cases hv)
      · rfl
/-! the reference's side -/
def aM (a : Nat) : Bool := Nat.ble 34 a && Nat.blt a 57
def qM (k : Nat) : Bool := Nat.ble 172 k && Nat.blt k 275
def cM (c : String) : Bool := c == RX10
set_option maxRecDepth 100000 in
theorem aM_ml : am_ml.zipIdx.all (fun q => !qM q.2 || (cM q.1.1.cls && q.1.2.2.2.2.1.isEmpty)) = true := by decide +kernel
set_option maxRecDepth 100000 in
theorem aM_ct : am_ct.all (fun q => !cM q.1 || qM q.2.2.2.1) = true := by decide +kernel
def shR (A : Nat → Bool) (e : am_E × Nat) : Bool := !A e.2 || (match e.1 with
  | .inr (_, fs) => fs.all (fun f => match f with
    | some b => A b
    | none => true)
  | .inl _ => true)
theorem aM_sh : am_sh.zipIdx.all (shR aM) = true := by decide +kernel
theorem sh_of {A : Nat → Bool} (h : am_sh.zipIdx.all (shR A) = true) : shO A := by
  intro a ci fs i b ha e1 e2
  have h1 := List.all_eq_true.mp h (.inr (ci, fs), a) (by rw [List.mem_zipIdx_iff_getElem?]; exact e1)
  unfold shR at h1
  simp only [ha, Bool.not_true, Bool.false_or] at h1
  exact List.all_eq_true.mp h1 (some b) (List.mem_of_getElem? e2)
theorem frM (d : Nat) {k : Nat} {as : List Value} (hk : qM k = true) (ha : okL aM as) (σ Z : am_M) : am_ex d k as (hy aM σ Z) = mpO aM σ (am_ex d k as Z) := by
  refine fr_ex (Q := qM) (qc := cM) ?_ ?_ (sh_of aM_sh) (fun z => by revert z; decide +kernel) d k as Z hk ha
  · intro k M hQ hM
    have h1 := List.all_eq_true.mp aM_ml (M, k) (by rw [List.mem_zipIdx_iff_getElem?]; exact hM)
    simp only [hQ, Bool.not_true, Bool.false_or, Bool.and_eq_true, List.isEmpty_iff] at h1
    exact h1
  · intro q hq hc
    have h1 := List.all_eq_true.mp aM_ct q hq
    simp only [hc, Bool.not_true, Bool.false_or] at h1
    exact h1
end FRM
