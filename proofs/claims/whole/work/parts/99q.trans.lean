/-! what the machine answers, the machine over the first cells answers too, if the run keeps to them -/
section TRF
variable {A Q : Nat → Bool} {qc : String → Bool} {nS : Nat} {lv st : List Value} {σ : am_M}
abbrev inS (A : Nat → Bool) (nS : Nat) : Prop := ∀ a, A a = true → a < nS ∨ a = 1000
theorem tk_eq (hA : inS A nS) {a : Nat} (h : A a = true) : (am_sh.take nS)[a]? = am_sh[a]? := by
  rw [List.getElem?_take]
  rcases hA a h with e | e
  · rw [if_pos e]
  · have h0 : am_sh[1000]? = none := by decide
    subst e
    rw [h0, ite_self]
theorem tr_rd (hA : inS A nS) {X : am_X} {z a : Nat} {j : Int32} (h : A a = true) : bm_rd nS X z σ a j = am_rd X z σ a j := by
  unfold bm_rd am_rd
  rw [tk_eq hA h]
  rfl
theorem tr_rdJ (hA : inS A nS) {a : Nat} {j : Int32} (h : A a = true) : bm_rdJ nS σ a j = am_rdJ σ a j := by
  unfold bm_rdJ am_rdJ
  rw [tk_eq hA h]
  rfl
theorem tr_len (hA : inS A nS) {X : am_X} {a : Nat} (h : A a = true) : bm_len nS X a = am_len X a := by
  unfold bm_len am_len
  rw [tk_eq hA h]
  rfl
theorem tr_gf (hA : inS A nS) {c : String} {k a : Nat} (h : A a = true) : bm_gf nS c k σ a = am_gf c k σ a := by
  unfold bm_gf am_gf
  rw [tk_eq hA h]
  rfl
theorem tr_pf (hA : inS A nS) {c : String} {k a : Nat} {x : Int32} (h : A a = true) : bm_pf nS c k σ a x = am_pf c k σ a x := by
  unfold bm_pf am_pf
  rw [tk_eq hA h]
  rfl
theorem tr_wr (hA : inS A nS) {z a : Nat} {j x : Int32} (h : A a = true) : bm_wr nS z σ a j x = am_wr z σ a j x := by
  unfold bm_wr am_wr
  rw [tk_eq hA h]
  rfl
theorem tr_wrJ (hA : inS A nS) {a : Nat} {j : Int32} {x : Int64} (h : A a = true) : bm_wrJ nS σ a j x = am_wrJ σ a j x := by
  unfold bm_wrJ am_wrJ
  rw [tk_eq hA h]
  rfl
theorem tr_isO (hA : inS A nS) {a : Nat} {c : String} (h : A a = true) : bm_isO nS a c = am_isO a c := by
  unfold bm_isO am_isO
  rw [tk_eq hA h]
  rfl
theorem tr_iGet (hA : inS A nS) {X : am_X} {c : String} {k : Nat} (h2 : okL A st) : bm_fD nS X c (.getfield k) 3 st σ = am_fD X c (.getfield k) 3 st σ := by
  rcases st with _ | ⟨v, st⟩
  · rfl
  · cases v with
    | ref a =>
      show (match bm_gf nS c k σ a with
        | some v => some (v :: st, σ)
        | none => none) = (match am_gf c k σ a with
        | some v => some (v :: st, σ)
        | none => none)
      rw [tr_gf hA (okL_c.mp h2).1]
    | _ => rfl
theorem tr_iPut (hA : inS A nS) {X : am_X} {c : String} {k : Nat} (h2 : okL A st) : bm_fD nS X c (.putfield k) 3 st σ = am_fD X c (.putfield k) 3 st σ := by
  rcases st with _ | ⟨v, st⟩
  · rfl
  · cases v with
    | int x =>
      rcases st with _ | ⟨w, st⟩
      · rfl
      · cases w with
        | ref a =>
          show am_oM st (bm_pf nS c k σ a x) = am_oM st (am_pf c k σ a x)
          rw [tr_pf hA (okL_c.mp (okL_c.mp h2).2).1]
        | _ => rfl
    | _ => rfl
theorem tr_iIa (hA : inS A nS) {X : am_X} {c : String} (h2 : okL A st) : bm_fD nS X c .iaload 1 st σ = am_fD X c .iaload 1 st σ := by
  rcases st with _ | ⟨v, st⟩
  · rfl
  · cases v with
    | int x =>
      rcases st with _ | ⟨w, st⟩
      · rfl
      · cases w with
        | ref a =>
          show am_oI st σ (bm_rd nS X 0 σ a x) = am_oI st σ (am_rd X 0 σ a x)
          rw [tr_rd hA (okL_c.mp (okL_c.mp h2).2).1]
        | _ => rfl
    | _ => rfl
theorem tr_iBa (hA : inS A nS) {X : am_X} {c : String} (h2 : okL A st) : bm_fD nS X c .baload 1 st σ = am_fD X c .baload 1 st σ := by
  rcases st with _ | ⟨v, st⟩
  · rfl
  · cases v with
    | int x =>
      rcases st with _ | ⟨w, st⟩
      · rfl
      · cases w with
        | ref a =>
          show am_oI st σ (bm_rd nS X 1 σ a x) = am_oI st σ (am_rd X 1 σ a x)
          rw [tr_rd hA (okL_c.mp (okL_c.mp h2).2).1]
        | _ => rfl
    | _ => rfl
theorem tr_iLa (hA : inS A nS) {X : am_X} {c : String} (h2 : okL A st) : bm_fD nS X c .laload 1 st σ = am_fD X c .laload 1 st σ := by
  rcases st with _ | ⟨v, st⟩
  · rfl
  · cases v with
    | int x =>
      rcases st with _ | ⟨w, st⟩
      · rfl
      · cases w with
        | ref a =>
          show (match bm_rdJ nS σ a x with
            | some v => some (Value.long v :: st, σ)
            | none => none) = (match am_rdJ σ a x with
            | some v => some (Value.long v :: st, σ)
            | none => none)
          rw [tr_rdJ hA (okL_c.mp (okL_c.mp h2).2).1]
        | _ => rfl
    | _ => rfl
theorem tr_iIs (hA : inS A nS) {X : am_X} {c : String} (h2 : okL A st) : bm_fD nS X c .iastore 1 st σ = am_fD X c .iastore 1 st σ := by
  rcases st with _ | ⟨v, st⟩
  · rfl
  · cases v with
    | int x =>
      rcases st with _ | ⟨w, st⟩
      · rfl
      · cases w with
        | int y =>
          rcases st with _ | ⟨u, st⟩
          · rfl
          · cases u with
            | ref a =>
              show am_oM st (bm_wr nS 0 σ a y x) = am_oM st (am_wr 0 σ a y x)
              rw [tr_wr hA (okL_c.mp (okL_c.mp (okL_c.mp h2).2).2).1]
            | _ => rfl
        | _ => rfl
    | _ => rfl
theorem tr_iBs (hA : inS A nS) {X : am_X} {c : String} (h2 : okL A st) : bm_fD nS X c .bastore 1 st σ = am_fD X c .bastore 1 st σ := by
  rcases st with _ | ⟨v, st⟩
  · rfl
  · cases v with
    | int x =>
      rcases st with _ | ⟨w, st⟩
      · rfl
      · cases w with
        | int y =>
          rcases st with _ | ⟨u, st⟩
          · rfl
          · cases u with
            | ref a =>
              show am_oM st (bm_wr nS 1 σ a y (vp_nar .boolean x)) = am_oM st (am_wr 1 σ a y (vp_nar .boolean x))
              rw [tr_wr hA (okL_c.mp (okL_c.mp (okL_c.mp h2).2).2).1]
            | _ => rfl
        | _ => rfl
    | _ => rfl
theorem tr_iLs (hA : inS A nS) {X : am_X} {c : String} (h2 : okL A st) : bm_fD nS X c .lastore 1 st σ = am_fD X c .lastore 1 st σ := by
  rcases st with _ | ⟨v, st⟩
  · rfl
  · cases v with
    | long x =>
      rcases st with _ | ⟨w, st⟩
      · rfl
      · cases w with
        | int y =>
          rcases st with _ | ⟨u, st⟩
          · rfl
          · cases u with
            | ref a =>
              show am_oM st (bm_wrJ nS σ a y x) = am_oM st (am_wrJ σ a y x)
              rw [tr_wrJ hA (okL_c.mp (okL_c.mp (okL_c.mp h2).2).2).1]
            | _ => rfl
        | _ => rfl
    | _ => rfl
theorem tr_iLen (hA : inS A nS) {X : am_X} {c : String} (h2 : okL A st) : bm_fD nS X c .arraylength 1 st σ = am_fD X c .arraylength 1 st σ := by
  rcases st with _ | ⟨v, st⟩
  · rfl
  · cases v with
    | ref a =>
      show am_oI st σ (bm_len nS X a) = am_oI st σ (am_len X a)
      rw [tr_len hA (okL_c.mp h2).1]
    | _ => rfl
theorem tr_fD (hA : inS A nS) {X : am_X} {c : String} {i : Instr} {len : Nat} (h2 : okL A st) : bm_fD nS X c i len st σ = am_fD X c i len st σ := by
  cases i with
  | getfield k =>
    rcases len with _ | _ | _ | _ | len
    · rfl
    · rfl
    · rfl
    · exact tr_iGet hA h2
    · rfl
  | putfield k =>
    rcases len with _ | _ | _ | _ | len
    · rfl
    · rfl
    · rfl
    · exact tr_iPut hA h2
    · rfl
  | iaload =>
    rcases len with _ | _ | _ | _ | len
    · rfl
    · exact tr_iIa hA h2
    · rfl
    · rfl
    · rfl
  | baload =>
    rcases len with _ | _ | _ | _ | len
    · rfl
    · exact tr_iBa hA h2
    · rfl
    · rfl
    · rfl
  | laload =>
    rcases len with _ | _ | _ | _ | len
    · rfl
    · exact tr_iLa hA h2
    · rfl
    · rfl
    · rfl
  | iastore =>
    rcases len with _ | _ | _ | _ | len
    · rfl
    · exact tr_iIs hA h2
    · rfl
    · rfl
    · rfl
  | bastore =>
    rcases len with _ | _ | _ | _ | len
    · rfl
    · exact tr_iBs hA h2
    · rfl
    · rfl
    · rfl
  | lastore =>
    rcases len with _ | _ | _ | _ | len
    · rfl
    · exact tr_iLs hA h2
    · rfl
    · rfl
    · rfl
  | arraylength =>
    rcases len with _ | _ | _ | _ | len
    · rfl
    · exact tr_iLen hA h2
    · rfl
    · rfl
    · rfl
  | getstatic k =>
    rcases len with _ | _ | _ | _ | len
    · rfl
    · rfl
    · rfl
    · rfl
    · rfl
  | invokestatic k =>
    rcases len with _ | _ | _ | _ | len
    · rfl
    · rfl
    · rfl
    · rfl
    · rfl
  | _ => rfl
abbrev moT (A Q : Nat → Bool) (C C' : am_C) : Prop := ∀ k as σ r, Q k = true → okL A as → C k as σ = some r → C' k as σ = some r
theorem tr_aft {C C' : am_C} (hC : moT A Q C C') {rt : Option FieldType} {nx : Bool} {M : am_Mt} {pc k : Nat} {rest as : List Value} {x : (am_R × am_M) ⊕ am_P} (hQ : Q k = true) (ha : okL A as) (h : am_aft rt nx M pc lv rest (C k as σ) = some x) : am_aft rt nx M pc lv rest (C' k as σ) = some x := by
  cases e : C k as σ with
  | none => rw [e] at h; cases h
  | some r => rw [hC k as σ r hQ ha e]; rw [e] at h; exact h
theorem tr_inv (hA : inS A nS) {kd : Bool} {C C' : am_C} {M : am_Mt} {k pc : Nat} {x : (am_R × am_M) ⊕ am_P} (hC : moT A Q C C') (hq : ∀ q, q ∈ am_ct → qc q.1 = true → Q q.2.2.2.1 = true) (hc : qc M.1.cls = true) (h2 : okL A st) : am_inv kd C M k pc lv st σ = some x → bm_inv nS kd C' M k pc lv st σ = some x := by
  unfold am_inv bm_inv
  cases hq1 : am_cal M.1.cls k with
  | none => exact id
  | some q =>
    have hQ : Q q.2.2.2.1 = true := by
      have a1 := List.find?_some hq1
      simp only [Bool.and_eq_true, beq_iff_eq] at a1
      exact hq q (List.mem_of_find?_eq_some hq1) (by rw [a1.1]; exact hc)
    cases hN : am_ml[q.2.2.2.1]? with
    | none => simp only [hN]; exact id
    | some N =>
      simp only [hN]
      have ht : ∀ n, okL A ((st.take n).reverse) := fun n v hv => h2 v (List.mem_of_mem_take (List.mem_reverse.mp hv))
      cases kd with
      | false =>
        by_cases hk : ((q.2.2.1 == 0) == false) = true
        · rw [if_pos hk, if_pos hk]
          generalize N.2.2.2.2.2 + (if false = true then 1 else 0) = n
          by_cases hn : (decide (n ≤ st.length) && decide (am_cat (st.drop n) ≤ 8)) = true
          · rw [if_pos hn, if_pos hn]
            exact fun h => tr_aft hC hQ (ht n) h
          · rw [if_neg hn, if_neg hn]
            exact id
        · rw [if_neg hk, if_neg hk]
          exact id
      | true =>
        by_cases hk : ((q.2.2.1 == 0) == true) = true
        · rw [if_pos hk, if_pos hk]
          generalize N.2.2.2.2.2 + (if true = true then 1 else 0) = n
          by_cases hn : (decide (n ≤ st.length) && decide (am_cat (st.drop n) ≤ 8)) = true
          · rw [if_pos hn, if_pos hn]
            have hTo := ht n
            generalize (st.take n).reverse = T at hTo
            cases T with
            | nil => exact id
            | cons v as =>
              cases v with
              | ref a =>
                have hi : bm_isO nS a N.1.cls = am_isO a N.1.cls := tr_isO hA (okL_c.mp hTo).1
                by_cases ho : am_isO a N.1.cls = true
                · show (if am_isO a N.1.cls = true then _ else _) = _ → (if bm_isO nS a N.1.cls = true then _ else _) = _
                  rw [hi, if_pos ho, if_pos ho]
                  exact fun h => tr_aft hC hQ hTo h
                · show (if am_isO a N.1.cls = true then _ else _) = _ → (if bm_isO nS a N.1.cls = true then _ else _) = _
                  rw [hi, if_neg ho, if_neg ho]
                  exact id
              | _ => exact id
          · rw [if_neg hn, if_neg hn]
            exact id
        · rw [if_neg hk, if_neg hk]
          exact id
theorem tr_fE (hA : inS A nS) {C C' : am_C} {M : am_Mt} {i : Instr} {len pc : Nat} {x : (am_R × am_M) ⊕ am_P} (hC : moT A Q C C') (hq : ∀ q, q ∈ am_ct → qc q.1 = true → Q q.2.2.2.1 = true) (hc : qc M.1.cls = true) (h2 : okL A st) (h : am_fE C M i len pc lv st σ = some x) : bm_fE nS C' M i len pc lv st σ = some x := by
  unfold am_fE at h
  split at h
  · exact tr_inv hA hC hq hc h2 h
  · exact tr_inv hA hC hq hc h2 h
  · exact h
  · exact h
  · exact h
  · exact h
  · cases h
theorem tr_nxt (hA : inS A nS) {X : am_X} {C C' : am_C} {M : am_Mt} {pc : Nat} {x : (am_R × am_M) ⊕ am_P} (hC : moT A Q C C') (hq : ∀ q, q ∈ am_ct → qc q.1 = true → Q q.2.2.2.1 = true) (hc : qc M.1.cls = true) (h2 : okL A st) : am_nxt X C M pc lv st σ = some x → bm_nxt nS X C' M pc lv st σ = some x := by
  unfold am_nxt bm_nxt
  cases hD : decode M.2.1 pc with
  | error e => exact id
  | ok il =>
    obtain ⟨i, len⟩ := il
    simp only
    cases hA1 : am_fA M.1.cls i len lv st with
    | some r => exact id
    | none =>
      simp only
      cases hB : am_fB i len st with
      | some st' => exact id
      | none =>
        simp only
        cases hCC : am_fC i len pc st with
        | some r => exact id
        | none =>
          simp only
          rw [tr_fD hA h2]
          cases hDD : am_fD X M.1.cls i len st σ with
          | some r => exact id
          | none => exact tr_fE hA hC hq hc h2
theorem tr_run (hA : inS A nS) {X : am_X} {C C' : am_C} {M : am_Mt} (hF : ∀ σ, frC A Q σ C) (hC : moT A Q C C') (hM : M.2.2.2.2.1 = []) (hq : ∀ q, q ∈ am_ct → qc q.1 = true → Q q.2.2.2.1 = true) (hc : qc M.1.cls = true) (hs : shO A) (hg : qc "KeyArchive" = true → A 1000 = true) : ∀ (n pc : Nat) (lv st : List Value) (σ : am_M) (r : am_R × am_M), okL A lv → okL A st → am_run X C M n pc lv st σ = some r → bm_run nS X C' M n pc lv st σ = some r := by
  intro n
  induction n with
  | zero => intro pc lv st σ r _ _ h; cases h
  | succ n ih =>
    intro pc lv st σ r h1 h2 h
    have e2 := (fr_nxt (X := X) (Z := σ) (pc := pc) (hF σ) hM hq hc hs hg h1 h2).2
    unfold am_run at h
    unfold bm_run
    cases hN : am_nxt X C M pc lv st σ with
    | none => rw [hN] at h; cases h
    | some x =>
      rw [tr_nxt hA hC hq hc h2 hN]
      rw [hN] at h
      cases x with
      | inl r' => exact h
      | inr q => exact ih _ _ _ _ _ (e2 q hN).1 (e2 q hN).2 h
theorem tr_ex (hA : inS A nS) (hm : ∀ k M, Q k = true → am_ml[k]? = some M → qc M.1.cls = true ∧ M.2.2.2.2.1 = []) (hq : ∀ q, q ∈ am_ct → qc q.1 = true → Q q.2.2.2.1 = true) (hs : shO A) (hg : qc "KeyArchive" = true → A 1000 = true) : ∀ d, moT A Q (am_ex d) (bm_ex nS d) := by
  intro d
  induction d with
  | zero => intro k as σ r _ _ h; cases h
  | succ d ih =>
    intro k as σ r hQ ha h
    unfold am_ex at h
    unfold bm_ex
    cases hM : am_ml[k]? with
    | none => simp only [hM] at h; cases h
    | some M =>
      obtain ⟨h1, h2⟩ := hm k M hQ hM
      simp only [hM] at h ⊢
      by_cases e : (am_ls as).length ≤ M.2.2.1
      · rw [if_pos e] at h ⊢
        obtain ⟨n, hn⟩ := am_go_ex h
        exact bm_go_of (tr_run hA (fun σ => fr_ex hm hq hs hg d) ih h2 hq h1 hs hg n 0 _ _ _ _ (ok_in0 ha) (fun v hv => by cases hv) hn)
      · rw [if_neg e] at h; cases h
/-! the class's side, the reference's side -/
def aC (a : Nat) : Bool := Nat.blt a 34 || a == 1000
def qC (k : Nat) : Bool := Nat.blt k 172 || (k == 275 || k == 276)
def cC (c : String) : Bool := !(c == RX10 || c == RL)
set_option maxRecDepth 100000 in
theorem aC_ml : am_ml.zipIdx.all (fun q => !qC q.2 || (cC q.1.1.cls && q.1.2.2.2.2.1.isEmpty)) = true := by decide +kernel
set_option maxRecDepth 100000 in
theorem aC_ct : am_ct.all (fun q => !cC q.1 || qC q.2.2.2.1) = true := by decide +kernel
theorem aC_sh : am_sh.zipIdx.all (shR aC) = true := by decide +kernel
theorem tr_C (d : Nat) {k : Nat} {as : List Value} {σ : am_M} {r : am_R × am_M} (hk : qC k = true) (ha : okL aC as) (h : am_ex d k as σ = some r) : bm_ex 34 d k as σ = some r := by
  refine tr_ex (A := aC) (Q := qC) (qc := cC) ?_ ?_ ?_ (sh_of aC_sh) (fun _ => rfl) d k as σ r hk ha h
  · intro a h
    unfold aC at h
    simp only [Bool.or_eq_true, beq_iff_eq, Nat.blt_eq] at h
    exact h
  · intro k M hQ hM
    have h1 := List.all_eq_true.mp aC_ml (M, k) (by rw [List.mem_zipIdx_iff_getElem?]; exact hM)
    simp only [hQ, Bool.not_true, Bool.false_or, Bool.and_eq_true, List.isEmpty_iff] at h1
    exact h1
  · intro q hq hc
    have h1 := List.all_eq_true.mp aC_ct q hq
    simp only [hc, Bool.not_true, Bool.false_or] at h1
    exact h1
theorem tr_M (d : Nat) {k : Nat} {as : List Value} {σ : am_M} {r : am_R × am_M} (hk : qM k = true) (ha : okL aM as) (h : am_ex d k as σ = some r) : bm_ex 57 d k as σ = some r := by
  refine tr_ex (A := aM) (Q := qM) (qc := cM) ?_ ?_ ?_ (sh_of aM_sh) (fun z => by revert z; decide +kernel) d k as σ r hk ha h
  · intro a h
    unfold aM at h
    simp only [Bool.and_eq_true, Nat.blt_eq] at h
    exact Or.inl h.2
  · intro k M hQ hM
    have h1 := List.all_eq_true.mp aM_ml (M, k) (by rw [List.mem_zipIdx_iff_getElem?]; exact hM)
    simp only [hQ, Bool.not_true, Bool.false_or, Bool.and_eq_true, List.isEmpty_iff] at h1
    exact h1
  · intro q hq hc
    have h1 := List.all_eq_true.mp aM_ct q hq
    simp only [hc, Bool.not_true, Bool.false_or] at h1
    exact h1
end TRF
