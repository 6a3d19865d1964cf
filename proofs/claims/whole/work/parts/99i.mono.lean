/-! deeper calls answer alike -/
section MNO
variable {X : am_X} {C C' : am_C} {M : am_Mt} {lv st : List Value} {σ : am_M}
abbrev moC (C C' : am_C) : Prop := ∀ k as σ r, C k as σ = some r → C' k as σ = some r
theorem mo_aft (hC : moC C C') {rt : Option FieldType} {nx : Bool} {pc k : Nat} {rest as : List Value} {x : (am_R × am_M) ⊕ am_P} (h : am_aft rt nx M pc lv rest (C k as σ) = some x) : am_aft rt nx M pc lv rest (C' k as σ) = some x := by
  cases e : C k as σ with
  | none => rw [e] at h; cases h
  | some r => rw [hC k as σ r e]; rw [e] at h; exact h
theorem mo_inv (hC : moC C C') {kd : Bool} {k pc : Nat} {x : (am_R × am_M) ⊕ am_P} : am_inv kd C M k pc lv st σ = some x → am_inv kd C' M k pc lv st σ = some x := by
  unfold am_inv
  cases hq1 : am_cal M.1.cls k with
  | none => exact id
  | some q =>
    cases hN : am_ml[q.2.2.2.1]? with
    | none => simp only [hN]; exact id
    | some N =>
      simp only [hN]
      cases kd with
      | false =>
        by_cases hk : ((q.2.2.1 == 0) == false) = true
        · rw [if_pos hk, if_pos hk]
          generalize N.2.2.2.2.2 + (if false = true then 1 else 0) = n
          by_cases hn : (decide (n ≤ st.length) && decide (am_cat (st.drop n) ≤ 8)) = true
          · rw [if_pos hn, if_pos hn]
            exact fun h => mo_aft hC h
          · rw [if_neg hn, if_neg hn]
            exact id
        · rw [if_neg hk, if_neg hk]
          exact id
      | true =>
        by_cases hk : ((q.2.2.1 == 0) == true) = true
        · rw [if_pos hk, if_pos hk]
          generalize N.2.2.2.2.2 + (if true = true then 1 else 0) = n
          by_cases hn : (decide (n ≤ st.length) && decide (am_cat (st.drop n) ≤ 8)) = true
          · rw [if_pos hn, if_pos hn]
            generalize (st.take n).reverse = T
            cases T with
            | nil => exact id
            | cons v as =>
              cases v with
              | ref a =>
                by_cases ho : am_isO a N.1.cls = true
                · show (if am_isO a N.1.cls = true then _ else _) = _ → (if am_isO a N.1.cls = true then _ else _) = _
                  rw [if_pos ho, if_pos ho]
                  exact fun h => mo_aft hC h
                · show (if am_isO a N.1.cls = true then _ else _) = _ → (if am_isO a N.1.cls = true then _ else _) = _
                  rw [if_neg ho, if_neg ho]
                  exact id
              | _ => exact id
          · rw [if_neg hn, if_neg hn]
            exact id
        · rw [if_neg hk, if_neg hk]
          exact id
theorem mo_fE (hC : moC C C') {i : Instr} {len pc : Nat} {x : (am_R × am_M) ⊕ am_P} : am_fE C M i len pc lv st σ = some x → am_fE C' M i len pc lv st σ = some x := by
  unfold am_fE
  split
  · exact mo_inv hC
  · exact mo_inv hC
  · exact id
  · exact id
  · exact id
  · exact id
  · exact id
theorem mo_nxt (hC : moC C C') {pc : Nat} {x : (am_R × am_M) ⊕ am_P} : am_nxt X C M pc lv st σ = some x → am_nxt X C' M pc lv st σ = some x := by
  unfold am_nxt
  cases hD : decode M.2.1 pc with
  | error e => exact id
  | ok il =>
    obtain ⟨i, len⟩ := il
    simp only
    cases hA : am_fA M.1.cls i len lv st with
    | some r => exact id
    | none =>
      simp only
      cases hB : am_fB i len st with
      | some st' => exact id
      | none =>
        simp only
        cases hCC : am_fC i len pc st with
        | some r => exact id
        | none =>
          simp only
          cases hDD : am_fD X M.1.cls i len st σ with
          | some r => exact id
          | none => exact mo_fE hC
theorem mo_run (hC : moC C C') : ∀ (n pc : Nat) (lv st : List Value) (σ : am_M) (r : am_R × am_M), am_run X C M n pc lv st σ = some r → am_run X C' M n pc lv st σ = some r := by
  intro n
  induction n with
  | zero => intro pc lv st σ r h; exact h
  | succ n ih =>
    intro pc lv st σ r h
    unfold am_run at h ⊢
    cases hN : am_nxt X C M pc lv st σ with
    | none => rw [hN] at h; cases h
    | some x =>
      rw [mo_nxt hC hN]
      rw [hN] at h
      cases x with
      | inl r' => exact h
      | inr q => exact ih _ _ _ _ _ h
theorem mo_go (hC : moC C C') {pc : Nat} {r : am_R × am_M} (h : am_go X C M pc lv st σ = some r) : am_go X C' M pc lv st σ = some r := by
  obtain ⟨n, hn⟩ := am_go_ex h
  exact am_go_of (mo_run hC n pc lv st σ r hn)
theorem am_ex_mono : ∀ d, moC (am_ex d) (am_ex (d + 1)) := by
  intro d
  induction d with
  | zero => intro k as σ r h; cases h
  | succ d ih =>
    intro k as σ r h
    rw [am_ex] at h ⊢
    cases hM : am_ml[k]? with
    | none => simp only [hM] at h; cases h
    | some M =>
      simp only [hM] at h ⊢
      by_cases e : (am_ls as).length ≤ M.2.2.1
      · rw [if_pos e] at h ⊢; exact mo_go ih h
      · rw [if_neg e] at h; cases h
/-- the invariant, and at most one exception more -/
abbrev IvK (c : Nat) (σ Y : am_M) : Prop := IvE c Y ∧ Y.2.2 ≤ σ.2.2 + 1
/-- what a case of the law shows: the wrapper's code, the reference's answer -/
abbrev Fw (D k m : Nat) (as bs : List Value) (c : Nat) (σ : am_M) : Prop := ∃ X code b Y, am_ex D k as σ = rI (nI code) X ∧ am_ex D m bs X = rI b Y ∧ Y.1 34 25 = nI code ∧ code < 4 ∧ (code = 0 → Y.2.1 57 0 = b.toInt64) ∧ IvK c σ Y
theorem Zr_w (X : am_M) (w : Int64) : Zr X (am_wJ X 57 0 w) := ⟨⟨fun _ _ _ => rfl, fun _ _ _ => rfl, fun a ha => by
  show (am_setJ X 57 _).2.1 a = _
  exact sJ_ne _ _ (by omega)⟩, rfl⟩
theorem keep57 {D m : Nat} {bs : List Value} {Z Y : am_M} {r : am_R} (hk : qM m = true) (hb : okL aM bs) (e : am_ex D m bs Z = some (r, Y)) : Y.2.1 57 = Z.2.1 57 := by
  obtain ⟨Y', e1, _, e3⟩ := frM_run (Z := Z) (B := Z) hk hb (hy_self aM Z) e
  rw [e] at e1
  cases e1
  rw [← e3]
  exact hyJ' (by decide)
theorem Fc.w {D k m k' : Nat} {as as' bs : List Value} {cod : String → Nat} {c : Nat} {σ : am_M} (hF : Fc D k m as bs cod c σ) (hk : qM m = true) (hb : okL aM bs) (hcd : ∀ E, cod E < 4) (ho : ∀ v X, am_ex D k as σ = rI v X → am_ex (D + 1) k' as' σ = rI (nI 0) (am_wJ X 57 0 v.toInt64)) (hx : ∀ E X, cod E ≠ 0 → am_ex D k as σ = rX E X → am_ex (D + 1) k' as' σ = rI (nI (cod E)) X) : Fw (D + 1) k' m as' bs c σ := by
  rcases hF with ⟨v, X, e1, e2, e3⟩ | ⟨E, X, e0, e1, e2, e3⟩
  · obtain ⟨Y, f1, f2, f3, f4⟩ := e3 _ (Zr_w X v.toInt64)
    have h57 := keep57 hk hb f1
    refine ⟨_, 0, v, Y, ho v X e1, am_ex_mono D m bs _ _ f1, f3, by omega, fun _ => ?_, f4, by have q : (am_wJ X 57 0 v.toInt64).2.2 = X.2.2 := rfl; omega⟩
    rw [h57]
    show (am_setJ X 57 _).2.1 57 0 = _
    rw [sJ_eq]
    exact if_pos rfl
  · obtain ⟨b, Y, f1, f2, f3, f4⟩ := e3 X ⟨Sm.refl X, rfl⟩
    exact ⟨X, cod E, b, Y, hx E X e0 e1, am_ex_mono D m bs _ _ f1, f3, hcd E, fun z => absurd z e0, f4, by omega⟩
end MNO
