/-! the law's plain cases -/
section CA2
theorem cI1_lt (E : String) : cI1 E < 4 := by unfold cI1; repeat (first | omega | split)
theorem cI1_x {E : String} (h : cI1 E ≠ 0) : (E = xIA ∧ cI1 E = 1) := by
  by_cases e0 : E = xIA
  · exact ⟨e0, by rw [e0]; decide +kernel⟩
  exact absurd (by unfold cI1; rw [if_neg e0]) h
theorem cS1_lt (E : String) : cS1 E < 4 := by unfold cS1; repeat (first | omega | split)
theorem cS1_x {E : String} (h : cS1 E ≠ 0) : (E = xIS ∧ cS1 E = 1) := by
  by_cases e0 : E = xIS
  · exact ⟨e0, by rw [e0]; decide +kernel⟩
  exact absurd (by unfold cS1; rw [if_neg e0]) h
theorem cdS_lt (E : String) : cdS E < 4 := by unfold cdS; repeat (first | omega | split)
theorem cdS_x {E : String} (h : cdS E ≠ 0) : (E = xIO ∧ cdS E = 1) ∨ (E = xIS ∧ cdS E = 2) := by
  by_cases e0 : E = xIO
  · exact Or.inl ⟨e0, by rw [e0]; decide +kernel⟩
  by_cases e1 : E = xIS
  · exact Or.inr (⟨e1, by rw [e1]; decide +kernel⟩)
  exact absurd (by unfold cdS; rw [if_neg e0, if_neg e1]) h
theorem cdN_lt (E : String) : cdN E < 4 := by unfold cdN; repeat (first | omega | split)
theorem cdN_x {E : String} (h : cdN E ≠ 0) : (E = xIO ∧ cdN E = 1) ∨ (E = xNS ∧ cdN E = 2) := by
  by_cases e0 : E = xIO
  · exact Or.inl ⟨e0, by rw [e0]; decide +kernel⟩
  by_cases e1 : E = xNS
  · exact Or.inr (⟨e1, by rw [e1]; decide +kernel⟩)
  exact absurd (by unfold cdN; rw [if_neg e0, if_neg e1]) h
theorem cdA_lt (E : String) : cdA E < 4 := by unfold cdA; repeat (first | omega | split)
theorem cdA_x {E : String} (h : cdA E ≠ 0) : (E = xIO ∧ cdA E = 1) ∨ (E = xIA ∧ cdA E = 2) := by
  by_cases e0 : E = xIO
  · exact Or.inl ⟨e0, by rw [e0]; decide +kernel⟩
  by_cases e1 : E = xIA
  · exact Or.inr (⟨e1, by rw [e1]; decide +kernel⟩)
  exact absurd (by unfold cdA; rw [if_neg e0, if_neg e1]) h
theorem cdP_lt (E : String) : cdP E < 4 := by unfold cdP; repeat (first | omega | split)
theorem cdP_x {E : String} (h : cdP E ≠ 0) : (E = xIA ∧ cdP E = 1) ∨ (E = xIS ∧ cdP E = 2) := by
  by_cases e0 : E = xIA
  · exact Or.inl ⟨e0, by rw [e0]; decide +kernel⟩
  by_cases e1 : E = xIS
  · exact Or.inr (⟨e1, by rw [e1]; decide +kernel⟩)
  exact absurd (by unfold cdP; rw [if_neg e0, if_neg e1]) h
theorem cd3_lt (E : String) : cd3 E < 4 := by unfold cd3; repeat (first | omega | split)
theorem cd3_x {E : String} (h : cd3 E ≠ 0) : (E = xIO ∧ cd3 E = 1) ∨ (E = xIA ∧ cd3 E = 2) ∨ (E = xIS ∧ cd3 E = 3) := by
  by_cases e0 : E = xIO
  · exact Or.inl ⟨e0, by rw [e0]; decide +kernel⟩
  by_cases e1 : E = xIA
  · exact Or.inr (Or.inl ⟨e1, by rw [e1]; decide +kernel⟩)
  by_cases e2 : E = xIS
  · exact Or.inr (Or.inr (⟨e2, by rw [e2]; decide +kernel⟩))
  exact absurd (by unfold cd3; rw [if_neg e0, if_neg e1, if_neg e2]) h
theorem lc4 (d : Nat) {Xs : am_X} (hX : 0 < Xs.1) {c : Nat} {σ : am_M} (h : IvE c σ) (hc : c < 570) (v4 : Int32) (h1 : am_in (v4 + nI 1) (Xs.1 - 1) = true) {u5 u6 : Value} : ∃ u5' u6' Y, am_go Xs (am_ex (d + 9)) ML 470 [.ref 1001, .ref 0, .ref 34, .ref 57, .int v4, u5, u6, .null] [] σ = am_go Xs (am_ex (d + 9)) ML 2785 [.ref 1001, .ref 0, .ref 34, .ref 57, .int v4, u5', u6', .null] [] Y ∧ IvK (c + 1) σ Y := by
  obtain ⟨kc, md, rc, td, lev, rk, hI⟩ := h
  generalize hx1 : Xs.2 (v4 + nI 1 : Int32).toNatClampNeg = x1
  have hw : Fw (d + 8 + 1) 280 205 [.ref 0, .int x1, .ref 57] [.ref 34, .int x1] (c + 1) σ := (f101 d hI (by omega) x1).w (by decide) (okM2 x1) cO_lt (fun v X e => wo280 x1 e) (fun E X h0 e => by
    rcases cO_x h0 with ⟨rfl, e2⟩
    · rw [e2]; exact wx280_1 x1 e)
  obtain ⟨r1, r2, Y, e, hY⟩ := law_t (F := fun t3 => some (.inl (some (.int (nI 0))), t3)) (G := fun r1 r2 t3 => am_go Xs (am_ex (d + 9)) ML 2785 [.ref 1001, .ref 0, .ref 34, .ref 57, .int v4, .int r1, .int r2, .null] [] t3) hw
  refine ⟨.int r1, .int r2, Y, ?_, hY⟩
  rw [ql_470 hX]
  simp only [h1, hx1, if_true]
  exact e
theorem lc5 (d : Nat) {Xs : am_X} (hX : 0 < Xs.1) {c : Nat} {σ : am_M} (h : IvE c σ) (hc : c < 570) (v4 : Int32) (h1 : am_in (v4 + nI 1) (Xs.1 - 1) = true) {u5 u6 : Value} : ∃ u5' u6' Y, am_go Xs (am_ex (d + 9)) ML 526 [.ref 1001, .ref 0, .ref 34, .ref 57, .int v4, u5, u6, .null] [] σ = am_go Xs (am_ex (d + 9)) ML 2785 [.ref 1001, .ref 0, .ref 34, .ref 57, .int v4, u5', u6', .null] [] Y ∧ IvK (c + 1) σ Y := by
  obtain ⟨kc, md, rc, td, lev, rk, hI⟩ := h
  generalize hx1 : Xs.2 (v4 + nI 1 : Int32).toNatClampNeg = x1
  have hw : Fw (d + 8 + 1) 281 206 [.ref 0, .int x1, .ref 57] [.ref 34, .int x1] (c + 1) σ := (f102 d hI (by omega) x1).w (by decide) (okM2 x1) cI1_lt (fun v X e => wo281 x1 e) (fun E X h0 e => by
    rcases cI1_x h0 with ⟨rfl, e2⟩
    · rw [e2]; exact wx281_1 x1 e)
  obtain ⟨r1, r2, Y, e, hY⟩ := law_t (F := fun t3 => some (.inl (some (.int (nI 0))), t3)) (G := fun r1 r2 t3 => am_go Xs (am_ex (d + 9)) ML 2785 [.ref 1001, .ref 0, .ref 34, .ref 57, .int v4, .int r1, .int r2, .null] [] t3) hw
  refine ⟨.int r1, .int r2, Y, ?_, hY⟩
  rw [ql_526 hX]
  simp only [h1, hx1, if_true]
  exact e
theorem lc6 (d : Nat) {Xs : am_X} (hX : 0 < Xs.1) {c : Nat} {σ : am_M} (h : IvE c σ) (hc : c < 570) (v4 : Int32) (h1 : am_in (v4 + nI 1) (Xs.1 - 1) = true) {u5 u6 : Value} : ∃ u5' u6' Y, am_go Xs (am_ex (d + 9)) ML 582 [.ref 1001, .ref 0, .ref 34, .ref 57, .int v4, u5, u6, .null] [] σ = am_go Xs (am_ex (d + 9)) ML 2785 [.ref 1001, .ref 0, .ref 34, .ref 57, .int v4, u5', u6', .null] [] Y ∧ IvK (c + 1) σ Y := by
  obtain ⟨kc, md, rc, td, lev, rk, hI⟩ := h
  generalize hx1 : Xs.2 (v4 + nI 1 : Int32).toNatClampNeg = x1
  have hw : Fw (d + 8 + 1) 282 207 [.ref 0, .int x1, .ref 57] [.ref 34, .int x1] (c + 1) σ := (f103 d hI (by omega) x1).w (by decide) (okM2 x1) cO_lt (fun v X e => wo282 x1 e) (fun E X h0 e => by
    rcases cO_x h0 with ⟨rfl, e2⟩
    · rw [e2]; exact wx282_1 x1 e)
  obtain ⟨r1, r2, Y, e, hY⟩ := law_t (F := fun t3 => some (.inl (some (.int (nI 0))), t3)) (G := fun r1 r2 t3 => am_go Xs (am_ex (d + 9)) ML 2785 [.ref 1001, .ref 0, .ref 34, .ref 57, .int v4, .int r1, .int r2, .null] [] t3) hw
  refine ⟨.int r1, .int r2, Y, ?_, hY⟩
  rw [ql_582 hX]
  simp only [h1, hx1, if_true]
  exact e
theorem lc8 (d : Nat) {Xs : am_X} (hX : 0 < Xs.1) {c : Nat} {σ : am_M} (h : IvE c σ) (hc : c < 570) (v4 : Int32) (h1 : am_in (v4 + nI 1) (Xs.1 - 1) = true) (h2 : am_in (v4 + nI 2) (Xs.1 - 1) = true) {u5 u6 : Value} : ∃ u5' u6' Y, am_go Xs (am_ex (d + 9)) ML 705 [.ref 1001, .ref 0, .ref 34, .ref 57, .int v4, u5, u6, .null] [] σ = am_go Xs (am_ex (d + 9)) ML 2785 [.ref 1001, .ref 0, .ref 34, .ref 57, .int v4, u5', u6', .null] [] Y ∧ IvK (c + 1) σ Y := by
  obtain ⟨kc, md, rc, td, lev, rk, hI⟩ := h
  generalize hx1 : Xs.2 (v4 + nI 1 : Int32).toNatClampNeg = x1
  generalize hx2 : Xs.2 (v4 + nI 2 : Int32).toNatClampNeg = x2
  have hw : Fw (d + 8 + 1) 284 213 [.ref 0, .int x1, .int x2, .ref 57] [.ref 34, .int x1, .int x2] (c + 1) σ := (f105 d hI (by omega) x1 x2).w (by decide) (okM3 x1 x2) cdN_lt (fun v X e => wo284 x1 x2 e) (fun E X h0 e => by
    rcases cdN_x h0 with ⟨rfl, e2⟩ | ⟨rfl, e2⟩
    · rw [e2]; exact wx284_1 x1 x2 e
    · rw [e2]; exact wx284_2 x1 x2 e)
  obtain ⟨r1, r2, Y, e, hY⟩ := law_t (F := fun t3 => some (.inl (some (.int (nI 0))), t3)) (G := fun r1 r2 t3 => am_go Xs (am_ex (d + 9)) ML 2785 [.ref 1001, .ref 0, .ref 34, .ref 57, .int v4, .int r1, .int r2, .null] [] t3) hw
  refine ⟨.int r1, .int r2, Y, ?_, hY⟩
  rw [ql_705 hX]
  simp only [h1, h2, hx1, hx2, if_true]
  exact e
theorem lc9 (d : Nat) {Xs : am_X} (hX : 0 < Xs.1) {c : Nat} {σ : am_M} (h : IvE c σ) (hc : c < 570) (v4 : Int32) (h1 : am_in (v4 + nI 1) (Xs.1 - 1) = true) (h2 : am_in (v4 + nI 2) (Xs.1 - 1) = true) {u5 u6 : Value} : ∃ u5' u6' Y, am_go Xs (am_ex (d + 9)) ML 773 [.ref 1001, .ref 0, .ref 34, .ref 57, .int v4, u5, u6, .null] [] σ = am_go Xs (am_ex (d + 9)) ML 2785 [.ref 1001, .ref 0, .ref 34, .ref 57, .int v4, u5', u6', .null] [] Y ∧ IvK (c + 1) σ Y := by
  obtain ⟨kc, md, rc, td, lev, rk, hI⟩ := h
  generalize hx1 : Xs.2 (v4 + nI 1 : Int32).toNatClampNeg = x1
  generalize hx2 : Xs.2 (v4 + nI 2 : Int32).toNatClampNeg = x2
  have hw : Fw (d + 8 + 1) 285 214 [.ref 0, .int x1, .int x2, .ref 57] [.ref 34, .int x1, .int x2] (c + 1) σ := (f106 d hI (by omega) x1 x2).w (by decide) (okM3 x1 x2) cO_lt (fun v X e => wo285 x1 x2 e) (fun E X h0 e => by
    rcases cO_x h0 with ⟨rfl, e2⟩
    · rw [e2]; exact wx285_1 x1 x2 e)
  obtain ⟨r1, r2, Y, e, hY⟩ := law_t (F := fun t3 => some (.inl (some (.int (nI 0))), t3)) (G := fun r1 r2 t3 => am_go Xs (am_ex (d + 9)) ML 2785 [.ref 1001, .ref 0, .ref 34, .ref 57, .int v4, .int r1, .int r2, .null] [] t3) hw
  refine ⟨.int r1, .int r2, Y, ?_, hY⟩
  rw [ql_773 hX]
  simp only [h1, h2, hx1, hx2, if_true]
  exact e
theorem lc10 (d : Nat) {Xs : am_X} (hX : 0 < Xs.1) {c : Nat} {σ : am_M} (h : IvE c σ) (hc : c < 570) (v4 : Int32) (h1 : am_in (v4 + nI 1) (Xs.1 - 1) = true) (h2 : am_in (v4 + nI 2) (Xs.1 - 1) = true) {u5 u6 : Value} : ∃ u5' u6' Y, am_go Xs (am_ex (d + 9)) ML 841 [.ref 1001, .ref 0, .ref 34, .ref 57, .int v4, u5, u6, .null] [] σ = am_go Xs (am_ex (d + 9)) ML 2785 [.ref 1001, .ref 0, .ref 34, .ref 57, .int v4, u5', u6', .null] [] Y ∧ IvK (c + 1) σ Y := by
  obtain ⟨kc, md, rc, td, lev, rk, hI⟩ := h
  generalize hx1 : Xs.2 (v4 + nI 1 : Int32).toNatClampNeg = x1
  generalize hx2 : Xs.2 (v4 + nI 2 : Int32).toNatClampNeg = x2
  have hw : Fw (d + 8 + 1) 286 221 [.ref 0, .int x1, .int x2, .ref 57] [.ref 34, .int x1, .int x2] (c + 1) σ := (f107 d hI (by omega) x1 x2).w (by decide) (okM3 x1 x2) cO_lt (fun v X e => wo286 x1 x2 e) (fun E X h0 e => by
    rcases cO_x h0 with ⟨rfl, e2⟩
    · rw [e2]; exact wx286_1 x1 x2 e)
  obtain ⟨r1, r2, Y, e, hY⟩ := law_t (F := fun t3 => some (.inl (some (.int (nI 0))), t3)) (G := fun r1 r2 t3 => am_go Xs (am_ex (d + 9)) ML 2785 [.ref 1001, .ref 0, .ref 34, .ref 57, .int v4, .int r1, .int r2, .null] [] t3) hw
  refine ⟨.int r1, .int r2, Y, ?_, hY⟩
  rw [ql_841 hX]
  simp only [h1, h2, hx1, hx2, if_true]
  exact e
theorem lc11 (d : Nat) {Xs : am_X} (hX : 0 < Xs.1) {c : Nat} {σ : am_M} (h : IvE c σ) (hc : c < 570) (v4 : Int32) (h1 : am_in (v4 + nI 1) (Xs.1 - 1) = true) {u5 u6 : Value} : ∃ u5' u6' Y, am_go Xs (am_ex (d + 9)) ML 909 [.ref 1001, .ref 0, .ref 34, .ref 57, .int v4, u5, u6, .null] [] σ = am_go Xs (am_ex (d + 9)) ML 2785 [.ref 1001, .ref 0, .ref 34, .ref 57, .int v4, u5', u6', .null] [] Y ∧ IvK (c + 1) σ Y := by
  obtain ⟨kc, md, rc, td, lev, rk, hI⟩ := h
  generalize hx1 : Xs.2 (v4 + nI 1 : Int32).toNatClampNeg = x1
  have hw : Fw (d + 8 + 1) 287 222 [.ref 0, .int x1, .ref 57] [.ref 34, .int x1] (c + 1) σ := (f108 d hI (by omega) x1).w (by decide) (okM2 x1) cO_lt (fun v X e => wo287 x1 e) (fun E X h0 e => by
    rcases cO_x h0 with ⟨rfl, e2⟩
    · rw [e2]; exact wx287_1 x1 e)
  obtain ⟨r1, r2, Y, e, hY⟩ := law_t (F := fun t3 => some (.inl (some (.int (nI 0))), t3)) (G := fun r1 r2 t3 => am_go Xs (am_ex (d + 9)) ML 2785 [.ref 1001, .ref 0, .ref 34, .ref 57, .int v4, .int r1, .int r2, .null] [] t3) hw
  refine ⟨.int r1, .int r2, Y, ?_, hY⟩
  rw [ql_909 hX]
  simp only [h1, hx1, if_true]
  exact e
theorem lc12 (d : Nat) {Xs : am_X} (hX : 0 < Xs.1) {c : Nat} {σ : am_M} (h : IvE c σ) (hc : c < 570) (v4 : Int32) (h1 : am_in (v4 + nI 1) (Xs.1 - 1) = true) {u5 u6 : Value} : ∃ u5' u6' Y, am_go Xs (am_ex (d + 9)) ML 965 [.ref 1001, .ref 0, .ref 34, .ref 57, .int v4, u5, u6, .null] [] σ = am_go Xs (am_ex (d + 9)) ML 2785 [.ref 1001, .ref 0, .ref 34, .ref 57, .int v4, u5', u6', .null] [] Y ∧ IvK (c + 1) σ Y := by
  obtain ⟨kc, md, rc, td, lev, rk, hI⟩ := h
  generalize hx1 : Xs.2 (v4 + nI 1 : Int32).toNatClampNeg = x1
  have hw : Fw (d + 8 + 1) 288 224 [.ref 0, .int x1, .ref 57] [.ref 34, .int x1] (c + 1) σ := (f109 d hI (by omega) x1).w (by decide) (okM2 x1) cO_lt (fun v X e => wo288 x1 e) (fun E X h0 e => by
    rcases cO_x h0 with ⟨rfl, e2⟩
    · rw [e2]; exact wx288_1 x1 e)
  obtain ⟨r1, r2, Y, e, hY⟩ := law_t (F := fun t3 => some (.inl (some (.int (nI 0))), t3)) (G := fun r1 r2 t3 => am_go Xs (am_ex (d + 9)) ML 2785 [.ref 1001, .ref 0, .ref 34, .ref 57, .int v4, .int r1, .int r2, .null] [] t3) hw
  refine ⟨.int r1, .int r2, Y, ?_, hY⟩
  rw [ql_965 hX]
  simp only [h1, hx1, if_true]
  exact e
theorem lc15 (d : Nat) {Xs : am_X} (hX : 0 < Xs.1) {c : Nat} {σ : am_M} (h : IvE c σ) (hc : c < 570) (v4 : Int32) (h1 : am_in (v4 + nI 1) (Xs.1 - 1) = true) (h2 : am_in (v4 + nI 2) (Xs.1 - 1) = true) {u5 u6 : Value} : ∃ u5' u6' Y, am_go Xs (am_ex (d + 9)) ML 1125 [.ref 1001, .ref 0, .ref 34, .ref 57, .int v4, u5, u6, .null] [] σ = am_go Xs (am_ex (d + 9)) ML 2785 [.ref 1001, .ref 0, .ref 34, .ref 57, .int v4, u5', u6', .null] [] Y ∧ IvK (c + 1) σ Y := by
  obtain ⟨kc, md, rc, td, lev, rk, hI⟩ := h
  generalize hx1 : Xs.2 (v4 + nI 1 : Int32).toNatClampNeg = x1
  generalize hx2 : Xs.2 (v4 + nI 2 : Int32).toNatClampNeg = x2
  have hw : Fw (d + 8 + 1) 290 216 [.ref 0, .int x1, .int x2, .ref 57] [.ref 34, .int x1, .int x2] (c + 1) σ := (f112 d hI (by omega) x1 x2).w (by decide) (okM3 x1 x2) cd3_lt (fun v X e => wo290 x1 x2 e) (fun E X h0 e => by
    rcases cd3_x h0 with ⟨rfl, e2⟩ | ⟨rfl, e2⟩ | ⟨rfl, e2⟩
    · rw [e2]; exact wx290_1 x1 x2 e
    · rw [e2]; exact wx290_2 x1 x2 e
    · rw [e2]; exact wx290_3 x1 x2 e)
  obtain ⟨r1, r2, Y, e, hY⟩ := law_t (F := fun t3 => some (.inl (some (.int (nI 0))), t3)) (G := fun r1 r2 t3 => am_go Xs (am_ex (d + 9)) ML 2785 [.ref 1001, .ref 0, .ref 34, .ref 57, .int v4, .int r1, .int r2, .null] [] t3) hw
  refine ⟨.int r1, .int r2, Y, ?_, hY⟩
  rw [ql_1125 hX]
  simp only [h1, h2, hx1, hx2, if_true]
  exact e
theorem lc16 (d : Nat) {Xs : am_X} (hX : 0 < Xs.1) {c : Nat} {σ : am_M} (h : IvE c σ) (hc : c < 570) (v4 : Int32) (h1 : am_in (v4 + nI 1) (Xs.1 - 1) = true) {u5 u6 : Value} : ∃ u5' u6' Y, am_go Xs (am_ex (d + 9)) ML 1193 [.ref 1001, .ref 0, .ref 34, .ref 57, .int v4, u5, u6, .null] [] σ = am_go Xs (am_ex (d + 9)) ML 2785 [.ref 1001, .ref 0, .ref 34, .ref 57, .int v4, u5', u6', .null] [] Y ∧ IvK (c + 1) σ Y := by
  obtain ⟨kc, md, rc, td, lev, rk, hI⟩ := h
  generalize hx1 : Xs.2 (v4 + nI 1 : Int32).toNatClampNeg = x1
  have hw : Fw (d + 8 + 1) 291 217 [.ref 0, .int x1, .ref 57] [.ref 34, .int x1] (c + 1) σ := (f113 d hI (by omega) x1).w (by decide) (okM2 x1) cdP_lt (fun v X e => wo291 x1 e) (fun E X h0 e => by
    rcases cdP_x h0 with ⟨rfl, e2⟩ | ⟨rfl, e2⟩
    · rw [e2]; exact wx291_1 x1 e
    · rw [e2]; exact wx291_2 x1 e)
  obtain ⟨r1, r2, Y, e, hY⟩ := law_t (F := fun t3 => some (.inl (some (.int (nI 0))), t3)) (G := fun r1 r2 t3 => am_go Xs (am_ex (d + 9)) ML 2785 [.ref 1001, .ref 0, .ref 34, .ref 57, .int v4, .int r1, .int r2, .null] [] t3) hw
  refine ⟨.int r1, .int r2, Y, ?_, hY⟩
  rw [ql_1193 hX]
  simp only [h1, hx1, if_true]
  exact e
theorem lc19 (d : Nat) {Xs : am_X} (hX : 0 < Xs.1) {c : Nat} {σ : am_M} (h : IvE c σ) (hc : c < 570) (v4 : Int32) (h1 : am_in (v4 + nI 1) (Xs.1 - 1) = true) {u5 u6 : Value} : ∃ u5' u6' Y, am_go Xs (am_ex (d + 9)) ML 1303 [.ref 1001, .ref 0, .ref 34, .ref 57, .int v4, u5, u6, .null] [] σ = am_go Xs (am_ex (d + 9)) ML 2785 [.ref 1001, .ref 0, .ref 34, .ref 57, .int v4, u5', u6', .null] [] Y ∧ IvK (c + 1) σ Y := by
  obtain ⟨kc, md, rc, td, lev, rk, hI⟩ := h
  generalize hx1 : Xs.2 (v4 + nI 1 : Int32).toNatClampNeg = x1
  have hw : Fw (d + 8 + 1) 292 234 [.ref 0, .int x1, .ref 57] [.ref 34, .int x1] (c + 1) σ := (f116 d hI (by omega) x1).w (by decide) (okM2 x1) cdS_lt (fun v X e => wo292 x1 e) (fun E X h0 e => by
    rcases cdS_x h0 with ⟨rfl, e2⟩ | ⟨rfl, e2⟩
    · rw [e2]; exact wx292_1 x1 e
    · rw [e2]; exact wx292_2 x1 e)
  obtain ⟨r1, r2, Y, e, hY⟩ := law_t (F := fun t3 => some (.inl (some (.int (nI 0))), t3)) (G := fun r1 r2 t3 => am_go Xs (am_ex (d + 9)) ML 2785 [.ref 1001, .ref 0, .ref 34, .ref 57, .int v4, .int r1, .int r2, .null] [] t3) hw
  refine ⟨.int r1, .int r2, Y, ?_, hY⟩
  rw [ql_1303 hX]
  simp only [h1, hx1, if_true]
  exact e
theorem lc22 (d : Nat) {Xs : am_X} (hX : 0 < Xs.1) {c : Nat} {σ : am_M} (h : IvE c σ) (hc : c < 570) (v4 : Int32) (h1 : am_in (v4 + nI 1) (Xs.1 - 1) = true) {u5 u6 : Value} : ∃ u5' u6' Y, am_go Xs (am_ex (d + 9)) ML 1444 [.ref 1001, .ref 0, .ref 34, .ref 57, .int v4, u5, u6, .null] [] σ = am_go Xs (am_ex (d + 9)) ML 2785 [.ref 1001, .ref 0, .ref 34, .ref 57, .int v4, u5', u6', .null] [] Y ∧ IvK (c + 1) σ Y := by
  obtain ⟨kc, md, rc, td, lev, rk, hI⟩ := h
  generalize hx1 : Xs.2 (v4 + nI 1 : Int32).toNatClampNeg = x1
  have hw : Fw (d + 8 + 1) 294 235 [.ref 0, .int x1, .ref 57] [.ref 34, .int x1] (c + 1) σ := (f119 d hI (by omega) x1).w (by decide) (okM2 x1) cO_lt (fun v X e => wo294 x1 e) (fun E X h0 e => by
    rcases cO_x h0 with ⟨rfl, e2⟩
    · rw [e2]; exact wx294_1 x1 e)
  obtain ⟨r1, r2, Y, e, hY⟩ := law_t (F := fun t3 => some (.inl (some (.int (nI 0))), t3)) (G := fun r1 r2 t3 => am_go Xs (am_ex (d + 9)) ML 2785 [.ref 1001, .ref 0, .ref 34, .ref 57, .int v4, .int r1, .int r2, .null] [] t3) hw
  refine ⟨.int r1, .int r2, Y, ?_, hY⟩
  rw [ql_1444 hX]
  simp only [h1, hx1, if_true]
  exact e
theorem lc23 (d : Nat) {Xs : am_X} (hX : 0 < Xs.1) {c : Nat} {σ : am_M} (h : IvE c σ) (hc : c < 570) (v4 : Int32) (h1 : am_in (v4 + nI 1) (Xs.1 - 1) = true) {u5 u6 : Value} : ∃ u5' u6' Y, am_go Xs (am_ex (d + 9)) ML 1500 [.ref 1001, .ref 0, .ref 34, .ref 57, .int v4, u5, u6, .null] [] σ = am_go Xs (am_ex (d + 9)) ML 2785 [.ref 1001, .ref 0, .ref 34, .ref 57, .int v4, u5', u6', .null] [] Y ∧ IvK (c + 1) σ Y := by
  obtain ⟨kc, md, rc, td, lev, rk, hI⟩ := h
  generalize hx1 : Xs.2 (v4 + nI 1 : Int32).toNatClampNeg = x1
  have hw : Fw (d + 8 + 1) 295 236 [.ref 0, .int x1, .ref 57] [.ref 34, .int x1] (c + 1) σ := (f120 d hI (by omega) x1).w (by decide) (okM2 x1) cO_lt (fun v X e => wo295 x1 e) (fun E X h0 e => by
    rcases cO_x h0 with ⟨rfl, e2⟩
    · rw [e2]; exact wx295_1 x1 e)
  obtain ⟨r1, r2, Y, e, hY⟩ := law_t (F := fun t3 => some (.inl (some (.int (nI 0))), t3)) (G := fun r1 r2 t3 => am_go Xs (am_ex (d + 9)) ML 2785 [.ref 1001, .ref 0, .ref 34, .ref 57, .int v4, .int r1, .int r2, .null] [] t3) hw
  refine ⟨.int r1, .int r2, Y, ?_, hY⟩
  rw [ql_1500 hX]
  simp only [h1, hx1, if_true]
  exact e
theorem lc24 (d : Nat) {Xs : am_X} (hX : 0 < Xs.1) {c : Nat} {σ : am_M} (h : IvE c σ) (hc : c < 570) (v4 : Int32) (h1 : am_in (v4 + nI 1) (Xs.1 - 1) = true) {u5 u6 : Value} : ∃ u5' u6' Y, am_go Xs (am_ex (d + 9)) ML 1556 [.ref 1001, .ref 0, .ref 34, .ref 57, .int v4, u5, u6, .null] [] σ = am_go Xs (am_ex (d + 9)) ML 2785 [.ref 1001, .ref 0, .ref 34, .ref 57, .int v4, u5', u6', .null] [] Y ∧ IvK (c + 1) σ Y := by
  obtain ⟨kc, md, rc, td, lev, rk, hI⟩ := h
  generalize hx1 : Xs.2 (v4 + nI 1 : Int32).toNatClampNeg = x1
  have hw : Fw (d + 8 + 1) 296 237 [.ref 0, .int x1, .ref 57] [.ref 34, .int x1] (c + 1) σ := (f121 d hI (by omega) x1).w (by decide) (okM2 x1) cO_lt (fun v X e => wo296 x1 e) (fun E X h0 e => by
    rcases cO_x h0 with ⟨rfl, e2⟩
    · rw [e2]; exact wx296_1 x1 e)
  obtain ⟨r1, r2, Y, e, hY⟩ := law_t (F := fun t3 => some (.inl (some (.int (nI 0))), t3)) (G := fun r1 r2 t3 => am_go Xs (am_ex (d + 9)) ML 2785 [.ref 1001, .ref 0, .ref 34, .ref 57, .int v4, .int r1, .int r2, .null] [] t3) hw
  refine ⟨.int r1, .int r2, Y, ?_, hY⟩
  rw [ql_1556 hX]
  simp only [h1, hx1, if_true]
  exact e
theorem lc25 (d : Nat) {Xs : am_X} (hX : 0 < Xs.1) {c : Nat} {σ : am_M} (h : IvE c σ) (hc : c < 570) (v4 : Int32) (h1 : am_in (v4 + nI 1) (Xs.1 - 1) = true) (h2 : am_in (v4 + nI 2) (Xs.1 - 1) = true) {u5 u6 : Value} : ∃ u5' u6' Y, am_go Xs (am_ex (d + 9)) ML 1612 [.ref 1001, .ref 0, .ref 34, .ref 57, .int v4, u5, u6, .null] [] σ = am_go Xs (am_ex (d + 9)) ML 2785 [.ref 1001, .ref 0, .ref 34, .ref 57, .int v4, u5', u6', .null] [] Y ∧ IvK (c + 1) σ Y := by
  obtain ⟨kc, md, rc, td, lev, rk, hI⟩ := h
  generalize hx1 : Xs.2 (v4 + nI 1 : Int32).toNatClampNeg = x1
  generalize hx2 : Xs.2 (v4 + nI 2 : Int32).toNatClampNeg = x2
  have hw : Fw (d + 8 + 1) 297 238 [.ref 0, .int x1, .int x2, .ref 57] [.ref 34, .int x1, .int x2] (c + 1) σ := (f122 d hI (by omega) x1 x2).w (by decide) (okM3 x1 x2) cdS_lt (fun v X e => wo297 x1 x2 e) (fun E X h0 e => by
    rcases cdS_x h0 with ⟨rfl, e2⟩ | ⟨rfl, e2⟩
    · rw [e2]; exact wx297_1 x1 x2 e
    · rw [e2]; exact wx297_2 x1 x2 e)
  obtain ⟨r1, r2, Y, e, hY⟩ := law_t (F := fun t3 => some (.inl (some (.int (nI 0))), t3)) (G := fun r1 r2 t3 => am_go Xs (am_ex (d + 9)) ML 2785 [.ref 1001, .ref 0, .ref 34, .ref 57, .int v4, .int r1, .int r2, .null] [] t3) hw
  refine ⟨.int r1, .int r2, Y, ?_, hY⟩
  rw [ql_1612 hX]
  simp only [h1, h2, hx1, hx2, if_true]
  exact e
theorem lc26 (d : Nat) {Xs : am_X} (hX : 0 < Xs.1) {c : Nat} {σ : am_M} (h : IvE c σ) (hc : c < 570) (v4 : Int32) (h1 : am_in (v4 + nI 1) (Xs.1 - 1) = true) {u5 u6 : Value} : ∃ u5' u6' Y, am_go Xs (am_ex (d + 9)) ML 1680 [.ref 1001, .ref 0, .ref 34, .ref 57, .int v4, u5, u6, .null] [] σ = am_go Xs (am_ex (d + 9)) ML 2785 [.ref 1001, .ref 0, .ref 34, .ref 57, .int v4, u5', u6', .null] [] Y ∧ IvK (c + 1) σ Y := by
  obtain ⟨kc, md, rc, td, lev, rk, hI⟩ := h
  generalize hx1 : Xs.2 (v4 + nI 1 : Int32).toNatClampNeg = x1
  have hw : Fw (d + 8 + 1) 298 239 [.ref 0, .int x1, .ref 57] [.ref 34, .int x1] (c + 1) σ := (f123 d hI (by omega) x1).w (by decide) (okM2 x1) cO_lt (fun v X e => wo298 x1 e) (fun E X h0 e => by
    rcases cO_x h0 with ⟨rfl, e2⟩
    · rw [e2]; exact wx298_1 x1 e)
  obtain ⟨r1, r2, Y, e, hY⟩ := law_t (F := fun t3 => some (.inl (some (.int (nI 0))), t3)) (G := fun r1 r2 t3 => am_go Xs (am_ex (d + 9)) ML 2785 [.ref 1001, .ref 0, .ref 34, .ref 57, .int v4, .int r1, .int r2, .null] [] t3) hw
  refine ⟨.int r1, .int r2, Y, ?_, hY⟩
  rw [ql_1680 hX]
  simp only [h1, hx1, if_true]
  exact e
theorem lc27 (d : Nat) {Xs : am_X} (hX : 0 < Xs.1) {c : Nat} {σ : am_M} (h : IvE c σ) (hc : c < 570) (v4 : Int32) (h1 : am_in (v4 + nI 1) (Xs.1 - 1) = true) (h2 : am_in (v4 + nI 2) (Xs.1 - 1) = true) {u5 u6 : Value} : ∃ u5' u6' Y, am_go Xs (am_ex (d + 9)) ML 1736 [.ref 1001, .ref 0, .ref 34, .ref 57, .int v4, u5, u6, .null] [] σ = am_go Xs (am_ex (d + 9)) ML 2785 [.ref 1001, .ref 0, .ref 34, .ref 57, .int v4, u5', u6', .null] [] Y ∧ IvK (c + 1) σ Y := by
  obtain ⟨kc, md, rc, td, lev, rk, hI⟩ := h
  generalize hx1 : Xs.2 (v4 + nI 1 : Int32).toNatClampNeg = x1
  generalize hx2 : Xs.2 (v4 + nI 2 : Int32).toNatClampNeg = x2
  have hw : Fw (d + 8 + 1) 299 242 [.ref 0, .int x1, .int x2, .ref 57] [.ref 34, .int x1, .int x2] (c + 1) σ := (f124 d hI (by omega) x1 x2).w (by decide) (okM3 x1 x2) cdA_lt (fun v X e => wo299 x1 x2 e) (fun E X h0 e => by
    rcases cdA_x h0 with ⟨rfl, e2⟩ | ⟨rfl, e2⟩
    · rw [e2]; exact wx299_1 x1 x2 e
    · rw [e2]; exact wx299_2 x1 x2 e)
  obtain ⟨r1, r2, Y, e, hY⟩ := law_t (F := fun t3 => some (.inl (some (.int (nI 0))), t3)) (G := fun r1 r2 t3 => am_go Xs (am_ex (d + 9)) ML 2785 [.ref 1001, .ref 0, .ref 34, .ref 57, .int v4, .int r1, .int r2, .null] [] t3) hw
  refine ⟨.int r1, .int r2, Y, ?_, hY⟩
  rw [ql_1736 hX]
  simp only [h1, h2, hx1, hx2, if_true]
  exact e
theorem lc28 (d : Nat) {Xs : am_X} (hX : 0 < Xs.1) {c : Nat} {σ : am_M} (h : IvE c σ) (hc : c < 570) (v4 : Int32) (h1 : am_in (v4 + nI 1) (Xs.1 - 1) = true) {u5 u6 : Value} : ∃ u5' u6' Y, am_go Xs (am_ex (d + 9)) ML 1804 [.ref 1001, .ref 0, .ref 34, .ref 57, .int v4, u5, u6, .null] [] σ = am_go Xs (am_ex (d + 9)) ML 2785 [.ref 1001, .ref 0, .ref 34, .ref 57, .int v4, u5', u6', .null] [] Y ∧ IvK (c + 1) σ Y := by
  obtain ⟨kc, md, rc, td, lev, rk, hI⟩ := h
  generalize hx1 : Xs.2 (v4 + nI 1 : Int32).toNatClampNeg = x1
  have hw : Fw (d + 8 + 1) 300 243 [.ref 0, .int x1, .ref 57] [.ref 34, .int x1] (c + 1) σ := (f125 d hI (by omega) x1).w (by decide) (okM2 x1) cdS_lt (fun v X e => wo300 x1 e) (fun E X h0 e => by
    rcases cdS_x h0 with ⟨rfl, e2⟩ | ⟨rfl, e2⟩
    · rw [e2]; exact wx300_1 x1 e
    · rw [e2]; exact wx300_2 x1 e)
  obtain ⟨r1, r2, Y, e, hY⟩ := law_t (F := fun t3 => some (.inl (some (.int (nI 0))), t3)) (G := fun r1 r2 t3 => am_go Xs (am_ex (d + 9)) ML 2785 [.ref 1001, .ref 0, .ref 34, .ref 57, .int v4, .int r1, .int r2, .null] [] t3) hw
  refine ⟨.int r1, .int r2, Y, ?_, hY⟩
  rw [ql_1804 hX]
  simp only [h1, hx1, if_true]
  exact e
theorem lc29 (d : Nat) {Xs : am_X} (hX : 0 < Xs.1) {c : Nat} {σ : am_M} (h : IvE c σ) (hc : c < 570) (v4 : Int32) (h1 : am_in (v4 + nI 1) (Xs.1 - 1) = true) (h2 : am_in (v4 + nI 2) (Xs.1 - 1) = true) {u5 u6 : Value} : ∃ u5' u6' Y, am_go Xs (am_ex (d + 9)) ML 1860 [.ref 1001, .ref 0, .ref 34, .ref 57, .int v4, u5, u6, .null] [] σ = am_go Xs (am_ex (d + 9)) ML 2785 [.ref 1001, .ref 0, .ref 34, .ref 57, .int v4, u5', u6', .null] [] Y ∧ IvK (c + 1) σ Y := by
  obtain ⟨kc, md, rc, td, lev, rk, hI⟩ := h
  generalize hx1 : Xs.2 (v4 + nI 1 : Int32).toNatClampNeg = x1
  generalize hx2 : Xs.2 (v4 + nI 2 : Int32).toNatClampNeg = x2
  have hw : Fw (d + 8 + 1) 301 246 [.ref 0, .int x1, .int x2, .ref 57] [.ref 34, .int x1, .int x2] (c + 1) σ := (f126 d hI (by omega) x1 x2).w (by decide) (okM3 x1 x2) cd3_lt (fun v X e => wo301 x1 x2 e) (fun E X h0 e => by
    rcases cd3_x h0 with ⟨rfl, e2⟩ | ⟨rfl, e2⟩ | ⟨rfl, e2⟩
    · rw [e2]; exact wx301_1 x1 x2 e
    · rw [e2]; exact wx301_2 x1 x2 e
    · rw [e2]; exact wx301_3 x1 x2 e)
  obtain ⟨r1, r2, Y, e, hY⟩ := law_t (F := fun t3 => some (.inl (some (.int (nI 0))), t3)) (G := fun r1 r2 t3 => am_go Xs (am_ex (d + 9)) ML 2785 [.ref 1001, .ref 0, .ref 34, .ref 57, .int v4, .int r1, .int r2, .null] [] t3) hw
  refine ⟨.int r1, .int r2, Y, ?_, hY⟩
  rw [ql_1860 hX]
  simp only [h1, h2, hx1, hx2, if_true]
  exact e
theorem lc30 (d : Nat) {Xs : am_X} (hX : 0 < Xs.1) {c : Nat} {σ : am_M} (h : IvE c σ) (hc : c < 570) (v4 : Int32) (h1 : am_in (v4 + nI 1) (Xs.1 - 1) = true) {u5 u6 : Value} : ∃ u5' u6' Y, am_go Xs (am_ex (d + 9)) ML 1928 [.ref 1001, .ref 0, .ref 34, .ref 57, .int v4, u5, u6, .null] [] σ = am_go Xs (am_ex (d + 9)) ML 2785 [.ref 1001, .ref 0, .ref 34, .ref 57, .int v4, u5', u6', .null] [] Y ∧ IvK (c + 1) σ Y := by
  obtain ⟨kc, md, rc, td, lev, rk, hI⟩ := h
  generalize hx1 : Xs.2 (v4 + nI 1 : Int32).toNatClampNeg = x1
  have hw : Fw (d + 8 + 1) 302 247 [.ref 0, .int x1, .ref 57] [.ref 34, .int x1] (c + 1) σ := (f127 d hI (by omega) x1).w (by decide) (okM2 x1) cO_lt (fun v X e => wo302 x1 e) (fun E X h0 e => by
    rcases cO_x h0 with ⟨rfl, e2⟩
    · rw [e2]; exact wx302_1 x1 e)
  obtain ⟨r1, r2, Y, e, hY⟩ := law_t (F := fun t3 => some (.inl (some (.int (nI 0))), t3)) (G := fun r1 r2 t3 => am_go Xs (am_ex (d + 9)) ML 2785 [.ref 1001, .ref 0, .ref 34, .ref 57, .int v4, .int r1, .int r2, .null] [] t3) hw
  refine ⟨.int r1, .int r2, Y, ?_, hY⟩
  rw [ql_1928 hX]
  simp only [h1, hx1, if_true]
  exact e
theorem lc31 (d : Nat) {Xs : am_X} (hX : 0 < Xs.1) {c : Nat} {σ : am_M} (h : IvE c σ) (hc : c < 570) (v4 : Int32) {u5 u6 : Value} : ∃ u5' u6' Y, am_go Xs (am_ex (d + 9)) ML 1984 [.ref 1001, .ref 0, .ref 34, .ref 57, .int v4, u5, u6, .null] [] σ = am_go Xs (am_ex (d + 9)) ML 2785 [.ref 1001, .ref 0, .ref 34, .ref 57, .int v4, u5', u6', .null] [] Y ∧ IvK (c + 1) σ Y := by
  obtain ⟨kc, md, rc, td, lev, rk, hI⟩ := h
  have hw : Fw (d + 8 + 1) 303 248 [.ref 0, .ref 57] [.ref 34] (c + 1) σ := (f128 d hI (by omega)).w (by decide) okM1 cS1_lt (fun v X e => wo303 e) (fun E X h0 e => by
    rcases cS1_x h0 with ⟨rfl, e2⟩
    · rw [e2]; exact wx303_1 e)
  obtain ⟨r1, r2, Y, e, hY⟩ := law_t (F := fun t3 => some (.inl (some (.int (nI 0))), t3)) (G := fun r1 r2 t3 => am_go Xs (am_ex (d + 9)) ML 2785 [.ref 1001, .ref 0, .ref 34, .ref 57, .int v4, .int r1, .int r2, .null] [] t3) hw
  refine ⟨.int r1, .int r2, Y, ?_, hY⟩
  rw [ql_1984 hX]
  exact e
theorem lc33 (d : Nat) {Xs : am_X} (hX : 0 < Xs.1) {c : Nat} {σ : am_M} (h : IvE c σ) (hc : c < 570) (v4 : Int32) (h1 : am_in (v4 + nI 1) (Xs.1 - 1) = true) (h2 : am_in (v4 + nI 2) (Xs.1 - 1) = true) {u5 u6 : Value} : ∃ u5' u6' Y, am_go Xs (am_ex (d + 9)) ML 2041 [.ref 1001, .ref 0, .ref 34, .ref 57, .int v4, u5, u6, .null] [] σ = am_go Xs (am_ex (d + 9)) ML 2785 [.ref 1001, .ref 0, .ref 34, .ref 57, .int v4, u5', u6', .null] [] Y ∧ IvK (c + 1) σ Y := by
  obtain ⟨kc, md, rc, td, lev, rk, hI⟩ := h
  generalize hx1 : Xs.2 (v4 + nI 1 : Int32).toNatClampNeg = x1
  generalize hx2 : Xs.2 (v4 + nI 2 : Int32).toNatClampNeg = x2
  have hw : Fw (d + 8 + 1) 304 254 [.ref 0, .int x1, .int x2, .ref 57] [.ref 34, .int x1, .int x2] (c + 1) σ := (f130 d hI (by omega) x1 x2).w (by decide) (okM3 x1 x2) cdA_lt (fun v X e => wo304 x1 x2 e) (fun E X h0 e => by
    rcases cdA_x h0 with ⟨rfl, e2⟩ | ⟨rfl, e2⟩
    · rw [e2]; exact wx304_1 x1 x2 e
    · rw [e2]; exact wx304_2 x1 x2 e)
  obtain ⟨r1, r2, Y, e, hY⟩ := law_t (F := fun t3 => some (.inl (some (.int (nI 0))), t3)) (G := fun r1 r2 t3 => am_go Xs (am_ex (d + 9)) ML 2785 [.ref 1001, .ref 0, .ref 34, .ref 57, .int v4, .int r1, .int r2, .null] [] t3) hw
  refine ⟨.int r1, .int r2, Y, ?_, hY⟩
  rw [ql_2041 hX]
  simp only [h1, h2, hx1, hx2, if_true]
  exact e
theorem lc35 (d : Nat) {Xs : am_X} (hX : 0 < Xs.1) {c : Nat} {σ : am_M} (h : IvE c σ) (hc : c < 570) (v4 : Int32) (h1 : am_in (v4 + nI 1) (Xs.1 - 1) = true) {u5 u6 : Value} : ∃ u5' u6' Y, am_go Xs (am_ex (d + 9)) ML 2188 [.ref 1001, .ref 0, .ref 34, .ref 57, .int v4, u5, u6, .null] [] σ = am_go Xs (am_ex (d + 9)) ML 2785 [.ref 1001, .ref 0, .ref 34, .ref 57, .int v4, u5', u6', .null] [] Y ∧ IvK (c + 1) σ Y := by
  obtain ⟨kc, md, rc, td, lev, rk, hI⟩ := h
  generalize hx1 : Xs.2 (v4 + nI 1 : Int32).toNatClampNeg = x1
  have hw : Fw (d + 8 + 1) 306 257 [.ref 0, .int x1, .ref 57] [.ref 34, .int x1] (c + 1) σ := (f132 d hI (by omega) x1).w (by decide) (okM2 x1) cdS_lt (fun v X e => wo306 x1 e) (fun E X h0 e => by
    rcases cdS_x h0 with ⟨rfl, e2⟩ | ⟨rfl, e2⟩
    · rw [e2]; exact wx306_1 x1 e
    · rw [e2]; exact wx306_2 x1 e)
  obtain ⟨r1, r2, Y, e, hY⟩ := law_t (F := fun t3 => some (.inl (some (.int (nI 0))), t3)) (G := fun r1 r2 t3 => am_go Xs (am_ex (d + 9)) ML 2785 [.ref 1001, .ref 0, .ref 34, .ref 57, .int v4, .int r1, .int r2, .null] [] t3) hw
  refine ⟨.int r1, .int r2, Y, ?_, hY⟩
  rw [ql_2188 hX]
  simp only [h1, hx1, if_true]
  exact e
theorem lc36 (d : Nat) {Xs : am_X} (hX : 0 < Xs.1) {c : Nat} {σ : am_M} (h : IvE c σ) (hc : c < 570) (v4 : Int32) (h1 : am_in (v4 + nI 1) (Xs.1 - 1) = true) {u5 u6 : Value} : ∃ u5' u6' Y, am_go Xs (am_ex (d + 9)) ML 2244 [.ref 1001, .ref 0, .ref 34, .ref 57, .int v4, u5, u6, .null] [] σ = am_go Xs (am_ex (d + 9)) ML 2785 [.ref 1001, .ref 0, .ref 34, .ref 57, .int v4, u5', u6', .null] [] Y ∧ IvK (c + 1) σ Y := by
  obtain ⟨kc, md, rc, td, lev, rk, hI⟩ := h
  generalize hx1 : Xs.2 (v4 + nI 1 : Int32).toNatClampNeg = x1
  have hw : Fw (d + 8 + 1) 307 258 [.ref 0, .int x1, .ref 57] [.ref 34, .int x1] (c + 1) σ := (f133 d hI (by omega) x1).w (by decide) (okM2 x1) cdS_lt (fun v X e => wo307 x1 e) (fun E X h0 e => by
    rcases cdS_x h0 with ⟨rfl, e2⟩ | ⟨rfl, e2⟩
    · rw [e2]; exact wx307_1 x1 e
    · rw [e2]; exact wx307_2 x1 e)
  obtain ⟨r1, r2, Y, e, hY⟩ := law_t (F := fun t3 => some (.inl (some (.int (nI 0))), t3)) (G := fun r1 r2 t3 => am_go Xs (am_ex (d + 9)) ML 2785 [.ref 1001, .ref 0, .ref 34, .ref 57, .int v4, .int r1, .int r2, .null] [] t3) hw
  refine ⟨.int r1, .int r2, Y, ?_, hY⟩
  rw [ql_2244 hX]
  simp only [h1, hx1, if_true]
  exact e
theorem lc37 (d : Nat) {Xs : am_X} (hX : 0 < Xs.1) {c : Nat} {σ : am_M} (h : IvE c σ) (hc : c < 570) (v4 : Int32) (h1 : am_in (v4 + nI 1) (Xs.1 - 1) = true) {u5 u6 : Value} : ∃ u5' u6' Y, am_go Xs (am_ex (d + 9)) ML 2300 [.ref 1001, .ref 0, .ref 34, .ref 57, .int v4, u5, u6, .null] [] σ = am_go Xs (am_ex (d + 9)) ML 2785 [.ref 1001, .ref 0, .ref 34, .ref 57, .int v4, u5', u6', .null] [] Y ∧ IvK (c + 1) σ Y := by
  obtain ⟨kc, md, rc, td, lev, rk, hI⟩ := h
  generalize hx1 : Xs.2 (v4 + nI 1 : Int32).toNatClampNeg = x1
  have hw : Fw (d + 8 + 1) 308 259 [.ref 0, .int x1, .ref 57] [.ref 34, .int x1] (c + 1) σ := (f134 d hI (by omega) x1).w (by decide) (okM2 x1) cdS_lt (fun v X e => wo308 x1 e) (fun E X h0 e => by
    rcases cdS_x h0 with ⟨rfl, e2⟩ | ⟨rfl, e2⟩
    · rw [e2]; exact wx308_1 x1 e
    · rw [e2]; exact wx308_2 x1 e)
  obtain ⟨r1, r2, Y, e, hY⟩ := law_t (F := fun t3 => some (.inl (some (.int (nI 0))), t3)) (G := fun r1 r2 t3 => am_go Xs (am_ex (d + 9)) ML 2785 [.ref 1001, .ref 0, .ref 34, .ref 57, .int v4, .int r1, .int r2, .null] [] t3) hw
  refine ⟨.int r1, .int r2, Y, ?_, hY⟩
  rw [ql_2300 hX]
  simp only [h1, hx1, if_true]
  exact e
theorem lc38 (d : Nat) {Xs : am_X} (hX : 0 < Xs.1) {c : Nat} {σ : am_M} (h : IvE c σ) (hc : c < 570) (v4 : Int32) (h1 : am_in (v4 + nI 1) (Xs.1 - 1) = true) {u5 u6 : Value} : ∃ u5' u6' Y, am_go Xs (am_ex (d + 9)) ML 2356 [.ref 1001, .ref 0, .ref 34, .ref 57, .int v4, u5, u6, .null] [] σ = am_go Xs (am_ex (d + 9)) ML 2785 [.ref 1001, .ref 0, .ref 34, .ref 57, .int v4, u5', u6', .null] [] Y ∧ IvK (c + 1) σ Y := by
  obtain ⟨kc, md, rc, td, lev, rk, hI⟩ := h
  generalize hx1 : Xs.2 (v4 + nI 1 : Int32).toNatClampNeg = x1
  have hw : Fw (d + 8 + 1) 309 262 [.ref 0, .int x1, .ref 57] [.ref 34, .int x1] (c + 1) σ := (f135 d hI (by omega) x1).w (by decide) (okM2 x1) cO_lt (fun v X e => wo309 x1 e) (fun E X h0 e => by
    rcases cO_x h0 with ⟨rfl, e2⟩
    · rw [e2]; exact wx309_1 x1 e)
  obtain ⟨r1, r2, Y, e, hY⟩ := law_t (F := fun t3 => some (.inl (some (.int (nI 0))), t3)) (G := fun r1 r2 t3 => am_go Xs (am_ex (d + 9)) ML 2785 [.ref 1001, .ref 0, .ref 34, .ref 57, .int v4, .int r1, .int r2, .null] [] t3) hw
  refine ⟨.int r1, .int r2, Y, ?_, hY⟩
  rw [ql_2356 hX]
  simp only [h1, hx1, if_true]
  exact e
theorem lc39 (d : Nat) {Xs : am_X} (hX : 0 < Xs.1) {c : Nat} {σ : am_M} (h : IvE c σ) (hc : c < 570) (v4 : Int32) {u5 u6 : Value} : ∃ u5' u6' Y, am_go Xs (am_ex (d + 9)) ML 2412 [.ref 1001, .ref 0, .ref 34, .ref 57, .int v4, u5, u6, .null] [] σ = am_go Xs (am_ex (d + 9)) ML 2785 [.ref 1001, .ref 0, .ref 34, .ref 57, .int v4, u5', u6', .null] [] Y ∧ IvK (c + 1) σ Y := by
  obtain ⟨kc, md, rc, td, lev, rk, hI⟩ := h
  have hw : Fw (d + 8 + 1) 310 265 [.ref 0, .ref 57] [.ref 34] (c + 1) σ := (f136 d hI (by omega)).w (by decide) okM1 cS1_lt (fun v X e => wo310 e) (fun E X h0 e => by
    rcases cS1_x h0 with ⟨rfl, e2⟩
    · rw [e2]; exact wx310_1 e)
  obtain ⟨r1, r2, Y, e, hY⟩ := law_t (F := fun t3 => some (.inl (some (.int (nI 0))), t3)) (G := fun r1 r2 t3 => am_go Xs (am_ex (d + 9)) ML 2785 [.ref 1001, .ref 0, .ref 34, .ref 57, .int v4, .int r1, .int r2, .null] [] t3) hw
  refine ⟨.int r1, .int r2, Y, ?_, hY⟩
  rw [ql_2412 hX]
  exact e
theorem lc41 (d : Nat) {Xs : am_X} (hX : 0 < Xs.1) {c : Nat} {σ : am_M} (h : IvE c σ) (hc : c < 570) (v4 : Int32) (h1 : am_in (v4 + nI 1) (Xs.1 - 1) = true) {u5 u6 : Value} : ∃ u5' u6' Y, am_go Xs (am_ex (d + 9)) ML 2469 [.ref 1001, .ref 0, .ref 34, .ref 57, .int v4, u5, u6, .null] [] σ = am_go Xs (am_ex (d + 9)) ML 2785 [.ref 1001, .ref 0, .ref 34, .ref 57, .int v4, u5', u6', .null] [] Y ∧ IvK (c + 1) σ Y := by
  obtain ⟨kc, md, rc, td, lev, rk, hI⟩ := h
  generalize hx1 : Xs.2 (v4 + nI 1 : Int32).toNatClampNeg = x1
  have hw : Fw (d + 8 + 1) 311 267 [.ref 0, .int x1, .ref 57] [.ref 34, .int x1] (c + 1) σ := (f138 d hI (by omega) x1).w (by decide) (okM2 x1) cO_lt (fun v X e => wo311 x1 e) (fun E X h0 e => by
    rcases cO_x h0 with ⟨rfl, e2⟩
    · rw [e2]; exact wx311_1 x1 e)
  obtain ⟨r1, r2, Y, e, hY⟩ := law_t (F := fun t3 => some (.inl (some (.int (nI 0))), t3)) (G := fun r1 r2 t3 => am_go Xs (am_ex (d + 9)) ML 2785 [.ref 1001, .ref 0, .ref 34, .ref 57, .int v4, .int r1, .int r2, .null] [] t3) hw
  refine ⟨.int r1, .int r2, Y, ?_, hY⟩
  rw [ql_2469 hX]
  simp only [h1, hx1, if_true]
  exact e
theorem lc42 (d : Nat) {Xs : am_X} (hX : 0 < Xs.1) {c : Nat} {σ : am_M} (h : IvE c σ) (hc : c < 570) (v4 : Int32) (h1 : am_in (v4 + nI 1) (Xs.1 - 1) = true) (h2 : am_in (v4 + nI 2) (Xs.1 - 1) = true) {u5 u6 : Value} : ∃ u5' u6' Y, am_go Xs (am_ex (d + 9)) ML 2525 [.ref 1001, .ref 0, .ref 34, .ref 57, .int v4, u5, u6, .null] [] σ = am_go Xs (am_ex (d + 9)) ML 2785 [.ref 1001, .ref 0, .ref 34, .ref 57, .int v4, u5', u6', .null] [] Y ∧ IvK (c + 1) σ Y := by
  obtain ⟨kc, md, rc, td, lev, rk, hI⟩ := h
  generalize hx1 : Xs.2 (v4 + nI 1 : Int32).toNatClampNeg = x1
  generalize hx2 : Xs.2 (v4 + nI 2 : Int32).toNatClampNeg = x2
  have hw : Fw (d + 8 + 1) 312 269 [.ref 0, .int x1, .int x2, .ref 57] [.ref 34, .int x1, .int x2] (c + 1) σ := (f139 d hI (by omega) x1 x2).w (by decide) (okM3 x1 x2) cO_lt (fun v X e => wo312 x1 x2 e) (fun E X h0 e => by
    rcases cO_x h0 with ⟨rfl, e2⟩
    · rw [e2]; exact wx312_1 x1 x2 e)
  obtain ⟨r1, r2, Y, e, hY⟩ := law_t (F := fun t3 => some (.inl (some (.int (nI 0))), t3)) (G := fun r1 r2 t3 => am_go Xs (am_ex (d + 9)) ML 2785 [.ref 1001, .ref 0, .ref 34, .ref 57, .int v4, .int r1, .int r2, .null] [] t3) hw
  refine ⟨.int r1, .int r2, Y, ?_, hY⟩
  rw [ql_2525 hX]
  simp only [h1, h2, hx1, hx2, if_true]
  exact e
theorem lc43 (d : Nat) {Xs : am_X} (hX : 0 < Xs.1) {c : Nat} {σ : am_M} (h : IvE c σ) (hc : c < 570) (v4 : Int32) (h1 : am_in (v4 + nI 1) (Xs.1 - 1) = true) (h2 : am_in (v4 + nI 2) (Xs.1 - 1) = true) {u5 u6 : Value} : ∃ u5' u6' Y, am_go Xs (am_ex (d + 9)) ML 2593 [.ref 1001, .ref 0, .ref 34, .ref 57, .int v4, u5, u6, .null] [] σ = am_go Xs (am_ex (d + 9)) ML 2785 [.ref 1001, .ref 0, .ref 34, .ref 57, .int v4, u5', u6', .null] [] Y ∧ IvK (c + 1) σ Y := by
  obtain ⟨kc, md, rc, td, lev, rk, hI⟩ := h
  generalize hx1 : Xs.2 (v4 + nI 1 : Int32).toNatClampNeg = x1
  generalize hx2 : Xs.2 (v4 + nI 2 : Int32).toNatClampNeg = x2
  have hw : Fw (d + 8 + 1) 313 271 [.ref 0, .int x1, .int x2, .ref 57] [.ref 34, .int x1, .int x2] (c + 1) σ := (f140 d hI (by omega) x1 x2).w (by decide) (okM3 x1 x2) cdS_lt (fun v X e => wo313 x1 x2 e) (fun E X h0 e => by
    rcases cdS_x h0 with ⟨rfl, e2⟩ | ⟨rfl, e2⟩
    · rw [e2]; exact wx313_1 x1 x2 e
    · rw [e2]; exact wx313_2 x1 x2 e)
  obtain ⟨r1, r2, Y, e, hY⟩ := law_t (F := fun t3 => some (.inl (some (.int (nI 0))), t3)) (G := fun r1 r2 t3 => am_go Xs (am_ex (d + 9)) ML 2785 [.ref 1001, .ref 0, .ref 34, .ref 57, .int v4, .int r1, .int r2, .null] [] t3) hw
  refine ⟨.int r1, .int r2, Y, ?_, hY⟩
  rw [ql_2593 hX]
  simp only [h1, h2, hx1, hx2, if_true]
  exact e
theorem lc44 (d : Nat) {Xs : am_X} (hX : 0 < Xs.1) {c : Nat} {σ : am_M} (h : IvE c σ) (hc : c < 570) (v4 : Int32) (h1 : am_in (v4 + nI 1) (Xs.1 - 1) = true) {u5 u6 : Value} : ∃ u5' u6' Y, am_go Xs (am_ex (d + 9)) ML 2661 [.ref 1001, .ref 0, .ref 34, .ref 57, .int v4, u5, u6, .null] [] σ = am_go Xs (am_ex (d + 9)) ML 2785 [.ref 1001, .ref 0, .ref 34, .ref 57, .int v4, u5', u6', .null] [] Y ∧ IvK (c + 1) σ Y := by
  obtain ⟨kc, md, rc, td, lev, rk, hI⟩ := h
  generalize hx1 : Xs.2 (v4 + nI 1 : Int32).toNatClampNeg = x1
  have hw : Fw (d + 8 + 1) 314 273 [.ref 0, .int x1, .ref 57] [.ref 34, .int x1] (c + 1) σ := (f141 d hI (by omega) x1).w (by decide) (okM2 x1) cdS_lt (fun v X e => wo314 x1 e) (fun E X h0 e => by
    rcases cdS_x h0 with ⟨rfl, e2⟩ | ⟨rfl, e2⟩
    · rw [e2]; exact wx314_1 x1 e
    · rw [e2]; exact wx314_2 x1 e)
  obtain ⟨r1, r2, Y, e, hY⟩ := law_t (F := fun t3 => some (.inl (some (.int (nI 0))), t3)) (G := fun r1 r2 t3 => am_go Xs (am_ex (d + 9)) ML 2785 [.ref 1001, .ref 0, .ref 34, .ref 57, .int v4, .int r1, .int r2, .null] [] t3) hw
  refine ⟨.int r1, .int r2, Y, ?_, hY⟩
  rw [ql_2661 hX]
  simp only [h1, hx1, if_true]
  exact e
theorem lc45 (d : Nat) {Xs : am_X} (hX : 0 < Xs.1) {c : Nat} {σ : am_M} (h : IvE c σ) (hc : c < 570) (v4 : Int32) (h1 : am_in (v4 + nI 1) (Xs.1 - 1) = true) (h2 : am_in (v4 + nI 2) (Xs.1 - 1) = true) {u5 u6 : Value} : ∃ u5' u6' Y, am_go Xs (am_ex (d + 9)) ML 2717 [.ref 1001, .ref 0, .ref 34, .ref 57, .int v4, u5, u6, .null] [] σ = am_go Xs (am_ex (d + 9)) ML 2785 [.ref 1001, .ref 0, .ref 34, .ref 57, .int v4, u5', u6', .null] [] Y ∧ IvK (c + 1) σ Y := by
  obtain ⟨kc, md, rc, td, lev, rk, hI⟩ := h
  generalize hx1 : Xs.2 (v4 + nI 1 : Int32).toNatClampNeg = x1
  generalize hx2 : Xs.2 (v4 + nI 2 : Int32).toNatClampNeg = x2
  have hw : Fw (d + 8 + 1) 315 274 [.ref 0, .int x1, .int x2, .ref 57] [.ref 34, .int x1, .int x2] (c + 1) σ := (f142 d hI (by omega) x1 x2).w (by decide) (okM3 x1 x2) cdS_lt (fun v X e => wo315 x1 x2 e) (fun E X h0 e => by
    rcases cdS_x h0 with ⟨rfl, e2⟩ | ⟨rfl, e2⟩
    · rw [e2]; exact wx315_1 x1 x2 e
    · rw [e2]; exact wx315_2 x1 x2 e)
  obtain ⟨r1, r2, Y, e, hY⟩ := law_t (F := fun t3 => some (.inl (some (.int (nI 0))), t3)) (G := fun r1 r2 t3 => am_go Xs (am_ex (d + 9)) ML 2785 [.ref 1001, .ref 0, .ref 34, .ref 57, .int v4, .int r1, .int r2, .null] [] t3) hw
  refine ⟨.int r1, .int r2, Y, ?_, hY⟩
  rw [ql_2717 hX]
  simp only [h1, h2, hx1, hx2, if_true]
  exact e
end CA2
