/-! the law's other cases -/
section CA3
theorem okM4 (a b e : Int32) : okL aM [.ref 34, .int a, .int b, .int e] := okL_c.mpr ⟨rfl, okL_c.mpr ⟨rfl, okL_c.mpr ⟨rfl, okL_c.mpr ⟨rfl, fun v hv => by cases hv⟩⟩⟩⟩
theorem law_tJ {D k m : Nat} {as bs : List Value} {c : Nat} {σ : am_M} {F : am_M → Option (am_R × am_M)} {G : Int32 → Int64 → am_M → Option (am_R × am_M)} (h : FwJ (D + 1) k m as bs c σ) : ∃ r1 r2 Y, am_bI (am_ex (D + 1) k as σ) (fun r1 t1 => am_bJ (am_ex (D + 1) m bs t1) (fun r2 t2 => am_bI (am_ex (D + 1) 172 [.ref 34] t2) (fun r3 t3 => if r3 = r1 then (if r1 = nI 0 then (if am_in (nI 0) 1 = true then (if lg_cmp (t3.2.1 57 (nI 0 : Int32).toNatClampNeg) r2 = nI 0 then G r1 r2 t3 else F t3) else none) else G r1 r2 t3) else F t3))) = G r1 r2 Y ∧ IvK c σ Y := by
  obtain ⟨X, code, b, Y, e1, e2, e3, e4, e5, e6⟩ := h
  refine ⟨nI code, b, Y, ?_, e6⟩
  rw [e1, bI_r, e2, bJ_r, y172t, bI_r, e3, if_pos rfl]
  by_cases e : code = 0
  · subst e
    rw [if_pos rfl, if_pos (by decide), i_cl (by omega), e5 rfl, lg_self, if_pos rfl]
  · rw [if_neg (fun z => e (nI_inj (by omega) (by omega) z))]
/-- as Fw, for an answer that is true or false -/
abbrev FwZ (D k m : Nat) (as bs : List Value) (c : Nat) (σ : am_M) : Prop := ∃ X code b Y, am_ex D k as σ = rI (nI code) X ∧ am_ex D m bs X = rI b Y ∧ Y.1 34 25 = nI code ∧ code < 4 ∧ (code = 0 → Y.2.1 57 0 = if b = nI 0 then 0 else 1) ∧ IvK c σ Y
theorem Fc.wZ {D k m k' : Nat} {as as' bs : List Value} {cod : String → Nat} {c : Nat} {σ : am_M} (hF : Fc D k m as bs cod c σ) (hk : qM m = true) (hb : okL aM bs) (hcd : ∀ E, cod E < 4) (ho : ∀ v X, am_ex D k as σ = rI v X → am_ex (D + 1) k' as' σ = rI (nI 0) (am_wJ X 57 0 (if v = nI 0 then 0 else 1))) (hx : ∀ E X, cod E ≠ 0 → am_ex D k as σ = rX E X → am_ex (D + 1) k' as' σ = rI (nI (cod E)) X) : FwZ (D + 1) k' m as' bs c σ := by
  rcases hF with ⟨v, X, e1, e2, e3⟩ | ⟨E, X, e0, e1, e2, e3⟩
  · obtain ⟨Y, f1, f2, f3, f4⟩ := e3 _ (Zr_w X (if v = nI 0 then 0 else 1))
    have h57 := keep57 hk hb f1
    refine ⟨_, 0, v, Y, ho v X e1, am_ex_mono D m bs _ _ f1, f3, by omega, fun _ => ?_, f4, by have q : (am_wJ X 57 0 (if v = nI 0 then 0 else 1)).2.2 = X.2.2 := rfl; omega⟩
    rw [h57]
    show (am_setJ X 57 _).2.1 57 0 = _
    rw [sJ_eq]
    exact if_pos rfl
  · obtain ⟨b, Y, f1, f2, f3, f4⟩ := e3 X ⟨Sm.refl X, rfl⟩
    exact ⟨X, cod E, b, Y, hx E X e0 e1, am_ex_mono D m bs _ _ f1, f3, hcd E, fun z => absurd z e0, f4, by omega⟩
theorem law_tZ {D k m : Nat} {as bs : List Value} {c : Nat} {σ : am_M} {F : am_M → Option (am_R × am_M)} {G : Int32 → Int32 → am_M → Option (am_R × am_M)} (h : FwZ (D + 1) k m as bs c σ) : ∃ r1 r2 Y, am_bI (am_ex (D + 1) k as σ) (fun r1 t1 => am_bI (am_ex (D + 1) m bs t1) (fun r2 t2 => am_bI (am_ex (D + 1) 172 [.ref 34] t2) (fun r3 t3 => if r3 = r1 then (if r1 = nI 0 then (if am_in (nI 0) 1 = true then (if r2 = nI 0 then (if lg_cmp (t3.2.1 57 (nI 0 : Int32).toNatClampNeg) (0 : Int64) = nI 0 then G r1 r2 t3 else F t3) else (if lg_cmp (t3.2.1 57 (nI 0 : Int32).toNatClampNeg) (1 : Int64) = nI 0 then G r1 r2 t3 else F t3)) else none) else G r1 r2 t3) else F t3))) = G r1 r2 Y ∧ IvK c σ Y := by
  obtain ⟨X, code, b, Y, e1, e2, e3, e4, e5, e6⟩ := h
  refine ⟨nI code, b, Y, ?_, e6⟩
  rw [e1, bI_r, e2, bI_r, y172t, bI_r, e3, if_pos rfl]
  by_cases e : code = 0
  · subst e
    rw [if_pos rfl, if_pos (by decide), i_cl (by omega), e5 rfl]
    by_cases eb : b = nI 0
    · rw [if_pos eb, if_pos eb, lg_self, if_pos rfl]
    · rw [if_neg eb, if_neg eb, lg_self, if_pos rfl]
  · rw [if_neg (fun z => e (nI_inj (by omega) (by omega) z))]
theorem law_n {D k m : Nat} {as bs : List Value} {c : Nat} {σ : am_M} {F G : am_M → Option (am_R × am_M)} (h : Fn D k m as bs c σ) : ∃ Y, am_bI (am_ex (D + 1) k as σ) (fun r1 t1 => am_bI (am_ex (D + 1) m bs t1) (fun r2 t2 => if r1 = r2 then G t2 else F t2)) = G Y ∧ IvK c σ Y := by
  obtain ⟨v, X, e1, e2, e3⟩ := h
  obtain ⟨Y, f1, f2, f4⟩ := e3 X ⟨Sm.refl X, rfl⟩
  refine ⟨Y, ?_, f4, by omega⟩
  have g1 : am_ex (D + 1) k as σ = rI v X := am_ex_mono D k as _ _ e1
  have g2 : am_ex (D + 1) m bs X = rI v Y := am_ex_mono D m bs _ _ f1
  rw [g1, bI_r, g2, bI_r, if_pos rfl]
theorem law_v {D k m : Nat} {as bs : List Value} {c : Nat} {σ : am_M} {G : am_M → Option (am_R × am_M)} (h : FV D k m as bs c σ) : ∃ Y, am_bV (am_ex (D + 1) k as σ) (fun t1 => am_bV (am_ex (D + 1) m bs t1) (fun t2 => G t2)) = G Y ∧ IvK c σ Y := by
  obtain ⟨X, e1, e2, e3⟩ := h
  obtain ⟨Y, f1, f2, f4⟩ := e3 X ⟨Sm.refl X, rfl⟩
  refine ⟨Y, ?_, f4, by omega⟩
  have g1 : am_ex (D + 1) k as σ = rV X := am_ex_mono D k as _ _ e1
  have g2 : am_ex (D + 1) m bs X = rV Y := am_ex_mono D m bs _ _ f1
  rw [g1, bV_r, g2, bV_r]
theorem lc0 (d : Nat) {Xs : am_X} (hX : 0 < Xs.1) {c : Nat} {σ : am_M} (h : IvE c σ) (hc : c < 570) (v4 : Int32) (h1 : am_in (v4 + nI 1) (Xs.1 - 1) = true) {u5 u6 : Value} : ∃ u5' u6' Y, am_go Xs (am_ex (d + 9)) ML 236 [.ref 1001, .ref 0, .ref 34, .ref 57, .int v4, u5, u6, .null] [] σ = am_go Xs (am_ex (d + 9)) ML 2785 [.ref 1001, .ref 0, .ref 34, .ref 57, .int v4, u5', u6', .null] [] Y ∧ IvK (c + 1) σ Y := by
  obtain ⟨kc, md, rc, td, lev, rk, hI⟩ := h
  generalize hx1 : Xs.2 (v4 + nI 1 : Int32).toNatClampNeg = x1
  obtain ⟨Y, e, hY⟩ := law_v (G := fun t3 => am_go Xs (am_ex (d + 9)) ML 2785 [.ref 1001, .ref 0, .ref 34, .ref 57, .int v4, u5, u6, .null] [] t3) (f97 d hI (by omega) x1)
  refine ⟨u5, u6, Y, ?_, hY⟩
  rw [ql_236 hX]
  simp only [h1, hx1, if_true]
  exact e
theorem lc1 (d : Nat) {Xs : am_X} (hX : 0 < Xs.1) {c : Nat} {σ : am_M} (h : IvE c σ) (hc : c < 570) (v4 : Int32) (h1 : am_in (v4 + nI 1) (Xs.1 - 1) = true) (h2 : am_in (v4 + nI 2) (Xs.1 - 1) = true) (h3 : am_in (v4 + nI 3) (Xs.1 - 1) = true) {u5 u6 : Value} : ∃ u5' u6' Y, am_go Xs (am_ex (d + 9)) ML 259 [.ref 1001, .ref 0, .ref 34, .ref 57, .int v4, u5, u6, .null] [] σ = am_go Xs (am_ex (d + 9)) ML 2785 [.ref 1001, .ref 0, .ref 34, .ref 57, .int v4, u5', u6', .null] [] Y ∧ IvK (c + 1) σ Y := by
  obtain ⟨kc, md, rc, td, lev, rk, hI⟩ := h
  generalize hx1 : Xs.2 (v4 + nI 1 : Int32).toNatClampNeg = x1
  generalize hx2 : Xs.2 (v4 + nI 2 : Int32).toNatClampNeg = x2
  generalize hx3 : Xs.2 (v4 + nI 3 : Int32).toNatClampNeg = x3
  have hw : Fw (d + 8 + 1) 277 202 [.ref 0, .int x1, .long ((((x2 : Int32).toInt64) <<< ((nI 32 : Int32).toInt64 &&& 63)) ||| (((x3 : Int32).toInt64) &&& (4294967295))), .ref 57] [.ref 34, .int x1, .long ((((x2 : Int32).toInt64) <<< ((nI 32 : Int32).toInt64 &&& 63)) ||| (((x3 : Int32).toInt64) &&& (4294967295)))] (c + 1) σ := (f98 d hI (by omega) x1 ((((x2 : Int32).toInt64) <<< ((nI 32 : Int32).toInt64 &&& 63)) ||| (((x3 : Int32).toInt64) &&& (4294967295)))).w (by decide) (okM3J x1 _) cdS_lt (fun v X e => wo277 x1 ((((x2 : Int32).toInt64) <<< ((nI 32 : Int32).toInt64 &&& 63)) ||| (((x3 : Int32).toInt64) &&& (4294967295))) e) (fun E X h0 e => by
    rcases cdS_x h0 with ⟨rfl, e2⟩ | ⟨rfl, e2⟩
    · rw [e2]; exact wx277_1 x1 ((((x2 : Int32).toInt64) <<< ((nI 32 : Int32).toInt64 &&& 63)) ||| (((x3 : Int32).toInt64) &&& (4294967295))) e
    · rw [e2]; exact wx277_2 x1 ((((x2 : Int32).toInt64) <<< ((nI 32 : Int32).toInt64 &&& 63)) ||| (((x3 : Int32).toInt64) &&& (4294967295))) e)
  obtain ⟨r1, r2, Y, e, hY⟩ := law_t (F := fun t3 => some (.inl (some (.int (nI 0))), t3)) (G := fun r1 r2 t3 => am_go Xs (am_ex (d + 9)) ML 2785 [.ref 1001, .ref 0, .ref 34, .ref 57, .int v4, .int r1, .int r2, .null] [] t3) hw
  refine ⟨.int r1, .int r2, Y, ?_, hY⟩
  rw [ql_259 hX]
  simp only [h1, h2, h3, hx1, hx2, hx3, if_true]
  exact e
theorem lc2 (d : Nat) {Xs : am_X} (hX : 0 < Xs.1) {c : Nat} {σ : am_M} (h : IvE c σ) (hc : c < 570) (v4 : Int32) (h1 : am_in (v4 + nI 1) (Xs.1 - 1) = true) {u5 u6 : Value} : ∃ u5' u6' Y, am_go Xs (am_ex (d + 9)) ML 359 [.ref 1001, .ref 0, .ref 34, .ref 57, .int v4, u5, u6, .null] [] σ = am_go Xs (am_ex (d + 9)) ML 2785 [.ref 1001, .ref 0, .ref 34, .ref 57, .int v4, u5', u6', .null] [] Y ∧ IvK (c + 1) σ Y := by
  obtain ⟨kc, md, rc, td, lev, rk, hI⟩ := h
  generalize hx1 : Xs.2 (v4 + nI 1 : Int32).toNatClampNeg = x1
  have hw : FwJ (d + 8 + 1) 278 203 [.ref 0, .int x1, .ref 57] [.ref 34, .int x1] (c + 1) σ := (f99 d hI (by omega) x1).w (by decide) (okM2 x1) cdN_lt (fun v X e => wo278 x1 e) (fun E X h0 e => by
    rcases cdN_x h0 with ⟨rfl, e2⟩ | ⟨rfl, e2⟩
    · rw [e2]; exact wx278_1 x1 e
    · rw [e2]; exact wx278_2 x1 e)
  obtain ⟨r1, r2, Y, e, hY⟩ := law_tJ (F := fun t3 => some (.inl (some (.int (nI 0))), t3)) (G := fun r1 r2 t3 => am_go Xs (am_ex (d + 9)) ML 2785 [.ref 1001, .ref 0, .ref 34, .ref 57, .int v4, .int r1, .long r2, .null] [] t3) hw
  refine ⟨.int r1, .long r2, Y, ?_, hY⟩
  rw [ql_359 hX]
  simp only [h1, hx1, if_true]
  exact e
theorem lc7 (d : Nat) {Xs : am_X} (hX : 0 < Xs.1) {c : Nat} {σ : am_M} (h : IvE c σ) (hc : c < 570) (v4 : Int32) (h1 : am_in (v4 + nI 1) (Xs.1 - 1) = true) (h2 : am_in (v4 + nI 2) (Xs.1 - 1) = true) {u5 u6 : Value} : ∃ u5' u6' Y, am_go Xs (am_ex (d + 9)) ML 638 [.ref 1001, .ref 0, .ref 34, .ref 57, .int v4, u5, u6, .null] [] σ = am_go Xs (am_ex (d + 9)) ML 2785 [.ref 1001, .ref 0, .ref 34, .ref 57, .int v4, u5', u6', .null] [] Y ∧ IvK (c + 1) σ Y := by
  obtain ⟨kc, md, rc, td, lev, rk, hI⟩ := h
  generalize hx1 : Xs.2 (v4 + nI 1 : Int32).toNatClampNeg = x1
  generalize hx2 : Xs.2 (v4 + nI 2 : Int32).toNatClampNeg = x2
  have hw : FwJ (d + 8 + 1) 283 209 [.ref 0, .int x1, .int x2, .ref 57] [.ref 34, .int x1, .int x2] (c + 1) σ := (f104 d hI (by omega) x1 x2).w (by decide) (okM3 x1 x2) cdN_lt (fun v X e => wo283 x1 x2 e) (fun E X h0 e => by
    rcases cdN_x h0 with ⟨rfl, e2⟩ | ⟨rfl, e2⟩
    · rw [e2]; exact wx283_1 x1 x2 e
    · rw [e2]; exact wx283_2 x1 x2 e)
  obtain ⟨r1, r2, Y, e, hY⟩ := law_tJ (F := fun t3 => some (.inl (some (.int (nI 0))), t3)) (G := fun r1 r2 t3 => am_go Xs (am_ex (d + 9)) ML 2785 [.ref 1001, .ref 0, .ref 34, .ref 57, .int v4, .int r1, .long r2, .null] [] t3) hw
  refine ⟨.int r1, .long r2, Y, ?_, hY⟩
  rw [ql_638 hX]
  simp only [h1, h2, hx1, hx2, if_true]
  exact e
theorem lc34 (d : Nat) {Xs : am_X} (hX : 0 < Xs.1) {c : Nat} {σ : am_M} (h : IvE c σ) (hc : c < 570) (v4 : Int32) (h1 : am_in (v4 + nI 1) (Xs.1 - 1) = true) (h2 : am_in (v4 + nI 2) (Xs.1 - 1) = true) (h3 : am_in (v4 + nI 3) (Xs.1 - 1) = true) {u5 u6 : Value} : ∃ u5' u6' Y, am_go Xs (am_ex (d + 9)) ML 2109 [.ref 1001, .ref 0, .ref 34, .ref 57, .int v4, u5, u6, .null] [] σ = am_go Xs (am_ex (d + 9)) ML 2785 [.ref 1001, .ref 0, .ref 34, .ref 57, .int v4, u5', u6', .null] [] Y ∧ IvK (c + 1) σ Y := by
  obtain ⟨kc, md, rc, td, lev, rk, hI⟩ := h
  generalize hx1 : Xs.2 (v4 + nI 1 : Int32).toNatClampNeg = x1
  generalize hx2 : Xs.2 (v4 + nI 2 : Int32).toNatClampNeg = x2
  generalize hx3 : Xs.2 (v4 + nI 3 : Int32).toNatClampNeg = x3
  have hw : FwJ (d + 8 + 1) 305 255 [.ref 0, .int x1, .int x2, .int x3, .ref 57] [.ref 34, .int x1, .int x2, .int x3] (c + 1) σ := (f131 d hI (by omega) x1 x2 x3).w (by decide) (okM4 x1 x2 x3) cdA_lt (fun v X e => wo305 x1 x2 x3 e) (fun E X h0 e => by
    rcases cdA_x h0 with ⟨rfl, e2⟩ | ⟨rfl, e2⟩
    · rw [e2]; exact wx305_1 x1 x2 x3 e
    · rw [e2]; exact wx305_2 x1 x2 x3 e)
  obtain ⟨r1, r2, Y, e, hY⟩ := law_tJ (F := fun t3 => some (.inl (some (.int (nI 0))), t3)) (G := fun r1 r2 t3 => am_go Xs (am_ex (d + 9)) ML 2785 [.ref 1001, .ref 0, .ref 34, .ref 57, .int v4, .int r1, .long r2, .null] [] t3) hw
  refine ⟨.int r1, .long r2, Y, ?_, hY⟩
  rw [ql_2109 hX]
  simp only [h1, h2, h3, hx1, hx2, hx3, if_true]
  exact e
theorem lc20 (d : Nat) {Xs : am_X} (hX : 0 < Xs.1) {c : Nat} {σ : am_M} (h : IvE c σ) (hc : c < 570) (v4 : Int32) (h1 : am_in (v4 + nI 1) (Xs.1 - 1) = true) {u5 u6 : Value} : ∃ u5' u6' Y, am_go Xs (am_ex (d + 9)) ML 1359 [.ref 1001, .ref 0, .ref 34, .ref 57, .int v4, u5, u6, .null] [] σ = am_go Xs (am_ex (d + 9)) ML 2785 [.ref 1001, .ref 0, .ref 34, .ref 57, .int v4, u5', u6', .null] [] Y ∧ IvK (c + 1) σ Y := by
  obtain ⟨kc, md, rc, td, lev, rk, hI⟩ := h
  generalize hx1 : Xs.2 (v4 + nI 1 : Int32).toNatClampNeg = x1
  have key := fun (b : Int32) => law_t (F := fun t3 => some (.inl (some (.int (nI 0))), t3)) (G := fun r1 r2 t3 => am_go Xs (am_ex (d + 9)) ML 2785 [.ref 1001, .ref 0, .ref 34, .ref 57, .int v4, .int r1, .int r2, .null] [] t3) (k := 293) (m := 230) (as := [.ref 0, .int b, .ref 57]) (bs := [.ref 34, .int b]) (c := c + 1) (σ := σ) (D := d + 8) ((f117 d hI hc b).w (by decide) (okM2 b) cS1_lt (fun v X e => wo293 b e) (fun E X h0 e => by
    rcases cS1_x h0 with ⟨rfl, e2⟩
    · rw [e2]; exact wx293_1 b e))
  by_cases hb : x1 = nI 0
  · obtain ⟨r1, r2, Y, e, hY⟩ := key (nI 0)
    refine ⟨.int r1, .int r2, Y, ?_, hY⟩
    rw [ql_1359 hX]
    simp only [h1, hx1, if_true, if_pos hb]
    exact e
  · obtain ⟨r1, r2, Y, e, hY⟩ := key (nI 1)
    refine ⟨.int r1, .int r2, Y, ?_, hY⟩
    rw [ql_1359 hX]
    simp only [h1, hx1, if_true, if_neg hb]
    exact e
theorem lc13 (d : Nat) {Xs : am_X} (hX : 0 < Xs.1) {c : Nat} {σ : am_M} (h : IvE c σ) (hc : c < 570) (v4 : Int32) (h1 : am_in (v4 + nI 1) (Xs.1 - 1) = true) (h2 : am_in (v4 + nI 2) (Xs.1 - 1) = true) {u5 u6 : Value} : ∃ u5' u6' Y, am_go Xs (am_ex (d + 9)) ML 1021 [.ref 1001, .ref 0, .ref 34, .ref 57, .int v4, u5, u6, .null] [] σ = am_go Xs (am_ex (d + 9)) ML 2785 [.ref 1001, .ref 0, .ref 34, .ref 57, .int v4, u5', u6', .null] [] Y ∧ IvK (c + 1) σ Y := by
  obtain ⟨kc, md, rc, td, lev, rk, hI⟩ := h
  generalize hx1 : Xs.2 (v4 + nI 1 : Int32).toNatClampNeg = x1
  generalize hx2 : Xs.2 (v4 + nI 2 : Int32).toNatClampNeg = x2
  have key := fun (b : Int32) (hb : b = nI 0 ∨ b = nI 1) => law_tZ (F := fun t3 => some (.inl (some (.int (nI 0))), t3)) (G := fun r1 r2 t3 => am_go Xs (am_ex (d + 9)) ML 2785 [.ref 1001, .ref 0, .ref 34, .ref 57, .int v4, .int r1, .int r2, .null] [] t3) (k := 289) (m := 225) (as := [.ref 0, .int x1, .int b, .ref 57]) (bs := [.ref 34, .int x1, .int b]) (c := c + 1) (σ := σ) (D := d + 8) (Fc.wZ (f110 d hI (by omega) x1 b hb) (by decide) (okM3 x1 b) cdS_lt (fun v X e => wo289 x1 b e) (fun E X h0 e => by
    rcases cdS_x h0 with ⟨rfl, e2⟩ | ⟨rfl, e2⟩
    · rw [e2]; exact wx289_1 x1 b e
    · rw [e2]; exact wx289_2 x1 b e))
  by_cases hb : x2 = nI 0
  · obtain ⟨r1, r2, Y, e, hY⟩ := key (nI 0) (Or.inl rfl)
    refine ⟨.int r1, .int r2, Y, ?_, hY⟩
    rw [ql_1021 hX]
    simp only [h1, h2, hx1, hx2, if_true, if_pos hb]
    exact e
  · obtain ⟨r1, r2, Y, e, hY⟩ := key (nI 1) (Or.inr rfl)
    refine ⟨.int r1, .int r2, Y, ?_, hY⟩
    rw [ql_1021 hX]
    simp only [h1, h2, hx1, hx2, if_true, if_neg hb]
    exact e
theorem lc14 (d : Nat) {Xs : am_X} (hX : 0 < Xs.1) {c : Nat} {σ : am_M} (h : IvE c σ) (hc : c < 570) (v4 : Int32) {u5 u6 : Value} : ∃ u5' u6' Y, am_go Xs (am_ex (d + 9)) ML 1112 [.ref 1001, .ref 0, .ref 34, .ref 57, .int v4, u5, u6, .null] [] σ = am_go Xs (am_ex (d + 9)) ML 2785 [.ref 1001, .ref 0, .ref 34, .ref 57, .int v4, u5', u6', .null] [] Y ∧ IvK (c + 1) σ Y := by
  obtain ⟨kc, md, rc, td, lev, rk, hI⟩ := h
  obtain ⟨Y, e, hY⟩ := law_n (F := fun t3 => some (.inl (some (.int (nI 0))), t3)) (G := fun t3 => am_go Xs (am_ex (d + 9)) ML 2785 [.ref 1001, .ref 0, .ref 34, .ref 57, .int v4, u5, u6, .null] [] t3) (f111 d hI (by omega))
  refine ⟨u5, u6, Y, ?_, hY⟩
  rw [ql_1112 hX]
  exact e
theorem lc17 (d : Nat) {Xs : am_X} (hX : 0 < Xs.1) {c : Nat} {σ : am_M} (h : IvE c σ) (hc : c < 570) (v4 : Int32) {u5 u6 : Value} : ∃ u5' u6' Y, am_go Xs (am_ex (d + 9)) ML 1249 [.ref 1001, .ref 0, .ref 34, .ref 57, .int v4, u5, u6, .null] [] σ = am_go Xs (am_ex (d + 9)) ML 2785 [.ref 1001, .ref 0, .ref 34, .ref 57, .int v4, u5', u6', .null] [] Y ∧ IvK (c + 1) σ Y := by
  obtain ⟨kc, md, rc, td, lev, rk, hI⟩ := h
  obtain ⟨Y, e, hY⟩ := law_n (F := fun t3 => some (.inl (some (.int (nI 0))), t3)) (G := fun t3 => am_go Xs (am_ex (d + 9)) ML 2785 [.ref 1001, .ref 0, .ref 34, .ref 57, .int v4, u5, u6, .null] [] t3) (f114 d hI (by omega))
  refine ⟨u5, u6, Y, ?_, hY⟩
  rw [ql_1249 hX]
  exact e
theorem lc21 (d : Nat) {Xs : am_X} (hX : 0 < Xs.1) {c : Nat} {σ : am_M} (h : IvE c σ) (hc : c < 570) (v4 : Int32) {u5 u6 : Value} : ∃ u5' u6' Y, am_go Xs (am_ex (d + 9)) ML 1431 [.ref 1001, .ref 0, .ref 34, .ref 57, .int v4, u5, u6, .null] [] σ = am_go Xs (am_ex (d + 9)) ML 2785 [.ref 1001, .ref 0, .ref 34, .ref 57, .int v4, u5', u6', .null] [] Y ∧ IvK (c + 1) σ Y := by
  obtain ⟨kc, md, rc, td, lev, rk, hI⟩ := h
  obtain ⟨Y, e, hY⟩ := law_n (F := fun t3 => some (.inl (some (.int (nI 0))), t3)) (G := fun t3 => am_go Xs (am_ex (d + 9)) ML 2785 [.ref 1001, .ref 0, .ref 34, .ref 57, .int v4, u5, u6, .null] [] t3) (f118 d hI (by omega))
  refine ⟨u5, u6, Y, ?_, hY⟩
  rw [ql_1431 hX]
  exact e
theorem lc32 (d : Nat) {Xs : am_X} (hX : 0 < Xs.1) {c : Nat} {σ : am_M} (h : IvE c σ) (hc : c < 570) (v4 : Int32) {u5 u6 : Value} : ∃ u5' u6' Y, am_go Xs (am_ex (d + 9)) ML 2028 [.ref 1001, .ref 0, .ref 34, .ref 57, .int v4, u5, u6, .null] [] σ = am_go Xs (am_ex (d + 9)) ML 2785 [.ref 1001, .ref 0, .ref 34, .ref 57, .int v4, u5', u6', .null] [] Y ∧ IvK (c + 1) σ Y := by
  obtain ⟨kc, md, rc, td, lev, rk, hI⟩ := h
  obtain ⟨Y, e, hY⟩ := law_n (F := fun t3 => some (.inl (some (.int (nI 0))), t3)) (G := fun t3 => am_go Xs (am_ex (d + 9)) ML 2785 [.ref 1001, .ref 0, .ref 34, .ref 57, .int v4, u5, u6, .null] [] t3) (f129 d hI (by omega))
  refine ⟨u5, u6, Y, ?_, hY⟩
  rw [ql_2028 hX]
  exact e
theorem lc40 (d : Nat) {Xs : am_X} (hX : 0 < Xs.1) {c : Nat} {σ : am_M} (h : IvE c σ) (hc : c < 570) (v4 : Int32) {u5 u6 : Value} : ∃ u5' u6' Y, am_go Xs (am_ex (d + 9)) ML 2456 [.ref 1001, .ref 0, .ref 34, .ref 57, .int v4, u5, u6, .null] [] σ = am_go Xs (am_ex (d + 9)) ML 2785 [.ref 1001, .ref 0, .ref 34, .ref 57, .int v4, u5', u6', .null] [] Y ∧ IvK (c + 1) σ Y := by
  obtain ⟨kc, md, rc, td, lev, rk, hI⟩ := h
  obtain ⟨Y, e, hY⟩ := law_n (F := fun t3 => some (.inl (some (.int (nI 0))), t3)) (G := fun t3 => am_go Xs (am_ex (d + 9)) ML 2785 [.ref 1001, .ref 0, .ref 34, .ref 57, .int v4, u5, u6, .null] [] t3) (f137 d hI (by omega))
  refine ⟨u5, u6, Y, ?_, hY⟩
  rw [ql_2456 hX]
  exact e
theorem lc18 (d : Nat) {Xs : am_X} (hX : 0 < Xs.1) {c : Nat} {σ : am_M} (h : IvE c σ) (hc : c < 570) (v4 : Int32) (h1 : am_in (v4 + nI 1) (Xs.1 - 1) = true) {u5 u6 : Value} : ∃ u5' u6' Y, am_go Xs (am_ex (d + 9)) ML 1262 [.ref 1001, .ref 0, .ref 34, .ref 57, .int v4, u5, u6, .null] [] σ = am_go Xs (am_ex (d + 9)) ML 2785 [.ref 1001, .ref 0, .ref 34, .ref 57, .int v4, u5', u6', .null] [] Y ∧ IvK (c + 1) σ Y := by
  obtain ⟨kc, md, rc, td, lev, rk, hI⟩ := h
  generalize hx1 : Xs.2 (v4 + nI 1 : Int32).toNatClampNeg = x1
  by_cases hb : x1 = nI 0
  · obtain ⟨Y, e, hY⟩ := law_n (F := fun t3 => some (.inl (some (.int (nI 0))), t3)) (G := fun t3 => am_go Xs (am_ex (d + 9)) ML 2785 [.ref 1001, .ref 0, .ref 34, .ref 57, .int v4, u5, u6, .null] [] t3) (f115 d hI (by omega) false)
    refine ⟨u5, u6, Y, ?_, hY⟩
    rw [ql_1262 hX]
    simp only [h1, hx1, if_true, if_pos hb]
    exact e
  · obtain ⟨Y, e, hY⟩ := law_n (F := fun t3 => some (.inl (some (.int (nI 0))), t3)) (G := fun t3 => am_go Xs (am_ex (d + 9)) ML 2785 [.ref 1001, .ref 0, .ref 34, .ref 57, .int v4, u5, u6, .null] [] t3) (f115 d hI (by omega) true)
    refine ⟨u5, u6, Y, ?_, hY⟩
    rw [ql_1262 hX]
    simp only [h1, hx1, if_true, if_neg hb]
    exact e
theorem law_case (d : Nat) {Xs : am_X} (hX : 0 < Xs.1) {c : Nat} {σ : am_M} (h : IvE c σ) (hc : c < 570) (v4 : Int32) (h1 : am_in (v4 + nI 1) (Xs.1 - 1) = true) (h2 : am_in (v4 + nI 2) (Xs.1 - 1) = true) (h3 : am_in (v4 + nI 3) (Xs.1 - 1) = true) {u5 u6 : Value} : ∀ (k : Nat), k < 64 → ∃ u5' u6' Y, am_go Xs (am_ex (d + 9)) ML 39 [.ref 1001, .ref 0, .ref 34, .ref 57, .int v4, u5, u6, .null] [.int (nI k)] σ = am_go Xs (am_ex (d + 9)) ML 2785 [.ref 1001, .ref 0, .ref 34, .ref 57, .int v4, u5', u6', .null] [] Y ∧ IvK (c + 1) σ Y
  | 0, _ => by rw [ql_39_0 hX]; exact lc0 d hX h hc v4 h1
  | 1, _ => by rw [ql_39_1 hX]; exact lc1 d hX h hc v4 h1 h2 h3
  | 2, _ => by rw [ql_39_2 hX]; exact lc2 d hX h hc v4 h1
  | 3, _ => by rw [ql_39_3 hX]; exact lc3 d hX h hc v4 h1
  | 4, _ => by rw [ql_39_4 hX]; exact lc4 d hX h hc v4 h1
  | 5, _ => by rw [ql_39_5 hX]; exact lc5 d hX h hc v4 h1
  | 6, _ => by rw [ql_39_6 hX]; exact lc6 d hX h hc v4 h1
  | 7, _ => by rw [ql_39_7 hX]; exact lc7 d hX h hc v4 h1 h2
  | 8, _ => by rw [ql_39_8 hX]; exact lc8 d hX h hc v4 h1 h2
  | 9, _ => by rw [ql_39_9 hX]; exact lc9 d hX h hc v4 h1 h2
  | 10, _ => by rw [ql_39_10 hX]; exact lc10 d hX h hc v4 h1 h2
  | 11, _ => by rw [ql_39_11 hX]; exact lc11 d hX h hc v4 h1
  | 12, _ => by rw [ql_39_12 hX]; exact lc12 d hX h hc v4 h1
  | 13, _ => by rw [ql_39_13 hX]; exact lc13 d hX h hc v4 h1 h2
  | 14, _ => by rw [ql_39_14 hX]; exact lc14 d hX h hc v4
  | 15, _ => by rw [ql_39_15 hX]; exact lc15 d hX h hc v4 h1 h2
  | 16, _ => by rw [ql_39_16 hX]; exact lc16 d hX h hc v4 h1
  | 17, _ => by rw [ql_39_17 hX]; exact lc17 d hX h hc v4
  | 18, _ => by rw [ql_39_18 hX]; exact lc18 d hX h hc v4 h1
  | 19, _ => by rw [ql_39_19 hX]; exact lc19 d hX h hc v4 h1
  | 20, _ => by rw [ql_39_20 hX]; exact lc20 d hX h hc v4 h1
  | 21, _ => by rw [ql_39_21 hX]; exact lc21 d hX h hc v4
  | 22, _ => by rw [ql_39_22 hX]; exact lc22 d hX h hc v4 h1
  | 23, _ => by rw [ql_39_23 hX]; exact lc23 d hX h hc v4 h1
  | 24, _ => by rw [ql_39_24 hX]; exact lc24 d hX h hc v4 h1
  | 25, _ => by rw [ql_39_25 hX]; exact lc25 d hX h hc v4 h1 h2
  | 26, _ => by rw [ql_39_26 hX]; exact lc26 d hX h hc v4 h1
  | 27, _ => by rw [ql_39_27 hX]; exact lc27 d hX h hc v4 h1 h2
  | 28, _ => by rw [ql_39_28 hX]; exact lc28 d hX h hc v4 h1
  | 29, _ => by rw [ql_39_29 hX]; exact lc29 d hX h hc v4 h1 h2
  | 30, _ => by rw [ql_39_30 hX]; exact lc30 d hX h hc v4 h1
  | 31, _ => by rw [ql_39_31 hX]; exact lc31 d hX h hc v4
  | 32, _ => by rw [ql_39_32 hX]; exact lc32 d hX h hc v4
  | 33, _ => by rw [ql_39_33 hX]; exact lc33 d hX h hc v4 h1 h2
  | 34, _ => by rw [ql_39_34 hX]; exact lc34 d hX h hc v4 h1 h2 h3
  | 35, _ => by rw [ql_39_35 hX]; exact lc35 d hX h hc v4 h1
  | 36, _ => by rw [ql_39_36 hX]; exact lc36 d hX h hc v4 h1
  | 37, _ => by rw [ql_39_37 hX]; exact lc37 d hX h hc v4 h1
  | 38, _ => by rw [ql_39_38 hX]; exact lc38 d hX h hc v4 h1
  | 39, _ => by rw [ql_39_39 hX]; exact lc39 d hX h hc v4
  | 40, _ => by rw [ql_39_40 hX]; exact lc40 d hX h hc v4
  | 41, _ => by rw [ql_39_41 hX]; exact lc41 d hX h hc v4 h1
  | 42, _ => by rw [ql_39_42 hX]; exact lc42 d hX h hc v4 h1 h2
  | 43, _ => by rw [ql_39_43 hX]; exact lc43 d hX h hc v4 h1 h2
  | 44, _ => by rw [ql_39_44 hX]; exact lc44 d hX h hc v4 h1
  | 45, _ => by rw [ql_39_45 hX]; exact lc45 d hX h hc v4 h1 h2
  | k + 46, hk => by
    refine ⟨u5, u6, σ, ql_39_d hX _ σ v4 (Or.inr ?_), ?_⟩
    · rw [i_n (show k + 46 < 2 ^ 31 by omega)]; omega
    · obtain ⟨kc, md, rc, td, lev, rk, hI⟩ := h
      exact ⟨⟨kc, md, rc, td, lev, rk, hI.up (by omega) (by omega)⟩, by omega⟩
end CA3
