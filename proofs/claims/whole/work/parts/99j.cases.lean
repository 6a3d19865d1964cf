/-! the law's cases -/
section CAS
abbrev FwJ (D k m : Nat) (as bs : List Value) (c : Nat) (σ : am_M) : Prop := ∃ X code b Y, am_ex D k as σ = rI (nI code) X ∧ am_ex D m bs X = rJ b Y ∧ Y.1 34 25 = nI code ∧ code < 4 ∧ (code = 0 → Y.2.1 57 0 = b) ∧ IvK c σ Y
theorem FcJ.w {D k m k' : Nat} {as as' bs : List Value} {cod : String → Nat} {c : Nat} {σ : am_M} (hF : FcJ D k m as bs cod c σ) (hk : qM m = true) (hb : okL aM bs) (hcd : ∀ E, cod E < 4) (ho : ∀ v X, am_ex D k as σ = rJ v X → am_ex (D + 1) k' as' σ = rI (nI 0) (am_wJ X 57 0 v)) (hx : ∀ E X, cod E ≠ 0 → am_ex D k as σ = rX E X → am_ex (D + 1) k' as' σ = rI (nI (cod E)) X) : FwJ (D + 1) k' m as' bs c σ := by
  rcases hF with ⟨v, X, e1, e2, e3⟩ | ⟨E, X, e0, e1, e2, e3⟩
  · obtain ⟨Y, f1, f2, f3, f4⟩ := e3 _ (Zr_w X v)
    have h57 := keep57 hk hb f1
    refine ⟨_, 0, v, Y, ho v X e1, am_ex_mono D m bs _ _ f1, f3, by omega, fun _ => ?_, f4, by have q : (am_wJ X 57 0 v).2.2 = X.2.2 := rfl; omega⟩
    rw [h57]
    show (am_setJ X 57 _).2.1 57 0 = _
    rw [sJ_eq]
    exact if_pos rfl
  · obtain ⟨b, Y, f1, f2, f3, f4⟩ := e3 X ⟨Sm.refl X, rfl⟩
    exact ⟨X, cod E, b, Y, hx E X e0 e1, am_ex_mono D m bs _ _ f1, f3, hcd E, fun z => absurd z e0, f4, by omega⟩
theorem lg_self (x : Int64) : lg_cmp x x = nI 0 := by
  unfold lg_cmp
  simp
  rfl
theorem y172t (d : Nat) (Y : am_M) : am_ex (d + 1) 172 [.ref 34] Y = rI (Y.1 34 25) Y := by
  rw [e172, q172_0]
theorem law_t {D k m : Nat} {as bs : List Value} {c : Nat} {σ : am_M} {F : am_M → Option (am_R × am_M)} {G : Int32 → Int32 → am_M → Option (am_R × am_M)} (h : Fw (D + 1) k m as bs c σ) : ∃ r1 r2 Y, am_bI (am_ex (D + 1) k as σ) (fun r1 t1 => am_bI (am_ex (D + 1) m bs t1) (fun r2 t2 => am_bI (am_ex (D + 1) 172 [.ref 34] t2) (fun r3 t3 => if r3 = r1 then (if r1 = nI 0 then (if am_in (nI 0) 1 = true then (if lg_cmp (t3.2.1 57 (nI 0 : Int32).toNatClampNeg) ((r2 : Int32).toInt64) = nI 0 then G r1 r2 t3 else F t3) else none) else G r1 r2 t3) else F t3))) = G r1 r2 Y ∧ IvK c σ Y := by
  obtain ⟨X, code, b, Y, e1, e2, e3, e4, e5, e6⟩ := h
  refine ⟨nI code, b, Y, ?_, e6⟩
  rw [e1, bI_r, e2, bI_r, y172t, bI_r, e3, if_pos rfl]
  by_cases e : code = 0
  · subst e
    rw [if_pos rfl, if_pos (by decide), i_cl (by omega), e5 rfl, lg_self, if_pos rfl]
  · rw [if_neg (fun z => e (nI_inj (by omega) (by omega) z))]
theorem cO_lt (E : String) : cO E < 4 := by unfold cO; split <;> omega
theorem cO_x {E : String} (h : cO E ≠ 0) : E = xIO ∧ cO E = 1 := by
  unfold cO at h ⊢
  by_cases e : E = xIO
  · rw [if_pos e]; exact ⟨e, rfl⟩
  · rw [if_neg e] at h; exact absurd rfl h
theorem lc3 (d : Nat) {Xs : am_X} (hX : 0 < Xs.1) {c : Nat} {σ : am_M} (h : IvE c σ) (hc : c < 570) (v4 : Int32) (h1 : am_in (v4 + nI 1) (Xs.1 - 1) = true) {u5 u6 : Value} : ∃ u5' u6' Y, am_go Xs (am_ex (d + 9)) ML 414 [.ref 1001, .ref 0, .ref 34, .ref 57, .int v4, u5, u6, .null] [] σ = am_go Xs (am_ex (d + 9)) ML 2785 [.ref 1001, .ref 0, .ref 34, .ref 57, .int v4, u5', u6', .null] [] Y ∧ IvK (c + 1) σ Y := by
  obtain ⟨kc, md, rc, td, lev, rk, hI⟩ := h
  generalize hx : Xs.2 (v4 + nI 1 : Int32).toNatClampNeg = x
  have hw : Fw (d + 8 + 1) 279 204 [.ref 0, .int x, .ref 57] [.ref 34, .int x] (c + 1) σ := (f100 d hI (by omega) x).w (by decide) (okM2 x) cO_lt (fun v X e => wo279 x e) (fun E X h0 e => by
    obtain ⟨rfl, e2⟩ := cO_x h0
    rw [e2]; exact wx279_1 x e)
  obtain ⟨r1, r2, Y, e, hY⟩ := law_t (F := fun t3 => some (.inl (some (.int (nI 0))), t3)) (G := fun r1 r2 t3 => am_go Xs (am_ex (d + 9)) ML 2785 [.ref 1001, .ref 0, .ref 34, .ref 57, .int v4, .int r1, .int r2, .null] [] t3) hw
  refine ⟨.int r1, .int r2, Y, ?_, hY⟩
  rw [ql_414 hX]
  simp only [h1, hx, if_true]
  exact e
end CAS
