/-! the law's cases -/
section CAS
abbrev FwJ (D k m : Nat) (as bs : List Value) (c : Nat) (σ : am_M) : Prop := ∃ X code b Y, am_ex D k as σ = rI (nI code) X ∧ am_ex D m bs X = rJ b Y ∧ Y.1 34 25 = nI code ∧ code < 4 ∧ (code = 0 → Y.2.1 57 0 = b) ∧ IvE c Y
theorem FcJ.w {D k m k' : Nat} {as as' bs : List Value} {cod : String → Nat} {c : Nat} {σ : am_M} (hF : FcJ D k m as bs cod c σ) (hk : qM m = true) (hb : okL aM bs) (hcd : ∀ E, cod E < 4) (ho : ∀ v X, am_ex D k as σ = rJ v X → am_ex (D + 1) k' as' σ = rI (nI 0) (am_wJ X 57 0 v)) (hx : ∀ E X, cod E ≠ 0 → am_ex D k as σ = rX E X → am_ex (D + 1) k' as' σ = rI (nI (cod E)) X) : FwJ (D + 1) k' m as' bs c σ := by
  rcases hF with ⟨v, X, e1, e2, e3⟩ | ⟨E, X, e0, e1, e2, e3⟩
  · obtain ⟨Y, f1, f2, f3, f4⟩ := e3 _ (Zr_w X v)
    have h57 := keep57 hk hb f1
    refine ⟨_, 0, v, Y, ho v X e1, am_ex_mono D m bs _ _ f1, f3, by omega, fun _ => ?_, f4⟩
    rw [h57]
    show (am_setJ X 57 _).2.1 57 0 = _
    rw [sJ_eq]
    exact if_pos rfl
  · obtain ⟨b, Y, f1, f2, f3, f4⟩ := e3 X ⟨Sm.refl X, rfl⟩
    exact ⟨X, cod E, b, Y, hx E X e0 e1, am_ex_mono D m bs _ _ f1, f3, hcd E, fun z => absurd z e0, f4⟩
theorem lg_self (x : Int64) : lg_cmp x x = nI 0 := by
  unfold lg_cmp
  simp
  rfl
theorem y172t (d : Nat) (Y : am_M) : am_ex (d + 1) 172 [.ref 34] Y = rI (Y.1 34 25) Y := by
  rw [e172, q172_0]
theorem law_t {D k m : Nat} {as bs : List Value} {c : Nat} {σ : am_M} {F : am_M → Option (am_R × am_M)} {G : Int32 → Int32 → am_M → Option (am_R × am_M)} (h : Fw (D + 1) k m as bs c σ) : ∃ r1 r2 Y, am_bI (am_ex (D + 1) k as σ) (fun r1 t1 => am_bI (am_ex (D + 1) m bs t1) (fun r2 t2 => am_bI (am_ex (D + 1) 172 [.ref 34] t2) (fun r3 t3 => if r3 = r1 then (if r1 = nI 0 then (if am_in (nI 0) 1 = true then (if lg_cmp (t3.2.1 57 (nI 0 : Int32).toNatClampNeg) ((r2 : Int32).toInt64) = nI 0 then G r1 r2 t3 else F t3) else none) else G r1 r2 t3) else F t3))) = G r1 r2 Y ∧ IvE c Y := by
  obtain ⟨X, code, b, Y, e1, e2, e3, e4, e5, e6⟩ := h
  refine ⟨nI code, b, Y, ?_, e6⟩
  rw [e1, bI_r, e2, bI_r, y172t, bI_r, e3, if_pos rfl]
  by_cases e : code = 0
  · subst e
    rw [if_pos rfl, if_pos (by decide), i_cl (by omega), e5 rfl, lg_self, if_pos rfl]
  · rw [if_neg (fun z => e (nI_inj (by omega) (by omega) z))]
end CAS
