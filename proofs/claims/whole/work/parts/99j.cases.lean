/-! the law's cases -/
section CAS
abbrev FwJ (D k m : Nat) (as bs : List Value) (c : Nat) (σ : am_M) : Prop := ∃ X code b Y, am_ex D k as σ = rI (nI code) X ∧ am_ex D m bs X = rJ b Y ∧ Y.1 34 25 = nI code ∧ code < 4 ∧ (code = 0 → Y.2.1 57 0 = b) ∧ IvE c Y
theorem FcJ.w {D k m k' : Nat} {as as' bs : List Value} {cod : String → Nat} {c : Nat} {σ : am_M} (hF : FcJ D k m as bs cod c σ) (hk : qM m = true) (hb : okL aM bs) (hcd : ∀ E, cod E < 4) (ho : ∀ v X, am_ex D k as σ = rJ v X → am_ex (D + 1) k' as' σ = rI (nI 0) (am_wJ X 57 0 v)) (hx : ∀ E X, cod E ≠ 0 → am_ex D k as σ = rX E X → am_ex (D + 1) k' as' σ = rI (nI (cod E)) X) : FwJ (D + 1) k' m as' bs c σ := by
  rcases hF with ⟨v, X, e1, e2, e3⟩ | ⟨E, X, e0, e1, e2, e3⟩
  · obtain ⟨Y, f1, f2, f3, f4⟩ := e3 _ (Zr_w X v)
    have h57 := keep57 hk hb f1
    refine ⟨_, 0, v, Y, ho v X e1, am_ex_mono D m bs _ _ f1, f3, by omega, fun _ => ?_, f4⟩
    rw [h57]
    show (am_setJ X 57 _).2.1 57 0 = _
    rw [sJ_eq]
    exact if_pos rfl
  · obtain ⟨b, Y, f1, f2, f3, f4⟩ := e3 X ⟨Sm.refl X, rfl⟩
    exact ⟨X, cod E, b, Y, hx E X e0 e1, am_ex_mono D m bs _ _ f1, f3, hcd E, fun z => absurd z e0, f4⟩
end CAS
