/-! the class's search, whole -/
section SRD
variable (d : Nat) {c kc md rc td : Nat} {lev rk : Nat → Nat} {σ : am_M} (g : Nat → Int32) {gr : Nat → Nat} {O : Nat → Prop}
theorem EdU_s {lo m x y : Nat} (h : EdU kc σ lo (m + 1) x y) : EdU kc σ lo m x y ∨ EdU kc σ m (m + 1) x y := by
  obtain ⟨m', i, h1, h2, h3⟩ := h
  by_cases e : m' = m
  · exact Or.inr ⟨m', i, by omega, by omega, h3⟩
  · exact Or.inl ⟨m', i, h1, by omega, h3⟩
theorem EdU_w {lo hi m x y : Nat} (h : EdU kc σ m (m + 1) x y) (h1 : lo ≤ m) (h2 : m < hi) : EdU kc σ lo hi x y := by
  obtain ⟨m', i, h3, h4, h5⟩ := h
  exact ⟨m', i, by omega, by omega, h5⟩
theorem RcE_s {lo m x y : Nat} (h : RcE kc rc σ lo (m + 1) x y) : RcE kc rc σ lo m x y ∨ RcE kc rc σ m (m + 1) x y := by
  obtain ⟨m', i, h1, h2, h3⟩ := h
  by_cases e : m' = m
  · exact Or.inr ⟨m', i, by omega, by omega, h3⟩
  · exact Or.inl ⟨m', i, h1, by omega, h3⟩
theorem RcE_w {lo hi m x y : Nat} (h : RcE kc rc σ m (m + 1) x y) (h1 : lo ≤ m) (h2 : m < hi) : RcE kc rc σ lo hi x y := by
  obtain ⟨m', i, h3, h4, h5⟩ := h
  exact ⟨m', i, by omega, by omega, h5⟩
theorem RcE_0 {lo x y : Nat} : ¬ RcE kc rc σ lo lo x y := fun ⟨m', i, h1, h2, _⟩ => by omega
theorem EdU_0 {lo x y : Nat} : ¬ EdU kc σ lo lo x y := fun ⟨m', i, h1, h2, _⟩ => by omega
/-- keys around wanted records, one medium -/
theorem x69i (h : Inv0 c kc md rc td lev rk σ) {m : Nat} (hm : m < md) (hg3 : ∀ k, gr k ≤ 3) {f : Nat → Int32} (hF : SR kc gr O f) (hB : ∀ r k, RcE kc rc σ 0 md r k → ¬ g r = nI 0 → gr k = 0 ∧ O k) {u3 : Value} (hu3 : (!(u3.category == 2)) = true) : ∃ f' u', am_go am_X0 (am_ex (d + 3)) M69 15 [.ref 5, .int (nI m), .int (nI 0), u3] [] (S2 σ f g) = am_go am_X0 (am_ex (d + 3)) M69 2 [.ref 5, .int (nI (m + 1)), .int (nI (zn (σ.1 21) m)), u'] [] (S2 σ f' g) ∧ (!(u'.category == 2)) = true ∧ SR kc gr O f' ∧ Mn f f' ∧ ∀ r k, RcE kc rc σ m (m + 1) r k → ¬ g r = nI 0 → ¬ f' k = nI 0 := by
  have hkl := h.kl
  have hmb := h.core.mdb
  have hrb := h.core.rcb
  obtain ⟨hz1, hz2, _⟩ := h.core.med m hm
  obtain ⟨⟨f', u⟩, e1, hu, i1, i2, i3⟩ := lp_inv (fun i (p : (Nat → Int32) × Value) => (!(p.2.category == 2)) = true ∧ SR kc gr O p.1 ∧ Mn f p.1 ∧ ∀ i', i' < i → ∀ r k, σ.1 22 (m * 150 + i') = nI 1 → σ.1 23 (m * 150 + i') = nI r → σ.1 24 (m * 150 + i') = nI k → r < rc → 1 ≤ k → k ≤ kc → ¬ g r = nI 0 → ¬ p.1 k = nI 0) 0 (zn (σ.1 21) m) (by omega) (fun i p => am_go am_X0 (am_ex (d + 3)) M69 15 [.ref 5, .int (nI m), .int (nI i), p.2] [] (S2 σ p.1 g)) (by
    rintro i ⟨f1, u⟩ _ hi ⟨hu, i1, i2, i3⟩
    have i1 : SR kc gr O f1 := i1
    have i2 : Mn f f1 := i2
    have ha : m * 150 + i < 1200 := by omega
    have fin : ∀ f2, SR kc gr O f2 → Mn f1 f2 → (∀ r k, σ.1 22 (m * 150 + i) = nI 1 → σ.1 23 (m * 150 + i) = nI r → σ.1 24 (m * 150 + i) = nI k → r < rc → 1 ≤ k → k ≤ kc → ¬ g r = nI 0 → ¬ f2 k = nI 0) → am_go am_X0 (am_ex (d + 3)) M69 15 [.ref 5, .int (nI m), .int (nI i), u] [] (S2 σ f1 g) = am_go am_X0 (am_ex (d + 3)) M69 15 [.ref 5, .int (nI m), .int (nI (i + 1)), .int (nI (m * 150 + i))] [] (S2 σ f2 g) → ∃ y : (Nat → Int32) × Value, am_go am_X0 (am_ex (d + 3)) M69 15 [.ref 5, .int (nI m), .int (nI i), u] [] (S2 σ f1 g) = am_go am_X0 (am_ex (d + 3)) M69 15 [.ref 5, .int (nI m), .int (nI (i + 1)), y.2] [] (S2 σ y.1 g) ∧ (!(y.2.category == 2)) = true ∧ SR kc gr O y.1 ∧ Mn f y.1 ∧ ∀ i', i' < i + 1 → ∀ r k, σ.1 22 (m * 150 + i') = nI 1 → σ.1 23 (m * 150 + i') = nI r → σ.1 24 (m * 150 + i') = nI k → r < rc → 1 ≤ k → k ≤ kc → ¬ g r = nI 0 → ¬ y.1 k = nI 0 := by
      intro f2 a1 a2 a3 a4
      refine ⟨(f2, .int (nI (m * 150 + i))), a4, rfl, a1, i2.trans a2, fun i' hi' x z b1 b2 b3 b4 b5 b6 b7 => ?_⟩
      by_cases e : i' = i
      · subst e; exact a3 x z b1 b2 b3 b4 b5 b6 b7
      · have h1 := i3 i' (by omega) x z b1 b2 b3 b4 b5 b6 b7
        show ¬ f2 z = nI 0
        rw [a2 z h1]; exact h1
    have hrun : am_go am_X0 (am_ex (d + 3)) M69 15 [.ref 5, .int (nI m), .int (nI i), u] [] (S2 σ f1 g) = if σ.1 22 (m * 150 + i) = nI 1 then am_bI (am_ex (d + 3) 66 [.ref 5, .int (σ.1 23 (m * 150 + i))] (S2 σ f1 g)) (fun r5 t5 => if r5 = nI 0 then am_go am_X0 (am_ex (d + 3)) M69 15 [.ref 5, .int (nI m), .int (nI (i + 1)), .int (nI (m * 150 + i))] [] t5 else am_bI (am_ex (d + 3) 45 [.ref 4, .int (nI (m * 150 + i))] t5) (fun r6 t6 => am_bV (am_ex (d + 3) 75 [.ref 5, .int r6, .int (nI 1)] t6) (fun t7 => am_go am_X0 (am_ex (d + 3)) M69 15 [.ref 5, .int (nI m), .int (nI (i + 1)), .int (nI (m * 150 + i))] [] t7))) else am_go am_X0 (am_ex (d + 3)) M69 15 [.ref 5, .int (nI m), .int (nI (i + 1)), .int (nI (m * 150 + i))] [] (S2 σ f1 g) := by
      rw [q69_15 _ _ _ _ hu, w36 (d + 1) f1 g h hm, bI_r, if_neg (by rw [i_le, i_n (by omega), i_n (by omega)]; omega), x42, bI_r, w43 (d + 1) f1 g ha, bI_r, w44 (d + 1) f1 g ha, bI_r, show nI i + nI 1 = nI (i + 1) from nI_1 _]
    show ∃ y : (Nat → Int32) × Value, am_go am_X0 (am_ex (d + 3)) M69 15 [.ref 5, .int (nI m), .int (nI i), u] [] (S2 σ f1 g) = am_go am_X0 (am_ex (d + 3)) M69 15 [.ref 5, .int (nI m), .int (nI (i + 1)), y.2] [] (S2 σ y.1 g) ∧ _
    rcases h.core.ent m hm i hi with ⟨a1, _⟩ | ⟨a1, r, y, a2, a3, a4, a5, a6, a7, a8⟩
    · refine fin f1 i1 (Mn.refl f1) (fun x2 y2 d1 _ _ _ _ _ _ => ?_) ?_
      · rw [a1] at d1; exact absurd d1.symm n10
      · rw [hrun, if_neg (by rw [a1]; exact fun z => n10 z.symm)]
    · by_cases e : g r = nI 0
      · refine fin f1 i1 (Mn.refl f1) (fun r2 y2 _ d2 _ d4 _ _ d7 => ?_) ?_
        · rw [a5] at d2
          have hx := nI_inj (by omega) (by omega) d2
          rw [← hx] at d7
          exact absurd e d7
        · rw [hrun, if_pos a1, a5, w66 (d + 1) f1 g h a2, bI_r, bz_f (fun z => z e), if_pos rfl]
      · obtain ⟨g1, g2⟩ := hB r y ⟨m, i, by omega, hm, hi, a1, a5, a6, a2, a3, a4⟩ e
        have hr := SR.reach i1 g2 (hg3 y)
        rw [g1] at hr
        refine fin _ hr.1 hr.2.1 (fun r2 y2 _ _ d3 _ d5 d6 _ => ?_) ?_
        · rw [a6] at d3
          have := nI_inj (by omega) (by omega) d3
          rw [← this]; exact hr.2.2
        · rw [hrun, if_pos a1, a5, w66 (d + 1) f1 g h a2, bI_r, bz_t e, if_neg n10, w45 (d + 1) f1 g ha, bI_r, a6, w75 (d + 1) f1 g h a3 a4, bV_r]) (f, u3) ⟨hu3, hF, Mn.refl f, fun i' hi' => by omega⟩
  have e1 : am_go am_X0 (am_ex (d + 3)) M69 15 [.ref 5, .int (nI m), .int (nI 0), u3] [] (S2 σ f g) = am_go am_X0 (am_ex (d + 3)) M69 15 [.ref 5, .int (nI m), .int (nI (zn (σ.1 21) m)), u] [] (S2 σ f' g) := e1
  refine ⟨f', u, ?_, hu, i1, i2, ?_⟩
  · rw [e1, q69_15 _ _ _ _ hu, w36 (d + 1) f' g h hm, bI_r, if_pos (by rw [i_le]; exact Int.le_refl _), show nI m + nI 1 = nI (m + 1) from nI_1 _]
  · rintro r k ⟨m', i', j1, j2, j3, j4, j5, j6, j7, j8, j9⟩ hx
    have hmm : m' = m := by omega
    subst hmm
    exact i3 i' j3 r k j4 j5 j6 j7 j8 j9 hx
theorem x69a (h : Inv0 c kc md rc td lev rk σ) (hg3 : ∀ k, gr k ≤ 3) {f : Nat → Int32} (hF : SR kc gr O f) (hB : ∀ r k, RcE kc rc σ 0 md r k → ¬ g r = nI 0 → gr k = 0 ∧ O k) : ∃ f' u2 u3, am_go am_X0 (am_ex (d + 3)) M69 2 [.ref 5, .int (nI 0), .null, .null] [] (S2 σ f g) = am_go am_X0 (am_ex (d + 3)) M69 91 [.ref 5, .int (nI 1), u2, u3] [] (S2 σ f' g) ∧ (!(u2.category == 2)) = true ∧ (!(u3.category == 2)) = true ∧ SR kc gr O f' ∧ Mn f f' ∧ ∀ r k, RcE kc rc σ 0 md r k → ¬ g r = nI 0 → ¬ f' k = nI 0 := by
  have hmb := h.core.mdb
  obtain ⟨⟨f', u2, u3⟩, e1, hu2, hu3, i1, i2, i3⟩ := lp_inv (fun m (p : (Nat → Int32) × Value × Value) => (!(p.2.1.category == 2)) = true ∧ (!(p.2.2.category == 2)) = true ∧ SR kc gr O p.1 ∧ Mn f p.1 ∧ ∀ r k, RcE kc rc σ 0 m r k → ¬ g r = nI 0 → ¬ p.1 k = nI 0) 0 md (by omega) (fun m p => am_go am_X0 (am_ex (d + 3)) M69 2 [.ref 5, .int (nI m), p.2.1, p.2.2] [] (S2 σ p.1 g)) (by
    rintro m ⟨f1, u2, u3⟩ _ hm ⟨hu2, hu3, i1, i2, i3⟩
    have i1 : SR kc gr O f1 := i1
    have i2 : Mn f f1 := i2
    obtain ⟨f2, u', k1, k2, k3, k4, k5⟩ := x69i d g h hm hg3 i1 hB hu3
    refine ⟨(f2, .int (nI (zn (σ.1 21) m)), u'), ?_, rfl, k2, k3, i2.trans k4, fun r k hr hg => ?_⟩
    · show am_go am_X0 (am_ex (d + 3)) M69 2 [.ref 5, .int (nI m), u2, u3] [] (S2 σ f1 g) = am_go am_X0 (am_ex (d + 3)) M69 2 [.ref 5, .int (nI (m + 1)), .int (nI (zn (σ.1 21) m)), u'] [] (S2 σ f2 g)
      rw [q69_2 _ _ _ hu2 hu3, w32 _ f1 g h, bI_r, if_neg (by rw [i_le, i_n (by omega), i_n (by omega)]; omega), k1]
    · show ¬ f2 k = nI 0
      rcases RcE_s hr with hr | hr
      · have := i3 r k hr hg
        rw [k4 k this]; exact this
      · exact k5 r k hr hg) (f, .null, .null) ⟨rfl, rfl, hF, Mn.refl f, fun r k hr => absurd hr RcE_0⟩
  have e1 : am_go am_X0 (am_ex (d + 3)) M69 2 [.ref 5, .int (nI 0), .null, .null] [] (S2 σ f g) = am_go am_X0 (am_ex (d + 3)) M69 2 [.ref 5, .int (nI md), u2, u3] [] (S2 σ f' g) := e1
  refine ⟨f', u2, u3, ?_, hu2, hu3, i1, i2, i3⟩
  rw [e1, q69_2 _ _ _ hu2 hu3, w32 _ f' g h, bI_r, if_pos (by rw [i_le]; exact Int.le_refl _)]
/-- one step up over all media -/
theorem x69s (h : Inv0 c kc md rc td lev rk σ) {s : Nat} (hs : 1 ≤ s ∧ s ≤ 3) (hg3 : ∀ k, gr k ≤ 3) {f : Nat → Int32} (hF : SR kc gr O f) (hEd : ∀ x y, EdU kc σ 0 md x y → O x → gr y = gr x + 1 ∧ O y) {u2 u3 : Value} (hu2 : (!(u2.category == 2)) = true) (hu3 : (!(u3.category == 2)) = true) : ∃ f' u2', am_go am_X0 (am_ex (d + 3)) M69 91 [.ref 5, .int (nI s), u2, u3] [] (S2 σ f g) = am_go am_X0 (am_ex (d + 3)) M69 91 [.ref 5, .int (nI (s + 1)), u2', u3] [] (S2 σ f' g) ∧ (!(u2'.category == 2)) = true ∧ SR kc gr O f' ∧ Mn f f' ∧ ∀ x y, EdU kc σ 0 md x y → f x = nI s → ¬ f' y = nI 0 := by
  have hmb := h.core.mdb
  obtain ⟨f', e1, i1, i2, i3⟩ := lp_inv (fun m (p : Nat → Int32) => SR kc gr O p ∧ Mn f p ∧ ∀ x y, EdU kc σ 0 m x y → f x = nI s → ¬ p y = nI 0) 0 md (by omega) (fun m p => am_go am_X0 (am_ex (d + 3)) M69 98 [.ref 5, .int (nI s), .int (nI m), u3] [] (S2 σ p g)) (by
    rintro m f1 _ hm ⟨i1, i2, i3⟩
    obtain ⟨f2, k1, k2, k3, k4⟩ := x73 d g h hm hs hg3 i1 (fun x y e => hEd x y (EdU_w e (by omega) hm))
    refine ⟨f2, ?_, k2, i2.trans k3, fun x y e hx => ?_⟩
    · show am_go am_X0 (am_ex (d + 3)) M69 98 [.ref 5, .int (nI s), .int (nI m), u3] [] (S2 σ f1 g) = am_go am_X0 (am_ex (d + 3)) M69 98 [.ref 5, .int (nI s), .int (nI (m + 1)), u3] [] (S2 σ f2 g)
      rw [q69_98 _ _ _ _ hu3, w32 _ f1 g h, bI_r, if_neg (by rw [i_le, i_n (by omega), i_n (by omega)]; omega), k1, bV_r, show nI m + nI 1 = nI (m + 1) from nI_1 _]
    · rcases EdU_s e with e | e
      · have := i3 x y e hx
        rw [k3 y this]; exact this
      · refine k4 x y e ?_
        rw [i2 x (by rw [hx]; exact fun z => by have := nI_inj (by omega) (by omega) z; omega)]; exact hx) f ⟨hF, Mn.refl f, fun x y e => absurd e EdU_0⟩
  have e1 : am_go am_X0 (am_ex (d + 3)) M69 98 [.ref 5, .int (nI s), .int (nI 0), u3] [] (S2 σ f g) = am_go am_X0 (am_ex (d + 3)) M69 98 [.ref 5, .int (nI s), .int (nI md), u3] [] (S2 σ f' g) := e1
  refine ⟨f', .int (nI md), ?_, rfl, i1, i2, i3⟩
  rw [q69_91 _ _ _ hu2 hu3, if_neg (by rw [i_lt, i_n (by omega), i_n (by omega)]; omega), e1, q69_98 _ _ _ _ hu3, w32 _ f' g h, bI_r, if_pos (by rw [i_le]; exact Int.le_refl _), show nI s + nI 1 = nI (s + 1) from nI_1 _]
/-- what a search from wanted records found -/
abbrev Fnd (kc rc : Nat) (lev : Nat → Nat) (σ : am_M) (hi : Nat) (W : Nat → Prop) (f : Nat → Int32) : Prop := ∀ k, 1 ≤ k → k ≤ kc → (f k = nI 0 ∧ ¬ Op kc rc σ 0 hi W k) ∨ (f k = nI (4 - lev k) ∧ Op kc rc σ 0 hi W k)
theorem x69 (h : Inv0 c kc md rc td lev rk σ) {f : Nat → Int32} (hF : ∀ k, 1 ≤ k → k ≤ kc → f k = nI 0) : ∃ f', am_ex (d + 4) 69 [.ref 5] (S2 σ f g) = rV (S2 σ f' g) ∧ Fnd kc rc lev σ md (fun r => ¬ g r = nI 0) f' := by
  have hl3 := h.core.lvb
  have hg3 : ∀ k, 3 - lev k ≤ 3 := fun k => by omega
  have s0 : SR kc (fun k => 3 - lev k) (Op kc rc σ 0 md (fun r => ¬ g r = nI 0)) f := fun k h1 h2 => Or.inl (hF k h1 h2)
  have hEd : ∀ x y, EdU kc σ 0 md x y → Op kc rc σ 0 md (fun r => ¬ g r = nI 0) x → 3 - lev y = 3 - lev x + 1 ∧ Op kc rc σ 0 md (fun r => ¬ g r = nI 0) y := by
    rintro x y e ⟨n, hn⟩
    have h1 := EdU_lev h (Nat.le_refl _) e
    have h2 := hl3 x
    exact ⟨by omega, n + 1, x, e, hn⟩
  obtain ⟨f0, u2, u3, e0, hu2, hu3, s1, m1, p1⟩ := x69a d g h hg3 s0 (fun r k e hr => ⟨by rw [(RcE_lev h (Nat.le_refl _) e).1], 0, r, hr, e⟩)
  obtain ⟨f1, v1, e1, hv1, s2, m2, p2⟩ := x69s d g h (s := 1) (by omega) hg3 s1 hEd hu2 hu3
  obtain ⟨f2, v2, e2, hv2, s3, m3, p3⟩ := x69s d g h (s := 2) (by omega) hg3 s2 hEd hv1 hu3
  obtain ⟨f3, v3, e3, hv3, s4, m4, p4⟩ := x69s d g h (s := 3) (by omega) hg3 s3 hEd hv2 hu3
  refine ⟨f3, ?_, fun k h1 h2 => ?_⟩
  · rw [e69, q69_0, e0, e1, e2, e3, q69_91 _ _ _ hv3 hu3, if_pos (by decide)]
  · have val : ∀ (f : Nat → Int32) j, SR kc (fun k => 3 - lev k) (Op kc rc σ 0 md (fun r => ¬ g r = nI 0)) f → 1 ≤ j → j ≤ kc → ¬ f j = nI 0 → f j = nI (4 - lev j) := fun f j hs a b e => by
      have := ((hs j a b).resolve_left e).1
      have hl := hl3 j
      rw [this]
      show nI (3 - lev j + 1) = _
      rw [show 3 - lev j + 1 = 4 - lev j by omega]
    have mono : ∀ {f f' : Nat → Int32}, Mn f f' → ∀ j, ¬ f j = nI 0 → ¬ f' j = nI 0 := fun hm j e => by rw [hm j e]; exact e
    -- completeness, grade by grade
    have q0 : ∀ j, Cl (RcB kc rc σ 0 md (fun r => ¬ g r = nI 0)) (EdU kc σ 0 md) 0 j → ¬ f0 j = nI 0 := by
      rintro j ⟨r, hr, e⟩
      exact p1 r j e hr
    have q1 : ∀ j, Cl (RcB kc rc σ 0 md (fun r => ¬ g r = nI 0)) (EdU kc σ 0 md) 1 j → ¬ f1 j = nI 0 := by
      rintro j ⟨i, e, hi⟩
      have hl := Op_lev h (Nat.le_refl _) 0 i hi
      refine p2 i j e ?_
      rw [val f0 i s1 hl.1 hl.2.1 (q0 i hi), show 4 - lev i = 1 by omega]
    have q2 : ∀ j, Cl (RcB kc rc σ 0 md (fun r => ¬ g r = nI 0)) (EdU kc σ 0 md) 2 j → ¬ f2 j = nI 0 := by
      rintro j ⟨i, e, hi⟩
      have hl := Op_lev h (Nat.le_refl _) 1 i hi
      refine p3 i j e ?_
      rw [val f1 i s2 hl.1 hl.2.1 (q1 i hi), show 4 - lev i = 2 by omega]
    have q3 : ∀ j, Cl (RcB kc rc σ 0 md (fun r => ¬ g r = nI 0)) (EdU kc σ 0 md) 3 j → ¬ f3 j = nI 0 := by
      rintro j ⟨i, e, hi⟩
      have hl := Op_lev h (Nat.le_refl _) 2 i hi
      refine p4 i j e ?_
      rw [val f2 i s3 hl.1 hl.2.1 (q2 i hi), show 4 - lev i = 3 by omega]
    by_cases e : f3 k = nI 0
    · refine Or.inl ⟨e, ?_⟩
      rintro ⟨n, hn⟩
      have hl := Op_lev h (Nat.le_refl _) n k hn
      have hn4 : n = 0 ∨ n = 1 ∨ n = 2 ∨ n = 3 := by omega
      rcases hn4 with rfl | rfl | rfl | rfl
      · exact mono m4 k (mono m3 k (mono m2 k (q0 k hn))) e
      · exact mono m4 k (mono m3 k (q1 k hn)) e
      · exact mono m4 k (q2 k hn) e
      · exact q3 k hn e
    · exact Or.inr ⟨val f3 k s4 h1 h2 e, ((s4 k h1 h2).resolve_left e).2⟩
/-- the search for the keys that open record r -/
theorem x68 (h : Inv0 c kc md rc td lev rk σ) {r : Nat} (hr : r < rc) (f : Nat → Int32) : ∃ f' g', am_ex (d + 5) 68 [.ref 5, .int (nI r)] (S2 σ f g) = rV (S2 σ f' g') ∧ Fnd kc rc lev σ md (fun s => s = r) f' := by
  have hrb := h.core.rcb
  have hkl := h.kl
  obtain ⟨f', e1, hf⟩ := x69 d (upd (fil g 200 (nI 0)) r (nI 1)) h (f := fil f (kc + 1) (nI 0)) (fun k _ h2 => if_pos (by omega))
  refine ⟨f', upd (fil g 200 (nI 0)) r (nI 1), ?_, fun k h1 h2 => ?_⟩
  · rw [e68, q68_0, x64 (d + 2) f g h, bV_r, w65 (d + 2) _ _ h hr, bV_r, e1, bV_r]
  · have hW : ∀ s, s < rc → ((¬ upd (fil g 200 (nI 0)) r (nI 1) s = nI 0) ↔ s = r) := fun s hs => by
      by_cases e : s = r
      · rw [show upd (fil g 200 (nI 0)) r (nI 1) s = nI 1 from if_pos e]; exact ⟨fun _ => e, fun _ => n10⟩
      · rw [show upd (fil g 200 (nI 0)) r (nI 1) s = fil g 200 (nI 0) s from if_neg e, fil_i (by omega)]
        exact ⟨fun z => absurd rfl z, fun z => absurd z e⟩
    have := hf k h1 h2
    rw [Op_c hW k] at this
    exact this
end SRD
