/-! moving: the class, level by level -/
section MVL
variable (d : Nat) {c kc md rc td : Nat} {lev rk : Nat → Nat} {σ J : am_M} {a b : Nat} {D : Nat → Nat → Prop}
theorem x92l (h : Inv0 c kc md rc td lev rk J) (hC : EqC J σ) (hs : sLv a b) (hD : ∀ x y, D x y → Pr a b x y) {X : am_M} (hM : Mv kc rc σ D X) {f t w : Nat} (hw : w ≤ 16) (hP : ∀ j, j < w → Pr a b (f + j) (t + j)) (hx : ∀ j v, j < w → ¬ D (f + j) v) (v1 v2 v6 : Int32) {u7 : Value} (hu : (!(u7.category == 2)) = true) (h6 : ¬ nI 3 < v6) : ∃ X', am_go am_X0 (am_ex (d + 3)) M92 14 [.ref 3, .int v1, .int v2, .int (nI f), .int (nI t), .int (nI w), .int v6, u7] [] X = am_go am_X0 (am_ex (d + 3)) M92 14 [.ref 3, .int v1, .int v2, .int (nI (4 * f + 1)), .int (nI (4 * t + 1)), .int (nI (w * 4)), .int (v6 + nI 1), .int (nI w)] [] X' ∧ Mv kc rc σ (fun x y => D x y ∨ ∃ j, j < w ∧ x = f + j ∧ y = t + j) X' := by
  obtain ⟨X', e1, hM'⟩ := lp_inv (fun i (X : am_M) => Mv kc rc σ (fun x y => D x y ∨ ∃ j, j < i ∧ x = f + j ∧ y = t + j) X) 0 w (by omega) (fun i X => am_go am_X0 (am_ex (d + 3)) M92 23 [.ref 3, .int v1, .int v2, .int (nI f), .int (nI t), .int (nI w), .int v6, .int (nI i)] [] X) (by
    intro i X _ hi hM
    obtain ⟨X', e, hM'⟩ := x96 d h hC hs (fun x y z => by
      rcases z with z | ⟨j, z1, z2, z3⟩
      · exact hD x y z
      · rw [z2, z3]; exact hP j (by omega)) hM (hP i hi) (fun v z => by
      rcases z with z | ⟨j, z1, z2, z3⟩
      · exact hx i v hi z
      · omega)
    refine ⟨X', ?_, hM'.cg (fun x y => ?_)⟩
    · show am_go am_X0 (am_ex (d + 3)) M92 23 [.ref 3, .int v1, .int v2, .int (nI f), .int (nI t), .int (nI w), .int v6, .int (nI i)] [] X = am_go am_X0 (am_ex (d + 3)) M92 23 [.ref 3, .int v1, .int v2, .int (nI f), .int (nI t), .int (nI w), .int v6, .int (nI (i + 1))] [] X'
      rw [q92_23, if_neg (by rw [i_le, i_n (by omega), i_n (by omega)]; omega), nI_add, nI_add, e, bV_r, show nI i + nI 1 = nI (i + 1) from nI_1 _]
    · constructor
      · rintro ((z | ⟨j, z1, z2⟩) | ⟨z1, z2⟩)
        · exact Or.inl z
        · exact Or.inr ⟨j, by omega, z2⟩
        · exact Or.inr ⟨i, by omega, z1, z2⟩
      · rintro (z | ⟨j, z1, z2⟩)
        · exact Or.inl (Or.inl z)
        · by_cases e : j = i
          · subst e; exact Or.inr z2
          · exact Or.inl (Or.inr ⟨j, by omega, z2⟩)) X (hM.cg (fun x y => ⟨Or.inl, fun z => z.resolve_right (fun ⟨j, z1, _⟩ => by omega)⟩))
  have e1 : am_go am_X0 (am_ex (d + 3)) M92 23 [.ref 3, .int v1, .int v2, .int (nI f), .int (nI t), .int (nI w), .int v6, .int (nI 0)] [] X = am_go am_X0 (am_ex (d + 3)) M92 23 [.ref 3, .int v1, .int v2, .int (nI f), .int (nI t), .int (nI w), .int v6, .int (nI w)] [] X' := e1
  refine ⟨X', ?_, hM'⟩
  rw [q92_14 _ _ _ _ _ _ _ _ hu, if_neg h6, e1, q92_23, if_pos (by rw [i_le]; exact Int.le_refl _), x167, nI_r, x167, nI_r, pk_mul]
theorem x92 (h : Inv0 c kc md rc td lev rk J) (hC : EqC J σ) (hs : sLv a b) : ∃ X, am_ex (d + 4) 92 [.ref 3, .int (nI a), .int (nI b)] σ = rV X ∧ Mv kc rc σ (Pr a b) X := by
  have ha : a < 85 := by omega
  obtain ⟨X1, e1, m1⟩ := x92l d h hC hs (D := fun _ _ => False) (fun _ _ z => z.elim) (Mv.refl σ _ (fun _ _ z => z)) (f := a) (t := b) (w := 1) (by omega) (fun j hj => Or.inl ⟨by omega, by omega⟩) (fun _ _ _ z => z) (nI a) (nI b) (nI (lvl a)) (u7 := .null) rfl (by
    have := lvl_3 a
    rw [i_lt, i_n (by omega), i_n (by omega)]; omega)
  have hd1 : ∀ x y, (False ∨ ∃ j, j < 1 ∧ x = a + j ∧ y = b + j) → Pr a b x y := by
    rintro x y (z | ⟨j, z1, z2, z3⟩)
    · exact z.elim
    · exact Or.inl ⟨by omega, by omega⟩
  have e0 : am_ex (d + 4) 92 [.ref 3, .int (nI a), .int (nI b)] σ = am_go am_X0 (am_ex (d + 3)) M92 14 [.ref 3, .int (nI a), .int (nI b), .int (nI (4 * a + 1)), .int (nI (4 * b + 1)), .int (nI 4), .int (nI (lvl a + 1)), .int (nI 1)] [] X1 := by
    rw [e92, q92_0, x165 (d + 2) σ ha, nI_r, e1, show nI (lvl a) + nI 1 = nI (lvl a + 1) from nI_1 _]
  by_cases h21 : a < 21
  · obtain ⟨X2, e2, m2⟩ := x92l d h hC hs hd1 m1 (f := 4 * a + 1) (t := 4 * b + 1) (w := 4) (by omega) (fun j hj => Or.inr (Or.inl ⟨h21, j, hj, by omega, by omega⟩)) (fun j v hj z => by
      rcases z with z | ⟨i, z1, z2, z3⟩
      · exact z
      · omega) (nI a) (nI b) (nI (lvl a + 1)) (u7 := .int (nI 1)) rfl (by
      have := lvl_2 h21
      rw [i_lt, i_n (by omega), i_n (by omega)]; omega)
    have hd2 : ∀ x y, ((False ∨ ∃ j, j < 1 ∧ x = a + j ∧ y = b + j) ∨ ∃ j, j < 4 ∧ x = 4 * a + 1 + j ∧ y = 4 * b + 1 + j) → Pr a b x y := by
      rintro x y (z | ⟨j, z1, z2, z3⟩)
      · exact hd1 x y z
      · exact Or.inr (Or.inl ⟨h21, j, z1, z2, z3⟩)
    rw [show nI (lvl a + 1) + nI 1 = nI (lvl a + 1 + 1) from nI_1 _] at e2
    by_cases h5 : a < 5
    · have hl : lvl a = 1 := by unfold lvl; repeat' split; all_goals omega
      obtain ⟨X3, e3, m3⟩ := x92l d h hC hs hd2 m2 (f := 4 * (4 * a + 1) + 1) (t := 4 * (4 * b + 1) + 1) (w := 16) (by omega) (fun j hj => Or.inr (Or.inr ⟨h5, j, hj, by omega, by omega⟩)) (fun j v hj z => by
        rcases z with (z | ⟨i, z1, z2, z3⟩) | ⟨i, z1, z2, z3⟩
        · exact z
        · omega
        · omega) (nI a) (nI b) (nI (lvl a + 1 + 1)) (u7 := .int (nI 4)) rfl (by rw [hl]; decide)
      refine ⟨X3, ?_, m3.cg (fun x y => ?_)⟩
      · rw [e0, e2, e3, q92_14 _ _ _ _ _ _ _ _ rfl, if_pos (by rw [hl]; decide)]
      · constructor
        · rintro (z | ⟨j, z1, z2, z3⟩)
          · exact hd2 x y z
          · exact Or.inr (Or.inr ⟨h5, j, z1, by omega, by omega⟩)
        · rintro (⟨z1, z2⟩ | ⟨_, j, z1, z2, z3⟩ | ⟨_, j, z1, z2, z3⟩)
          · exact Or.inl (Or.inl (Or.inr ⟨0, by omega, by omega, by omega⟩))
          · exact Or.inl (Or.inr ⟨j, z1, z2, z3⟩)
          · exact Or.inr ⟨j, z1, by omega, by omega⟩
    · have hl : lvl a = 2 := by unfold lvl; repeat' split; all_goals omega
      refine ⟨X2, ?_, m2.cg (fun x y => ?_)⟩
      · rw [e0, e2, q92_14 _ _ _ _ _ _ _ _ rfl, if_pos (by rw [hl]; decide)]
      · constructor
        · exact hd2 x y
        · rintro (⟨z1, z2⟩ | ⟨_, j, z1, z2, z3⟩ | ⟨z, _⟩)
          · exact Or.inl (Or.inr ⟨0, by omega, by omega, by omega⟩)
          · exact Or.inr ⟨j, z1, z2, z3⟩
          · exact absurd z h5
  · have hl : lvl a = 3 := lvl_lf (by omega)
    refine ⟨X1, ?_, m1.cg (fun x y => ?_)⟩
    · rw [e0, q92_14 _ _ _ _ _ _ _ _ rfl, if_pos (by rw [hl]; decide)]
    · constructor
      · exact hd1 x y
      · rintro (⟨z1, z2⟩ | ⟨z, _⟩ | ⟨z, _⟩)
        · exact Or.inr ⟨0, by omega, by omega, by omega⟩
        · exact absurd z h21
        · omega
end MVL
