/-! moving: the reference, below a place -/
section MVR
variable (d : Nat) {c kc md rc td : Nat} {lev rk : Nat → Nat} {σ J : am_M} {a b : Nat}
theorem Pr_sub {x y j u v : Nat} (h1 : 1 ≤ x) (hx : x < 21) (hj : j < 4) (h : Pr (4 * x + 1 + j) (4 * y + 1 + j) u v) : Pr x y u v := by
  rcases h with ⟨z1, z2⟩ | ⟨z0, i, z1, z2, z3⟩ | ⟨z0, i, z1, z2, z3⟩
  · exact Or.inr (Or.inl ⟨hx, j, hj, z1, z2⟩)
  · exact Or.inr (Or.inr ⟨by omega, 4 * j + i, by omega, by omega, by omega⟩)
  · omega
theorem y245r (h : Inv0 c kc md rc td lev rk J) (hE : EqM J σ) (hs : sLv a b) : ∀ f, ∀ (x y : Nat) (D : Nat → Nat → Prop) (Y : am_M), (∀ u v, D u v → Pr a b u v) → MvM rc σ D Y → sLv x y → lvl x + f = 3 → (∀ u v, Pr x y u v → Pr a b u v) → (∀ u v w, Pr x y u v → ¬ D u w) → ∃ Y', am_ex (d + f + 1) 245 [.ref 34, .int (nI x), .int (nI y)] Y = rI (nI (cnt (fun k => ¬ σ.1 37 k = -1) (fst x) (lvs x))) Y' ∧ MvM rc σ (fun u v => D u v ∨ Pr x y u v) Y' := by
  intro f
  induction f with
  | zero =>
    intro x y D Y hD hM hxy hl hsub hdis
    have h21 : 21 ≤ x := by
      by_cases e : x < 21
      · have := lvl_2 e; omega
      · omega
    obtain ⟨Y', e1, m1⟩ := (y245n d h hE hs hD hM (hsub x y (Or.inl ⟨rfl, rfl⟩)) (fun v => hdis x y v (Or.inl ⟨rfl, rfl⟩))).2 h21
    refine ⟨Y', ?_, m1.cg (fun u v => ?_)⟩
    · rw [show d + 0 + 1 = d + 1 from rfl, e1, show fst x = x - 21 from by unfold fst; (repeat' split) <;> omega, show lvs x = 1 from by unfold lvs; (repeat' split) <;> omega]
    · constructor
      · rintro (z | z)
        · exact Or.inl z
        · exact Or.inr (Or.inl z)
      · rintro (z | z | ⟨z, _⟩ | ⟨z, _⟩)
        · exact Or.inl z
        · exact Or.inr z
        · omega
        · omega
  | succ f ih =>
    intro x y D Y hD hM hxy hl hsub hdis
    have h21 : x < 21 := by
      by_cases e : x < 21
      · exact e
      · have := lvl_lf (p := x) (by omega); omega
    have hy21 : y < 21 := by omega
    have hx1 : 1 ≤ x := by omega
    obtain ⟨e1, m1⟩ := (y245n (d + f + 1) h hE hs hD hM (hsub x y (Or.inl ⟨rfl, rfl⟩)) (fun v => hdis x y v (Or.inl ⟨rfl, rfl⟩))).1 h21
    generalize am_wI (am_wI Y 35 y (Y.1 35 x)) 35 x (nI 0) = Y1 at e1 m1
    have hL : ∀ j, j < 4 → lvs (4 * x + 1 + j) = lvs (4 * x + 1) ∧ fst (4 * x + 1 + j) = fst x + j * lvs (4 * x + 1) := fun j hj => by
      have h4 : lvs (4 * x + 1) = 4 ∧ x < 5 ∨ lvs (4 * x + 1) = 1 ∧ 5 ≤ x := by unfold lvs; (repeat' split) <;> omega
      constructor
      · unfold lvs; (repeat' split) <;> omega
      · rcases h4 with ⟨h4, h5⟩ | ⟨h4, h5⟩
        · rw [h4]; unfold fst; (repeat' split) <;> omega
        · rw [h4]; unfold fst; (repeat' split) <;> omega
    have hL4 : lvs x = 4 * lvs (4 * x + 1) := by unfold lvs; (repeat' split) <;> omega
    obtain ⟨Y2, e2, m2⟩ := lp_inv (fun j (Z : am_M) => MvM rc σ (fun u v => plus D x y u v ∨ ∃ i, i < j ∧ Pr (4 * x + 1 + i) (4 * y + 1 + i) u v) Z) 0 4 (by omega) (fun j Z => am_go am_X0 (am_ex (d + f + 1)) M245 91 [.ref 34, .int (nI x), .int (nI y), .int (nI (cnt (fun k => ¬ σ.1 37 k = -1) (fst x) (j * lvs (4 * x + 1)))), .int (nI (j + 1))] [] Z) (by
      intro j Z _ hj hMj
      have hlc := lvl_ch (p := x) (c := 1 + j) h21 (by omega) (by omega)
      rw [← Nat.add_assoc] at hlc
      obtain ⟨Z', g1, g2⟩ := ih (4 * x + 1 + j) (4 * y + 1 + j) _ Z (by
        rintro u v ((z | ⟨rfl, rfl⟩) | ⟨i, z1, z2⟩)
        · exact hD u v z
        · exact hsub _ _ (Or.inl ⟨rfl, rfl⟩)
        · exact hsub u v (Pr_sub hx1 h21 (by omega) z2)) hMj (by omega) (by omega) (fun u v z => hsub u v (Pr_sub hx1 h21 hj z)) (by
        rintro u v w z ((q | ⟨q1, q2⟩) | ⟨i, q1, q2⟩)
        · exact hdis u v w (Pr_sub hx1 h21 hj z) q
        · rcases z with ⟨z1, z2⟩ | ⟨z0, i, z1, z2, z3⟩ | ⟨z0, i, z1, z2, z3⟩ <;> omega
        · rcases z with ⟨z1, z2⟩ | ⟨z0, i', z1, z2, z3⟩ | ⟨z0, i', z1, z2, z3⟩ <;> rcases q2 with ⟨g1, g2⟩ | ⟨g0, k, g1, g2, g3⟩ | ⟨g0, k, g1, g2, g3⟩ <;> omega)
      refine ⟨Z', ?_, g2.cg (fun u v => ?_)⟩
      · show am_go am_X0 (am_ex (d + f + 1)) M245 91 [.ref 34, .int (nI x), .int (nI y), .int (nI (cnt (fun k => ¬ σ.1 37 k = -1) (fst x) (j * lvs (4 * x + 1)))), .int (nI (j + 1))] [] Z = am_go am_X0 (am_ex (d + f + 1)) M245 91 [.ref 34, .int (nI x), .int (nI y), .int (nI (cnt (fun k => ¬ σ.1 37 k = -1) (fst x) ((j + 1) * lvs (4 * x + 1)))), .int (nI (j + 1 + 1))] [] Z'
        rw [q245_91, if_neg (by rw [i_lt, i_n (by omega), i_n (by omega)]; omega), pk_mul, pk_mul, nI_add, nI_add, show 4 * x + (j + 1) = 4 * x + 1 + j by omega, show 4 * y + (j + 1) = 4 * y + 1 + j by omega, g1, bI_r, nI_add, (hL j hj).1, (hL j hj).2, ← cnt_ap, Nat.add_mul, Nat.one_mul, show nI (j + 1) + nI 1 = nI (j + 1 + 1) from nI_1 _]
      · constructor
        · rintro ((z | ⟨i, z1, z2⟩) | z)
          · exact Or.inl z
          · exact Or.inr ⟨i, by omega, z2⟩
          · exact Or.inr ⟨j, by omega, z⟩
        · rintro (z | ⟨i, z1, z2⟩)
          · exact Or.inl (Or.inl z)
          · by_cases e : i = j
            · subst e; exact Or.inr z2
            · exact Or.inl (Or.inr ⟨i, by omega, z2⟩)) Y1 (m1.cg (fun u v => ⟨Or.inl, fun z => z.resolve_right (fun ⟨i, z1, _⟩ => by omega)⟩))
    have e2 : am_go am_X0 (am_ex (d + f + 1)) M245 91 [.ref 34, .int (nI x), .int (nI y), .int (nI (cnt (fun k => ¬ σ.1 37 k = -1) (fst x) (0 * lvs (4 * x + 1)))), .int (nI (0 + 1))] [] Y1 = am_go am_X0 (am_ex (d + f + 1)) M245 91 [.ref 34, .int (nI x), .int (nI y), .int (nI (cnt (fun k => ¬ σ.1 37 k = -1) (fst x) (4 * lvs (4 * x + 1)))), .int (nI (4 + 1))] [] Y2 := e2
    rw [Nat.zero_mul, cnt] at e2
    refine ⟨Y2, ?_, m2.cg (fun u v => ?_)⟩
    · rw [show d + (f + 1) + 1 = (d + f + 1) + 1 by omega, e1, e2, q245_91, if_pos (by decide), ← hL4]
    · constructor
      · rintro ((z | z) | ⟨i, z1, z2⟩)
        · exact Or.inl z
        · exact Or.inr (Or.inl z)
        · exact Or.inr (Pr_sub hx1 h21 z1 z2)
      · rintro (z | z | ⟨_, j, z1, z2, z3⟩ | ⟨z0, j, z1, z2, z3⟩)
        · exact Or.inl (Or.inl z)
        · exact Or.inl (Or.inr z)
        · exact Or.inr ⟨j, z1, Or.inl ⟨z2, z3⟩⟩
        · exact Or.inr ⟨j / 4, by omega, Or.inr (Or.inl ⟨by omega, j % 4, by omega, by omega, by omega⟩)⟩
theorem y245 (h : Inv0 c kc md rc td lev rk J) (hE : EqM J σ) (hs : sLv a b) : ∃ Y, am_ex (d + 3) 245 [.ref 34, .int (nI a), .int (nI b)] σ = rI (nI (cnt (fun k => ¬ σ.1 37 k = -1) (fst a) (lvs a))) Y ∧ MvM rc σ (Pr a b) Y := by
  have hl3 := lvl_3 a
  have hl1 : 1 ≤ lvl a := by unfold lvl; (repeat' split) <;> omega
  obtain ⟨Y, e1, m1⟩ := y245r (d + (lvl a - 1)) h hE hs (3 - lvl a) a b (fun _ _ => False) σ (fun _ _ z => z.elim) (MvM.refl σ _ (fun _ _ z => z)) hs (by omega) (fun _ _ z => z) (fun _ _ _ _ z => z)
  rw [show d + (lvl a - 1) + (3 - lvl a) + 1 = d + 3 by omega] at e1
  exact ⟨Y, e1, m1.cg (fun u v => ⟨fun z => z.resolve_left id, Or.inr⟩)⟩
end MVR
