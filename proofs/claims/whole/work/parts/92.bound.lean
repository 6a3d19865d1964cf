/-! moving: what is bound, and where things go -/
section BND
variable (d : Nat) {c kc md rc td : Nat} {lev rk : Nat → Nat} {σ : am_M}
/-- a leaf with a record that is marked or held -/
abbrev bnd (R m h : Nat → Int32) (k : Nat) : Prop := ¬ R k = -1 ∧ (¬ m k = nI 0 ∨ ¬ pinF h k = nI 0)
abbrev below (a k : Nat) : Prop := fst a ≤ k ∧ k < fst a + lvs a
theorem x155 (hH : okH (σ.1 10)) {a : Nat} (ha : a < 85) : am_ex (d + 6) 155 [.ref 0, .int (nI a)] σ = rI (bz (ext (bnd (σ.1 17) (σ.1 19) (σ.1 10)) (fst a) (lvs a) = true)) σ := by
  have hf := fst_le ha
  rw [e155, q155_0, x170 (d + 2) σ ha, bI_r]
  have key := lp_ext (bnd (σ.1 17) (σ.1 19) (σ.1 10)) (fst a) (fst a + lvs a) (by omega) (fun i => am_go am_X0 (am_ex (d + 5)) M155 7 [.ref 0, .int (nI a), .int (nI (fst a)), .int (nI i)] [] σ) (rI (nI 1) σ) (rI (nI 0) σ) ?_ ?_
  · have key : am_go am_X0 (am_ex (d + 5)) M155 7 [.ref 0, .int (nI a), .int (nI (fst a)), .int (nI (fst a))] [] σ = _ := key
    rw [key, show fst a + lvs a - fst a = lvs a by omega]
    by_cases e : ext (bnd (σ.1 17) (σ.1 19) (σ.1 10)) (fst a) (lvs a) = true
    · rw [if_pos e, bz_t e]
    · rw [if_neg e, bz_f e]
  · show am_go am_X0 (am_ex (d + 5)) M155 7 [.ref 0, .int (nI a), .int (nI (fst a)), .int (nI (fst a + lvs a))] [] σ = _
    rw [q155_7, x169 (d + 3) σ ha, bI_r, nI_add, if_pos (by rw [i_le]; exact Int.le_refl _)]
  · intro i h1 h2
    show am_go am_X0 (am_ex (d + 5)) M155 7 [.ref 0, .int (nI a), .int (nI (fst a)), .int (nI i)] [] σ = if _ then _ else am_go am_X0 (am_ex (d + 5)) M155 7 [.ref 0, .int (nI a), .int (nI (fst a)), .int (nI (i + 1))] [] σ
    rw [q155_7, x169 (d + 3) σ ha, bI_r, nI_add, if_neg (by rw [i_le, i_n (by omega), i_n (by omega)]; omega), x79, bI_r, rd_n (show i < 64 by omega) (by omega), show nI i + nI 1 = nI (i + 1) from nI_1 _]
    by_cases e1 : σ.1 17 i = -1
    · rw [if_pos e1, if_neg (fun z => z.1 e1)]
    · rw [if_neg e1, x82, bI_r]
      simp only [bz_0]
      rw [rd_n (show i < 64 by omega) (by omega)]
      by_cases e2 : σ.1 19 i = nI 0
      · rw [if_pos (fun z => z e2), x154 d σ hH (by omega), bI_r]
        by_cases e3 : pinF (σ.1 10) i = nI 0
        · rw [if_pos e3, if_neg (fun z => z.2.elim (fun y => y e2) (fun y => y e3))]
        · rw [if_neg e3, if_pos ⟨e1, Or.inr e3⟩]
      · rw [if_neg (fun z => z e2), if_pos ⟨e1, Or.inl e2⟩]
theorem y244 {Y : am_M} (hH : okH (Y.1 38)) {a : Nat} (ha : a < 85) : am_ex (d + 4) 244 [.ref 34, .int (nI a)] Y = rI (bz (ext (bnd (Y.1 37) (Y.1 41) (Y.1 38)) (fst a) (lvs a) = true)) Y := by
  have hf := fst_le ha
  rw [e244, q244_0]
  have key := lp_ext (fun k => below a k ∧ bnd (Y.1 37) (Y.1 41) (Y.1 38) k) 0 64 (by omega) (fun i => am_go am_X0 (am_ex (d + 3)) M244 2 [.ref 34, .int (nI a), .int (nI i)] [] Y) (rI (nI 1) Y) (rI (nI 0) Y) ?_ ?_
  · have key : am_go am_X0 (am_ex (d + 3)) M244 2 [.ref 34, .int (nI a), .int (nI 0)] [] Y = _ := key
    rw [key]
    have hiff : ext (fun k => below a k ∧ bnd (Y.1 37) (Y.1 41) (Y.1 38) k) 0 (64 - 0) = true ↔ ext (bnd (Y.1 37) (Y.1 41) (Y.1 38)) (fst a) (lvs a) = true := by
      rw [ext_iff, ext_iff]
      exact ⟨fun ⟨j, _, h2, h3, h4⟩ => ⟨j, h3.1, h3.2, h4⟩, fun ⟨j, h1, h2, h3⟩ => ⟨j, by omega, by omega, ⟨h1, h2⟩, h3⟩⟩
    by_cases e : ext (bnd (Y.1 37) (Y.1 41) (Y.1 38)) (fst a) (lvs a) = true
    · rw [if_pos (hiff.mpr e), bz_t e]
    · rw [if_neg (fun z => e (hiff.mp z)), bz_f e]
  · show am_go am_X0 (am_ex (d + 3)) M244 2 [.ref 34, .int (nI a), .int (nI 64)] [] Y = _
    rw [q244_2, if_pos (by decide)]
  · intro i h1 h2
    show am_go am_X0 (am_ex (d + 3)) M244 2 [.ref 34, .int (nI a), .int (nI i)] [] Y = if _ then _ else am_go am_X0 (am_ex (d + 3)) M244 2 [.ref 34, .int (nI a), .int (nI (i + 1))] [] Y
    rw [q244_2, if_neg (by rw [i_le, i_n (by omega), i_n (by omega)]; omega), if_pos (am_k (by omega) (by omega)), i_cl (by omega), show nI i + nI 1 = nI (i + 1) from nI_1 _]
    by_cases e1 : Y.1 37 i = -1
    · rw [if_pos e1, if_neg (fun z => z.2.1 e1)]
    · rw [if_neg e1, nI_add, x181 (d + 1) Y (by omega) ha, bI_r]
      by_cases e0 : fst a ≤ i ∧ i < fst a + lvs a
      · rw [bz_t e0, if_neg n10, if_pos (am_k (by omega) (by omega))]
        by_cases e2 : Y.1 41 i = nI 0
        · rw [if_pos e2, x223 d Y hH (by omega), bI_r]
          by_cases e3 : pinF (Y.1 38) i = nI 0
          · rw [if_pos e3, if_neg (fun z => z.2.2.elim (fun y => y e2) (fun y => y e3))]
          · rw [if_neg e3, if_pos ⟨e0, e1, Or.inr e3⟩]
        · rw [if_neg e2, if_pos ⟨e0, e1, Or.inl e2⟩]
      · rw [bz_f e0, if_pos rfl, if_neg (fun z => e0 z.1)]
/-- a and b are of one level, not the root's, and differ -/
abbrev sLv (a b : Nat) : Prop := a ≠ b ∧ ((1 ≤ a ∧ a < 5 ∧ 1 ≤ b ∧ b < 5) ∨ (5 ≤ a ∧ a < 21 ∧ 5 ≤ b ∧ b < 21) ∨ (21 ≤ a ∧ a < 85 ∧ 21 ≤ b ∧ b < 85))
/-- x lies below a, and y likewise below b -/
def Pr (a b x y : Nat) : Prop := (x = a ∧ y = b) ∨ (a < 21 ∧ ∃ j, j < 4 ∧ x = 4 * a + 1 + j ∧ y = 4 * b + 1 + j) ∨ (a < 5 ∧ ∃ j, j < 16 ∧ x = 16 * a + 5 + j ∧ y = 16 * b + 5 + j)
variable {a b x y x' y' : Nat}
theorem Pr_b (hs : sLv a b) (h : Pr a b x y) : 1 ≤ x ∧ x < 85 ∧ 1 ≤ y ∧ y < 85 ∧ (x < 21 ↔ y < 21) ∧ (x < 5 ↔ y < 5) := by
  rcases h with ⟨h1, h2⟩ | ⟨h0, j, h1, h2, h3⟩ | ⟨h0, j, h1, h2, h3⟩ <;> omega
theorem Pr_l (hs : sLv a b) (h : Pr a b x y) : lvl x = lvl y := by
  have := Pr_b hs h
  unfold lvl
  repeat' split
  all_goals omega
theorem Pr_i (hs : sLv a b) (h : Pr a b x y) (h' : Pr a b x' y') : (x = x' ↔ y = y') ∧ x ≠ y' := by
  rcases h with ⟨h1, h2⟩ | ⟨h0, j, h1, h2, h3⟩ | ⟨h0, j, h1, h2, h3⟩ <;> rcases h' with ⟨g1, g2⟩ | ⟨g0, i, g1, g2, g3⟩ | ⟨g0, i, g1, g2, g3⟩ <;> (constructor <;> omega)
theorem Pr_p (hs : sLv a b) (h : Pr a b x y) : (x = a ∧ y = b) ∨ Pr a b (par x) (par y) := by
  rcases h with h | ⟨h0, j, h1, h2, h3⟩ | ⟨h0, j, h1, h2, h3⟩
  · exact Or.inl h
  · exact Or.inr (Or.inl (by unfold par; omega))
  · exact Or.inr (Or.inr (Or.inl ⟨by omega, j / 4, by omega, by unfold par; omega, by unfold par; omega⟩))
/-- below what lies below a, all lies below a -/
theorem Pr_ch (hs : sLv a b) {q : Nat} (h0 : 0 < q) (hq : q < 85) (h : Pr a b (par q) y) : ∃ z, Pr a b q z ∧ par z = y := by
  unfold par at h
  rcases h with ⟨h1, h2⟩ | ⟨h0, j, h1, h2, h3⟩ | ⟨h0, j, h1, h2, h3⟩
  · exact ⟨4 * b + 1 + (q - (4 * a + 1)), Or.inr (Or.inl ⟨by omega, q - (4 * a + 1), by omega, by omega, by omega⟩), by unfold par; omega⟩
  · exact ⟨16 * b + 5 + (q - (16 * a + 5)), Or.inr (Or.inr ⟨by omega, q - (16 * a + 5), by omega, by omega, by omega⟩), by unfold par; omega⟩
  · omega
theorem Pr_ch' (hs : sLv a b) {q : Nat} (h0 : 0 < q) (hq : q < 85) (h : Pr a b x (par q)) : ∃ z, Pr a b z q ∧ par z = x := by
  unfold par at h
  rcases h with ⟨h1, h2⟩ | ⟨h0, j, h1, h2, h3⟩ | ⟨h0, j, h1, h2, h3⟩
  · exact ⟨4 * a + 1 + (q - (4 * b + 1)), Or.inr (Or.inl ⟨by omega, q - (4 * b + 1), by omega, by omega, by omega⟩), by unfold par; omega⟩
  · exact ⟨16 * a + 5 + (q - (16 * b + 5)), Or.inr (Or.inr ⟨by omega, q - (16 * b + 5), by omega, by omega, by omega⟩), by unfold par; omega⟩
  · omega
/-- below an empty place all is empty -/
theorem Pr_e (h : Inv0 c kc md rc td lev rk σ) (hs : sLv a b) (hb : σ.1 16 b = nI 0) (hp : Pr a b x y) : σ.1 16 y = nI 0 := by
  have c1 : ∀ j, j < 4 → b < 21 → σ.1 16 (4 * b + 1 + j) = nI 0 := fun j hj hb2 => by
    have := h.core.pars (4 * b + 1 + j) (by omega) (by omega)
    rw [show par (4 * b + 1 + j) = b by unfold par; omega] at this
    exact Classical.not_not.mp (fun z => this z hb)
  rcases hp with ⟨_, h2⟩ | ⟨h0, j, h1, h2, h3⟩ | ⟨h0, j, h1, h2, h3⟩
  · rw [h2]; exact hb
  · rw [h3]; exact c1 j h1 (by omega)
  · have := h.core.pars y (by omega) (by omega)
    rw [show par y = 4 * b + 1 + j / 4 by unfold par; omega] at this
    exact Classical.not_not.mp (fun z => this z (c1 (j / 4) (by omega) (by omega)))
end BND
