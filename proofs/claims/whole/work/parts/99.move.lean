/-! move -/
section MOV
variable (d : Nat) {c kc md rc td : Nat} {lev rk : Nat → Nat} {σ : am_M}
/-- the reference's memories after moving are alike -/
theorem mvE {J X1 X Y1 Y Y2 Y' : am_M} {a b : Nat} (h : Inv0 c kc md rc td lev rk J) (hL : Lf kc rc rk (J.1 16) (J.1 17)) (hs : sLv a b) (eC : EqC J X1) (eM : EqM J Y1) (eM2 : EqM J Y2) (hX : Mv kc rc X1 (Pr a b) X) (hY : MvM rc Y1 (Pr a b) Y) (hY2 : MvM rc Y2 (Pr a b) Y') (hb : J.1 16 b = nI 0) (hpb : ¬ J.1 16 (par b) = nI 0) (hmk : ∀ k y, Pr a b (21 + k) y → J.1 19 k = nI 0) : EqM (hy aM X Y) Y' := by
  have i1 := (mvJ h hL hs eC eM hX hY hb hpb hmk).1
  have i2 := (mvJ h hL hs eC eM2 hX hY2 hb hpb hmk).1
  have y2 : ∀ a, aM a = true → Y'.1 a = (hy aM X Y').1 a := fun a ha => (hyI ha).symm
  have am : ∀ a, 34 < a → a < 57 → aM a = true := fun a h1 h2 => by
    unfold aM
    simp only [Bool.and_eq_true, Nat.ble_eq, Nat.blt_eq]
    omega
  refine ⟨fun a h1 h2 h3 => ?_, fun j h1 h2 => ?_, ?_, ?_, ?_⟩
  · by_cases e35 : a = 35
    · subst e35; rw [y2 35 (by decide), i2.e35, i1.e35, hyI' (by decide), hyI' (by decide)]
    · by_cases e37 : a = 37
      · subst e37; rw [y2 37 (by decide), i2.e37, i1.e37, hyI' (by decide), hyI' (by decide)]
      · by_cases e51 : a = 51
        · subst e51; rw [y2 51 (by decide), i2.e51, i1.e51, hyI' (by decide), hyI' (by decide)]
        · rw [hyI (am a h1 h2), hY2.o a e35 e37 e51, hY.o a e35 e37 e51, eM2.i a h1 h2 h3, eM.i a h1 h2 h3]
  · rw [hyI (by decide), hY2.o 34 (by decide) (by decide) (by decide), hY.o 34 (by decide) (by decide) (by decide), eM2.f j h1 h2, eM.f j h1 h2]
  · rw [hyJ (by decide), hY2.j, hY.j, eM2.j, eM.j]
  · rw [hyJ (by decide), hY2.j, hY.j, eM2.k, eM.k]
  · show Y'.2.2 = Y.2.2
    rw [hY2.j, hY.j, eM2.n, eM.n]
theorem Pr_bl {a b k y : Nat} (hs : sLv a b) (h : Pr a b (21 + k) y) : below a k := by
  have h21 := (Pr_b hs h).2.1
  have ha : (a < 5 ∧ fst a = (a - 1) * 16 ∧ lvs a = 16) ∨ (5 ≤ a ∧ a < 21 ∧ fst a = (a - 5) * 4 ∧ lvs a = 4) ∨ (21 ≤ a ∧ fst a = a - 21 ∧ lvs a = 1) := by
    unfold fst lvs
    (repeat' split) <;> omega
  rcases h with ⟨h1, h2⟩ | ⟨h0, j, h1, h2, h3⟩ | ⟨h0, j, h1, h2, h3⟩ <;> rcases ha with ⟨g0, g1, g2⟩ | ⟨g0, g3, g1, g2⟩ | ⟨g0, g1, g2⟩ <;> (unfold below; rw [g1, g2]; omega)
theorem Pr_fs {a b j : Nat} (hs : sLv a b) (hj : j < lvs a) : Pr a b (21 + (fst a + j)) (21 + (fst b + j)) ∧ lvs a = lvs b := by
  have ha : (a < 5 ∧ fst a = (a - 1) * 16 ∧ lvs a = 16) ∨ (5 ≤ a ∧ a < 21 ∧ fst a = (a - 5) * 4 ∧ lvs a = 4) ∨ (21 ≤ a ∧ fst a = a - 21 ∧ lvs a = 1) := by
    unfold fst lvs
    (repeat' split) <;> omega
  have hb : (b < 5 ∧ fst b = (b - 1) * 16 ∧ lvs b = 16) ∨ (5 ≤ b ∧ b < 21 ∧ fst b = (b - 5) * 4 ∧ lvs b = 4) ∨ (21 ≤ b ∧ fst b = b - 21 ∧ lvs b = 1) := by
    unfold fst lvs
    (repeat' split) <;> omega
  rcases ha with ⟨g0, g1, g2⟩ | ⟨g0, g3, g1, g2⟩ | ⟨g0, g1, g2⟩ <;> rcases hb with ⟨k0, k1, k2⟩ | ⟨k0, k3, k1, k2⟩ | ⟨k0, k1, k2⟩
  · exact ⟨Or.inr (Or.inr ⟨g0, j, by omega, by omega, by omega⟩), by omega⟩
  · omega
  · omega
  · omega
  · exact ⟨Or.inr (Or.inl ⟨g3, j, by omega, by omega, by omega⟩), by omega⟩
  · omega
  · omega
  · omega
  · exact ⟨Or.inl ⟨by omega, by omega⟩, by omega⟩
end MOV
