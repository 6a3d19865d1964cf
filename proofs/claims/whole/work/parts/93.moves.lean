/-! moving: the class -/
section MVC
/-- the class has moved the pairs of D -/
abbrev Mv (kc rc : Nat) (σ : am_M) (D : Nat → Nat → Prop) (X : am_M) : Prop := (∀ a, a ≠ 13 → a ≠ 15 → a ≠ 16 → a ≠ 17 → a ≠ 18 → X.1 a = σ.1 a) ∧ (X.2 = σ.2) ∧ (∀ x y, D x y → X.1 16 y = σ.1 16 x ∧ X.1 16 x = nI 0) ∧ (∀ q, (∀ y, ¬ D q y) → (∀ x, ¬ D x q) → X.1 16 q = σ.1 16 q) ∧ (∀ x y k, D x y → 1 ≤ k → k ≤ kc → σ.1 16 x = nI k → X.1 13 k = nI y) ∧ (∀ k, 1 ≤ k → k ≤ kc → (∀ x y, D x y → ¬ σ.1 16 x = nI k) → X.1 13 k = σ.1 13 k) ∧ (∀ p q, D (21 + p) (21 + q) → X.1 17 q = σ.1 17 p ∧ X.1 17 p = -1 ∧ X.1 18 q = σ.1 18 p ∧ X.1 18 p = -1) ∧ (∀ p, (∀ y, ¬ D (21 + p) y) → (∀ x, ¬ D x (21 + p)) → X.1 17 p = σ.1 17 p ∧ X.1 18 p = σ.1 18 p) ∧ (∀ p q r, D (21 + p) (21 + q) → r < rc → σ.1 17 p = nI r → X.1 15 r = nI q) ∧ (∀ r, (∀ p q, D (21 + p) (21 + q) → r < rc → ¬ σ.1 17 p = nI r) → X.1 15 r = σ.1 15 r)
theorem Mv.o {kc rc : Nat} {σ : am_M} {D : Nat → Nat → Prop} {X : am_M} (h : Mv kc rc σ D X) : ∀ a, a ≠ 13 → a ≠ 15 → a ≠ 16 → a ≠ 17 → a ≠ 18 → X.1 a = σ.1 a := h.1
theorem Mv.j {kc rc : Nat} {σ : am_M} {D : Nat → Nat → Prop} {X : am_M} (h : Mv kc rc σ D X) : X.2 = σ.2 := h.2.1
theorem Mv.n1 {kc rc : Nat} {σ : am_M} {D : Nat → Nat → Prop} {X : am_M} (h : Mv kc rc σ D X) : ∀ x y, D x y → X.1 16 y = σ.1 16 x ∧ X.1 16 x = nI 0 := h.2.2.1
theorem Mv.n2 {kc rc : Nat} {σ : am_M} {D : Nat → Nat → Prop} {X : am_M} (h : Mv kc rc σ D X) : ∀ q, (∀ y, ¬ D q y) → (∀ x, ¬ D x q) → X.1 16 q = σ.1 16 q := h.2.2.2.1
theorem Mv.k1 {kc rc : Nat} {σ : am_M} {D : Nat → Nat → Prop} {X : am_M} (h : Mv kc rc σ D X) : ∀ x y k, D x y → 1 ≤ k → k ≤ kc → σ.1 16 x = nI k → X.1 13 k = nI y := h.2.2.2.2.1
theorem Mv.k2 {kc rc : Nat} {σ : am_M} {D : Nat → Nat → Prop} {X : am_M} (h : Mv kc rc σ D X) : ∀ k, 1 ≤ k → k ≤ kc → (∀ x y, D x y → ¬ σ.1 16 x = nI k) → X.1 13 k = σ.1 13 k := h.2.2.2.2.2.1
theorem Mv.l1 {kc rc : Nat} {σ : am_M} {D : Nat → Nat → Prop} {X : am_M} (h : Mv kc rc σ D X) : ∀ p q, D (21 + p) (21 + q) → X.1 17 q = σ.1 17 p ∧ X.1 17 p = -1 ∧ X.1 18 q = σ.1 18 p ∧ X.1 18 p = -1 := h.2.2.2.2.2.2.1
theorem Mv.l2 {kc rc : Nat} {σ : am_M} {D : Nat → Nat → Prop} {X : am_M} (h : Mv kc rc σ D X) : ∀ p, (∀ y, ¬ D (21 + p) y) → (∀ x, ¬ D x (21 + p)) → X.1 17 p = σ.1 17 p ∧ X.1 18 p = σ.1 18 p := h.2.2.2.2.2.2.2.1
theorem Mv.r1 {kc rc : Nat} {σ : am_M} {D : Nat → Nat → Prop} {X : am_M} (h : Mv kc rc σ D X) : ∀ p q r, D (21 + p) (21 + q) → r < rc → σ.1 17 p = nI r → X.1 15 r = nI q := h.2.2.2.2.2.2.2.2.1
theorem Mv.r2 {kc rc : Nat} {σ : am_M} {D : Nat → Nat → Prop} {X : am_M} (h : Mv kc rc σ D X) : ∀ r, (∀ p q, D (21 + p) (21 + q) → r < rc → ¬ σ.1 17 p = nI r) → X.1 15 r = σ.1 15 r := h.2.2.2.2.2.2.2.2.2
theorem Mv.mk {kc rc : Nat} {σ : am_M} {D : Nat → Nat → Prop} {X : am_M} (o : ∀ a, a ≠ 13 → a ≠ 15 → a ≠ 16 → a ≠ 17 → a ≠ 18 → X.1 a = σ.1 a) (j : X.2 = σ.2) (n1 : ∀ x y, D x y → X.1 16 y = σ.1 16 x ∧ X.1 16 x = nI 0) (n2 : ∀ q, (∀ y, ¬ D q y) → (∀ x, ¬ D x q) → X.1 16 q = σ.1 16 q) (k1 : ∀ x y k, D x y → 1 ≤ k → k ≤ kc → σ.1 16 x = nI k → X.1 13 k = nI y) (k2 : ∀ k, 1 ≤ k → k ≤ kc → (∀ x y, D x y → ¬ σ.1 16 x = nI k) → X.1 13 k = σ.1 13 k) (l1 : ∀ p q, D (21 + p) (21 + q) → X.1 17 q = σ.1 17 p ∧ X.1 17 p = -1 ∧ X.1 18 q = σ.1 18 p ∧ X.1 18 p = -1) (l2 : ∀ p, (∀ y, ¬ D (21 + p) y) → (∀ x, ¬ D x (21 + p)) → X.1 17 p = σ.1 17 p ∧ X.1 18 p = σ.1 18 p) (r1 : ∀ p q r, D (21 + p) (21 + q) → r < rc → σ.1 17 p = nI r → X.1 15 r = nI q) (r2 : ∀ r, (∀ p q, D (21 + p) (21 + q) → r < rc → ¬ σ.1 17 p = nI r) → X.1 15 r = σ.1 15 r) : Mv kc rc σ D X := ⟨o, j, n1, n2, k1, k2, l1, l2, r1, r2⟩
variable (d : Nat) {c kc md rc td : Nat} {lev rk : Nat → Nat} {σ J : am_M} {a b : Nat} {D : Nat → Nat → Prop}
theorem Mv.refl (X : am_M) (D : Nat → Nat → Prop) (hD : ∀ x y, ¬ D x y) : Mv kc rc X D X := by
  apply Mv.mk
  case o => exact fun _ _ _ _ _ _ => rfl
  case j => rfl
  case n1 => exact fun x y h => absurd h (hD x y)
  case n2 => exact fun _ _ _ => rfl
  case k1 => exact fun x y _ h => absurd h (hD x y)
  case k2 => exact fun _ _ _ _ => rfl
  case l1 => exact fun x y h => absurd h (hD _ _)
  case l2 => exact fun _ _ _ => ⟨rfl, rfl⟩
  case r1 => exact fun _ _ _ h => absurd h (hD _ _)
  case r2 => exact fun _ _ => rfl
theorem Mv.cg {D' : Nat → Nat → Prop} {X : am_M} (h : Mv kc rc σ D X) (e : ∀ x y, D x y ↔ D' x y) : Mv kc rc σ D' X := by
  have : D = D' := funext fun x => funext fun y => propext (e x y)
  rw [← this]; exact h
/-- one more pair -/
abbrev plus (D : Nat → Nat → Prop) (x y : Nat) : Nat → Nat → Prop := fun u v => D u v ∨ (u = x ∧ v = y)
theorem x96 (h : Inv0 c kc md rc td lev rk J) (hC : EqC J σ) (hs : sLv a b) (hD : ∀ x y, D x y → Pr a b x y) {X : am_M} (hM : Mv kc rc σ D X) {x y : Nat} (hP : Pr a b x y) (hx : ∀ v, ¬ D x v) : ∃ X', am_ex (d + 3) 96 [.ref 3, .int (nI x), .int (nI y)] X = rV X' ∧ Mv kc rc σ (plus D x y) X' := by
  have hkl := h.kl
  have hrb := h.core.rcb
  obtain ⟨b1, b2, b3, b4, b5, _⟩ := Pr_b hs hP
  have s16 : σ.1 16 = J.1 16 := hC.i 16 (by decide) (by decide)
  have s17 : σ.1 17 = J.1 17 := hC.i 17 (by decide) (by decide)
  have s13 : σ.1 13 = J.1 13 := hC.i 13 (by decide) (by decide)
  have s15 : σ.1 15 = J.1 15 := hC.i 15 (by decide) (by decide)
  have hy : ∀ u, ¬ D u y := fun u z => hx y (by have := (Pr_i hs hP (hD u y z)).1.mpr rfl; rw [this]; exact z)
  have xr : ∀ u, ¬ D u x := fun u z => (Pr_i hs hP (hD u x z)).2 rfl
  have yd : ∀ v, ¬ D y v := fun v z => (Pr_i hs (hD y v z) hP).2 rfl
  have uq : ∀ u v, D u v → u ≠ x ∧ u ≠ y ∧ v ≠ x ∧ v ≠ y := fun u v z => ⟨fun e => hx v (by rw [← e]; exact z), fun e => yd v (by rw [← e]; exact z), fun e => xr u (by rw [← e]; exact z), fun e => hy u (by rw [← e]; exact z)⟩
  have hxy : x ≠ y := (Pr_i hs hP hP).2
  have x1 : X.1 1 2 = nI kc := by rw [hM.o 1 (by decide) (by decide) (by decide) (by decide) (by decide), hC.i 1 (by decide) (by decide)]; exact h.hk
  have x2 : X.1 2 2 = nI rc := by rw [hM.o 2 (by decide) (by decide) (by decide) (by decide) (by decide), hC.i 2 (by decide) (by decide)]; exact h.hr
  have x16 : X.1 16 x = σ.1 16 x := hM.n2 x hx xr
  -- keys: no two places have one
  have kuq : ∀ u k, u < 85 → 1 ≤ k → k ≤ kc → σ.1 16 u = nI k → σ.1 16 x = nI k → u = x := by
    intro u k hu k1 k2 e1 e2
    rw [s16] at e1 e2
    rcases h.core.node u hu with z | ⟨k', z1, z2, z3, z4, _⟩
    · rw [z] at e1; have := nI_inj (by omega) (by omega) e1; omega
    · rcases h.core.node x b2 with w | ⟨k'', w1, w2, w3, w4, _⟩
      · rw [w] at e2; have := nI_inj (by omega) (by omega) e2; omega
      · rw [z3] at e1; rw [w3] at e2
        have q1 := nI_inj (by omega) (by omega) e1
        have q2 := nI_inj (by omega) (by omega) e2
        rw [q1] at z4; rw [q2, z4] at w4
        exact nI_inj (by omega) (by omega) w4
  generalize hX1 : (if mdR (σ.1 16 x) kc then am_set X 13 (upd (X.1 13) (σ.1 16 x).toNatClampNeg (nI y)) else X) = X1
  have o1 : ∀ a, a ≠ 13 → X1.1 a = X.1 a := fun a ha => by
    rw [← hX1]
    by_cases e : mdR (σ.1 16 x) kc
    · rw [if_pos e, s_ne _ _ ha]
    · rw [if_neg e]
  have j1 : X1.2 = X.2 := by
    rw [← hX1]
    by_cases e : mdR (σ.1 16 x) kc
    · rw [if_pos e]; rfl
    · rw [if_neg e]
  have k13a : ∀ k, 1 ≤ k → k ≤ kc → σ.1 16 x = nI k → X1.1 13 k = nI y := fun k k1 k2 e => by
    rw [← hX1, e, if_pos (md_k k1 k2 hkl), s_eq, i_cl (by omega)]; exact upd_e
  have k13b : ∀ k, 1 ≤ k → k ≤ kc → ¬ σ.1 16 x = nI k → X1.1 13 k = X.1 13 k := fun k k1 k2 e => by
    rw [← hX1]
    by_cases z : mdR (σ.1 16 x) kc
    · rw [if_pos z, s_eq]
      obtain ⟨k', a1, a2, a3⟩ := md_of z
      refine upd_n (fun z2 => e ?_)
      rw [a3, i_cl (by omega)] at z2
      rw [a3, z2]
    · rw [if_neg z]
  have hrun1 : am_ex (d + 2) 29 [.ref 1, .int (X.1 16 x), .int (nI y)] X = rV X1 := by
    rw [x29 _ _ x1 (by omega), x16, hX1]
  generalize hX2 : am_wI (am_wI X1 16 y (X1.1 16 x)) 16 x (nI 0) = X2
  have o2 : ∀ a, a ≠ 13 → a ≠ 16 → X2.1 a = X.1 a := fun a a1 a2 => by rw [← hX2, w_o _ _ _ a2, w_o _ _ _ a2, o1 a a1]
  have e16 : ∀ q, X2.1 16 q = if q = x then nI 0 else if q = y then σ.1 16 x else X.1 16 q := fun q => by
    rw [← hX2, am_wI_s, s_eq, am_wI_s, s_eq, o1 16 (by decide), x16]
    by_cases z : q = x
    · rw [if_pos z, z]; exact upd_e
    · rw [if_neg z, upd_n z]
      by_cases z2 : q = y
      · rw [if_pos z2, z2]; exact upd_e
      · rw [if_neg z2, upd_n z2]
  have e13 : X2.1 13 = X1.1 13 := by rw [← hX2, w_o _ _ _ (by decide), w_o _ _ _ (by decide)]
  have j2 : X2.2 = X.2 := by rw [← hX2]; exact j1
  -- nodes and keys, whatever comes after
  have n1' : ∀ X' : am_M, X'.1 16 = X2.1 16 → ∀ u v, plus D x y u v → X'.1 16 v = σ.1 16 u ∧ X'.1 16 u = nI 0 := by
    intro X' hX' u v z
    rw [hX', e16, e16]
    rcases z with z | ⟨rfl, rfl⟩
    · obtain ⟨q1, q2, q3, q4⟩ := uq u v z
      rw [if_neg q3, if_neg q4, if_neg q1, if_neg q2]; exact hM.n1 u v z
    · rw [if_neg (fun z => hxy z.symm), if_pos rfl, if_pos rfl]; exact ⟨rfl, rfl⟩
  have n2' : ∀ X' : am_M, X'.1 16 = X2.1 16 → ∀ q, (∀ v, ¬ plus D x y q v) → (∀ u, ¬ plus D x y u q) → X'.1 16 q = σ.1 16 q := by
    intro X' hX' q z1 z2
    rw [hX', e16, if_neg (fun z => z1 y (Or.inr ⟨z, rfl⟩)), if_neg (fun z => z2 x (Or.inr ⟨rfl, z⟩))]
    exact hM.n2 q (fun v z => z1 v (Or.inl z)) (fun u z => z2 u (Or.inl z))
  have k1' : ∀ X' : am_M, X'.1 13 = X1.1 13 → ∀ u v k, plus D x y u v → 1 ≤ k → k ≤ kc → σ.1 16 u = nI k → X'.1 13 k = nI v := by
    intro X' hX' u v k z q1 q2 q3
    rw [hX']
    rcases z with z | ⟨rfl, rfl⟩
    · have hu := (Pr_b hs (hD u v z)).2.1
      rw [k13b k q1 q2 (fun w => (uq u v z).1 (kuq u k hu q1 q2 q3 w))]
      exact hM.k1 u v k z q1 q2 q3
    · exact k13a k q1 q2 q3
  have k2' : ∀ X' : am_M, X'.1 13 = X1.1 13 → ∀ k, 1 ≤ k → k ≤ kc → (∀ u v, plus D x y u v → ¬ σ.1 16 u = nI k) → X'.1 13 k = σ.1 13 k := by
    intro X' hX' k q1 q2 z
    rw [hX', k13b k q1 q2 (z x y (Or.inr ⟨rfl, rfl⟩))]
    exact hM.k2 k q1 q2 (fun u v w => z u v (Or.inl w))
  by_cases hp21 : x < 21
  · have hy21 : y < 21 := b5.mp hp21
    refine ⟨X2, ?_, ?_⟩
    · rw [e96, q96_0, x162, nI_r, bz_t (inR_n b2 (by omega)), if_neg n10, x162, nI_r, bz_t (inR_n b4 (by omega)), if_neg n10, if_pos (am_k b2 (by omega)), i_cl (by omega), i_cl (by omega), hrun1, bV_r, if_pos (am_k b2 (by omega)), if_pos (am_k b4 (by omega)), if_pos (am_k b2 (by omega)), hX2, x163, nI_r, bz_f (s21_lt hp21), if_pos rfl]
    · have nD : ∀ p q, ¬ (21 + p = x ∧ 21 + q = y) := fun p q z => by omega
      apply Mv.mk
      case o => exact fun a a1 a2 a3 a4 a5 => (o2 a a1 a3).trans (hM.o a a1 a2 a3 a4 a5)
      case j => rw [j2]; exact hM.j
      case n1 => exact n1' X2 rfl
      case n2 => exact n2' X2 rfl
      case k1 => exact k1' X2 e13
      case k2 => exact k2' X2 e13
      case l1 =>
        intro p q z
        rw [o2 17 (by decide) (by decide), o2 18 (by decide) (by decide)]
        exact hM.l1 p q (z.resolve_right (nD p q))
      case l2 =>
        intro p z1 z2
        rw [o2 17 (by decide) (by decide), o2 18 (by decide) (by decide)]
        exact hM.l2 p (fun v z => z1 v (Or.inl z)) (fun u z => z2 u (Or.inl z))
      case r1 =>
        intro p q r z
        rw [o2 15 (by decide) (by decide)]
        exact hM.r1 p q r (z.resolve_right (nD p q))
      case r2 =>
        intro r z
        rw [o2 15 (by decide) (by decide)]
        exact hM.r2 r (fun p q w => z p q (Or.inl w))
  · have hy21 : ¬ y < 21 := fun z => hp21 (b5.mpr z)
    generalize hk : x - 21 = k
    generalize hl : y - 21 = l
    have hk64 : k < 64 := by omega
    have hl64 : l < 64 := by omega
    have hxk : x = 21 + k := by omega
    have hyl : y = 21 + l := by omega
    have hkl' : k ≠ l := by omega
    have lk := hM.l2 k (by rw [← hxk]; exact hx) (by rw [← hxk]; exact xr)
    have x17 : X2.1 17 k = σ.1 17 k := by rw [o2 17 (by decide) (by decide)]; exact lk.1
    have x18 : X2.1 18 k = σ.1 18 k := by rw [o2 18 (by decide) (by decide)]; exact lk.2
    have ruq : ∀ p r, p < 64 → r < rc → σ.1 17 p = nI r → σ.1 17 k = nI r → p = k := by
      intro p r hp hr e1 e2
      rw [s17] at e1 e2
      rcases h.core.rec p hp with z | ⟨r', z1, z2, z3⟩
      · rw [z] at e1; exact absurd e1.symm (nI_nm (by omega))
      · rcases h.core.rec k hk64 with w | ⟨r'', w1, w2, w3⟩
        · rw [w] at e2; exact absurd e2.symm (nI_nm (by omega))
        · rw [z2] at e1; rw [w2] at e2
          rw [nI_inj (by omega) (by omega) e1] at z3
          rw [nI_inj (by omega) (by omega) e2, z3] at w3
          exact nI_inj (by omega) (by omega) w3
    generalize hX3 : (if inR (σ.1 17 k) rc then am_set X2 15 (upd (X2.1 15) (σ.1 17 k).toNatClampNeg (nI l)) else X2) = X3
    have o3 : ∀ a, a ≠ 15 → X3.1 a = X2.1 a := fun a ha => by
      rw [← hX3]
      by_cases e : inR (σ.1 17 k) rc
      · rw [if_pos e, s_ne _ _ ha]
      · rw [if_neg e]
    have j3 : X3.2 = X2.2 := by
      rw [← hX3]
      by_cases e : inR (σ.1 17 k) rc
      · rw [if_pos e]; rfl
      · rw [if_neg e]
    have r15a : ∀ r, r < rc → σ.1 17 k = nI r → X3.1 15 r = nI l := fun r hr e => by
      rw [← hX3, e, if_pos (inR_n hr (by omega)), s_eq, i_cl (by omega)]; exact upd_e
    have r15b : ∀ r, (r < rc → ¬ σ.1 17 k = nI r) → X3.1 15 r = X2.1 15 r := fun r e => by
      rw [← hX3]
      by_cases z : inR (σ.1 17 k) rc
      · rw [if_pos z, s_eq]
        exact upd_n (fun z2 => e (by rw [z2]; exact (inR_of z).2) (by rw [z2]; exact (inR_of z).1))
      · rw [if_neg z]
    generalize hX4 : am_wI (am_wI (am_wI (am_wI X3 17 l (X3.1 17 k)) 17 k (-1)) 18 l (X3.1 18 k)) 18 k (-1) = X4
    have o4 : ∀ a, a ≠ 17 → a ≠ 18 → X4.1 a = X3.1 a := fun a a1 a2 => by rw [← hX4, w_o _ _ _ a2, w_o _ _ _ a2, w_o _ _ _ a1, w_o _ _ _ a1]
    have f17 : ∀ p, X4.1 17 p = if p = k then -1 else if p = l then σ.1 17 k else X.1 17 p := fun p => by
      rw [← hX4, w_o _ _ _ (by decide), w_o _ _ _ (by decide), am_wI_s, s_eq, am_wI_s, s_eq, o3 17 (by decide), x17, o2 17 (by decide) (by decide)]
      by_cases z : p = k
      · rw [if_pos z, z]; exact upd_e
      · rw [if_neg z, upd_n z]
        by_cases z2 : p = l
        · rw [if_pos z2, z2]; exact upd_e
        · rw [if_neg z2, upd_n z2]
    have f18 : ∀ p, X4.1 18 p = if p = k then -1 else if p = l then σ.1 18 k else X.1 18 p := fun p => by
      rw [← hX4, am_wI_s, s_eq, am_wI_s, s_eq, w_o _ _ _ (by decide), w_o _ _ _ (by decide), o3 18 (by decide), x18, o2 18 (by decide) (by decide)]
      by_cases z : p = k
      · rw [if_pos z, z]; exact upd_e
      · rw [if_neg z, upd_n z]
        by_cases z2 : p = l
        · rw [if_pos z2, z2]; exact upd_e
        · rw [if_neg z2, upd_n z2]
    have f15 : X4.1 15 = X3.1 15 := o4 15 (by decide) (by decide)
    have g15 : X2.1 15 = X.1 15 := o2 15 (by decide) (by decide)
    refine ⟨X4, ?_, ?_⟩
    · have x2' : X2.1 2 2 = nI rc := by rw [o2 2 (by decide) (by decide)]; exact x2
      rw [e96, q96_0, x162, nI_r, bz_t (inR_n b2 (by omega)), if_neg n10, x162, nI_r, bz_t (inR_n b4 (by omega)), if_neg n10, if_pos (am_k b2 (by omega)), i_cl (show x < 2 ^ 31 by omega), i_cl (show y < 2 ^ 31 by omega), hrun1, bV_r, if_pos (am_k b2 (by omega)), if_pos (am_k b4 (by omega)), if_pos (am_k b2 (by omega)), hX2, nI_s21 (show 21 ≤ x by omega) (by omega), nI_s21 (show 21 ≤ y by omega) (by omega), hk, hl, x163, nI_r, bz_t (inR_n hk64 (by omega)), if_neg n10, x163, nI_r, bz_t (inR_n hl64 (by omega)), if_neg n10, if_pos (am_k hk64 (by omega)), i_cl (show k < 2 ^ 31 by omega), i_cl (show l < 2 ^ 31 by omega), x17, x63 _ _ x2' hrb, bV_r, hX3, if_pos (am_k hk64 (by omega)), if_pos (am_k hl64 (by omega)), if_pos (am_k hk64 (by omega)), if_pos (am_k hk64 (by omega)), if_pos (am_k hl64 (by omega)), if_pos (am_k hk64 (by omega)), w_o _ _ _ (show (18 : Nat) ≠ 17 by decide), w_o _ _ _ (show (18 : Nat) ≠ 17 by decide), hX4]
    · have h16 : X4.1 16 = X2.1 16 := by rw [o4 16 (by decide) (by decide), o3 16 (by decide)]
      have h13 : X4.1 13 = X1.1 13 := by rw [o4 13 (by decide) (by decide), o3 13 (by decide), e13]
      have uq' : ∀ p q, D (21 + p) (21 + q) → p ≠ k ∧ p ≠ l ∧ q ≠ k ∧ q ≠ l := fun p q z => by
        have := uq _ _ z
        omega
      apply Mv.mk
      case o => exact fun a a1 a2 a3 a4 a5 => by rw [o4 a a4 a5, o3 a a2, o2 a a1 a3]; exact hM.o a a1 a2 a3 a4 a5
      case j =>
        have : X4.2 = X3.2 := by rw [← hX4]; rfl
        rw [this, j3, j2]; exact hM.j
      case n1 => exact n1' X4 h16
      case n2 => exact n2' X4 h16
      case k1 => exact k1' X4 h13
      case k2 => exact k2' X4 h13
      case l1 =>
        intro p q z
        rw [f17, f17, f18, f18]
        rcases z with z | ⟨z1, z2⟩
        · obtain ⟨q1, q2, q3, q4⟩ := uq' p q z
          rw [if_neg q3, if_neg q4, if_neg q1, if_neg q2, if_neg q3, if_neg q4, if_neg q1, if_neg q2]; exact hM.l1 p q z
        · have e1 : p = k := by omega
          have e2 : q = l := by omega
          subst e1
          subst e2
          rw [if_neg (fun z => hkl' z.symm), if_pos rfl, if_pos rfl, if_neg (fun z => hkl' z.symm), if_pos rfl, if_pos rfl]; exact ⟨rfl, rfl, rfl, rfl⟩
      case l2 =>
        intro p z1 z2
        have e1 : p ≠ k := fun z => z1 y (Or.inr ⟨by omega, rfl⟩)
        have e2 : p ≠ l := fun z => z2 x (Or.inr ⟨rfl, by omega⟩)
        rw [f17, f18, if_neg e1, if_neg e2, if_neg e1, if_neg e2]
        exact hM.l2 p (fun v z => z1 v (Or.inl z)) (fun u z => z2 u (Or.inl z))
      case r1 =>
        intro p q r z hr e
        rw [f15]
        rcases z with z | ⟨z1, z2⟩
        · have hp := (Pr_b hs (hD _ _ z)).2.1
          rw [r15b r (fun _ w => (uq' p q z).1 (ruq p r (by omega) hr e w)), g15]
          exact hM.r1 p q r z hr e
        · have e1 : p = k := by omega
          have e2 : q = l := by omega
          subst e1
          subst e2
          exact r15a r hr e
      case r2 =>
        intro r z
        rw [f15, r15b r (z k l (Or.inr ⟨by omega, by omega⟩)), g15]
        exact hM.r2 r (fun p q w => z p q (Or.inl w))
end MVC
