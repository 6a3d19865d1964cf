/-! moving: both sides together -/
section MVJ
variable {c kc md rc td : Nat} {lev rk : Nat → Nat} {J X1 Y1 X Y : am_M} {a b : Nat}
/-- a place is moved from, moved to, or neither -/
theorem Pr_3 (a b q : Nat) : (∃ y, Pr a b q y) ∨ (∃ x, Pr a b x q) ∨ ((∀ y, ¬ Pr a b q y) ∧ ∀ x, ¬ Pr a b x q) := by
  by_cases e1 : ∃ y, Pr a b q y
  · exact Or.inl e1
  · by_cases e2 : ∃ x, Pr a b x q
    · exact Or.inr (Or.inl e2)
    · exact Or.inr (Or.inr ⟨fun y z => e1 ⟨y, z⟩, fun x z => e2 ⟨x, z⟩⟩)
theorem mvJ (h : Inv0 c kc md rc td lev rk J) (hL : Lf kc rc rk (J.1 16) (J.1 17)) (hs : sLv a b) (eC : EqC J X1) (eM : EqM J Y1) (hX : Mv kc rc X1 (Pr a b) X) (hY : MvM rc Y1 (Pr a b) Y) (hb : J.1 16 b = nI 0) (hpb : ¬ J.1 16 (par b) = nI 0) (hmk : ∀ k y, Pr a b (21 + k) y → J.1 19 k = nI 0) : Inv0 c kc md rc td lev rk (hy aM X Y) ∧ Lf kc rc rk ((hy aM X Y).1 16) ((hy aM X Y).1 17) ∧ (∀ x y, Pr a b x y → (hy aM X Y).1 16 y = J.1 16 x ∧ (hy aM X Y).1 16 x = nI 0) ∧ (∀ q, (∀ y, ¬ Pr a b q y) → (∀ x, ¬ Pr a b x q) → (hy aM X Y).1 16 q = J.1 16 q) ∧ (∀ p q, Pr a b (21 + p) (21 + q) → (hy aM X Y).1 17 q = J.1 17 p) := by
  have hkl := h.kl
  have hrb := h.core.rcb
  have gc : ∀ a, a ≠ 13 → a ≠ 15 → a ≠ 16 → a ≠ 17 → a ≠ 18 → ¬ scr a → a < 34 → (hy aM X Y).1 a = J.1 a := fun a a1 a2 a3 a4 a5 a7 a8 => by
    rw [hyI' (by unfold aM; rw [show Nat.ble 34 a = false from by rw [Bool.eq_false_iff]; intro z; have := Nat.le_of_ble_eq_true z; omega]; rfl), hX.o a a1 a2 a3 a4 a5, eC.i a a8 a7]
  have gm : ∀ a, a ≠ 35 → a ≠ 37 → a ≠ 51 → ¬ scr a → aM a = true → a ≠ 34 → (hy aM X Y).1 a = J.1 a := fun a a1 a2 a4 a5 a6 a7 => by
    have : 34 ≤ a ∧ a < 57 := by
      unfold aM at a6
      simp only [Bool.and_eq_true, Nat.ble_eq, Nat.blt_eq] at a6
      exact a6
    rw [hyI a6, hY.o a a1 a2 a4, eM.i a (by omega) (by omega) a5]
  have gf : ∀ j, j ≠ 25 → j ≠ 27 → (hy aM X Y).1 34 j = J.1 34 j := fun j a1 a2 => by
    rw [hyI (by decide), hY.o 34 (by decide) (by decide) (by decide), eM.f j a1 a2]
  have gj : (hy aM X Y).2.1 14 = J.2.1 14 := by rw [hyJ' (by decide), hX.j]; exact eC.j
  have g49 : (hy aM X Y).2.1 49 = J.2.1 49 := by rw [hyJ (by decide), hY.j, eM.j]
  have g50 : (hy aM X Y).2.1 50 = J.2.1 50 := by rw [hyJ (by decide), hY.j, eM.k]
  have w16 : X1.1 16 = J.1 16 := eC.i 16 (by decide) (by decide)
  have w17 : X1.1 17 = J.1 17 := eC.i 17 (by decide) (by decide)
  have w18 : X1.1 18 = J.1 18 := eC.i 18 (by decide) (by decide)
  have w13 : X1.1 13 = J.1 13 := eC.i 13 (by decide) (by decide)
  have w15 : X1.1 15 = J.1 15 := eC.i 15 (by decide) (by decide)
  have w35 : Y1.1 35 = J.1 16 := by rw [eM.i 35 (by decide) (by decide) (by decide), h.e35]
  have w37 : Y1.1 37 = J.1 17 := by rw [eM.i 37 (by decide) (by decide) (by decide), h.e37]
  have w51 : Y1.1 51 = J.1 15 := by rw [eM.i 51 (by decide) (by decide) (by decide), h.e51]
  have c16 : (hy aM X Y).1 16 = X.1 16 := hyI' (by decide)
  have c17 : (hy aM X Y).1 17 = X.1 17 := hyI' (by decide)
  have c13 : (hy aM X Y).1 13 = X.1 13 := hyI' (by decide)
  have c15 : (hy aM X Y).1 15 = X.1 15 := hyI' (by decide)
  have c18 : (hy aM X Y).1 18 = X.1 18 := hyI' (by decide)
  have n1 : ∀ x y, Pr a b x y → X.1 16 y = J.1 16 x ∧ X.1 16 x = nI 0 := fun x y z => by rw [← w16]; exact hX.n1 x y z
  have n2 : ∀ q, (∀ y, ¬ Pr a b q y) → (∀ x, ¬ Pr a b x q) → X.1 16 q = J.1 16 q := fun q z1 z2 => by rw [← w16]; exact hX.n2 q z1 z2
  have k1 : ∀ x y k, Pr a b x y → 1 ≤ k → k ≤ kc → J.1 16 x = nI k → X.1 13 k = nI y := fun x y k z q1 q2 q3 => hX.k1 x y k z q1 q2 (by rw [w16]; exact q3)
  have k2 : ∀ k, 1 ≤ k → k ≤ kc → (∀ x y, Pr a b x y → ¬ J.1 16 x = nI k) → X.1 13 k = J.1 13 k := fun k q1 q2 q3 => by rw [← w13]; exact hX.k2 k q1 q2 (fun x y z => by rw [w16]; exact q3 x y z)
  have l1 : ∀ p q, Pr a b (21 + p) (21 + q) → X.1 17 q = J.1 17 p ∧ X.1 17 p = -1 ∧ X.1 18 q = J.1 18 p ∧ X.1 18 p = -1 := fun p q z => by rw [← w17, ← w18]; exact hX.l1 p q z
  have l2 : ∀ p, (∀ y, ¬ Pr a b (21 + p) y) → (∀ x, ¬ Pr a b x (21 + p)) → X.1 17 p = J.1 17 p ∧ X.1 18 p = J.1 18 p := fun p z1 z2 => by rw [← w17, ← w18]; exact hX.l2 p z1 z2
  have r1 : ∀ p q r, Pr a b (21 + p) (21 + q) → r < rc → J.1 17 p = nI r → X.1 15 r = nI q := fun p q r z q1 q2 => hX.r1 p q r z q1 (by rw [w17]; exact q2)
  have r2 : ∀ r, (∀ p q, Pr a b (21 + p) (21 + q) → r < rc → ¬ J.1 17 p = nI r) → X.1 15 r = J.1 15 r := fun r z => by rw [← w15]; exact hX.r2 r (fun p q q1 q2 => by rw [w17]; exact z p q q1 q2)
  -- leaves
  have lf1 : ∀ p y, Pr a b (21 + p) y → ∃ q, y = 21 + q ∧ q < 64 ∧ p < 64 := fun p y z => by
    have := Pr_b hs z
    exact ⟨y - 21, by omega, by omega, by omega⟩
  have lf2 : ∀ q x, Pr a b x (21 + q) → ∃ p, x = 21 + p ∧ p < 64 ∧ q < 64 := fun p y z => by
    have := Pr_b hs z
    exact ⟨y - 21, by omega, by omega, by omega⟩
  have em : ∀ x q, Pr a b x (21 + q) → J.1 17 q = -1 := fun x q z => by
    obtain ⟨p, _, _, hq⟩ := lf2 q x z
    exact (hL.lfn q hq).mpr (Pr_e h hs hb z)
  refine ⟨?_, ?_, fun x y z => by rw [c16]; exact n1 x y z, fun q z1 z2 => by rw [c16]; exact n2 q z1 z2, fun p q z => by rw [c17]; exact (l1 p q z).1⟩
  · apply Inv0.mk
    case core =>
      rw [c16, c17, c13, c15, gc 20 (by decide) (by decide) (by decide) (by decide) (by decide) (by decide) (by decide), gc 21 (by decide) (by decide) (by decide) (by decide) (by decide) (by decide) (by decide), gc 22 (by decide) (by decide) (by decide) (by decide) (by decide) (by decide) (by decide), gc 23 (by decide) (by decide) (by decide) (by decide) (by decide) (by decide) (by decide), gc 24 (by decide) (by decide) (by decide) (by decide) (by decide) (by decide) (by decide)]
      have kuq : ∀ u v k, u < 85 → v < 85 → 1 ≤ k → k ≤ kc → J.1 16 u = nI k → J.1 13 k = nI v → u = v := by
        intro u v k hu hv q1 q2 e1 e2
        rcases h.core.node u hu with z | ⟨k', z1, z2, z3, z4, _⟩
        · rw [z] at e1; have := nI_inj (by omega) (by omega) e1; omega
        · rw [z3] at e1
          rw [nI_inj (by omega) (by omega) e1, e2] at z4
          exact (nI_inj (by omega) (by omega) z4).symm
      apply Core.mk
      case mdb => exact h.core.mdb
      case rcb => exact h.core.rcb
      case lvb => exact h.core.lvb
      case node =>
        intro q hq
        rcases Pr_3 a b q with ⟨y, z⟩ | ⟨x, z⟩ | ⟨z1, z2⟩
        · exact Or.inl (n1 q y z).2
        · rw [(n1 x q z).1]
          rcases h.core.node x (Pr_b hs z).2.1 with w | ⟨k, w1, w2, w3, w4, w5⟩
          · exact Or.inl w
          · exact Or.inr ⟨k, w1, w2, w3, k1 x q k z w1 w2 w3, by rw [w5, Pr_l hs z]⟩
        · rw [n2 q z1 z2]
          rcases h.core.node q hq with w | ⟨k, w1, w2, w3, w4, w5⟩
          · exact Or.inl w
          · refine Or.inr ⟨k, w1, w2, w3, ?_, w5⟩
            rw [k2 k w1 w2 (fun x y z e => ?_)]
            · exact w4
            · have := kuq x q k (Pr_b hs z).2.1 hq w1 w2 e w4
              rw [this] at z
              exact z1 y z
      case root =>
        rw [n2 0 (fun y z => by have := (Pr_b hs z).1; omega) (fun x z => by have := (Pr_b hs z).2.2.1; omega)]
        exact h.core.root
      case pars =>
        intro q h0 hq hn
        have hpl := par_lt h0
        rcases Pr_3 a b q with ⟨y, z⟩ | ⟨x, z⟩ | ⟨z1, z2⟩
        · exact absurd (n1 q y z).2 hn
        · rw [(n1 x q z).1] at hn
          rcases Pr_p hs z with ⟨e1, e2⟩ | e
          · rw [e2, n2 (par b) ?_ ?_]
            · exact hpb
            · intro y w
              rcases w with ⟨w1, w2⟩ | ⟨w0, j, w1, w2, w3⟩ | ⟨w0, j, w1, w2, w3⟩ <;> (unfold par at *; omega)
            · intro y w
              rcases w with ⟨w1, w2⟩ | ⟨w0, j, w1, w2, w3⟩ | ⟨w0, j, w1, w2, w3⟩ <;> (unfold par at *; omega)
          · rw [(n1 _ _ e).1]
            exact h.core.pars x (Pr_b hs z).1 (Pr_b hs z).2.1 hn
        · rw [n2 q z1 z2] at hn
          rw [n2 (par q) (fun y w => ?_) (fun x w => ?_)]
          · exact h.core.pars q h0 hq hn
          · obtain ⟨z', w1, _⟩ := Pr_ch hs h0 hq w
            exact z1 z' w1
          · obtain ⟨z', w1, _⟩ := Pr_ch' hs h0 hq w
            exact z2 z' w1
      case plc =>
        intro k q1 q2
        by_cases e : ∃ x y, Pr a b x y ∧ J.1 16 x = nI k
        · obtain ⟨x, y, z, e⟩ := e
          exact Or.inr ⟨y, (Pr_b hs z).2.2.2.1, k1 x y k z q1 q2 e, by rw [(n1 x y z).1]; exact e⟩
        · rw [k2 k q1 q2 (fun x y z w => e ⟨x, y, z, w⟩)]
          rcases h.core.plc k q1 q2 with w | ⟨p, w1, w2, w3⟩
          · exact Or.inl w
          · refine Or.inr ⟨p, w1, w2, ?_⟩
            rw [n2 p (fun y z => e ⟨p, y, z, w3⟩) (fun x z => ?_)]
            · exact w3
            · have := Pr_e h hs hb z
              rw [w3] at this
              have := nI_inj (by omega) (by omega) this
              omega
      case rec =>
        intro k hk
        rcases Pr_3 a b (21 + k) with ⟨y, z⟩ | ⟨x, z⟩ | ⟨z1, z2⟩
        · obtain ⟨q, rfl, _, _⟩ := lf1 k y z
          exact Or.inl (l1 k q z).2.1
        · obtain ⟨p, rfl, hp, _⟩ := lf2 k x z
          rw [(l1 p k z).1]
          rcases h.core.rec p hp with w | ⟨r, w1, w2, w3⟩
          · exact Or.inl w
          · exact Or.inr ⟨r, w1, w2, r1 p k r z w1 w2⟩
        · rw [(l2 k z1 z2).1]
          rcases h.core.rec k hk with w | ⟨r, w1, w2, w3⟩
          · exact Or.inl w
          · refine Or.inr ⟨r, w1, w2, ?_⟩
            rw [r2 r (fun p q z _ e => ?_)]
            · exact w3
            · obtain ⟨_, _, _, hp⟩ := lf1 p _ z
              rcases h.core.rec p hp with v | ⟨r', v1, v2, v3⟩
              · rw [v] at e; exact absurd e.symm (nI_nm (by omega))
              · rw [v2] at e
                rw [nI_inj (by omega) (by omega) e, w3] at v3
                have := nI_inj (by omega) (by omega) v3
                rw [← this] at z
                exact z1 _ z
      case lfs =>
        intro r hr
        by_cases e : ∃ p q, Pr a b (21 + p) (21 + q) ∧ J.1 17 p = nI r
        · obtain ⟨p, q, z, e⟩ := e
          obtain ⟨_, w1, w2, _⟩ := lf1 p _ z
          exact Or.inr ⟨q, by omega, r1 p q r z hr e, by rw [(l1 p q z).1]; exact e⟩
        · rw [r2 r (fun p q z _ w => e ⟨p, q, z, w⟩)]
          rcases h.core.lfs r hr with w | ⟨k, w1, w2, w3⟩
          · exact Or.inl w
          · refine Or.inr ⟨k, w1, w2, ?_⟩
            rw [(l2 k (fun y z => ?_) (fun x z => ?_)).1]
            · exact w3
            · obtain ⟨q, rfl, _, _⟩ := lf1 k y z
              exact e ⟨k, q, z, w3⟩
            · have := em x k z
              rw [w3] at this
              exact nI_nm (by omega) this
      case med => exact h.core.med
      case ent => exact h.core.ent
    case cb => exact h.cb
    case kb => rw [gc 20 (by decide) (by decide) (by decide) (by decide) (by decide) (by decide) (by decide), gc 21 (by decide) (by decide) (by decide) (by decide) (by decide) (by decide) (by decide)]; exact h.kb
    case hk => rw [gc 1 (by decide) (by decide) (by decide) (by decide) (by decide) (by decide) (by decide)]; exact h.hk
    case hm => rw [gc 4 (by decide) (by decide) (by decide) (by decide) (by decide) (by decide) (by decide)]; exact h.hm
    case hr => rw [gc 2 (by decide) (by decide) (by decide) (by decide) (by decide) (by decide) (by decide)]; exact h.hr
    case ht => rw [gc 0 (by decide) (by decide) (by decide) (by decide) (by decide) (by decide) (by decide)]; exact h.ht
    case tb => exact h.tb
    case hk' => rw [gf 21 (by decide) (by decide)]; exact h.hk'
    case hm' => rw [gf 22 (by decide) (by decide)]; exact h.hm'
    case hr' => rw [gf 23 (by decide) (by decide)]; exact h.hr'
    case ht' => rw [gf 24 (by decide) (by decide)]; exact h.ht'
    case sd => rw [gf 20 (by decide) (by decide), gc 1 (by decide) (by decide) (by decide) (by decide) (by decide) (by decide) (by decide)]; exact h.sd
    case e35 =>
      rw [hyI (by decide), c16]
      funext q
      rcases Pr_3 a b q with ⟨y, z⟩ | ⟨x, z⟩ | ⟨z1, z2⟩
      · rw [(n1 q y z).2, (hY.n1 q y z).2]
      · rw [(n1 x q z).1, (hY.n1 x q z).1, w35]
      · rw [n2 q z1 z2, hY.n2 q z1 z2, w35]
    case e37 =>
      rw [hyI (by decide), c17]
      funext k
      rcases Pr_3 a b (21 + k) with ⟨y, z⟩ | ⟨x, z⟩ | ⟨z1, z2⟩
      · obtain ⟨q, rfl, _, _⟩ := lf1 k y z
        rw [(l1 k q z).2.1, (hY.l1 k q z).2]
      · obtain ⟨p, rfl, hp, _⟩ := lf2 k x z
        rw [(l1 p k z).1, (hY.l1 p k z).1, w37]
      · rw [(l2 k z1 z2).1, hY.l2 k z1 z2, w37]
    case e38 => rw [gm 38 (by decide) (by decide) (by decide) (by decide) (by decide) (by decide), gc 10 (by decide) (by decide) (by decide) (by decide) (by decide) (by decide) (by decide)]; exact h.e38
    case e41 => rw [gm 41 (by decide) (by decide) (by decide) (by decide) (by decide) (by decide), gc 19 (by decide) (by decide) (by decide) (by decide) (by decide) (by decide) (by decide)]; exact h.e41
    case e46 => rw [gm 46 (by decide) (by decide) (by decide) (by decide) (by decide) (by decide), gc 22 (by decide) (by decide) (by decide) (by decide) (by decide) (by decide) (by decide)]; exact h.e46
    case e47 => rw [gm 47 (by decide) (by decide) (by decide) (by decide) (by decide) (by decide), gc 23 (by decide) (by decide) (by decide) (by decide) (by decide) (by decide) (by decide)]; exact h.e47
    case e48 => rw [gm 48 (by decide) (by decide) (by decide) (by decide) (by decide) (by decide), gc 24 (by decide) (by decide) (by decide) (by decide) (by decide) (by decide) (by decide)]; exact h.e48
    case e51 =>
      rw [hyI (by decide), c15]
      funext r
      by_cases e : ∃ p q, Pr a b (21 + p) (21 + q) ∧ r < rc ∧ J.1 17 p = nI r
      · obtain ⟨p, q, z, e1, e2⟩ := e
        rw [r1 p q r z e1 e2, hY.r1 p q r z e1 (by rw [w37]; exact e2)]
      · rw [r2 r (fun p q z e1 e2 => e ⟨p, q, z, e1, e2⟩), hY.r2 r (fun p q z e1 e2 => e ⟨p, q, z, e1, by rw [← w37]; exact e2⟩), w51]
    case e53 => rw [gm 53 (by decide) (by decide) (by decide) (by decide) (by decide) (by decide), gc 33 (by decide) (by decide) (by decide) (by decide) (by decide) (by decide) (by decide)]; exact h.e53
    case e54 => rw [gm 54 (by decide) (by decide) (by decide) (by decide) (by decide) (by decide), gc 32 (by decide) (by decide) (by decide) (by decide) (by decide) (by decide) (by decide)]; exact h.e54
    case e50 => rw [g50, gj]; exact h.e50
    case mdm => rw [gm 44 (by decide) (by decide) (by decide) (by decide) (by decide) (by decide), gm 45 (by decide) (by decide) (by decide) (by decide) (by decide) (by decide), gc 20 (by decide) (by decide) (by decide) (by decide) (by decide) (by decide) (by decide), gc 21 (by decide) (by decide) (by decide) (by decide) (by decide) (by decide) (by decide)]; exact h.mdm
    case kep => rw [gm 39 (by decide) (by decide) (by decide) (by decide) (by decide) (by decide), gm 40 (by decide) (by decide) (by decide) (by decide) (by decide) (by decide), gc 11 (by decide) (by decide) (by decide) (by decide) (by decide) (by decide) (by decide), gc 12 (by decide) (by decide) (by decide) (by decide) (by decide) (by decide) (by decide)]; exact h.kep
    case okh => rw [gc 10 (by decide) (by decide) (by decide) (by decide) (by decide) (by decide) (by decide)]; exact h.okh
    case due =>
      intro k hk
      rw [c18, c17, gm 52 (by decide) (by decide) (by decide) (by decide) (by decide) (by decide)]
      unfold dueOf
      rcases Pr_3 a b (21 + k) with ⟨y, z⟩ | ⟨x, z⟩ | ⟨z1, z2⟩
      · obtain ⟨q, rfl, _, _⟩ := lf1 k y z
        rw [(l1 k q z).2.1, (l1 k q z).2.2.2, if_pos rfl]
      · obtain ⟨p, rfl, hp, _⟩ := lf2 k x z
        rw [(l1 p k z).1, (l1 p k z).2.2.1]; exact h.due p hp
      · rw [(l2 k z1 z2).1, (l2 k z1 z2).2]; exact h.due k hk
    case mrk =>
      intro k hk
      rw [gc 19 (by decide) (by decide) (by decide) (by decide) (by decide) (by decide) (by decide), c17]
      rcases Pr_3 a b (21 + k) with ⟨y, z⟩ | ⟨x, z⟩ | ⟨z1, z2⟩
      · exact Or.inl (hmk k y z)
      · refine Or.inl ?_
        rcases h.mrk k hk with w | w
        · exact w
        · exact absurd (em x k z) w.2
      · rw [(l2 k z1 z2).1]; exact h.mrk k hk
    case con => rw [gc 21 (by decide) (by decide) (by decide) (by decide) (by decide) (by decide) (by decide), gc 22 (by decide) (by decide) (by decide) (by decide) (by decide) (by decide) (by decide), gc 23 (by decide) (by decide) (by decide) (by decide) (by decide) (by decide) (by decide), gc 24 (by decide) (by decide) (by decide) (by decide) (by decide) (by decide) (by decide), gc 1 (by decide) (by decide) (by decide) (by decide) (by decide) (by decide) (by decide), gj, g49]; exact h.con
    case prl => rw [gc 32 (by decide) (by decide) (by decide) (by decide) (by decide) (by decide) (by decide)]; exact h.prl
  · rw [c16, c17]
    refine ⟨fun k hk => ?_, fun k hk r e hr he e1 e2 => ?_⟩
    · rcases Pr_3 a b (21 + k) with ⟨y, z⟩ | ⟨x, z⟩ | ⟨z1, z2⟩
      · obtain ⟨q, rfl, _, _⟩ := lf1 k y z
        rw [(l1 k q z).2.1, (n1 _ _ z).2]; exact ⟨fun _ => rfl, fun _ => rfl⟩
      · obtain ⟨p, rfl, hp, _⟩ := lf2 k x z
        rw [(l1 p k z).1, (n1 _ _ z).1]; exact hL.lfn p hp
      · rw [(l2 k z1 z2).1, n2 _ z1 z2]; exact hL.lfn k hk
    · rcases Pr_3 a b (21 + k) with ⟨y, z⟩ | ⟨x, z⟩ | ⟨z1, z2⟩
      · obtain ⟨q, rfl, _, _⟩ := lf1 k y z
        rw [(l1 k q z).2.1] at e1
        exact absurd e1.symm (nI_nm (by omega))
      · obtain ⟨p, rfl, hp, _⟩ := lf2 k x z
        rw [(l1 p k z).1] at e1
        rw [(n1 _ _ z).1] at e2
        exact hL.rkn p hp r e hr he e1 e2
      · rw [(l2 k z1 z2).1] at e1
        rw [n2 _ z1 z2] at e2
        exact hL.rkn k hk r e hr he e1 e2
end MVJ
