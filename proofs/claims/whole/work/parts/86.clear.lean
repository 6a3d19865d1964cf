/-! forgetting: what goes -/
section CLR
variable (d : Nat) {c kc md rc td : Nat} {lev rk : Nat → Nat} {σ : am_M} {u : Nat → Int32}
/-- the class has gone through the places below p -/
abbrev Gn (kc : Nat) (σ : am_M) (u : Nat → Int32) (X0 : am_M) (p : Nat) (X : am_M) : Prop := (∀ a, a ≠ 13 → a ≠ 15 → a ≠ 16 → a ≠ 17 → a ≠ 18 → a ≠ 19 → X.1 a = X0.1 a) ∧ (X.2 = X0.2) ∧ (∀ q, 1 ≤ q → q < p → ¬ sty (σ.1 17) u q → X.1 16 q = nI 0) ∧ (∀ q, ¬ (1 ≤ q ∧ q < p ∧ ¬ sty (σ.1 17) u q) → X.1 16 q = σ.1 16 q) ∧ (∀ q k, 1 ≤ q → q < p → ¬ sty (σ.1 17) u q → 1 ≤ k → k ≤ kc → σ.1 16 q = nI k → X.1 13 k = -1) ∧ (∀ k, 1 ≤ k → k ≤ kc → (∀ q, 1 ≤ q → q < p → ¬ sty (σ.1 17) u q → ¬ σ.1 16 q = nI k) → X.1 13 k = σ.1 13 k) ∧ (∀ k, k < 64 → 21 + k < p → ¬ sty (σ.1 17) u (21 + k) → X.1 17 k = -1 ∧ X.1 18 k = -1 ∧ X.1 19 k = nI 0) ∧ (∀ k, ¬ (k < 64 ∧ 21 + k < p ∧ ¬ sty (σ.1 17) u (21 + k)) → X.1 17 k = σ.1 17 k ∧ X.1 18 k = σ.1 18 k ∧ X.1 19 k = σ.1 19 k) ∧ (∀ k, k < 64 → 21 + k < p → ¬ sty (σ.1 17) u (21 + k) → ¬ σ.1 17 k = -1 → X.1 15 (σ.1 17 k).toNatClampNeg = -1) ∧ (∀ r, (∀ k, k < 64 → 21 + k < p → ¬ sty (σ.1 17) u (21 + k) → ¬ σ.1 17 k = -1 → ¬ (σ.1 17 k).toNatClampNeg = r) → X.1 15 r = σ.1 15 r)
theorem Gn.o {kc : Nat} {σ : am_M} {u : Nat → Int32} {X0 : am_M} {p : Nat} {X : am_M} (h : Gn kc σ u X0 p X) : ∀ a, a ≠ 13 → a ≠ 15 → a ≠ 16 → a ≠ 17 → a ≠ 18 → a ≠ 19 → X.1 a = X0.1 a := h.1
theorem Gn.j {kc : Nat} {σ : am_M} {u : Nat → Int32} {X0 : am_M} {p : Nat} {X : am_M} (h : Gn kc σ u X0 p X) : X.2 = X0.2 := h.2.1
theorem Gn.n1 {kc : Nat} {σ : am_M} {u : Nat → Int32} {X0 : am_M} {p : Nat} {X : am_M} (h : Gn kc σ u X0 p X) : ∀ q, 1 ≤ q → q < p → ¬ sty (σ.1 17) u q → X.1 16 q = nI 0 := h.2.2.1
theorem Gn.n2 {kc : Nat} {σ : am_M} {u : Nat → Int32} {X0 : am_M} {p : Nat} {X : am_M} (h : Gn kc σ u X0 p X) : ∀ q, ¬ (1 ≤ q ∧ q < p ∧ ¬ sty (σ.1 17) u q) → X.1 16 q = σ.1 16 q := h.2.2.2.1
theorem Gn.k1 {kc : Nat} {σ : am_M} {u : Nat → Int32} {X0 : am_M} {p : Nat} {X : am_M} (h : Gn kc σ u X0 p X) : ∀ q k, 1 ≤ q → q < p → ¬ sty (σ.1 17) u q → 1 ≤ k → k ≤ kc → σ.1 16 q = nI k → X.1 13 k = -1 := h.2.2.2.2.1
theorem Gn.k2 {kc : Nat} {σ : am_M} {u : Nat → Int32} {X0 : am_M} {p : Nat} {X : am_M} (h : Gn kc σ u X0 p X) : ∀ k, 1 ≤ k → k ≤ kc → (∀ q, 1 ≤ q → q < p → ¬ sty (σ.1 17) u q → ¬ σ.1 16 q = nI k) → X.1 13 k = σ.1 13 k := h.2.2.2.2.2.1
theorem Gn.l1 {kc : Nat} {σ : am_M} {u : Nat → Int32} {X0 : am_M} {p : Nat} {X : am_M} (h : Gn kc σ u X0 p X) : ∀ k, k < 64 → 21 + k < p → ¬ sty (σ.1 17) u (21 + k) → X.1 17 k = -1 ∧ X.1 18 k = -1 ∧ X.1 19 k = nI 0 := h.2.2.2.2.2.2.1
theorem Gn.l2 {kc : Nat} {σ : am_M} {u : Nat → Int32} {X0 : am_M} {p : Nat} {X : am_M} (h : Gn kc σ u X0 p X) : ∀ k, ¬ (k < 64 ∧ 21 + k < p ∧ ¬ sty (σ.1 17) u (21 + k)) → X.1 17 k = σ.1 17 k ∧ X.1 18 k = σ.1 18 k ∧ X.1 19 k = σ.1 19 k := h.2.2.2.2.2.2.2.1
theorem Gn.r1 {kc : Nat} {σ : am_M} {u : Nat → Int32} {X0 : am_M} {p : Nat} {X : am_M} (h : Gn kc σ u X0 p X) : ∀ k, k < 64 → 21 + k < p → ¬ sty (σ.1 17) u (21 + k) → ¬ σ.1 17 k = -1 → X.1 15 (σ.1 17 k).toNatClampNeg = -1 := h.2.2.2.2.2.2.2.2.1
theorem Gn.r2 {kc : Nat} {σ : am_M} {u : Nat → Int32} {X0 : am_M} {p : Nat} {X : am_M} (h : Gn kc σ u X0 p X) : ∀ r, (∀ k, k < 64 → 21 + k < p → ¬ sty (σ.1 17) u (21 + k) → ¬ σ.1 17 k = -1 → ¬ (σ.1 17 k).toNatClampNeg = r) → X.1 15 r = σ.1 15 r := h.2.2.2.2.2.2.2.2.2
theorem Gn.mk {kc : Nat} {σ : am_M} {u : Nat → Int32} {X0 : am_M} {p : Nat} {X : am_M} (o : ∀ a, a ≠ 13 → a ≠ 15 → a ≠ 16 → a ≠ 17 → a ≠ 18 → a ≠ 19 → X.1 a = X0.1 a) (j : X.2 = X0.2) (n1 : ∀ q, 1 ≤ q → q < p → ¬ sty (σ.1 17) u q → X.1 16 q = nI 0) (n2 : ∀ q, ¬ (1 ≤ q ∧ q < p ∧ ¬ sty (σ.1 17) u q) → X.1 16 q = σ.1 16 q) (k1 : ∀ q k, 1 ≤ q → q < p → ¬ sty (σ.1 17) u q → 1 ≤ k → k ≤ kc → σ.1 16 q = nI k → X.1 13 k = -1) (k2 : ∀ k, 1 ≤ k → k ≤ kc → (∀ q, 1 ≤ q → q < p → ¬ sty (σ.1 17) u q → ¬ σ.1 16 q = nI k) → X.1 13 k = σ.1 13 k) (l1 : ∀ k, k < 64 → 21 + k < p → ¬ sty (σ.1 17) u (21 + k) → X.1 17 k = -1 ∧ X.1 18 k = -1 ∧ X.1 19 k = nI 0) (l2 : ∀ k, ¬ (k < 64 ∧ 21 + k < p ∧ ¬ sty (σ.1 17) u (21 + k)) → X.1 17 k = σ.1 17 k ∧ X.1 18 k = σ.1 18 k ∧ X.1 19 k = σ.1 19 k) (r1 : ∀ k, k < 64 → 21 + k < p → ¬ sty (σ.1 17) u (21 + k) → ¬ σ.1 17 k = -1 → X.1 15 (σ.1 17 k).toNatClampNeg = -1) (r2 : ∀ r, (∀ k, k < 64 → 21 + k < p → ¬ sty (σ.1 17) u (21 + k) → ¬ σ.1 17 k = -1 → ¬ (σ.1 17 k).toNatClampNeg = r) → X.1 15 r = σ.1 15 r) : Gn kc σ u X0 p X := ⟨o, j, n1, n2, k1, k2, l1, l2, r1, r2⟩
theorem Gn.next {X0 X : am_M} {p : Nat} (h : Gn kc σ u X0 p X) (hs : sty (σ.1 17) u p) : Gn kc σ u X0 (p + 1) X := by
  have ne : ∀ q, q < p + 1 → ¬ sty (σ.1 17) u q → q < p := fun q hq hn => by
    by_cases e : q = p
    · subst e; exact absurd hs hn
    · omega
  apply Gn.mk
  case o => exact h.o
  case j => exact h.j
  case n1 => exact fun q a b e => h.n1 q a (ne q b e) e
  case n2 => exact fun q a => h.n2 q (fun z => a ⟨z.1, by omega, z.2.2⟩)
  case k1 => exact fun q k a b e => h.k1 q k a (ne q b e) e
  case k2 => exact fun k k1 k2 a => h.k2 k k1 k2 (fun q b e f => a q b (by omega) f)
  case l1 => exact fun k a b e => h.l1 k a (ne _ b e) e
  case l2 => exact fun k a => h.l2 k (fun z => a ⟨z.1, by omega, z.2.2⟩)
  case r1 => exact fun k a b e => h.r1 k a (ne _ b e) e
  case r2 => exact fun r a => h.r2 r (fun k b e f => a k b (by omega) f)
theorem upd_e {f : Nat → Int32} {a : Nat} {v : Int32} : upd f a v a = v := if_pos rfl
theorem upd_n {f : Nat → Int32} {a b : Nat} {v : Int32} (h : b ≠ a) : upd f a v b = f b := if_neg h
/-- the class clears place p -/
theorem x95 (h : Inv c kc md rc td lev rk σ) {X0 X : am_M} (hX0 : Sm σ X0) {p : Nat} (hG : Gn kc σ u X0 p X) (h1 : 1 ≤ p) (hp : p < 85) (hn : ¬ sty (σ.1 17) u p) : ∃ X', am_ex (d + 3) 95 [.ref 3, .int (nI p)] X = rV X' ∧ Gn kc σ u X0 (p + 1) X' := by
  have hkl := h.kl
  have hrb := h.core.rcb
  have x1 : X.1 1 2 = nI kc := by rw [hG.o 1 (by decide) (by decide) (by decide) (by decide) (by decide) (by decide), hX0.i 1 (by decide) (by decide)]; exact h.hk
  have x2 : X.1 2 2 = nI rc := by rw [hG.o 2 (by decide) (by decide) (by decide) (by decide) (by decide) (by decide), hX0.i 2 (by decide) (by decide)]; exact h.hr
  have x16 : X.1 16 p = σ.1 16 p := hG.n2 p (fun z => by omega)
  -- the key
  generalize hX1 : (if mdR (σ.1 16 p) kc then am_set X 13 (upd (X.1 13) (σ.1 16 p).toNatClampNeg (-1)) else X) = X1
  have o1 : ∀ a, a ≠ 13 → X1.1 a = X.1 a := fun a ha => by
    rw [← hX1]
    by_cases e : mdR (σ.1 16 p) kc
    · rw [if_pos e, s_ne _ _ ha]
    · rw [if_neg e]
  have j1 : X1.2 = X.2 := by
    rw [← hX1]
    by_cases e : mdR (σ.1 16 p) kc
    · rw [if_pos e]; rfl
    · rw [if_neg e]
  have k13a : ∀ k, 1 ≤ k → k ≤ kc → σ.1 16 p = nI k → X1.1 13 k = -1 := fun k k1 k2 e => by
    rw [← hX1, e, if_pos (md_k k1 k2 hkl), s_eq, i_cl (by omega)]; exact upd_e
  have k13b : ∀ k, 1 ≤ k → k ≤ kc → ¬ σ.1 16 p = nI k → X1.1 13 k = X.1 13 k := fun k k1 k2 e => by
    rw [← hX1]
    by_cases z : mdR (σ.1 16 p) kc
    · rw [if_pos z, s_eq]
      obtain ⟨k', a1, a2, a3⟩ := md_of z
      refine upd_n (fun z2 => e ?_)
      rw [a3, i_cl (by omega)] at z2
      rw [a3, z2]
    · rw [if_neg z]
  have hrun1 : am_ex (d + 2) 29 [.ref 1, .int (X.1 16 p), .int (-1)] X = rV X1 := by
    rw [x29 _ _ x1 (by omega), x16, hX1]
  generalize hX2 : am_set X1 16 (upd (X1.1 16) p (nI 0)) = X2
  have o2 : ∀ a, a ≠ 13 → a ≠ 16 → X2.1 a = X.1 a := fun a a1 a2 => by rw [← hX2, s_ne _ _ a2, o1 a a1]
  have e16 : X2.1 16 = upd (X.1 16) p (nI 0) := by rw [← hX2, s_eq, o1 16 (by decide)]
  have e13 : X2.1 13 = X1.1 13 := by rw [← hX2, s_ne _ _ (by decide)]
  have j2 : X2.2 = X.2 := by rw [← hX2]; exact j1
  by_cases hp21 : p < 21
  · refine ⟨X2, ?_, ?_⟩
    · rw [e95, q95_0, x162, nI_r, bz_t (inR_n hp (by omega)), if_neg n10, if_pos (am_k hp (by omega)), i_cl (by omega), hrun1, bV_r, if_pos (am_k hp (by omega)), am_wI_s, hX2, x163, nI_r, bz_f (s21_lt hp21), if_pos rfl]
    · have el : ∀ k, 21 + k < p + 1 → False := fun k hk => by omega
      apply Gn.mk
      case o => exact fun a a1 a2 a3 a4 a5 a6 => (o2 a a1 a3).trans (hG.o a a1 a2 a3 a4 a5 a6)
      case j => rw [j2]; exact hG.j
      case n1 =>
        intro q q1 q2 q3
        rw [e16]
        by_cases e : q = p
        · rw [e]; exact upd_e
        · rw [upd_n e]; exact hG.n1 q q1 (by omega) q3
      case n2 =>
        intro q q1
        have e : q ≠ p := fun z => q1 (by rw [z]; exact ⟨h1, by omega, hn⟩)
        rw [e16, upd_n e]; exact hG.n2 q (fun z => q1 ⟨z.1, by omega, z.2.2⟩)
      case k1 =>
        intro q k q1 q2 q3 k1 k2 e
        rw [e13]
        by_cases ep : σ.1 16 p = nI k
        · exact k13a k k1 k2 ep
        · rw [k13b k k1 k2 ep]
          exact hG.k1 q k q1 (by
            by_cases z : q = p
            · subst z; exact absurd e ep
            · omega) q3 k1 k2 e
      case k2 =>
        intro k k1 k2 hall
        rw [e13, k13b k k1 k2 (hall p h1 (by omega) hn)]
        exact hG.k2 k k1 k2 (fun q a b e => hall q a (by omega) e)
      case l1 => exact fun k a b => (el k b).elim
      case l2 =>
        intro k _
        rw [o2 17 (by decide) (by decide), o2 18 (by decide) (by decide), o2 19 (by decide) (by decide)]
        exact hG.l2 k (fun z => by omega)
      case r1 => exact fun k a b => (el k b).elim
      case r2 =>
        intro r _
        rw [o2 15 (by decide) (by decide)]
        exact hG.r2 r (fun k a b => by omega)
  · generalize hk : p - 21 = k
    have hk64 : k < 64 := by omega
    have hpk : 21 + k = p := by omega
    have x17 : X2.1 17 k = σ.1 17 k := by rw [o2 17 (by decide) (by decide)]; exact (hG.l2 k (fun z => by omega)).1
    generalize hX3 : (if inR (σ.1 17 k) rc then am_set X2 15 (upd (X2.1 15) (σ.1 17 k).toNatClampNeg (-1)) else X2) = X3
    have o3 : ∀ a, a ≠ 15 → X3.1 a = X2.1 a := fun a ha => by
      rw [← hX3]
      by_cases e : inR (σ.1 17 k) rc
      · rw [if_pos e, s_ne _ _ ha]
      · rw [if_neg e]
    have j3 : X3.2 = X2.2 := by
      rw [← hX3]
      by_cases e : inR (σ.1 17 k) rc
      · rw [if_pos e]; rfl
      · rw [if_neg e]
    have hinR : ¬ σ.1 17 k = -1 → inR (σ.1 17 k) rc := fun e => by
      obtain ⟨r, a1, a2, _⟩ := (h.core.rec k hk64).resolve_left e
      rw [a2]; exact inR_n a1 (by omega)
    have r15a : ¬ σ.1 17 k = -1 → X3.1 15 (σ.1 17 k).toNatClampNeg = -1 := fun e => by
      rw [← hX3, if_pos (hinR e), s_eq]; exact upd_e
    have r15b : ∀ r, (¬ σ.1 17 k = -1 → ¬ (σ.1 17 k).toNatClampNeg = r) → X3.1 15 r = X2.1 15 r := fun r e => by
      rw [← hX3]
      by_cases z : inR (σ.1 17 k) rc
      · rw [if_pos z, s_eq]
        refine upd_n (fun z2 => e ?_ z2.symm)
        intro z3
        rw [z3] at z
        exact inR_m z
      · rw [if_neg z]
    refine ⟨am_set (am_set (am_set X3 17 (upd (X3.1 17) k (-1))) 18 (upd (X3.1 18) k (-1))) 19 (upd (X3.1 19) k (nI 0)), ?_, ?_⟩
    · have x2' : X2.1 2 2 = nI rc := by rw [o2 2 (by decide) (by decide)]; exact x2
      rw [e95, q95_0, x162, nI_r, bz_t (inR_n hp (by omega)), if_neg n10, if_pos (am_k hp (by omega)), i_cl (by omega), hrun1, bV_r, if_pos (am_k hp (by omega)), am_wI_s, hX2, nI_s21 (by omega) (by omega), hk, x163, nI_r, bz_t (inR_n hk64 (by omega)), if_neg n10, if_pos (am_k hk64 (by omega)), i_cl (by omega), x17, x63 _ _ x2' hrb, bV_r, hX3, if_pos (am_k hk64 (by omega)), if_pos (am_k hk64 (by omega)), if_pos (am_k hk64 (by omega)), nb_0, am_wI_s, am_wI_s, am_wI_s, s_ne _ _ (show (18 : Nat) ≠ 17 by decide), s_ne _ _ (show (19 : Nat) ≠ 18 by decide), s_ne _ _ (show (19 : Nat) ≠ 17 by decide)]
    · generalize hX4 : am_set (am_set (am_set X3 17 (upd (X3.1 17) k (-1))) 18 (upd (X3.1 18) k (-1))) 19 (upd (X3.1 19) k (nI 0)) = X4
      have o4 : ∀ a, a ≠ 17 → a ≠ 18 → a ≠ 19 → X4.1 a = X3.1 a := fun a a1 a2 a3 => by rw [← hX4, s_ne _ _ a3, s_ne _ _ a2, s_ne _ _ a1]
      have f17 : X4.1 17 = upd (X.1 17) k (-1) := by rw [← hX4, s_ne _ _ (by decide), s_ne _ _ (by decide), s_eq, o3 17 (by decide), o2 17 (by decide) (by decide)]
      have f18 : X4.1 18 = upd (X.1 18) k (-1) := by rw [← hX4, s_ne _ _ (by decide), s_eq, o3 18 (by decide), o2 18 (by decide) (by decide)]
      have f19 : X4.1 19 = upd (X.1 19) k (nI 0) := by rw [← hX4, s_eq, o3 19 (by decide), o2 19 (by decide) (by decide)]
      have f16 : X4.1 16 = upd (X.1 16) p (nI 0) := by rw [o4 16 (by decide) (by decide) (by decide), o3 16 (by decide), e16]
      have f13 : X4.1 13 = X1.1 13 := by rw [o4 13 (by decide) (by decide) (by decide), o3 13 (by decide), e13]
      have f15 : X4.1 15 = X3.1 15 := o4 15 (by decide) (by decide) (by decide)
      have g15 : X2.1 15 = X.1 15 := o2 15 (by decide) (by decide)
      apply Gn.mk
      case o => exact fun a a1 a2 a3 a4 a5 a6 => by rw [o4 a a4 a5 a6, o3 a a2, o2 a a1 a3]; exact hG.o a a1 a2 a3 a4 a5 a6
      case j =>
        have : X4.2 = X3.2 := by rw [← hX4]; rfl
        rw [this, j3, j2]; exact hG.j
      case n1 =>
        intro q q1 q2 q3
        rw [f16]
        by_cases e : q = p
        · rw [e]; exact upd_e
        · rw [upd_n e]; exact hG.n1 q q1 (by omega) q3
      case n2 =>
        intro q q1
        have e : q ≠ p := fun z => q1 (by rw [z]; exact ⟨h1, by omega, hn⟩)
        rw [f16, upd_n e]; exact hG.n2 q (fun z => q1 ⟨z.1, by omega, z.2.2⟩)
      case k1 =>
        intro q k q1 q2 q3 k1 k2 e
        rw [f13]
        by_cases ep : σ.1 16 p = nI k
        · exact k13a k k1 k2 ep
        · rw [k13b k k1 k2 ep]
          exact hG.k1 q k q1 (by
            by_cases z : q = p
            · subst z; exact absurd e ep
            · omega) q3 k1 k2 e
      case k2 =>
        intro k k1 k2 hall
        rw [f13, k13b k k1 k2 (hall p h1 (by omega) hn)]
        exact hG.k2 k k1 k2 (fun q a b e => hall q a (by omega) e)
      case l1 =>
        intro k' a b e
        rw [f17, f18, f19]
        by_cases ek : k' = k
        · rw [ek]; exact ⟨upd_e, upd_e, upd_e⟩
        · rw [upd_n ek, upd_n ek, upd_n ek]; exact hG.l1 k' a (by omega) e
      case l2 =>
        intro k' a
        have ek : k' ≠ k := fun z => a (by rw [z, hpk]; exact ⟨hk64, by omega, hn⟩)
        rw [f17, f18, f19, upd_n ek, upd_n ek, upd_n ek]
        exact hG.l2 k' (fun z => a ⟨z.1, by omega, z.2.2⟩)
      case r1 =>
        intro k' a b e e2
        rw [f15]
        by_cases ek : k' = k
        · rw [ek]; exact r15a (by rw [← ek]; exact e2)
        · have h0 := hG.r1 k' a (by omega) e e2
          by_cases z : ¬ σ.1 17 k = -1 ∧ (σ.1 17 k).toNatClampNeg = (σ.1 17 k').toNatClampNeg
          · rw [← z.2]; exact r15a z.1
          · rw [r15b _ (fun z1 z2 => z ⟨z1, z2⟩), g15]; exact h0
      case r2 =>
        intro r hall
        rw [f15, r15b r (fun z => hall k hk64 (by omega) (by rw [hpk]; exact hn) z), g15]
        exact hG.r2 r (fun k' a b e e2 => hall k' a (by omega) e e2)
/-- all that goes is gone -/
theorem x94 (h : Inv c kc md rc td lev rk σ) {X0 : am_M} (hP : Pl kc rc md lev σ u X0) : ∃ X, am_ex (d + 4) 94 [.ref 3, .ref 7] X0 = rV X ∧ Gn kc σ u X0 85 X := by
  obtain ⟨X, e1, hG⟩ := lp_inv (fun p (X : am_M) => Gn kc σ u X0 p X) 1 85 (by omega) (fun p X => am_go am_X0 (am_ex (d + 3)) M94 2 [.ref 3, .ref 7, .int (nI p)] [] X) (by
    intro p X h1 hp hG
    have x29 : X.1 29 = X0.1 29 := hG.o 29 (by decide) (by decide) (by decide) (by decide) (by decide) (by decide)
    have hst := (hP.st p hp).ne
    by_cases e : sty (σ.1 17) u p
    · refine ⟨X, ?_, hG.next e⟩
      show am_go am_X0 (am_ex (d + 3)) M94 2 [.ref 3, .ref 7, .int (nI p)] [] X = am_go am_X0 (am_ex (d + 3)) M94 2 [.ref 3, .ref 7, .int (nI (p + 1))] [] X
      rw [q94_2, if_neg (by rw [i_le, i_n (by omega), i_n (by omega)]; omega), x15 (d + 1) X hp, bI_r, x29, bz_t (hst.mpr e), if_neg n10, show nI p + nI 1 = nI (p + 1) from nI_1 _]
    · obtain ⟨X', e2, hG'⟩ := x95 d h hP.sm hG h1 hp e
      refine ⟨X', ?_, hG'⟩
      show am_go am_X0 (am_ex (d + 3)) M94 2 [.ref 3, .ref 7, .int (nI p)] [] X = am_go am_X0 (am_ex (d + 3)) M94 2 [.ref 3, .ref 7, .int (nI (p + 1))] [] X'
      rw [q94_2, if_neg (by rw [i_le, i_n (by omega), i_n (by omega)]; omega), x15 (d + 1) X hp, bI_r, x29, bz_f (fun z => e (hst.mp z)), if_pos rfl, e2, bV_r, show nI p + nI 1 = nI (p + 1) from nI_1 _]) X0 (by
    have g := fun a h1 h2 => hP.sm.i a h1 h2
    apply Gn.mk
    case o => exact fun _ _ _ _ _ _ _ => rfl
    case j => rfl
    case n1 => exact fun q a b => by omega
    case n2 => exact fun q _ => by rw [g 16 (by decide) (by decide)]
    case k1 => exact fun q k a b => by omega
    case k2 => exact fun k _ _ _ => by rw [g 13 (by decide) (by decide)]
    case l1 => exact fun k a b => by omega
    case l2 => exact fun k _ => by rw [g 17 (by decide) (by decide), g 18 (by decide) (by decide), g 19 (by decide) (by decide)]; exact ⟨rfl, rfl, rfl⟩
    case r1 => exact fun k a b => by omega
    case r2 => exact fun r _ => by rw [g 15 (by decide) (by decide)])
  have e1 : am_go am_X0 (am_ex (d + 3)) M94 2 [.ref 3, .ref 7, .int (nI 1)] [] X0 = am_go am_X0 (am_ex (d + 3)) M94 2 [.ref 3, .ref 7, .int (nI 85)] [] X := e1
  refine ⟨X, ?_, hG⟩
  have e94' : am_ex (d + 4) 94 [.ref 3, .ref 7] X0 = am_go am_X0 (am_ex (d + 3)) M94 0 [.ref 3, .ref 7, .null] [] X0 := e94 (d + 3) X0
  rw [e94', q94_0, e1, q94_2, if_pos (by decide)]
/-- the reference, likewise: its cells -/
abbrev GnM (σ : am_M) (u : Nat → Int32) (Y0 Y : am_M) : Prop := (∀ a, a ≠ 35 → a ≠ 37 → a ≠ 41 → a ≠ 51 → Y.1 a = Y0.1 a) ∧ (Y.2 = Y0.2) ∧ (∀ q, q < 85 → Thn σ u q (Y.1 35 q)) ∧ (∀ q, 85 ≤ q → Y.1 35 q = σ.1 35 q) ∧ (∀ k, k < 64 → ¬ u k = nI 0 → Y.1 37 k = -1 ∧ Y.1 41 k = nI 0) ∧ (∀ k, ¬ (k < 64 ∧ ¬ u k = nI 0) → Y.1 37 k = σ.1 37 k ∧ Y.1 41 k = σ.1 41 k) ∧ (∀ k, k < 64 → ¬ u k = nI 0 → Y.1 51 (σ.1 17 k).toNatClampNeg = -1) ∧ (∀ r, (∀ k, k < 64 → ¬ u k = nI 0 → ¬ (σ.1 17 k).toNatClampNeg = r) → Y.1 51 r = σ.1 51 r)
theorem GnM.o {σ : am_M} {u : Nat → Int32} {Y0 Y : am_M} (h : GnM σ u Y0 Y) : ∀ a, a ≠ 35 → a ≠ 37 → a ≠ 41 → a ≠ 51 → Y.1 a = Y0.1 a := h.1
theorem GnM.j {σ : am_M} {u : Nat → Int32} {Y0 Y : am_M} (h : GnM σ u Y0 Y) : Y.2 = Y0.2 := h.2.1
theorem GnM.n1 {σ : am_M} {u : Nat → Int32} {Y0 Y : am_M} (h : GnM σ u Y0 Y) : ∀ q, q < 85 → Thn σ u q (Y.1 35 q) := h.2.2.1
theorem GnM.n2 {σ : am_M} {u : Nat → Int32} {Y0 Y : am_M} (h : GnM σ u Y0 Y) : ∀ q, 85 ≤ q → Y.1 35 q = σ.1 35 q := h.2.2.2.1
theorem GnM.l1 {σ : am_M} {u : Nat → Int32} {Y0 Y : am_M} (h : GnM σ u Y0 Y) : ∀ k, k < 64 → ¬ u k = nI 0 → Y.1 37 k = -1 ∧ Y.1 41 k = nI 0 := h.2.2.2.2.1
theorem GnM.l2 {σ : am_M} {u : Nat → Int32} {Y0 Y : am_M} (h : GnM σ u Y0 Y) : ∀ k, ¬ (k < 64 ∧ ¬ u k = nI 0) → Y.1 37 k = σ.1 37 k ∧ Y.1 41 k = σ.1 41 k := h.2.2.2.2.2.1
theorem GnM.r1 {σ : am_M} {u : Nat → Int32} {Y0 Y : am_M} (h : GnM σ u Y0 Y) : ∀ k, k < 64 → ¬ u k = nI 0 → Y.1 51 (σ.1 17 k).toNatClampNeg = -1 := h.2.2.2.2.2.2.1
theorem GnM.r2 {σ : am_M} {u : Nat → Int32} {Y0 Y : am_M} (h : GnM σ u Y0 Y) : ∀ r, (∀ k, k < 64 → ¬ u k = nI 0 → ¬ (σ.1 17 k).toNatClampNeg = r) → Y.1 51 r = σ.1 51 r := h.2.2.2.2.2.2.2
theorem GnM.mk {σ : am_M} {u : Nat → Int32} {Y0 Y : am_M} (o : ∀ a, a ≠ 35 → a ≠ 37 → a ≠ 41 → a ≠ 51 → Y.1 a = Y0.1 a) (j : Y.2 = Y0.2) (n1 : ∀ q, q < 85 → Thn σ u q (Y.1 35 q)) (n2 : ∀ q, 85 ≤ q → Y.1 35 q = σ.1 35 q) (l1 : ∀ k, k < 64 → ¬ u k = nI 0 → Y.1 37 k = -1 ∧ Y.1 41 k = nI 0) (l2 : ∀ k, ¬ (k < 64 ∧ ¬ u k = nI 0) → Y.1 37 k = σ.1 37 k ∧ Y.1 41 k = σ.1 41 k) (r1 : ∀ k, k < 64 → ¬ u k = nI 0 → Y.1 51 (σ.1 17 k).toNatClampNeg = -1) (r2 : ∀ r, (∀ k, k < 64 → ¬ u k = nI 0 → ¬ (σ.1 17 k).toNatClampNeg = r) → Y.1 51 r = σ.1 51 r) : GnM σ u Y0 Y := ⟨o, j, n1, n2, l1, l2, r1, r2⟩
theorem y230c (h : Inv c kc md rc td lev rk σ) {Y0 : am_M} (hP : PlM kc rc md σ (σ.1 19) Y0) (v1 v2 v3 : Int32) : ∃ Y, am_go am_X0 (am_ex d) M230 99 [.ref 34, .int v1, .int v2, .int v3, .int (nI 0), .null] [] Y0 = am_go am_X0 (am_ex d) M230 187 [.ref 34, .int v1, .int v2, .int v3, .int (nI 0), .null] [] Y ∧ GnM σ (σ.1 19) Y0 Y := by
  have hrb := h.core.rcb
  have g0 := hP.sm.i
  obtain ⟨Y1, e1, a1, a2, a3, a4, a5, a6⟩ := lp_inv (fun k (Y : am_M) => (∀ a, a ≠ 37 → a ≠ 41 → a ≠ 51 → Y.1 a = Y0.1 a) ∧ Y.2 = Y0.2 ∧ (∀ k', k' < k → ¬ σ.1 19 k' = nI 0 → Y.1 37 k' = -1 ∧ Y.1 41 k' = nI 0) ∧ (∀ k', ¬ (k' < k ∧ ¬ σ.1 19 k' = nI 0) → Y.1 37 k' = σ.1 37 k' ∧ Y.1 41 k' = σ.1 41 k') ∧ (∀ k', k' < k → ¬ σ.1 19 k' = nI 0 → Y.1 51 (σ.1 17 k').toNatClampNeg = -1) ∧ (∀ r, (∀ k', k' < k → ¬ σ.1 19 k' = nI 0 → ¬ (σ.1 17 k').toNatClampNeg = r) → Y.1 51 r = σ.1 51 r)) 0 64 (by omega) (fun k Y => am_go am_X0 (am_ex d) M230 99 [.ref 34, .int v1, .int v2, .int v3, .int (nI k), .null] [] Y) (by
    rintro k Y _ hk ⟨a1, a2, a3, a4, a5, a6⟩
    have y41 : Y.1 41 k = σ.1 19 k := by rw [(a4 k (fun z => by omega)).2, h.e41]
    have y37 : Y.1 37 k = σ.1 17 k := by rw [(a4 k (fun z => by omega)).1, h.e37]
    by_cases hm : σ.1 19 k = nI 0
    · refine ⟨Y, ?_, a1, a2, fun k' b e => a3 k' ?_ e, fun k' b => a4 k' (fun z => b ⟨by omega, z.2⟩), fun k' b e => a5 k' ?_ e, fun r b => a6 r (fun k' z => b k' (by omega))⟩
      · show am_go am_X0 (am_ex d) M230 99 [.ref 34, .int v1, .int v2, .int v3, .int (nI k), .null] [] Y = am_go am_X0 (am_ex d) M230 99 [.ref 34, .int v1, .int v2, .int v3, .int (nI (k + 1)), .null] [] Y
        rw [q230_99, if_neg (by rw [i_le, i_n (by omega), i_n (by omega)]; omega), if_pos (am_k hk (by omega)), i_cl (by omega), y41, if_pos hm, show nI k + nI 1 = nI (k + 1) from nI_1 _]
      · by_cases z : k' = k
        · subst z; exact absurd hm e
        · omega
      · by_cases z : k' = k
        · subst z; exact absurd hm e
        · omega
    · have hR := h.okU k hk hm
      obtain ⟨r, b1, b2, b3⟩ := (h.core.rec k hk).resolve_left hR
      generalize hY2 : am_wI (am_wI (am_wI Y 41 k (nI 0)) 51 r (-1)) 37 k (-1) = Y2
      have o2 : ∀ a, a ≠ 37 → a ≠ 41 → a ≠ 51 → Y2.1 a = Y.1 a := fun a c1 c2 c3 => by rw [← hY2, w_o _ _ _ c1, w_o _ _ _ c3, w_o _ _ _ c2]
      have f37 : Y2.1 37 = upd (Y.1 37) k (-1) := by rw [← hY2, am_wI_s, s_eq, w_o _ _ _ (by decide), w_o _ _ _ (by decide)]
      have f41 : Y2.1 41 = upd (Y.1 41) k (nI 0) := by rw [← hY2, w_o _ _ _ (by decide), w_o _ _ _ (by decide), am_wI_s, s_eq]
      have f51 : Y2.1 51 = upd (Y.1 51) r (-1) := by rw [← hY2, w_o _ _ _ (by decide), am_wI_s, s_eq, w_o _ _ _ (by decide)]
      refine ⟨Y2, ?_, fun a c1 c2 c3 => (o2 a c1 c2 c3).trans (a1 a c1 c2 c3), by rw [← hY2]; exact a2, fun k' b e => ?_, fun k' b => ?_, fun k' b e => ?_, fun r' b => ?_⟩
      · show am_go am_X0 (am_ex d) M230 99 [.ref 34, .int v1, .int v2, .int v3, .int (nI k), .null] [] Y = am_go am_X0 (am_ex d) M230 99 [.ref 34, .int v1, .int v2, .int v3, .int (nI (k + 1)), .null] [] Y2
        rw [q230_99, if_neg (by rw [i_le, i_n (by omega), i_n (by omega)]; omega), if_pos (am_k hk (by omega)), i_cl (by omega), y41, if_neg hm, if_pos (am_k hk (by omega)), if_pos (am_k hk (by omega)), w_o _ _ _ (show (37 : Nat) ≠ 41 by decide), y37, b2, if_pos (am_k (by omega) (by omega)), if_pos (am_k hk (by omega)), i_cl (by omega), nb_0, hY2, show nI k + nI 1 = nI (k + 1) from nI_1 _]
      · rw [f37, f41]
        by_cases z : k' = k
        · rw [z]; exact ⟨upd_e, upd_e⟩
        · rw [upd_n z, upd_n z]; exact a3 k' (by omega) e
      · have z : k' ≠ k := fun z => b (by rw [z]; exact ⟨by omega, hm⟩)
        rw [f37, f41, upd_n z, upd_n z]
        exact a4 k' (fun z => b ⟨by omega, z.2⟩)
      · rw [f51]
        by_cases z : k' = k
        · rw [z, b2, i_cl (by omega)]; exact upd_e
        · by_cases z2 : (σ.1 17 k').toNatClampNeg = r
          · rw [z2]; exact upd_e
          · rw [upd_n z2]; exact a5 k' (by omega) e
      · have z : r' ≠ r := fun z => b k (by omega) hm (by rw [b2, i_cl (by omega), z])
        rw [f51, upd_n z]
        exact a6 r' (fun k' q => b k' (by omega))) Y0 ⟨fun _ _ _ _ => rfl, rfl, fun k' b => by omega, fun k' _ => by rw [g0 37 (by decide) (by decide), g0 41 (by decide) (by decide)]; exact ⟨rfl, rfl⟩, fun k' b => by omega, fun r _ => by rw [g0 51 (by decide) (by decide)]⟩
  have e1 : am_go am_X0 (am_ex d) M230 99 [.ref 34, .int v1, .int v2, .int v3, .int (nI 0), .null] [] Y0 = am_go am_X0 (am_ex d) M230 99 [.ref 34, .int v1, .int v2, .int v3, .int (nI 64), .null] [] Y1 := e1
  obtain ⟨Y2, e2, b1, b2, b3, b4⟩ := lp_inv (fun p (Y : am_M) => (∀ a, a ≠ 35 → Y.1 a = Y1.1 a) ∧ Y.2 = Y1.2 ∧ (∀ q, q < p → Y.1 35 q = Y0.1 36 q) ∧ (∀ q, p ≤ q → Y.1 35 q = Y1.1 35 q)) 0 85 (by omega) (fun p Y => am_go am_X0 (am_ex d) M230 157 [.ref 34, .int v1, .int v2, .int v3, .int (nI p), .null] [] Y) (by
    rintro p Y _ hp ⟨b1, b2, b3, b4⟩
    have y36 : Y.1 36 = Y0.1 36 := by rw [b1 36 (by decide), a1 36 (by decide) (by decide) (by decide)]
    refine ⟨am_set Y 35 (upd (Y.1 35) p (Y0.1 36 p)), ?_, fun a ha => by rw [s_ne _ _ ha]; exact b1 a ha, b2, fun q hq => ?_, fun q hq => ?_⟩
    · show am_go am_X0 (am_ex d) M230 157 [.ref 34, .int v1, .int v2, .int v3, .int (nI p), .null] [] Y = am_go am_X0 (am_ex d) M230 157 [.ref 34, .int v1, .int v2, .int v3, .int (nI (p + 1)), .null] [] _
      rw [q230_157, if_neg (by rw [i_le, i_n (by omega), i_n (by omega)]; omega), if_pos (am_k hp (by omega)), if_pos (am_k hp (by omega)), i_cl (by omega), y36, am_wI_s, show nI p + nI 1 = nI (p + 1) from nI_1 _]
    · rw [s_eq]
      by_cases e : q = p
      · rw [e]; exact upd_e
      · rw [upd_n e]; exact b3 q (by omega)
    · rw [s_eq, upd_n (by omega)]; exact b4 q (by omega)) Y1 ⟨fun _ _ => rfl, rfl, fun q hq => by omega, fun _ _ => rfl⟩
  have e2 : am_go am_X0 (am_ex d) M230 157 [.ref 34, .int v1, .int v2, .int v3, .int (nI 0), .null] [] Y1 = am_go am_X0 (am_ex d) M230 157 [.ref 34, .int v1, .int v2, .int v3, .int (nI 85), .null] [] Y2 := e2
  refine ⟨Y2, by rw [e1, q230_99, if_pos (by decide), e2, q230_157, if_pos (by decide)], ?_⟩
  apply GnM.mk
  case o => exact fun a c1 c2 c3 c4 => (b1 a c1).trans (a1 a c2 c3 c4)
  case j => exact b2.trans a2
  case n1 => exact fun q hq => by rw [b3 q hq]; exact hP.th q hq
  case n2 => exact fun q hq => by rw [b4 q hq, a1 35 (by decide) (by decide) (by decide), g0 35 (by decide) (by decide)]
  case l1 => exact fun k c1 c2 => by rw [b1 37 (by decide), b1 41 (by decide)]; exact a3 k c1 c2
  case l2 => exact fun k c1 => by rw [b1 37 (by decide), b1 41 (by decide)]; exact a4 k c1
  case r1 => exact fun k c1 c2 => by rw [b1 51 (by decide)]; exact a5 k c1 c2
  case r2 => exact fun r c1 => by rw [b1 51 (by decide)]; exact a6 r c1
end CLR
