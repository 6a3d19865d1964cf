/-! moving: the reference -/
section MVM
abbrev MvM (rc : Nat) (σ : am_M) (D : Nat → Nat → Prop) (Y : am_M) : Prop := (∀ a, a ≠ 35 → a ≠ 37 → a ≠ 51 → Y.1 a = σ.1 a) ∧ (Y.2 = σ.2) ∧ (∀ x y, D x y → Y.1 35 y = σ.1 35 x ∧ Y.1 35 x = nI 0) ∧ (∀ q, (∀ y, ¬ D q y) → (∀ x, ¬ D x q) → Y.1 35 q = σ.1 35 q) ∧ (∀ p q, D (21 + p) (21 + q) → Y.1 37 q = σ.1 37 p ∧ Y.1 37 p = -1) ∧ (∀ p, (∀ y, ¬ D (21 + p) y) → (∀ x, ¬ D x (21 + p)) → Y.1 37 p = σ.1 37 p) ∧ (∀ p q r, D (21 + p) (21 + q) → r < rc → σ.1 37 p = nI r → Y.1 51 r = nI q) ∧ (∀ r, (∀ p q, D (21 + p) (21 + q) → r < rc → ¬ σ.1 37 p = nI r) → Y.1 51 r = σ.1 51 r)
theorem MvM.o {rc : Nat} {σ : am_M} {D : Nat → Nat → Prop} {Y : am_M} (h : MvM rc σ D Y) : ∀ a, a ≠ 35 → a ≠ 37 → a ≠ 51 → Y.1 a = σ.1 a := h.1
theorem MvM.j {rc : Nat} {σ : am_M} {D : Nat → Nat → Prop} {Y : am_M} (h : MvM rc σ D Y) : Y.2 = σ.2 := h.2.1
theorem MvM.n1 {rc : Nat} {σ : am_M} {D : Nat → Nat → Prop} {Y : am_M} (h : MvM rc σ D Y) : ∀ x y, D x y → Y.1 35 y = σ.1 35 x ∧ Y.1 35 x = nI 0 := h.2.2.1
theorem MvM.n2 {rc : Nat} {σ : am_M} {D : Nat → Nat → Prop} {Y : am_M} (h : MvM rc σ D Y) : ∀ q, (∀ y, ¬ D q y) → (∀ x, ¬ D x q) → Y.1 35 q = σ.1 35 q := h.2.2.2.1
theorem MvM.l1 {rc : Nat} {σ : am_M} {D : Nat → Nat → Prop} {Y : am_M} (h : MvM rc σ D Y) : ∀ p q, D (21 + p) (21 + q) → Y.1 37 q = σ.1 37 p ∧ Y.1 37 p = -1 := h.2.2.2.2.1
theorem MvM.l2 {rc : Nat} {σ : am_M} {D : Nat → Nat → Prop} {Y : am_M} (h : MvM rc σ D Y) : ∀ p, (∀ y, ¬ D (21 + p) y) → (∀ x, ¬ D x (21 + p)) → Y.1 37 p = σ.1 37 p := h.2.2.2.2.2.1
theorem MvM.r1 {rc : Nat} {σ : am_M} {D : Nat → Nat → Prop} {Y : am_M} (h : MvM rc σ D Y) : ∀ p q r, D (21 + p) (21 + q) → r < rc → σ.1 37 p = nI r → Y.1 51 r = nI q := h.2.2.2.2.2.2.1
theorem MvM.r2 {rc : Nat} {σ : am_M} {D : Nat → Nat → Prop} {Y : am_M} (h : MvM rc σ D Y) : ∀ r, (∀ p q, D (21 + p) (21 + q) → r < rc → ¬ σ.1 37 p = nI r) → Y.1 51 r = σ.1 51 r := h.2.2.2.2.2.2.2
theorem MvM.mk {rc : Nat} {σ : am_M} {D : Nat → Nat → Prop} {Y : am_M} (o : ∀ a, a ≠ 35 → a ≠ 37 → a ≠ 51 → Y.1 a = σ.1 a) (j : Y.2 = σ.2) (n1 : ∀ x y, D x y → Y.1 35 y = σ.1 35 x ∧ Y.1 35 x = nI 0) (n2 : ∀ q, (∀ y, ¬ D q y) → (∀ x, ¬ D x q) → Y.1 35 q = σ.1 35 q) (l1 : ∀ p q, D (21 + p) (21 + q) → Y.1 37 q = σ.1 37 p ∧ Y.1 37 p = -1) (l2 : ∀ p, (∀ y, ¬ D (21 + p) y) → (∀ x, ¬ D x (21 + p)) → Y.1 37 p = σ.1 37 p) (r1 : ∀ p q r, D (21 + p) (21 + q) → r < rc → σ.1 37 p = nI r → Y.1 51 r = nI q) (r2 : ∀ r, (∀ p q, D (21 + p) (21 + q) → r < rc → ¬ σ.1 37 p = nI r) → Y.1 51 r = σ.1 51 r) : MvM rc σ D Y := ⟨o, j, n1, n2, l1, l2, r1, r2⟩
variable (d : Nat) {c kc md rc td : Nat} {lev rk : Nat → Nat} {σ J : am_M} {a b : Nat} {D : Nat → Nat → Prop}
theorem MvM.refl (X : am_M) (D : Nat → Nat → Prop) (hD : ∀ x y, ¬ D x y) : MvM rc X D X := by
  apply MvM.mk
  case o => exact fun _ _ _ _ => rfl
  case j => rfl
  case n1 => exact fun x y h => absurd h (hD x y)
  case n2 => exact fun _ _ _ => rfl
  case l1 => exact fun x y h => absurd h (hD _ _)
  case l2 => exact fun _ _ _ => rfl
  case r1 => exact fun _ _ _ h => absurd h (hD _ _)
  case r2 => exact fun _ _ => rfl
theorem MvM.cg {D' : Nat → Nat → Prop} {X : am_M} (h : MvM rc σ D X) (e : ∀ x y, D x y ↔ D' x y) : MvM rc σ D' X := by
  have : D = D' := funext fun x => funext fun y => propext (e x y)
  rw [← this]; exact h
theorem cnt_ap (P : Nat → Prop) [DecidablePred P] : ∀ n m i, cnt P i (m + n) = cnt P i m + cnt P (i + m) n := by
  intro n
  induction n with
  | zero => intro m i; rfl
  | succ n ih =>
    intro m i
    rw [← Nat.add_assoc, cnt_s, ih, cnt_s, Nat.add_assoc, Nat.add_assoc]
/-- a node's pair, on the reference's side; its leaf, if it is one -/
theorem y245n (h : Inv0 c kc md rc td lev rk J) (hE : EqM J σ) (hs : sLv a b) (hD : ∀ x y, D x y → Pr a b x y) {Y : am_M} (hM : MvM rc σ D Y) {x y : Nat} (hP : Pr a b x y) (hx : ∀ v, ¬ D x v) : (x < 21 → am_ex (d + 1) 245 [.ref 34, .int (nI x), .int (nI y)] Y = am_go am_X0 (am_ex d) M245 91 [.ref 34, .int (nI x), .int (nI y), .int (nI 0), .int (nI 1)] [] (am_wI (am_wI Y 35 y (Y.1 35 x)) 35 x (nI 0)) ∧ MvM rc σ (plus D x y) (am_wI (am_wI Y 35 y (Y.1 35 x)) 35 x (nI 0))) ∧ (21 ≤ x → ∃ Y', am_ex (d + 1) 245 [.ref 34, .int (nI x), .int (nI y)] Y = rI (nI (cnt (fun k => ¬ σ.1 37 k = -1) (x - 21) 1)) Y' ∧ MvM rc σ (plus D x y) Y') := by
  have hrb := h.core.rcb
  obtain ⟨b1, b2, b3, b4, b5, _⟩ := Pr_b hs hP
  have s37 : σ.1 37 = J.1 17 := by rw [hE.i 37 (by decide) (by decide) (by decide), h.e37]
  have hyD : ∀ u, ¬ D u y := fun u z => hx y (by have := (Pr_i hs hP (hD u y z)).1.mpr rfl; rw [this]; exact z)
  have xr : ∀ u, ¬ D u x := fun u z => (Pr_i hs hP (hD u x z)).2 rfl
  have yd : ∀ v, ¬ D y v := fun v z => (Pr_i hs (hD y v z) hP).2 rfl
  have uq : ∀ u v, D u v → u ≠ x ∧ u ≠ y ∧ v ≠ x ∧ v ≠ y := fun u v z => ⟨fun e => hx v (by rw [← e]; exact z), fun e => yd v (by rw [← e]; exact z), fun e => xr u (by rw [← e]; exact z), fun e => hyD u (by rw [← e]; exact z)⟩
  have hxy : x ≠ y := (Pr_i hs hP hP).2
  have x35 : Y.1 35 x = σ.1 35 x := hM.n2 x hx xr
  generalize hY2 : am_wI (am_wI Y 35 y (Y.1 35 x)) 35 x (nI 0) = Y2
  have o2 : ∀ a, a ≠ 35 → Y2.1 a = Y.1 a := fun a a2 => by rw [← hY2, w_o _ _ _ a2, w_o _ _ _ a2]
  have e35 : ∀ q, Y2.1 35 q = if q = x then nI 0 else if q = y then σ.1 35 x else Y.1 35 q := fun q => by
    rw [← hY2, am_wI_s, s_eq, am_wI_s, s_eq, x35]
    by_cases z : q = x
    · rw [if_pos z, z]; exact upd_e
    · rw [if_neg z, upd_n z]
      by_cases z2 : q = y
      · rw [if_pos z2, z2]; exact upd_e
      · rw [if_neg z2, upd_n z2]
  have j2 : Y2.2 = Y.2 := by rw [← hY2]; rfl
  have n1' : ∀ X' : am_M, X'.1 35 = Y2.1 35 → ∀ u v, plus D x y u v → X'.1 35 v = σ.1 35 u ∧ X'.1 35 u = nI 0 := by
    intro X' hX' u v z
    rw [hX', e35, e35]
    rcases z with z | ⟨rfl, rfl⟩
    · obtain ⟨q1, q2, q3, q4⟩ := uq u v z
      rw [if_neg q3, if_neg q4, if_neg q1, if_neg q2]; exact hM.n1 u v z
    · rw [if_neg (fun z => hxy z.symm), if_pos rfl, if_pos rfl]; exact ⟨rfl, rfl⟩
  have n2' : ∀ X' : am_M, X'.1 35 = Y2.1 35 → ∀ q, (∀ v, ¬ plus D x y q v) → (∀ u, ¬ plus D x y u q) → X'.1 35 q = σ.1 35 q := by
    intro X' hX' q z1 z2
    rw [hX', e35, if_neg (fun z => z1 y (Or.inr ⟨z, rfl⟩)), if_neg (fun z => z2 x (Or.inr ⟨rfl, z⟩))]
    exact hM.n2 q (fun v z => z1 v (Or.inl z)) (fun u z => z2 u (Or.inl z))
  constructor
  · intro hp21
    have nD : ∀ p q, ¬ (21 + p = x ∧ 21 + q = y) := fun p q z => by omega
    refine ⟨?_, ?_⟩
    · rw [e245, q245_0, if_pos (am_k b2 (by omega)), if_pos (am_k b4 (by omega)), if_pos (am_k b2 (by omega)), if_pos (show nI x < nI 21 by rw [i_lt, i_n (by omega), i_n (by omega)]; omega), i_cl (show x < 2 ^ 31 by omega), i_cl (show y < 2 ^ 31 by omega), hY2]
    · apply MvM.mk
      case o => exact fun a a1 a2 a3 => (o2 a a1).trans (hM.o a a1 a2 a3)
      case j => rw [j2]; exact hM.j
      case n1 => exact n1' Y2 rfl
      case n2 => exact n2' Y2 rfl
      case l1 =>
        intro p q z
        rw [o2 37 (by decide)]
        exact hM.l1 p q (z.resolve_right (nD p q))
      case l2 =>
        intro p z1 z2
        rw [o2 37 (by decide)]
        exact hM.l2 p (fun v z => z1 v (Or.inl z)) (fun u z => z2 u (Or.inl z))
      case r1 =>
        intro p q r z
        rw [o2 51 (by decide)]
        exact hM.r1 p q r (z.resolve_right (nD p q))
      case r2 =>
        intro r z
        rw [o2 51 (by decide)]
        exact hM.r2 r (fun p q w => z p q (Or.inl w))
  · intro hp21
    have hy21 : 21 ≤ y := by omega
    generalize hk : x - 21 = k
    generalize hl : y - 21 = l
    have hk64 : k < 64 := by omega
    have hl64 : l < 64 := by omega
    have hxk : x = 21 + k := by omega
    have hyl : y = 21 + l := by omega
    have hkl' : k ≠ l := by omega
    have lk := hM.l2 k (by rw [← hxk]; exact hx) (by rw [← hxk]; exact xr)
    have x37 : Y2.1 37 k = σ.1 37 k := by rw [o2 37 (by decide)]; exact lk
    have ruq : ∀ p r, p < 64 → r < rc → σ.1 37 p = nI r → σ.1 37 k = nI r → p = k := by
      intro p r hp hr e1 e2
      rw [s37] at e1 e2
      rcases h.core.rec p hp with z | ⟨r', z1, z2, z3⟩
      · rw [z] at e1; exact absurd e1.symm (nI_nm (by omega))
      · rcases h.core.rec k hk64 with w | ⟨r'', w1, w2, w3⟩
        · rw [w] at e2; exact absurd e2.symm (nI_nm (by omega))
        · rw [z2] at e1; rw [w2] at e2
          rw [nI_inj (by omega) (by omega) e1] at z3
          rw [nI_inj (by omega) (by omega) e2, z3] at w3
          exact nI_inj (by omega) (by omega) w3
    generalize hY3 : am_wI (am_wI Y2 37 l (Y2.1 37 k)) 37 k (-1) = Y3
    have o3 : ∀ a, a ≠ 37 → Y3.1 a = Y2.1 a := fun a ha => by rw [← hY3, w_o _ _ _ ha, w_o _ _ _ ha]
    have f37 : ∀ p, Y3.1 37 p = if p = k then -1 else if p = l then σ.1 37 k else Y.1 37 p := fun p => by
      rw [← hY3, am_wI_s, s_eq, am_wI_s, s_eq, x37, o2 37 (by decide)]
      by_cases z : p = k
      · rw [if_pos z, z]; exact upd_e
      · rw [if_neg z, upd_n z]
        by_cases z2 : p = l
        · rw [if_pos z2, z2]; exact upd_e
        · rw [if_neg z2, upd_n z2]
    have j3 : Y3.2 = Y.2 := by rw [← hY3]; exact j2
    have uq' : ∀ p q, D (21 + p) (21 + q) → p ≠ k ∧ p ≠ l ∧ q ≠ k ∧ q ≠ l := fun p q z => by
      have := uq _ _ z
      omega
    have head : am_ex (d + 1) 245 [.ref 34, .int (nI x), .int (nI y)] Y = (if σ.1 37 k = -1 then (am_go am_X0 (am_ex d) M245 76 [.ref 34, .int (nI x), .int (nI y), .int (nI 0), .int (σ.1 37 k)] [] Y3) else (if am_in (σ.1 37 k) 200 = true then (am_go am_X0 (am_ex d) M245 76 [.ref 34, .int (nI x), .int (nI y), .int (nI 0), .int (σ.1 37 k)] [] (am_wI Y3 51 (σ.1 37 k).toNatClampNeg (nI l))) else none)) := by
      rw [e245, q245_0, if_pos (am_k b2 (by omega)), if_pos (am_k b4 (by omega)), if_pos (am_k b2 (by omega)), if_neg (show ¬ nI x < nI 21 by rw [i_lt, i_n (by omega), i_n (by omega)]; omega), i_cl (show x < 2 ^ 31 by omega), i_cl (show y < 2 ^ 31 by omega), hY2, nI_s21 (show 21 ≤ x by omega) (by omega), nI_s21 (show 21 ≤ y by omega) (by omega), hk, hl, if_pos (am_k hk64 (by omega)), if_pos (am_k hl64 (by omega)), if_pos (am_k hk64 (by omega)), i_cl (show k < 2 ^ 31 by omega), i_cl (show l < 2 ^ 31 by omega), hY3, x37]
    -- whatever becomes of the record's leaf
    have fin : ∀ Y4 : am_M, (∀ a, a ≠ 51 → Y4.1 a = Y3.1 a) → Y4.2 = Y3.2 → (∀ r, r < rc → σ.1 37 k = nI r → Y4.1 51 r = nI l) → (∀ r, (r < rc → ¬ σ.1 37 k = nI r) → Y4.1 51 r = Y.1 51 r) → MvM rc σ (plus D x y) Y4 := by
      intro Y4 o4 j4 ra rb
      have h35 : Y4.1 35 = Y2.1 35 := by rw [o4 35 (by decide), o3 35 (by decide)]
      apply MvM.mk
      case o => exact fun a a1 a2 a3 => by rw [o4 a a3, o3 a a2, o2 a a1]; exact hM.o a a1 a2 a3
      case j => rw [j4, j3]; exact hM.j
      case n1 => exact n1' Y4 h35
      case n2 => exact n2' Y4 h35
      case l1 =>
        intro p q z
        rw [o4 37 (by decide), f37, f37]
        rcases z with z | ⟨z1, z2⟩
        · obtain ⟨q1, q2, q3, q4⟩ := uq' p q z
          rw [if_neg q3, if_neg q4, if_neg q1, if_neg q2]; exact hM.l1 p q z
        · have e1 : p = k := by omega
          have e2 : q = l := by omega
          subst e1
          subst e2
          rw [if_neg (fun z => hkl' z.symm), if_pos rfl, if_pos rfl]; exact ⟨rfl, rfl⟩
      case l2 =>
        intro p z1 z2
        have e1 : p ≠ k := fun z => z1 y (Or.inr ⟨by omega, rfl⟩)
        have e2 : p ≠ l := fun z => z2 x (Or.inr ⟨rfl, by omega⟩)
        rw [o4 37 (by decide), f37, if_neg e1, if_neg e2]
        exact hM.l2 p (fun v z => z1 v (Or.inl z)) (fun u z => z2 u (Or.inl z))
      case r1 =>
        intro p q r z hr e
        rcases z with z | ⟨z1, z2⟩
        · have hp := (Pr_b hs (hD _ _ z)).2.1
          rw [rb r (fun _ w => (uq' p q z).1 (ruq p r (by omega) hr e w))]
          exact hM.r1 p q r z hr e
        · have e1 : p = k := by omega
          have e2 : q = l := by omega
          subst e1
          subst e2
          exact ra r hr e
      case r2 =>
        intro r z
        rw [rb r (z k l (Or.inr ⟨by omega, by omega⟩))]
        exact hM.r2 r (fun p q w => z p q (Or.inl w))
    have g51 : Y3.1 51 = Y.1 51 := by rw [o3 51 (by decide), o2 51 (by decide)]
    by_cases e : σ.1 37 k = -1
    · refine ⟨Y3, ?_, fin Y3 (fun _ _ => rfl) rfl (fun r hr z => ?_) (fun r _ => by rw [g51])⟩
      · rw [head, if_pos e, q245_76, if_pos e, show cnt (fun k => ¬ σ.1 37 k = -1) k 1 = 0 from by rw [cnt, if_neg (fun z => z e)]; rfl]
      · rw [e] at z; exact absurd z.symm (nI_nm (by omega))
    · obtain ⟨r, z1, z2, z3⟩ : ∃ r, r < rc ∧ σ.1 37 k = nI r ∧ J.1 15 r = nI k := by
        rw [s37] at e ⊢
        exact (h.core.rec k hk64).resolve_left e
      refine ⟨am_wI Y3 51 r (nI l), ?_, fin _ (fun a ha => w_o _ _ _ ha) rfl (fun r' hr z => ?_) (fun r' z => ?_)⟩
      · rw [head, if_neg e, z2, if_pos (am_k (by omega) (by omega)), i_cl (by omega), q245_76, if_neg (nI_nm (by omega)), show cnt (fun k => ¬ σ.1 37 k = -1) k 1 = 1 from by rw [cnt, if_pos e]; rfl]
      · have := nI_inj (by omega) (by omega) (z2.symm.trans z)
        rw [am_wI_s, s_eq, this]; exact upd_e
      · rw [am_wI_s, s_eq, upd_n (fun w => z (by rw [w]; exact z1) (by rw [w]; exact z2)), g51]
end MVM
