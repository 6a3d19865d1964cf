/-! forgetting: both sides when all is gone -/
section GNE
variable {c kc md rc td : Nat} {lev rk : Nat → Nat} {σ W : am_M}
theorem sty_par {R u : Nat → Int32} {p : Nat} (h0 : 0 < p) (hp : p < 85) (hs : sty R u p) : sty R u (par p) := by
  by_cases e : par p = 0
  · rw [e]; exact sty_0 R u
  · have h21 : par p < 21 := by unfold par; omega
    refine (sty_in R u (by omega) h21).mpr ⟨p - (4 * par p + 1), by unfold par; omega, ?_⟩
    rw [show 4 * par p + 1 + (p - (4 * par p + 1)) = p by unfold par; omega]
    exact hs
/-- a leaf that has a record stays just if it isn't marked -/
theorem sty_k (h : Inv c kc md rc td lev rk σ) {k : Nat} (hk : k < 64) : (¬ sty (σ.1 17) (σ.1 19) (21 + k) ∧ ¬ σ.1 17 k = -1) ↔ ¬ σ.1 19 k = nI 0 := by
  rw [sty_leaf _ _ (by omega), show 21 + k - 21 = k by omega]
  constructor
  · exact fun z e => z.1 ⟨z.2, e⟩
  · exact fun z => ⟨fun q => z q.2, h.okU k hk z⟩
/-- both memories together, when the class and the reference have cleared -/
abbrev GnJ (σ : am_M) (X Y : am_M) : Prop := (∀ q, 1 ≤ q → q < 85 → ¬ sty (σ.1 17) (σ.1 19) q → (hy aM X Y).1 16 q = nI 0) ∧ (∀ q, (q = 0 ∨ sty (σ.1 17) (σ.1 19) q) → (hy aM X Y).1 16 q = σ.1 16 q) ∧ (∀ k, k < 64 → ¬ sty (σ.1 17) (σ.1 19) (21 + k) → (hy aM X Y).1 17 k = -1) ∧ (∀ k, k < 64 → sty (σ.1 17) (σ.1 19) (21 + k) → (hy aM X Y).1 17 k = σ.1 17 k)
theorem GnJ.n1 {σ : am_M} {X Y : am_M} (h : GnJ σ X Y) : ∀ q, 1 ≤ q → q < 85 → ¬ sty (σ.1 17) (σ.1 19) q → (hy aM X Y).1 16 q = nI 0 := h.1
theorem GnJ.n2 {σ : am_M} {X Y : am_M} (h : GnJ σ X Y) : ∀ q, (q = 0 ∨ sty (σ.1 17) (σ.1 19) q) → (hy aM X Y).1 16 q = σ.1 16 q := h.2.1
theorem GnJ.l1 {σ : am_M} {X Y : am_M} (h : GnJ σ X Y) : ∀ k, k < 64 → ¬ sty (σ.1 17) (σ.1 19) (21 + k) → (hy aM X Y).1 17 k = -1 := h.2.2.1
theorem GnJ.l2 {σ : am_M} {X Y : am_M} (h : GnJ σ X Y) : ∀ k, k < 64 → sty (σ.1 17) (σ.1 19) (21 + k) → (hy aM X Y).1 17 k = σ.1 17 k := h.2.2.2
theorem GnJ.mk {σ : am_M} {X Y : am_M} (n1 : ∀ q, 1 ≤ q → q < 85 → ¬ sty (σ.1 17) (σ.1 19) q → (hy aM X Y).1 16 q = nI 0) (n2 : ∀ q, (q = 0 ∨ sty (σ.1 17) (σ.1 19) q) → (hy aM X Y).1 16 q = σ.1 16 q) (l1 : ∀ k, k < 64 → ¬ sty (σ.1 17) (σ.1 19) (21 + k) → (hy aM X Y).1 17 k = -1) (l2 : ∀ k, k < 64 → sty (σ.1 17) (σ.1 19) (21 + k) → (hy aM X Y).1 17 k = σ.1 17 k) : GnJ σ X Y := ⟨n1, n2, l1, l2⟩
theorem clrJ (h : Inv c kc md rc td lev rk σ) (hW : Sm σ W) {X0 X Y0 Y : am_M} (hP : Sm σ X0) (hG : Gn kc σ (σ.1 19) X0 85 X) (hPM : Sm W Y0) (hM : GnM W (W.1 19) Y0 Y) : Inv0 c kc md rc td lev rk (hy aM X Y) ∧ GnJ σ X Y := by
  have hkl := h.kl
  have hrb := h.core.rcb
  have gc : ∀ a, a ≠ 13 → a ≠ 15 → a ≠ 16 → a ≠ 17 → a ≠ 18 → a ≠ 19 → ¬ scr a → a < 34 → (hy aM X Y).1 a = σ.1 a := fun a a1 a2 a3 a4 a5 a6 a7 a8 => by
    rw [hyI' (by unfold aM; rw [show Nat.ble 34 a = false from by rw [Bool.eq_false_iff]; intro z; have := Nat.le_of_ble_eq_true z; omega]; rfl), hG.o a a1 a2 a3 a4 a5 a6, hP.i a a7 (by omega)]
  have gm : ∀ a, a ≠ 35 → a ≠ 37 → a ≠ 41 → a ≠ 51 → ¬ scr a → aM a = true → a ≠ 34 → (hy aM X Y).1 a = σ.1 a := fun a a1 a2 a3 a4 a5 a6 a7 => by
    rw [hyI a6, hM.o a a1 a2 a3 a4, hPM.i a a5 a7, hW.i a a5 a7]
  have gf : ∀ j, j ≠ 25 → j ≠ 27 → (hy aM X Y).1 34 j = σ.1 34 j := fun j a1 a2 => by
    rw [hyI (by decide), hM.o 34 (by decide) (by decide) (by decide) (by decide), hPM.f j a1 a2, hW.f j a1 a2]
  have gj : (hy aM X Y).2.1 14 = σ.2.1 14 := by rw [hyJ' (by decide), hG.j]; exact hP.j 14 (by decide)
  have gk : ∀ a, a = 49 ∨ a = 50 → (hy aM X Y).2.1 a = σ.2.1 a := fun a ha => by
    rw [hyJ (by rcases ha with rfl | rfl <;> decide), hM.j, hPM.j a (by omega), hW.j a (by omega)]
  have w16 : W.1 16 = σ.1 16 := hW.i 16 (by decide) (by decide)
  have w17 : W.1 17 = σ.1 17 := hW.i 17 (by decide) (by decide)
  have w19 : W.1 19 = σ.1 19 := hW.i 19 (by decide) (by decide)
  have w35 : W.1 35 = σ.1 16 := by rw [hW.i 35 (by decide) (by decide), h.e35]
  have w37 : W.1 37 = σ.1 17 := by rw [hW.i 37 (by decide) (by decide), h.e37]
  have w41 : W.1 41 = σ.1 19 := by rw [hW.i 41 (by decide) (by decide), h.e41]
  have w51 : W.1 51 = σ.1 15 := by rw [hW.i 51 (by decide) (by decide), h.e51]
  have c16 : (hy aM X Y).1 16 = X.1 16 := hyI' (by decide)
  have c17 : (hy aM X Y).1 17 = X.1 17 := hyI' (by decide)
  have c13 : (hy aM X Y).1 13 = X.1 13 := hyI' (by decide)
  have c15 : (hy aM X Y).1 15 = X.1 15 := hyI' (by decide)
  have c18 : (hy aM X Y).1 18 = X.1 18 := hyI' (by decide)
  have c19 : (hy aM X Y).1 19 = X.1 19 := hyI' (by decide)
  have n1 : ∀ q, 1 ≤ q → q < 85 → ¬ sty (σ.1 17) (σ.1 19) q → X.1 16 q = nI 0 := hG.n1
  have n2 : ∀ q, (q = 0 ∨ sty (σ.1 17) (σ.1 19) q) → X.1 16 q = σ.1 16 q := fun q z => hG.n2 q (fun ⟨a, b, e⟩ => z.elim (fun y => by omega) e)
  have lfin : ∀ k, k < 64 → 21 + k < 85 := fun k hk => by omega
  have l1 : ∀ k, k < 64 → ¬ sty (σ.1 17) (σ.1 19) (21 + k) → X.1 17 k = -1 ∧ X.1 18 k = -1 ∧ X.1 19 k = nI 0 := fun k hk e => hG.l1 k hk (lfin k hk) e
  have l2 : ∀ k, (k < 64 → sty (σ.1 17) (σ.1 19) (21 + k)) → X.1 17 k = σ.1 17 k ∧ X.1 18 k = σ.1 18 k ∧ X.1 19 k = σ.1 19 k := fun k e => hG.l2 k (fun z => z.2.2 (e z.1))
  -- records and leaves
  have ix : ∀ k, k < 64 → ¬ σ.1 17 k = -1 → ∃ r, r < rc ∧ σ.1 17 k = nI r ∧ σ.1 15 r = nI k ∧ (σ.1 17 k).toNatClampNeg = r := fun k hk e => by
    obtain ⟨r, a1, a2, a3⟩ := (h.core.rec k hk).resolve_left e
    exact ⟨r, a1, a2, a3, by rw [a2, i_cl (by omega)]⟩
  have r1 : ∀ k r, k < 64 → ¬ sty (σ.1 17) (σ.1 19) (21 + k) → r < rc → σ.1 17 k = nI r → X.1 15 r = -1 := fun k r hk e hr e2 => by
    have := hG.r1 k hk (lfin k hk) e (by rw [e2]; exact nI_nm (by omega))
    rw [e2, i_cl (by omega)] at this
    exact this
  have r2 : ∀ k r, k < 64 → sty (σ.1 17) (σ.1 19) (21 + k) → r < rc → σ.1 17 k = nI r → σ.1 15 r = nI k → X.1 15 r = σ.1 15 r := fun k r hk e hr e2 e3 => by
    refine hG.r2 r (fun k' a1 a2 a3 a4 a5 => ?_)
    obtain ⟨r', b1, b2, b3, b4⟩ := ix k' a1 a4
    rw [b4] at a5
    rw [a5, e3] at b3
    have := nI_inj (by omega) (by omega) b3
    rw [← this] at a3
    exact a3 e
  refine ⟨?_, ⟨fun q a b e => by rw [c16]; exact n1 q a b e, fun q e => by rw [c16]; exact n2 q e, fun k a e => by rw [c17]; exact (l1 k a e).1, fun k a e => by rw [c17]; exact (l2 k (fun _ => e)).1⟩⟩
  apply Inv0.mk
  case core =>
    rw [c16, c17, c13, c15, gc 20 (by decide) (by decide) (by decide) (by decide) (by decide) (by decide) (by decide) (by decide), gc 21 (by decide) (by decide) (by decide) (by decide) (by decide) (by decide) (by decide) (by decide), gc 22 (by decide) (by decide) (by decide) (by decide) (by decide) (by decide) (by decide) (by decide), gc 23 (by decide) (by decide) (by decide) (by decide) (by decide) (by decide) (by decide) (by decide), gc 24 (by decide) (by decide) (by decide) (by decide) (by decide) (by decide) (by decide) (by decide)]
    have kk : ∀ p k, p < 85 → (p = 0 ∨ sty (σ.1 17) (σ.1 19) p) → 1 ≤ k → k ≤ kc → σ.1 13 k = nI p → X.1 13 k = nI p := by
      intro p k hp hs k1 k2 e
      rw [hG.k2 k k1 k2 (fun q a1 a2 a3 a4 => ?_)]
      · exact e
      · rcases h.core.node q (by omega) with b | ⟨k', b1, b2, b3, b4, b5⟩
        · rw [b] at a4; have := nI_inj (by omega) (by omega) a4; omega
        · rw [b3] at a4
          have ek := nI_inj (by omega) (by omega) a4
          rw [ek, e] at b4
          have := nI_inj (by omega) (by omega) b4
          rw [← this] at a3 a1
          exact hs.elim (fun z => by omega) a3
    apply Core.mk
    case mdb => exact h.core.mdb
    case rcb => exact h.core.rcb
    case lvb => exact h.core.lvb
    case node =>
      intro p hp
      by_cases e : p = 0 ∨ sty (σ.1 17) (σ.1 19) p
      · rw [n2 p e]
        rcases h.core.node p hp with a | ⟨k, a1, a2, a3, a4, a5⟩
        · exact Or.inl a
        · exact Or.inr ⟨k, a1, a2, a3, kk p k hp e a1 a2 a4, a5⟩
      · exact Or.inl (n1 p (by have : p ≠ 0 := fun z => e (Or.inl z)
                               omega) hp (fun z => e (Or.inr z)))
    case root => rw [n2 0 (Or.inl rfl)]; exact h.core.root
    case pars =>
      intro p h0 hp hn
      have hs : sty (σ.1 17) (σ.1 19) p := Classical.not_not.mp (fun z => hn (n1 p h0 hp z))
      have hs2 := sty_par h0 hp hs
      have hpl := par_lt h0
      rw [n2 _ (Or.inr hs2)]
      exact sty_n h _ (by omega) hs2
    case plc =>
      intro k k1 k2
      by_cases e : ∃ q, 1 ≤ q ∧ q < 85 ∧ ¬ sty (σ.1 17) (σ.1 19) q ∧ σ.1 16 q = nI k
      · obtain ⟨q, a1, a2, a3, a4⟩ := e
        exact Or.inl (hG.k1 q k a1 a2 a3 k1 k2 a4)
      · rw [hG.k2 k k1 k2 (fun q a1 a2 a3 a4 => e ⟨q, a1, a2, a3, a4⟩)]
        rcases h.core.plc k k1 k2 with a | ⟨p, a1, a2, a3⟩
        · exact Or.inl a
        · refine Or.inr ⟨p, a1, a2, ?_⟩
          rw [n2 p ?_]
          · exact a3
          · by_cases z : p = 0
            · exact Or.inl z
            · exact Or.inr (Classical.not_not.mp (fun y => e ⟨p, by omega, a1, y, a3⟩))
    case rec =>
      intro k hk
      by_cases e : sty (σ.1 17) (σ.1 19) (21 + k)
      · rw [(l2 k (fun _ => e)).1]
        rcases h.core.rec k hk with a | ⟨r, a1, a2, a3⟩
        · exact Or.inl a
        · exact Or.inr ⟨r, a1, a2, by rw [r2 k r hk e a1 a2 a3]; exact a3⟩
      · exact Or.inl (l1 k hk e).1
    case lfs =>
      intro r hr
      by_cases e : ∃ k, k < 64 ∧ ¬ sty (σ.1 17) (σ.1 19) (21 + k) ∧ σ.1 17 k = nI r
      · obtain ⟨k, a1, a2, a3⟩ := e
        exact Or.inl (r1 k r a1 a2 hr a3)
      · have e15 : X.1 15 r = σ.1 15 r := hG.r2 r (fun k a1 a2 a3 a4 a5 => by
          obtain ⟨r', b1, b2, b3, b4⟩ := ix k a1 a4
          rw [b4] at a5
          exact e ⟨k, a1, a3, by rw [← a5]; exact b2⟩)
        rw [e15]
        rcases h.core.lfs r hr with a | ⟨k, a1, a2, a3⟩
        · exact Or.inl a
        · refine Or.inr ⟨k, a1, a2, ?_⟩
          rw [(l2 k (fun _ => Classical.not_not.mp (fun z => e ⟨k, a1, z, a3⟩))).1]
          exact a3
    case med => exact h.core.med
    case ent => exact h.core.ent
  case cb => exact h.cb
  case kb => rw [gc 20 (by decide) (by decide) (by decide) (by decide) (by decide) (by decide) (by decide) (by decide), gc 21 (by decide) (by decide) (by decide) (by decide) (by decide) (by decide) (by decide) (by decide)]; exact h.kb
  case hk => rw [gc 1 (by decide) (by decide) (by decide) (by decide) (by decide) (by decide) (by decide) (by decide)]; exact h.hk
  case hm => rw [gc 4 (by decide) (by decide) (by decide) (by decide) (by decide) (by decide) (by decide) (by decide)]; exact h.hm
  case hr => rw [gc 2 (by decide) (by decide) (by decide) (by decide) (by decide) (by decide) (by decide) (by decide)]; exact h.hr
  case ht => rw [gc 0 (by decide) (by decide) (by decide) (by decide) (by decide) (by decide) (by decide) (by decide)]; exact h.ht
  case tb => exact h.tb
  case hk' => rw [gf 21 (by decide) (by decide)]; exact h.hk'
  case hm' => rw [gf 22 (by decide) (by decide)]; exact h.hm'
  case hr' => rw [gf 23 (by decide) (by decide)]; exact h.hr'
  case ht' => rw [gf 24 (by decide) (by decide)]; exact h.ht'
  case sd => rw [gf 20 (by decide) (by decide), gc 1 (by decide) (by decide) (by decide) (by decide) (by decide) (by decide) (by decide) (by decide)]; exact h.sd
  case e35 =>
    rw [hyI (by decide), c16]
    funext q
    by_cases hq : q < 85
    · have ht := hM.n1 q hq
      unfold Thn at ht
      rw [w17, w19, w16] at ht
      rcases ht with ⟨a, b⟩ | ⟨a, b⟩
      · rw [b, n2 q (Or.inr a)]
      · rw [b, n1 q (by have : q ≠ 0 := fun z => a (by rw [z]; exact sty_0 _ _)
                        omega) hq a]
    · rw [hM.n2 q (by omega), w35, hG.n2 q (fun z => by omega)]
  case e37 =>
    rw [hyI (by decide), c17]
    funext k
    by_cases hk : k < 64
    · have hs := sty_k h hk
      by_cases hm : σ.1 19 k = nI 0
      · rw [(hM.l2 k (fun z => z.2 (by rw [w19]; exact hm))).1, w37]
        by_cases e : sty (σ.1 17) (σ.1 19) (21 + k)
        · rw [(l2 k (fun _ => e)).1]
        · rw [(l1 k hk e).1]
          exact Classical.not_not.mp (fun z => hs.mp ⟨e, z⟩ hm)
      · rw [(hM.l1 k hk (by rw [w19]; exact hm)).1, (l1 k hk (hs.mpr hm).1).1]
    · rw [(hM.l2 k (fun z => hk z.1)).1, w37, (l2 k (fun z => absurd z hk)).1]
  case e38 => rw [gm 38 (by decide) (by decide) (by decide) (by decide) (by decide) (by decide) (by decide), gc 10 (by decide) (by decide) (by decide) (by decide) (by decide) (by decide) (by decide) (by decide)]; exact h.e38
  case e41 =>
    rw [hyI (by decide), c19]
    funext k
    by_cases hk : k < 64
    · have hs := sty_k h hk
      by_cases hm : σ.1 19 k = nI 0
      · rw [(hM.l2 k (fun z => z.2 (by rw [w19]; exact hm))).2, w41]
        by_cases e : sty (σ.1 17) (σ.1 19) (21 + k)
        · rw [(l2 k (fun _ => e)).2.2]
        · rw [(l1 k hk e).2.2]; exact hm
      · rw [(hM.l1 k hk (by rw [w19]; exact hm)).2, (l1 k hk (hs.mpr hm).1).2.2]
    · rw [(hM.l2 k (fun z => hk z.1)).2, w41, (l2 k (fun z => absurd z hk)).2.2]
  case e46 => rw [gm 46 (by decide) (by decide) (by decide) (by decide) (by decide) (by decide) (by decide), gc 22 (by decide) (by decide) (by decide) (by decide) (by decide) (by decide) (by decide) (by decide)]; exact h.e46
  case e47 => rw [gm 47 (by decide) (by decide) (by decide) (by decide) (by decide) (by decide) (by decide), gc 23 (by decide) (by decide) (by decide) (by decide) (by decide) (by decide) (by decide) (by decide)]; exact h.e47
  case e48 => rw [gm 48 (by decide) (by decide) (by decide) (by decide) (by decide) (by decide) (by decide), gc 24 (by decide) (by decide) (by decide) (by decide) (by decide) (by decide) (by decide) (by decide)]; exact h.e48
  case e51 =>
    rw [hyI (by decide), c15]
    funext r
    by_cases e : ∃ k, k < 64 ∧ ¬ σ.1 19 k = nI 0 ∧ (σ.1 17 k).toNatClampNeg = r
    · obtain ⟨k, a1, a2, a3⟩ := e
      have y1 := hM.r1 k a1 (by rw [w19]; exact a2)
      have hs := (sty_k h a1).mpr a2
      have x1 := hG.r1 k a1 (lfin k a1) hs.1 hs.2
      rw [w17, a3] at y1
      rw [a3] at x1
      rw [y1, x1]
    · rw [hM.r2 r (fun k a1 a2 a3 => e ⟨k, a1, by rw [← w19]; exact a2, by rw [← w17]; exact a3⟩), w51, hG.r2 r (fun k a1 a2 a3 a4 a5 => e ⟨k, a1, (sty_k h a1).mp ⟨a3, a4⟩, a5⟩)]
  case e53 => rw [gm 53 (by decide) (by decide) (by decide) (by decide) (by decide) (by decide) (by decide), gc 33 (by decide) (by decide) (by decide) (by decide) (by decide) (by decide) (by decide) (by decide)]; exact h.e53
  case e54 => rw [gm 54 (by decide) (by decide) (by decide) (by decide) (by decide) (by decide) (by decide), gc 32 (by decide) (by decide) (by decide) (by decide) (by decide) (by decide) (by decide) (by decide)]; exact h.e54
  case e50 => rw [gk 50 (by decide), gj]; exact h.e50
  case mdm => rw [gm 44 (by decide) (by decide) (by decide) (by decide) (by decide) (by decide) (by decide), gm 45 (by decide) (by decide) (by decide) (by decide) (by decide) (by decide) (by decide), gc 20 (by decide) (by decide) (by decide) (by decide) (by decide) (by decide) (by decide) (by decide), gc 21 (by decide) (by decide) (by decide) (by decide) (by decide) (by decide) (by decide) (by decide)]; exact h.mdm
  case kep => rw [gm 39 (by decide) (by decide) (by decide) (by decide) (by decide) (by decide) (by decide), gm 40 (by decide) (by decide) (by decide) (by decide) (by decide) (by decide) (by decide), gc 11 (by decide) (by decide) (by decide) (by decide) (by decide) (by decide) (by decide) (by decide), gc 12 (by decide) (by decide) (by decide) (by decide) (by decide) (by decide) (by decide) (by decide)]; exact h.kep
  case okh => rw [gc 10 (by decide) (by decide) (by decide) (by decide) (by decide) (by decide) (by decide) (by decide)]; exact h.okh
  case due =>
    intro k hk
    rw [c18, c17, gm 52 (by decide) (by decide) (by decide) (by decide) (by decide) (by decide) (by decide)]
    unfold dueOf
    by_cases e : sty (σ.1 17) (σ.1 19) (21 + k)
    · rw [(l2 k (fun _ => e)).1, (l2 k (fun _ => e)).2.1]; exact h.due k hk
    · rw [(l1 k hk e).1, (l1 k hk e).2.1, if_pos rfl]
  case mrk =>
    intro k hk
    rw [c19]
    refine Or.inl ?_
    by_cases e : sty (σ.1 17) (σ.1 19) (21 + k)
    · rw [(l2 k (fun _ => e)).2.2]
      exact Classical.not_not.mp (fun z => ((sty_k h hk).mpr z).1 e)
    · exact (l1 k hk e).2.2
  case con => rw [gc 21 (by decide) (by decide) (by decide) (by decide) (by decide) (by decide) (by decide) (by decide), gc 22 (by decide) (by decide) (by decide) (by decide) (by decide) (by decide) (by decide) (by decide), gc 23 (by decide) (by decide) (by decide) (by decide) (by decide) (by decide) (by decide) (by decide), gc 24 (by decide) (by decide) (by decide) (by decide) (by decide) (by decide) (by decide) (by decide), gc 1 (by decide) (by decide) (by decide) (by decide) (by decide) (by decide) (by decide) (by decide), gj, gk 49 (by decide)]; exact h.con
  case prl => rw [gc 32 (by decide) (by decide) (by decide) (by decide) (by decide) (by decide) (by decide) (by decide)]; exact h.prl
end GNE
