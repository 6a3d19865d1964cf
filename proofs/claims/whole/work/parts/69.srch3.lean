/-! the class's search downwards, and its counts -/
section SRE
variable (d : Nat) {c kc md rc td : Nat} {lev rk : Nat → Nat} {σ : am_M} (g : Nat → Int32) {gr : Nat → Nat} {O : Nat → Prop}
/-- one step down over the media from lo to la -/
theorem x70s (h : Inv0 c kc md rc td lev rk σ) {s lo la : Nat} (hll : lo ≤ la) (hla : la < md) (hs : 1 ≤ s ∧ s ≤ 3) (hg3 : ∀ k, gr k ≤ 3) {f : Nat → Int32} (hF : SR kc gr O f) (hEd : ∀ x y, EdD kc σ lo (la + 1) x y → O x → gr y = gr x + 1 ∧ O y) (x : Int32) {u5 : Value} (hu5 : (!(u5.category == 2)) = true) : ∃ f' u5', am_go am_X0 (am_ex (d + 3)) M70 13 [.ref 5, .int x, .int (nI lo), .int (nI la), .int (nI s), u5, .null] [] (S2 σ f g) = am_go am_X0 (am_ex (d + 3)) M70 13 [.ref 5, .int x, .int (nI lo), .int (nI la), .int (nI (s + 1)), u5', .null] [] (S2 σ f' g) ∧ (!(u5'.category == 2)) = true ∧ SR kc gr O f' ∧ Mn f f' ∧ ∀ x y, EdD kc σ lo (la + 1) x y → f x = nI s → ¬ f' y = nI 0 := by
  have hmb := h.core.mdb
  obtain ⟨f', e1, i1, i2, i3⟩ := lp_inv (fun m (p : Nat → Int32) => SR kc gr O p ∧ Mn f p ∧ ∀ x y, EdD kc σ lo m x y → f x = nI s → ¬ p y = nI 0) lo (la + 1) (by omega) (fun m p => am_go am_X0 (am_ex (d + 3)) M70 22 [.ref 5, .int x, .int (nI lo), .int (nI la), .int (nI s), .int (nI m), .null] [] (S2 σ p g)) (by
    rintro m f1 hlm hm ⟨i1, i2, i3⟩
    obtain ⟨f2, k1, k2, k3, k4⟩ := x74 d g h (m := m) (by omega) hs hg3 i1 (fun x y e => hEd x y (EdU_w e hlm hm))
    refine ⟨f2, ?_, k2, i2.trans k3, fun x y e hx => ?_⟩
    · show am_go am_X0 (am_ex (d + 3)) M70 22 [.ref 5, .int x, .int (nI lo), .int (nI la), .int (nI s), .int (nI m), .null] [] (S2 σ f1 g) = am_go am_X0 (am_ex (d + 3)) M70 22 [.ref 5, .int x, .int (nI lo), .int (nI la), .int (nI s), .int (nI (m + 1)), .null] [] (S2 σ f2 g)
      rw [q70_22, if_neg (by rw [i_lt, i_n (by omega), i_n (by omega)]; omega), k1, bV_r, show nI m + nI 1 = nI (m + 1) from nI_1 _]
    · have e : EdU kc σ lo (m + 1) y x := e
      rcases EdU_s e with e | e
      · have := i3 x y e hx
        rw [k3 y this]; exact this
      · refine k4 x y e ?_
        rw [i2 x (by rw [hx]; exact fun z => by have := nI_inj (by omega) (by omega) z; omega)]; exact hx) f ⟨hF, Mn.refl f, fun x y e => absurd e EdU_0⟩
  have e1 : am_go am_X0 (am_ex (d + 3)) M70 22 [.ref 5, .int x, .int (nI lo), .int (nI la), .int (nI s), .int (nI lo), .null] [] (S2 σ f g) = am_go am_X0 (am_ex (d + 3)) M70 22 [.ref 5, .int x, .int (nI lo), .int (nI la), .int (nI s), .int (nI (la + 1)), .null] [] (S2 σ f' g) := e1
  refine ⟨f', .int (nI (la + 1)), ?_, rfl, i1, i2, i3⟩
  rw [q70_13 _ _ _ _ _ _ hu5, if_neg (by rw [i_lt, i_n (by omega), i_n (by omega)]; omega), e1, q70_22, if_pos (by rw [i_lt, i_n (by omega), i_n (by omega)]; omega), show nI s + nI 1 = nI (s + 1) from nI_1 _]
/-- a positive step -/
theorem SR.pos {f : Nat → Int32} (h : SR kc gr O f) (hg3 : ∀ k, gr k ≤ 3) {k : Nat} (h1 : 1 ≤ k) (h2 : k ≤ kc) : f k ≤ nI 0 ↔ f k = nI 0 := by
  constructor
  · intro e
    rcases h k h1 h2 with a | ⟨a, _⟩
    · exact a
    · have := hg3 k
      rw [a, i_le, i_n (by omega), i_n (by omega)] at e; omega
  · intro e; rw [e]; exact le00
/-- records inside entries around reached keys, one medium -/
theorem x70i (h : Inv0 c kc md rc td lev rk σ) {m : Nat} (hm : m < md) (hg3 : ∀ k, gr k ≤ 3) {f : Nat → Int32} (hF : SR kc gr O f) (x y z : Int32) {u6 : Value} (hu6 : (!(u6.category == 2)) = true) : ∃ g' u' u5, am_go am_X0 (am_ex (d + 3)) M70 60 [.ref 5, .int x, .int y, .int z, .int (nI m), .int (nI 0), u6] [] (S2 σ f g) = am_go am_X0 (am_ex (d + 3)) M70 51 [.ref 5, .int x, .int y, .int z, .int (nI (m + 1)), u5, u'] [] (S2 σ f g') ∧ (!(u5.category == 2)) = true ∧ (!(u'.category == 2)) = true ∧ (∀ r, r < rc → (¬ g' r = nI 0 ↔ ¬ g r = nI 0 ∨ ∃ k, RcE kc rc σ m (m + 1) r k ∧ ¬ f k = nI 0)) := by
  have hkl := h.kl
  have hmb := h.core.mdb
  have hrb := h.core.rcb
  obtain ⟨hz1, hz2, _⟩ := h.core.med m hm
  obtain ⟨⟨g', u⟩, e1, hu, i1⟩ := lp_inv (fun i (p : (Nat → Int32) × Value) => (!(p.2.category == 2)) = true ∧ ∀ r, r < rc → (¬ p.1 r = nI 0 ↔ ¬ g r = nI 0 ∨ ∃ i' k, i' < i ∧ σ.1 22 (m * 150 + i') = nI 1 ∧ σ.1 23 (m * 150 + i') = nI r ∧ σ.1 24 (m * 150 + i') = nI k ∧ 1 ≤ k ∧ k ≤ kc ∧ ¬ f k = nI 0)) 0 (zn (σ.1 21) m) (by omega) (fun i p => am_go am_X0 (am_ex (d + 3)) M70 60 [.ref 5, .int x, .int y, .int z, .int (nI m), .int (nI i), p.2] [] (S2 σ f p.1)) (by
    rintro i ⟨g1, u⟩ _ hi ⟨hu, i1⟩
    have i1 : ∀ r, r < rc → (¬ g1 r = nI 0 ↔ ¬ g r = nI 0 ∨ ∃ i' k, i' < i ∧ σ.1 22 (m * 150 + i') = nI 1 ∧ σ.1 23 (m * 150 + i') = nI r ∧ σ.1 24 (m * 150 + i') = nI k ∧ 1 ≤ k ∧ k ≤ kc ∧ ¬ f k = nI 0) := i1
    have ha : m * 150 + i < 1200 := by omega
    have hrun : am_go am_X0 (am_ex (d + 3)) M70 60 [.ref 5, .int x, .int y, .int z, .int (nI m), .int (nI i), u] [] (S2 σ f g1) = if σ.1 22 (m * 150 + i) = nI 1 then am_bI (am_ex (d + 3) 67 [.ref 5, .int (σ.1 24 (m * 150 + i))] (S2 σ f g1)) (fun r5 t5 => if r5 ≤ nI 0 then am_go am_X0 (am_ex (d + 3)) M70 60 [.ref 5, .int x, .int y, .int z, .int (nI m), .int (nI (i + 1)), .int (nI (m * 150 + i))] [] t5 else am_bI (am_ex (d + 3) 44 [.ref 4, .int (nI (m * 150 + i))] t5) (fun r6 t6 => am_bV (am_ex (d + 3) 65 [.ref 5, .int r6] t6) (fun t7 => am_go am_X0 (am_ex (d + 3)) M70 60 [.ref 5, .int x, .int y, .int z, .int (nI m), .int (nI (i + 1)), .int (nI (m * 150 + i))] [] t7))) else am_go am_X0 (am_ex (d + 3)) M70 60 [.ref 5, .int x, .int y, .int z, .int (nI m), .int (nI (i + 1)), .int (nI (m * 150 + i))] [] (S2 σ f g1) := by
      rw [q70_60 _ _ _ _ _ _ _ hu, w36 (d + 1) f g1 h hm, bI_r, if_neg (by rw [i_le, i_n (by omega), i_n (by omega)]; omega), x42, bI_r, w43 (d + 1) f g1 ha, bI_r, w45 (d + 1) f g1 ha, bI_r, show nI i + nI 1 = nI (i + 1) from nI_1 _]
    have fin : ∀ g2, (∀ r, r < rc → (¬ g2 r = nI 0 ↔ ¬ g1 r = nI 0 ∨ ∃ k, σ.1 22 (m * 150 + i) = nI 1 ∧ σ.1 23 (m * 150 + i) = nI r ∧ σ.1 24 (m * 150 + i) = nI k ∧ 1 ≤ k ∧ k ≤ kc ∧ ¬ f k = nI 0)) → am_go am_X0 (am_ex (d + 3)) M70 60 [.ref 5, .int x, .int y, .int z, .int (nI m), .int (nI i), u] [] (S2 σ f g1) = am_go am_X0 (am_ex (d + 3)) M70 60 [.ref 5, .int x, .int y, .int z, .int (nI m), .int (nI (i + 1)), .int (nI (m * 150 + i))] [] (S2 σ f g2) → ∃ p : (Nat → Int32) × Value, am_go am_X0 (am_ex (d + 3)) M70 60 [.ref 5, .int x, .int y, .int z, .int (nI m), .int (nI i), u] [] (S2 σ f g1) = am_go am_X0 (am_ex (d + 3)) M70 60 [.ref 5, .int x, .int y, .int z, .int (nI m), .int (nI (i + 1)), p.2] [] (S2 σ f p.1) ∧ (!(p.2.category == 2)) = true ∧ ∀ r, r < rc → (¬ p.1 r = nI 0 ↔ ¬ g r = nI 0 ∨ ∃ i' k, i' < i + 1 ∧ σ.1 22 (m * 150 + i') = nI 1 ∧ σ.1 23 (m * 150 + i') = nI r ∧ σ.1 24 (m * 150 + i') = nI k ∧ 1 ≤ k ∧ k ≤ kc ∧ ¬ f k = nI 0) := by
      intro g2 a1 a2
      refine ⟨(g2, .int (nI (m * 150 + i))), a2, rfl, fun r hr => ?_⟩
      show ¬ g2 r = nI 0 ↔ _
      rw [a1 r hr, i1 r hr]
      constructor
      · rintro ((b | ⟨i', k, b1, b2⟩) | ⟨k, b⟩)
        · exact Or.inl b
        · exact Or.inr ⟨i', k, by omega, b2⟩
        · exact Or.inr ⟨i, k, by omega, b⟩
      · rintro (b | ⟨i', k, b1, b2⟩)
        · exact Or.inl (Or.inl b)
        · by_cases e : i' = i
          · subst e; exact Or.inr ⟨k, b2⟩
          · exact Or.inl (Or.inr ⟨i', k, by omega, b2⟩)
    show ∃ p : (Nat → Int32) × Value, am_go am_X0 (am_ex (d + 3)) M70 60 [.ref 5, .int x, .int y, .int z, .int (nI m), .int (nI i), u] [] (S2 σ f g1) = am_go am_X0 (am_ex (d + 3)) M70 60 [.ref 5, .int x, .int y, .int z, .int (nI m), .int (nI (i + 1)), p.2] [] (S2 σ f p.1) ∧ _
    rcases h.core.ent m hm i hi with ⟨a1, _⟩ | ⟨a1, r, k, a2, a3, a4, a5, a6, a7, a8⟩
    · refine fin g1 (fun r hr => ⟨Or.inl, fun z => z.elim id (fun ⟨k, b, _⟩ => ?_)⟩) ?_
      · rw [a1] at b; exact absurd b.symm n10
      · rw [hrun, if_neg (by rw [a1]; exact fun z => n10 z.symm)]
    · by_cases e : f k = nI 0
      · refine fin g1 (fun r hr => ⟨Or.inl, fun z => z.elim id (fun ⟨k2, _, _, b3, b4, b5, b6⟩ => ?_)⟩) ?_
        · rw [a6] at b3
          have := nI_inj (by omega) (by omega) b3
          rw [← this] at b6
          exact absurd e b6
        · rw [hrun, if_pos a1, a6, w67 (d + 1) f g1 h a3 a4, bI_r, if_pos ((SR.pos hF hg3 a3 a4).mpr e)]
      · refine fin (upd g1 r (nI 1)) (fun r2 hr2 => ?_) ?_
        · by_cases e2 : r2 = r
          · subst e2
            rw [show upd g1 r2 (nI 1) r2 = nI 1 from if_pos rfl]
            exact ⟨fun _ => Or.inr ⟨k, a1, a5, a6, a3, a4, e⟩, fun _ => n10⟩
          · rw [show upd g1 r (nI 1) r2 = g1 r2 from if_neg e2]
            refine ⟨Or.inl, fun z => z.elim id (fun ⟨k2, _, b2, _⟩ => ?_)⟩
            rw [a5] at b2
            exact absurd (nI_inj (by omega) (by omega) b2).symm e2
        · rw [hrun, if_pos a1, a6, w67 (d + 1) f g1 h a3 a4, bI_r, if_neg (fun z => e ((SR.pos hF hg3 a3 a4).mp z)), w44 (d + 1) f g1 ha, bI_r, a5, w65 (d + 1) f g1 h a2, bV_r]) (g, u6) ⟨hu6, fun r hr => ⟨Or.inl, fun z => z.elim id (fun ⟨i', k, b, _⟩ => by omega)⟩⟩
  have e1 : am_go am_X0 (am_ex (d + 3)) M70 60 [.ref 5, .int x, .int y, .int z, .int (nI m), .int (nI 0), u6] [] (S2 σ f g) = am_go am_X0 (am_ex (d + 3)) M70 60 [.ref 5, .int x, .int y, .int z, .int (nI m), .int (nI (zn (σ.1 21) m)), u] [] (S2 σ f g') := e1
  refine ⟨g', u, .int (nI (zn (σ.1 21) m)), ?_, rfl, hu, fun r hr => ?_⟩
  · rw [e1, q70_60 _ _ _ _ _ _ _ hu, w36 (d + 1) f g' h hm, bI_r, if_pos (by rw [i_le]; exact Int.le_refl _), show nI m + nI 1 = nI (m + 1) from nI_1 _]
  · refine (i1 r hr).trans ?_
    constructor
    · rintro (b | ⟨i', k, b1, b2, b3, b4, b5, b6, b7⟩)
      · exact Or.inl b
      · exact Or.inr ⟨k, ⟨m, i', by omega, by omega, b1, b2, b3, b4, hr, b5, b6⟩, b7⟩
    · rintro (b | ⟨k, ⟨m', i', j1, j2, j3, j4, j5, j6, j7, j8, j9⟩, b⟩)
      · exact Or.inl b
      · have hmm : m' = m := by omega
        subst hmm
        exact Or.inr ⟨i', k, j3, j4, j5, j6, j8, j9, b⟩
theorem x70f (h : Inv0 c kc md rc td lev rk σ) {lo la : Nat} (hll : lo ≤ la) (hla : la < md) (hg3 : ∀ k, gr k ≤ 3) {f : Nat → Int32} (hF : SR kc gr O f) (x : Int32) {u5 : Value} (hu5 : (!(u5.category == 2)) = true) : ∃ g', am_go am_X0 (am_ex (d + 3)) M70 51 [.ref 5, .int x, .int (nI lo), .int (nI la), .int (nI lo), u5, .null] [] (S2 σ f g) = rV (S2 σ f g') ∧ (∀ r, r < rc → (¬ g' r = nI 0 ↔ ¬ g r = nI 0 ∨ ∃ k, RcE kc rc σ lo (la + 1) r k ∧ ¬ f k = nI 0)) := by
  have hmb := h.core.mdb
  obtain ⟨⟨g', u, u'⟩, e1, hu, hu', i1⟩ := lp_inv (fun m (p : (Nat → Int32) × Value × Value) => (!(p.2.1.category == 2)) = true ∧ (!(p.2.2.category == 2)) = true ∧ ∀ r, r < rc → (¬ p.1 r = nI 0 ↔ ¬ g r = nI 0 ∨ ∃ k, RcE kc rc σ lo m r k ∧ ¬ f k = nI 0)) lo (la + 1) (by omega) (fun m p => am_go am_X0 (am_ex (d + 3)) M70 51 [.ref 5, .int x, .int (nI lo), .int (nI la), .int (nI m), p.2.1, p.2.2] [] (S2 σ f p.1)) (by
    rintro m ⟨g1, u, u'⟩ hlm hm ⟨hu, hu', i1⟩
    obtain ⟨g2, v', v, k1, k2, k3, k4⟩ := x70i d g1 h (m := m) (by omega) hg3 hF x (nI lo) (nI la) hu'
    refine ⟨(g2, v, v'), ?_, k2, k3, fun r hr => ?_⟩
    · show am_go am_X0 (am_ex (d + 3)) M70 51 [.ref 5, .int x, .int (nI lo), .int (nI la), .int (nI m), u, u'] [] (S2 σ f g1) = am_go am_X0 (am_ex (d + 3)) M70 51 [.ref 5, .int x, .int (nI lo), .int (nI la), .int (nI (m + 1)), v, v'] [] (S2 σ f g2)
      rw [q70_51 _ _ _ _ _ _ hu hu', if_neg (by rw [i_lt, i_n (by omega), i_n (by omega)]; omega), k1]
    · show ¬ g2 r = nI 0 ↔ _
      rw [k4 r hr]
      have := i1 r hr
      constructor
      · rintro (b | ⟨k, b1, b2⟩)
        · rcases this.mp b with b | ⟨k, b1, b2⟩
          · exact Or.inl b
          · obtain ⟨m', i', j1, j2, j3⟩ := b1
            exact Or.inr ⟨k, ⟨m', i', j1, by omega, j3⟩, b2⟩
        · exact Or.inr ⟨k, RcE_w b1 hlm (by omega), b2⟩
      · rintro (b | ⟨k, b1, b2⟩)
        · exact Or.inl (this.mpr (Or.inl b))
        · rcases RcE_s b1 with b1 | b1
          · exact Or.inl (this.mpr (Or.inr ⟨k, b1, b2⟩))
          · exact Or.inr ⟨k, b1, b2⟩) (g, u5, .null) ⟨hu5, rfl, fun r hr => ⟨Or.inl, fun z => z.elim id (fun ⟨k, b, _⟩ => absurd b RcE_0)⟩⟩
  have e1 : am_go am_X0 (am_ex (d + 3)) M70 51 [.ref 5, .int x, .int (nI lo), .int (nI la), .int (nI lo), u5, .null] [] (S2 σ f g) = am_go am_X0 (am_ex (d + 3)) M70 51 [.ref 5, .int x, .int (nI lo), .int (nI la), .int (nI (la + 1)), u, u'] [] (S2 σ f g') := e1
  refine ⟨g', ?_, i1⟩
  rw [e1, q70_51 _ _ _ _ _ _ hu hu', if_pos (by rw [i_lt, i_n (by omega), i_n (by omega)]; omega)]
/-- the records that key q opens -/
theorem x70 (h : Inv0 c kc md rc td lev rk σ) {q lo la : Nat} (hll : lo ≤ la) (hla : la < md) (hq : 1 ≤ q ∧ q ≤ kc) (f : Nat → Int32) : ∃ f' g', am_ex (d + 4) 70 [.ref 5, .int (nI q), .int (nI lo), .int (nI la)] (S2 σ f g) = rV (S2 σ f' g') ∧ ∀ r, r < rc → (¬ g' r = nI 0 ↔ Op kc rc σ lo (la + 1) (fun s => s = r) q) := by
  have hkl := h.kl
  have hrb := h.core.rcb
  have hl3 := h.core.lvb
  have hg3 : ∀ k, lev k - lev q ≤ 3 := fun k => by have := hl3 k; omega
  have hD : ∀ k, Dn kc σ lo (la + 1) q k → lev q ≤ lev k := fun k ⟨n, hn⟩ => by have := Dn_lev h (by omega) hq n k hn; omega
  have hEd : ∀ x y, EdD kc σ lo (la + 1) x y → Dn kc σ lo (la + 1) q x → lev y - lev q = lev x - lev q + 1 ∧ Dn kc σ lo (la + 1) q y := by
    rintro x y e hx
    have h1 := EdU_lev h (by omega) e
    have h2 := hD x hx
    obtain ⟨n, hn⟩ := hx
    exact ⟨by omega, n + 1, x, e, hn⟩
  have z0 : ∀ k, k ≤ kc → fil f (kc + 1) (nI 0) k = nI 0 := fun k hk => if_pos (by omega)
  have s0 : SR kc (fun k => lev k - lev q) (Dn kc σ lo (la + 1) q) (fil f (kc + 1) (nI 0)) := fun k h1 h2 => Or.inl (z0 k h2)
  have hr := SR.reach s0 (y := q) ⟨0, rfl⟩ (by omega)
  rw [Nat.sub_self] at hr
  generalize hf0 : (if fil f (kc + 1) (nI 0) q = nI 0 then upd (fil f (kc + 1) (nI 0)) q (nI (0 + 1)) else fil f (kc + 1) (nI 0)) = f0 at hr
  obtain ⟨s1, m1, p1⟩ := hr
  obtain ⟨f1, v1, e1, hv1, s2, m2, p2⟩ := x70s d (fil g 200 (nI 0)) h hll hla (s := 1) (by omega) hg3 s1 hEd (nI q) (u5 := .null) rfl
  obtain ⟨f2, v2, e2, hv2, s3, m3, p3⟩ := x70s d (fil g 200 (nI 0)) h hll hla (s := 2) (by omega) hg3 s2 hEd (nI q) hv1
  obtain ⟨f3, v3, e3, hv3, s4, m4, p4⟩ := x70s d (fil g 200 (nI 0)) h hll hla (s := 3) (by omega) hg3 s3 hEd (nI q) hv2
  obtain ⟨g', e4, hg⟩ := x70f d (fil g 200 (nI 0)) h hll hla hg3 s4 (nI q) hv3
  refine ⟨f3, g', ?_, fun r hr => ?_⟩
  · rw [e70, q70_0, x64 (d + 1) f g h, bV_r, w75 (d + 1) _ _ h hq.1 hq.2, bV_r]
    have : (if fil f (kc + 1) (nI 0) q = nI 0 then upd (fil f (kc + 1) (nI 0)) q (nI 1) else fil f (kc + 1) (nI 0)) = f0 := hf0
    rw [this, e1, e2, e3, q70_13 _ _ _ _ _ _ hv3, if_pos (by decide), e4]
  · rw [hg r hr, ← Dn_Op]
    have val : ∀ (f : Nat → Int32) j n, SR kc (fun k => lev k - lev q) (Dn kc σ lo (la + 1) q) f → 1 ≤ j → j ≤ kc → lev j = lev q + n → ¬ f j = nI 0 → f j = nI (n + 1) := fun f j n hs a b el e => by
      have := ((hs j a b).resolve_left e).1
      rw [this]
      show nI (lev j - lev q + 1) = _
      rw [show lev j - lev q + 1 = n + 1 by omega]
    have mono : ∀ {f f' : Nat → Int32}, Mn f f' → ∀ j, ¬ f j = nI 0 → ¬ f' j = nI 0 := fun hm j e => by rw [hm j e]; exact e
    have q0 : ∀ j, Cl (fun j => j = q) (EdD kc σ lo (la + 1)) 0 j → ¬ f0 j = nI 0 := fun j e => by
      have e : j = q := e
      rw [e]; exact p1
    have q1 : ∀ j, Cl (fun j => j = q) (EdD kc σ lo (la + 1)) 1 j → ¬ f1 j = nI 0 := by
      rintro j ⟨i, e, hi⟩
      have hl := Dn_lev h (by omega) hq 0 i hi
      exact p2 i j e (val f0 i 0 s1 hl.1 hl.2.1 hl.2.2 (q0 i hi))
    have q2 : ∀ j, Cl (fun j => j = q) (EdD kc σ lo (la + 1)) 2 j → ¬ f2 j = nI 0 := by
      rintro j ⟨i, e, hi⟩
      have hl := Dn_lev h (by omega) hq 1 i hi
      exact p3 i j e (val f1 i 1 s2 hl.1 hl.2.1 hl.2.2 (q1 i hi))
    have q3 : ∀ j, Cl (fun j => j = q) (EdD kc σ lo (la + 1)) 3 j → ¬ f3 j = nI 0 := by
      rintro j ⟨i, e, hi⟩
      have hl := Dn_lev h (by omega) hq 2 i hi
      exact p4 i j e (val f2 i 2 s3 hl.1 hl.2.1 hl.2.2 (q2 i hi))
    constructor
    · rintro (b | ⟨k, b1, b2⟩)
      · rw [fil_i (by omega)] at b; exact absurd rfl b
      · obtain ⟨m, i, _, _, _, _, _, _, _, j8, j9⟩ := id b1
        exact ⟨k, ((s4 k j8 j9).resolve_left b2).2, b1⟩
    · rintro ⟨k, ⟨n, hn⟩, b1⟩
      refine Or.inr ⟨k, b1, ?_⟩
      have hl := Dn_lev h (by omega) hq n k hn
      have hk3 := hl3 k
      have hn4 : n = 0 ∨ n = 1 ∨ n = 2 ∨ n = 3 := by omega
      rcases hn4 with rfl | rfl | rfl | rfl
      · exact mono m4 k (mono m3 k (mono m2 k (q0 k hn)))
      · exact mono m4 k (mono m3 k (q1 k hn))
      · exact mono m4 k (q2 k hn)
      · exact q3 k hn
/-- no key: no records -/
theorem x70o (h : Inv0 c kc md rc td lev rk σ) {x : Int32} (hx : ¬ mdR x kc) {lo la : Nat} (hll : lo ≤ la) (hla : la < md) (f : Nat → Int32) : ∃ f' g', am_ex (d + 4) 70 [.ref 5, .int x, .int (nI lo), .int (nI la)] (S2 σ f g) = rV (S2 σ f' g') ∧ ∀ r, r < rc → g' r = nI 0 := by
  have hrb := h.core.rcb
  have s1 : SR kc (fun _ => 0) (fun _ => False) (fil f (kc + 1) (nI 0)) := fun k h1 h2 => Or.inl (if_pos (by omega))
  have hg3 : ∀ k : Nat, (fun _ => 0 : Nat → Nat) k ≤ 3 := fun k => Nat.zero_le 3
  obtain ⟨f1, v1, e1, hv1, s2, m2, p2⟩ := x70s d (fil g 200 (nI 0)) h hll hla (s := 1) (by omega) hg3 s1 (fun _ _ _ z => z.elim) x (u5 := .null) rfl
  obtain ⟨f2, v2, e2, hv2, s3, m3, p3⟩ := x70s d (fil g 200 (nI 0)) h hll hla (s := 2) (by omega) hg3 s2 (fun _ _ _ z => z.elim) x hv1
  obtain ⟨f3, v3, e3, hv3, s4, m4, p4⟩ := x70s d (fil g 200 (nI 0)) h hll hla (s := 3) (by omega) hg3 s3 (fun _ _ _ z => z.elim) x hv2
  obtain ⟨g', e4, hg⟩ := x70f d (fil g 200 (nI 0)) h hll hla hg3 s4 x hv3
  refine ⟨f3, g', ?_, fun r hr => ?_⟩
  · rw [e70, q70_0, x64 (d + 1) f g h, bV_r, w75o (d + 1) _ _ h hx, bV_r, e1, e2, e3, q70_13 _ _ _ _ _ _ hv3, if_pos (by decide), e4]
  · refine Decidable.of_not_not (fun z => ?_)
    rcases (hg r hr).mp z with b | ⟨k, b1, b2⟩
    · rw [fil_i (by omega)] at b; exact b rfl
    · obtain ⟨m, i, _, _, _, _, _, _, _, j8, j9⟩ := b1
      exact ((s4 k j8 j9).resolve_left b2).2
/-- how many wanted records are in the tree, or not -/
theorem x71 (h : Inv0 c kc md rc td lev rk σ) (f : Nat → Int32) (b : Bool) : am_ex (d + 3) 71 [.ref 5, .int (bz (b = true))] (S2 σ f g) = rI (nI (cnt (fun r => ¬ g r = nI 0 ∧ ((¬ σ.1 15 r = -1) ↔ b = true)) 0 rc)) (S2 σ f g) := by
  have hrb := h.core.rcb
  rw [e71, q71_0]
  generalize hv : bz (b = true) = v
  have := lp_cnt0 (fun r => ¬ g r = nI 0 ∧ ((¬ σ.1 15 r = -1) ↔ b = true)) 0 rc (by omega) (fun i n => am_go am_X0 (am_ex (d + 2)) M71 4 [.ref 5, .int v, .int (nI n), .int (nI i)] [] (S2 σ f g)) (fun n => rI (nI n) (S2 σ f g)) ?_ ?_
  · exact this
  · intro n
    show am_go am_X0 (am_ex (d + 2)) M71 4 [.ref 5, .int v, .int (nI n), .int (nI rc)] [] (S2 σ f g) = _
    rw [q71_4, x58, bI_r, S2_o _ _ _ (by decide) (by decide), h.hr, if_pos (by rw [i_le]; exact Int.le_refl _)]
  · intro i n _ hi
    show am_go am_X0 (am_ex (d + 2)) M71 4 [.ref 5, .int v, .int (nI n), .int (nI i)] [] (S2 σ f g) = am_go am_X0 (am_ex (d + 2)) M71 4 [.ref 5, .int v, .int (nI (if ¬ g i = nI 0 ∧ ((¬ σ.1 15 i = -1) ↔ b = true) then n + 1 else n)), .int (nI (i + 1))] [] (S2 σ f g)
    have e1 : nI i + nI 1 = nI (i + 1) := nI_1 i
    have e2 : nI n + nI 1 = nI (n + 1) := nI_1 n
    rw [q71_4, x58, bI_r, S2_o _ _ _ (by decide) (by decide), h.hr, if_neg (by rw [i_le, i_n (by omega), i_n (by omega)]; omega), w66 d f g h hi, bI_r, e1]
    by_cases hg : g i = nI 0
    · rw [bz_f (fun z => z hg), if_pos rfl, if_neg (fun z => z.1 hg)]
    · rw [bz_t hg, if_neg n10, x62 d _ (by rw [S2_o _ _ _ (by decide) (by decide)]; exact h.hr) hrb, bI_r, rd_n hi (by omega), S2_o _ _ _ (by decide) (by decide), q71_40, q71_40, e1, e2]
      cases b with
      | true =>
        have hv1 : v = nI 1 := by rw [← hv]; rfl
        by_cases hl : σ.1 15 i = -1
        · rw [if_pos hl, if_neg (by rw [hv1]; decide), if_neg (fun z => z.2.mpr rfl hl)]
        · rw [if_neg hl, if_pos (by rw [hv1]), if_pos ⟨hg, ⟨fun _ => rfl, fun _ => hl⟩⟩]
      | false =>
        have hv1 : v = nI 0 := by rw [← hv]; rfl
        by_cases hl : σ.1 15 i = -1
        · rw [if_pos hl, if_pos (by rw [hv1]), if_pos ⟨hg, ⟨fun z => absurd hl z, fun z => by cases z⟩⟩]
        · rw [if_neg hl, if_neg (by rw [hv1]; decide), if_neg (fun z => by have := z.2.mp hl; cases this)]
/-- how many keys were reached -/
theorem x72 (h : Inv0 c kc md rc td lev rk σ) {W : Nat → Prop} {f : Nat → Int32} (hF : Fnd kc rc lev σ md W f) : am_ex (d + 3) 72 [.ref 5] (S2 σ f g) = rI (nI (cntC (Op kc rc σ 0 md W) 1 kc)) (S2 σ f g) := by
  have hkl := h.kl
  have hl3 := h.core.lvb
  rw [e72, q72_0]
  have hp : ∀ k, 1 ≤ k → k ≤ kc → (f k ≤ nI 0 ↔ f k = nI 0) := fun k h1 h2 => by
    have hl := hl3 k
    rcases hF k h1 h2 with ⟨a, _⟩ | ⟨a, _⟩
    · rw [a]; exact ⟨fun _ => rfl, fun _ => le00⟩
    · rw [a, i_le, i_n (by omega), i_n (by omega)]
      exact ⟨fun z => by omega, fun z => by have := nI_inj (by omega) (by omega) z; omega⟩
  have := lp_cnt0 (fun k => ¬ f k = nI 0) 1 (kc + 1) (by omega) (fun i n => am_go am_X0 (am_ex (d + 2)) M72 4 [.ref 5, .int (nI n), .int (nI i)] [] (S2 σ f g)) (fun n => rI (nI n) (S2 σ f g)) ?_ ?_
  · refine Eq.trans this ?_
    rw [Nat.add_sub_cancel, cnt_C _ 1 kc (fun k h1 h2 => ?_)]
    rcases hF k h1 (by omega) with ⟨a, b⟩ | ⟨a, b⟩
    · exact ⟨fun z => absurd a z, fun z => absurd z b⟩
    · have hl := hl3 k
      exact ⟨fun _ => b, fun _ => by rw [a]; exact fun z => by have := nI_inj (by omega) (by omega) z; omega⟩
  · intro n
    show am_go am_X0 (am_ex (d + 2)) M72 4 [.ref 5, .int (nI n), .int (nI (kc + 1))] [] (S2 σ f g) = _
    rw [q72_4, x26, bI_r, S2_o _ _ _ (by decide) (by decide), h.hk, if_pos (by rw [i_lt, i_n (by omega), i_n (by omega)]; omega)]
  · intro i n hi1 hi
    show am_go am_X0 (am_ex (d + 2)) M72 4 [.ref 5, .int (nI n), .int (nI i)] [] (S2 σ f g) = am_go am_X0 (am_ex (d + 2)) M72 4 [.ref 5, .int (nI (if ¬ f i = nI 0 then n + 1 else n)), .int (nI (i + 1))] [] (S2 σ f g)
    rw [q72_4, x26, bI_r, S2_o _ _ _ (by decide) (by decide), h.hk, if_neg (by rw [i_lt, i_n (by omega), i_n (by omega)]; omega), w67 d f g h hi1 (by omega), bI_r, show nI i + nI 1 = nI (i + 1) from nI_1 i, show nI n + nI 1 = nI (n + 1) from nI_1 n]
    by_cases e : f i = nI 0
    · rw [if_pos ((hp i hi1 (by omega)).mpr e), if_neg (fun z => z e)]
    · rw [if_neg (fun z => e ((hp i hi1 (by omega)).mp z)), if_pos e]
/-- a key that opens a record is asked for -/
theorem x149 (h : Inv0 c kc md rc td lev rk σ) {q r : Nat} (hq : 1 ≤ q ∧ q ≤ kc) (hr : r < rc) (f : Nat → Int32) : ∃ f' g', (Op kc rc σ 0 md (fun s => s = r) q → am_ex (d + 6) 149 [.ref 0, .int (nI q), .int (nI r)] (S2 σ f g) = rI (nI (4 - lev q)) (S2 σ f' g')) ∧ (¬ Op kc rc σ 0 md (fun s => s = r) q → am_ex (d + 6) 149 [.ref 0, .int (nI q), .int (nI r)] (S2 σ f g) = rX xNS (am_tick (S2 σ f' g'))) := by
  have hl := h.core.lvb q
  obtain ⟨f', g', e1, hf⟩ := x68 d g h hr f
  refine ⟨f', g', fun ho => ?_, fun ho => ?_⟩
  · rcases hf q hq.1 hq.2 with ⟨_, a⟩ | ⟨a, _⟩
    · exact absurd ho a
    · rw [e149, q149_0, e1, bV_r, w67 (d + 3) f' g' h hq.1 hq.2, bI_r, a, if_neg (fun z => by have := nI_inj (by omega) (by omega) z; omega)]
  · rcases hf q hq.1 hq.2 with ⟨a, _⟩ | ⟨_, a⟩
    · rw [e149, q149_0, e1, bV_r, w67 (d + 3) f' g' h hq.1 hq.2, bI_r, a, if_pos rfl]
    · exact absurd a ho
theorem x149o (h : Inv0 c kc md rc td lev rk σ) {x : Int32} (hx : ¬ mdR x kc) {r : Nat} (hr : r < rc) (f : Nat → Int32) : ∃ f' g', am_ex (d + 6) 149 [.ref 0, .int x, .int (nI r)] (S2 σ f g) = rX xNS (am_tick (S2 σ f' g')) := by
  obtain ⟨f', g', e1, hf⟩ := x68 d g h hr f
  exact ⟨f', g', by rw [e149, q149_0, e1, bV_r, w67o (d + 3) f' g' h hx, bI_r, if_pos rfl]⟩
end SRE
