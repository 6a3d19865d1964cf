/-! the reference's closures -/
section GRW
variable (d : Nat) {c kc md rc td : Nat} {lev rk : Nat → Nat} {σ : am_M} {f : Nat → Int32} {n : Nat} {O : Nat → Prop}
/-- all of the set is to be there -/
abbrev SO (kc : Nat) (O : Nat → Prop) (f : Nat → Int32) (n : Nat) : Prop := ∀ j, 1 ≤ j → j ≤ kc → mS f n j → O j
/-- one pass upwards over one medium -/
theorem y198ui (h : Inv0 c kc md rc td lev rk σ) {m : Nat} (hm : m < md) (hS : ST kc f n) (hO : SO kc O f n) (hE : ∀ x y, EdU kc σ 0 md x y → O x → O y) (w : Int32) : ∃ f' n', am_go am_X0 (am_ex (d + 2)) M198 32 [.ref 34, .int (nI 1), .int w, .int (nI m), .int (nI (m * 150))] [] (R2 σ f n) = am_go am_X0 (am_ex (d + 2)) M198 17 [.ref 34, .int (nI 1), .int w, .int (nI (m + 1)), .int (nI (m * 150 + zn (σ.1 21) m))] [] (R2 σ f' n') ∧ ST kc f' n' ∧ SO kc O f' n' ∧ Gw kc f n f' n' ∧ ∀ x y, EdU kc σ m (m + 1) x y → mS f n x → mS f' n' y := by
  have hkl := h.kl
  have hmb := h.core.mdb
  obtain ⟨hz1, hz2, _⟩ := h.core.med m hm
  obtain ⟨⟨f', n'⟩, e1, s1, o1, g1, i1⟩ := lp_inv (fun i (p : (Nat → Int32) × Nat) => ST kc p.1 p.2 ∧ SO kc O p.1 p.2 ∧ Gw kc f n p.1 p.2 ∧ ∀ i', i' < i → ∀ x y, σ.1 22 (m * 150 + i') = nI 0 → σ.1 23 (m * 150 + i') = nI x → σ.1 24 (m * 150 + i') = nI y → 1 ≤ x → x ≤ kc → 1 ≤ y → y ≤ kc → mS f n x → mS p.1 p.2 y) 0 (zn (σ.1 21) m) (by omega) (fun i p => am_go am_X0 (am_ex (d + 2)) M198 32 [.ref 34, .int (nI 1), .int w, .int (nI m), .int (nI (m * 150 + i))] [] (R2 σ p.1 p.2)) (by
    rintro i ⟨f1, n1⟩ _ hi ⟨s1, o1, g1, i1⟩
    have s1 : ST kc f1 n1 := s1
    have o1 : SO kc O f1 n1 := o1
    have g1 : Gw kc f n f1 n1 := g1
    have ha : m * 150 + i < 1200 := by omega
    have hle := s1.le
    have hk : am_go am_X0 (am_ex (d + 2)) M198 32 [.ref 34, .int (nI 1), .int w, .int (nI m), .int (nI (m * 150 + i))] [] (R2 σ f1 n1) = if σ.1 22 (m * 150 + i) = nI 0 then am_go am_X0 (am_ex (d + 2)) M198 91 [.ref 34, .int (nI 1), .int w, .int (nI m), .int (nI (m * 150 + i))] [.int (σ.1 23 (m * 150 + i)), .ref 34] (R2 σ f1 n1) else am_go am_X0 (am_ex (d + 2)) M198 32 [.ref 34, .int (nI 1), .int w, .int (nI m), .int (nI (m * 150 + (i + 1)))] [] (R2 σ f1 n1) := by
      rw [q198_32, if_pos (am_k (by omega) (by omega)), i_cl (by omega), R2_o _ _ _ (by decide) (by decide), if_neg (h.st0 hm (by omega)), if_pos (am_k (by omega) (by omega)), R2_o _ _ _ (by decide) (by decide), h.s45 hm, mx150, nI_add, if_neg (by rw [i_le, i_n (by omega), i_n (by omega)]; omega), if_pos (am_k (by omega) (by omega)), i_cl (by omega), R2_o _ _ _ (show (46 : Nat) ≠ 55 by decide) (by decide), h.e46, if_neg n10, if_pos (am_k (by omega) (by omega)), R2_o _ _ _ (show (47 : Nat) ≠ 55 by decide) (by decide), h.e47, show nI (m * 150 + i) + nI 1 = nI (m * 150 + (i + 1)) from nI_1 _]
    have h91 : ∀ x, am_go am_X0 (am_ex (d + 2)) M198 91 [.ref 34, .int (nI 1), .int w, .int (nI m), .int (nI (m * 150 + i))] [.int (nI x), .ref 34] (R2 σ f1 n1) = if mS f1 n1 x then am_bV (am_ex (d + 2) 196 [.ref 34, .int (σ.1 24 (m * 150 + i))] (R2 σ f1 n1)) (fun t => am_go am_X0 (am_ex (d + 2)) M198 32 [.ref 34, .int (nI 1), .int w, .int (nI m), .int (nI (m * 150 + (i + 1)))] [] t) else am_go am_X0 (am_ex (d + 2)) M198 32 [.ref 34, .int (nI 1), .int w, .int (nI m), .int (nI (m * 150 + (i + 1)))] [] (R2 σ f1 n1) := by
      intro x
      rw [q198_91, y195 (d + 1) (by omega), bI_r, show nI (m * 150 + i) + nI 1 = nI (m * 150 + (i + 1)) from nI_1 _]
      by_cases e : mS f1 n1 x
      · rw [bz_t e, if_neg n10, if_pos e, if_neg n10, if_pos (am_k (by omega) (by omega)), i_cl (by omega), R2_o _ _ _ (show (48 : Nat) ≠ 55 by decide) (by decide), h.e48, q198_119, show nI (m * 150 + i) + nI 1 = nI (m * 150 + (i + 1)) from nI_1 _]
      · rw [bz_f e, if_pos rfl, if_neg e]
    have fin : ∀ f2 n2, ST kc f2 n2 → SO kc O f2 n2 → Gw kc f1 n1 f2 n2 → (∀ x y, σ.1 22 (m * 150 + i) = nI 0 → σ.1 23 (m * 150 + i) = nI x → σ.1 24 (m * 150 + i) = nI y → 1 ≤ x → x ≤ kc → 1 ≤ y → y ≤ kc → mS f n x → mS f2 n2 y) → am_go am_X0 (am_ex (d + 2)) M198 32 [.ref 34, .int (nI 1), .int w, .int (nI m), .int (nI (m * 150 + i))] [] (R2 σ f1 n1) = am_go am_X0 (am_ex (d + 2)) M198 32 [.ref 34, .int (nI 1), .int w, .int (nI m), .int (nI (m * 150 + (i + 1)))] [] (R2 σ f2 n2) → ∃ p : (Nat → Int32) × Nat, am_go am_X0 (am_ex (d + 2)) M198 32 [.ref 34, .int (nI 1), .int w, .int (nI m), .int (nI (m * 150 + i))] [] (R2 σ f1 n1) = am_go am_X0 (am_ex (d + 2)) M198 32 [.ref 34, .int (nI 1), .int w, .int (nI m), .int (nI (m * 150 + (i + 1)))] [] (R2 σ p.1 p.2) ∧ ST kc p.1 p.2 ∧ SO kc O p.1 p.2 ∧ Gw kc f n p.1 p.2 ∧ ∀ i', i' < i + 1 → ∀ x y, σ.1 22 (m * 150 + i') = nI 0 → σ.1 23 (m * 150 + i') = nI x → σ.1 24 (m * 150 + i') = nI y → 1 ≤ x → x ≤ kc → 1 ≤ y → y ≤ kc → mS f n x → mS p.1 p.2 y := by
      intro f2 n2 a1 a2 a3 a4 a5
      refine ⟨(f2, n2), a5, a1, a2, g1.trans a3, fun i' hi' x y b1 b2 b3 b4 b5 b6 b7 b8 => ?_⟩
      by_cases e : i' = i
      · subst e; exact a4 x y b1 b2 b3 b4 b5 b6 b7 b8
      · exact a3.2.2 y b6 b7 (i1 i' (by omega) x y b1 b2 b3 b4 b5 b6 b7 b8)
    show ∃ p : (Nat → Int32) × Nat, am_go am_X0 (am_ex (d + 2)) M198 32 [.ref 34, .int (nI 1), .int w, .int (nI m), .int (nI (m * 150 + i))] [] (R2 σ f1 n1) = am_go am_X0 (am_ex (d + 2)) M198 32 [.ref 34, .int (nI 1), .int w, .int (nI m), .int (nI (m * 150 + (i + 1)))] [] (R2 σ p.1 p.2) ∧ _
    rcases h.core.ent m hm i hi with ⟨a1, x', y', a2, a3, a4, a5, a6, a7, a8⟩ | ⟨a1, _⟩
    · obtain ⟨x, y, b2, b3, b4, b5, b6, b7⟩ : ∃ x y, 1 ≤ x ∧ x ≤ kc ∧ 1 ≤ y ∧ y ≤ kc ∧ σ.1 23 (m * 150 + i) = nI x ∧ σ.1 24 (m * 150 + i) = nI y := ⟨x', y', a2, a3, a4, a5, a6, a7⟩
      have hed : EdU kc σ 0 md x y := ⟨m, i, by omega, hm, hi, a1, b6, b7, b2, b3, b4, b5⟩
      by_cases e : mS f1 n1 x
      · obtain ⟨f2, n2, c1, c2, c3, c4⟩ := y196 d (σ := σ) hkl s1 b4 b5
        refine fin f2 n2 c2 (fun j k1 k2 z => ?_) c3 (fun x2 y2 _ _ d3 _ _ d6 d7 _ => ?_) ?_
        · rcases (c4 j k1 k2).mp z with z | z
          · exact o1 j k1 k2 z
          · rw [z]; exact hE x y hed (o1 x b2 b3 e)
        · rw [b7] at d3
          have := nI_inj (by omega) (by omega) d3
          exact (c4 y2 d6 d7).mpr (Or.inr this.symm)
        · rw [hk, if_pos a1, b6, h91 x, if_pos e, b7, c1, bV_r]
      · refine fin f1 n1 s1 o1 (Gw.refl f1 n1) (fun x2 y2 _ d2 _ d4 d5 _ _ d8 => ?_) ?_
        · rw [b6] at d2
          have hx := nI_inj (by omega) (by omega) d2
          exact absurd (g1.2.2 x b2 b3 (by rw [hx]; exact d8)) e
        · rw [hk, if_pos a1, b6, h91 x, if_neg e]
    · refine fin f1 n1 s1 o1 (Gw.refl f1 n1) (fun x2 y2 d1 _ _ _ _ _ _ _ => ?_) ?_
      · rw [a1] at d1; exact absurd d1 n10
      · rw [hk, if_neg (by rw [a1]; exact n10)]) (f, n) ⟨hS, hO, Gw.refl f n, fun i' hi' => by omega⟩
  have e1 : am_go am_X0 (am_ex (d + 2)) M198 32 [.ref 34, .int (nI 1), .int w, .int (nI m), .int (nI (m * 150))] [] (R2 σ f n) = am_go am_X0 (am_ex (d + 2)) M198 32 [.ref 34, .int (nI 1), .int w, .int (nI m), .int (nI (m * 150 + zn (σ.1 21) m))] [] (R2 σ f' n') := e1
  refine ⟨f', n', ?_, s1, o1, g1, ?_⟩
  · rw [e1, q198_32, if_pos (am_k (by omega) (by omega)), i_cl (by omega), if_pos (am_k (by omega) (by omega)), R2_o _ _ _ (show (45 : Nat) ≠ 55 by decide) (by decide), h.s45 hm, mx150, nI_add (m * 150) (zn (σ.1 21) m), if_pos (show nI (m * 150 + zn (σ.1 21) m) ≤ nI (m * 150 + zn (σ.1 21) m) by rw [i_le]; exact Int.le_refl _), show nI m + nI 1 = nI (m + 1) from nI_1 _, ite_self]
  · rintro x y ⟨m', i', j1, j2, j3, j4, j5, j6, j7, j8, j9, j10⟩ hx
    have hmm : m' = m := by omega
    subst hmm
    exact i1 i' j3 x y j4 j5 j6 j7 j8 j9 j10 hx
/-- one pass upwards -/
theorem y198up (h : Inv0 c kc md rc td lev rk σ) (hS : ST kc f n) (hO : SO kc O f n) (hE : ∀ x y, EdU kc σ 0 md x y → O x → O y) (w : Int32) {u4 : Value} (hu4 : (!(u4.category == 2)) = true) : ∃ f' n' u3 u4', am_go am_X0 (am_ex (d + 2)) M198 17 [.ref 34, .int (nI 1), .int w, .int (nI 0), u4] [] (R2 σ f n) = am_go am_X0 (am_ex (d + 2)) M198 2 [.ref 34, .int (nI 1), .int w, u3, u4'] [] (R2 σ f' n') ∧ (!(u3.category == 2)) = true ∧ (!(u4'.category == 2)) = true ∧ ST kc f' n' ∧ SO kc O f' n' ∧ Gw kc f n f' n' ∧ ∀ x y, EdU kc σ 0 md x y → mS f n x → mS f' n' y := by
  have hmb := h.core.mdb
  obtain ⟨⟨f', n', u⟩, e1, hu, s1, o1, g1, i1⟩ := lp_inv (fun m (p : (Nat → Int32) × Nat × Value) => (!(p.2.2.category == 2)) = true ∧ ST kc p.1 p.2.1 ∧ SO kc O p.1 p.2.1 ∧ Gw kc f n p.1 p.2.1 ∧ ∀ x y, EdU kc σ 0 m x y → mS f n x → mS p.1 p.2.1 y) 0 md (by omega) (fun m p => am_go am_X0 (am_ex (d + 2)) M198 17 [.ref 34, .int (nI 1), .int w, .int (nI m), p.2.2] [] (R2 σ p.1 p.2.1)) (by
    rintro m ⟨f1, n1, u⟩ _ hm ⟨hu, s1, o1, g1, i1⟩
    have g1 : Gw kc f n f1 n1 := g1
    obtain ⟨f2, n2, k1, k2, k3, k4, k5⟩ := y198ui d (f := f1) (n := n1) h hm s1 o1 hE w
    refine ⟨(f2, n2, .int (nI (m * 150 + zn (σ.1 21) m))), ?_, rfl, k2, k3, g1.trans k4, fun x y e hx => ?_⟩
    · show am_go am_X0 (am_ex (d + 2)) M198 17 [.ref 34, .int (nI 1), .int w, .int (nI m), u] [] (R2 σ f1 n1) = am_go am_X0 (am_ex (d + 2)) M198 17 [.ref 34, .int (nI 1), .int w, .int (nI (m + 1)), .int (nI (m * 150 + zn (σ.1 21) m))] [] (R2 σ f2 n2)
      rw [q198_17 _ _ _ _ _ hu, R2_f _ _ _ (by decide), h.hm', if_neg (by rw [i_le, i_n (by omega), i_n (by omega)]; omega), mx150, k1]
    · have hxy : 1 ≤ x ∧ x ≤ kc ∧ 1 ≤ y ∧ y ≤ kc := by
        obtain ⟨m', i', j1, j2, j3, j4, j5, j6, j7, j8, j9, j10⟩ := e
        exact ⟨j7, j8, j9, j10⟩
      rcases EdU_s e with e | e
      · exact k4.2.2 y hxy.2.2.1 hxy.2.2.2 (i1 x y e hx)
      · exact k5 x y e (g1.2.2 x hxy.1 hxy.2.1 hx)) (f, n, u4) ⟨hu4, hS, hO, Gw.refl f n, fun x y e => absurd e EdU_0⟩
  have e1 : am_go am_X0 (am_ex (d + 2)) M198 17 [.ref 34, .int (nI 1), .int w, .int (nI 0), u4] [] (R2 σ f n) = am_go am_X0 (am_ex (d + 2)) M198 17 [.ref 34, .int (nI 1), .int w, .int (nI md), u] [] (R2 σ f' n') := e1
  refine ⟨f', n', .int (nI md), u, ?_, rfl, hu, s1, o1, g1, i1⟩
  rw [e1, q198_17 _ _ _ _ _ hu, R2_f _ _ _ (by decide), h.hm', if_pos (by rw [i_le]; exact Int.le_refl _)]
/-- the closure upwards -/
theorem y198u (h : Inv0 c kc md rc td lev rk σ) (hS : ST kc f n) (hO : SO kc O f n) (hE : ∀ x y, EdU kc σ 0 md x y → O x → O y) : ∃ f' n', am_ex (d + 3) 198 [.ref 34, .int (nI 1)] (R2 σ f n) = rV (R2 σ f' n') ∧ ST kc f' n' ∧ SO kc O f' n' ∧ Gw kc f n f' n' ∧ ∀ x y, EdU kc σ 0 md x y → mS f' n' x → mS f' n' y := by
  have hkl := h.kl
  have key : ∀ fu (f : Nat → Int32) n (w : Int32) (u3 u4 : Value), kc - n ≤ fu → ST kc f n → SO kc O f n → ¬ w = nI n → (!(u3.category == 2)) = true → (!(u4.category == 2)) = true → ∃ f' n', am_go am_X0 (am_ex (d + 2)) M198 2 [.ref 34, .int (nI 1), .int w, u3, u4] [] (R2 σ f n) = rV (R2 σ f' n') ∧ ST kc f' n' ∧ SO kc O f' n' ∧ Gw kc f n f' n' ∧ ∀ x y, EdU kc σ 0 md x y → mS f' n' x → mS f' n' y := by
    intro fu
    induction fu with
    | zero =>
      intro f n w u3 u4 hf hS hO hw hu3 hu4
      obtain ⟨f1, n1, v3, v4, e1, hv3, hv4, s1, o1, g1, i1⟩ := y198up d h hS hO hE (nI n) hu4
      have hle := s1.le
      have h1 := g1.1
      have en : n1 = n := by omega
      have ef := g1.2.1 en
      subst en ef
      refine ⟨f1, n1, ?_, s1, o1, g1, i1⟩
      rw [q198_2 _ _ _ _ hu3 hu4, R2_n, if_neg hw, e1, q198_2 _ _ _ _ hv3 hv4, R2_n, if_pos rfl]
    | succ fu ih =>
      intro f n w u3 u4 hf hS hO hw hu3 hu4
      obtain ⟨f1, n1, v3, v4, e1, hv3, hv4, s1, o1, g1, i1⟩ := y198up d h hS hO hE (nI n) hu4
      have hle := s1.le
      have h1 := g1.1
      by_cases en : n1 = n
      · have ef := g1.2.1 en
        subst en ef
        refine ⟨f1, n1, ?_, s1, o1, g1, i1⟩
        rw [q198_2 _ _ _ _ hu3 hu4, R2_n, if_neg hw, e1, q198_2 _ _ _ _ hv3 hv4, R2_n, if_pos rfl]
      · obtain ⟨f2, n2, k1, k2, k3, k4, k5⟩ := ih f1 n1 (nI n) v3 v4 (by omega) s1 o1 (fun z => en (nI_inj (by omega) (by omega) z).symm) hv3 hv4
        refine ⟨f2, n2, ?_, k2, k3, g1.trans k4, k5⟩
        rw [q198_2 _ _ _ _ hu3 hu4, R2_n, if_neg hw, e1, k1]
  have hle := hS.le
  obtain ⟨f', n', e1, k⟩ := key (kc - n) f n (-1) .null .null (Nat.le_refl _) hS hO (fun z => nI_nm (by omega) z.symm) rfl rfl
  exact ⟨f', n', by rw [e198, q198_0, e1], k⟩
/-- one pass downwards over one medium -/
theorem y198di (h : Inv0 c kc md rc td lev rk σ) {m : Nat} (hm : m < md) (hS : ST kc f n) (hO : SO kc O f n) (hE : ∀ x y, EdD kc σ 0 md x y → O x → O y) (w : Int32) : ∃ f' n', am_go am_X0 (am_ex (d + 2)) M198 32 [.ref 34, .int (nI 0), .int w, .int (nI m), .int (nI (m * 150))] [] (R2 σ f n) = am_go am_X0 (am_ex (d + 2)) M198 17 [.ref 34, .int (nI 0), .int w, .int (nI (m + 1)), .int (nI (m * 150 + zn (σ.1 21) m))] [] (R2 σ f' n') ∧ ST kc f' n' ∧ SO kc O f' n' ∧ Gw kc f n f' n' ∧ ∀ x y, EdD kc σ m (m + 1) x y → mS f n x → mS f' n' y := by
  have hkl := h.kl
  have hmb := h.core.mdb
  obtain ⟨hz1, hz2, _⟩ := h.core.med m hm
  obtain ⟨⟨f', n'⟩, e1, s1, o1, g1, i1⟩ := lp_inv (fun i (p : (Nat → Int32) × Nat) => ST kc p.1 p.2 ∧ SO kc O p.1 p.2 ∧ Gw kc f n p.1 p.2 ∧ ∀ i', i' < i → ∀ x y, σ.1 22 (m * 150 + i') = nI 0 → σ.1 24 (m * 150 + i') = nI x → σ.1 23 (m * 150 + i') = nI y → 1 ≤ x → x ≤ kc → 1 ≤ y → y ≤ kc → mS f n x → mS p.1 p.2 y) 0 (zn (σ.1 21) m) (by omega) (fun i p => am_go am_X0 (am_ex (d + 2)) M198 32 [.ref 34, .int (nI 0), .int w, .int (nI m), .int (nI (m * 150 + i))] [] (R2 σ p.1 p.2)) (by
    rintro i ⟨f1, n1⟩ _ hi ⟨s1, o1, g1, i1⟩
    have s1 : ST kc f1 n1 := s1
    have o1 : SO kc O f1 n1 := o1
    have g1 : Gw kc f n f1 n1 := g1
    have ha : m * 150 + i < 1200 := by omega
    have hle := s1.le
    have hk : am_go am_X0 (am_ex (d + 2)) M198 32 [.ref 34, .int (nI 0), .int w, .int (nI m), .int (nI (m * 150 + i))] [] (R2 σ f1 n1) = if σ.1 22 (m * 150 + i) = nI 0 then am_go am_X0 (am_ex (d + 2)) M198 91 [.ref 34, .int (nI 0), .int w, .int (nI m), .int (nI (m * 150 + i))] [.int (σ.1 24 (m * 150 + i)), .ref 34] (R2 σ f1 n1) else am_go am_X0 (am_ex (d + 2)) M198 32 [.ref 34, .int (nI 0), .int w, .int (nI m), .int (nI (m * 150 + (i + 1)))] [] (R2 σ f1 n1) := by
      rw [q198_32, if_pos (am_k (by omega) (by omega)), i_cl (by omega), R2_o _ _ _ (by decide) (by decide), if_neg (h.st0 hm (by omega)), if_pos (am_k (by omega) (by omega)), R2_o _ _ _ (by decide) (by decide), h.s45 hm, mx150, nI_add, if_neg (by rw [i_le, i_n (by omega), i_n (by omega)]; omega), if_pos (am_k (by omega) (by omega)), i_cl (by omega), R2_o _ _ _ (show (46 : Nat) ≠ 55 by decide) (by decide), h.e46, if_pos (rfl : nI 0 = nI 0), if_pos (am_k (by omega) (by omega)), R2_o _ _ _ (show (48 : Nat) ≠ 55 by decide) (by decide), h.e48, show nI (m * 150 + i) + nI 1 = nI (m * 150 + (i + 1)) from nI_1 _]
    have h91 : ∀ x, am_go am_X0 (am_ex (d + 2)) M198 91 [.ref 34, .int (nI 0), .int w, .int (nI m), .int (nI (m * 150 + i))] [.int (nI x), .ref 34] (R2 σ f1 n1) = if mS f1 n1 x then am_bV (am_ex (d + 2) 196 [.ref 34, .int (σ.1 23 (m * 150 + i))] (R2 σ f1 n1)) (fun t => am_go am_X0 (am_ex (d + 2)) M198 32 [.ref 34, .int (nI 0), .int w, .int (nI m), .int (nI (m * 150 + (i + 1)))] [] t) else am_go am_X0 (am_ex (d + 2)) M198 32 [.ref 34, .int (nI 0), .int w, .int (nI m), .int (nI (m * 150 + (i + 1)))] [] (R2 σ f1 n1) := by
      intro x
      rw [q198_91, y195 (d + 1) (by omega), bI_r, show nI (m * 150 + i) + nI 1 = nI (m * 150 + (i + 1)) from nI_1 _]
      by_cases e : mS f1 n1 x
      · rw [bz_t e, if_neg n10, if_pos e, if_pos (rfl : nI 0 = nI 0), if_pos (am_k (by omega) (by omega)), i_cl (by omega), R2_o _ _ _ (show (47 : Nat) ≠ 55 by decide) (by decide), h.e47, q198_119, show nI (m * 150 + i) + nI 1 = nI (m * 150 + (i + 1)) from nI_1 _]
      · rw [bz_f e, if_pos rfl, if_neg e]
    have fin : ∀ f2 n2, ST kc f2 n2 → SO kc O f2 n2 → Gw kc f1 n1 f2 n2 → (∀ x y, σ.1 22 (m * 150 + i) = nI 0 → σ.1 24 (m * 150 + i) = nI x → σ.1 23 (m * 150 + i) = nI y → 1 ≤ x → x ≤ kc → 1 ≤ y → y ≤ kc → mS f n x → mS f2 n2 y) → am_go am_X0 (am_ex (d + 2)) M198 32 [.ref 34, .int (nI 0), .int w, .int (nI m), .int (nI (m * 150 + i))] [] (R2 σ f1 n1) = am_go am_X0 (am_ex (d + 2)) M198 32 [.ref 34, .int (nI 0), .int w, .int (nI m), .int (nI (m * 150 + (i + 1)))] [] (R2 σ f2 n2) → ∃ p : (Nat → Int32) × Nat, am_go am_X0 (am_ex (d + 2)) M198 32 [.ref 34, .int (nI 0), .int w, .int (nI m), .int (nI (m * 150 + i))] [] (R2 σ f1 n1) = am_go am_X0 (am_ex (d + 2)) M198 32 [.ref 34, .int (nI 0), .int w, .int (nI m), .int (nI (m * 150 + (i + 1)))] [] (R2 σ p.1 p.2) ∧ ST kc p.1 p.2 ∧ SO kc O p.1 p.2 ∧ Gw kc f n p.1 p.2 ∧ ∀ i', i' < i + 1 → ∀ x y, σ.1 22 (m * 150 + i') = nI 0 → σ.1 24 (m * 150 + i') = nI x → σ.1 23 (m * 150 + i') = nI y → 1 ≤ x → x ≤ kc → 1 ≤ y → y ≤ kc → mS f n x → mS p.1 p.2 y := by
      intro f2 n2 a1 a2 a3 a4 a5
      refine ⟨(f2, n2), a5, a1, a2, g1.trans a3, fun i' hi' x y b1 b2 b3 b4 b5 b6 b7 b8 => ?_⟩
      by_cases e : i' = i
      · subst e; exact a4 x y b1 b2 b3 b4 b5 b6 b7 b8
      · exact a3.2.2 y b6 b7 (i1 i' (by omega) x y b1 b2 b3 b4 b5 b6 b7 b8)
    show ∃ p : (Nat → Int32) × Nat, am_go am_X0 (am_ex (d + 2)) M198 32 [.ref 34, .int (nI 0), .int w, .int (nI m), .int (nI (m * 150 + i))] [] (R2 σ f1 n1) = am_go am_X0 (am_ex (d + 2)) M198 32 [.ref 34, .int (nI 0), .int w, .int (nI m), .int (nI (m * 150 + (i + 1)))] [] (R2 σ p.1 p.2) ∧ _
    rcases h.core.ent m hm i hi with ⟨a1, x', y', a2, a3, a4, a5, a6, a7, a8⟩ | ⟨a1, _⟩
    · obtain ⟨x, y, b2, b3, b4, b5, b6, b7⟩ : ∃ x y, 1 ≤ x ∧ x ≤ kc ∧ 1 ≤ y ∧ y ≤ kc ∧ σ.1 24 (m * 150 + i) = nI x ∧ σ.1 23 (m * 150 + i) = nI y := ⟨y', x', a4, a5, a2, a3, a7, a6⟩
      have hed : EdD kc σ 0 md x y := ⟨m, i, by omega, hm, hi, a1, b7, b6, b4, b5, b2, b3⟩
      by_cases e : mS f1 n1 x
      · obtain ⟨f2, n2, c1, c2, c3, c4⟩ := y196 d (σ := σ) hkl s1 b4 b5
        refine fin f2 n2 c2 (fun j k1 k2 z => ?_) c3 (fun x2 y2 _ _ d3 _ _ d6 d7 _ => ?_) ?_
        · rcases (c4 j k1 k2).mp z with z | z
          · exact o1 j k1 k2 z
          · rw [z]; exact hE x y hed (o1 x b2 b3 e)
        · rw [b7] at d3
          have := nI_inj (by omega) (by omega) d3
          exact (c4 y2 d6 d7).mpr (Or.inr this.symm)
        · rw [hk, if_pos a1, b6, h91 x, if_pos e, b7, c1, bV_r]
      · refine fin f1 n1 s1 o1 (Gw.refl f1 n1) (fun x2 y2 _ d2 _ d4 d5 _ _ d8 => ?_) ?_
        · rw [b6] at d2
          have hx := nI_inj (by omega) (by omega) d2
          exact absurd (g1.2.2 x b2 b3 (by rw [hx]; exact d8)) e
        · rw [hk, if_pos a1, b6, h91 x, if_neg e]
    · refine fin f1 n1 s1 o1 (Gw.refl f1 n1) (fun x2 y2 d1 _ _ _ _ _ _ _ => ?_) ?_
      · rw [a1] at d1; exact absurd d1 n10
      · rw [hk, if_neg (by rw [a1]; exact n10)]) (f, n) ⟨hS, hO, Gw.refl f n, fun i' hi' => by omega⟩
  have e1 : am_go am_X0 (am_ex (d + 2)) M198 32 [.ref 34, .int (nI 0), .int w, .int (nI m), .int (nI (m * 150))] [] (R2 σ f n) = am_go am_X0 (am_ex (d + 2)) M198 32 [.ref 34, .int (nI 0), .int w, .int (nI m), .int (nI (m * 150 + zn (σ.1 21) m))] [] (R2 σ f' n') := e1
  refine ⟨f', n', ?_, s1, o1, g1, ?_⟩
  · rw [e1, q198_32, if_pos (am_k (by omega) (by omega)), i_cl (by omega), if_pos (am_k (by omega) (by omega)), R2_o _ _ _ (show (45 : Nat) ≠ 55 by decide) (by decide), h.s45 hm, mx150, nI_add (m * 150) (zn (σ.1 21) m), if_pos (show nI (m * 150 + zn (σ.1 21) m) ≤ nI (m * 150 + zn (σ.1 21) m) by rw [i_le]; exact Int.le_refl _), show nI m + nI 1 = nI (m + 1) from nI_1 _, ite_self]
  · rintro x y ⟨m', i', j1, j2, j3, j4, j5, j6, j7, j8, j9, j10⟩ hx
    have hmm : m' = m := by omega
    subst hmm
    exact i1 i' j3 x y j4 j6 j5 j9 j10 j7 j8 hx
/-- one pass downwards -/
theorem y198dp (h : Inv0 c kc md rc td lev rk σ) (hS : ST kc f n) (hO : SO kc O f n) (hE : ∀ x y, EdD kc σ 0 md x y → O x → O y) (w : Int32) {u4 : Value} (hu4 : (!(u4.category == 2)) = true) : ∃ f' n' u3 u4', am_go am_X0 (am_ex (d + 2)) M198 17 [.ref 34, .int (nI 0), .int w, .int (nI 0), u4] [] (R2 σ f n) = am_go am_X0 (am_ex (d + 2)) M198 2 [.ref 34, .int (nI 0), .int w, u3, u4'] [] (R2 σ f' n') ∧ (!(u3.category == 2)) = true ∧ (!(u4'.category == 2)) = true ∧ ST kc f' n' ∧ SO kc O f' n' ∧ Gw kc f n f' n' ∧ ∀ x y, EdD kc σ 0 md x y → mS f n x → mS f' n' y := by
  have hmb := h.core.mdb
  obtain ⟨⟨f', n', u⟩, e1, hu, s1, o1, g1, i1⟩ := lp_inv (fun m (p : (Nat → Int32) × Nat × Value) => (!(p.2.2.category == 2)) = true ∧ ST kc p.1 p.2.1 ∧ SO kc O p.1 p.2.1 ∧ Gw kc f n p.1 p.2.1 ∧ ∀ x y, EdD kc σ 0 m x y → mS f n x → mS p.1 p.2.1 y) 0 md (by omega) (fun m p => am_go am_X0 (am_ex (d + 2)) M198 17 [.ref 34, .int (nI 0), .int w, .int (nI m), p.2.2] [] (R2 σ p.1 p.2.1)) (by
    rintro m ⟨f1, n1, u⟩ _ hm ⟨hu, s1, o1, g1, i1⟩
    have g1 : Gw kc f n f1 n1 := g1
    obtain ⟨f2, n2, k1, k2, k3, k4, k5⟩ := y198di d (f := f1) (n := n1) h hm s1 o1 hE w
    refine ⟨(f2, n2, .int (nI (m * 150 + zn (σ.1 21) m))), ?_, rfl, k2, k3, g1.trans k4, fun x y e hx => ?_⟩
    · show am_go am_X0 (am_ex (d + 2)) M198 17 [.ref 34, .int (nI 0), .int w, .int (nI m), u] [] (R2 σ f1 n1) = am_go am_X0 (am_ex (d + 2)) M198 17 [.ref 34, .int (nI 0), .int w, .int (nI (m + 1)), .int (nI (m * 150 + zn (σ.1 21) m))] [] (R2 σ f2 n2)
      rw [q198_17 _ _ _ _ _ hu, R2_f _ _ _ (by decide), h.hm', if_neg (by rw [i_le, i_n (by omega), i_n (by omega)]; omega), mx150, k1]
    · have hxy : 1 ≤ x ∧ x ≤ kc ∧ 1 ≤ y ∧ y ≤ kc := by
        obtain ⟨m', i', j1, j2, j3, j4, j5, j6, j7, j8, j9, j10⟩ := e
        exact ⟨j9, j10, j7, j8⟩
      rcases EdU_s e with e | e
      · exact k4.2.2 y hxy.2.2.1 hxy.2.2.2 (i1 x y e hx)
      · exact k5 x y e (g1.2.2 x hxy.1 hxy.2.1 hx)) (f, n, u4) ⟨hu4, hS, hO, Gw.refl f n, fun x y e => absurd e EdU_0⟩
  have e1 : am_go am_X0 (am_ex (d + 2)) M198 17 [.ref 34, .int (nI 0), .int w, .int (nI 0), u4] [] (R2 σ f n) = am_go am_X0 (am_ex (d + 2)) M198 17 [.ref 34, .int (nI 0), .int w, .int (nI md), u] [] (R2 σ f' n') := e1
  refine ⟨f', n', .int (nI md), u, ?_, rfl, hu, s1, o1, g1, i1⟩
  rw [e1, q198_17 _ _ _ _ _ hu, R2_f _ _ _ (by decide), h.hm', if_pos (by rw [i_le]; exact Int.le_refl _)]
/-- the closure downwards -/
theorem y198d (h : Inv0 c kc md rc td lev rk σ) (hS : ST kc f n) (hO : SO kc O f n) (hE : ∀ x y, EdD kc σ 0 md x y → O x → O y) : ∃ f' n', am_ex (d + 3) 198 [.ref 34, .int (nI 0)] (R2 σ f n) = rV (R2 σ f' n') ∧ ST kc f' n' ∧ SO kc O f' n' ∧ Gw kc f n f' n' ∧ ∀ x y, EdD kc σ 0 md x y → mS f' n' x → mS f' n' y := by
  have hkl := h.kl
  have key : ∀ fu (f : Nat → Int32) n (w : Int32) (u3 u4 : Value), kc - n ≤ fu → ST kc f n → SO kc O f n → ¬ w = nI n → (!(u3.category == 2)) = true → (!(u4.category == 2)) = true → ∃ f' n', am_go am_X0 (am_ex (d + 2)) M198 2 [.ref 34, .int (nI 0), .int w, u3, u4] [] (R2 σ f n) = rV (R2 σ f' n') ∧ ST kc f' n' ∧ SO kc O f' n' ∧ Gw kc f n f' n' ∧ ∀ x y, EdD kc σ 0 md x y → mS f' n' x → mS f' n' y := by
    intro fu
    induction fu with
    | zero =>
      intro f n w u3 u4 hf hS hO hw hu3 hu4
      obtain ⟨f1, n1, v3, v4, e1, hv3, hv4, s1, o1, g1, i1⟩ := y198dp d h hS hO hE (nI n) hu4
      have hle := s1.le
      have h1 := g1.1
      have en : n1 = n := by omega
      have ef := g1.2.1 en
      subst en ef
      refine ⟨f1, n1, ?_, s1, o1, g1, i1⟩
      rw [q198_2 _ _ _ _ hu3 hu4, R2_n, if_neg hw, e1, q198_2 _ _ _ _ hv3 hv4, R2_n, if_pos rfl]
    | succ fu ih =>
      intro f n w u3 u4 hf hS hO hw hu3 hu4
      obtain ⟨f1, n1, v3, v4, e1, hv3, hv4, s1, o1, g1, i1⟩ := y198dp d h hS hO hE (nI n) hu4
      have hle := s1.le
      have h1 := g1.1
      by_cases en : n1 = n
      · have ef := g1.2.1 en
        subst en ef
        refine ⟨f1, n1, ?_, s1, o1, g1, i1⟩
        rw [q198_2 _ _ _ _ hu3 hu4, R2_n, if_neg hw, e1, q198_2 _ _ _ _ hv3 hv4, R2_n, if_pos rfl]
      · obtain ⟨f2, n2, k1, k2, k3, k4, k5⟩ := ih f1 n1 (nI n) v3 v4 (by omega) s1 o1 (fun z => en (nI_inj (by omega) (by omega) z).symm) hv3 hv4
        refine ⟨f2, n2, ?_, k2, k3, g1.trans k4, k5⟩
        rw [q198_2 _ _ _ _ hu3 hu4, R2_n, if_neg hw, e1, k1]
  have hle := hS.le
  obtain ⟨f', n', e1, k⟩ := key (kc - n) f n (-1) .null .null (Nat.le_refl _) hS hO (fun z => nI_nm (by omega) z.symm) rfl rfl
  exact ⟨f', n', by rw [e198, q198_0, e1], k⟩
/-- the keys that open record r -/
theorem y199 (h : Inv0 c kc md rc td lev rk σ) {r : Nat} (hr : r < rc) : ∃ f' n', am_ex (d + 4) 199 [.ref 34, .int (nI r)] σ = rV (R2 σ f' n') ∧ ST kc f' n' ∧ ∀ j, 1 ≤ j → j ≤ kc → (mS f' n' j ↔ Op kc rc σ 0 md (fun s => s = r) j) := by
  obtain ⟨f1, n1, e1, s1, i1⟩ := y197 d (f := σ.1 55) h hr (ST.nil _)
  obtain ⟨f2, n2, e2, s2, o2, g2, c2⟩ := y198u d (O := Op kc rc σ 0 md (fun s => s = r)) h s1 (fun j k1 k2 z => by
    rcases (i1 j k1 k2).mp z with z | z
    · exact absurd z mS_0
    · exact ⟨0, r, rfl, z⟩) (fun x y e ⟨n, hn⟩ => ⟨n + 1, x, e, hn⟩)
  refine ⟨f2, n2, by rw [e199, q199_0, R2_0, e1, bV_r, e2, bV_r], s2, fun j k1 k2 => ⟨o2 j k1 k2, ?_⟩⟩
  rintro ⟨n, hn⟩
  have : ∀ n j, Cl (RcB kc rc σ 0 md (fun s => s = r)) (EdU kc σ 0 md) n j → mS f2 n2 j := by
    intro n
    induction n with
    | zero =>
      rintro j ⟨r', hr', e⟩
      have hr' : r' = r := hr'
      subst hr'
      have hb : 1 ≤ j ∧ j ≤ kc := by obtain ⟨_, _, _, _, _, _, _, _, _, a, b⟩ := e; exact ⟨a, b⟩
      exact g2.2.2 j hb.1 hb.2 ((i1 j hb.1 hb.2).mpr (Or.inr e))
    | succ n ih =>
      rintro j ⟨i, e, hi⟩
      exact c2 i j e (ih i hi)
  exact this n j hn
end GRW
