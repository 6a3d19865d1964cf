/-! exposedBy: what a kept key opens on one medium alone -/
section EXP
variable (d : Nat) {c kc md rc td : Nat} {lev rk : Nat → Nat} {σ : am_M} {f : Nat → Int32} {n : Nat} {O : Nat → Prop}
theorem y214p (h : Inv0 c kc md rc td lev rk σ) {m : Nat} (hm : m < md) (hS : ST kc f n) (hO : SO kc O f n) (hE : ∀ x y, EdD kc σ m (m + 1) x y → O x → O y) (q w : Int32) : ∃ f' n', am_go am_X0 (am_ex (d + 2)) M214 94 [.ref 34, .int q, .int (nI m), .int (nI (m * 150)), .int (nI (m * 150 + zn (σ.1 21) m)), .int w, .int (nI (m * 150)), .null, .null] [] (R2 σ f n) = am_go am_X0 (am_ex (d + 2)) M214 76 [.ref 34, .int q, .int (nI m), .int (nI (m * 150)), .int (nI (m * 150 + zn (σ.1 21) m)), .int w, .int (nI (m * 150 + zn (σ.1 21) m)), .null, .null] [] (R2 σ f' n') ∧ ST kc f' n' ∧ SO kc O f' n' ∧ Gw kc f n f' n' ∧ ∀ x y, EdD kc σ m (m + 1) x y → mS f n x → mS f' n' y := by
  have hkl := h.kl
  have hmb := h.core.mdb
  obtain ⟨hz1, hz2, _⟩ := h.core.med m hm
  obtain ⟨⟨f', n'⟩, e1, s1, o1, g1, i1⟩ := lp_inv (fun i (p : (Nat → Int32) × Nat) => ST kc p.1 p.2 ∧ SO kc O p.1 p.2 ∧ Gw kc f n p.1 p.2 ∧ ∀ i', i' < i → ∀ x y, σ.1 22 (m * 150 + i') = nI 0 → σ.1 24 (m * 150 + i') = nI x → σ.1 23 (m * 150 + i') = nI y → 1 ≤ x → x ≤ kc → 1 ≤ y → y ≤ kc → mS f n x → mS p.1 p.2 y) 0 (zn (σ.1 21) m) (by omega) (fun i p => am_go am_X0 (am_ex (d + 2)) M214 94 [.ref 34, .int q, .int (nI m), .int (nI (m * 150)), .int (nI (m * 150 + zn (σ.1 21) m)), .int w, .int (nI (m * 150 + i)), .null, .null] [] (R2 σ p.1 p.2)) (by
    rintro i ⟨f1, n1⟩ _ hi ⟨s1, o1, g1, i1⟩
    have s1 : ST kc f1 n1 := s1
    have o1 : SO kc O f1 n1 := o1
    have g1 : Gw kc f n f1 n1 := g1
    have ha : m * 150 + i < 1200 := by omega
    have hle := s1.le
    have hk : am_go am_X0 (am_ex (d + 2)) M214 94 [.ref 34, .int q, .int (nI m), .int (nI (m * 150)), .int (nI (m * 150 + zn (σ.1 21) m)), .int w, .int (nI (m * 150 + i)), .null, .null] [] (R2 σ f1 n1) = if σ.1 22 (m * 150 + i) = nI 0 then (if ext (fun j => f1 j = σ.1 24 (m * 150 + i)) 0 n1 = true then am_bV (am_ex (d + 2) 196 [.ref 34, .int (σ.1 23 (m * 150 + i))] (R2 σ f1 n1)) (fun t => am_go am_X0 (am_ex (d + 2)) M214 94 [.ref 34, .int q, .int (nI m), .int (nI (m * 150)), .int (nI (m * 150 + zn (σ.1 21) m)), .int w, .int (nI (m * 150 + (i + 1))), .null, .null] [] t) else am_go am_X0 (am_ex (d + 2)) M214 94 [.ref 34, .int q, .int (nI m), .int (nI (m * 150)), .int (nI (m * 150 + zn (σ.1 21) m)), .int w, .int (nI (m * 150 + (i + 1))), .null, .null] [] (R2 σ f1 n1)) else am_go am_X0 (am_ex (d + 2)) M214 94 [.ref 34, .int q, .int (nI m), .int (nI (m * 150)), .int (nI (m * 150 + zn (σ.1 21) m)), .int w, .int (nI (m * 150 + (i + 1))), .null, .null] [] (R2 σ f1 n1) := by
      rw [q214_94, if_neg (by rw [i_le, i_n (by omega), i_n (by omega)]; omega), if_pos (am_k (by omega) (by omega)), i_cl (by omega), R2_o _ _ _ (show (46 : Nat) ≠ 55 by decide) (by decide), h.e46, if_pos (am_k (by omega) (by omega)), R2_o _ _ _ (show (48 : Nat) ≠ 55 by decide) (by decide), h.e48, y195 (d + 1) (by omega), bI_r, if_pos (am_k (by omega) (by omega)), R2_o _ _ _ (show (47 : Nat) ≠ 55 by decide) (by decide), h.e47, show nI (m * 150 + i) + nI 1 = nI (m * 150 + (i + 1)) from nI_1 _]
      by_cases b1 : σ.1 22 (m * 150 + i) = nI 0
      · rw [if_pos b1, if_pos b1]
        by_cases b2 : ext (fun j => f1 j = σ.1 24 (m * 150 + i)) 0 n1 = true
        · rw [bz_t b2, if_neg n10, if_pos b2]
        · rw [bz_f b2, if_pos rfl, if_neg b2]
      · rw [if_neg b1, if_neg b1]
    have fin : ∀ f2 n2, ST kc f2 n2 → SO kc O f2 n2 → Gw kc f1 n1 f2 n2 → (∀ x y, σ.1 22 (m * 150 + i) = nI 0 → σ.1 24 (m * 150 + i) = nI x → σ.1 23 (m * 150 + i) = nI y → 1 ≤ x → x ≤ kc → 1 ≤ y → y ≤ kc → mS f n x → mS f2 n2 y) → am_go am_X0 (am_ex (d + 2)) M214 94 [.ref 34, .int q, .int (nI m), .int (nI (m * 150)), .int (nI (m * 150 + zn (σ.1 21) m)), .int w, .int (nI (m * 150 + i)), .null, .null] [] (R2 σ f1 n1) = am_go am_X0 (am_ex (d + 2)) M214 94 [.ref 34, .int q, .int (nI m), .int (nI (m * 150)), .int (nI (m * 150 + zn (σ.1 21) m)), .int w, .int (nI (m * 150 + (i + 1))), .null, .null] [] (R2 σ f2 n2) → ∃ p : (Nat → Int32) × Nat, am_go am_X0 (am_ex (d + 2)) M214 94 [.ref 34, .int q, .int (nI m), .int (nI (m * 150)), .int (nI (m * 150 + zn (σ.1 21) m)), .int w, .int (nI (m * 150 + i)), .null, .null] [] (R2 σ f1 n1) = am_go am_X0 (am_ex (d + 2)) M214 94 [.ref 34, .int q, .int (nI m), .int (nI (m * 150)), .int (nI (m * 150 + zn (σ.1 21) m)), .int w, .int (nI (m * 150 + (i + 1))), .null, .null] [] (R2 σ p.1 p.2) ∧ ST kc p.1 p.2 ∧ SO kc O p.1 p.2 ∧ Gw kc f n p.1 p.2 ∧ ∀ i', i' < i + 1 → ∀ x y, σ.1 22 (m * 150 + i') = nI 0 → σ.1 24 (m * 150 + i') = nI x → σ.1 23 (m * 150 + i') = nI y → 1 ≤ x → x ≤ kc → 1 ≤ y → y ≤ kc → mS f n x → mS p.1 p.2 y := by
      intro f2 n2 a1 a2 a3 a4 a5
      refine ⟨(f2, n2), a5, a1, a2, g1.trans a3, fun i' hi' x y b1 b2 b3 b4 b5 b6 b7 b8 => ?_⟩
      by_cases e : i' = i
      · subst e; exact a4 x y b1 b2 b3 b4 b5 b6 b7 b8
      · exact a3.2.2 y b6 b7 (i1 i' (by omega) x y b1 b2 b3 b4 b5 b6 b7 b8)
    show ∃ p : (Nat → Int32) × Nat, am_go am_X0 (am_ex (d + 2)) M214 94 [.ref 34, .int q, .int (nI m), .int (nI (m * 150)), .int (nI (m * 150 + zn (σ.1 21) m)), .int w, .int (nI (m * 150 + i)), .null, .null] [] (R2 σ f1 n1) = am_go am_X0 (am_ex (d + 2)) M214 94 [.ref 34, .int q, .int (nI m), .int (nI (m * 150)), .int (nI (m * 150 + zn (σ.1 21) m)), .int w, .int (nI (m * 150 + (i + 1))), .null, .null] [] (R2 σ p.1 p.2) ∧ _
    rcases h.core.ent m hm i hi with ⟨a1, y, x, a2, a3, a4, a5, a6, a7, a8⟩ | ⟨a1, _⟩
    · have hed : EdD kc σ m (m + 1) x y := ⟨m, i, by omega, by omega, hi, a1, a6, a7, a2, a3, a4, a5⟩
      by_cases e : mS f1 n1 x
      · obtain ⟨f2, n2, c1, c2, c3, c4⟩ := y196 d (σ := σ) hkl s1 a2 a3
        refine fin f2 n2 c2 (fun j k1 k2 z => ?_) c3 (fun x2 y2 _ _ d3 _ _ d6 d7 _ => ?_) ?_
        · rcases (c4 j k1 k2).mp z with z | z
          · exact o1 j k1 k2 z
          · rw [z]; exact hE x y hed (o1 x a4 a5 e)
        · rw [a6] at d3
          have := nI_inj (by omega) (by omega) d3
          exact (c4 y2 d6 d7).mpr (Or.inr this.symm)
        · rw [hk, if_pos a1, a7, if_pos e, a6, c1, bV_r]
      · refine fin f1 n1 s1 o1 (Gw.refl f1 n1) (fun x2 y2 _ d2 _ d4 d5 _ _ d8 => ?_) ?_
        · rw [a7] at d2
          have hx := nI_inj (by omega) (by omega) d2
          exact absurd (g1.2.2 x a4 a5 (by rw [hx]; exact d8)) e
        · rw [hk, if_pos a1, a7, if_neg e]
    · refine fin f1 n1 s1 o1 (Gw.refl f1 n1) (fun x2 y2 d1 _ _ _ _ _ _ _ => ?_) ?_
      · rw [a1] at d1; exact absurd d1 n10
      · rw [hk, if_neg (by rw [a1]; exact n10)]) (f, n) ⟨hS, hO, Gw.refl f n, fun i' hi' => by omega⟩
  have e1 : am_go am_X0 (am_ex (d + 2)) M214 94 [.ref 34, .int q, .int (nI m), .int (nI (m * 150)), .int (nI (m * 150 + zn (σ.1 21) m)), .int w, .int (nI (m * 150)), .null, .null] [] (R2 σ f n) = am_go am_X0 (am_ex (d + 2)) M214 94 [.ref 34, .int q, .int (nI m), .int (nI (m * 150)), .int (nI (m * 150 + zn (σ.1 21) m)), .int w, .int (nI (m * 150 + zn (σ.1 21) m)), .null, .null] [] (R2 σ f' n') := e1
  refine ⟨f', n', ?_, s1, o1, g1, ?_⟩
  · rw [e1, q214_94, if_pos (by rw [i_le]; exact Int.le_refl _)]
  · rintro x y ⟨m', i', j1, j2, j3, j4, j5, j6, j7, j8, j9, j10⟩ hx
    have hmm : m' = m := by omega
    subst hmm
    exact i1 i' j3 x y j4 j6 j5 j9 j10 j7 j8 hx
theorem y214c (h : Inv0 c kc md rc td lev rk σ) {m : Nat} (hm : m < md) (hS : ST kc f n) (hO : SO kc O f n) (hE : ∀ x y, EdD kc σ m (m + 1) x y → O x → O y) (q : Int32) : ∃ f' n', am_go am_X0 (am_ex (d + 2)) M214 76 [.ref 34, .int q, .int (nI m), .int (nI (m * 150)), .int (nI (m * 150 + zn (σ.1 21) m)), .int (-1), .null, .null, .null] [] (R2 σ f n) = am_go am_X0 (am_ex (d + 2)) M214 151 [.ref 34, .int q, .int (nI m), .int (nI (m * 150)), .int (nI (m * 150 + zn (σ.1 21) m)), .int (nI 0), .int (nI 0), .null, .null] [] (R2 σ f' n') ∧ ST kc f' n' ∧ SO kc O f' n' ∧ Gw kc f n f' n' ∧ ∀ x y, EdD kc σ m (m + 1) x y → mS f' n' x → mS f' n' y := by
  have hkl := h.kl
  have key : ∀ fu (f : Nat → Int32) n (w : Int32) (u : Value), kc - n ≤ fu → ST kc f n → SO kc O f n → ¬ w = nI n → (!(u.category == 2)) = true → ∃ f' n', am_go am_X0 (am_ex (d + 2)) M214 76 [.ref 34, .int q, .int (nI m), .int (nI (m * 150)), .int (nI (m * 150 + zn (σ.1 21) m)), .int w, u, .null, .null] [] (R2 σ f n) = am_go am_X0 (am_ex (d + 2)) M214 151 [.ref 34, .int q, .int (nI m), .int (nI (m * 150)), .int (nI (m * 150 + zn (σ.1 21) m)), .int (nI 0), .int (nI 0), .null, .null] [] (R2 σ f' n') ∧ ST kc f' n' ∧ SO kc O f' n' ∧ Gw kc f n f' n' ∧ ∀ x y, EdD kc σ m (m + 1) x y → mS f' n' x → mS f' n' y := by
    intro fu
    induction fu with
    | zero =>
      intro f n w u hf hS hO hw hu
      obtain ⟨f1, n1, e1, s1, o1, g1, i1⟩ := y214p d h hm hS hO hE q (nI n)
      have hle := s1.le
      have h1 := g1.1
      have en : n1 = n := by omega
      have ef := g1.2.1 en
      subst en ef
      refine ⟨f1, n1, ?_, s1, o1, g1, i1⟩
      rw [q214_76 _ _ _ _ _ _ _ hu, R2_n, if_neg hw, e1, q214_76 _ _ _ _ _ _ _ rfl, R2_n, if_pos rfl]
    | succ fu ih =>
      intro f n w u hf hS hO hw hu
      obtain ⟨f1, n1, e1, s1, o1, g1, i1⟩ := y214p d h hm hS hO hE q (nI n)
      have hle := s1.le
      have h1 := g1.1
      by_cases en : n1 = n
      · have ef := g1.2.1 en
        subst en ef
        refine ⟨f1, n1, ?_, s1, o1, g1, i1⟩
        rw [q214_76 _ _ _ _ _ _ _ hu, R2_n, if_neg hw, e1, q214_76 _ _ _ _ _ _ _ rfl, R2_n, if_pos rfl]
      · obtain ⟨f2, n2, k1, k2, k3, k4, k5⟩ := ih f1 n1 (nI n) (.int (nI (m * 150 + zn (σ.1 21) m))) (by omega) s1 o1 (fun z => en (nI_inj (by omega) (by omega) z).symm) rfl
        refine ⟨f2, n2, ?_, k2, k3, g1.trans k4, k5⟩
        rw [q214_76 _ _ _ _ _ _ _ hu, R2_n, if_neg hw, e1, k1]
  have hle := hS.le
  exact key (kc - n) f n (-1) .null (Nat.le_refl _) hS hO (fun z => nI_nm (by omega) z.symm) rfl
/-- how many records key q opens by one medium -/
noncomputable def opX (kc rc : Nat) (σ : am_M) (m q : Nat) : Nat := cntC (fun r => Op kc rc σ m (m + 1) (fun s => s = r) q) 0 rc
theorem y214n (h : Inv0 c kc md rc td lev rk σ) {m : Nat} (hm : m < md) (hn : n ≤ 2500) (q : Int32) : am_go am_X0 (am_ex (d + 1)) M214 151 [.ref 34, .int q, .int (nI m), .int (nI (m * 150)), .int (nI (m * 150 + zn (σ.1 21) m)), .int (nI 0), .int (nI 0), .null, .null] [] (R2 σ f n) = rI (nI (cnt (fun r => qM1 σ f n r m) 0 rc)) (R2 σ f n) := by
  have hmb := h.core.mdb
  have hrb := h.core.rcb
  obtain ⟨hz1, hz2, _⟩ := h.core.med m hm
  have hany : ∀ (a b : Int32) (u v : Value), (!(u.category == 2)) = true → (!(v.category == 2)) = true → am_go am_X0 (am_ex (d + 1)) M214 151 [.ref 34, .int q, .int (nI m), .int (nI (m * 150)), .int (nI (m * 150 + zn (σ.1 21) m)), .int a, .int b, u, v] [] (R2 σ f n) = am_go am_X0 (am_ex (d + 1)) M214 151 [.ref 34, .int q, .int (nI m), .int (nI (m * 150)), .int (nI (m * 150 + zn (σ.1 21) m)), .int a, .int b, .null, .null] [] (R2 σ f n) := fun a b u v hu hv => by
    rw [q214_151 _ _ _ _ _ _ _ _ hu hv, q214_151 (u7 := .null) (u8 := .null) _ _ _ _ _ _ _ _ rfl rfl]
  have inner : ∀ r k, am_go am_X0 (am_ex (d + 1)) M214 166 [.ref 34, .int q, .int (nI m), .int (nI (m * 150)), .int (nI (m * 150 + zn (σ.1 21) m)), .int (nI k), .int (nI r), .int (nI 0), .int (nI (m * 150))] [] (R2 σ f n) = if qM1 σ f n r m then am_go am_X0 (am_ex (d + 1)) M214 151 [.ref 34, .int q, .int (nI m), .int (nI (m * 150)), .int (nI (m * 150 + zn (σ.1 21) m)), .int (nI (k + 1)), .int (nI (r + 1)), .null, .null] [] (R2 σ f n) else am_go am_X0 (am_ex (d + 1)) M214 151 [.ref 34, .int q, .int (nI m), .int (nI (m * 150)), .int (nI (m * 150 + zn (σ.1 21) m)), .int (nI k), .int (nI (r + 1)), .null, .null] [] (R2 σ f n) := by
    intro r k
    refine lp_ext (fun i => qE σ f n r (m * 150 + i)) 0 (zn (σ.1 21) m) (by omega) (fun i => am_go am_X0 (am_ex (d + 1)) M214 166 [.ref 34, .int q, .int (nI m), .int (nI (m * 150)), .int (nI (m * 150 + zn (σ.1 21) m)), .int (nI k), .int (nI r), .int (nI 0), .int (nI (m * 150 + i))] [] (R2 σ f n)) _ _ ?_ ?_
    · show am_go am_X0 (am_ex (d + 1)) M214 166 [.ref 34, .int q, .int (nI m), .int (nI (m * 150)), .int (nI (m * 150 + zn (σ.1 21) m)), .int (nI k), .int (nI r), .int (nI 0), .int (nI (m * 150 + zn (σ.1 21) m))] [] (R2 σ f n) = _
      rw [q214_166, if_pos (by rw [i_le]; exact Int.le_refl _), q214_228, if_pos rfl, show nI k + nI 0 = nI k from nI_add k 0, show nI r + nI 1 = nI (r + 1) from nI_1 _, hany _ _ _ _ rfl rfl]
    · intro i _ hi
      have ha : m * 150 + i < 1200 := by omega
      show am_go am_X0 (am_ex (d + 1)) M214 166 [.ref 34, .int q, .int (nI m), .int (nI (m * 150)), .int (nI (m * 150 + zn (σ.1 21) m)), .int (nI k), .int (nI r), .int (nI 0), .int (nI (m * 150 + i))] [] (R2 σ f n) = if qE σ f n r (m * 150 + i) then am_go am_X0 (am_ex (d + 1)) M214 151 [.ref 34, .int q, .int (nI m), .int (nI (m * 150)), .int (nI (m * 150 + zn (σ.1 21) m)), .int (nI (k + 1)), .int (nI (r + 1)), .null, .null] [] (R2 σ f n) else am_go am_X0 (am_ex (d + 1)) M214 166 [.ref 34, .int q, .int (nI m), .int (nI (m * 150)), .int (nI (m * 150 + zn (σ.1 21) m)), .int (nI k), .int (nI r), .int (nI 0), .int (nI (m * 150 + (i + 1)))] [] (R2 σ f n)
      have h1 : ∀ z : Int32, am_go am_X0 (am_ex (d + 1)) M214 166 [.ref 34, .int q, .int (nI m), .int (nI (m * 150)), .int (nI (m * 150 + zn (σ.1 21) m)), .int (nI k), .int (nI r), .int (nI 1), .int z] [] (R2 σ f n) = am_go am_X0 (am_ex (d + 1)) M214 151 [.ref 34, .int q, .int (nI m), .int (nI (m * 150)), .int (nI (m * 150 + zn (σ.1 21) m)), .int (nI (k + 1)), .int (nI (r + 1)), .null, .null] [] (R2 σ f n) := fun z => by
        rw [q214_166, if_neg n10, ite_self, q214_228, if_neg n10, show nI k + nI 1 = nI (k + 1) from nI_1 _, show nI r + nI 1 = nI (r + 1) from nI_1 _, hany _ _ _ _ rfl rfl]
      rw [q214_166, if_neg (by rw [i_le, i_n (by omega), i_n (by omega)]; omega), if_pos rfl, if_pos (am_k (by omega) (by omega)), i_cl (by omega), R2_o _ _ _ (by decide) (by decide), h.e46, if_pos (am_k (by omega) (by omega)), R2_o _ _ _ (by decide) (by decide), h.e47, if_pos (am_k (by omega) (by omega)), R2_o _ _ _ (by decide) (by decide), h.e48, y195 d hn, bI_r, h1, show nI (m * 150 + i) + nI 1 = nI (m * 150 + (i + 1)) from nI_1 _]
      by_cases b1 : σ.1 22 (m * 150 + i) = nI 1
      · rw [if_pos b1]
        by_cases b2 : σ.1 23 (m * 150 + i) = nI r
        · rw [if_pos b2]
          by_cases b3 : ext (fun j => f j = σ.1 24 (m * 150 + i)) 0 n = true
          · rw [bz_t b3, if_neg n10, if_pos ⟨b1, b2, b3⟩]
          · rw [bz_f b3, if_pos rfl, if_neg (fun z => b3 z.2.2)]
        · rw [if_neg b2, if_neg (fun z => b2 z.2.1)]
      · rw [if_neg b1, if_neg (fun z => b1 z.1)]
  refine lp_cnt0 (fun r => qM1 σ f n r m) 0 rc (by omega) (fun i k => am_go am_X0 (am_ex (d + 1)) M214 151 [.ref 34, .int q, .int (nI m), .int (nI (m * 150)), .int (nI (m * 150 + zn (σ.1 21) m)), .int (nI k), .int (nI i), .null, .null] [] (R2 σ f n)) (fun k => rI (nI k) (R2 σ f n)) ?_ ?_
  · intro k
    show am_go am_X0 (am_ex (d + 1)) M214 151 [.ref 34, .int q, .int (nI m), .int (nI (m * 150)), .int (nI (m * 150 + zn (σ.1 21) m)), .int (nI k), .int (nI rc), .null, .null] [] (R2 σ f n) = _
    rw [q214_151 (u7 := .null) (u8 := .null) _ _ _ _ _ _ _ _ rfl rfl, R2_f _ _ _ (by decide), h.hr', if_pos (by rw [i_le]; exact Int.le_refl _)]
  · intro r k _ hr
    show am_go am_X0 (am_ex (d + 1)) M214 151 [.ref 34, .int q, .int (nI m), .int (nI (m * 150)), .int (nI (m * 150 + zn (σ.1 21) m)), .int (nI k), .int (nI r), .null, .null] [] (R2 σ f n) = am_go am_X0 (am_ex (d + 1)) M214 151 [.ref 34, .int q, .int (nI m), .int (nI (m * 150)), .int (nI (m * 150 + zn (σ.1 21) m)), .int (nI (if qM1 σ f n r m then k + 1 else k)), .int (nI (r + 1)), .null, .null] [] (R2 σ f n)
    rw [q214_151 (u7 := .null) (u8 := .null) _ _ _ _ _ _ _ _ rfl rfl, R2_f _ _ _ (by decide), h.hr', if_neg (by rw [i_le, i_n (by omega), i_n (by omega)]; omega), inner]
    by_cases e : qM1 σ f n r m
    · rw [if_pos e, if_pos e]
    · rw [if_neg e, if_neg e]
theorem cnt_tf {P Q : Nat → Prop} [DecidablePred P] [DecidablePred Q] : ∀ n i, cnt (fun r => P r ∧ (Q r ↔ true = true)) i n + cnt (fun r => P r ∧ (Q r ↔ false = true)) i n = cnt P i n := by
  intro n
  induction n with
  | zero => intro i; rfl
  | succ n ih =>
    intro i
    have := ih (i + 1)
    rw [cnt, cnt, cnt]
    by_cases hp : P i
    · by_cases hq : Q i
      · rw [if_pos (show P i ∧ (Q i ↔ true = true) from ⟨hp, ⟨fun _ => rfl, fun _ => hq⟩⟩), if_neg (show ¬ (P i ∧ (Q i ↔ false = true)) from fun z => by have := z.2.mp hq; cases this), if_pos hp]; omega
      · rw [if_neg (show ¬ (P i ∧ (Q i ↔ true = true)) from fun z => hq (z.2.mpr rfl)), if_pos (show P i ∧ (Q i ↔ false = true) from ⟨hp, ⟨fun z => absurd z hq, fun z => by cases z⟩⟩), if_pos hp]; omega
    · rw [if_neg (show ¬ (P i ∧ (Q i ↔ true = true)) from fun z => hp z.1), if_neg (show ¬ (P i ∧ (Q i ↔ false = true)) from fun z => hp z.1), if_neg hp]; omega
theorem f106 (h : Inv c kc md rc td lev rk σ) (hc : c < 600) (x y : Int32) : Fc (d + 8) 106 214 [.ref 0, .int x, .int y] [.ref 34, .int x, .int y] cO (c + 1) σ := by
  have hkl := h.kl
  have hmb := h.core.mdb
  have hrb := h.core.rcb
  have hlt10 : ¬ nI 0 < nI 0 := by decide
  have hlt1 : nI 0 < nI 1 := by decide
  by_cases hxy : inR x 4 ∧ inR y md
  · obtain ⟨e1, h1⟩ := inR_of hxy.1
    obtain ⟨e2, h2⟩ := inR_of hxy.2
    generalize x.toNatClampNeg = q at e1 h1
    generalize y.toNatClampNeg = m at e2 h2
    subst e1 e2
    have hcl : am_ex (d + 8) 106 [.ref 0, .int (nI q), .int (nI m)] σ = am_bV (am_ex (d + 7) 70 [.ref 5, .int (σ.1 11 q), .int (nI m), .int (nI m)] σ) (fun t4 => am_bI (am_ex (d + 7) 71 [.ref 5, .int (bz (true = true))] t4) (fun r5 t5 => am_bI (am_ex (d + 7) 71 [.ref 5, .int (bz (false = true))] t5) (fun r6 t6 => some (.inl (some (.int (r5 + r6))), t6)))) := by
      rw [e106, q106_0, x144 _ _ _ (by omega), if_pos (inR_n h1 (by omega)), bV_r, x32, bI_r, h.hm, x144 _ _ _ (by omega), if_pos (inR_n h2 (by omega)), bV_r, if_pos (am_k (by omega) (by omega)), i_cl (by omega)]
      rfl
    have hsum : ∀ f g, am_bI (am_ex (d + 7) 71 [.ref 5, .int (bz (true = true))] (S2 σ f g)) (fun r5 t5 => am_bI (am_ex (d + 7) 71 [.ref 5, .int (bz (false = true))] t5) (fun r6 t6 => some (.inl (some (.int (r5 + r6))), t6))) = rI (nI (cnt (fun r => ¬ g r = nI 0) 0 rc)) (S2 σ f g) := by
      intro f g
      rw [x71 (d + 4) g h.base f true, bI_r, x71 (d + 4) g h.base f false, bI_r, nI_add, cnt_tf]
    have hm0 : ∀ Z, Sm σ Z → Inv c kc md rc td lev rk Z → am_ex (d + 8) 214 [.ref 34, .int (nI q), .int (nI m)] Z = if σ.1 39 q = nI 0 then rI (nI 0) (th Z (nI 0)) else am_bV (am_ex (d + 7) 196 [.ref 34, .int (σ.1 39 q)] (R2 (th Z (nI 0)) ((th Z (nI 0)).1 55) 0)) (fun t1 => if am_in (nI m) 8 = true then am_go am_X0 (am_ex (d + 7)) M214 76 [.ref 34, .int (nI q), .int (nI m), .int (nI (m * 150)), .int (nI (m * 150) + t1.1 45 m), .int (-1), .null, .null, .null] [] t1 else none) := by
      intro Z hs hI
      have z39 : (th Z (nI 0)).1 39 = σ.1 39 := by rw [th_ne _ _ (by decide), hs.i 39 (by decide) (by decide)]
      have r39 : (R2 (th Z (nI 0)) ((th Z (nI 0)).1 55) 0).1 39 = σ.1 39 := by rw [R2_o _ _ _ (by decide) (by decide), z39]
      rw [e214, q214_0, x208, bI_r, bz_t (inR_n h1 (by omega)), if_neg n10, x185 _ _ hI.hm' hmb.2, bI_r, bz_t (inR_n h2 (by omega)), if_neg n10, q214_21, th_w, th_v, if_neg hlt10, if_pos (am_k (by omega) (by omega)), i_cl (by omega), z39, if_pos (am_k (by omega) (by omega)), R2_0, r39, mx150, i_cl (by omega)]
    rcases h.kep q h1 with ⟨b1, b2⟩ | ⟨k, p, b1, b2, bp, b3, b4, b5, b6⟩
    · have hX := x70o (d + 3) (σ.1 26) h.base (x := -1) (by unfold mdR; rw [i_m1]; omega) (lo := m) (la := m) (Nat.le_refl _) h2 (σ.1 25)
      rw [S2_self] at hX
      obtain ⟨f, g, e3, hg⟩ := hX
      refine Fc.r h hc (S2_sm σ f g) rfl (v := nI 0) ?_ (fun Z hs hI => ⟨th Z (nI 0), by rw [hm0 Z hs hI, if_pos b1], (Sm.refl Z).th _, rfl, th_v _ _⟩)
      have : cnt (fun r => ¬ g r = nI 0) 0 rc = 0 := by
        have e0 : cnt (fun r => ¬ g r = nI 0) 0 rc = cnt (mS (fun _ => nI 0) 0) 0 rc := cnt_c rc 0 (fun r _ hr => ⟨fun z => absurd (hg r (by omega)) z, fun z => absurd z mS_0⟩)
        rw [e0]
        have : ∀ n i, cnt (mS (fun _ => nI 0) 0) i n = 0 := by
          intro n
          induction n with
          | zero => intro i; rfl
          | succ n ih => intro i; rw [cnt, ih, if_neg mS_0]
        exact this rc 0
      rw [hcl, b2, e3, bV_r, hsum, this]
    · have hX := x70 (d + 3) (σ.1 26) h.base (lo := m) (la := m) (Nat.le_refl _) h2 (q := k) ⟨b1, b2⟩ (σ.1 25)
      rw [S2_self] at hX
      obtain ⟨f, g, e3, hg⟩ := hX
      refine Fc.r h hc (S2_sm σ f g) rfl (v := nI (opX kc rc σ m k)) ?_ (fun Z hs hI => ?_)
      · rw [hcl, b4, e3, bV_r, hsum]
        unfold opX
        rw [cnt_C _ 0 rc (fun r _ hr => hg r (by omega))]
      · have hT : Sm Z (th Z (nI 0)) := (Sm.refl Z).th _
        have hI2 := hI.base.sm hT
        obtain ⟨f1, n1, e4, s1, _, i1⟩ := y196 (d + 5) (σ := th Z (nI 0)) (f := (th Z (nI 0)).1 55) (n := 0) hkl (ST.nil _) b1 b2
        obtain ⟨f2, n2, e5, s2, o2, g2, c2⟩ := y214c (d + 5) (O := Dn kc (th Z (nI 0)) m (m + 1) k) hI2 h2 s1 (fun j k1 k2 z => by
          rcases (i1 j k1 k2).mp z with z | z
          · exact absurd z mS_0
          · exact ⟨0, z⟩) (fun x y e ⟨n, hn⟩ => ⟨n + 1, x, e, hn⟩) (nI q)
        have hle := s2.le
        have hO : ∀ j, 1 ≤ j → j ≤ kc → (mS f2 n2 j ↔ Dn kc (th Z (nI 0)) m (m + 1) k j) := fun j k1 k2 => ⟨o2 j k1 k2, by
          rintro ⟨n, hn⟩
          have : ∀ n j, Cl (fun j => j = k) (EdD kc (th Z (nI 0)) m (m + 1)) n j → mS f2 n2 j := by
            intro n
            induction n with
            | zero =>
              intro j e
              have e : j = k := e
              subst e
              exact g2.2.2 j b1 b2 ((i1 j b1 b2).mpr (Or.inr rfl))
            | succ n ih =>
              rintro j ⟨i, e, hi⟩
              exact c2 i j e (ih i hi)
          exact this n j hn⟩
        refine ⟨R2 (th Z (nI 0)) f2 n2, ?_, hT.trans (R2_sm _ f2 n2), rfl, R2_th _ _ _ _⟩
        rw [hm0 Z hs hI, b3, if_neg (fun z => by have := nI_inj (by omega) (by omega) z; omega), e4, bV_r, if_pos (am_k (by omega) (by omega)), R2_o _ _ _ (by decide) (by decide), hI2.s45 h2, nI_add, e5, y214n (d + 6) hI2 h2 (by omega)]
        unfold opX
        rw [cnt_C _ 0 rc (fun r _ hr => ?_)]
        rw [← Op_sm (hs.trans hT).e, ← Dn_Op]
        refine Iff.trans ?_ ((qM_iff (f := f2) (n := n2) (lo := m) (hi := m + 1) hI2 (r := r) (by omega) (by omega)).trans ?_)
        · constructor
          · intro e; exact ⟨m, by omega, by omega, e⟩
          · rintro ⟨m', a, b, e⟩
            have : m' = m := by omega
            subst this; exact e
        · constructor
          · rintro ⟨j, a, e⟩
            obtain ⟨_, _, _, _, _, _, _, _, _, a1, a2⟩ := id e
            exact ⟨j, (hO j a1 a2).mp a, e⟩
          · rintro ⟨j, a, e⟩
            obtain ⟨_, _, _, _, _, _, _, _, _, a1, a2⟩ := id e
            exact ⟨j, (hO j a1 a2).mpr a, e⟩
  · refine Fc.x h hc (E := xIO) (Sm.refl σ) rfl ?_ (fun Z hs hI => ⟨nI 0, ?_⟩)
    · rw [e106, q106_0, x144 _ _ _ (by omega)]
      by_cases h1 : inR x 4
      · rw [if_pos h1, bV_r, x32, bI_r, h.hm, x144 _ _ _ (by omega), if_neg (fun z => hxy ⟨h1, z⟩), bV_x]
      · rw [if_neg h1, bV_x]
    · rw [e214, q214_0, x208, bI_r]
      by_cases h1 : inR x 4
      · rw [bz_t h1, if_neg n10, x185 _ _ hI.hm' hmb.2, bI_r, bz_f (fun z => hxy ⟨h1, z⟩), if_pos rfl, q214_20, q214_21, th_w, th_v, if_pos hlt1]
        rfl
      · rw [bz_f h1, if_pos rfl, q214_20, q214_21, th_w, th_v, if_pos hlt1]
        rfl
end EXP
