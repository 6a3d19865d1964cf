/-! forget -/
section FGT
variable (d : Nat) {c kc md rc td : Nat} {lev rk : Nat → Nat} {σ : am_M}
theorem hy_C {X Y : am_M} (hn : X.2.2 = Y.2.2) : EqC (hy aM X Y) X := by
  refine ⟨fun a ha hb => ?_, ?_, hn⟩
  · rw [hyI' (by unfold aM; rw [show Nat.ble 34 a = false from by rw [Bool.eq_false_iff]; intro z; have := Nat.le_of_ble_eq_true z; omega]; rfl)]
  · rw [hyJ' (by decide)]
/-- the reference's memories after clearing are alike -/
theorem clrE (h : Inv c kc md rc td lev rk σ) {X0 X W1 Y1 Z1 W2 Y2 Z2 : am_M} (hP : Sm σ X0) (hG : Gn kc σ (σ.1 19) X0 85 X) (s1 : Sm σ W1) (t1 : Sm W1 Z1) (m1 : GnM W1 (W1.1 19) Z1 Y1) (s2 : Sm σ W2) (t2 : Sm W2 Z2) (m2 : GnM W2 (W2.1 19) Z2 Y2) (hn : Y2.2.2 = Y1.2.2) : EqM (hy aM X Y1) Y2 := by
  have i1 := (clrJ h s1 hP hG t1 m1).1
  have i2 := (clrJ h s2 hP hG t2 m2).1
  have y2 : ∀ a, aM a = true → Y2.1 a = (hy aM X Y2).1 a := fun a ha => (hyI ha).symm
  have am : ∀ a, 34 < a → a < 57 → aM a = true := fun a h1 h2 => by
    unfold aM
    simp only [Bool.and_eq_true, Nat.ble_eq, Nat.blt_eq]
    omega
  refine ⟨fun a h1 h2 h3 => ?_, fun j h1 h2 => ?_, ?_, ?_, hn⟩
  · by_cases e35 : a = 35
    · subst e35; rw [y2 35 (by decide), i2.e35, i1.e35, hyI' (by decide), hyI' (by decide)]
    · by_cases e37 : a = 37
      · subst e37; rw [y2 37 (by decide), i2.e37, i1.e37, hyI' (by decide), hyI' (by decide)]
      · by_cases e41 : a = 41
        · subst e41; rw [y2 41 (by decide), i2.e41, i1.e41, hyI' (by decide), hyI' (by decide)]
        · by_cases e51 : a = 51
          · subst e51; rw [y2 51 (by decide), i2.e51, i1.e51, hyI' (by decide), hyI' (by decide)]
          · rw [hyI (am a h1 h2), m2.o a e35 e37 e41 e51, m1.o a e35 e37 e41 e51, t2.i a h3 (by omega), t1.i a h3 (by omega), s2.i a h3 (by omega), s1.i a h3 (by omega)]
  · rw [hyI (by decide), m2.o 34 (by decide) (by decide) (by decide) (by decide), m1.o 34 (by decide) (by decide) (by decide) (by decide), t2.f j h1 h2, t1.f j h1 h2, s2.f j h1 h2, s1.f j h1 h2]
  · rw [hyJ (by decide), m2.j, m1.j, t2.j 49 (by decide), t1.j 49 (by decide), s2.j 49 (by decide), s1.j 49 (by decide)]
  · rw [hyJ (by decide), m2.j, m1.j, t2.j 50 (by decide), t1.j 50 (by decide), s2.j 50 (by decide), s1.j 50 (by decide)]
/-- a custodian's key opens what goes -/
abbrev Any (kc rc md : Nat) (σ : am_M) : Prop := ∃ q, q < 4 ∧ OpV kc rc md σ (Wu (σ.1 17) (σ.1 19)) (σ.1 11 q)
theorem x156 (h : Inv c kc md rc td lev rk σ) {X0 : am_M} (hP : Pl kc rc md lev σ (σ.1 19) X0) : ∃ v, am_ex (d + 3) 156 [.ref 0] X0 = rI v X0 ∧ (v = nI 0 ↔ ¬ Any kc rc md σ) := by
  have hkl := h.kl
  have e11 : X0.1 11 = σ.1 11 := hP.sm.i 11 (by decide) (by decide)
  have key : ∀ n i, i + n = 4 → (∀ q, q < i → ¬ OpV kc rc md σ (Wu (σ.1 17) (σ.1 19)) (σ.1 11 q)) → ∃ v, am_go am_X0 (am_ex (d + 2)) M156 2 [.ref 0, .int (nI i)] [] X0 = rI v X0 ∧ (v = nI 0 ↔ ¬ Any kc rc md σ) := by
    intro n
    induction n with
    | zero =>
      intro i hi hall
      have : i = 4 := by omega
      subst this
      exact ⟨nI 0, by rw [q156_2, if_pos (by decide)], fun _ ⟨q, a, b⟩ => hall q a b, fun _ => rfl⟩
    | succ n ih =>
      intro i hi hall
      obtain ⟨v, ev, hv⟩ := z67 d h.base hP.fnd (X := X0) (kc2 := kc) (by rw [hP.sm.i 1 (by decide) (by decide)]; exact h.hk) (Nat.le_refl _) (by omega) rfl (kep_1 h.base (q := i) (by omega))
      by_cases e : v ≤ nI 0
      · obtain ⟨w, e1, e2⟩ := ih (i + 1) (by omega) (fun q hq => by
          by_cases z : q = i
          · rw [z]; exact hv.mp e
          · exact hall q (by omega))
        refine ⟨w, ?_, e2⟩
        rw [q156_2, if_neg (by rw [i_le, i_n (by omega), i_n (by omega)]; omega), if_pos (am_k (by omega) (by omega)), i_cl (by omega), e11, ev, bI_r, if_pos e, show nI i + nI 1 = nI (i + 1) from nI_1 _, e1]
      · refine ⟨nI 1, ?_, fun z => absurd z n10, fun z => absurd ⟨i, by omega, Classical.not_not.mp (fun y => e (hv.mpr y))⟩ z⟩
        rw [q156_2, if_neg (by rw [i_le, i_n (by omega), i_n (by omega)]; omega), if_pos (am_k (by omega) (by omega)), i_cl (by omega), e11, ev, bI_r, if_neg e]
  obtain ⟨v, e1, e2⟩ := key 4 0 (by omega) (fun q hq => by omega)
  exact ⟨v, by rw [e156, q156_0, e1], e2⟩
/-- the reference up to its room -/
theorem y230h (h : Inv c kc md rc td lev rk σ) {Z : am_M} (hs : Sm σ Z) (x : Int32) (hm : mkd (σ.1 19)) : ∃ Y v3, ((Any kc rc md σ → ¬ x = nI 0) → am_ex (d + 8) 230 [.ref 34, .int x] Z = am_go am_X0 (am_ex (d + 7)) M230 66 [.ref 34, .int x, .int (nI (cst kc rc md σ (σ.1 19))), .int v3, .int (nI 4), .null] [.ref 34] Y) ∧ (¬ (Any kc rc md σ → ¬ x = nI 0) → am_ex (d + 8) 230 [.ref 34, .int x] Z = rI (nI 0) (th Y (nI 1))) ∧ PlM kc rc md (th Z (nI 0)) ((th Z (nI 0)).1 19) Y := by
  have hT : Sm Z (th Z (nI 0)) := (Sm.refl Z).th _
  have sT := hs.trans hT
  have hI := h.sm sT
  obtain ⟨v, e2, hv⟩ := y226m (d + 6) h hs
  obtain ⟨Y, e3, hY⟩ := y229 (d + 3) hI
  have e4 : (th Z (nI 0)).1 19 = σ.1 19 := sT.i 19 (by decide) (by decide)
  have hc1 : cst kc rc md (th Z (nI 0)) ((th Z (nI 0)).1 19) = cst kc rc md σ (σ.1 19) := by rw [e4]; exact cst_sm sT
  rw [hc1] at e3
  have haf : ∀ q, q < 4 → Flg (Y.1 43 q) (OpV kc rc md σ (Wu (σ.1 17) (σ.1 19)) (σ.1 11 q)) := fun q hq => by
    have := hY.af q hq
    rw [e4, sT.i 17 (by decide) (by decide), sT.i 11 (by decide) (by decide), OpV_sm sT.e] at this
    exact this
  have head : am_ex (d + 8) 230 [.ref 34, .int x] Z = am_go am_X0 (am_ex (d + 7)) M230 35 [.ref 34, .int x, .int (nI (cst kc rc md σ (σ.1 19))), .int (nI 0), .int (nI 0), .null] [] Y := by
    rw [e230, q230_0, e2, bI_r, if_neg (fun z => hv.mp z hm), q230_13, th_w, th_v, if_pos le00, e3, bI_r]
  obtain ⟨v3, e5, h5⟩ := lp_inv (fun i (w : Int32) => Flg w (∃ q, q < i ∧ OpV kc rc md σ (Wu (σ.1 17) (σ.1 19)) (σ.1 11 q))) 0 4 (by omega) (fun i w => am_go am_X0 (am_ex (d + 7)) M230 35 [.ref 34, .int x, .int (nI (cst kc rc md σ (σ.1 19))), .int w, .int (nI i), .null] [] Y) (by
    intro i w _ hi hw
    refine ⟨w ||| Y.1 43 i, ?_, ?_⟩
    · show am_go am_X0 (am_ex (d + 7)) M230 35 [.ref 34, .int x, .int (nI (cst kc rc md σ (σ.1 19))), .int w, .int (nI i), .null] [] Y = am_go am_X0 (am_ex (d + 7)) M230 35 [.ref 34, .int x, .int (nI (cst kc rc md σ (σ.1 19))), .int (w ||| Y.1 43 i), .int (nI (i + 1)), .null] [] Y
      rw [q230_35, if_neg (by rw [i_le, i_n (by omega), i_n (by omega)]; omega), if_pos (am_k (by omega) (by omega)), i_cl (by omega), show nI i + nI 1 = nI (i + 1) from nI_1 _]
    · have hq := haf i hi
      rcases hw with ⟨a, q, b1, b2⟩ | ⟨a, b⟩
      · refine Or.inl ⟨?_, q, by omega, b2⟩
        rcases hq with ⟨g, _⟩ | ⟨g, _⟩
        · rw [a, g]; decide
        · rw [a, g]; decide
      · rcases hq with ⟨g, g2⟩ | ⟨g, g2⟩
        · exact Or.inl ⟨by rw [a, g]; decide, i, by omega, g2⟩
        · refine Or.inr ⟨by rw [a, g]; decide, fun ⟨q, q1, q2⟩ => ?_⟩
          by_cases z : q = i
          · rw [z] at q2; exact g2 q2
          · exact b ⟨q, by omega, q2⟩) (nI 0) (Or.inr ⟨rfl, fun ⟨q, q1, _⟩ => by omega⟩)
  have e5 : am_go am_X0 (am_ex (d + 7)) M230 35 [.ref 34, .int x, .int (nI (cst kc rc md σ (σ.1 19))), .int (nI 0), .int (nI 0), .null] [] Y = am_go am_X0 (am_ex (d + 7)) M230 35 [.ref 34, .int x, .int (nI (cst kc rc md σ (σ.1 19))), .int v3, .int (nI 4), .null] [] Y := e5
  refine ⟨Y, v3, fun hx => ?_, fun hx => ?_, hY⟩
  · rw [head, e5, q230_35, if_pos (show nI 4 ≤ nI 4 by decide)]
    by_cases ea : Any kc rc md σ
    · rw [if_neg (h5.ne.mpr ea), if_neg (hx ea)]
    · rw [if_pos (Classical.not_not.mp (fun z => ea (h5.ne.mp z)))]
  · have ea : Any kc rc md σ := Classical.not_not.mp (fun z => hx (fun y => absurd y z))
    have ex : x = nI 0 := Classical.not_not.mp (fun z => hx (fun _ => z))
    rw [head, e5, q230_35, if_pos (show nI 4 ≤ nI 4 by decide), if_neg (h5.ne.mpr ea), if_pos ex, q230_79, q230_84, th_w, th_v, if_neg (by decide)]
theorem y230r (h : Inv c kc md rc td lev rk σ) {Y : am_M} (hs : Sm σ Y) (x v3 : Int32) {N : Nat} (hN : N < 1000) : am_go am_X0 (am_ex (d + 7)) M230 66 [.ref 34, .int x, .int (nI N), .int v3, .int (nI 4), .null] [.ref 34] Y = if rmP σ md N then am_go am_X0 (am_ex (d + 7)) M230 99 [.ref 34, .int x, .int (nI N), .int v3, .int (nI 0), .null] [] (th Y (nI 0)) else rI (nI 0) (th Y (nI 1)) := by
  rw [q230_66, y186m (d + 6) h.base hs.em, bI_r, y187m (d + 6) h.base hs.em (wrt_o _ h.base (-1)) hN, bI_r]
  by_cases hr : rmP σ md N
  · rw [bz_t hr, if_neg n10, if_pos hr, q230_84, th_w, th_v, if_pos le00]
  · rw [bz_f hr, if_pos rfl, if_neg hr, q230_79, q230_84, th_w, th_v, if_neg (by decide)]
end FGT
