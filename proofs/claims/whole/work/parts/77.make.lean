/-! the class makes its plan -/
section MKP
variable (d : Nat) {c kc md rc td : Nat} {lev rk : Nat → Nat} {σ : am_M} {u : Nat → Int32}
theorem S2_sw (σ : am_M) (f g x : Nat → Int32) {a : Nat} (h1 : a ≠ 25) (h2 : a ≠ 26) : am_set (S2 σ f g) a x = S2 (am_set σ a x) f g := by
  unfold S2 am_set va_up
  simp only [Prod.mk.injEq, and_true]
  funext b
  by_cases h : b = a
  · subst h; simp [h1, h2]
  · simp [h]
/-- a leaf's record is wanted if and only if the leaf is marked -/
theorem Wu_k (h : Inv0 c kc md rc td lev rk σ) {k r : Nat} (hk : k < 64) (hr : r < rc) (e : σ.1 17 k = nI r) : Wu (σ.1 17) u r ↔ ¬ u k = nI 0 := by
  have hrb := h.core.rcb
  constructor
  · rintro ⟨k', hk', hu, e'⟩
    rcases h.core.rec k hk with a | ⟨r1, a1, a2, a3⟩
    · rw [e] at a; exact absurd a (nI_nm (by omega))
    · rcases h.core.rec k' hk' with b | ⟨r2, b1, b2, b3⟩
      · rw [e'] at b; exact absurd b (nI_nm (by omega))
      · rw [a2] at e; rw [b2] at e'
        have e1 := nI_inj (by omega) (by omega) e
        have e2 := nI_inj (by omega) (by omega) e'
        rw [e1] at a3; rw [e2] at b3
        rw [a3] at b3
        rw [nI_inj (by omega) (by omega) b3]; exact hu
  · exact fun hu => ⟨k, hk, hu, e⟩
/-- marked leaves have records -/
abbrev okU (R u : Nat → Int32) : Prop := ∀ k, k < 64 → ¬ u k = nI 0 → ¬ R k = -1
/-- the first part: the marked leaves' records are wanted -/
theorem x13a (h : Inv0 c kc md rc td lev rk σ) {al : Int32} (hu : ∀ k, k < 64 → (¬ u k = nI 0 ↔ (¬ σ.1 19 k = nI 0 ∨ nI k = al))) (hok : okU (σ.1 17) u) : ∃ X, am_ex (d + 6) 13 [.ref 7, .int al] σ = am_bV (am_ex (d + 5) 69 [.ref 5] X) (fun t1 => am_go am_X0 (am_ex (d + 5)) M13 72 [.ref 7, .int al, .int (nI 84)] [] t1) ∧ Sm σ X ∧ X.2.2 = σ.2.2 ∧ (∀ k, 1 ≤ k → k ≤ kc → X.1 25 k = nI 0) ∧ (∀ r, r < rc → (¬ X.1 26 r = nI 0 ↔ Wu (σ.1 17) u r)) ∧ Flg (X.1 7 4) (¬ mkd u) := by
  have hrb := h.core.rcb
  obtain ⟨X, e1, s1, n1, z1, w1, f1⟩ := lp_inv (fun k (X : am_M) => Sm σ X ∧ X.2.2 = σ.2.2 ∧ (∀ j, 1 ≤ j → j ≤ kc → X.1 25 j = nI 0) ∧ (∀ r, r < rc → (¬ X.1 26 r = nI 0 ↔ ∃ k', k' < k ∧ ¬ u k' = nI 0 ∧ σ.1 17 k' = nI r)) ∧ Flg (X.1 7 4) (¬ ∃ k', k' < k ∧ ¬ u k' = nI 0)) 0 64 (by omega) (fun k X => am_go am_X0 (am_ex (d + 5)) M13 14 [.ref 7, .int al, .int (nI k)] [] X) (by
    rintro k X _ hk ⟨s1, n1, z1, w1, f1⟩
    have hI := h.sm s1
    have e19 : X.1 19 = σ.1 19 := s1.i 19 (by decide) (by decide)
    have e17 : X.1 17 = σ.1 17 := s1.i 17 (by decide) (by decide)
    have e82 : am_ex (d + 5) 82 [.ref 3, .int (nI k)] X = rI (bz (¬ σ.1 19 k = nI 0)) X := by
      rw [x82, bz_c (show rd (X.1 19) 64 (nI 0) (nI k) ≠ nI 0 ↔ ¬ σ.1 19 k = nI 0 by rw [rd_n hk (by omega), e19])]
    by_cases hm : u k = nI 0
    · have hno := (not_congr (hu k hk)).mp (fun z => z hm)
      refine ⟨X, ?_, s1, n1, z1, fun r hr => ?_, ?_⟩
      · show am_go am_X0 (am_ex (d + 5)) M13 14 [.ref 7, .int al, .int (nI k)] [] X = am_go am_X0 (am_ex (d + 5)) M13 14 [.ref 7, .int al, .int (nI (k + 1))] [] X
        rw [q13_14, if_neg (by rw [i_le, i_n (by omega), i_n (by omega)]; omega), e82, bI_r, bz_f (fun z => hno (Or.inl z)), if_pos rfl, if_neg (fun z => hno (Or.inr z)), show nI k + nI 1 = nI (k + 1) from nI_1 _]
      · rw [w1 r hr]
        constructor
        · rintro ⟨k', a, b⟩; exact ⟨k', by omega, b⟩
        · rintro ⟨k', a, b, e⟩
          by_cases ek : k' = k
          · subst ek; exact absurd hm b
          · exact ⟨k', by omega, b, e⟩
      · have : (∃ k', k' < k + 1 ∧ ¬ u k' = nI 0) ↔ ∃ k', k' < k ∧ ¬ u k' = nI 0 := by
          constructor
          · rintro ⟨k', a, b⟩
            by_cases ek : k' = k
            · subst ek; exact absurd hm b
            · exact ⟨k', by omega, b⟩
          · rintro ⟨k', a, b⟩; exact ⟨k', by omega, b⟩
        rw [this]; exact f1
    · have hyes := (hu k hk).mp hm
      have hR := hok k hk hm
      obtain ⟨r0, a1, a2, a3⟩ := (h.core.rec k hk).resolve_left hR
      have s2 : Sm σ (am_set X 7 (upd (X.1 7) 4 (nI 0))) := s1.set (by decide) _
      have hw := w65 (d + 3) ((am_set X 7 (upd (X.1 7) 4 (nI 0))).1 25) ((am_set X 7 (upd (X.1 7) 4 (nI 0))).1 26) (h.sm s2) a1
      rw [S2_self] at hw
      refine ⟨S2 (am_set X 7 (upd (X.1 7) 4 (nI 0))) ((am_set X 7 (upd (X.1 7) 4 (nI 0))).1 25) (upd ((am_set X 7 (upd (X.1 7) 4 (nI 0))).1 26) r0 (nI 1)), ?_, s2.trans (S2_sm _ _ _), n1, fun j j1 j2 => ?_, fun r hr => ?_, ?_⟩
      · show am_go am_X0 (am_ex (d + 5)) M13 14 [.ref 7, .int al, .int (nI k)] [] X = am_go am_X0 (am_ex (d + 5)) M13 14 [.ref 7, .int al, .int (nI (k + 1))] [] _
        have h36 : am_go am_X0 (am_ex (d + 5)) M13 36 [.ref 7, .int al, .int (nI k)] [] X = am_go am_X0 (am_ex (d + 5)) M13 14 [.ref 7, .int al, .int (nI (k + 1))] [] (S2 (am_set X 7 (upd (X.1 7) 4 (nI 0))) ((am_set X 7 (upd (X.1 7) 4 (nI 0))).1 25) (upd ((am_set X 7 (upd (X.1 7) 4 (nI 0))).1 26) r0 (nI 1))) := by
          rw [q13_36, am_wI_s, x79, bI_r, rd_n hk (by omega), s_ne _ _ (show (17 : Nat) ≠ 7 by decide), e17, a2, hw, bV_r, show nI k + nI 1 = nI (k + 1) from nI_1 _]
        rw [q13_14, if_neg (by rw [i_le, i_n (by omega), i_n (by omega)]; omega), e82, bI_r, h36]
        by_cases e : σ.1 19 k = nI 0
        · rw [bz_f (fun z => z e), if_pos rfl, if_pos (hyes.resolve_left (fun z => z e))]
        · rw [bz_t e, if_neg n10]
      · rw [S2_25, s_ne _ _ (by decide)]; exact z1 j j1 j2
      · rw [S2_26, s_ne _ _ (by decide)]
        by_cases er : r = r0
        · rw [show upd (X.1 26) r0 (nI 1) r = nI 1 from if_pos er]
          exact ⟨fun _ => ⟨k, by omega, hm, by rw [er]; exact a2⟩, fun _ => n10⟩
        · rw [show upd (X.1 26) r0 (nI 1) r = X.1 26 r from if_neg er, w1 r hr]
          constructor
          · rintro ⟨k', a, b⟩; exact ⟨k', by omega, b⟩
          · rintro ⟨k', a, b, e⟩
            by_cases ek : k' = k
            · subst ek
              rw [a2] at e
              exact absurd (nI_inj (by omega) (by omega) e).symm er
            · exact ⟨k', by omega, b, e⟩
      · refine Or.inr ⟨?_, fun z => z ⟨k, by omega, hm⟩⟩
        rw [S2_o _ _ _ (by decide) (by decide), s_eq]; exact if_pos rfl) (S2 (am_set σ 7 (upd (σ.1 7) 4 (nI 1))) (fil (σ.1 25) (kc + 1) (nI 0)) (fil (σ.1 26) 200 (nI 0))) ⟨((Sm.refl σ).set (by decide) _).trans (S2_sm _ _ _), rfl, fun j j1 j2 => by rw [S2_25]; exact if_pos (by omega), fun r hr => by
      rw [S2_26, fil_i (by omega)]
      exact ⟨fun z => absurd rfl z, fun ⟨k', a, _⟩ => by omega⟩, Or.inl ⟨by rw [S2_o _ _ _ (by decide) (by decide), s_eq]; exact if_pos rfl, fun ⟨k', a, _⟩ => by omega⟩⟩
  refine ⟨X, ?_, s1, n1, z1, fun r hr => ?_, ?_⟩
  · have hb := x64 (d + 3) ((am_set σ 7 (upd (σ.1 7) 4 (nI 1))).1 25) ((am_set σ 7 (upd (σ.1 7) 4 (nI 1))).1 26) (h.sm ((Sm.refl σ).set (a := 7) (by decide) (upd (σ.1 7) 4 (nI 1))))
    rw [S2_self, s_ne _ _ (by decide), s_ne _ _ (by decide)] at hb
    have e1 : am_go am_X0 (am_ex (d + 5)) M13 14 [.ref 7, .int al, .int (nI 0)] [] (S2 (am_set σ 7 (upd (σ.1 7) 4 (nI 1))) (fil (σ.1 25) (kc + 1) (nI 0)) (fil (σ.1 26) 200 (nI 0))) = am_go am_X0 (am_ex (d + 5)) M13 14 [.ref 7, .int al, .int (nI 64)] [] X := e1
    rw [e13, q13_0, am_wI_s, hb, bV_r, e1, q13_14, if_pos (by decide)]
  · rw [w1 r hr]; exact Iff.rfl
  · exact f1
/-- the second part: place by place -/
theorem x18 (h : Inv0 c kc md rc td lev rk σ) {X : am_M} (hs : Sm σ X) (hw : ∀ r, r < rc → (¬ X.1 26 r = nI 0 ↔ Wu (σ.1 17) u r)) {p : Nat} (h0 : 0 < p) (hp : p < 85) (hst : ∀ q, p < q → q < 85 → Flg (X.1 29 q) (sty (σ.1 17) u q)) : ∃ v, am_ex (d + 4) 18 [.ref 7, .int (nI p)] X = rI v X ∧ Flg v (sty (σ.1 17) u p) := by
  have hrb := h.core.rcb
  by_cases hp21 : p < 21
  · refine ⟨bz (¬ cnt (fun i => ¬ X.1 29 (4 * p + 1 + i) = nI 0) 0 4 = 0), ?_, ?_⟩
    · have hc4 : cnt (fun i => ¬ X.1 29 (4 * p + 1 + i) = nI 0) 0 4 ≤ 4 := cnt_le _ 4 0
      rw [e18, q18_0, x163, nI_r, bz_f (s21_lt hp21), if_pos rfl, x19 d X hp21, bI_r]
      by_cases e : cnt (fun i => ¬ X.1 29 (4 * p + 1 + i) = nI 0) 0 4 = 0
      · rw [bz_f (fun z => z e), if_pos (by rw [e]; exact le00)]
      · rw [bz_t e, if_neg (by rw [i_le, i_n (by omega), i_n (by omega)]; omega)]
    · have hiff : sty (σ.1 17) u p ↔ ¬ cnt (fun i => ¬ X.1 29 (4 * p + 1 + i) = nI 0) 0 4 = 0 := by
        rw [sty_in _ _ h0 hp21]
        constructor
        · rintro ⟨i, hi, e⟩ z
          exact cnt_0 _ _ z i (by omega) (by omega) ((hst (4 * p + 1 + i) (by omega) (by omega)).ne.mpr e)
        · intro z
          apply Classical.byContradiction
          intro hno
          apply z
          have : ∀ n i, i + n ≤ 4 → cnt (fun i => ¬ X.1 29 (4 * p + 1 + i) = nI 0) i n = 0 := by
            intro n
            induction n with
            | zero => intro i _; rfl
            | succ n ih =>
              intro i hi
              rw [cnt, ih (i + 1) (by omega), if_neg (fun e => hno ⟨i, by omega, (hst (4 * p + 1 + i) (by omega) (by omega)).ne.mp e⟩)]
          exact this 4 0 (by omega)
      by_cases e : cnt (fun i => ¬ X.1 29 (4 * p + 1 + i) = nI 0) 0 4 = 0
      · exact Or.inr ⟨bz_f (fun z => z e), fun z => hiff.mp z e⟩
      · exact Or.inl ⟨bz_t e, hiff.mpr e⟩
  · have e17 : X.1 17 = σ.1 17 := hs.i 17 (by decide) (by decide)
    have hleaf := sty_leaf (σ.1 17) u (p := p) (by omega)
    have hpre : am_ex (d + 4) 18 [.ref 7, .int (nI p)] X = if σ.1 17 (p - 21) = -1 then rI (nI 0) X else am_bI (am_ex (d + 3) 66 [.ref 5, .int (σ.1 17 (p - 21))] X) (fun r4 t4 => if r4 = nI 0 then rI (nI 1) t4 else rI (nI 0) t4) := by
      rw [e18, q18_0, nI_s21 (by omega) (by omega), x163, nI_r, bz_t (inR_n (by omega) (by omega)), if_neg n10, x79, bI_r, rd_n (by omega) (by omega), e17]
    rcases h.core.rec (p - 21) (by omega) with a | ⟨r, a1, a2, a3⟩
    · exact ⟨nI 0, by rw [hpre, if_pos a], Or.inr ⟨rfl, fun z => (hleaf.mp z).1 a⟩⟩
    · have hwk := Wu_k (u := u) h (k := p - 21) (by omega) a1 a2
      have h66 := w66 (d + 1) (X.1 25) (X.1 26) (h.sm hs) a1
      rw [S2_self] at h66
      have hne : ¬ σ.1 17 (p - 21) = -1 := by rw [a2]; exact nI_nm (by omega)
      by_cases e : X.1 26 r = nI 0
      · refine ⟨nI 1, by rw [hpre, if_neg hne, a2, h66, bI_r, bz_f (fun z => z e), if_pos rfl], Or.inl ⟨rfl, hleaf.mpr ⟨hne, ?_⟩⟩⟩
        exact Classical.not_not.mp (fun z => (hw r a1).mpr (hwk.mpr z) e)
      · refine ⟨nI 0, by rw [hpre, if_neg hne, a2, h66, bI_r, bz_t e, if_neg n10], Or.inr ⟨rfl, fun z => ?_⟩⟩
        exact hwk.mp ((hw r a1).mp e) (hleaf.mp z).2
theorem x13 (h : Inv0 c kc md rc td lev rk σ) {al : Int32} (hu : ∀ k, k < 64 → (¬ u k = nI 0 ↔ (¬ σ.1 19 k = nI 0 ∨ nI k = al))) (hok : okU (σ.1 17) u) : ∃ X, am_ex (d + 6) 13 [.ref 7, .int al] σ = rV X ∧ Pl kc rc md lev σ u X := by
  have hkl := h.kl
  obtain ⟨X0, e0, s0, n0, z0, w0, f0⟩ := x13a d h hu hok
  have h69 := x69 (d + 1) (X0.1 26) (h.sm s0) (f := X0.1 25) z0
  rw [S2_self] at h69
  obtain ⟨f, e1, hF⟩ := h69
  have hF2 : Fnd kc rc lev σ md (Wu (σ.1 17) u) f := fun k k1 k2 => by
    have := hF k k1 k2
    rw [Op_sm s0.e, Op_c w0] at this
    exact this
  obtain ⟨X, e2, s2, n2, a25, a26, a7, i1, i2⟩ := lp_inv (fun j (X : am_M) => Sm σ X ∧ X.2.2 = σ.2.2 ∧ X.1 25 = f ∧ X.1 26 = X0.1 26 ∧ X.1 7 = X0.1 7 ∧ (∀ p, 85 - j ≤ p → p < 85 → Flg (X.1 29 p) (sty (σ.1 17) u p)) ∧ (∀ p, 85 - j ≤ p → p < 85 → Flg (X.1 30 p) (opn kc rc md σ u p))) 0 85 (by omega) (fun j X => am_go am_X0 (am_ex (d + 5)) M13 72 [.ref 7, .int al, .int (nI (85 - j) - nI 1)] [] X) (by
    rintro j X _ hj ⟨s1, n1, a25, a26, a7, i1, i2⟩
    have hv : nI (85 - j) - nI 1 = nI (84 - j) := by rw [nI_sub (by omega) (by omega), show 85 - j - 1 = 84 - j by omega]
    have hv2 : nI (84 - j) + (-1) = nI (85 - (j + 1)) - nI 1 := by
      rw [show 85 - (j + 1) = 84 - j by omega, Int32.sub_eq_add_neg]; rfl
    generalize hp : 84 - j = p at hv hv2
    have e16 : X.1 16 = σ.1 16 := s1.i 16 (by decide) (by decide)
    have hFX : Fnd kc rc lev X md (Wu (σ.1 17) u) f := fun k k1 k2 => by
      have := hF2 k k1 k2
      rw [← Op_sm s1.e] at this
      exact this
    -- opens
    obtain ⟨o, eo, ho⟩ : ∃ o, am_go am_X0 (am_ex (d + 5)) M13 72 [.ref 7, .int al, .int (nI p)] [] X = am_go am_X0 (am_ex (d + 5)) M13 108 [.ref 7, .int al, .int (nI p)] [.int o, .int (nI p), .ref 30] X ∧ Flg o (opn kc rc md σ u p) := by
      rw [q13_72, if_neg (by rw [i_lt, i_n (by omega), i_n (by omega)]; omega)]
      by_cases h0 : p = 0
      · exact ⟨nI 1, by rw [if_pos (by rw [h0]), q13_103], Or.inl ⟨rfl, Or.inl h0⟩⟩
      · have h67 := w67p (d + 3) (h.sm s1) (X.1 26) hFX (σ.1 16 p)
        rw [← a25, S2_self] at h67
        obtain ⟨v, ev, hv⟩ := h67
        rw [if_neg (fun z => h0 (nI_inj (by omega) (by omega) z)), x77, bI_r, rd_n (by omega) (by omega), e16, ev, bI_r]
        by_cases e : v ≤ nI 0
        · refine ⟨nI 0, by rw [if_pos e], Or.inr ⟨rfl, fun z => ?_⟩⟩
          rcases z with z | z
          · exact h0 z
          · exact hv.mp e ((OpV_sm s1.e _).mpr z)
        · refine ⟨nI 1, by rw [if_neg e, q13_103], Or.inl ⟨rfl, Or.inr ((OpV_sm s1.e _).mp (Classical.not_not.mp (fun z => e (hv.mpr z))))⟩⟩
    have no : vp_nar .boolean o = o := by
      rcases ho with ⟨z, _⟩ | ⟨z, _⟩
      · rw [z]; exact nb_1
      · rw [z]; exact nb_0
    have s3 : Sm σ (am_set X 30 (upd (X.1 30) p o)) := s1.set (by decide) _
    -- stays
    obtain ⟨t, et, ht⟩ : ∃ t, am_go am_X0 (am_ex (d + 5)) M13 108 [.ref 7, .int al, .int (nI p)] [.int o, .int (nI p), .ref 30] X = am_go am_X0 (am_ex (d + 5)) M13 131 [.ref 7, .int al, .int (nI p)] [.int t, .int (nI p), .ref 29] (am_set X 30 (upd (X.1 30) p o)) ∧ Flg t (sty (σ.1 17) u p) := by
      rw [q13_108, if_pos (am_k (by omega) (by omega)), i_cl (by omega), no, am_wI_s]
      by_cases h0 : p = 0
      · exact ⟨nI 1, by rw [if_pos (by rw [h0]), q13_126], Or.inl ⟨rfl, Or.inl h0⟩⟩
      · obtain ⟨t, et, ht⟩ := x18 (d + 1) (u := u) h s3 (fun r hr => by rw [s_ne _ _ (by decide), a26]; exact w0 r hr) (p := p) (by omega) (by omega) (fun q q1 q2 => by rw [s_ne _ _ (by decide)]; exact i1 q (by omega) q2)
        refine ⟨t, ?_, ht⟩
        rw [if_neg (fun z => h0 (nI_inj (by omega) (by omega) z)), et, bI_r]
        rcases ht with ⟨z, _⟩ | ⟨z, _⟩
        · rw [z, if_neg n10, q13_126]
        · rw [z, if_pos rfl]
    have nt : vp_nar .boolean t = t := by
      rcases ht with ⟨z, _⟩ | ⟨z, _⟩
      · rw [z]; exact nb_1
      · rw [z]; exact nb_0
    refine ⟨am_set (am_set X 30 (upd (X.1 30) p o)) 29 (upd (X.1 29) p t), ?_, s3.set (by decide) _, n1, ?_, ?_, ?_, fun q q1 q2 => ?_, fun q q1 q2 => ?_⟩
    · show am_go am_X0 (am_ex (d + 5)) M13 72 [.ref 7, .int al, .int (nI (85 - j) - nI 1)] [] X = am_go am_X0 (am_ex (d + 5)) M13 72 [.ref 7, .int al, .int (nI (85 - (j + 1)) - nI 1)] [] _
      rw [hv, eo, et, q13_131, if_pos (am_k (by omega) (by omega)), i_cl (by omega), nt, am_wI_s, s_ne _ _ (show (29 : Nat) ≠ 30 by decide), hv2]
    · rw [s_ne _ _ (by decide), s_ne _ _ (by decide)]; exact a25
    · rw [s_ne _ _ (by decide), s_ne _ _ (by decide)]; exact a26
    · rw [s_ne _ _ (by decide), s_ne _ _ (by decide)]; exact a7
    · rw [s_eq]
      by_cases e : q = p
      · rw [show upd (X.1 29) p t q = t from if_pos e, e]; exact ht
      · rw [show upd (X.1 29) p t q = X.1 29 q from if_neg e]; exact i1 q (by omega) q2
    · rw [s_ne _ _ (by decide), s_eq]
      by_cases e : q = p
      · rw [show upd (X.1 30) p o q = o from if_pos e, e]; exact ho
      · rw [show upd (X.1 30) p o q = X.1 30 q from if_neg e]; exact i2 q (by omega) q2) (S2 X0 f (X0.1 26)) ⟨s0.trans (S2_sm _ _ _), n0, S2_25 _ _ _, S2_26 _ _ _, S2_o _ _ _ (by decide) (by decide), fun p p1 p2 => by omega, fun p p1 p2 => by omega⟩
  refine ⟨X, ?_, s2, n2, by rw [a7]; exact f0, fun p hp => i1 p (by omega) hp, fun p hp => i2 p (by omega) hp, by rw [a25]; exact hF2⟩
  have e2 : am_go am_X0 (am_ex (d + 5)) M13 72 [.ref 7, .int al, .int (nI 84)] [] (S2 X0 f (X0.1 26)) = am_go am_X0 (am_ex (d + 5)) M13 72 [.ref 7, .int al, .int (nI 0 - nI 1)] [] X := e2
  rw [e0, e1, bV_r, e2, q13_72, if_pos (by decide)]
end MKP
