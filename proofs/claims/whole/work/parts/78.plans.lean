/-! the reference makes its plan -/
section PLM
variable (d : Nat) {c kc md rc td : Nat} {lev rk : Nat → Nat} {σ : am_M}
theorem fld_s {α : Type} (f : Nat → α → α) : ∀ n i x, fld f i (n + 1) x = f (i + n) (fld f i n x) := by
  intro n
  induction n with
  | zero => intro i x; rfl
  | succ n ih =>
    intro i x
    have := ih (i + 1) (f i x)
    show fld f (i + 1) (n + 1) (f i x) = f (i + (n + 1)) (fld f (i + 1) n (f i x))
    rw [this, show i + 1 + n = i + (n + 1) by omega]
theorem R2_self {Y : am_M} {n : Nat} (h : Y.1 34 27 = nI n) : R2 Y (Y.1 55) n = Y := by
  unfold R2
  rw [s_self, ← h]
  have : upd (Y.1 34) 27 (Y.1 34 27) = Y.1 34 := by
    funext j
    unfold upd
    by_cases e : j = 27
    · rw [if_pos e, e]
    · rw [if_neg e]
  rw [this, s_self]
/-- a place that stays has a node -/
theorem sty_n (h : Inv c kc md rc td lev rk σ) (u : Nat → Int32) {p : Nat} (hp : p < 85) (hs : sty (σ.1 17) u p) : ¬ σ.1 16 p = nI 0 := by
  have key : ∀ f p, p < 85 → lvl p + f = 3 → sty (σ.1 17) u p → ¬ σ.1 16 p = nI 0 := by
    intro f
    induction f with
    | zero =>
      intro p hp hl hs e
      have hp21 : 21 ≤ p := by unfold lvl at hl; split at hl <;> (try split at hl) <;> (try split at hl) <;> omega
      have := (sty_leaf _ _ hp21).mp hs
      have h2 := h.lf.lfn (p - 21) (by omega)
      rw [show 21 + (p - 21) = p by omega] at h2
      exact this.1 (h2.mpr e)
    | succ f ih =>
      intro p hp hl hs
      by_cases h0 : p = 0
      · rw [h0]; exact h.core.root
      · have hp21 : p < 21 := by
          by_cases e : p < 21
          · exact e
          · have := lvl_lf (p := p) (by omega); omega
        obtain ⟨i, hi, e⟩ := (sty_in _ _ (by omega) hp21).mp hs
        have hl2 := lvl_ch (p := p) (c := 1 + i) hp21 (by omega) (by omega)
        rw [← Nat.add_assoc] at hl2
        have h1 := ih (4 * p + 1 + i) (by omega) (by omega) e
        have h2 := h.core.pars (4 * p + 1 + i) (by omega) (by omega) h1
        have h3 := par_ch (p := p) (c := 1 + i) (by omega) (by omega)
        rw [← Nat.add_assoc] at h3
        rw [h3] at h2
        exact h2
  exact key (3 - lvl p) p hp (by have := lvl_3 p; omega) hs
/-- what is left of a place -/
abbrev Thn (σ : am_M) (u : Nat → Int32) (p : Nat) (v : Int32) : Prop := (sty (σ.1 17) u p ∧ v = σ.1 16 p) ∨ (¬ sty (σ.1 17) u p ∧ v = nI 0)
theorem Thn.ne (h : Inv c kc md rc td lev rk σ) {u : Nat → Int32} {p : Nat} (hp : p < 85) {v : Int32} (ht : Thn σ u p v) : ¬ v = nI 0 ↔ sty (σ.1 17) u p := by
  rcases ht with ⟨a, b⟩ | ⟨a, b⟩
  · rw [b]; exact ⟨fun _ => a, fun _ => sty_n h u hp a⟩
  · exact ⟨fun z => absurd b z, fun z => absurd z a⟩
/-- the plan as the reference holds it -/
abbrev PlM (kc rc md : Nat) (σ : am_M) (u : Nat → Int32) (Y : am_M) : Prop := (Sm σ Y) ∧ (Y.2.2 = σ.2.2) ∧ (Y.1 34 25 = σ.1 34 25) ∧ (∀ p, p < 85 → Thn σ u p (Y.1 36 p)) ∧ (∀ p, p < 21 → Flg (Y.1 42 p) (rky kc rc md σ u p)) ∧ (∀ q, q < 4 → Flg (Y.1 43 q) (OpV kc rc md σ (Wu (σ.1 17) u) (σ.1 11 q)))
theorem PlM.sm {kc rc md : Nat} {σ : am_M} {u : Nat → Int32} {Y : am_M} (h : PlM kc rc md σ u Y) : Sm σ Y := h.1
theorem PlM.n {kc rc md : Nat} {σ : am_M} {u : Nat → Int32} {Y : am_M} (h : PlM kc rc md σ u Y) : Y.2.2 = σ.2.2 := h.2.1
theorem PlM.t {kc rc md : Nat} {σ : am_M} {u : Nat → Int32} {Y : am_M} (h : PlM kc rc md σ u Y) : Y.1 34 25 = σ.1 34 25 := h.2.2.1
theorem PlM.th {kc rc md : Nat} {σ : am_M} {u : Nat → Int32} {Y : am_M} (h : PlM kc rc md σ u Y) : ∀ p, p < 85 → Thn σ u p (Y.1 36 p) := h.2.2.2.1
theorem PlM.ry {kc rc md : Nat} {σ : am_M} {u : Nat → Int32} {Y : am_M} (h : PlM kc rc md σ u Y) : ∀ p, p < 21 → Flg (Y.1 42 p) (rky kc rc md σ u p) := h.2.2.2.2.1
theorem PlM.af {kc rc md : Nat} {σ : am_M} {u : Nat → Int32} {Y : am_M} (h : PlM kc rc md σ u Y) : ∀ q, q < 4 → Flg (Y.1 43 q) (OpV kc rc md σ (Wu (σ.1 17) u) (σ.1 11 q)) := h.2.2.2.2.2
theorem PlM.mk {kc rc md : Nat} {σ : am_M} {u : Nat → Int32} {Y : am_M} (sm : Sm σ Y) (n : Y.2.2 = σ.2.2) (t : Y.1 34 25 = σ.1 34 25) (th : ∀ p, p < 85 → Thn σ u p (Y.1 36 p)) (ry : ∀ p, p < 21 → Flg (Y.1 42 p) (rky kc rc md σ u p)) (af : ∀ q, q < 4 → Flg (Y.1 43 q) (OpV kc rc md σ (Wu (σ.1 17) u) (σ.1 11 q))) : PlM kc rc md σ u Y := ⟨sm, n, t, th, ry, af⟩
/-- what every step of planning keeps -/
abbrev Bs (σ : am_M) (f : Nat → Int32) (n : Nat) (Y : am_M) : Prop := (Sm σ Y) ∧ (Y.2.2 = σ.2.2) ∧ (Y.1 34 25 = σ.1 34 25) ∧ (Y.1 55 = f) ∧ (Y.1 34 27 = nI n)
theorem Bs.sm {σ : am_M} {f : Nat → Int32} {n : Nat} {Y : am_M} (h : Bs σ f n Y) : Sm σ Y := h.1
theorem Bs.nn {σ : am_M} {f : Nat → Int32} {n : Nat} {Y : am_M} (h : Bs σ f n Y) : Y.2.2 = σ.2.2 := h.2.1
theorem Bs.t {σ : am_M} {f : Nat → Int32} {n : Nat} {Y : am_M} (h : Bs σ f n Y) : Y.1 34 25 = σ.1 34 25 := h.2.2.1
theorem Bs.ff {σ : am_M} {f : Nat → Int32} {n : Nat} {Y : am_M} (h : Bs σ f n Y) : Y.1 55 = f := h.2.2.2.1
theorem Bs.m {σ : am_M} {f : Nat → Int32} {n : Nat} {Y : am_M} (h : Bs σ f n Y) : Y.1 34 27 = nI n := h.2.2.2.2
theorem Bs.mk {σ : am_M} {f : Nat → Int32} {n : Nat} {Y : am_M} (sm : Sm σ Y) (nn : Y.2.2 = σ.2.2) (t : Y.1 34 25 = σ.1 34 25) (ff : Y.1 55 = f) (m : Y.1 34 27 = nI n) : Bs σ f n Y := ⟨sm, nn, t, ff, m⟩
theorem Bs.set {f : Nat → Int32} {n : Nat} {Y : am_M} (h : Bs σ f n Y) {a : Nat} (ha : a = 36 ∨ a = 42 ∨ a = 43) (x : Nat → Int32) : Bs σ f n (am_set Y a x) := by
  have h34 : (34 : Nat) ≠ a := by omega
  exact ⟨h.sm.set (by unfold scr; omega) x, h.nn, by rw [s_ne _ _ h34]; exact h.t, by rw [s_ne _ _ (by omega)]; exact h.ff, by rw [s_ne _ _ h34]; exact h.m⟩
theorem Bs.has {f : Nat → Int32} {n : Nat} {Y : am_M} (h : Bs σ f n Y) (hn : n ≤ 2500) (x : Int32) : am_ex (d + 1) 195 [.ref 34, .int x] Y = rI (bz (ext (fun i => f i = x) 0 n = true)) Y := by
  have := y195 d (σ := Y) (f := Y.1 55) hn x
  rw [R2_self h.m, h.ff] at this
  exact this
theorem y228 (Y : am_M) {p : Nat} (hp : p < 21) : am_ex (d + 1) 228 [.ref 34, .int (nI p)] Y = rI (bz (ext (fun i => ¬ Y.1 36 (4 * p + 1 + i) = nI 0) 0 4 = true)) Y := by
  rw [e228, q228_0, pk_mul, nI_add]
  have := lp_ext (fun i => ¬ Y.1 36 (4 * p + 1 + i) = nI 0) 0 4 (by omega) (fun i => am_go am_X0 (am_ex d) M228 6 [.ref 34, .int (nI p), .int (nI (4 * p + 1 + i))] [] Y) (rI (nI 1) Y) (rI (nI 0) Y) ?_ ?_
  · refine Eq.trans this ?_
    rw [Nat.sub_zero]
    by_cases e : ext (fun i => ¬ Y.1 36 (4 * p + 1 + i) = nI 0) 0 4 = true
    · rw [if_pos e, bz_t e]
    · rw [if_neg e, bz_f e]
  · show am_go am_X0 (am_ex d) M228 6 [.ref 34, .int (nI p), .int (nI (4 * p + 1 + 4))] [] Y = _
    rw [q228_6, pk_mul, nI_add, if_pos (by rw [i_lt, i_n (by omega), i_n (by omega)]; omega)]
  · intro i _ hi
    show am_go am_X0 (am_ex d) M228 6 [.ref 34, .int (nI p), .int (nI (4 * p + 1 + i))] [] Y = if ¬ Y.1 36 (4 * p + 1 + i) = nI 0 then rI (nI 1) Y else am_go am_X0 (am_ex d) M228 6 [.ref 34, .int (nI p), .int (nI (4 * p + 1 + (i + 1)))] [] Y
    rw [q228_6, pk_mul, nI_add, if_neg (by rw [i_lt, i_n (by omega), i_n (by omega)]; omega), if_pos (am_k (by omega) (by omega)), i_cl (by omega), show nI (4 * p + 1 + i) + nI 1 = nI (4 * p + 1 + (i + 1)) from nI_1 _]
    by_cases e : Y.1 36 (4 * p + 1 + i) = nI 0
    · rw [if_pos e, if_neg (fun z => z e)]
    · rw [if_neg e, if_pos e]
/-- keys of the marked leaves' records, and all that open them -/
theorem y229a (h : Inv0 c kc md rc td lev rk σ) (hok : okU (σ.1 17) (σ.1 41)) : ∃ f n, am_ex (d + 4) 229 [.ref 34] σ = am_go am_X0 (am_ex (d + 3)) M229 45 [.ref 34, .int (nI 0), .null, .null] [] (R2 σ f n) ∧ ST kc f n ∧ ∀ j, 1 ≤ j → j ≤ kc → (mS f n j ↔ Op kc rc σ 0 md (Wu (σ.1 17) (σ.1 41)) j) := by
  obtain ⟨⟨f1, n1⟩, e1, s1, i1⟩ := lp_inv (fun k (p : (Nat → Int32) × Nat) => ST kc p.1 p.2 ∧ ∀ j, 1 ≤ j → j ≤ kc → (mS p.1 p.2 j ↔ ∃ k' r, k' < k ∧ ¬ σ.1 41 k' = nI 0 ∧ σ.1 17 k' = nI r ∧ RcE kc rc σ 0 md r j)) 0 64 (by omega) (fun k p => am_go am_X0 (am_ex (d + 3)) M229 7 [.ref 34, .int (nI k), .null, .null] [] (R2 σ p.1 p.2)) (by
    rintro k ⟨f1, n1⟩ _ hk ⟨s1, i1⟩
    have s1 : ST kc f1 n1 := s1
    have i1 : ∀ j, 1 ≤ j → j ≤ kc → (mS f1 n1 j ↔ ∃ k' r, k' < k ∧ ¬ σ.1 41 k' = nI 0 ∧ σ.1 17 k' = nI r ∧ RcE kc rc σ 0 md r j) := i1
    have hpre : am_go am_X0 (am_ex (d + 3)) M229 7 [.ref 34, .int (nI k), .null, .null] [] (R2 σ f1 n1) = if σ.1 41 k = nI 0 then am_go am_X0 (am_ex (d + 3)) M229 7 [.ref 34, .int (nI (k + 1)), .null, .null] [] (R2 σ f1 n1) else am_bV (am_ex (d + 3) 197 [.ref 34, .int (σ.1 17 k)] (R2 σ f1 n1)) (fun t2 => am_go am_X0 (am_ex (d + 3)) M229 7 [.ref 34, .int (nI (k + 1)), .null, .null] [] t2) := by
      rw [q229_7, if_neg (by rw [i_le, i_n (by omega), i_n (by omega)]; omega), if_pos (am_k (by omega) (by omega)), i_cl (by omega), R2_o _ _ _ (show (41 : Nat) ≠ 55 by decide) (by decide), if_pos (am_k (by omega) (by omega)), R2_o _ _ _ (show (37 : Nat) ≠ 55 by decide) (by decide), h.e37, show nI k + nI 1 = nI (k + 1) from nI_1 _]
    by_cases hm : σ.1 41 k = nI 0
    · refine ⟨(f1, n1), ?_, s1, fun j j1 j2 => ?_⟩
      · show am_go am_X0 (am_ex (d + 3)) M229 7 [.ref 34, .int (nI k), .null, .null] [] (R2 σ f1 n1) = am_go am_X0 (am_ex (d + 3)) M229 7 [.ref 34, .int (nI (k + 1)), .null, .null] [] (R2 σ f1 n1)
        rw [hpre, if_pos hm]
      · refine (i1 j j1 j2).trans ?_
        constructor
        · rintro ⟨k', r, a, b⟩; exact ⟨k', r, by omega, b⟩
        · rintro ⟨k', r, a, b, e⟩
          by_cases ek : k' = k
          · subst ek; exact absurd hm b
          · exact ⟨k', r, by omega, b, e⟩
    · obtain ⟨r, a1, a2, a3⟩ := (h.core.rec k hk).resolve_left (hok k hk hm)
      obtain ⟨f2, n2, k1, k2, k3⟩ := y197 d h a1 s1
      have hrb := h.core.rcb
      refine ⟨(f2, n2), ?_, k2, fun j j1 j2 => ?_⟩
      · show am_go am_X0 (am_ex (d + 3)) M229 7 [.ref 34, .int (nI k), .null, .null] [] (R2 σ f1 n1) = am_go am_X0 (am_ex (d + 3)) M229 7 [.ref 34, .int (nI (k + 1)), .null, .null] [] (R2 σ f2 n2)
        rw [hpre, if_neg hm, a2, k1, bV_r]
      · refine (k3 j j1 j2).trans ?_
        rw [i1 j j1 j2]
        constructor
        · rintro (⟨k', r', a, b⟩ | e)
          · exact ⟨k', r', by omega, b⟩
          · exact ⟨k, r, by omega, hm, a2, e⟩
        · rintro ⟨k', r', a, b, e, q⟩
          by_cases ek : k' = k
          · subst ek
            obtain ⟨_, _, _, _, _, _, _, _, b1, _⟩ := id q
            rw [a2] at e
            rw [nI_inj (by omega) (by omega) e]
            exact Or.inr q
          · exact Or.inl ⟨k', r', by omega, b, e, q⟩) (σ.1 55, 0) ⟨ST.nil _, fun j _ _ => ⟨fun z => absurd z mS_0, fun ⟨k', r, a, _⟩ => by omega⟩⟩
  have e1 : am_go am_X0 (am_ex (d + 3)) M229 7 [.ref 34, .int (nI 0), .null, .null] [] (R2 σ (σ.1 55) 0) = am_go am_X0 (am_ex (d + 3)) M229 7 [.ref 34, .int (nI 64), .null, .null] [] (R2 σ f1 n1) := e1
  have i1 : ∀ j, 1 ≤ j → j ≤ kc → (mS f1 n1 j ↔ ∃ k' r, k' < 64 ∧ ¬ σ.1 41 k' = nI 0 ∧ σ.1 17 k' = nI r ∧ RcE kc rc σ 0 md r j) := i1
  obtain ⟨f2, n2, e2, s2, o2, g2, c2⟩ := y198u d (O := Op kc rc σ 0 md (Wu (σ.1 17) (σ.1 41))) h s1 (fun j k1 k2 z => by
    obtain ⟨k', r, a, b, e, q⟩ := (i1 j k1 k2).mp z
    exact ⟨0, r, ⟨k', a, b, e⟩, q⟩) (fun x y e ⟨n, hn⟩ => ⟨n + 1, x, e, hn⟩)
  refine ⟨f2, n2, ?_, s2, fun j k1 k2 => ⟨o2 j k1 k2, ?_⟩⟩
  · rw [e229, q229_0, R2_0, e1, q229_7, if_pos (by decide), e2, bV_r]
  · rintro ⟨n, hn⟩
    have : ∀ n j, Cl (RcB kc rc σ 0 md (Wu (σ.1 17) (σ.1 41))) (EdU kc σ 0 md) n j → mS f2 n2 j := by
      intro n
      induction n with
      | zero =>
        rintro j ⟨r, ⟨k', a, b, e⟩, q⟩
        obtain ⟨_, _, _, _, _, _, _, _, _, b1, b2⟩ := id q
        exact g2.2.2 j b1 b2 ((i1 j b1 b2).mpr ⟨k', r, a, b, e, q⟩)
      | succ n ih =>
        rintro j ⟨i, e, hi⟩
        exact c2 i j e (ih i hi)
    exact this n j hn
/-- the custodians that open one -/
theorem y229b (h : Inv0 c kc md rc td lev rk σ) {W : Nat → Prop} {f : Nat → Int32} {n : Nat} (hS : ST kc f n) (hO : ∀ j, 1 ≤ j → j ≤ kc → (mS f n j ↔ Op kc rc σ 0 md W j)) {Y0 : am_M} (hY0 : Bs σ f n Y0) : ∃ Y, am_go am_X0 (am_ex (d + 3)) M229 45 [.ref 34, .int (nI 0), .null, .null] [] Y0 = am_go am_X0 (am_ex (d + 3)) M229 92 [.ref 34, .int (nI 84), .null, .null] [] Y ∧ Bs σ f n Y ∧ ∀ q, q < 4 → Flg (Y.1 43 q) (OpV kc rc md σ W (σ.1 11 q)) := by
  have hkl := h.kl
  have hle := hS.le
  obtain ⟨Y, e1, b1, i1⟩ := lp_inv (fun q (Y : am_M) => Bs σ f n Y ∧ ∀ q', q' < q → Flg (Y.1 43 q') (OpV kc rc md σ W (σ.1 11 q'))) 0 4 (by omega) (fun q Y => am_go am_X0 (am_ex (d + 3)) M229 45 [.ref 34, .int (nI q), .null, .null] [] Y) (by
    rintro q Y _ hq ⟨b1, i1⟩
    have e39 : Y.1 39 = σ.1 39 := b1.sm.i 39 (by decide) (by decide)
    obtain ⟨o, eo, ho⟩ : ∃ o, am_go am_X0 (am_ex (d + 3)) M229 45 [.ref 34, .int (nI q), .null, .null] [] Y = am_go am_X0 (am_ex (d + 3)) M229 82 [.ref 34, .int (nI q), .null, .null] [.int o, .int (nI q), .ref 43] Y ∧ Flg o (OpV kc rc md σ W (σ.1 11 q)) := by
      rw [q229_45, if_neg (by rw [i_le, i_n (by omega), i_n (by omega)]; omega), if_pos (am_k (by omega) (by omega)), if_pos (am_k (by omega) (by omega)), i_cl (by omega), e39, q229_81]
      rcases h.kep q hq with ⟨b1, b2⟩ | ⟨k, p, k1, k2, _, b3, b4, _⟩
      · exact ⟨nI 0, by rw [b1, if_pos le00], Or.inr ⟨rfl, by rw [b2]; exact OpV_m hkl⟩⟩
      · rw [b3, if_neg (by rw [i_le, i_n (by omega), i_n (by omega)]; omega), b1.has (d + 2) (by omega), bI_r, q229_81, b4, OpV_k hkl k1 k2, ← hO k k1 k2]
        by_cases e : mS f n k
        · exact ⟨nI 1, by rw [bz_t e, if_neg n10], Or.inl ⟨rfl, e⟩⟩
        · exact ⟨nI 0, by rw [bz_f e, if_pos rfl], Or.inr ⟨rfl, e⟩⟩
    have no : vp_nar .boolean o = o := by
      rcases ho with ⟨z, _⟩ | ⟨z, _⟩
      · rw [z]; exact nb_1
      · rw [z]; exact nb_0
    refine ⟨am_set Y 43 (upd (Y.1 43) q o), ?_, b1.set (Or.inr (Or.inr rfl)) _, fun q' hq' => ?_⟩
    · show am_go am_X0 (am_ex (d + 3)) M229 45 [.ref 34, .int (nI q), .null, .null] [] Y = am_go am_X0 (am_ex (d + 3)) M229 45 [.ref 34, .int (nI (q + 1)), .null, .null] [] _
      rw [eo, q229_82, if_pos (am_k (by omega) (by omega)), i_cl (by omega), no, am_wI_s, show nI q + nI 1 = nI (q + 1) from nI_1 _]
    · rw [s_eq]
      by_cases e : q' = q
      · rw [show upd (Y.1 43) q o q' = o from if_pos e, e]; exact ho
      · rw [show upd (Y.1 43) q o q' = Y.1 43 q' from if_neg e]; exact i1 q' (by omega)) Y0 ⟨hY0, fun q' hq' => by omega⟩
  have e1 : am_go am_X0 (am_ex (d + 3)) M229 45 [.ref 34, .int (nI 0), .null, .null] [] Y0 = am_go am_X0 (am_ex (d + 3)) M229 45 [.ref 34, .int (nI 4), .null, .null] [] Y := e1
  exact ⟨Y, by rw [e1, q229_45, if_pos (by decide)], b1, i1⟩
/-- place by place, from the leaves to the root -/
theorem y229c (h : Inv c kc md rc td lev rk σ) {f : Nat → Int32} {n : Nat} (hS : ST kc f n) (hO : ∀ j, 1 ≤ j → j ≤ kc → (mS f n j ↔ Op kc rc σ 0 md (Wu (σ.1 17) (σ.1 41)) j)) {Y0 : am_M} (hY0 : Bs σ f n Y0) : ∃ Y, am_go am_X0 (am_ex (d + 3)) M229 92 [.ref 34, .int (nI 84), .null, .null] [] Y0 = am_go am_X0 (am_ex (d + 3)) M229 199 [.ref 34, .int (nI 0), .int (nI 0), .null] [] Y ∧ Bs σ f n Y ∧ Y.1 43 = Y0.1 43 ∧ (∀ p, p < 85 → Thn σ (σ.1 41) p (Y.1 36 p)) ∧ (∀ p, p < 85 → Flg (Y.1 42 p) (opn kc rc md σ (σ.1 41) p)) := by
  have hkl := h.kl
  have hle := hS.le
  obtain ⟨⟨Y, w⟩, e1, hw, b1, a43, i1, i2⟩ := lp_inv (fun j (P : am_M × Value) => (!(P.2.category == 2)) = true ∧ Bs σ f n P.1 ∧ P.1.1 43 = Y0.1 43 ∧ (∀ p, 85 - j ≤ p → p < 85 → Thn σ (σ.1 41) p (P.1.1 36 p)) ∧ (∀ p, 85 - j ≤ p → p < 85 → Flg (P.1.1 42 p) (opn kc rc md σ (σ.1 41) p))) 0 85 (by omega) (fun j P => am_go am_X0 (am_ex (d + 3)) M229 92 [.ref 34, .int (nI (85 - j) - nI 1), P.2, .null] [] P.1) (by
    rintro j ⟨Y, w⟩ _ hj ⟨hw, b1, a43, i1, i2⟩
    have hw : (!(w.category == 2)) = true := hw
    have b1 : Bs σ f n Y := b1
    have i1 : ∀ p, 85 - j ≤ p → p < 85 → Thn σ (σ.1 41) p (Y.1 36 p) := i1
    have i2 : ∀ p, 85 - j ≤ p → p < 85 → Flg (Y.1 42 p) (opn kc rc md σ (σ.1 41) p) := i2
    have hv : nI (85 - j) - nI 1 = nI (84 - j) := by rw [nI_sub (by omega) (by omega), show 85 - j - 1 = 84 - j by omega]
    have hv2 : nI (84 - j) + (-1) = nI (85 - (j + 1)) - nI 1 := by
      rw [show 85 - (j + 1) = 84 - j by omega, Int32.sub_eq_add_neg]; rfl
    generalize hp : 84 - j = p at hv hv2
    have e35 : Y.1 35 = σ.1 16 := by rw [b1.sm.i 35 (by decide) (by decide)]; exact h.e35
    have e41 : Y.1 41 = σ.1 41 := b1.sm.i 41 (by decide) (by decide)
    obtain ⟨o, eo, ho⟩ : ∃ o, am_go am_X0 (am_ex (d + 3)) M229 92 [.ref 34, .int (nI p), w, .null] [] Y = am_go am_X0 (am_ex (d + 3)) M229 132 [.ref 34, .int (nI p), w, .null] [.int o, .int (nI p), .ref 42] Y ∧ Flg o (opn kc rc md σ (σ.1 41) p) := by
      rw [q229_92 _ _ _ hw, if_neg (by rw [i_lt, i_n (by omega), i_n (by omega)]; omega), q229_127 _ _ _ _ hw, q229_131 _ _ _ _ hw]
      by_cases h0 : p = 0
      · exact ⟨nI 1, by rw [if_pos (by rw [h0])], Or.inl ⟨rfl, Or.inl h0⟩⟩
      · rw [if_neg (fun z => h0 (nI_inj (by omega) (by omega) z)), if_pos (am_k (by omega) (by omega)), if_pos (am_k (by omega) (by omega)), i_cl (by omega), e35]
        rcases h.core.node p (by omega) with a | ⟨k, k1, k2, k3, _⟩
        · exact ⟨nI 0, by rw [if_pos a], Or.inr ⟨rfl, fun z => z.elim h0 (fun z => by rw [a] at z; exact OpV_0 hkl z)⟩⟩
        · have hop : opn kc rc md σ (σ.1 41) p ↔ mS f n k := by
            unfold opn
            rw [k3, OpV_k hkl k1 k2, hO k k1 k2]
            exact ⟨fun z => z.resolve_left h0, Or.inr⟩
          rw [k3, if_neg (fun z => by have := nI_inj (by omega) (by omega) z; omega), b1.has (d + 2) (by omega), bI_r, q229_127 _ _ _ _ hw, q229_131 _ _ _ _ hw]
          by_cases e : mS f n k
          · exact ⟨nI 1, by rw [bz_t e, if_neg n10], Or.inl ⟨rfl, hop.mpr e⟩⟩
          · exact ⟨nI 0, by rw [bz_f e, if_pos rfl], Or.inr ⟨rfl, fun z => e (hop.mp z)⟩⟩
    have no : vp_nar .boolean o = o := by
      rcases ho with ⟨z, _⟩ | ⟨z, _⟩
      · rw [z]; exact nb_1
      · rw [z]; exact nb_0
    have b2 : Bs σ f n (am_set Y 42 (upd (Y.1 42) p o)) := b1.set (Or.inr (Or.inl rfl)) _
    have f36 : (am_set Y 42 (upd (Y.1 42) p o)).1 36 = Y.1 36 := s_ne _ _ (by decide)
    have f35 : (am_set Y 42 (upd (Y.1 42) p o)).1 35 = σ.1 16 := (s_ne _ _ (by decide)).trans e35
    have f41 : (am_set Y 42 (upd (Y.1 42) p o)).1 41 = σ.1 41 := (s_ne _ _ (by decide)).trans e41
    -- does the place go
    obtain ⟨g, t, eg, ht⟩ : ∃ (g : Int32) (t : Int32), am_go am_X0 (am_ex (d + 3)) M229 132 [.ref 34, .int (nI p), w, .null] [.int o, .int (nI p), .ref 42] Y = am_go am_X0 (am_ex (d + 3)) M229 188 [.ref 34, .int (nI p), .int g, .null] [.int t, .int (nI p), .ref 36] (am_set Y 42 (upd (Y.1 42) p o)) ∧ Thn σ (σ.1 41) p t := by
      rw [q229_132 _ _ _ _ _ hw, if_pos (am_k (by omega) (by omega)), i_cl (by omega), no, am_wI_s]
      have h168 : ∀ s0 : Int32, am_go am_X0 (am_ex (d + 3)) M229 168 [.ref 34, .int (nI p), w, .null] [.int s0] (am_set Y 42 (upd (Y.1 42) p o)) = am_go am_X0 (am_ex (d + 3)) M229 188 [.ref 34, .int (nI p), .int s0, .null] [.int (if s0 = nI 0 then σ.1 16 p else nI 0), .int (nI p), .ref 36] (am_set Y 42 (upd (Y.1 42) p o)) := fun s0 => by
        rw [q229_168 _ _ _ _ hw, if_pos (am_k (by omega) (by omega)), i_cl (by omega), f35]
        by_cases e : s0 = nI 0
        · rw [if_pos e, if_pos e]
        · rw [if_neg e, if_neg e]
      by_cases hp21 : p < 21
      · rw [if_pos (by rw [i_lt, i_n (by omega), i_n (by omega)]; omega), q229_167 _ _ _ hw, h168]
        by_cases h0 : p = 0
        · exact ⟨nI 0, σ.1 16 p, by rw [if_pos (by rw [h0]; exact le00), if_pos rfl], Or.inl ⟨Or.inl h0, rfl⟩⟩
        · rw [if_neg (by rw [i_le, i_n (by omega), i_n (by omega)]; omega), y228 (d + 2) _ hp21, bI_r, f36, h168, q229_167 _ _ _ hw, h168]
          have hiff : ext (fun i => ¬ Y.1 36 (4 * p + 1 + i) = nI 0) 0 4 = true ↔ sty (σ.1 17) (σ.1 41) p := by
            rw [ext_iff, sty_in _ _ (by omega) hp21]
            constructor
            · rintro ⟨i, _, hi, e⟩; exact ⟨i, by omega, ((i1 (4 * p + 1 + i) (by omega) (by omega)).ne h (by omega)).mp e⟩
            · rintro ⟨i, hi, e⟩; exact ⟨i, by omega, by omega, ((i1 (4 * p + 1 + i) (by omega) (by omega)).ne h (by omega)).mpr e⟩
          by_cases e : ext (fun i => ¬ Y.1 36 (4 * p + 1 + i) = nI 0) 0 4 = true
          · exact ⟨nI 0, σ.1 16 p, by rw [bz_t e, if_neg n10, if_pos rfl], Or.inl ⟨hiff.mp e, rfl⟩⟩
          · exact ⟨nI 1, nI 0, by rw [bz_f e, if_pos rfl, if_neg n10], Or.inr ⟨fun z => e (hiff.mpr z), rfl⟩⟩
      · rw [if_neg (by rw [i_lt, i_n (by omega), i_n (by omega)]; omega), nI_s21 (by omega) (by omega), if_pos (am_k (by omega) (by omega)), i_cl (by omega), f41, h168]
        have hleaf := sty_leaf (σ.1 17) (σ.1 41) (p := p) (by omega)
        by_cases e : σ.1 41 (p - 21) = nI 0
        · refine ⟨_, σ.1 16 p, by rw [if_pos e], ?_⟩
          by_cases hR : σ.1 17 (p - 21) = -1
          · have h2 := (h.lf.lfn (p - 21) (by omega)).mp hR
            rw [show 21 + (p - 21) = p by omega] at h2
            exact Or.inr ⟨fun z => (hleaf.mp z).1 hR, h2⟩
          · exact Or.inl ⟨hleaf.mpr ⟨hR, e⟩, rfl⟩
        · exact ⟨_, nI 0, by rw [if_neg e], Or.inr ⟨fun z => e (hleaf.mp z).2, rfl⟩⟩
    refine ⟨(am_set (am_set Y 42 (upd (Y.1 42) p o)) 36 (upd (Y.1 36) p t), .int g), ?_, rfl, b2.set (Or.inl rfl) _, ?_, fun q q1 q2 => ?_, fun q q1 q2 => ?_⟩
    · show am_go am_X0 (am_ex (d + 3)) M229 92 [.ref 34, .int (nI (85 - j) - nI 1), w, .null] [] Y = am_go am_X0 (am_ex (d + 3)) M229 92 [.ref 34, .int (nI (85 - (j + 1)) - nI 1), .int g, .null] [] _
      rw [hv, eo, eg, q229_188, if_pos (am_k (by omega) (by omega)), i_cl (by omega), am_wI_s, f36, hv2]
    · show (am_set (am_set Y 42 (upd (Y.1 42) p o)) 36 (upd (Y.1 36) p t)).1 43 = _
      rw [s_ne _ _ (by decide), s_ne _ _ (by decide)]; exact a43
    · show Thn σ (σ.1 41) q ((am_set (am_set Y 42 (upd (Y.1 42) p o)) 36 (upd (Y.1 36) p t)).1 36 q)
      rw [s_eq]
      by_cases e : q = p
      · rw [show upd (Y.1 36) p t q = t from if_pos e, e]; exact ht
      · rw [show upd (Y.1 36) p t q = Y.1 36 q from if_neg e]; exact i1 q (by omega) q2
    · show Flg ((am_set (am_set Y 42 (upd (Y.1 42) p o)) 36 (upd (Y.1 36) p t)).1 42 q) _
      rw [s_ne _ _ (by decide), s_eq]
      by_cases e : q = p
      · rw [show upd (Y.1 42) p o q = o from if_pos e, e]; exact ho
      · rw [show upd (Y.1 42) p o q = Y.1 42 q from if_neg e]; exact i2 q (by omega) q2) (Y0, .null) ⟨rfl, hY0, rfl, fun p p1 p2 => by omega, fun p p1 p2 => by omega⟩
  have e1 : am_go am_X0 (am_ex (d + 3)) M229 92 [.ref 34, .int (nI 84), .null, .null] [] Y0 = am_go am_X0 (am_ex (d + 3)) M229 92 [.ref 34, .int (nI 0 - nI 1), w, .null] [] Y := e1
  have hw : (!(w.category == 2)) = true := hw
  exact ⟨Y, by rw [e1, q229_92 _ _ _ hw, if_pos (by decide)], b1, a43, fun p hp => i1 p (by omega) hp, fun p hp => i2 p (by omega) hp⟩
/-- the cost -/
theorem y229d (h : Inv c kc md rc td lev rk σ) {f : Nat → Int32} {n : Nat} {Y0 : am_M} (hY0 : Bs σ f n Y0) (ht : ∀ p, p < 85 → Thn σ (σ.1 41) p (Y0.1 36 p)) (ho : ∀ p, p < 85 → Flg (Y0.1 42 p) (opn kc rc md σ (σ.1 41) p)) : ∃ Y, am_go am_X0 (am_ex (d + 3)) M229 199 [.ref 34, .int (nI 0), .int (nI 0), .null] [] Y0 = rI (nI (cst kc rc md σ (σ.1 41))) Y ∧ Bs σ f n Y ∧ Y.1 43 = Y0.1 43 ∧ Y.1 36 = Y0.1 36 ∧ ∀ p, p < 21 → Flg (Y.1 42 p) (rky kc rc md σ (σ.1 41) p) := by
  have hflg : ∀ {v : Int32} {P : Prop}, Flg v P → vp_nar .boolean v = v := fun z => by
    rcases z with ⟨z, _⟩ | ⟨z, _⟩
    · rw [z]; exact nb_1
    · rw [z]; exact nb_0
  obtain ⟨⟨Y, x, w⟩, e1, hw, b1, a43, a36, hx, i1, i2⟩ := lp_inv (fun p (P : am_M × Nat × Value) => (!(P.2.2.category == 2)) = true ∧ Bs σ f n P.1 ∧ P.1.1 43 = Y0.1 43 ∧ P.1.1 36 = Y0.1 36 ∧ P.2.1 = fld (cstS kc rc md σ (σ.1 41)) 0 p 0 ∧ (∀ q, q < p → Flg (P.1.1 42 q) (rky kc rc md σ (σ.1 41) q)) ∧ (∀ q, p ≤ q → q < 85 → Flg (P.1.1 42 q) (opn kc rc md σ (σ.1 41) q))) 0 21 (by omega) (fun p P => am_go am_X0 (am_ex (d + 3)) M229 199 [.ref 34, .int (nI P.2.1), .int (nI p), P.2.2] [] P.1) (by
    rintro p ⟨Y, x, w⟩ _ hp ⟨hw, b1, a43, a36, hx, i1, i2⟩
    have hw : (!(w.category == 2)) = true := hw
    have b1 : Bs σ f n Y := b1
    have a36 : Y.1 36 = Y0.1 36 := a36
    have hx : x = fld (cstS kc rc md σ (σ.1 41)) 0 p 0 := hx
    have i1 : ∀ q, q < p → Flg (Y.1 42 q) (rky kc rc md σ (σ.1 41) q) := i1
    have i2 : ∀ q, p ≤ q → q < 85 → Flg (Y.1 42 q) (opn kc rc md σ (σ.1 41) q) := i2
    have hop := (i2 p (Nat.le_refl _) (by omega)).ne
    have hth := (ht p (by omega)).ne h (by omega)
    obtain ⟨o, eo, hor⟩ : ∃ o, am_go am_X0 (am_ex (d + 3)) M229 199 [.ref 34, .int (nI x), .int (nI p), w] [] Y = am_go am_X0 (am_ex (d + 3)) M229 233 [.ref 34, .int (nI x), .int (nI p), w] [.int o, .int (nI p), .ref 42] Y ∧ Flg o (rky kc rc md σ (σ.1 41) p) := by
      rw [q229_199 _ _ _ _ hw, if_neg (by rw [i_le, i_n (by omega), i_n (by omega)]; omega), if_pos (am_k (by omega) (by omega)), if_pos (am_k (by omega) (by omega)), i_cl (by omega), a36, q229_232 _ _ _ _ _ hw]
      by_cases z1 : Y.1 42 p = nI 0
      · exact ⟨nI 0, by rw [if_pos z1], Or.inr ⟨rfl, fun z => hop.mpr z.1 z1⟩⟩
      · rw [if_neg z1]
        by_cases z2 : Y0.1 36 p = nI 0
        · exact ⟨nI 0, by rw [if_pos z2], Or.inr ⟨rfl, fun z => hth.mpr z.2 z2⟩⟩
        · exact ⟨nI 1, by rw [if_neg z2], Or.inl ⟨rfl, hop.mp z1, hth.mp z2⟩⟩
    generalize hY2 : am_set Y 42 (upd (Y.1 42) p o) = Y2
    have b2 : Bs σ f n Y2 := by rw [← hY2]; exact b1.set (Or.inr (Or.inl rfl)) _
    have f42 : Y2.1 42 p = o := by rw [← hY2, s_eq]; exact if_pos rfl
    have f36 : Y2.1 36 = Y0.1 36 := by rw [← hY2, s_ne _ _ (by decide)]; exact a36
    have e233 : am_go am_X0 (am_ex (d + 3)) M229 233 [.ref 34, .int (nI x), .int (nI p), w] [.int o, .int (nI p), .ref 42] Y = am_go am_X0 (am_ex (d + 3)) M229 240 [.ref 34, .int (nI x), .int (nI p), .int (nI (4 * p + 1))] [] Y2 := by
      rw [q229_233 _ _ _ _ _ _ hw, if_pos (am_k (by omega) (by omega)), i_cl (by omega), hflg hor, am_wI_s, pk_mul, nI_add, hY2]
    obtain ⟨w', ew, hw'⟩ : ∃ w', am_go am_X0 (am_ex (d + 3)) M229 240 [.ref 34, .int (nI x), .int (nI p), .int (nI (4 * p + 1))] [] Y2 = am_go am_X0 (am_ex (d + 3)) M229 199 [.ref 34, .int (nI (cstS kc rc md σ (σ.1 41) p x)), .int (nI (p + 1)), w'] [] Y2 ∧ (!(w'.category == 2)) = true := by
      by_cases e : rky kc rc md σ (σ.1 41) p
      · have ho1 : ¬ Y2.1 42 p = nI 0 := by rw [f42]; exact hor.ne.mpr e
        refine ⟨.int (nI (4 * p + 1 + 4)), ?_, rfl⟩
        have e3 : cnt (fun i => ¬ Y2.1 36 (4 * p + 1 + i) = nI 0) 0 4 = nC σ (σ.1 41) p := cnt_C _ 0 4 (fun i _ hi => by rw [f36]; exact (ht (4 * p + 1 + i) (by omega)).ne h (by omega))
        rw [cstS_t e, ← e3]
        have key : ∀ j i x, i + j = 4 → am_go am_X0 (am_ex (d + 3)) M229 240 [.ref 34, .int (nI x), .int (nI p), .int (nI (4 * p + 1 + i))] [] Y2 = am_go am_X0 (am_ex (d + 3)) M229 199 [.ref 34, .int (nI (x + cnt (fun i => ¬ Y2.1 36 (4 * p + 1 + i) = nI 0) i j)), .int (nI (p + 1)), .int (nI (4 * p + 1 + 4))] [] Y2 := by
          intro j
          induction j with
          | zero =>
            intro i x hi
            have : i = 4 := by omega
            subst this
            rw [q229_240, if_pos (am_k (by omega) (by omega)), i_cl (by omega), if_neg ho1, pk_mul, nI_add, if_pos (by rw [i_lt, i_n (by omega), i_n (by omega)]; omega), show nI p + nI 1 = nI (p + 1) from nI_1 _]
            rfl
          | succ j ih =>
            intro i x hi
            rw [q229_240, if_pos (am_k (by omega) (by omega)), i_cl (by omega), if_neg ho1, pk_mul, nI_add (4 * p) 4, if_neg (by rw [i_lt, i_n (by omega), i_n (by omega)]; omega), if_pos (am_k (by omega) (by omega)), i_cl (by omega), show nI (4 * p + 1 + i) + nI 1 = nI (4 * p + 1 + (i + 1)) from nI_1 _, show nI x + nI 0 = nI x from nI_add x 0, show nI x + nI 1 = nI (x + 1) from nI_1 _, cnt]
            by_cases ez : Y2.1 36 (4 * p + 1 + i) = nI 0
            · rw [if_pos ez, if_neg (fun z => z ez), ih (i + 1) x (by omega), Nat.zero_add]
            · rw [if_neg ez, if_pos ez, ih (i + 1) (x + 1) (by omega), Nat.add_assoc]
        exact key 4 0 x (by omega)
      · have ho1 : Y2.1 42 p = nI 0 := by
          rw [f42]
          rcases hor with ⟨_, z⟩ | ⟨z, _⟩
          · exact absurd z e
          · exact z
        refine ⟨.int (nI (4 * p + 1)), ?_, rfl⟩
        rw [cstS_f e, q229_240, if_pos (am_k (by omega) (by omega)), i_cl (by omega), if_pos ho1, show nI p + nI 1 = nI (p + 1) from nI_1 _]
    refine ⟨(Y2, cstS kc rc md σ (σ.1 41) p x, w'), ?_, hw', b2, ?_, f36, ?_, fun q hq => ?_, fun q q1 q2 => ?_⟩
    · show am_go am_X0 (am_ex (d + 3)) M229 199 [.ref 34, .int (nI x), .int (nI p), w] [] Y = am_go am_X0 (am_ex (d + 3)) M229 199 [.ref 34, .int (nI (cstS kc rc md σ (σ.1 41) p x)), .int (nI (p + 1)), w'] [] Y2
      rw [eo, e233, ew]
    · show Y2.1 43 = _
      rw [← hY2, s_ne _ _ (by decide)]; exact a43
    · show cstS kc rc md σ (σ.1 41) p x = _
      rw [fld_s, Nat.zero_add, hx]
    · show Flg (Y2.1 42 q) _
      rw [← hY2, s_eq]
      by_cases e : q = p
      · rw [show upd (Y.1 42) p o q = o from if_pos e, e]; exact hor
      · rw [show upd (Y.1 42) p o q = Y.1 42 q from if_neg e]; exact i1 q (by omega)
    · show Flg (Y2.1 42 q) _
      rw [← hY2, s_eq, show upd (Y.1 42) p o q = Y.1 42 q from if_neg (by omega)]
      exact i2 q (by omega) q2) (Y0, 0, .null) ⟨rfl, hY0, rfl, rfl, rfl, fun q hq => by omega, fun q q1 q2 => ho q q2⟩
  have e1 : am_go am_X0 (am_ex (d + 3)) M229 199 [.ref 34, .int (nI 0), .int (nI 0), .null] [] Y0 = am_go am_X0 (am_ex (d + 3)) M229 199 [.ref 34, .int (nI x), .int (nI 21), w] [] Y := e1
  have hx : x = fld (cstS kc rc md σ (σ.1 41)) 0 21 0 := hx
  have hw : (!(w.category == 2)) = true := hw
  refine ⟨Y, ?_, b1, a43, a36, i1⟩
  rw [e1, q229_199 _ _ _ _ hw, if_pos (by decide), hx]
  rfl
theorem y229 (h : Inv c kc md rc td lev rk σ) : ∃ Y, am_ex (d + 4) 229 [.ref 34] σ = rI (nI (cst kc rc md σ (σ.1 19))) Y ∧ PlM kc rc md σ (σ.1 19) Y := by
  have hok : okU (σ.1 17) (σ.1 41) := fun k hk e => by
    rw [h.e41] at e
    exact ((h.mrk k hk).resolve_left e).2
  obtain ⟨f, n, e1, hS, hO⟩ := y229a d h.base hok
  have hB : Bs σ f n (R2 σ f n) := ⟨R2_sm _ _ _, rfl, R2_f _ _ _ (by decide), R2_55 _ _ _, R2_n _ _ _⟩
  obtain ⟨Y1, e2, b1, a1⟩ := y229b d h.base hS hO hB
  obtain ⟨Y2, e3, b2, c43, t2, o2⟩ := y229c d h hS hO b1
  obtain ⟨Y3, e4, b3, c43', c36, r3⟩ := y229d d h b2 t2 o2
  rw [h.e41] at *
  exact ⟨Y3, by rw [e1, e2, e3, e4], b3.sm, b3.nn, b3.t, by rw [c36]; exact t2, r3, by rw [c43', c43]; exact a1⟩
end PLM
