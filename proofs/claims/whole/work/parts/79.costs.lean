/-! forgetCost, rekeyed, extraCost -/
section CST
variable (d : Nat) {c kc md rc td : Nat} {lev rk : Nat → Nat} {σ τ : am_M} {u : Nat → Int32}
theorem opn_sm (h : Sm σ τ) (p : Nat) : opn kc rc md τ u p ↔ opn kc rc md σ u p := by
  unfold opn
  rw [h.i 17 (by decide) (by decide), h.i 16 (by decide) (by decide), OpV_sm h.e]
theorem rky_sm (h : Sm σ τ) (p : Nat) : rky kc rc md τ u p ↔ rky kc rc md σ u p := by
  unfold rky
  rw [opn_sm h, h.i 17 (by decide) (by decide)]
theorem nC_sm (h : Sm σ τ) (p : Nat) : nC τ u p = nC σ u p := by
  unfold nC
  rw [h.i 17 (by decide) (by decide)]
theorem cst_sm (h : Sm σ τ) : cst kc rc md τ u = cst kc rc md σ u := by
  have : cstS kc rc md τ u = cstS kc rc md σ u := by
    funext i x
    by_cases e : rky kc rc md σ u i
    · rw [cstS_t e, cstS_t ((rky_sm h i).mpr e), nC_sm h]
    · rw [cstS_f e, cstS_f (fun z => e ((rky_sm h i).mp z))]
  unfold cst
  rw [this]
theorem mkd_cnt : mkd u ↔ ¬ cnt (fun k => ¬ u k = nI 0) 0 64 = 0 := by
  constructor
  · rintro ⟨k, hk, e⟩ z
    exact cnt_0 _ _ z k (by omega) (by omega) e
  · intro z
    apply Classical.byContradiction
    intro hno
    apply z
    have : ∀ n i, i + n ≤ 64 → cnt (fun k => ¬ u k = nI 0) i n = 0 := by
      intro n
      induction n with
      | zero => intro i _; rfl
      | succ n ih =>
        intro i hi
        rw [cnt, ih (i + 1) (by omega), if_neg (fun e => hno ⟨i, by omega, e⟩)]
    exact this 64 0 (by omega)
theorem Inv.okU (h : Inv c kc md rc td lev rk σ) : okU (σ.1 17) (σ.1 19) := fun k hk e => ((h.mrk k hk).resolve_left e).2
/-- the class's plan for the marks as they are -/
theorem x13m (h : Inv c kc md rc td lev rk σ) : ∃ X, am_ex (d + 6) 13 [.ref 7, .int (-1)] σ = rV X ∧ Pl kc rc md lev σ (σ.1 19) X :=
  x13 d h.base (fun k hk => ⟨Or.inl, fun z => z.elim id (fun e => absurd e (nI_nm (by omega)))⟩) h.okU
/-- marks of the reference -/
theorem y226m (h : Inv c kc md rc td lev rk σ) {Z : am_M} (hs : Sm σ Z) : ∃ v, am_ex (d + 1) 226 [.ref 34] Z = rI v Z ∧ (v = nI 0 ↔ ¬ mkd (σ.1 19)) := by
  refine ⟨_, y226 d Z, ?_⟩
  have h1 : cnt (fun k => ¬ Z.1 41 k = nI 0) 0 64 ≤ 64 := cnt_le _ 64 0
  rw [(h.sm hs).e41, hs.i 19 (by decide) (by decide)] at *
  rw [mkd_cnt]
  constructor
  · intro e z
    exact z (nI_inj (by omega) (by omega) e)
  · intro z
    rw [Classical.not_not.mp z]
theorem f118 (h : Inv c kc md rc td lev rk σ) (hc : c < 600) : Fn (d + 8) 118 233 [.ref 0] [.ref 34] (c + 1) σ := by
  obtain ⟨X, e1, hP⟩ := x13m (d + 1) h
  obtain ⟨ht, hf⟩ := x17 (d + 3) hP
  by_cases hm : mkd (σ.1 19)
  · refine Fn.r h hc hP.sm hP.n (v := nI (cst kc rc md σ (σ.1 19))) (by rw [e118, q118_0, e1, bV_r, ht hm, bI_r]) (fun Z hs hI => ?_)
    have hT : Sm Z (th Z (nI 0)) := (Sm.refl Z).th _
    obtain ⟨v, e2, hv⟩ := y226m (d + 6) h (hs.trans hT)
    obtain ⟨Y, e3, hY⟩ := y229 (d + 3) (hI.sm hT)
    have e4 : (th Z (nI 0)).1 19 = σ.1 19 := (hs.trans hT).i 19 (by decide) (by decide)
    refine ⟨Y, ?_, hT.trans hY.sm, hY.n⟩
    rw [e233, q233_0, th_w, e2, bI_r, if_neg (fun z => hv.mp z hm), e3, bI_r, e4, cst_sm (hs.trans hT)]
  · refine Fn.r h hc hP.sm hP.n (v := nI 0) (by rw [e118, q118_0, e1, bV_r, hf hm, bI_r]) (fun Z hs hI => ?_)
    have hT : Sm Z (th Z (nI 0)) := (Sm.refl Z).th _
    obtain ⟨v, e2, hv⟩ := y226m (d + 6) h (hs.trans hT)
    refine ⟨th Z (nI 0), ?_, hT, rfl⟩
    rw [e233, q233_0, th_w, e2, bI_r, if_pos (hv.mpr hm)]
/-- the mask of the places of a level that get new keys -/
noncomputable def rkM (P : Nat → Prop) (a i : Nat) (x : Int32) : Int32 := @ite _ (P (a + i)) (Classical.propDecidable _) (x ||| (nI 1 <<< (nI i &&& 31))) x
theorem rkM_t {P : Nat → Prop} {a i : Nat} (h : P (a + i)) (x : Int32) : rkM P a i x = x ||| (nI 1 <<< (nI i &&& 31)) := @if_pos _ (Classical.propDecidable _) h _ _ _
theorem rkM_f {P : Nat → Prop} {a i : Nat} (h : ¬ P (a + i)) (x : Int32) : rkM P a i x = x := @if_neg _ (Classical.propDecidable _) h _ _ _
theorem c119l {X : am_M} {P : Nat → Prop} {l a e : Nat} (hl : l < 3) (hae : a ≤ e) (he : e ≤ 21) (h2 : am_lst.getD (l + 1) 0 = nI e) (hx : ∀ p, p < 21 → (X.1 7 4 = nI 0 ∧ ¬ X.1 30 p = nI 0 ∧ ¬ X.1 29 p = nI 0 ↔ P p)) : am_go am_X0 (am_ex (d + 2)) M119 24 [.ref 0, .int (nI l), .int (nI a), .int (nI 0), .int (nI a)] [] X = rI (fld (rkM P a) 0 (e - a) (nI 0)) X := by
  refine (lp_fld (rkM P a) (fun _ _ => True) 0 (e - a) (by omega) (fun i x => am_go am_X0 (am_ex (d + 2)) M119 24 [.ref 0, .int (nI l), .int (nI a), .int x, .int (nI (a + i))] [] X) (fun x => rI x X) ?_ ?_ (nI 0) trivial).1
  · intro x _
    show am_go am_X0 (am_ex (d + 2)) M119 24 [.ref 0, .int (nI l), .int (nI a), .int x, .int (nI (a + (e - a)))] [] X = _
    rw [q119_24, show nI l + nI 1 = nI (l + 1) from nI_1 _, if_pos (am_k (by omega) (by omega)), i_cl (by omega), h2, if_pos (by rw [i_le, i_n (by omega), i_n (by omega)]; omega)]
  · intro i x _ hi _
    refine ⟨?_, trivial⟩
    show am_go am_X0 (am_ex (d + 2)) M119 24 [.ref 0, .int (nI l), .int (nI a), .int x, .int (nI (a + i))] [] X = am_go am_X0 (am_ex (d + 2)) M119 24 [.ref 0, .int (nI l), .int (nI a), .int (rkM P a i x), .int (nI (a + (i + 1)))] [] X
    rw [q119_24, show nI l + nI 1 = nI (l + 1) from nI_1 _, if_pos (am_k (by omega) (by omega)), i_cl (by omega), h2, if_neg (by rw [i_le, i_n (by omega), i_n (by omega)]; omega), x16 d X (by omega), bI_r, nI_sub (by omega) (by omega), Nat.add_sub_cancel_left, show nI (a + i) + nI 1 = nI (a + (i + 1)) from nI_1 _]
    by_cases e1 : P (a + i)
    · rw [bz_t ((hx (a + i) (by omega)).mpr e1), if_neg n10, rkM_t e1]
    · rw [bz_f (fun z => e1 ((hx (a + i) (by omega)).mp z)), if_pos rfl, rkM_f e1]
theorem y235l {Y : am_M} {P : Nat → Prop} {a e : Nat} (hae : a ≤ e) (he : e ≤ 21) (h2 : 4 * a + 1 = e) (v1 v2 : Int32) (hx : ∀ p, p < 21 → (¬ Y.1 42 p = nI 0 ↔ P p)) : am_go am_X0 (am_ex d) M235 67 [.ref 34, .int v1, .int v2, .int (nI a), .int (nI 0), .int (nI a)] [] Y = rI (fld (rkM P a) 0 (e - a) (nI 0)) Y := by
  refine (lp_fld (rkM P a) (fun _ _ => True) 0 (e - a) (by omega) (fun i x => am_go am_X0 (am_ex d) M235 67 [.ref 34, .int v1, .int v2, .int (nI a), .int x, .int (nI (a + i))] [] Y) (fun x => rI x Y) ?_ ?_ (nI 0) trivial).1
  · intro x _
    show am_go am_X0 (am_ex d) M235 67 [.ref 34, .int v1, .int v2, .int (nI a), .int x, .int (nI (a + (e - a)))] [] Y = _
    rw [q235_67, pk_mul, nI_add, if_pos (by rw [i_le, i_n (by omega), i_n (by omega)]; omega)]
  · intro i x _ hi _
    refine ⟨?_, trivial⟩
    show am_go am_X0 (am_ex d) M235 67 [.ref 34, .int v1, .int v2, .int (nI a), .int x, .int (nI (a + i))] [] Y = am_go am_X0 (am_ex d) M235 67 [.ref 34, .int v1, .int v2, .int (nI a), .int (rkM P a i x), .int (nI (a + (i + 1)))] [] Y
    rw [q235_67, pk_mul, nI_add (4 * a) 1, if_neg (by rw [i_le, i_n (by omega), i_n (by omega)]; omega), if_pos (am_k (by omega) (by omega)), i_cl (by omega), nI_sub (by omega) (by omega), Nat.add_sub_cancel_left, or_0, show nI (a + i) + nI 1 = nI (a + (i + 1)) from nI_1 _]
    by_cases e1 : P (a + i)
    · rw [if_neg ((hx (a + i) (by omega)).mpr e1), rkM_t e1]
    · rw [if_pos (Classical.not_not.mp (fun z => e1 ((hx (a + i) (by omega)).mp z))), rkM_f e1]
theorem fld_0 {P : Nat → Prop} (h : ∀ p, ¬ P p) (a : Nat) : ∀ n i x, fld (rkM P a) i n x = x := by
  intro n
  induction n with
  | zero => intro i x; rfl
  | succ n ih =>
    intro i x
    show fld (rkM P a) (i + 1) n (rkM P a i x) = x
    rw [ih, rkM_f (h _)]
theorem f119 (h : Inv c kc md rc td lev rk σ) (hc : c < 600) (x : Int32) : Fc (d + 8) 119 235 [.ref 0, .int x] [.ref 34, .int x] cO (c + 1) σ := by
  have hlt00 : ¬ nI 0 < nI 0 := by decide
  have hlt01 : nI 0 < nI 1 := by decide
  by_cases hx : inR x 3
  · obtain ⟨e0, h0⟩ := inR_of hx
    generalize x.toNatClampNeg = l at e0 h0
    subst e0
    obtain ⟨X, e1, hP⟩ := x13m (d + 1) h
    obtain ⟨a, e, hae, he, l1, l2, h4, hy⟩ : ∃ a e, a ≤ e ∧ e ≤ 21 ∧ am_lst.getD l 0 = nI a ∧ am_lst.getD (l + 1) 0 = nI e ∧ 4 * a + 1 = e ∧ ∀ (r2 : Int32) (t2 : am_M), (if nI l = nI 0 then (am_go am_X0 (am_ex (d + 7)) M235 67 [.ref 34, .int (nI l), .int r2, .int (nI 0), .int (nI 0), .int (nI 0)] [] t2) else (if nI l = nI 1 then (am_go am_X0 (am_ex (d + 7)) M235 67 [.ref 34, .int (nI l), .int r2, .int (nI 1), .int (nI 0), .int (nI 1)] [] t2) else (am_go am_X0 (am_ex (d + 7)) M235 67 [.ref 34, .int (nI l), .int r2, .int (nI 5), .int (nI 0), .int (nI 5)] [] t2))) = am_go am_X0 (am_ex (d + 7)) M235 67 [.ref 34, .int (nI l), .int r2, .int (nI a), .int (nI 0), .int (nI a)] [] t2 := by
      have hl : l = 0 ∨ l = 1 ∨ l = 2 := by omega
      rcases hl with rfl | rfl | rfl
      · exact ⟨0, 1, by omega, by omega, by decide +kernel, by decide +kernel, by omega, fun r2 t2 => by rw [if_pos rfl]⟩
      · exact ⟨1, 5, by omega, by omega, by decide +kernel, by decide +kernel, by omega, fun r2 t2 => by rw [if_neg n10, if_pos rfl]⟩
      · exact ⟨5, 21, by omega, by omega, by decide +kernel, by decide +kernel, by omega, fun r2 t2 => by rw [if_neg (by decide), if_neg (by decide)]⟩
    have hcl : ∀ P : Nat → Prop, (∀ p, p < 21 → (X.1 7 4 = nI 0 ∧ ¬ X.1 30 p = nI 0 ∧ ¬ X.1 29 p = nI 0 ↔ P p)) → am_ex (d + 8) 119 [.ref 0, .int (nI l)] σ = rI (fld (rkM P a) 0 (e - a) (nI 0)) X := fun P hP2 => by
      rw [e119, q119_0, x144 _ _ _ (by omega), if_pos (inR_n h0 (by omega)), bV_r, e1, bV_r, if_pos (am_k (by omega) (by omega)), i_cl (by omega), l1, c119l (d + 5) h0 hae he l2 hP2]
    have hml : ∀ Z, am_ex (d + 8) 235 [.ref 34, .int (nI l)] Z = am_go am_X0 (am_ex (d + 7)) M235 18 [.ref 34, .int (nI l), .null, .null, .null, .null] [.int (nI 0), .ref 34] Z := fun Z => by
      rw [e235, q235_0, x173, bI_r, bz_t (by rw [i_64, i_n (by omega), show (0 : Int64).toInt = 0 by decide +kernel, show (2 : Int64).toInt = 2 by decide +kernel]; omega), if_neg n10]
    by_cases hm : mkd (σ.1 19)
    · have hid : X.1 7 4 = nI 0 := by
        rcases hP.idle with ⟨_, z⟩ | ⟨z, _⟩
        · exact absurd hm z
        · exact z
      refine Fc.r h hc hP.sm hP.n (hcl (rky kc rc md σ (σ.1 19)) (fun p hp => ⟨fun z => ⟨(hP.op p (by omega)).ne.mp z.2.1, (hP.st p (by omega)).ne.mp z.2.2⟩, fun z => ⟨hid, (hP.op p (by omega)).ne.mpr z.1, (hP.st p (by omega)).ne.mpr z.2⟩⟩)) (fun Z hs hI => ?_)
      have hT : Sm Z (th Z (nI 0)) := (Sm.refl Z).th _
      obtain ⟨v, e2, hv⟩ := y226m (d + 6) h (hs.trans hT)
      obtain ⟨Y, e3, hY⟩ := y229 (d + 3) (hI.sm hT)
      have e4 : (th Z (nI 0)).1 19 = σ.1 19 := (hs.trans hT).i 19 (by decide) (by decide)
      refine ⟨Y, ?_, hT.trans hY.sm, hY.n, by rw [hY.t, th_v]⟩
      rw [hml, q235_18, th_w, th_v, if_neg hlt00, e2, bI_r, if_neg (fun z => hv.mp z hm), e3, bI_r, hy, y235l (d + 7) (P := rky kc rc md σ (σ.1 19)) hae he h4 _ _ (fun p hp => by
        have := (hY.ry p hp).ne
        rw [e4, rky_sm (hs.trans hT)] at this
        exact this)]
    · have hid : ¬ X.1 7 4 = nI 0 := hP.idle.ne.mpr hm
      refine Fc.r h hc hP.sm hP.n (hcl (fun _ => False) (fun p hp => ⟨fun z => hid z.1, fun z => z.elim⟩)) (fun Z hs hI => ?_)
      have hT : Sm Z (th Z (nI 0)) := (Sm.refl Z).th _
      obtain ⟨v, e2, hv⟩ := y226m (d + 6) h (hs.trans hT)
      refine ⟨th Z (nI 0), ?_, hT, rfl, th_v _ _⟩
      rw [hml, q235_18, th_w, th_v, if_neg hlt00, e2, bI_r, if_pos (hv.mpr hm), fld_0 (fun _ z => z)]
  · refine Fc.x h hc (E := xIO) (Sm.refl σ) rfl ?_ (fun Z hs hI => ⟨nI 0, ?_⟩)
    · rw [e119, q119_0, x144 _ _ _ (by omega), if_neg hx, bV_x]
    · rw [e235, q235_0, x173, bI_r, bz_f (by rw [i_64, show (0 : Int64).toInt = 0 by decide +kernel, show (2 : Int64).toInt = 2 by decide +kernel]; unfold inR at hx; omega), if_pos rfl, q235_18, th_w, th_v, if_pos hlt01]
      rfl
/-- a run of the reference, told from a memory with other cells of the class -/
theorem frM_run {D m : Nat} {bs : List Value} {B Z Y' : am_M} {r : am_R} (hk : qM m = true) (hb : okL aM bs) (hB : hy aM B Z = B) (e : am_ex D m bs B = some (r, Y')) : ∃ Y, am_ex D m bs Z = some (r, Y) ∧ hy aM B Y = Y' ∧ hy aM Z Y = Y := by
  have h1 := frM D hk hb B Z
  rw [hB, e] at h1
  cases hE : am_ex D m bs Z with
  | none => rw [hE] at h1; cases h1
  | some q =>
    obtain ⟨r', Y⟩ := q
    rw [hE] at h1
    have h2 : some (r, Y') = some (r', hy aM B Y) := h1
    obtain ⟨h3, h4⟩ := Prod.mk.inj (Option.some.inj h2)
    subst h3
    refine ⟨Y, rfl, h4.symm, ?_⟩
    have h5 := frM D hk hb Z Z
    rw [hy_self, hE] at h5
    have h6 : some (r, Y) = some (r, hy aM Z Y) := h5
    exact (Prod.mk.inj (Option.some.inj h6)).2.symm
theorem f116 (h : Inv c kc md rc td lev rk σ) (hc : c < 600) (x : Int32) : Fc (d + 8) 116 234 [.ref 0, .int x] [.ref 34, .int x] cdS (c + 1) σ := by
  have hlt00 : ¬ nI 0 < nI 0 := by decide
  have hlt01 : nI 0 < nI 1 := by decide
  have hlt02 : nI 0 < nI 2 := by decide
  by_cases hx : inR x 64
  · obtain ⟨e0, h0⟩ := inR_of hx
    generalize x.toNatClampNeg = k at e0 h0
    subst e0
    by_cases hr : σ.1 17 k = -1 ∨ ¬ pinF (σ.1 10) k = nI 0
    · refine Fc.x h hc (E := xIS) (Sm.refl σ) rfl ?_ (fun Z hs hI => ⟨nI 0, ?_⟩)
      · rw [e116, q116_0, x144 _ _ _ (by omega), if_pos (inR_n h0 (by omega)), bV_r, x79, bI_r, rd_n h0 (by omega), q116_26]
        by_cases e : σ.1 17 k = -1
        · rw [if_pos e]
        · rw [if_neg e, x154 (d + 2) σ h.okh h0, bI_r, if_neg (hr.resolve_left e), q116_26]
      · have z38 : okH (Z.1 38) := by rw [hI.e38]; exact hI.okh
        rw [e234, q234_0, x182, bI_r, bz_t (inR_n h0 (by omega)), if_neg n10, if_pos (am_k (by omega) (by omega)), i_cl (by omega), hI.e37, hs.i 17 (by decide) (by decide), q234_30, q234_35, th_w, th_v, if_pos hlt02]
        by_cases e : σ.1 17 k = -1
        · rw [if_pos e]; rfl
        · rw [if_neg e, x223 (d + 4) Z z38 h0, bI_r, hI.e38, hs.i 10 (by decide) (by decide), if_neg (hr.resolve_left e), q234_30, q234_35, th_w, th_v, if_pos hlt02]; rfl
    · have hR : ¬ σ.1 17 k = -1 := fun z => hr (Or.inl z)
      have hpin : pinF (σ.1 10) k = nI 0 := Classical.not_not.mp (fun z => hr (Or.inr z))
      have hm0 : ∀ Z, Sm σ Z → Inv c kc md rc td lev rk Z → am_ex (d + 8) 234 [.ref 34, .int (nI k)] Z = if σ.1 19 k = nI 0 then am_bI (am_ex (d + 7) 226 [.ref 34] (th Z (nI 0))) (fun r1 t1 => if r1 = nI 0 then (am_go am_X0 (am_ex (d + 7)) M234 71 [.ref 34, .int (nI k), .null, .null] [.int (nI 0)] t1) else (am_bI (am_ex (d + 7) 229 [.ref 34] t1) (fun r2 t2 => am_go am_X0 (am_ex (d + 7)) M234 71 [.ref 34, .int (nI k), .null, .null] [.int r2] t2))) else rI (nI 0) (th Z (nI 0)) := fun Z hs hI => by
        have z38 : okH (Z.1 38) := by rw [hI.e38]; exact hI.okh
        have t41 : (th Z (nI 0)).1 41 = σ.1 19 := by rw [th_ne _ _ (by decide), hI.e41, hs.i 19 (by decide) (by decide)]
        rw [e234, q234_0, x182, bI_r, bz_t (inR_n h0 (by omega)), if_neg n10, if_pos (am_k (by omega) (by omega)), i_cl (by omega), hI.e37, hs.i 17 (by decide) (by decide), if_neg hR, x223 (d + 4) Z z38 h0, bI_r, hI.e38, hs.i 10 (by decide) (by decide), if_pos hpin, q234_35, th_w, th_v, if_neg hlt00, if_pos (am_k (by omega) (by omega)), i_cl (by omega), t41]
      have hcl : am_ex (d + 8) 116 [.ref 0, .int (nI k)] σ = if σ.1 19 k = nI 0 then am_bV (am_ex (d + 7) 13 [.ref 7, .int (-1)] σ) (fun t5 => am_bI (am_ex (d + 7) 17 [.ref 7] t5) (fun r6 t6 => am_bV (am_ex (d + 7) 13 [.ref 7, .int (nI k)] t6) (fun t7 => am_bI (am_ex (d + 7) 17 [.ref 7] t7) (fun r8 t8 => rI (r8 - r6) t8)))) else rI (nI 0) σ := by
        rw [e116, q116_0, x144 _ _ _ (by omega), if_pos (inR_n h0 (by omega)), bV_r, x79, bI_r, rd_n h0 (by omega), if_neg hR, x154 (d + 2) σ h.okh h0, bI_r, if_pos hpin, x82, bI_r]
        by_cases e : σ.1 19 k = nI 0
        · rw [bz_f (fun z => by rw [rd_n h0 (by omega)] at z; exact z e), if_pos rfl, if_pos e]
        · rw [bz_t (by rw [rd_n h0 (by omega)]; exact e), if_neg n10, if_neg e]
      by_cases hmk : σ.1 19 k = nI 0
      · -- the marks with this leaf
        generalize hu : upd (σ.1 19) k (nI 1) = u'
        have hu' : ∀ j, j < 64 → (¬ u' j = nI 0 ↔ (¬ σ.1 19 j = nI 0 ∨ nI j = nI k)) := fun j hj => by
          rw [← hu]
          by_cases e : j = k
          · rw [show upd (σ.1 19) k (nI 1) j = nI 1 from if_pos e]
            exact ⟨fun _ => Or.inr (by rw [e]), fun _ => n10⟩
          · rw [show upd (σ.1 19) k (nI 1) j = σ.1 19 j from if_neg e]
            exact ⟨Or.inl, fun z => z.elim id (fun z => absurd (nI_inj (by omega) (by omega) z) e)⟩
        have hok' : okU (σ.1 17) u' := fun j hj e => by
          rcases (hu' j hj).mp e with z | z
          · exact h.okU j hj z
          · rw [nI_inj (by omega) (by omega) z]; exact hR
        have hmk' : mkd u' := ⟨k, h0, (hu' k h0).mpr (Or.inr rfl)⟩
        obtain ⟨X1, e1, hP1⟩ := x13m (d + 1) h
        obtain ⟨ht1, hf1⟩ := x17 (d + 3) hP1
        generalize hw : (if cnt (fun k => ¬ σ.1 19 k = nI 0) 0 64 = 0 then 0 else cst kc rc md σ (σ.1 19)) = w
        have ht : am_ex (d + 7) 17 [.ref 7] X1 = rI (nI w) X1 := by
          by_cases hm : mkd (σ.1 19)
          · rw [ht1 hm, ← hw, if_neg (mkd_cnt.mp hm)]
          · rw [hf1 hm, ← hw, if_pos (Classical.not_not.mp (fun z => hm (mkd_cnt.mpr z)))]
        obtain ⟨X2, e2, hP2⟩ := x13 (d + 1) (u := u') (h.base.sm hP1.sm) (al := nI k) (fun j hj => by rw [hP1.sm.i 19 (by decide) (by decide)]; exact hu' j hj) (by rw [hP1.sm.i 17 (by decide) (by decide)]; exact hok')
        have ht2 := (x17 (d + 3) hP2).1 hmk'
        refine Fc.r h hc (hP1.sm.trans hP2.sm) (hP2.n.trans hP1.n) (v := nI (cst kc rc md σ u') - nI w) (by rw [hcl, if_pos hmk, e1, bV_r, ht, bI_r, e2, bV_r, ht2, bI_r, cst_sm hP1.sm]) (fun Z hs hI => ?_)
        have hT : Sm Z (th Z (nI 0)) := (Sm.refl Z).th _
        -- before
        obtain ⟨Y1, f1, hY1, ny1, ty1⟩ : ∃ Y1, am_ex (d + 8) 234 [.ref 34, .int (nI k)] Z = am_go am_X0 (am_ex (d + 7)) M234 71 [.ref 34, .int (nI k), .null, .null] [.int (nI w)] Y1 ∧ Sm Z Y1 ∧ Y1.2.2 = Z.2.2 ∧ Y1.1 34 25 = nI 0 := by
          obtain ⟨v, e3, hv⟩ := y226m (d + 6) h (hs.trans hT)
          rw [hm0 Z hs hI, if_pos hmk, e3, bI_r]
          by_cases hm : mkd (σ.1 19)
          · obtain ⟨Y, e4, hY⟩ := y229 (d + 3) (hI.sm hT)
            have e5 : (th Z (nI 0)).1 19 = σ.1 19 := (hs.trans hT).i 19 (by decide) (by decide)
            refine ⟨Y, ?_, hT.trans hY.sm, hY.n, by rw [hY.t, th_v]⟩
            rw [if_neg (fun z => hv.mp z hm), e4, bI_r, e5, cst_sm (hs.trans hT), ← hw, if_neg (mkd_cnt.mp hm)]
          · refine ⟨th Z (nI 0), ?_, hT, rfl, th_v _ _⟩
            rw [if_pos (hv.mpr hm), ← hw, if_pos (Classical.not_not.mp (fun z => hm (mkd_cnt.mpr z)))]
        have hsY := hs.trans hY1
        have hIY := h.sm hsY
        have y41 : Y1.1 41 = σ.1 19 := by rw [hIY.e41, hsY.i 19 (by decide) (by decide)]
        -- the mark on both sides
        generalize hZ2 : am_set Y1 41 u' = Z2
        generalize hB : am_set Z2 19 u' = B
        have hBg : ∀ a, a ≠ 19 → a ≠ 41 → B.1 a = Y1.1 a := fun a a1 a2 => by rw [← hB, s_ne _ _ a1, ← hZ2, s_ne _ _ a2]
        have b19 : B.1 19 = u' := by rw [← hB, s_eq]
        have b41 : B.1 41 = u' := by rw [← hB, s_ne _ _ (by decide), ← hZ2, s_eq]
        have hIB : Inv c kc md rc td lev rk B := by
          apply Inv.soft (td' := td) hIY
          case g => exact fun a h1 h2 h3 => hBg a (fun e => h3 (by unfold sft; omega)) (fun e => h3 (by unfold sft; omega))
          case f => exact fun j h1 h2 _ => by rw [hBg 34 (by decide) (by decide)]
          case j => exact fun a ha => by rw [← hB, ← hZ2]; rfl
          case ht => rw [hBg 0 (by decide) (by decide)]; exact hIY.ht
          case ht' => rw [hBg 34 (by decide) (by decide)]; exact hIY.ht'
          case tb => exact hIY.tb
          case e38 => rw [hBg 38 (by decide) (by decide), hBg 10 (by decide) (by decide)]; exact hIY.e38
          case e41 => rw [b41, b19]
          case e53 => rw [hBg 53 (by decide) (by decide), hBg 33 (by decide) (by decide)]; exact hIY.e53
          case e54 => rw [hBg 54 (by decide) (by decide), hBg 32 (by decide) (by decide)]; exact hIY.e54
          case kep => rw [hBg 39 (by decide) (by decide), hBg 11 (by decide) (by decide), hBg 12 (by decide) (by decide), hBg 40 (by decide) (by decide)]; exact hIY.kep
          case okh => rw [hBg 10 (by decide) (by decide)]; exact hIY.okh
          case due => rw [hBg 18 (by decide) (by decide), hBg 52 (by decide) (by decide)]; exact hIY.due
          case mrk =>
            rw [b19, ← hu, hsY.i 17 (by decide) (by decide)]
            intro j hj
            by_cases e : j = k
            · exact Or.inr ⟨if_pos e, by rw [e]; exact hR⟩
            · rw [show upd (σ.1 19) k (nI 1) j = σ.1 19 j from if_neg e]; exact h.mrk j hj
          case prl => rw [hBg 32 (by decide) (by decide)]; exact hIY.prl
        obtain ⟨Y', e6, hY'⟩ := y229 (d + 3) hIB
        have hyB : hy aM B Z2 = B := by
          unfold hy
          have e7 : (fun a => if aM a = true then Z2.1 a else B.1 a) = B.1 := by
            funext a
            by_cases ea : aM a = true
            · rw [if_pos ea, ← hB, s_ne _ _ (fun z => by subst z; revert ea; decide)]
            · rw [if_neg ea]
          have e8 : (fun a => if aM a = true then Z2.2.1 a else B.2.1 a) = B.2.1 := by
            funext a
            have : B.2.1 a = Z2.2.1 a := by rw [← hB]; rfl
            rw [this, ite_self]
          have e9 : Z2.2.2 = B.2.2 := by rw [← hB]; rfl
          rw [e7, e8, e9]
        obtain ⟨Y2, e10, hy1, hy2⟩ := frM_run (by decide) okM1 hyB e6
        -- cells of the reference after the second plan
        have cM : ∀ a, aM a = true → Y2.1 a = Y'.1 a := fun a ea => by rw [← hy1]; exact (hyI ea).symm
        have cC : ∀ a, aM a = false → Y2.1 a = Z2.1 a := fun a ea => by rw [← hy2]; exact hyI' ea
        have cst' : cst kc rc md B (B.1 19) = cst kc rc md σ u' := by
          rw [b19]
          have hE : SmE σ B := ⟨by rw [hBg 21 (by decide) (by decide)]; exact hsY.e.1, by rw [hBg 22 (by decide) (by decide)]; exact hsY.e.2.1, by rw [hBg 23 (by decide) (by decide)]; exact hsY.e.2.2.1, by rw [hBg 24 (by decide) (by decide)]; exact hsY.e.2.2.2⟩
          have h17 : B.1 17 = σ.1 17 := by rw [hBg 17 (by decide) (by decide)]; exact hsY.i 17 (by decide) (by decide)
          have h16 : B.1 16 = σ.1 16 := by rw [hBg 16 (by decide) (by decide)]; exact hsY.i 16 (by decide) (by decide)
          have : cstS kc rc md B u' = cstS kc rc md σ u' := by
            funext i z
            have hri : rky kc rc md B u' i ↔ rky kc rc md σ u' i := by
              unfold rky opn
              rw [h17, h16, OpV_sm hE]
            have hn : nC B u' i = nC σ u' i := by unfold nC; rw [h17]
            by_cases e : rky kc rc md σ u' i
            · rw [cstS_t e, cstS_t (hri.mpr e), hn]
            · rw [cstS_f e, cstS_f (fun z => e (hri.mp z))]
          unfold cst
          rw [this]
        have y41b : Y2.1 41 = u' := by rw [cM 41 (by decide), hY'.sm.i 41 (by decide) (by decide), b41]
        have back : upd u' k (nI 0) = σ.1 19 := by
          funext j
          unfold upd
          by_cases e : j = k
          · rw [if_pos e, e]; exact hmk.symm
          · rw [if_neg e, ← hu]; exact if_neg e
        refine ⟨am_set Y2 41 (σ.1 19), ?_, hY1.trans ⟨fun a a1 a2 => ?_, fun j j1 j2 => ?_, fun a ha => ?_⟩, ?_, ?_⟩
        · rw [f1, q234_71, if_pos (am_k (by omega) (by omega)), i_cl (by omega), nb_1, am_wI_s, y41, hu, hZ2, e10, bI_r, if_pos (am_k (by omega) (by omega)), nb_0, am_wI_s, y41b, back, cst']
        · by_cases e : a = 41
          · subst e; rw [s_eq, y41]
          · rw [s_ne _ _ e]
            by_cases ea : aM a = true
            · rw [cM a ea, hY'.sm.i a a1 a2, hBg a (fun z => by subst z; revert ea; decide) e]
            · rw [cC a (by simpa using ea), ← hZ2, s_ne _ _ e]
        · rw [s_ne _ _ (by decide), cM 34 (by decide), hY'.sm.f j j1 j2, hBg 34 (by decide) (by decide)]
        · show Y2.2.1 a = Y1.2.1 a
          have hBJ : B.2.1 a = Y1.2.1 a := by rw [← hB, ← hZ2]; rfl
          have hZJ : Z2.2.1 a = Y1.2.1 a := by rw [← hZ2]; rfl
          by_cases ea : aM a = true
          · have : Y2.2.1 a = Y'.2.1 a := by rw [← hy1]; exact (hyJ ea).symm
            rw [this, hY'.sm.j a ha, hBJ]
          · have : Y2.2.1 a = Z2.2.1 a := by rw [← hy2]; exact hyJ' (by simpa using ea)
            rw [this, hZJ]
        · show Y2.2.2 = Z.2.2
          have e11 : Y2.2.2 = Y'.2.2 := by rw [← hy1]; rfl
          have e12 : B.2.2 = Y1.2.2 := by rw [← hB, ← hZ2]; rfl
          rw [e11, hY'.n, e12, ny1]
        · rw [s_ne _ _ (by decide), cM 34 (by decide), hY'.t, hBg 34 (by decide) (by decide)]; exact ty1
      · refine Fc.r h hc (Sm.refl σ) rfl (v := nI 0) (by rw [hcl, if_neg hmk]) (fun Z hs hI => ⟨th Z (nI 0), by rw [hm0 Z hs hI, if_neg hmk], (Sm.refl Z).th _, rfl, th_v _ _⟩)
  · refine Fc.x h hc (E := xIO) (Sm.refl σ) rfl ?_ (fun Z hs hI => ⟨nI 0, ?_⟩)
    · rw [e116, q116_0, x144 _ _ _ (by omega), if_neg hx, bV_x]
    · rw [e234, q234_0, x182, bI_r, bz_f hx, if_pos rfl, q234_35, th_w, th_v, if_pos hlt01]; rfl
end CST
