/-! nodes on the way to a place: both sides -/
section BLD
theorem up_s (p : Nat) : ∀ n, up p (n + 1) = par (up p n) := by
  intro n
  induction n generalizing p with
  | zero => rfl
  | succ n ih =>
    show up (par p) (n + 1) = par (up (par p) n)
    exact ih (par p)
theorem up_lvl {p : Nat} (hp : p < 85) : ∀ n, n ≤ lvl p → lvl (up p n) = lvl p - n ∧ up p n < 85 := by
  intro n
  induction n with
  | zero => intro _; exact ⟨rfl, hp⟩
  | succ n ih =>
    intro hn
    obtain ⟨h1, h2⟩ := ih (by omega)
    have h0 : 0 < up p n := by
      rcases Nat.eq_zero_or_pos (up p n) with e | e
      · rw [e] at h1
        have : lvl 0 = 0 := rfl
        omega
      · exact e
    have h3 := lvl_par h0 h2
    have h4 := par_lt h0
    rw [up_s]
    exact ⟨by omega, by omega⟩
/-- empty places on the way to one, itself included -/
def eW (n : Nat → Int32) : Nat → Nat → Nat
  | 0, _ => 0
  | f + 1, p => eW n f (par p) + (if n p = nI 0 then 1 else 0)
theorem eW_le (n : Nat → Int32) : ∀ f p, eW n f p ≤ f := by
  intro f
  induction f with
  | zero => intro p; exact Nat.le_refl _
  | succ f ih =>
    intro p
    have := ih (par p)
    rw [eW]
    split <;> omega
/-- the ancestor of level l -/
abbrev anc (pp l : Nat) : Nat := up pp (lvl pp - l)
theorem anc_p {pp l : Nat} (h : l + 1 ≤ lvl pp) : anc pp l = par (anc pp (l + 1)) := by
  unfold anc
  rw [show lvl pp - l = (lvl pp - (l + 1)) + 1 by omega, up_s]
theorem anc_l {pp l : Nat} (hp : pp < 85) (h : l ≤ lvl pp) : lvl (anc pp l) = l ∧ anc pp l < 85 := by
  have := up_lvl hp (lvl pp - l) (by omega)
  unfold anc
  exact ⟨by omega, this.2⟩
theorem anc_0 {pp l : Nat} (hp : pp < 85) (h : l + 1 ≤ lvl pp) : 0 < anc pp (l + 1) := by
  rcases Nat.eq_zero_or_pos (anc pp (l + 1)) with e | e
  · have := (anc_l hp h).1
    rw [e] at this
    have h2 : lvl 0 = 0 := rfl
    omega
  · exact e
theorem anc_t (pp : Nat) : anc pp (lvl pp) = pp := by
  unfold anc
  rw [Nat.sub_self]
  rfl
theorem lvl_z {p : Nat} (hp : p < 85) (h : lvl p = 0) : p = 0 := by
  unfold lvl at h; split at h <;> (try split at h) <;> (try split at h) <;> omega
variable (d : Nat) {c kc md rc td : Nat} {lev rk : Nat → Nat}
theorem x90 (X : am_M) {pp : Nat} (hp : pp < 85) : am_ex (d + 4) 90 [.ref 3, .int (nI pp)] X = rI (nI (eW (X.1 16) (lvl pp) pp)) X := by
  have key : ∀ l k, l ≤ lvl pp → am_go am_X0 (am_ex (d + 3)) M90 7 [.ref 3, .int (nI pp), .int (nI k), .int (nI l)] [] X = rI (nI (k + eW (X.1 16) l (anc pp l))) X := by
    intro l
    induction l with
    | zero =>
      intro k _
      rw [q90_7, if_pos le00]
      rfl
    | succ l ih =>
      intro k hl
      have hl3 := lvl_3 pp
      have h2 := anc_l hp hl
      rw [q90_7, if_neg (by rw [i_le, i_n (by omega), i_n (by omega)]; omega), x168 _ _ hp hl, nI_r, x78, bI_r, show nI (l + 1) + (-1) = nI l from pk_m1 l, show nI k + nI 1 = nI (k + 1) from nI_1 _, eW, ← anc_p hl, bz_c (show rd (X.1 16) 85 (nI 0) (nI (up pp (lvl pp - (l + 1)))) ≠ nI 0 ↔ ¬ X.1 16 (anc pp (l + 1)) = nI 0 by rw [rd_n h2.2 (by omega)])]
      by_cases e : X.1 16 (anc pp (l + 1)) = nI 0
      · rw [bz_f (fun z => z e), if_pos rfl, if_pos e, ih (k + 1) (by omega), show k + 1 + eW (X.1 16) l (anc pp l) = k + (eW (X.1 16) l (anc pp l) + 1) by omega]
      · rw [bz_t e, if_neg n10, if_neg e, ih k (by omega), Nat.add_zero]
  have := key (lvl pp) 0 (Nat.le_refl _)
  rw [anc_t, Nat.zero_add] at this
  rw [e90, q90_0, x165 _ _ hp, nI_r, this]
theorem y200 (Y : am_M) {p : Nat} (hp : p < 85) : am_ex (d + 2) 200 [.ref 34, .int (nI p)] Y = rI (nI (eW (Y.1 35) (lvl p) p)) Y := by
  have key : ∀ f p k, p < 85 → lvl p = f → ∀ v1 : Int32, am_go am_X0 (am_ex (d + 1)) M200 4 [.ref 34, .int v1, .int (nI k), .int (nI p)] [] Y = rI (nI (k + eW (Y.1 35) f p)) Y := by
    intro f
    induction f with
    | zero =>
      intro p k hp hl v1
      rw [lvl_z hp hl, q200_4, if_pos le00]
      rfl
    | succ f ih =>
      intro p k hp hl v1
      have h0 : 0 < p := by
        rcases Nat.eq_zero_or_pos p with e | e
        · subst e; have : lvl 0 = 0 := rfl
          omega
        · exact e
      have h2 := lvl_par h0 hp
      have h3 := par_lt h0
      rw [q200_4, if_neg (by rw [i_le, i_n (by omega), i_n (by omega)]; omega), if_pos (am_k (by omega) (by omega)), i_cl (by omega), q200_23, q200_23, x179 _ _ h0 (by omega), bI_r, bI_r, eW, show nI k + nI 1 = nI (k + 1) from nI_1 _, show nI k + nI 0 = nI k from nI_add k 0]
      by_cases e : Y.1 35 p = nI 0
      · rw [if_pos e, if_pos e, ih (par p) (k + 1) (by omega) (by omega), show k + 1 + eW (Y.1 35) f (par p) = k + (eW (Y.1 35) f (par p) + 1) by omega]
      · rw [if_neg e, if_neg e, ih (par p) k (by omega) (by omega), Nat.add_zero]
  have := key (lvl p) p 0 hp rfl (nI p)
  rw [Nat.zero_add] at this
  rw [e200, q200_0, this]
/-- all is there on the way to a node -/
theorem eW_0 {J : am_M} (h : Inv0 c kc md rc td lev rk J) : ∀ f p, p < 85 → lvl p = f → ¬ J.1 16 p = nI 0 → eW (J.1 16) f p = 0 := by
  intro f
  induction f with
  | zero => intro p _ _ _; rfl
  | succ f ih =>
    intro p hp hl hn
    have h0 : 0 < p := by
      rcases Nat.eq_zero_or_pos p with e | e
      · subst e; have : lvl 0 = 0 := rfl
        omega
      · exact e
    have h2 := lvl_par h0 hp
    have h3 := par_lt h0
    rw [eW, if_neg hn, ih (par p) (by omega) (by omega) (h.core.pars p h0 hp hn)]
/-- only keys, nodes and entries differ -/
abbrev FB (σ τ : am_M) : Prop := (∀ a, ¬ (a = 1 ∨ a = 13 ∨ a = 16 ∨ a = 21 ∨ a = 22 ∨ a = 23 ∨ a = 24 ∨ a = 34 ∨ a = 35 ∨ a = 45 ∨ a = 46 ∨ a = 47 ∨ a = 48) → τ.1 a = σ.1 a) ∧ (τ.1 1 1 = σ.1 1 1) ∧ (∀ j, j ≠ 21 → τ.1 34 j = σ.1 34 j) ∧ (∀ a, a ≠ 49 → τ.2.1 a = σ.2.1 a) ∧ (τ.2.2 = σ.2.2)
theorem FB.i {σ τ : am_M} (h : FB σ τ) : ∀ a, ¬ (a = 1 ∨ a = 13 ∨ a = 16 ∨ a = 21 ∨ a = 22 ∨ a = 23 ∨ a = 24 ∨ a = 34 ∨ a = 35 ∨ a = 45 ∨ a = 46 ∨ a = 47 ∨ a = 48) → τ.1 a = σ.1 a := h.1
theorem FB.s {σ τ : am_M} (h : FB σ τ) : τ.1 1 1 = σ.1 1 1 := h.2.1
theorem FB.f {σ τ : am_M} (h : FB σ τ) : ∀ j, j ≠ 21 → τ.1 34 j = σ.1 34 j := h.2.2.1
theorem FB.j {σ τ : am_M} (h : FB σ τ) : ∀ a, a ≠ 49 → τ.2.1 a = σ.2.1 a := h.2.2.2.1
theorem FB.n {σ τ : am_M} (h : FB σ τ) : τ.2.2 = σ.2.2 := h.2.2.2.2
theorem FB.mk {σ τ : am_M} (i : ∀ a, ¬ (a = 1 ∨ a = 13 ∨ a = 16 ∨ a = 21 ∨ a = 22 ∨ a = 23 ∨ a = 24 ∨ a = 34 ∨ a = 35 ∨ a = 45 ∨ a = 46 ∨ a = 47 ∨ a = 48) → τ.1 a = σ.1 a) (s : τ.1 1 1 = σ.1 1 1) (f : ∀ j, j ≠ 21 → τ.1 34 j = σ.1 34 j) (j : ∀ a, a ≠ 49 → τ.2.1 a = σ.2.1 a) (n : τ.2.2 = σ.2.2) : FB σ τ := ⟨i, s, f, j, n⟩
theorem FB.refl (σ : am_M) : FB σ σ := ⟨fun _ _ => rfl, rfl, fun _ _ => rfl, fun _ _ => rfl, rfl⟩
theorem FB.trans {σ τ ρ : am_M} (h1 : FB σ τ) (h2 : FB τ ρ) : FB σ ρ := ⟨fun a ha => (h2.i a ha).trans (h1.i a ha), h2.s.trans h1.s, fun j hj => (h2.f j hj).trans (h1.f j hj), fun a ha => (h2.j a ha).trans (h1.j a ha), h2.n.trans h1.n⟩
theorem FB.jw (σ : am_M) (t s : Nat) (a b e : Int32) (w : Int64) : FB σ (JW σ t s a b e w) := by
  have h := FW.jw σ t s a b e w
  exact ⟨fun x hx => h.i x (by omega), by rw [h.i 1 (by decide)], fun j _ => by rw [h.i 34 (by decide)], h.j, rfl⟩
theorem FB.jk (σ : am_M) (kc p : Nat) : FB σ (JK σ kc p) := by
  refine ⟨fun x hx => ?_, ?_, fun j hj => ?_, fun a _ => ?_, ?_⟩
  · unfold JK kyM
    rw [s_ne _ _ (by omega), s_ne _ _ (by omega), rnw_o _ _ _ (by omega)]
  · unfold JK kyM
    rw [s_ne _ _ (by decide), s_ne _ _ (by decide), rnw_1]; exact if_neg (by decide)
  · unfold JK kyM
    rw [s_ne _ _ (by decide), s_eq, show upd ((rnw σ kc p).1 34) 21 (nI (kc + 1)) j = (rnw σ kc p).1 34 j from if_neg hj, rnw_o _ _ _ (by decide)]
  · unfold JK kyM
    show (rnw σ kc p).2.1 a = _
    rw [rnw_J]
  · unfold JK kyM
    show (rnw σ kc p).2.2 = _
    rw [rnw_J]
theorem bld (d2 : Nat) {J : am_M} {t s : Nat} (h : JB c kc md rc td lev rk t s J) (hc : c < 600) {pp : Nat} (hp : pp < 85) (hs : s + eW (J.1 16) (lvl pp) pp ≤ 150) : ∀ l, l ≤ lvl pp → ∃ J' lev', JB c (kc + eW (J.1 16) l (anc pp l)) md rc td lev' rk t (s + eW (J.1 16) l (anc pp l)) J' ∧ FB J J' ∧ (eW (J.1 16) l (anc pp l) = 0 → J' = J) ∧ (∀ q, J'.1 16 q = J.1 16 q ∨ (J.1 16 q = nI 0 ∧ ∃ i, i ≤ l ∧ q = anc pp i)) ∧ ¬ J'.1 16 (anc pp l) = nI 0 ∧ (J.1 16 (anc pp l) = nI 0 → J'.1 16 (anc pp l) = nI (kc + eW (J.1 16) l (anc pp l))) ∧ (∀ X, EqC J X → ∃ X' u', am_go am_X0 (am_ex (d + 5)) M153 2 [.ref 0, .int (nI pp), .int (nI 1), .null] [] X = am_go am_X0 (am_ex (d + 5)) M153 2 [.ref 0, .int (nI pp), .int (nI (l + 1)), u'] [] X' ∧ (!(u'.category == 2)) = true ∧ EqC J' X' ∧ EqM X X') ∧ (∀ Y, EqM J Y → ∃ Y', am_ex (d2 + 4 + l) 201 [.ref 34, .int (nI (anc pp l))] Y = rV Y' ∧ EqM J' Y' ∧ Kp Y Y') := by
  have hl3 := lvl_3 pp
  have hmono : ∀ l, l ≤ lvl pp → eW (J.1 16) l (anc pp l) ≤ eW (J.1 16) (lvl pp) pp := by
    have : ∀ k l, l + k = lvl pp → eW (J.1 16) l (anc pp l) ≤ eW (J.1 16) (lvl pp) pp := by
      intro k
      induction k with
      | zero =>
        intro l hl
        have : l = lvl pp := by omega
        subst this
        rw [anc_t]; exact Nat.le_refl _
      | succ k ih =>
        intro l hl
        have h1 := ih (l + 1) (by omega)
        rw [eW, ← anc_p (by omega)] at h1
        omega
    intro l hl
    exact this (lvl pp - l) l (by omega)
  intro l
  induction l with
  | zero =>
    intro _
    have e0 : anc pp 0 = 0 := by
      have := anc_l hp (l := 0) (by omega)
      exact lvl_z this.2 this.1
    refine ⟨J, lev, h, FB.refl J, fun _ => rfl, fun q => Or.inl rfl, by rw [e0]; exact h.v.core.root, fun z => by rw [e0] at z; exact absurd z h.v.core.root, fun X eX => ⟨X, .null, rfl, rfl, eX, EqM.refl X⟩, fun Y eY => ⟨Y, ?_, eY, Kp.refl Y⟩⟩
    rw [e0, show d2 + 4 + 0 = (d2 + 3) + 1 by omega, e201, q201_0, if_pos rfl]
  | succ l ih =>
    intro hl
    obtain ⟨J1, lev1, hB, hF, hz, hq, hne, hval, hX, hY⟩ := ih (by omega)
    obtain ⟨hlv, hlt⟩ := anc_l hp hl
    have h0 := anc_0 hp hl
    have hpar := anc_p hl
    have hm := hmono (l + 1) hl
    rw [eW, ← hpar] at hm ⊢
    have hkl := hB.v.kl
    have hq1 : J1.1 16 (anc pp (l + 1)) = J.1 16 (anc pp (l + 1)) := by
      rcases hq (anc pp (l + 1)) with z | ⟨_, i, hi, z⟩
      · exact z
      · have := (anc_l hp (l := i) (by omega)).1
        rw [← z] at this
        omega
    by_cases hn : J.1 16 (anc pp (l + 1)) = nI 0
    · rw [if_pos hn] at hm ⊢
      -- a new node
      generalize hq0 : anc pp (l + 1) = q at hlv hlt h0 hpar hq1 hn
      have hpq : anc pp l = par q := hpar
      rw [hpq] at hne hY
      generalize eW (J.1 16) l (anc pp l) = e at hB hz hval hm ⊢
      have hkey := hB.v.key (p := q) hlt (Or.inr hne) hc
      have hB2 : JB (c + 1) (kc + e + 1) md rc td (lvN lev1 (kc + e + 1) (lvl q)) rk t (s + e) (JK J1 (kc + e) q) := ⟨hkey, hB.w.jk _ _⟩
      have n16 : (JK J1 (kc + e) q).1 16 = upd (J1.1 16) q (nI (kc + e + 1)) := JK_16 _ _ _
      have nq : (JK J1 (kc + e) q).1 16 q = nI (kc + e + 1) := by rw [n16]; exact if_pos rfl
      have hq2 : ¬ (JK J1 (kc + e) q).1 16 q = nI 0 := by rw [nq]; exact nI_s0 (by omega)
      have hok := wrap_ok hB2.v h0 hlt hq2
      have hB3 := hB2.jw (by omega) hok
      generalize hJ3 : JW (JK J1 (kc + e) q) t (s + e) (nI 0) ((JK J1 (kc + e) q).1 16 q) ((JK J1 (kc + e) q).1 16 (par q)) (wrp ((JK J1 (kc + e) q).1 1 1) ((JK J1 (kc + e) q).1 16 q) ((JK J1 (kc + e) q).1 16 (par q))).toInt64 = J3 at hB3
      have hF3 : FB J1 J3 := by rw [← hJ3]; exact (FB.jk _ _ _).trans (FB.jw _ _ _ _ _ _ _)
      have j16 : J3.1 16 = upd (J1.1 16) q (nI (kc + e + 1)) := by rw [← hJ3, (FW.jw _ _ _ _ _ _ _).i 16 (by decide), n16]
      refine ⟨J3, lvN lev1 (kc + e + 1) (lvl q), ?_, hF.trans hF3, fun z => by omega, fun q' => ?_, ?_, fun _ => ?_, fun X eX => ?_, fun Y eY => ?_⟩
      · rw [← Nat.add_assoc, ← Nat.add_assoc]
        exact hB3
      · rw [j16]
        by_cases eq : q' = q
        · exact Or.inr ⟨by rw [eq]; exact hn, l + 1, Nat.le_refl _, by rw [eq, hq0]⟩
        · rw [show upd (J1.1 16) q (nI (kc + e + 1)) q' = J1.1 16 q' from if_neg eq]
          exact (hq q').imp id (fun ⟨a, i, b, z⟩ => ⟨a, i, by omega, z⟩)
      · rw [j16, show upd (J1.1 16) q (nI (kc + e + 1)) q = nI (kc + e + 1) from if_pos rfl]; exact nI_s0 (by omega)
      · rw [j16, show upd (J1.1 16) q (nI (kc + e + 1)) q = nI (kc + e + 1) from if_pos rfl, Nat.add_assoc]
      · obtain ⟨X1, u1, k1, k2, k3, k4⟩ := hX X eX
        have k5 := JK_C k3 (kc + e) q
        have hx := x151 d hB2.v hB2.w (by omega) k5 h0 hlt
        have k6 := JW_C k5 t (s + e) (nI 0) ((JK J1 (kc + e) q).1 16 q) ((JK J1 (kc + e) q).1 16 (par q)) (wrp ((JK J1 (kc + e) q).1 1 1) ((JK J1 (kc + e) q).1 16 q) ((JK J1 (kc + e) q).1 16 (par q))).toInt64
        rw [hJ3] at k6
        refine ⟨_, .int (nI q), ?_, rfl, k6, k4.trans (wrE_M (rnw_M (EqM.refl X1) _ _) _ _ _ _ _)⟩
        have h91 : am_ex (d + 5) 91 [.ref 3, .int (nI q)] X1 = rV (rnw X1 (kc + e) q) := x91 _ X1 (by rw [k3.i 1 (by decide) (by decide)]; exact hB.v.hk) (by omega) hlt
        have ha : up pp (lvl pp - (l + 1)) = q := hq0
        rw [k1, q153_2 _ _ _ _ k2, x165 _ _ hp, bI_r, if_neg (by rw [i_lt, i_n (by omega), i_n (by omega)]; omega), x168 _ _ hp hl, bI_r, ha, x78, bI_r, bz_f (by rw [rd_n hlt (by omega), k3.i 16 (by decide) (by decide), hq1]; exact fun z => z hn), if_pos rfl, h91, bV_r, hx, bV_r, show nI (l + 1) + nI 1 = nI (l + 1 + 1) from nI_1 _]
      · obtain ⟨Y1, k1, k2, k3⟩ := hY Y eY
        have k5 := JK_M k2 (kc + e) q
        have k6 := JW_M k5 t (s + e) (nI 0) ((JK J1 (kc + e) q).1 16 q) ((JK J1 (kc + e) q).1 16 (par q)) (wrp ((JK J1 (kc + e) q).1 1 1) ((JK J1 (kc + e) q).1 16 q) ((JK J1 (kc + e) q).1 16 (par q))).toInt64
        rw [hJ3] at k6
        refine ⟨_, ?_, k6, (k3.k _ _).w _ _ _ _ _ _⟩
        have hpl := par_lt h0
        have hmk : am_wI (am_set Y1 34 (upd (Y1.1 34) 21 (nI (kc + e + 1)))) 35 q (nI (kc + e + 1)) = kyM Y1 (kc + e) q := by
          unfold kyM; rw [am_wI_s, s_ne _ _ (by decide)]
        have y35 : Y.1 35 q = nI 0 := by rw [eY.i 35 (by decide) (by decide) (by decide), h.v.e35]; exact hn
        have k35 : (kyM Y1 (kc + e) q).1 35 = (JK J1 (kc + e) q).1 16 := by rw [k5.i 35 (by decide) (by decide) (by decide)]; exact hkey.e35
        rw [show d2 + 4 + (l + 1) = (d2 + 4 + l) + 1 by omega, e201, q201_0, if_neg (fun z => by have := nI_inj (by omega) (by omega) z; omega), if_pos (am_k hlt (by omega)), i_cl (by omega), if_pos y35, show d2 + 4 + l = (d2 + 3 + l) + 1 by omega, x179 _ _ h0 (by omega), bI_r, show d2 + 3 + l + 1 = d2 + 4 + l by omega, k1, bV_r, show d2 + 4 + l = (d2 + 3 + l) + 1 by omega, y177 _ _ (by rw [k2.f 21 (by decide) (by decide)]; exact hB.v.hk'), bI_r, if_pos (am_k hlt (by omega)), if_pos (am_k hlt (by omega)), hmk, x179 _ _ h0 (by omega), bI_r, if_pos (am_k (by omega) (by omega)), i_cl (by omega), k35, show d2 + 3 + l + 1 = (d2 + 1 + l) + 3 by omega, y189j (d2 + 1 + l) hB2.v hB2.w (by omega) k5, bV_r]
    · rw [if_neg hn] at hm ⊢
      have hz0 : eW (J.1 16) l (anc pp l) = 0 := by
        have := eW_0 h.v (l + 1) (anc pp (l + 1)) hlt hlv hn
        rw [eW, ← hpar, if_neg hn] at this
        omega
      have hJ := hz hz0
      subst hJ
      refine ⟨J1, lev1, hB, FB.refl J1, fun _ => rfl, fun q => Or.inl rfl, hn, fun z => absurd z hn, fun X eX => ?_, fun Y eY => ⟨Y, ?_, eY, Kp.refl Y⟩⟩
      · obtain ⟨X1, u1, k1, k2, k3, k4⟩ := hX X eX
        refine ⟨X1, .int (nI (anc pp (l + 1))), ?_, rfl, k3, k4⟩
        rw [k1, q153_2 _ _ _ _ k2, x165 _ _ hp, bI_r, if_neg (by rw [i_lt, i_n (by omega), i_n (by omega)]; omega), x168 _ _ hp hl, bI_r, x78, bI_r, bz_t (by rw [rd_n hlt (by omega), k3.i 16 (by decide) (by decide)]; exact hn), if_neg n10, show nI (l + 1) + nI 1 = nI (l + 1 + 1) from nI_1 _]
      · rw [show d2 + 4 + (l + 1) = (d2 + 4 + l) + 1 by omega, e201, q201_0, if_neg (fun z => by have := nI_inj (by omega) (by omega) z; omega), if_pos (am_k hlt (by omega)), i_cl (by omega), if_neg (by rw [eY.i 35 (by decide) (by decide) (by decide), h.v.e35]; exact hn)]
end BLD
