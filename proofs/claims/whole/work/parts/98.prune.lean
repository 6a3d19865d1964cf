/-! moving: empty places above go -/
section PRN
variable (d : Nat) {c kc md rc td : Nat} {lev rk : Nat → Nat} {J : am_M} {a : Nat}
def clC (X : am_M) (kc p : Nat) : am_M := am_set (am_set X 13 (plO X kc p)) 16 (upd (X.1 16) p (nI 0))
def clM (Y : am_M) (p : Nat) : am_M := am_set Y 35 (upd (Y.1 35) p (nI 0))
/-- a place without children is cleared on both sides -/
theorem Inv0.clr (h : Inv0 c kc md rc td lev rk J) {p : Nat} (h0 : 0 < p) (hp : p < 21) (hch : chN (J.1 16) p = 0) : Inv0 c kc md rc td lev rk (clM (clC J kc p) p) := by
  have hkl := h.kl
  have hpl : ∀ k q, 1 ≤ k → k ≤ kc → q < 85 → q ≠ p → J.1 13 k = nI q → plO J kc p k = nI q := by
    intro k q k1 k2 k3 k4 k5
    unfold plO
    by_cases hm : mdR (J.1 16 p) kc
    · rw [if_pos hm]
      have : k ≠ (J.1 16 p).toNatClampNeg := by
        intro z
        rcases h.core.node p (by omega) with h0 | ⟨k', a1, a2, a3, a4, a5⟩
        · rw [h0] at hm
          exact absurd hm.1 (by decide)
        · rw [a3, i_cl (by omega)] at z
          subst z
          rw [a4] at k5
          exact k4 (nI_inj (by omega) (by omega) k5).symm
      rw [show upd (J.1 13) (J.1 16 p).toNatClampNeg (-1) k = J.1 13 k from if_neg this]
      exact k5
    · rw [if_neg hm]; exact k5
  apply Inv0.mk
  case core =>
    simp +decide only [clM, clC, s_rd, s_J, if_true, if_false, ite_true, ite_false]
    apply Core.mk
    case mdb => exact h.core.mdb
    case rcb => exact h.core.rcb
    case lvb => exact h.core.lvb
    case node =>
      intro q hq
      by_cases e : q = p
      · rw [e]; exact Or.inl upd_e
      · rw [upd_n e]
        rcases h.core.node q hq with h0 | ⟨k, a1, a2, a3, a4, a5⟩
        · exact Or.inl h0
        · exact Or.inr ⟨k, a1, a2, a3, hpl k q a1 a2 hq e a4, a5⟩
    case root => rw [upd_n (by omega)]; exact h.core.root
    case pars =>
      intro q h0 hq hne
      by_cases e : q = p
      · rw [e] at hne; exact absurd upd_e hne
      · rw [upd_n e] at hne
        rw [upd_n (fun z => ?_)]
        · exact h.core.pars q h0 hq hne
        · have := cnt_0 _ _ hch (q - (4 * p + 1)) (by omega) (by unfold par at z; omega)
          rw [show 4 * p + 1 + (q - (4 * p + 1)) = q by unfold par at z; omega] at this
          exact this hne
    case plc =>
      intro k k1 k2
      rcases h.core.plc k k1 k2 with a | ⟨q, a1, a2, a3⟩
      · refine Or.inl ?_
        unfold plO
        by_cases hm : mdR (J.1 16 p) kc
        · rw [if_pos hm]
          unfold upd
          split
          · rfl
          · exact a
        · rw [if_neg hm]; exact a
      · by_cases e2 : q = p
        · subst e2
          refine Or.inl ?_
          unfold plO
          rw [if_pos (show mdR (J.1 16 q) kc from ⟨by rw [a3, i_n (by omega)]; omega, by rw [a3, i_n (by omega)]; omega⟩), a3, i_cl (by omega)]
          exact if_pos rfl
        · exact Or.inr ⟨q, a1, hpl k q k1 k2 a1 e2 a2, by rw [upd_n e2]; exact a3⟩
    case rec => exact h.core.rec
    case lfs => exact h.core.lfs
    case med => exact h.core.med
    case ent => exact h.core.ent
  case e35 => simp +decide only [clM, clC, s_rd, s_J, if_true, if_false, ite_true, ite_false]; rw [h.e35]
  case cb => exact h.cb
  case tb => exact h.tb
  case kb => simp +decide only [clM, clC, s_rd, s_J, if_true, if_false, ite_true, ite_false]; exact h.kb
  case hk => simp +decide only [clM, clC, s_rd, s_J, if_true, if_false, ite_true, ite_false]; exact h.hk
  case hm => simp +decide only [clM, clC, s_rd, s_J, if_true, if_false, ite_true, ite_false]; exact h.hm
  case hr => simp +decide only [clM, clC, s_rd, s_J, if_true, if_false, ite_true, ite_false]; exact h.hr
  case ht => simp +decide only [clM, clC, s_rd, s_J, if_true, if_false, ite_true, ite_false]; exact h.ht
  case hk' => simp +decide only [clM, clC, s_rd, s_J, if_true, if_false, ite_true, ite_false]; exact h.hk'
  case hm' => simp +decide only [clM, clC, s_rd, s_J, if_true, if_false, ite_true, ite_false]; exact h.hm'
  case hr' => simp +decide only [clM, clC, s_rd, s_J, if_true, if_false, ite_true, ite_false]; exact h.hr'
  case ht' => simp +decide only [clM, clC, s_rd, s_J, if_true, if_false, ite_true, ite_false]; exact h.ht'
  case sd => simp +decide only [clM, clC, s_rd, s_J, if_true, if_false, ite_true, ite_false]; exact h.sd
  case e37 => simp +decide only [clM, clC, s_rd, s_J, if_true, if_false, ite_true, ite_false]; exact h.e37
  case e38 => simp +decide only [clM, clC, s_rd, s_J, if_true, if_false, ite_true, ite_false]; exact h.e38
  case e41 => simp +decide only [clM, clC, s_rd, s_J, if_true, if_false, ite_true, ite_false]; exact h.e41
  case e46 => simp +decide only [clM, clC, s_rd, s_J, if_true, if_false, ite_true, ite_false]; exact h.e46
  case e47 => simp +decide only [clM, clC, s_rd, s_J, if_true, if_false, ite_true, ite_false]; exact h.e47
  case e48 => simp +decide only [clM, clC, s_rd, s_J, if_true, if_false, ite_true, ite_false]; exact h.e48
  case e51 => simp +decide only [clM, clC, s_rd, s_J, if_true, if_false, ite_true, ite_false]; exact h.e51
  case e53 => simp +decide only [clM, clC, s_rd, s_J, if_true, if_false, ite_true, ite_false]; exact h.e53
  case e54 => simp +decide only [clM, clC, s_rd, s_J, if_true, if_false, ite_true, ite_false]; exact h.e54
  case e50 => simp +decide only [clM, clC, s_rd, s_J, if_true, if_false, ite_true, ite_false]; exact h.e50
  case mdm => simp +decide only [clM, clC, s_rd, s_J, if_true, if_false, ite_true, ite_false]; exact h.mdm
  case kep => simp +decide only [clM, clC, s_rd, s_J, if_true, if_false, ite_true, ite_false]; exact h.kep
  case okh => simp +decide only [clM, clC, s_rd, s_J, if_true, if_false, ite_true, ite_false]; exact h.okh
  case due => simp +decide only [clM, clC, s_rd, s_J, if_true, if_false, ite_true, ite_false]; exact h.due
  case mrk => simp +decide only [clM, clC, s_rd, s_J, if_true, if_false, ite_true, ite_false]; exact h.mrk
  case con => simp +decide only [clM, clC, s_rd, s_J, if_true, if_false, ite_true, ite_false]; exact h.con
  case prl => simp +decide only [clM, clC, s_rd, s_J, if_true, if_false, ite_true, ite_false]; exact h.prl
theorem clC_C {J X : am_M} (h : EqC J X) (kc p : Nat) : EqC (clM (clC J kc p) p) (clC X kc p) := by
  have e16 := h.i 16 (by decide) (by decide)
  have e13 := h.i 13 (by decide) (by decide)
  refine ⟨fun a h1 h2 => ?_, h.j, h.n⟩
  simp only [clM, clC, s_rd, plO, e16, e13]
  rw [if_neg (by omega : ¬ a = 35)]
  by_cases e1 : a = 16
  · rw [if_pos e1, if_pos e1]
  · rw [if_neg e1, if_neg e1]
    by_cases e2 : a = 13
    · rw [if_pos e2, if_pos e2]
    · rw [if_neg e2, if_neg e2]; exact h.i a h1 h2
theorem clM_M {J Y : am_M} (h : EqM J Y) (kc p : Nat) : EqM (clM (clC J kc p) p) (clM Y p) := by
  have e35 := h.i 35 (by decide) (by decide) (by decide)
  refine ⟨fun a h1 h2 h3 => ?_, fun j h1 h2 => ?_, h.j, h.k, h.n⟩
  · simp only [clM, clC, s_rd, e35]
    by_cases e1 : a = 35
    · rw [if_pos e1, if_pos e1, if_neg (by decide), if_neg (by decide)]
    · rw [if_neg e1, if_neg e1, if_neg (by omega), if_neg (by omega)]; exact h.i a h1 h2 h3
  · simp +decide only [clM, clC, s_rd, if_true, if_false, ite_true, ite_false]; exact h.f j h1 h2
theorem clC_M (X : am_M) (kc p : Nat) : EqM X (clC X kc p) := ((EqM.refl X).setC (by decide) _).setC (by decide) _
theorem clM_K (Y : am_M) (p : Nat) : Kp Y (clM Y p) := ⟨(EqC.refl Y).setM (by decide) _, by unfold clM; rw [s_ne _ _ (by decide)]⟩
theorem x95c {X : am_M} (hk : X.1 1 2 = nI kc) (hb : kc ≤ 2048) {p : Nat} (hp : p < 21) : am_ex (d + 3) 95 [.ref 3, .int (nI p)] X = rV (clC X kc p) := by
  rw [e95, q95_0, x162, nI_r, bz_t (inR_n (show p < 85 by omega) (by omega)), if_neg n10, if_pos (am_k (show p < 85 by omega) (by omega)), i_cl (by omega), x29 _ X hk hb, bV_r, if_pos (am_k (show p < 85 by omega) (by omega)), am_wI_s, x163, nI_r, bz_f (s21_lt hp), if_pos rfl]
  unfold clC plO
  by_cases e : mdR (X.1 16 p) kc
  · rw [if_pos e, if_pos e, s_ne _ _ (by decide)]
  · rw [if_neg e, if_neg e, s_self]
/-- a place with a child has children -/
theorem chN_ne {n : Nat → Int32} {q : Nat} (h0 : 0 < q) (hn : ¬ n q = nI 0) : ¬ chN n (par q) = 0 := fun z => by
  have := cnt_0 _ _ z (q - (4 * par q + 1)) (by omega) (by unfold par; omega)
  rw [show 4 * par q + 1 + (q - (4 * par q + 1)) = q by unfold par; omega] at this
  exact this hn
theorem x93n (h : Inv0 c kc md rc td lev rk J) (ha : a < 85) : ∀ l, l + 1 ≤ lvl a → ¬ J.1 16 (anc a (l + 1)) = nI 0 → ∀ (X : am_M) (u : Value), EqC J X → (!(u.category == 2)) = true → am_go am_X0 (am_ex (d + 4)) M93 7 [.ref 3, .int (nI a), .int (nI l), u] [] X = rV X := by
  have hl3 := lvl_3 a
  intro l
  induction l with
  | zero =>
    intro _ _ X u _ hu
    rw [q93_7 _ _ _ _ hu, if_pos le00]
  | succ l ih =>
    intro hl hn X u eX hu
    have h2 := anc_l ha (l := l + 1 + 1) (by omega)
    have h1 := anc_l ha (l := l + 1) (by omega)
    have h0 := anc_0 ha (l := l + 1) (by omega)
    have hp := anc_p (pp := a) (l := l + 1) (by omega)
    have hn2 : ¬ J.1 16 (anc a (l + 1)) = nI 0 := by rw [hp]; exact h.core.pars _ h0 h2.2 hn
    have h21 : anc a (l + 1) < 21 := by
      by_cases e : anc a (l + 1) < 21
      · exact e
      · have := lvl_lf (p := anc a (l + 1)) (by omega); omega
    have hc : ¬ chN (X.1 16) (anc a (l + 1)) = 0 := by
      rw [eX.i 16 (by decide) (by decide), hp]; exact chN_ne h0 hn
    have hb : chN (X.1 16) (anc a (l + 1)) ≤ 4 := cnt_le _ 4 0
    have e168 := x168 (d + 2) X ha (l := l + 1) (by omega)
    rw [q93_7 _ _ _ _ hu, if_neg (by rw [i_le, i_n (by omega), i_n (by omega)]; omega), e168, nI_r, x89 d X h21, bI_r, if_neg (fun z => hc (nI_inj (by omega) (by omega) z)), show nI (l + 1) + (-1) = nI l from pk_m1 l, ih (by omega) hn2 X _ eX rfl]
theorem prn (d2 : Nat) (ha : a < 85) : ∀ l, l + 1 ≤ lvl a → ∀ J, Inv0 c kc md rc td lev rk J → Lf kc rc rk (J.1 16) (J.1 17) → ¬ J.1 16 (anc a l) = nI 0 → ∃ J', Inv0 c kc md rc td lev rk J' ∧ Lf kc rc rk (J'.1 16) (J'.1 17) ∧ J'.1 17 = J.1 17 ∧ (∀ (X : am_M) (u : Value), EqC J X → (!(u.category == 2)) = true → ∃ X', am_go am_X0 (am_ex (d + 4)) M93 7 [.ref 3, .int (nI a), .int (nI l), u] [] X = rV X' ∧ EqC J' X' ∧ EqM X X') ∧ (∀ (Y : am_M) (v1 v2 v3 : Int32), EqM J Y → ∃ Y', am_go am_X0 (am_ex (d2 + 1)) M246 158 [.ref 34, .int v1, .int v2, .int v3, .int (nI (anc a l))] [] Y = rI v3 Y' ∧ EqM J' Y' ∧ Kp Y Y') := by
  have hl3 := lvl_3 a
  intro l
  induction l with
  | zero =>
    intro _ J hI hLf _
    have e0 : anc a 0 = 0 := by
      have := anc_l ha (l := 0) (by omega)
      exact lvl_z this.2 this.1
    refine ⟨J, hI, hLf, rfl, fun X u eX hu => ⟨X, ?_, eX, EqM.refl X⟩, fun Y v1 v2 v3 eY => ⟨Y, ?_, eY, Kp.refl Y⟩⟩
    · rw [q93_7 _ _ _ _ hu, if_pos le00]
    · rw [e0, q246_158, if_pos le00]
  | succ l ih =>
    intro hl J hI hLf hn
    have hkl := hI.kl
    have h1 := anc_l ha (l := l + 1) (by omega)
    have h0 := anc_0 ha (l := l) (by omega)
    have hp := anc_p (pp := a) (l := l) (by omega)
    have hpl := par_lt h0
    have h21 : anc a (l + 1) < 21 := by
      by_cases e : anc a (l + 1) < 21
      · exact e
      · have := lvl_lf (p := anc a (l + 1)) (by omega); omega
    have hn2 : ¬ J.1 16 (anc a l) = nI 0 := by rw [hp]; exact hI.core.pars _ h0 h1.2 hn
    have hb4 : chN (J.1 16) (anc a (l + 1)) ≤ 4 := cnt_le _ 4 0
    have e168 := fun X => x168 (d + 2) X ha (l := l + 1) (by omega)
    have hX0 : ∀ (X : am_M) (u : Value), EqC J X → (!(u.category == 2)) = true → am_go am_X0 (am_ex (d + 4)) M93 7 [.ref 3, .int (nI a), .int (nI (l + 1)), u] [] X = (if nI (chN (J.1 16) (anc a (l + 1))) = nI 0 then (am_bV (am_ex (d + 4) 95 [.ref 3, .int (nI (anc a (l + 1)))] X) (fun t3 => am_go am_X0 (am_ex (d + 4)) M93 7 [.ref 3, .int (nI a), .int (nI l), .int (nI (anc a (l + 1)))] [] t3)) else (am_go am_X0 (am_ex (d + 4)) M93 7 [.ref 3, .int (nI a), .int (nI l), .int (nI (anc a (l + 1)))] [] X)) := fun X u eX hu => by
      rw [q93_7 _ _ _ _ hu, if_neg (by rw [i_le, i_n (by omega), i_n (by omega)]; omega), e168 X, nI_r, x89 d X h21, bI_r, show nI (l + 1) + (-1) = nI l from pk_m1 l, eX.i 16 (by decide) (by decide)]
    have hY0 : ∀ (Y : am_M) (v1 v2 v3 : Int32), EqM J Y → am_go am_X0 (am_ex (d2 + 1)) M246 158 [.ref 34, .int v1, .int v2, .int v3, .int (nI (anc a (l + 1)))] [] Y = (if nI (chN (J.1 16) (anc a (l + 1))) = nI 0 then (am_go am_X0 (am_ex (d2 + 1)) M246 158 [.ref 34, .int v1, .int v2, .int v3, .int (nI (anc a l))] [] (clM Y (anc a (l + 1)))) else rI v3 Y) := fun Y v1 v2 v3 eY => by
      have y35 : Y.1 35 = J.1 16 := by rw [eY.i 35 (by decide) (by decide) (by decide), hI.e35]
      rw [q246_158, if_neg (by rw [i_le, i_n (by omega), i_n (by omega)]; omega), y231 d2 Y h21, bI_r, y35, if_pos (am_k h1.2 (by omega)), i_cl (by omega), am_wI_s, x179 d2 _ h0 (by omega), bI_r, ← hp]
      rfl
    by_cases hc : chN (J.1 16) (anc a (l + 1)) = 0
    · have hI2 := hI.clr h0 h21 hc
      have j16 : (clM (clC J kc (anc a (l + 1))) (anc a (l + 1))).1 16 = upd (J.1 16) (anc a (l + 1)) (nI 0) := by simp +decide only [clM, clC, s_rd, s_J, if_true, if_false, ite_true, ite_false]
      have j17 : (clM (clC J kc (anc a (l + 1))) (anc a (l + 1))).1 17 = J.1 17 := by simp +decide only [clM, clC, s_rd, s_J, if_true, if_false, ite_true, ite_false]
      obtain ⟨J', k1, k2, k3, k4, k5⟩ := ih (by omega) _ hI2 (by
        rw [j16, j17]
        refine ⟨fun k hk => ?_, fun k hk r e hr he e1 e2 => ?_⟩
        · rw [upd_n (by omega)]; exact hLf.lfn k hk
        · rw [upd_n (by omega)] at e2; exact hLf.rkn k hk r e hr he e1 e2) (by
        rw [j16, upd_n (by rw [hp]; omega)]; exact hn2)
      refine ⟨J', k1, k2, k3.trans j17, fun X u eX hu => ?_, fun Y v1 v2 v3 eY => ?_⟩
      · obtain ⟨X', m1, m2, m3⟩ := k4 (clC X kc (anc a (l + 1))) (.int (nI (anc a (l + 1)))) (clC_C eX _ _) rfl
        refine ⟨X', ?_, m2, (clC_M X _ _).trans m3⟩
        rw [hX0 X u eX hu, hc, if_pos rfl, x95c (d + 1) (by rw [eX.i 1 (by decide) (by decide)]; exact hI.hk) (by omega) h21, bV_r, m1]
      · obtain ⟨Y', m1, m2, m3⟩ := k5 (clM Y (anc a (l + 1))) v1 v2 v3 (clM_M eY _ _)
        refine ⟨Y', ?_, m2, (clM_K Y _).trans m3⟩
        rw [hY0 Y v1 v2 v3 eY, hc, if_pos rfl, m1]
    · have hc' : ¬ nI (chN (J.1 16) (anc a (l + 1))) = nI 0 := fun z => hc (nI_inj (by omega) (by omega) z)
      refine ⟨J, hI, hLf, rfl, fun X u eX hu => ⟨X, ?_, eX, EqM.refl X⟩, fun Y v1 v2 v3 eY => ⟨Y, ?_, eY, Kp.refl Y⟩⟩
      · rw [hX0 X u eX hu, if_neg hc', x93n d hI ha l (by omega) hn X _ eX rfl]
      · rw [hY0 Y v1 v2 v3 eY, if_neg hc']
end PRN
