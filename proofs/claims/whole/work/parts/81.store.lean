/-! store -/
section STO
variable (d : Nat) {c kc md rc td : Nat} {lev rk : Nat → Nat} {σ : am_M}
theorem Fc.ch2 {D k m : Nat} {as bs : List Value} {cod : String → Nat} {σ X : am_M} {v : Int32} (h1 : am_ex D k as σ = rI v X) (hX : EqM σ X) (hk : qM m = true) (hb : okL aM bs) (h2 : ∀ W, Sm σ W → W.2.2 = σ.2.2 → ∃ Y, am_ex D m bs W = rI v Y ∧ Y.2.2 = W.2.2 ∧ Y.1 34 25 = nI 0 ∧ IvE c (hy aM X Y)) : Fc D k m as bs cod c σ := by
  refine Or.inl ⟨v, X, h1, hX.n, fun Z hZ => ?_⟩
  obtain ⟨W, hW, hn, hR⟩ := fr_core (D := D) hX hZ hk hb
  obtain ⟨Y, e1, e2, e3, kc, md, rc, td, lev, rk, hI⟩ := h2 W hW (by rw [hn, hZ.2, hX.n])
  obtain ⟨Y', f1, f2, f3, f4⟩ := hR _ _ e1
  exact ⟨Y', f1, by rw [f2, e2, hn], by rw [f3]; exact e3, kc, md, rc, td, lev, rk, hI.sm f4⟩
/-- both sides' last memories, together -/
theorem Sm.mix {J X Y : am_M} (h1 : EqC J X) (h2 : EqM J Y) : Sm J (hy aM X Y) := by
  have ml : ∀ a, aM a = true ↔ 34 ≤ a ∧ a < 57 := fun a => by
    unfold aM
    simp only [Bool.and_eq_true, Nat.ble_eq, Nat.blt_eq]
  refine ⟨fun a ha hb => ?_, fun j hj hk => ?_, fun a ha => ?_⟩
  · by_cases e : aM a = true
    · have := (ml a).mp e
      rw [hyI e]; exact h2.i a (by omega) (by omega) ha
    · rw [hyI' (by simpa using e)]
      refine h1.i a ?_ ha
      have h57 : ¬ 57 ≤ a := fun z => ha (by unfold scr; omega)
      have : ¬ (34 ≤ a ∧ a < 57) := fun z => e ((ml a).mpr z)
      omega
  · rw [hyI (by decide)]; exact h2.f j hj hk
  · rcases ha with e | e | e
    · subst e; exact (hyJ' (by decide)).trans h1.j
    · subst e; exact (hyJ (by decide)).trans h2.j
    · subst e; exact (hyJ (by decide)).trans h2.k
theorem Core.rkc {n R pl lf st sz ki inn out : Nat → Int32} (h : Core kc md rc lev rk n R pl lf st sz ki inn out) {rk' : Nat → Nat} (e : ∀ y, y ≤ kc → rk' y = rk y) : Core kc md rc lev rk' n R pl lf st sz ki inn out := by
  apply Core.mk
  case mdb => exact h.mdb
  case rcb => exact h.rcb
  case lvb => exact h.lvb
  case node => exact h.node
  case root => exact h.root
  case pars => exact h.pars
  case plc => exact h.plc
  case rec => exact h.rec
  case lfs => exact h.lfs
  case med => exact h.med
  case ent =>
    intro m hm i hi
    rcases h.ent m hm i hi with z | ⟨a1, r, y, a2, a3, a4, a5, a6, a7, a8⟩
    · exact Or.inl z
    · exact Or.inr ⟨a1, r, y, a2, a3, a4, a5, a6, a7, by rw [e y a4]; exact a8⟩
theorem Inv0.rkc (h : Inv0 c kc md rc td lev rk σ) {rk' : Nat → Nat} (e : ∀ y, y ≤ kc → rk' y = rk y) : Inv0 c kc md rc td lev rk' σ :=
  ⟨h.core.rkc e, h.2⟩
/-- a record comes to leaf k: both sides -/
def rcC (σ : am_M) (k rc : Nat) (w : Int64) : am_M := am_set (am_set (am_set (am_setJ σ 14 (vp_updL (σ.2.1 14) rc w)) 15 (upd (σ.1 15) rc (nI k))) 2 (upd (σ.1 2) 2 (nI (rc + 1)))) 17 (upd (σ.1 17) k (nI rc))
def rcM (σ : am_M) (k rc : Nat) (w : Int64) : am_M := am_set (am_set (am_set (am_setJ (am_set σ 37 (upd (σ.1 37) k (nI rc))) 50 (vp_updL (σ.2.1 50) rc w)) 51 (upd (σ.1 51) rc (nI k))) 52 (upd (σ.1 52) rc (-1))) 34 (upd (σ.1 34) 23 (nI (rc + 1)))
theorem rcC_C {J X : am_M} (h : EqC J X) (k rc : Nat) (w : Int64) : EqC (rcC J k rc w) (rcC X k rc w) := by
  refine ⟨fun a ha hs => ?_, ?_, h.n⟩
  · simp only [rcC, s_rd, sJ_I, h.i 15 (by decide) (by decide), h.i 2 (by decide) (by decide), h.i 17 (by decide) (by decide), h.i a ha hs]
  · simp only [rcC, sJ_rd, s_J, h.j]
theorem rcM_C (J : am_M) (k rc : Nat) (w : Int64) : EqC J (rcM J k rc w) := by
  unfold rcM
  exact (((((EqC.refl J).setM (by decide) _).setMJ (by decide) _).setM (by decide) _).setM (by decide) _).setM (by decide) _
theorem rcC_M (J : am_M) (k rc : Nat) (w : Int64) : EqM J (rcC J k rc w) := by
  unfold rcC
  exact ((((EqM.refl J).setCJ _).setC (by decide) _).setC (by decide) _).setC (by decide) _
theorem rcM_M {J Y : am_M} (h : EqM J Y) (k rc : Nat) (w : Int64) : EqM (rcM J k rc w) (rcM Y k rc w) := by
  refine ⟨fun a ha hb hs => ?_, fun j hj hk => ?_, ?_, ?_, h.n⟩
  · simp only [rcM, s_rd, sJ_I, h.i 37 (by decide) (by decide) (by decide), h.i 51 (by decide) (by decide) (by decide), h.i 52 (by decide) (by decide) (by decide), h.i a ha hb hs]
    rw [if_neg (show ¬ a = 34 by omega), if_neg (show ¬ a = 34 by omega)]
  · simp +decide only [rcM, s_rd, sJ_I, if_true, if_false, ite_true, ite_false]
    unfold upd
    by_cases e : j = 23
    · rw [if_pos e, if_pos e]
    · rw [if_neg e, if_neg e]; exact h.f j hj hk
  · simp +decide only [rcM, sJ_rd, s_J, if_true, if_false, ite_true, ite_false]; exact h.j
  · simp +decide only [rcM, sJ_rd, s_J, if_true, if_false, ite_true, ite_false, h.k]
theorem Inv0.recd {J : am_M} (h : Inv0 c kc md rc td lev rk J) (hr : rc < 200) {k : Nat} (hk : k < 64) (hR : J.1 17 k = -1) (w : Int64) : Inv0 c kc md (rc + 1) td lev rk (rcM (rcC J k rc w) k rc w) := by
  have hrb := h.core.rcb
  have e2 : ∀ r, r < rc → ∀ f : Nat → Int32, ∀ v, upd f rc v r = f r := fun r hr f v => if_neg (by omega)
  have hne : ∀ k' r, J.1 17 k' = nI r → r < rc → k' < 64 → k' ≠ k := fun k' r e hr hk' z => by
    rw [z, hR] at e
    exact nI_nm (by omega) e.symm
  apply Inv0.mk
  case core =>
    simp +decide only [rcM, rcC, s_rd, sJ_I, if_true, if_false, ite_true, ite_false]
    apply Core.mk
    case mdb => exact h.core.mdb
    case rcb => omega
    case lvb => exact h.core.lvb
    case node => exact h.core.node
    case root => exact h.core.root
    case pars => exact h.core.pars
    case plc => exact h.core.plc
    case rec =>
      intro k' hk'
      by_cases e : k' = k
      · exact Or.inr ⟨rc, by omega, if_pos e, by rw [e]; exact if_pos rfl⟩
      · rw [show upd (J.1 17) k (nI rc) k' = J.1 17 k' from if_neg e]
        rcases h.core.rec k' hk' with z | ⟨r, a1, a2, a3⟩
        · exact Or.inl z
        · exact Or.inr ⟨r, by omega, a2, by rw [e2 r a1]; exact a3⟩
    case lfs =>
      intro r hr'
      by_cases e : r = rc
      · exact Or.inr ⟨k, hk, if_pos e, by rw [e]; exact if_pos rfl⟩
      · rw [e2 r (by omega)]
        rcases h.core.lfs r (by omega) with z | ⟨k', a1, a2, a3⟩
        · exact Or.inl z
        · exact Or.inr ⟨k', a1, a2, by rw [show upd (J.1 17) k (nI rc) k' = J.1 17 k' from if_neg (hne k' r a3 (by omega) a1)]; exact a3⟩
    case med => exact h.core.med
    case ent =>
      intro m hm i hi
      rcases h.core.ent m hm i hi with z | ⟨a1, r, y, a2, a3⟩
      · exact Or.inl z
      · exact Or.inr ⟨a1, r, y, by omega, a3⟩
  case cb => exact h.cb
  case kb => simp +decide only [rcM, rcC, s_rd, sJ_I, if_true, if_false, ite_true, ite_false]; exact h.kb
  case hk => simp +decide only [rcM, rcC, s_rd, sJ_I, if_true, if_false, ite_true, ite_false]; exact h.hk
  case hm => simp +decide only [rcM, rcC, s_rd, sJ_I, if_true, if_false, ite_true, ite_false]; exact h.hm
  case hr => simp +decide only [rcM, rcC, s_rd, sJ_I, if_true, if_false, ite_true, ite_false]; exact if_pos rfl
  case ht => simp +decide only [rcM, rcC, s_rd, sJ_I, if_true, if_false, ite_true, ite_false]; exact h.ht
  case tb => exact h.tb
  case hk' => simp +decide only [rcM, rcC, s_rd, sJ_I, if_true, if_false, ite_true, ite_false]; exact Eq.trans (if_neg (by decide)) h.hk'
  case hm' => simp +decide only [rcM, rcC, s_rd, sJ_I, if_true, if_false, ite_true, ite_false]; exact Eq.trans (if_neg (by decide)) h.hm'
  case hr' => simp +decide only [rcM, rcC, s_rd, sJ_I, if_true, if_false, ite_true, ite_false]; exact if_pos rfl
  case ht' => simp +decide only [rcM, rcC, s_rd, sJ_I, if_true, if_false, ite_true, ite_false]; exact Eq.trans (if_neg (by decide)) h.ht'
  case sd => simp +decide only [rcM, rcC, s_rd, sJ_I, if_true, if_false, ite_true, ite_false]; exact Eq.trans (if_neg (by decide)) h.sd
  case e35 => simp +decide only [rcM, rcC, s_rd, sJ_I, if_true, if_false, ite_true, ite_false]; exact h.e35
  case e37 => simp +decide only [rcM, rcC, s_rd, sJ_I, if_true, if_false, ite_true, ite_false]; rw [h.e37]
  case e38 => simp +decide only [rcM, rcC, s_rd, sJ_I, if_true, if_false, ite_true, ite_false]; exact h.e38
  case e41 => simp +decide only [rcM, rcC, s_rd, sJ_I, if_true, if_false, ite_true, ite_false]; exact h.e41
  case e46 => simp +decide only [rcM, rcC, s_rd, sJ_I, if_true, if_false, ite_true, ite_false]; exact h.e46
  case e47 => simp +decide only [rcM, rcC, s_rd, sJ_I, if_true, if_false, ite_true, ite_false]; exact h.e47
  case e48 => simp +decide only [rcM, rcC, s_rd, sJ_I, if_true, if_false, ite_true, ite_false]; exact h.e48
  case e51 => simp +decide only [rcM, rcC, s_rd, sJ_I, if_true, if_false, ite_true, ite_false]; rw [h.e51]
  case e53 => simp +decide only [rcM, rcC, s_rd, sJ_I, if_true, if_false, ite_true, ite_false]; exact h.e53
  case e54 => simp +decide only [rcM, rcC, s_rd, sJ_I, if_true, if_false, ite_true, ite_false]; exact h.e54
  case e50 => simp +decide only [rcM, rcC, sJ_rd, s_J, if_true, if_false, ite_true, ite_false]; rw [h.e50]
  case mdm => simp +decide only [rcM, rcC, s_rd, sJ_I, if_true, if_false, ite_true, ite_false]; exact h.mdm
  case kep => simp +decide only [rcM, rcC, s_rd, sJ_I, if_true, if_false, ite_true, ite_false]; exact h.kep
  case okh => simp +decide only [rcM, rcC, s_rd, sJ_I, if_true, if_false, ite_true, ite_false]; exact h.okh
  case due =>
    simp +decide only [rcM, rcC, s_rd, sJ_I, if_true, if_false, ite_true, ite_false]
    intro k' hk'
    rw [h.due k' hk']
    unfold dueOf
    by_cases e : k' = k
    · rw [e, if_pos hR, show upd (J.1 17) k (nI rc) k = nI rc from if_pos rfl, if_neg (nI_nm (by omega)), i_cl (by omega)]
      exact (if_pos rfl).symm
    · rw [show upd (J.1 17) k (nI rc) k' = J.1 17 k' from if_neg e]
      rcases h.core.rec k' hk' with z | ⟨r, a1, a2, a3⟩
      · rw [if_pos z, if_pos z]
      · rw [a2, if_neg (nI_nm (by omega)), if_neg (nI_nm (by omega)), i_cl (by omega), e2 r a1]
  case mrk =>
    simp +decide only [rcM, rcC, s_rd, sJ_I, if_true, if_false, ite_true, ite_false]
    intro k' hk'
    refine (h.mrk k' hk').imp id (fun z => ⟨z.1, ?_⟩)
    by_cases e : k' = k
    · rw [show upd (J.1 17) k (nI rc) k' = nI rc from if_pos e]; exact nI_nm (by omega)
    · rw [show upd (J.1 17) k (nI rc) k' = J.1 17 k' from if_neg e]; exact z.2
  case con =>
    simp +decide only [rcM, rcC, s_rd, sJ_I, sJ_rd, s_J, if_true, if_false, ite_true, ite_false]
    intro m hm i hi
    rw [h.con m hm i hi]
    rcases h.core.ent m hm i hi with ⟨a1, _⟩ | ⟨a1, r, y, a2, a3, a4, a5, _⟩
    · rw [if_pos a1, if_pos a1]
    · rw [if_neg (by rw [a1]; exact n10), if_neg (by rw [a1]; exact n10), a5, i_cl (by omega), show vp_updL (J.2.1 14) rc w r = J.2.1 14 r from if_neg (by omega)]
  case prl => simp +decide only [rcM, rcC, s_rd, sJ_I, if_true, if_false, ite_true, ite_false]; exact h.prl
theorem EqC.symm {σ τ : am_M} (h : EqC σ τ) : EqC τ σ := ⟨fun a ha hb => (h.i a ha hb).symm, h.j.symm, h.n.symm⟩
theorem EqM.symm {σ τ : am_M} (h : EqM σ τ) : EqM τ σ := ⟨fun a ha hb hc => (h.i a ha hb hc).symm, fun j hj hk => (h.f j hj hk).symm, h.j.symm, h.k.symm, h.n.symm⟩
theorem w_o (σ : am_M) {a b : Nat} (j : Nat) (x : Int32) (h : b ≠ a) : (am_wI σ a j x).1 b = σ.1 b := by rw [am_wI_s, s_ne _ _ h]
theorem wJ_1 (σ : am_M) (a j : Nat) (x : Int64) : (am_wJ σ a j x).1 = σ.1 := rfl
theorem w_v (σ : am_M) (a j : Nat) (x : Int32) : (am_wI σ a j x).1 a j = x := by rw [am_wI_s, s_eq]; exact if_pos rfl
theorem rcM_w (σ : am_M) (k rc : Nat) (w : Int64) : am_wI (am_wI (am_wI (am_wJ (am_wI σ 37 k (nI rc)) 50 rc w) 51 rc (nI k)) 52 rc (-1)) 34 23 (nI (rc + 1)) = rcM σ k rc w := by
  unfold rcM
  simp +decide only [am_wI_s, am_wJ_s, s_rd, sJ_I, sJ_rd, s_J, if_true, if_false, ite_true, ite_false]
theorem rcJ (J : am_M) (k rc : Nat) (w : Int64) (t s : Nat) (a b e : Int32) (v : Int64) : EqM (JW (rcM (rcC J k rc w) k rc w) t s a b e v) (rcM (wrM J t s a b e v) k rc w) := by
  refine ⟨fun x hx hx2 hs => ?_, fun j hj hk => ?_, ?_, ?_, rfl⟩
  · simp +decide only [JW, wrM, wrE, rcM, rcC, s_rd, sJ_I, if_true, if_false, ite_true, ite_false]
    by_cases h1 : x = 45
    · subst h1; simp
    · by_cases h2 : x = 48
      · subst h2; simp
      · by_cases h3 : x = 47
        · subst h3; simp
        · by_cases h4 : x = 46
          · subst h4; simp
          · simp only [h1, h2, h3, h4, if_false]
            have h5 : ¬ x = 21 ∧ ¬ x = 24 ∧ ¬ x = 23 ∧ ¬ x = 22 ∧ ¬ x = 17 ∧ ¬ x = 2 ∧ ¬ x = 15 := by omega
            simp only [h5.1, h5.2.1, h5.2.2.1, h5.2.2.2.1, h5.2.2.2.2.1, h5.2.2.2.2.2.1, h5.2.2.2.2.2.2, if_false]
  · simp +decide only [JW, wrM, wrE, rcM, rcC, s_rd, sJ_I, if_true, if_false, ite_true, ite_false]
  · simp +decide only [JW, wrM, wrE, rcM, rcC, sJ_rd, s_J, if_true, if_false, ite_true, ite_false]
  · simp +decide only [JW, wrM, wrE, rcM, rcC, sJ_rd, s_J, if_true, if_false, ite_true, ite_false]
theorem Inv0.kl2 (h : Inv0 c kc md rc td lev rk σ) : kc ≤ 1801 := h.kl
theorem f98 (h : Inv c kc md rc td lev rk σ) (hc : c < 600) (x : Int32) (w : Int64) : Fc (d + 8) 98 202 [.ref 0, .int x, .long w] [.ref 34, .int x, .long w] cdS (c + 1) σ := by
  have hrb := h.core.rcb
  have hkl := h.kl
  by_cases hx : inR x 64
  · obtain ⟨e0, h0⟩ := inR_of hx
    generalize x.toNatClampNeg = k at e0 h0
    subst e0
    have hl : lvl (21 + k) = 3 := lvl_lf (by omega)
    generalize hee : eW (σ.1 16) (lvl (21 + k)) (21 + k) = e
    have he3 : e ≤ 3 := by rw [← hee, hl]; exact eW_le _ 3 _
    have hm13 : ∀ Z, am_ex (d + 8) 202 [.ref 34, .int (nI k), .long w] Z = am_go am_X0 (am_ex (d + 7)) M202 13 [.ref 34, .int (nI k), .long w, .null, .null] [.int (nI 0), .ref 34] Z := fun Z => by
      rw [e202, q202_0, x182, bI_r, bz_t (inR_n h0 (by omega)), if_neg n10]
    have hm72 : ∀ Z, am_go am_X0 (am_ex (d + 7)) M202 72 [.ref 34, .int (nI k), .long w, .null, .int (nI (21 + k))] [.ref 34] Z = rI (nI 0) (th Z (nI 2)) := fun Z => by
      rw [q202_72, q202_77, th_w, th_v, if_neg le20]
    have hml : ∀ Z, Sm σ Z → Inv c kc md rc td lev rk Z → am_ex (d + 8) 202 [.ref 34, .int (nI k), .long w] Z = if σ.1 17 k = -1 then (if nI rc = nI 200 then rI (nI 0) (th Z (nI 2)) else if rmP σ md (e + 1) then am_go am_X0 (am_ex (d + 7)) M202 77 [.ref 34, .int (nI k), .long w, .null, .int (nI (21 + k))] [.int (nI 0), .ref 34] (th Z (nI 0)) else rI (nI 0) (th Z (nI 2))) else rI (nI 0) (th Z (nI 2)) := fun Z hs hI => by
      have hT : Sm Z (th Z (nI 0)) := (Sm.refl Z).th _
      have hIT := hI.base.sm hT
      have e35 : (th Z (nI 0)).1 35 = σ.1 16 := by rw [hIT.e35]; exact (hs.trans hT).i 16 (by decide) (by decide)
      have e20 : (th Z (nI 0)).1 20 = σ.1 20 := (hs.trans hT).i 20 (by decide) (by decide)
      have h187 := y187m (d + 6) h.base (hs.trans hT).em (wrt_o σ h.base (-1)) (n := e + 1) (by omega)
      rw [hm13, q202_13, th_w, th_v, if_pos le00, if_pos (am_k h0 (by omega)), i_cl (by omega), th_ne _ _ (show (37 : Nat) ≠ 34 by decide), hI.e37, hs.i 17 (by decide) (by decide), th_f _ _ (show (23 : Nat) ≠ 25 by decide), hI.hr', nI_add, hm72, th_th, y186m (d + 6) h.base (hs.trans hT).em, bI_r, y200 (d + 5) _ (by omega), bI_r, e35, hee, show nI e + nI 1 = nI (e + 1) from nI_1 _, h187, bI_r, hm72, th_th]
      by_cases e1 : σ.1 17 k = -1
      · rw [if_pos e1, if_pos e1]
        by_cases e2 : nI rc = nI 200
        · rw [if_pos e2, if_pos e2]
        · rw [if_neg e2, if_neg e2]
          by_cases e3 : rmP σ md (e + 1)
          · rw [bz_t e3, if_neg n10, if_pos e3]
          · rw [bz_f e3, if_pos rfl, if_neg e3]
      · rw [if_neg e1, if_neg e1]
    have hcl : am_ex (d + 8) 98 [.ref 0, .int (nI k), .long w] σ = if σ.1 17 k = -1 then (if rc = 200 then rX xIS (am_tick σ) else if rmP σ md (e + 1) then am_bV (am_ex (d + 7) 153 [.ref 0, .int (nI (21 + k))] σ) (fun t7 => am_bI (am_ex (d + 7) 59 [.ref 2, .int (nI k), .long w] t7) (fun r8 t8 => am_bV (am_ex (d + 7) 83 [.ref 3, .int (nI k), .int r8] t8) (fun t9 => am_bI (am_ex (d + 7) 77 [.ref 3, .int (nI (21 + k))] t9) (fun r10 t10 => am_bV (am_ex (d + 7) 150 [.ref 0, .int (nI 1), .int r8, .int r10] t10) (fun t11 => some (.inl (some (.int r8)), t11)))))) else rX xIS (am_tick σ)) else rX xIS (am_tick σ) := by
      rw [e98, q98_0, x144 _ _ _ (by omega), if_pos (inR_n h0 (by omega)), bV_r, x79, bI_r, rd_n h0 (by omega), x57 _ _ h.hr hrb, bI_r, x164, bI_r, x90 (d + 3) σ (by omega), bI_r, hee, show nI e + nI 1 = nI (e + 1) from nI_1 _, x146 (d + 3) σ h.base (by omega), q98_28]
      by_cases e1 : σ.1 17 k = -1
      · rw [if_pos e1, if_pos e1]
        by_cases e2 : rc = 200
        · rw [bz_t e2, if_neg n10, if_pos e2]
        · rw [bz_f e2, if_pos rfl, if_neg e2]
          by_cases e3 : rmP σ md (e + 1)
          · rw [if_pos e3, bV_r, if_pos e3]
          · rw [if_neg e3, bV_x, if_neg e3]
      · rw [if_neg e1, if_neg e1]
    have ref : (¬ σ.1 17 k = -1 ∨ rc = 200 ∨ ¬ rmP σ md (e + 1)) → Fc (d + 8) 98 202 [.ref 0, .int (nI k), .long w] [.ref 34, .int (nI k), .long w] cdS (c + 1) σ := by
      intro hno
      refine Fc.x h hc (E := xIS) (Sm.refl σ) rfl ?_ (fun Z hs hI => ⟨nI 0, ?_⟩)
      · rw [hcl]
        by_cases e1 : σ.1 17 k = -1
        · rw [if_pos e1]
          by_cases e2 : rc = 200
          · rw [if_pos e2]
          · rw [if_neg e2, if_neg ((hno.resolve_left (fun z => z e1)).resolve_left e2)]
        · rw [if_neg e1]
      · rw [hml Z hs hI]
        by_cases e1 : σ.1 17 k = -1
        · rw [if_pos e1]
          by_cases e2 : rc = 200
          · rw [if_pos (by rw [e2])]; rfl
          · rw [if_neg (fun z => e2 (nI_inj (by omega) (by omega) z)), if_neg ((hno.resolve_left (fun z => z e1)).resolve_left e2)]; rfl
        · rw [if_neg e1]; rfl
    by_cases hR : σ.1 17 k = -1
    · by_cases h200 : rc = 200
      · exact ref (Or.inr (Or.inl h200))
      · by_cases hrm : rmP σ md (e + 1)
        · -- the run of both
          obtain ⟨t, s, hw, hs⟩ := rm_Wr σ h.base hrm (by omega)
          have hn0 : σ.1 16 (21 + k) = nI 0 := (h.lf.lfn k h0).mp hR
          generalize hrk : lvN rk (kc + e) rc = rk'
          have he1 : 1 ≤ e := by
            rw [← hee, hl, eW, if_pos hn0]; omega
          have hrk' : ∀ y, y ≤ kc → rk' y = rk y := fun y hy => by rw [← hrk]; exact lvN_o (by omega)
          have hB0 : JB c kc md rc td lev rk' t s σ := ⟨h.base.rkc hrk', hw⟩
          obtain ⟨J1, lev1, hB1, hF1, _, hq1, hne1, hval1, hX1, hY1⟩ := bld (d + 1) d hB0 hc (pp := 21 + k) (by omega) (by rw [hee]; omega) (lvl (21 + k)) (Nat.le_refl _)
          rw [anc_t, hee] at hB1 hval1
          rw [anc_t] at hne1
          have hv := hval1 hn0
          have hkl1 := hB1.v.kl
          have j17 : J1.1 17 = σ.1 17 := hF1.i 17 (by decide)
          generalize hJ2 : rcM (rcC J1 k rc w) k rc w = J2
          have hI2 : Inv0 c (kc + e) md (rc + 1) td lev1 rk' J2 := by
            rw [← hJ2]; exact hB1.v.recd (by omega) h0 (by rw [j17]; exact hR) w
          have e2o : ∀ a, a ≠ 2 → a ≠ 15 → a ≠ 17 → a ≠ 34 → a ≠ 37 → a ≠ 51 → a ≠ 52 → J2.1 a = J1.1 a := fun a a1 a2 a3 a4 a5 a6 a7 => by
            rw [← hJ2]
            simp only [rcM, rcC, s_rd, sJ_I, if_neg a1, if_neg a2, if_neg a3, if_neg a4, if_neg a5, if_neg a6, if_neg a7]
          have hw2 : Wr md t (s + e) J2 := by
            have b := hB1.w
            exact ⟨b.lt, by rw [e2o 20 (by decide) (by decide) (by decide) (by decide) (by decide) (by decide) (by decide)]; exact b.w, by rw [e2o 20 (by decide) (by decide) (by decide) (by decide) (by decide) (by decide) (by decide)]; exact b.st, by rw [e2o 21 (by decide) (by decide) (by decide) (by decide) (by decide) (by decide) (by decide)]; exact b.sz⟩
          have j16 : J2.1 16 (21 + k) = nI (kc + e) := by rw [e2o 16 (by decide) (by decide) (by decide) (by decide) (by decide) (by decide) (by decide)]; exact hv
          have jJ : J2.2.1 14 rc = w := by
            rw [← hJ2]; simp +decide only [rcM, rcC, sJ_rd, s_J, if_true, if_false, ite_true, ite_false]; exact if_pos rfl
          have j1 : J2.1 1 = J1.1 1 := e2o 1 (by decide) (by decide) (by decide) (by decide) (by decide) (by decide) (by decide)
          have hlev : lev1 (kc + e) = 3 := by
            rcases hB1.v.core.node (21 + k) (by omega) with z | ⟨b, b1, b2, b3, b4, b5⟩
            · exact absurd z hne1
            · rw [hv] at b3
              have := nI_inj (by omega) (by omega) b3
              rw [this, b5, hl]
          have hok : okE (kc + e) (rc + 1) lev1 rk' (J2.1 1 1) (J2.2.1 14) (nI 1) (nI rc) (nI (kc + e)) (w ^^^ msk (J2.1 1 1) (nI (kc + e))) :=
            Or.inr ⟨rfl, by rw [i_cl (by omega), jJ], rc, kc + e, by omega, by omega, Nat.le_refl _, rfl, rfl, hlev, by rw [← hrk]; exact if_pos rfl⟩
          have hB3 := JB.jw ⟨hI2, hw2⟩ (by omega) hok
          generalize hJ3 : JW J2 t (s + e) (nI 1) (nI rc) (nI (kc + e)) (w ^^^ msk (J2.1 1 1) (nI (kc + e))) = J3 at hB3
          have hF3 := FW.jw J2 t (s + e) (nI 1) (nI rc) (nI (kc + e)) (w ^^^ msk (J2.1 1 1) (nI (kc + e)))
          rw [hJ3] at hF3
          have hInv : Inv (c + 1) (kc + e) md (rc + 1) td lev1 rk' J3 := by
            refine ⟨hB3.v.up (by omega) (by omega), ?_⟩
            rw [hF3.i 16 (by decide), hF3.i 17 (by decide), e2o 16 (by decide) (by decide) (by decide) (by decide) (by decide) (by decide) (by decide)]
            have j17' : J2.1 17 = upd (σ.1 17) k (nI rc) := by
              rw [← hJ2]; simp +decide only [rcM, rcC, s_rd, sJ_I, if_true, if_false, ite_true, ite_false]; rw [j17]
            rw [j17']
            have hoth : ∀ k', k' < 64 → k' ≠ k → J1.1 16 (21 + k') = σ.1 16 (21 + k') := fun k' hk' hne => by
              rcases hq1 (21 + k') with z | ⟨_, i, hi, z⟩
              · exact z
              · have := anc_l (pp := 21 + k) (l := i) (by omega) hi
                rw [← z, lvl_lf (by omega)] at this
                rw [← this.1, hl.symm, anc_t] at z
                omega
            refine ⟨fun k' hk' => ?_, fun k' hk' r b hr hb e1 e2 => ?_⟩
            · by_cases ek : k' = k
              · subst ek
                rw [show upd (σ.1 17) k' (nI rc) k' = nI rc from if_pos rfl]
                exact ⟨fun z => absurd z (nI_nm (by omega)), fun z => absurd z hne1⟩
              · rw [show upd (σ.1 17) k (nI rc) k' = σ.1 17 k' from if_neg ek, hoth k' hk' ek]
                exact h.lf.lfn k' hk'
            · by_cases ek : k' = k
              · subst ek
                rw [show upd (σ.1 17) k' (nI rc) k' = nI rc from if_pos rfl] at e1
                rw [hv] at e2
                rw [← nI_inj (by omega) (by omega) e1, ← nI_inj (by omega) (by omega) e2, ← hrk]
                exact if_pos rfl
              · rw [show upd (σ.1 17) k (nI rc) k' = σ.1 17 k' from if_neg ek] at e1
                rw [hoth k' hk' ek] at e2
                obtain ⟨r', a1, a2, a3⟩ := (h.core.rec k' hk').resolve_left (by rw [e1]; exact nI_nm (by omega))
                rw [a2] at e1
                have er := nI_inj (by omega) (by omega) e1
                rcases h.core.node (21 + k') (by omega) with z | ⟨b', b1, b2, b3, _⟩
                · rw [z] at e2
                  have hz := (h.lf.lfn k' hk').mpr z
                  rw [a2] at hz
                  exact absurd hz (nI_nm (by omega))
                · rw [b3] at e2
                  have eb := nI_inj (by omega) (by omega) e2
                  rw [← eb, ← er, hrk' b' b2]
                  exact h.lf.rkn k' hk' r' b' a1 b2 a2 b3
          -- the class
          obtain ⟨X1, u1, k1, k2, k3, k4⟩ := hX1 σ (EqC.refl σ)
          have r153 : am_ex (d + 7) 153 [.ref 0, .int (nI (21 + k))] σ = rV X1 := by
            rw [e153, q153_0, k1, q153_2 _ _ _ _ k2, x165 _ _ (by omega), bI_r, if_pos (by rw [i_lt, i_n (by omega), i_n (by omega)]; omega)]
          have hX2 : EqC J2 (rcC X1 k rc w) := (rcM_C (rcC J1 k rc w) k rc w |> fun z => by rw [hJ2] at z; exact z.symm.trans (rcC_C k3 k rc w))
          have x16e : (rcC X1 k rc w).1 16 = J2.1 16 := hX2.i 16 (by decide) (by decide)
          have r59 : am_ex (d + 7) 59 [.ref 2, .int (nI k), .long w] X1 = rI (nI rc) (am_set (am_set (am_setJ X1 14 (vp_updL (X1.2.1 14) rc w)) 15 (upd (X1.1 15) rc (nI k))) 2 (upd (X1.1 2) 2 (nI (rc + 1)))) := x59 _ X1 (by rw [k3.i 2 (by decide) (by decide)]; exact hB1.v.hr) (by omega) _ _
          have r83 : am_ex (d + 7) 83 [.ref 3, .int (nI k), .int (nI rc)] (am_set (am_set (am_setJ X1 14 (vp_updL (X1.2.1 14) rc w)) 15 (upd (X1.1 15) rc (nI k))) 2 (upd (X1.1 2) 2 (nI (rc + 1)))) = rV (rcC X1 k rc w) := by
            rw [x83 _ _ h0, s_ne _ _ (by decide), s_ne _ _ (by decide)]
            rfl
          have r150 := x150 (d + 3) hI2 hw2 (by omega) hX2 (nI 1) (nI rc) (nI (kc + e))
          have hX3 := JW_C hX2 t (s + e) (nI 1) (nI rc) (nI (kc + e)) (w ^^^ msk (J2.1 1 1) (nI (kc + e)))
          rw [hJ3] at hX3
          refine Fc.ch2 (X := wrE (rcC X1 k rc w) t (s + e) (nI 1) (nI rc) (nI (kc + e))) (v := nI rc) ?_ ?_ (by decide) (okM3J _ _) (fun W hW hWn => ?_)
          · rw [hcl, if_pos hR, if_neg h200, if_pos hrm, r153, bV_r, r59, bI_r, r83, bV_r, x77, bI_r, rd_n (by omega) (by omega), x16e, j16, r150, bV_r]
          · exact wrE_M (k4.trans (rcC_M X1 k rc w)) _ _ _ _ _
          · -- the reference
            have hIW := h.sm hW
            have hT : Sm W (th W (nI 0)) := (Sm.refl W).th _
            obtain ⟨Y1, g1, g2, g3⟩ := hY1 (th (th W (nI 0)) (nI 0)) (((hW.trans hT).th (nI 0)).m hWn)
            rw [anc_t, hl] at g1
            have gM := rcM_M (wrM_M g2 t (s + e) (nI 1) (nI rc) (nI (kc + e)) (w ^^^ msk (J2.1 1 1) (nI (kc + e)))) k rc w
            have gJ : EqM J3 (rcM (wrM Y1 t (s + e) (nI 1) (nI rc) (nI (kc + e)) (w ^^^ msk (J2.1 1 1) (nI (kc + e)))) k rc w) := by
              have := rcJ J1 k rc w t (s + e) (nI 1) (nI rc) (nI (kc + e)) (w ^^^ msk (J2.1 1 1) (nI (kc + e)))
              rw [hJ2, hJ3] at this
              exact this.trans gM
            refine ⟨_, ?_, ?_, ?_, kc + e, md, rc + 1, td, lev1, rk', hInv.sm (Sm.mix hX3 gJ)⟩
            · have r35 : Y1.1 35 (21 + k) = nI (kc + e) := by rw [g2.i 35 (by decide) (by decide) (by decide), hB1.v.e35]; exact hv
              have r23 : Y1.1 34 23 = nI rc := by rw [g2.f 23 (by decide) (by decide)]; exact hB1.v.hr'
              have r20 : Y1.1 34 20 = J2.1 1 1 := by rw [g2.f 20 (by decide) (by decide), hB1.v.sd, j1]
              have r188 := y188j (d + 6) hB1.v hB1.w (by omega) g2 (nI 1) (nI rc) (nI (kc + e)) (w ^^^ msk (J2.1 1 1) (nI (kc + e)))
              generalize hQ : wrM Y1 t (s + e) (nI 1) (nI rc) (nI (kc + e)) (w ^^^ msk (J2.1 1 1) (nI (kc + e))) = Q at r188
              have q23 : Q.1 34 23 = nI rc := by rw [← hQ]; simp +decide only [wrM, s_rd, sJ_I, if_true, if_false, ite_true, ite_false]; exact r23
              have ek : (nI k).toNatClampNeg = k := i_cl (by omega)
              have er : (nI rc).toNatClampNeg = rc := i_cl (by omega)
              have er1 : nI rc + nI 1 = nI (rc + 1) := nI_1 rc
              rw [hml W hW hIW, if_pos hR, if_neg (fun z => h200 (nI_inj (by omega) (by omega) z)), if_pos hrm, q202_77, th_w, th_v, if_pos le00, g1, bV_r, y186j (d + 6) hB1.v hB1.w g2, bI_r, if_pos (am_k (by omega) (by omega)), if_pos (am_k (by omega) (by omega)), i_cl (by omega), r35, y190 (d + 4), bJ_r, r20, r23, r188, bV_r, if_pos (am_k h0 (by omega))]
              simp only [w_o _ _ _ (show (34 : Nat) ≠ 37 by decide), w_o _ _ _ (show (34 : Nat) ≠ 51 by decide), w_o _ _ _ (show (34 : Nat) ≠ 52 by decide), wJ_1, q23, ek, er, er1, w_v, rcM_w]
              rw [if_pos (am_k (by omega) (by omega)), if_pos (am_k (by omega) (by omega)), if_pos (am_k (by omega) (by omega)), show (rcM Q k rc w).1 34 23 = nI (rc + 1) from by unfold rcM; rw [s_eq]; exact if_pos rfl, nI_sub (by omega) (by omega), Nat.add_sub_cancel]
            · show (rcM (wrM Y1 t (s + e) (nI 1) (nI rc) (nI (kc + e)) (w ^^^ msk (J2.1 1 1) (nI (kc + e)))) k rc w).2.2 = W.2.2
              exact g3.1.n
            · have : (rcM (wrM Y1 t (s + e) (nI 1) (nI rc) (nI (kc + e)) (w ^^^ msk (J2.1 1 1) (nI (kc + e)))) k rc w).1 34 25 = Y1.1 34 25 := by
                simp +decide only [rcM, wrM, s_rd, sJ_I, if_true, if_false, ite_true, ite_false]
                exact if_neg (by decide)
              rw [this, g3.2, th_v]
        · exact ref (Or.inr (Or.inr hrm))
    · exact ref (Or.inl hR)
  · refine Fc.x h hc (E := xIO) (Sm.refl σ) rfl ?_ (fun Z hs hI => ⟨nI 0, ?_⟩)
    · rw [e98, q98_0, x144 _ _ _ (by omega), if_neg hx, bV_x]
    · rw [e202, q202_0, x182, bI_r, bz_f hx, if_pos rfl, q202_13, th_w, th_v, if_neg le10]; rfl
end STO
