/-! store -/
section STO
variable (d : Nat) {c kc md rc td : Nat} {lev rk : Nat → Nat} {σ : am_M}
theorem Fc.ch2 {D k m : Nat} {as bs : List Value} {cod : String → Nat} {σ X : am_M} {v : Int32} (h1 : am_ex D k as σ = rI v X) (hX : EqM σ X) (hk : qM m = true) (hb : okL aM bs) (h2 : ∀ W, Sm σ W → W.2.2 = σ.2.2 → ∃ Y, am_ex D m bs W = rI v Y ∧ Y.2.2 = W.2.2 ∧ Y.1 34 25 = nI 0 ∧ IvE c (hy aM X Y)) : Fc D k m as bs cod c σ := by
  refine Or.inl ⟨v, X, h1, hX.n, fun Z hZ => ?_⟩
  obtain ⟨W, hW, hn, hR⟩ := fr_core (D := D) hX hZ hk hb
  obtain ⟨Y, e1, e2, e3, kc, md, rc, td, lev, rk, hI⟩ := h2 W hW (by rw [hn, hZ.2, hX.n])
  obtain ⟨Y', f1, f2, f3, f4⟩ := hR _ _ e1
  exact ⟨Y', f1, by rw [f2, e2, hn], by rw [f3]; exact e3, kc, md, rc, td, lev, rk, hI.sm f4⟩
/-- both sides' last memories, together -/
theorem Sm.mix {J X Y : am_M} (h1 : EqC J X) (h2 : EqM J Y) : Sm J (hy aM X Y) := by
  have ml : ∀ a, aM a = true ↔ 34 ≤ a ∧ a < 57 := fun a => by
    unfold aM
    simp only [Bool.and_eq_true, Nat.ble_eq, Nat.blt_eq]
  refine ⟨fun a ha hb => ?_, fun j hj hk => ?_, fun a ha => ?_⟩
  · by_cases e : aM a = true
    · have := (ml a).mp e
      rw [hyI e]; exact h2.i a (by omega) (by omega) ha
    · rw [hyI' (by simpa using e)]
      refine h1.i a ?_ ha
      have h57 : ¬ 57 ≤ a := fun z => ha (by unfold scr; omega)
      have : ¬ (34 ≤ a ∧ a < 57) := fun z => e ((ml a).mpr z)
      omega
  · rw [hyI (by decide)]; exact h2.f j hj hk
  · rcases ha with e | e | e
    · subst e; exact (hyJ' (by decide)).trans h1.j
    · subst e; exact (hyJ (by decide)).trans h2.j
    · subst e; exact (hyJ (by decide)).trans h2.k
theorem Core.rkc {n R pl lf st sz ki inn out : Nat → Int32} (h : Core kc md rc lev rk n R pl lf st sz ki inn out) {rk' : Nat → Nat} (e : ∀ y, y ≤ kc → rk' y = rk y) : Core kc md rc lev rk' n R pl lf st sz ki inn out := by
  apply Core.mk
  case mdb => exact h.mdb
  case rcb => exact h.rcb
  case lvb => exact h.lvb
  case node => exact h.node
  case root => exact h.root
  case pars => exact h.pars
  case plc => exact h.plc
  case rec => exact h.rec
  case lfs => exact h.lfs
  case med => exact h.med
  case ent =>
    intro m hm i hi
    rcases h.ent m hm i hi with z | ⟨a1, r, y, a2, a3, a4, a5, a6, a7, a8⟩
    · exact Or.inl z
    · exact Or.inr ⟨a1, r, y, a2, a3, a4, a5, a6, a7, by rw [e y a4]; exact a8⟩
theorem Inv0.rkc (h : Inv0 c kc md rc td lev rk σ) {rk' : Nat → Nat} (e : ∀ y, y ≤ kc → rk' y = rk y) : Inv0 c kc md rc td lev rk' σ :=
  ⟨h.core.rkc e, h.2⟩
/-- a record comes to leaf k: both sides -/
def rcC (σ : am_M) (k rc : Nat) (w : Int64) : am_M := am_set (am_set (am_set (am_setJ σ 14 (vp_updL (σ.2.1 14) rc w)) 15 (upd (σ.1 15) rc (nI k))) 2 (upd (σ.1 2) 2 (nI (rc + 1)))) 17 (upd (σ.1 17) k (nI rc))
def rcM (σ : am_M) (k rc : Nat) (w : Int64) : am_M := am_set (am_set (am_set (am_setJ (am_set σ 37 (upd (σ.1 37) k (nI rc))) 50 (vp_updL (σ.2.1 50) rc w)) 51 (upd (σ.1 51) rc (nI k))) 52 (upd (σ.1 52) rc (-1))) 34 (upd (σ.1 34) 23 (nI (rc + 1)))
theorem rcC_C {J X : am_M} (h : EqC J X) (k rc : Nat) (w : Int64) : EqC (rcC J k rc w) (rcC X k rc w) := by
  refine ⟨fun a ha hs => ?_, ?_, h.n⟩
  · simp only [rcC, s_rd, sJ_I, h.i 15 (by decide) (by decide), h.i 2 (by decide) (by decide), h.i 17 (by decide) (by decide), h.i a ha hs]
  · simp only [rcC, sJ_rd, s_J, h.j]
theorem rcM_C (J : am_M) (k rc : Nat) (w : Int64) : EqC J (rcM J k rc w) := by
  unfold rcM
  exact (((((EqC.refl J).setM (by decide) _).setMJ (by decide) _).setM (by decide) _).setM (by decide) _).setM (by decide) _
theorem rcC_M (J : am_M) (k rc : Nat) (w : Int64) : EqM J (rcC J k rc w) := by
  unfold rcC
  exact ((((EqM.refl J).setCJ _).setC (by decide) _).setC (by decide) _).setC (by decide) _
theorem rcM_M {J Y : am_M} (h : EqM J Y) (k rc : Nat) (w : Int64) : EqM (rcM J k rc w) (rcM Y k rc w) := by
  refine ⟨fun a ha hb hs => ?_, fun j hj hk => ?_, ?_, ?_, h.n⟩
  · simp only [rcM, s_rd, sJ_I, h.i 37 (by decide) (by decide) (by decide), h.i 51 (by decide) (by decide) (by decide), h.i 52 (by decide) (by decide) (by decide), h.i a ha hb hs]
    rw [if_neg (show ¬ a = 34 by omega), if_neg (show ¬ a = 34 by omega)]
  · simp +decide only [rcM, s_rd, sJ_I, if_true, if_false, ite_true, ite_false]
    unfold upd
    by_cases e : j = 23
    · rw [if_pos e, if_pos e]
    · rw [if_neg e, if_neg e]; exact h.f j hj hk
  · simp +decide only [rcM, sJ_rd, s_J, if_true, if_false, ite_true, ite_false]; exact h.j
  · simp +decide only [rcM, sJ_rd, s_J, if_true, if_false, ite_true, ite_false, h.k]
theorem Inv0.recd {J : am_M} (h : Inv0 c kc md rc td lev rk J) (hr : rc < 200) {k : Nat} (hk : k < 64) (hR : J.1 17 k = -1) (w : Int64) : Inv0 c kc md (rc + 1) td lev rk (rcM (rcC J k rc w) k rc w) := by
  have hrb := h.core.rcb
  have e2 : ∀ r, r < rc → ∀ f : Nat → Int32, ∀ v, upd f rc v r = f r := fun r hr f v => if_neg (by omega)
  have hne : ∀ k' r, J.1 17 k' = nI r → r < rc → k' < 64 → k' ≠ k := fun k' r e hr hk' z => by
    rw [z, hR] at e
    exact nI_nm (by omega) e.symm
  apply Inv0.mk
  case core =>
    simp +decide only [rcM, rcC, s_rd, sJ_I, if_true, if_false, ite_true, ite_false]
    apply Core.mk
    case mdb => exact h.core.mdb
    case rcb => omega
    case lvb => exact h.core.lvb
    case node => exact h.core.node
    case root => exact h.core.root
    case pars => exact h.core.pars
    case plc => exact h.core.plc
    case rec =>
      intro k' hk'
      by_cases e : k' = k
      · exact Or.inr ⟨rc, by omega, if_pos e, by rw [e]; exact if_pos rfl⟩
      · rw [show upd (J.1 17) k (nI rc) k' = J.1 17 k' from if_neg e]
        rcases h.core.rec k' hk' with z | ⟨r, a1, a2, a3⟩
        · exact Or.inl z
        · exact Or.inr ⟨r, by omega, a2, by rw [e2 r a1]; exact a3⟩
    case lfs =>
      intro r hr'
      by_cases e : r = rc
      · exact Or.inr ⟨k, hk, if_pos e, by rw [e]; exact if_pos rfl⟩
      · rw [e2 r (by omega)]
        rcases h.core.lfs r (by omega) with z | ⟨k', a1, a2, a3⟩
        · exact Or.inl z
        · exact Or.inr ⟨k', a1, a2, by rw [show upd (J.1 17) k (nI rc) k' = J.1 17 k' from if_neg (hne k' r a3 (by omega) a1)]; exact a3⟩
    case med => exact h.core.med
    case ent =>
      intro m hm i hi
      rcases h.core.ent m hm i hi with z | ⟨a1, r, y, a2, a3⟩
      · exact Or.inl z
      · exact Or.inr ⟨a1, r, y, by omega, a3⟩
  case cb => exact h.cb
  case kb => simp +decide only [rcM, rcC, s_rd, sJ_I, if_true, if_false, ite_true, ite_false]; exact h.kb
  case hk => simp +decide only [rcM, rcC, s_rd, sJ_I, if_true, if_false, ite_true, ite_false]; exact h.hk
  case hm => simp +decide only [rcM, rcC, s_rd, sJ_I, if_true, if_false, ite_true, ite_false]; exact h.hm
  case hr => simp +decide only [rcM, rcC, s_rd, sJ_I, if_true, if_false, ite_true, ite_false]; exact if_pos rfl
  case ht => simp +decide only [rcM, rcC, s_rd, sJ_I, if_true, if_false, ite_true, ite_false]; exact h.ht
  case tb => exact h.tb
  case hk' => simp +decide only [rcM, rcC, s_rd, sJ_I, if_true, if_false, ite_true, ite_false]; exact Eq.trans (if_neg (by decide)) h.hk'
  case hm' => simp +decide only [rcM, rcC, s_rd, sJ_I, if_true, if_false, ite_true, ite_false]; exact Eq.trans (if_neg (by decide)) h.hm'
  case hr' => simp +decide only [rcM, rcC, s_rd, sJ_I, if_true, if_false, ite_true, ite_false]; exact if_pos rfl
  case ht' => simp +decide only [rcM, rcC, s_rd, sJ_I, if_true, if_false, ite_true, ite_false]; exact Eq.trans (if_neg (by decide)) h.ht'
  case sd => simp +decide only [rcM, rcC, s_rd, sJ_I, if_true, if_false, ite_true, ite_false]; exact Eq.trans (if_neg (by decide)) h.sd
  case e35 => simp +decide only [rcM, rcC, s_rd, sJ_I, if_true, if_false, ite_true, ite_false]; exact h.e35
  case e37 => simp +decide only [rcM, rcC, s_rd, sJ_I, if_true, if_false, ite_true, ite_false]; rw [h.e37]
  case e38 => simp +decide only [rcM, rcC, s_rd, sJ_I, if_true, if_false, ite_true, ite_false]; exact h.e38
  case e41 => simp +decide only [rcM, rcC, s_rd, sJ_I, if_true, if_false, ite_true, ite_false]; exact h.e41
  case e46 => simp +decide only [rcM, rcC, s_rd, sJ_I, if_true, if_false, ite_true, ite_false]; exact h.e46
  case e47 => simp +decide only [rcM, rcC, s_rd, sJ_I, if_true, if_false, ite_true, ite_false]; exact h.e47
  case e48 => simp +decide only [rcM, rcC, s_rd, sJ_I, if_true, if_false, ite_true, ite_false]; exact h.e48
  case e51 => simp +decide only [rcM, rcC, s_rd, sJ_I, if_true, if_false, ite_true, ite_false]; rw [h.e51]
  case e53 => simp +decide only [rcM, rcC, s_rd, sJ_I, if_true, if_false, ite_true, ite_false]; exact h.e53
  case e54 => simp +decide only [rcM, rcC, s_rd, sJ_I, if_true, if_false, ite_true, ite_false]; exact h.e54
  case e50 => simp +decide only [rcM, rcC, sJ_rd, s_J, if_true, if_false, ite_true, ite_false]; rw [h.e50]
  case mdm => simp +decide only [rcM, rcC, s_rd, sJ_I, if_true, if_false, ite_true, ite_false]; exact h.mdm
  case kep => simp +decide only [rcM, rcC, s_rd, sJ_I, if_true, if_false, ite_true, ite_false]; exact h.kep
  case okh => simp +decide only [rcM, rcC, s_rd, sJ_I, if_true, if_false, ite_true, ite_false]; exact h.okh
  case due =>
    simp +decide only [rcM, rcC, s_rd, sJ_I, if_true, if_false, ite_true, ite_false]
    intro k' hk'
    rw [h.due k' hk']
    unfold dueOf
    by_cases e : k' = k
    · rw [e, if_pos hR, show upd (J.1 17) k (nI rc) k = nI rc from if_pos rfl, if_neg (nI_nm (by omega)), i_cl (by omega)]
      exact (if_pos rfl).symm
    · rw [show upd (J.1 17) k (nI rc) k' = J.1 17 k' from if_neg e]
      rcases h.core.rec k' hk' with z | ⟨r, a1, a2, a3⟩
      · rw [if_pos z, if_pos z]
      · rw [a2, if_neg (nI_nm (by omega)), if_neg (nI_nm (by omega)), i_cl (by omega), e2 r a1]
  case mrk =>
    simp +decide only [rcM, rcC, s_rd, sJ_I, if_true, if_false, ite_true, ite_false]
    intro k' hk'
    refine (h.mrk k' hk').imp id (fun z => ⟨z.1, ?_⟩)
    by_cases e : k' = k
    · rw [show upd (J.1 17) k (nI rc) k' = nI rc from if_pos e]; exact nI_nm (by omega)
    · rw [show upd (J.1 17) k (nI rc) k' = J.1 17 k' from if_neg e]; exact z.2
  case con =>
    simp +decide only [rcM, rcC, s_rd, sJ_I, sJ_rd, s_J, if_true, if_false, ite_true, ite_false]
    intro m hm i hi
    rw [h.con m hm i hi]
    rcases h.core.ent m hm i hi with ⟨a1, _⟩ | ⟨a1, r, y, a2, a3, a4, a5, _⟩
    · rw [if_pos a1, if_pos a1]
    · rw [if_neg (by rw [a1]; exact n10), if_neg (by rw [a1]; exact n10), a5, i_cl (by omega), show vp_updL (J.2.1 14) rc w r = J.2.1 14 r from if_neg (by omega)]
  case prl => simp +decide only [rcM, rcC, s_rd, sJ_I, if_true, if_false, ite_true, ite_false]; exact h.prl
end STO
