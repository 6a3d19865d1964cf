/-! one step of both sides -/
section JNT
abbrev EqC (σ τ : am_M) : Prop := (∀ a, a < 34 → ¬ scr a → τ.1 a = σ.1 a) ∧ (τ.2.1 14 = σ.2.1 14)
theorem EqC.i {σ τ : am_M} (h : EqC σ τ) : ∀ a, a < 34 → ¬ scr a → τ.1 a = σ.1 a := h.1
theorem EqC.j {σ τ : am_M} (h : EqC σ τ) : τ.2.1 14 = σ.2.1 14 := h.2
theorem EqC.mk {σ τ : am_M} (i : ∀ a, a < 34 → ¬ scr a → τ.1 a = σ.1 a) (j : τ.2.1 14 = σ.2.1 14) : EqC σ τ := ⟨i, j⟩
abbrev EqM (σ τ : am_M) : Prop := (∀ a, 34 < a → a < 57 → ¬ scr a → τ.1 a = σ.1 a) ∧ (∀ j, j ≠ 25 → j ≠ 27 → τ.1 34 j = σ.1 34 j) ∧ (τ.2.1 49 = σ.2.1 49) ∧ (τ.2.1 50 = σ.2.1 50)
theorem EqM.i {σ τ : am_M} (h : EqM σ τ) : ∀ a, 34 < a → a < 57 → ¬ scr a → τ.1 a = σ.1 a := h.1
theorem EqM.f {σ τ : am_M} (h : EqM σ τ) : ∀ j, j ≠ 25 → j ≠ 27 → τ.1 34 j = σ.1 34 j := h.2.1
theorem EqM.j {σ τ : am_M} (h : EqM σ τ) : τ.2.1 49 = σ.2.1 49 := h.2.2.1
theorem EqM.k {σ τ : am_M} (h : EqM σ τ) : τ.2.1 50 = σ.2.1 50 := h.2.2.2
theorem EqM.mk {σ τ : am_M} (i : ∀ a, 34 < a → a < 57 → ¬ scr a → τ.1 a = σ.1 a) (f : ∀ j, j ≠ 25 → j ≠ 27 → τ.1 34 j = σ.1 34 j) (j : τ.2.1 49 = σ.2.1 49) (k : τ.2.1 50 = σ.2.1 50) : EqM σ τ := ⟨i, f, j, k⟩
theorem EqC.refl (σ : am_M) : EqC σ σ := ⟨fun _ _ _ => rfl, rfl⟩
theorem EqM.refl (σ : am_M) : EqM σ σ := ⟨fun _ _ _ _ => rfl, fun _ _ _ => rfl, rfl, rfl⟩
theorem EqC.trans {σ τ ρ : am_M} (h1 : EqC σ τ) (h2 : EqC τ ρ) : EqC σ ρ := ⟨fun a ha hb => (h2.i a ha hb).trans (h1.i a ha hb), h2.j.trans h1.j⟩
theorem EqM.trans {σ τ ρ : am_M} (h1 : EqM σ τ) (h2 : EqM τ ρ) : EqM σ ρ := ⟨fun a ha hb hc => (h2.i a ha hb hc).trans (h1.i a ha hb hc), fun j hj hk => (h2.f j hj hk).trans (h1.f j hj hk), h2.j.trans h1.j, h2.k.trans h1.k⟩
theorem Sm.of {σ τ : am_M} (h1 : EqC σ τ) (h2 : EqM σ τ) : Sm σ τ := by
  refine ⟨fun a ha hb => ?_, h2.f, fun a ha => ?_⟩
  · by_cases h : a < 34
    · exact h1.i a h ha
    · exact h2.i a (by omega) (by have : ¬ 57 ≤ a := fun z => ha (by unfold scr; omega)
                                  omega) ha
  · rcases ha with rfl | rfl | rfl
    · exact h1.j
    · exact h2.j
    · exact h2.k
theorem Sm.c {σ τ : am_M} (h : Sm σ τ) : EqC σ τ := ⟨fun a ha hb => h.i a hb (by omega), h.j 14 (by decide)⟩
theorem Sm.m {σ τ : am_M} (h : Sm σ τ) : EqM σ τ := ⟨fun a ha hb hc => h.i a hc (by omega), h.f, h.j 49 (by decide), h.j 50 (by decide)⟩
/-- the class sets a cell of its own -/
theorem EqM.setC {σ τ : am_M} (h : EqM σ τ) {a : Nat} (ha : a < 34) (f : Nat → Int32) : EqM σ (am_set τ a f) :=
  ⟨fun b hb hb' hc => (s_ne _ _ (by omega)).trans (h.i b hb hb' hc), fun j hj hk => by rw [s_ne _ _ (by omega)]; exact h.f j hj hk, h.j, h.k⟩
theorem EqC.setM {σ τ : am_M} (h : EqC σ τ) {a : Nat} (ha : 34 ≤ a) (f : Nat → Int32) : EqC σ (am_set τ a f) :=
  ⟨fun b hb hc => (s_ne _ _ (by omega)).trans (h.i b hb hc), h.j⟩
theorem EqC.setMJ {σ τ : am_M} (h : EqC σ τ) {a : Nat} (ha : a ≠ 14) (f : Nat → Int64) : EqC σ (am_setJ τ a f) :=
  ⟨h.i, (sJ_ne _ _ (fun z => ha z.symm)).trans h.j⟩
theorem EqM.setCJ {σ τ : am_M} (h : EqM σ τ) (f : Nat → Int64) : EqM σ (am_setJ τ 14 f) :=
  ⟨h.i, h.f, (sJ_ne _ _ (by decide)).trans h.j, (sJ_ne _ _ (by decide)).trans h.k⟩
variable {c kc md rc td : Nat} {lev rk : Nat → Nat} {σ : am_M}
theorem usd_w {st sz : Nat → Int32} {t s : Nat} (hst : st t = nI 0) (hs : zn sz t = s) (hb : s < 2 ^ 30) : ∀ k, usd st (upd sz t (nI (s + 1))) k = usd st sz k + (if t < k then 1 else 0) := by
  intro k
  induction k with
  | zero => rfl
  | succ k ih =>
    rw [usd, usd, ih]
    by_cases h : t = k
    · subst h
      have hz : zn (upd sz t (nI (s + 1))) t = s + 1 := by
        unfold zn; rw [show upd sz t (nI (s + 1)) t = nI (s + 1) from if_pos rfl, i_cl (by omega)]
      have e1 : ¬ st t = nI 2 := by rw [hst]; decide
      simp only [if_neg e1, hz, hs, if_neg (Nat.lt_irrefl t), if_pos (Nat.lt_succ_self t)]; omega
    · have hz : zn (upd sz t (nI (s + 1))) k = zn sz k := by
        unfold zn; rw [show upd sz t (nI (s + 1)) k = sz k from if_neg (fun z => h z.symm)]
      rw [hz]
      by_cases h2 : t < k
      · simp only [if_pos h2, if_pos (show t < k + 1 by omega)]; omega
      · simp only [if_neg h2, if_neg (show ¬ t < k + 1 by omega)]; omega
/-- an entry that may be written -/
abbrev okE (kc rc : Nat) (lev rk : Nat → Nat) (sd : Int32) (J : Nat → Int64) (ki inn out : Int32) (w : Int64) : Prop := (ki = nI 0 ∧ w = (wrp sd inn out).toInt64 ∧ ∃ x y, 1 ≤ x ∧ x ≤ kc ∧ 1 ≤ y ∧ y ≤ kc ∧ inn = nI x ∧ out = nI y ∧ lev x = lev y + 1) ∨ (ki = nI 1 ∧ w = J inn.toNatClampNeg ^^^ msk sd out ∧ ∃ r y, r < rc ∧ 1 ≤ y ∧ y ≤ kc ∧ inn = nI r ∧ out = nI y ∧ lev y = 3 ∧ rk y = r)
theorem Inv0.wr (h : Inv0 c kc md rc td lev rk σ) {t s : Nat} (ht : t < md) (hst : σ.1 20 t = nI 0) (hs : zn (σ.1 21) t = s) (hs2 : s < 150) {ki inn out : Int32} {w : Int64} (he : okE kc rc lev rk (σ.1 1 1) (σ.2.1 14) ki inn out w) : Inv0 (c - 1) kc md rc td lev rk (wrM (wrE σ t s ki inn out) t s ki inn out w) := by
  have hmb := h.core.mdb
  have hz : ∀ m, m < md → zn (upd (σ.1 21) t (nI (s + 1))) m = if m = t then s + 1 else zn (σ.1 21) m := by
    intro m hm
    unfold zn
    by_cases e : m = t
    · rw [if_pos e, show upd (σ.1 21) t (nI (s + 1)) m = nI (s + 1) from if_pos e, i_cl (by omega)]
    · rw [if_neg e, show upd (σ.1 21) t (nI (s + 1)) m = σ.1 21 m from if_neg e]
  have hat : ∀ m i, m < md → i < zn (upd (σ.1 21) t (nI (s + 1))) m → (m * 150 + i = t * 150 + s ∧ m = t ∧ i = s) ∨ (m * 150 + i ≠ t * 150 + s ∧ i < zn (σ.1 21) m) := by
    intro m i hm hi
    rw [hz m hm] at hi
    by_cases e : m = t
    · rw [if_pos e] at hi
      by_cases e2 : i = s
      · exact Or.inl ⟨by rw [e, e2], e, e2⟩
      · refine Or.inr ⟨by omega, by rw [e, hs]; omega⟩
    · rw [if_neg e] at hi
      have := (h.core.med m hm).1
      exact Or.inr ⟨by omega, hi⟩
  apply Inv0.mk
  case core =>
    simp +decide only [wrM, wrE, s_rd, sJ_I, if_true, if_false, ite_true, ite_false]
    apply Core.mk
    case mdb => exact h.core.mdb
    case rcb => exact h.core.rcb
    case lvb => exact h.core.lvb
    case node => exact h.core.node
    case root => exact h.core.root
    case pars => exact h.core.pars
    case plc => exact h.core.plc
    case rec => exact h.core.rec
    case lfs => exact h.core.lfs
    case med =>
      intro m hm
      have := h.core.med m hm
      rw [hz m hm]
      by_cases e : m = t
      · subst e
        rw [if_pos rfl, show upd (σ.1 21) m (nI (s + 1)) m = nI (s + 1) from if_pos rfl]
        exact ⟨by omega, rfl, Or.inl hst⟩
      · rw [if_neg e, show upd (σ.1 21) t (nI (s + 1)) m = σ.1 21 m from if_neg e]
        exact this
    case ent =>
      intro m hm i hi
      rcases hat m i hm hi with ⟨e, _, _⟩ | ⟨e, hi2⟩
      · rw [e, show upd (σ.1 22) (t * 150 + s) ki (t * 150 + s) = ki from if_pos rfl, show upd (σ.1 23) (t * 150 + s) inn (t * 150 + s) = inn from if_pos rfl, show upd (σ.1 24) (t * 150 + s) out (t * 150 + s) = out from if_pos rfl]
        exact he.imp (fun z => ⟨z.1, z.2.2⟩) (fun z => ⟨z.1, z.2.2⟩)
      · rw [show upd (σ.1 22) (t * 150 + s) ki (m * 150 + i) = σ.1 22 (m * 150 + i) from if_neg e, show upd (σ.1 23) (t * 150 + s) inn (m * 150 + i) = σ.1 23 (m * 150 + i) from if_neg e, show upd (σ.1 24) (t * 150 + s) out (m * 150 + i) = σ.1 24 (m * 150 + i) from if_neg e]
        exact h.core.ent m hm i hi2
  case cb => have := h.cb; omega
  case tb => exact h.tb
  case hk => simp +decide only [wrM, wrE, s_rd, sJ_I, sJ_rd, s_J, if_true, if_false, ite_true, ite_false]; exact h.hk
  case hm => simp +decide only [wrM, wrE, s_rd, sJ_I, sJ_rd, s_J, if_true, if_false, ite_true, ite_false]; exact h.hm
  case hr => simp +decide only [wrM, wrE, s_rd, sJ_I, sJ_rd, s_J, if_true, if_false, ite_true, ite_false]; exact h.hr
  case ht => simp +decide only [wrM, wrE, s_rd, sJ_I, sJ_rd, s_J, if_true, if_false, ite_true, ite_false]; exact h.ht
  case hk' => simp +decide only [wrM, wrE, s_rd, sJ_I, sJ_rd, s_J, if_true, if_false, ite_true, ite_false]; exact h.hk'
  case hm' => simp +decide only [wrM, wrE, s_rd, sJ_I, sJ_rd, s_J, if_true, if_false, ite_true, ite_false]; exact h.hm'
  case hr' => simp +decide only [wrM, wrE, s_rd, sJ_I, sJ_rd, s_J, if_true, if_false, ite_true, ite_false]; exact h.hr'
  case ht' => simp +decide only [wrM, wrE, s_rd, sJ_I, sJ_rd, s_J, if_true, if_false, ite_true, ite_false]; exact h.ht'
  case sd => simp +decide only [wrM, wrE, s_rd, sJ_I, sJ_rd, s_J, if_true, if_false, ite_true, ite_false]; exact h.sd
  case e35 => simp +decide only [wrM, wrE, s_rd, sJ_I, sJ_rd, s_J, if_true, if_false, ite_true, ite_false]; exact h.e35
  case e37 => simp +decide only [wrM, wrE, s_rd, sJ_I, sJ_rd, s_J, if_true, if_false, ite_true, ite_false]; exact h.e37
  case e38 => simp +decide only [wrM, wrE, s_rd, sJ_I, sJ_rd, s_J, if_true, if_false, ite_true, ite_false]; exact h.e38
  case e41 => simp +decide only [wrM, wrE, s_rd, sJ_I, sJ_rd, s_J, if_true, if_false, ite_true, ite_false]; exact h.e41
  case e51 => simp +decide only [wrM, wrE, s_rd, sJ_I, sJ_rd, s_J, if_true, if_false, ite_true, ite_false]; exact h.e51
  case e53 => simp +decide only [wrM, wrE, s_rd, sJ_I, sJ_rd, s_J, if_true, if_false, ite_true, ite_false]; exact h.e53
  case e54 => simp +decide only [wrM, wrE, s_rd, sJ_I, sJ_rd, s_J, if_true, if_false, ite_true, ite_false]; exact h.e54
  case e50 => simp +decide only [wrM, wrE, s_rd, sJ_I, sJ_rd, s_J, if_true, if_false, ite_true, ite_false]; exact h.e50
  case kep => simp +decide only [wrM, wrE, s_rd, sJ_I, sJ_rd, s_J, if_true, if_false, ite_true, ite_false]; exact h.kep
  case okh => simp +decide only [wrM, wrE, s_rd, sJ_I, sJ_rd, s_J, if_true, if_false, ite_true, ite_false]; exact h.okh
  case due => simp +decide only [wrM, wrE, s_rd, sJ_I, sJ_rd, s_J, if_true, if_false, ite_true, ite_false]; exact h.due
  case mrk => simp +decide only [wrM, wrE, s_rd, sJ_I, sJ_rd, s_J, if_true, if_false, ite_true, ite_false]; exact h.mrk
  case prl => simp +decide only [wrM, wrE, s_rd, sJ_I, sJ_rd, s_J, if_true, if_false, ite_true, ite_false]; exact h.prl
  case kb =>
    simp +decide only [wrM, wrE, s_rd, sJ_I, sJ_rd, s_J, if_true, if_false, ite_true, ite_false]
    rw [usd_w hst hs (by omega), if_pos ht]
    have := h.kb
    omega
  case e46 => simp +decide only [wrM, wrE, s_rd, sJ_I, sJ_rd, s_J, if_true, if_false, ite_true, ite_false]; rw [h.e46]
  case e47 => simp +decide only [wrM, wrE, s_rd, sJ_I, sJ_rd, s_J, if_true, if_false, ite_true, ite_false]; rw [h.e47]
  case e48 => simp +decide only [wrM, wrE, s_rd, sJ_I, sJ_rd, s_J, if_true, if_false, ite_true, ite_false]; rw [h.e48]
  case mdm =>
    simp +decide only [wrM, wrE, s_rd, sJ_I, sJ_rd, s_J, if_true, if_false, ite_true, ite_false]
    intro m hm
    have := h.mdm m hm
    refine ⟨this.1, ?_⟩
    unfold upd
    by_cases e : m = t
    · rw [if_pos e, if_pos e]
    · rw [if_neg e, if_neg e]; exact this.2
  case con =>
    simp +decide only [wrM, wrE, s_rd, sJ_I, sJ_rd, s_J, if_true, if_false, ite_true, ite_false]
    intro m hm i hi
    rcases hat m i hm hi with ⟨e, _, _⟩ | ⟨e, hi2⟩
    · rw [e, show upd (σ.1 22) (t * 150 + s) ki (t * 150 + s) = ki from if_pos rfl, show upd (σ.1 23) (t * 150 + s) inn (t * 150 + s) = inn from if_pos rfl, show upd (σ.1 24) (t * 150 + s) out (t * 150 + s) = out from if_pos rfl, show vp_updL (σ.2.1 49) (t * 150 + s) w (t * 150 + s) = w from if_pos rfl]
      rcases he with ⟨k1, k2, _⟩ | ⟨k1, k2, _⟩
      · rw [if_pos k1]; exact k2
      · rw [if_neg (by rw [k1]; decide)]; exact k2
    · rw [show upd (σ.1 22) (t * 150 + s) ki (m * 150 + i) = σ.1 22 (m * 150 + i) from if_neg e, show upd (σ.1 23) (t * 150 + s) inn (m * 150 + i) = σ.1 23 (m * 150 + i) from if_neg e, show upd (σ.1 24) (t * 150 + s) out (m * 150 + i) = σ.1 24 (m * 150 + i) from if_neg e, show vp_updL (σ.2.1 49) (t * 150 + s) w (m * 150 + i) = σ.2.1 49 (m * 150 + i) from if_neg e]
      exact h.con m hm i hi2
end JNT
