/-! one step of both sides -/
section JNT
abbrev EqC (σ τ : am_M) : Prop := (∀ a, a < 34 → ¬ scr a → τ.1 a = σ.1 a) ∧ (τ.2.1 14 = σ.2.1 14) ∧ (τ.2.2 = σ.2.2)
theorem EqC.i {σ τ : am_M} (h : EqC σ τ) : ∀ a, a < 34 → ¬ scr a → τ.1 a = σ.1 a := h.1
theorem EqC.j {σ τ : am_M} (h : EqC σ τ) : τ.2.1 14 = σ.2.1 14 := h.2.1
theorem EqC.n {σ τ : am_M} (h : EqC σ τ) : τ.2.2 = σ.2.2 := h.2.2
theorem EqC.mk {σ τ : am_M} (i : ∀ a, a < 34 → ¬ scr a → τ.1 a = σ.1 a) (j : τ.2.1 14 = σ.2.1 14) (n : τ.2.2 = σ.2.2) : EqC σ τ := ⟨i, j, n⟩
abbrev EqM (σ τ : am_M) : Prop := (∀ a, 34 < a → a < 57 → ¬ scr a → τ.1 a = σ.1 a) ∧ (∀ j, j ≠ 25 → j ≠ 27 → τ.1 34 j = σ.1 34 j) ∧ (τ.2.1 49 = σ.2.1 49) ∧ (τ.2.1 50 = σ.2.1 50) ∧ (τ.2.2 = σ.2.2)
theorem EqM.i {σ τ : am_M} (h : EqM σ τ) : ∀ a, 34 < a → a < 57 → ¬ scr a → τ.1 a = σ.1 a := h.1
theorem EqM.f {σ τ : am_M} (h : EqM σ τ) : ∀ j, j ≠ 25 → j ≠ 27 → τ.1 34 j = σ.1 34 j := h.2.1
theorem EqM.j {σ τ : am_M} (h : EqM σ τ) : τ.2.1 49 = σ.2.1 49 := h.2.2.1
theorem EqM.k {σ τ : am_M} (h : EqM σ τ) : τ.2.1 50 = σ.2.1 50 := h.2.2.2.1
theorem EqM.n {σ τ : am_M} (h : EqM σ τ) : τ.2.2 = σ.2.2 := h.2.2.2.2
theorem EqM.mk {σ τ : am_M} (i : ∀ a, 34 < a → a < 57 → ¬ scr a → τ.1 a = σ.1 a) (f : ∀ j, j ≠ 25 → j ≠ 27 → τ.1 34 j = σ.1 34 j) (j : τ.2.1 49 = σ.2.1 49) (k : τ.2.1 50 = σ.2.1 50) (n : τ.2.2 = σ.2.2) : EqM σ τ := ⟨i, f, j, k, n⟩
theorem EqC.refl (σ : am_M) : EqC σ σ := ⟨fun _ _ _ => rfl, rfl, rfl⟩
theorem EqM.refl (σ : am_M) : EqM σ σ := ⟨fun _ _ _ _ => rfl, fun _ _ _ => rfl, rfl, rfl, rfl⟩
theorem EqC.trans {σ τ ρ : am_M} (h1 : EqC σ τ) (h2 : EqC τ ρ) : EqC σ ρ := ⟨fun a ha hb => (h2.i a ha hb).trans (h1.i a ha hb), h2.j.trans h1.j, h2.n.trans h1.n⟩
theorem EqM.trans {σ τ ρ : am_M} (h1 : EqM σ τ) (h2 : EqM τ ρ) : EqM σ ρ := ⟨fun a ha hb hc => (h2.i a ha hb hc).trans (h1.i a ha hb hc), fun j hj hk => (h2.f j hj hk).trans (h1.f j hj hk), h2.j.trans h1.j, h2.k.trans h1.k, h2.n.trans h1.n⟩
theorem Sm.of {σ τ : am_M} (h1 : EqC σ τ) (h2 : EqM σ τ) : Sm σ τ := by
  refine ⟨fun a ha hb => ?_, h2.f, fun a ha => ?_⟩
  · by_cases h : a < 34
    · exact h1.i a h ha
    · exact h2.i a (by omega) (by have : ¬ 57 ≤ a := fun z => ha (by unfold scr; omega)
                                  omega) ha
  · rcases ha with rfl | rfl | rfl
    · exact h1.j
    · exact h2.j
    · exact h2.k
theorem Sm.c {σ τ : am_M} (h : Sm σ τ) (hn : τ.2.2 = σ.2.2) : EqC σ τ := ⟨fun a ha hb => h.i a hb (by omega), h.j 14 (by decide), hn⟩
theorem Sm.m {σ τ : am_M} (h : Sm σ τ) (hn : τ.2.2 = σ.2.2) : EqM σ τ := ⟨fun a ha hb hc => h.i a hc (by omega), h.f, h.j 49 (by decide), h.j 50 (by decide), hn⟩
/-- the class sets a cell of its own -/
theorem EqM.setC {σ τ : am_M} (h : EqM σ τ) {a : Nat} (ha : a < 34) (f : Nat → Int32) : EqM σ (am_set τ a f) :=
  ⟨fun b hb hb' hc => (s_ne _ _ (by omega)).trans (h.i b hb hb' hc), fun j hj hk => by rw [s_ne _ _ (by omega)]; exact h.f j hj hk, h.j, h.k, h.n⟩
theorem EqC.setM {σ τ : am_M} (h : EqC σ τ) {a : Nat} (ha : 34 ≤ a) (f : Nat → Int32) : EqC σ (am_set τ a f) :=
  ⟨fun b hb hc => (s_ne _ _ (by omega)).trans (h.i b hb hc), h.j, h.n⟩
theorem EqC.setMJ {σ τ : am_M} (h : EqC σ τ) {a : Nat} (ha : a ≠ 14) (f : Nat → Int64) : EqC σ (am_setJ τ a f) :=
  ⟨h.i, (sJ_ne _ _ (fun z => ha z.symm)).trans h.j, h.n⟩
theorem EqM.setCJ {σ τ : am_M} (h : EqM σ τ) (f : Nat → Int64) : EqM σ (am_setJ τ 14 f) :=
  ⟨h.i, h.f, (sJ_ne _ _ (by decide)).trans h.j, (sJ_ne _ _ (by decide)).trans h.k, h.n⟩
variable {c kc md rc td : Nat} {lev rk : Nat → Nat} {σ : am_M}
theorem usd_w {st sz : Nat → Int32} {t s : Nat} (hst : st t = nI 0) (hs : zn sz t = s) (hb : s < 2 ^ 30) : ∀ k, usd st (upd sz t (nI (s + 1))) k = usd st sz k + (if t < k then 1 else 0) := by
  intro k
  induction k with
  | zero => rfl
  | succ k ih =>
    rw [usd, usd, ih]
    by_cases h : t = k
    · subst h
      have hz : zn (upd sz t (nI (s + 1))) t = s + 1 := by
        unfold zn; rw [show upd sz t (nI (s + 1)) t = nI (s + 1) from if_pos rfl, i_cl (by omega)]
      have e1 : ¬ st t = nI 2 := by rw [hst]; decide
      simp only [if_neg e1, hz, hs, if_neg (Nat.lt_irrefl t), if_pos (Nat.lt_succ_self t)]; omega
    · have hz : zn (upd sz t (nI (s + 1))) k = zn sz k := by
        unfold zn; rw [show upd sz t (nI (s + 1)) k = sz k from if_neg (fun z => h z.symm)]
      rw [hz]
      by_cases h2 : t < k
      · simp only [if_pos h2, if_pos (show t < k + 1 by omega)]; omega
      · simp only [if_neg h2, if_neg (show ¬ t < k + 1 by omega)]; omega
/-- an entry that may be written -/
abbrev okE (kc rc : Nat) (lev rk : Nat → Nat) (sd : Int32) (J : Nat → Int64) (ki inn out : Int32) (w : Int64) : Prop := (ki = nI 0 ∧ w = (wrp sd inn out).toInt64 ∧ ∃ x y, 1 ≤ x ∧ x ≤ kc ∧ 1 ≤ y ∧ y ≤ kc ∧ inn = nI x ∧ out = nI y ∧ lev x = lev y + 1) ∨ (ki = nI 1 ∧ w = J inn.toNatClampNeg ^^^ msk sd out ∧ ∃ r y, r < rc ∧ 1 ≤ y ∧ y ≤ kc ∧ inn = nI r ∧ out = nI y ∧ lev y = 3 ∧ rk y = r)
theorem Inv0.wr (h : Inv0 c kc md rc td lev rk σ) {t s : Nat} (ht : t < md) (hst : σ.1 20 t = nI 0) (hs : zn (σ.1 21) t = s) (hs2 : s < 150) {ki inn out : Int32} {w : Int64} (he : okE kc rc lev rk (σ.1 1 1) (σ.2.1 14) ki inn out w) : Inv0 (c - 1) kc md rc td lev rk (wrM (wrE σ t s ki inn out) t s ki inn out w) := by
  have hmb := h.core.mdb
  have hz : ∀ m, m < md → zn (upd (σ.1 21) t (nI (s + 1))) m = if m = t then s + 1 else zn (σ.1 21) m := by
    intro m hm
    unfold zn
    by_cases e : m = t
    · rw [if_pos e, show upd (σ.1 21) t (nI (s + 1)) m = nI (s + 1) from if_pos e, i_cl (by omega)]
    · rw [if_neg e, show upd (σ.1 21) t (nI (s + 1)) m = σ.1 21 m from if_neg e]
  have hat : ∀ m i, m < md → i < zn (upd (σ.1 21) t (nI (s + 1))) m → (m * 150 + i = t * 150 + s ∧ m = t ∧ i = s) ∨ (m * 150 + i ≠ t * 150 + s ∧ i < zn (σ.1 21) m) := by
    intro m i hm hi
    rw [hz m hm] at hi
    by_cases e : m = t
    · rw [if_pos e] at hi
      by_cases e2 : i = s
      · exact Or.inl ⟨by rw [e, e2], e, e2⟩
      · refine Or.inr ⟨by omega, by rw [e, hs]; omega⟩
    · rw [if_neg e] at hi
      have := (h.core.med m hm).1
      exact Or.inr ⟨by omega, hi⟩
  apply Inv0.mk
  case core =>
    simp +decide only [wrM, wrE, s_rd, sJ_I, if_true, if_false, ite_true, ite_false]
    apply Core.mk
    case mdb => exact h.core.mdb
    case rcb => exact h.core.rcb
    case lvb => exact h.core.lvb
    case node => exact h.core.node
    case root => exact h.core.root
    case pars => exact h.core.pars
    case plc => exact h.core.plc
    case rec => exact h.core.rec
    case lfs => exact h.core.lfs
    case med =>
      intro m hm
      have := h.core.med m hm
      rw [hz m hm]
      by_cases e : m = t
      · subst e
        rw [if_pos rfl, show upd (σ.1 21) m (nI (s + 1)) m = nI (s + 1) from if_pos rfl]
        exact ⟨by omega, rfl, Or.inl hst⟩
      · rw [if_neg e, show upd (σ.1 21) t (nI (s + 1)) m = σ.1 21 m from if_neg e]
        exact this
    case ent =>
      intro m hm i hi
      rcases hat m i hm hi with ⟨e, _, _⟩ | ⟨e, hi2⟩
      · rw [e, show upd (σ.1 22) (t * 150 + s) ki (t * 150 + s) = ki from if_pos rfl, show upd (σ.1 23) (t * 150 + s) inn (t * 150 + s) = inn from if_pos rfl, show upd (σ.1 24) (t * 150 + s) out (t * 150 + s) = out from if_pos rfl]
        exact he.imp (fun z => ⟨z.1, z.2.2⟩) (fun z => ⟨z.1, z.2.2⟩)
      · rw [show upd (σ.1 22) (t * 150 + s) ki (m * 150 + i) = σ.1 22 (m * 150 + i) from if_neg e, show upd (σ.1 23) (t * 150 + s) inn (m * 150 + i) = σ.1 23 (m * 150 + i) from if_neg e, show upd (σ.1 24) (t * 150 + s) out (m * 150 + i) = σ.1 24 (m * 150 + i) from if_neg e]
        exact h.core.ent m hm i hi2
  case cb => have := h.cb; omega
  case tb => exact h.tb
  case hk => simp +decide only [wrM, wrE, s_rd, sJ_I, sJ_rd, s_J, if_true, if_false, ite_true, ite_false]; exact h.hk
  case hm => simp +decide only [wrM, wrE, s_rd, sJ_I, sJ_rd, s_J, if_true, if_false, ite_true, ite_false]; exact h.hm
  case hr => simp +decide only [wrM, wrE, s_rd, sJ_I, sJ_rd, s_J, if_true, if_false, ite_true, ite_false]; exact h.hr
  case ht => simp +decide only [wrM, wrE, s_rd, sJ_I, sJ_rd, s_J, if_true, if_false, ite_true, ite_false]; exact h.ht
  case hk' => simp +decide only [wrM, wrE, s_rd, sJ_I, sJ_rd, s_J, if_true, if_false, ite_true, ite_false]; exact h.hk'
  case hm' => simp +decide only [wrM, wrE, s_rd, sJ_I, sJ_rd, s_J, if_true, if_false, ite_true, ite_false]; exact h.hm'
  case hr' => simp +decide only [wrM, wrE, s_rd, sJ_I, sJ_rd, s_J, if_true, if_false, ite_true, ite_false]; exact h.hr'
  case ht' => simp +decide only [wrM, wrE, s_rd, sJ_I, sJ_rd, s_J, if_true, if_false, ite_true, ite_false]; exact h.ht'
  case sd => simp +decide only [wrM, wrE, s_rd, sJ_I, sJ_rd, s_J, if_true, if_false, ite_true, ite_false]; exact h.sd
  case e35 => simp +decide only [wrM, wrE, s_rd, sJ_I, sJ_rd, s_J, if_true, if_false, ite_true, ite_false]; exact h.e35
  case e37 => simp +decide only [wrM, wrE, s_rd, sJ_I, sJ_rd, s_J, if_true, if_false, ite_true, ite_false]; exact h.e37
  case e38 => simp +decide only [wrM, wrE, s_rd, sJ_I, sJ_rd, s_J, if_true, if_false, ite_true, ite_false]; exact h.e38
  case e41 => simp +decide only [wrM, wrE, s_rd, sJ_I, sJ_rd, s_J, if_true, if_false, ite_true, ite_false]; exact h.e41
  case e51 => simp +decide only [wrM, wrE, s_rd, sJ_I, sJ_rd, s_J, if_true, if_false, ite_true, ite_false]; exact h.e51
  case e53 => simp +decide only [wrM, wrE, s_rd, sJ_I, sJ_rd, s_J, if_true, if_false, ite_true, ite_false]; exact h.e53
  case e54 => simp +decide only [wrM, wrE, s_rd, sJ_I, sJ_rd, s_J, if_true, if_false, ite_true, ite_false]; exact h.e54
  case e50 => simp +decide only [wrM, wrE, s_rd, sJ_I, sJ_rd, s_J, if_true, if_false, ite_true, ite_false]; exact h.e50
  case kep => simp +decide only [wrM, wrE, s_rd, sJ_I, sJ_rd, s_J, if_true, if_false, ite_true, ite_false]; exact h.kep
  case okh => simp +decide only [wrM, wrE, s_rd, sJ_I, sJ_rd, s_J, if_true, if_false, ite_true, ite_false]; exact h.okh
  case due => simp +decide only [wrM, wrE, s_rd, sJ_I, sJ_rd, s_J, if_true, if_false, ite_true, ite_false]; exact h.due
  case mrk => simp +decide only [wrM, wrE, s_rd, sJ_I, sJ_rd, s_J, if_true, if_false, ite_true, ite_false]; exact h.mrk
  case prl => simp +decide only [wrM, wrE, s_rd, sJ_I, sJ_rd, s_J, if_true, if_false, ite_true, ite_false]; exact h.prl
  case kb =>
    simp +decide only [wrM, wrE, s_rd, sJ_I, sJ_rd, s_J, if_true, if_false, ite_true, ite_false]
    rw [usd_w hst hs (by omega), if_pos ht]
    have := h.kb
    omega
  case e46 => simp +decide only [wrM, wrE, s_rd, sJ_I, sJ_rd, s_J, if_true, if_false, ite_true, ite_false]; rw [h.e46]
  case e47 => simp +decide only [wrM, wrE, s_rd, sJ_I, sJ_rd, s_J, if_true, if_false, ite_true, ite_false]; rw [h.e47]
  case e48 => simp +decide only [wrM, wrE, s_rd, sJ_I, sJ_rd, s_J, if_true, if_false, ite_true, ite_false]; rw [h.e48]
  case mdm =>
    simp +decide only [wrM, wrE, s_rd, sJ_I, sJ_rd, s_J, if_true, if_false, ite_true, ite_false]
    intro m hm
    have := h.mdm m hm
    refine ⟨this.1, ?_⟩
    unfold upd
    by_cases e : m = t
    · rw [if_pos e, if_pos e]
    · rw [if_neg e, if_neg e]; exact this.2
  case con =>
    simp +decide only [wrM, wrE, s_rd, sJ_I, sJ_rd, s_J, if_true, if_false, ite_true, ite_false]
    intro m hm i hi
    rcases hat m i hm hi with ⟨e, _, _⟩ | ⟨e, hi2⟩
    · rw [e, show upd (σ.1 22) (t * 150 + s) ki (t * 150 + s) = ki from if_pos rfl, show upd (σ.1 23) (t * 150 + s) inn (t * 150 + s) = inn from if_pos rfl, show upd (σ.1 24) (t * 150 + s) out (t * 150 + s) = out from if_pos rfl, show vp_updL (σ.2.1 49) (t * 150 + s) w (t * 150 + s) = w from if_pos rfl]
      rcases he with ⟨k1, k2, _⟩ | ⟨k1, k2, _⟩
      · rw [if_pos k1]; exact k2
      · rw [if_neg (by rw [k1]; decide)]; exact k2
    · rw [show upd (σ.1 22) (t * 150 + s) ki (m * 150 + i) = σ.1 22 (m * 150 + i) from if_neg e, show upd (σ.1 23) (t * 150 + s) inn (m * 150 + i) = σ.1 23 (m * 150 + i) from if_neg e, show upd (σ.1 24) (t * 150 + s) out (m * 150 + i) = σ.1 24 (m * 150 + i) from if_neg e, show vp_updL (σ.2.1 49) (t * 150 + s) w (m * 150 + i) = σ.2.1 49 (m * 150 + i) from if_neg e]
      exact h.con m hm i hi2
/-- the places of keys when place p gets a new one -/
def plO (σ : am_M) (kc p : Nat) : Nat → Int32 := if mdR (σ.1 16 p) kc then upd (σ.1 13) (σ.1 16 p).toNatClampNeg (-1) else σ.1 13
theorem rnw_16 (σ : am_M) (kc p : Nat) : (rnw σ kc p).1 16 = upd (σ.1 16) p (nI (kc + 1)) := by unfold rnw; exact s_eq _ _ _
theorem rnw_13 (σ : am_M) (kc p : Nat) : (rnw σ kc p).1 13 = upd (plO σ kc p) (kc + 1) (nI p) := by
  unfold rnw plO
  by_cases h : mdR (σ.1 16 p) kc
  · simp only [if_pos h]; rw [s_ne _ _ (by decide), s_eq, s_eq]
  · simp only [if_neg h]; rw [s_ne _ _ (by decide), s_eq]
theorem rnw_1 (σ : am_M) (kc p : Nat) : (rnw σ kc p).1 1 = upd (σ.1 1) 2 (nI (kc + 1)) := by
  unfold rnw
  by_cases h : mdR (σ.1 16 p) kc
  · simp only [if_pos h]; rw [s_ne _ _ (by decide), s_ne _ _ (by decide), s_eq, s_ne _ _ (by decide)]
  · simp only [if_neg h]; rw [s_ne _ _ (by decide), s_ne _ _ (by decide), s_eq]
theorem rnw_o (σ : am_M) (kc p : Nat) {a : Nat} (h1 : a ≠ 16 ∧ a ≠ 13 ∧ a ≠ 1) : (rnw σ kc p).1 a = σ.1 a := by
  unfold rnw
  by_cases h : mdR (σ.1 16 p) kc
  · simp only [if_pos h]; rw [s_ne _ _ h1.1, s_ne _ _ h1.2.1, s_ne _ _ h1.2.2, s_ne _ _ h1.2.1]
  · simp only [if_neg h]; rw [s_ne _ _ h1.1, s_ne _ _ h1.2.1, s_ne _ _ h1.2.2]
theorem rnw_J (σ : am_M) (kc p : Nat) : (rnw σ kc p).2 = σ.2 := by
  unfold rnw
  by_cases h : mdR (σ.1 16 p) kc
  · simp only [if_pos h]; rfl
  · simp only [if_neg h]; rfl
/-- a place gets a new key: the reference -/
def kyM (σ : am_M) (kc p : Nat) : am_M := am_set (am_set σ 34 (upd (σ.1 34) 21 (nI (kc + 1)))) 35 (upd (σ.1 35) p (nI (kc + 1)))
/-- levels of keys, with a new one -/
def lvN (lev : Nat → Nat) (k l : Nat) : Nat → Nat := fun j => if j = k then l else lev j
theorem lvN_o {lev : Nat → Nat} {k l j : Nat} (h : j ≠ k) : lvN lev k l j = lev j := if_neg h
theorem Inv0.key (h : Inv0 c kc md rc td lev rk σ) {p : Nat} (hp : p < 85) (hpar : p = 0 ∨ ¬ σ.1 16 (par p) = nI 0) (hc : c < 600) : Inv0 (c + 1) (kc + 1) md rc td (lvN lev (kc + 1) (lvl p)) rk (kyM (rnw σ kc p) kc p) := by
  have hkl := h.kl
  have hn0 : ¬ nI (kc + 1) = nI 0 := fun z => by have := nI_inj (by omega) (by omega) z; omega
  have hpl : ∀ k q, 1 ≤ k → k ≤ kc → q < 85 → q ≠ p → σ.1 13 k = nI q → upd (plO σ kc p) (kc + 1) (nI p) k = nI q := by
    intro k q k1 k2 k3 k4 k5
    rw [show upd (plO σ kc p) (kc + 1) (nI p) k = plO σ kc p k from if_neg (by omega)]
    unfold plO
    by_cases hm : mdR (σ.1 16 p) kc
    · rw [if_pos hm]
      have : k ≠ (σ.1 16 p).toNatClampNeg := by
        intro z
        rcases h.core.node p hp with h0 | ⟨k', a1, a2, a3, a4, a5⟩
        · rw [h0] at hm
          exact absurd hm.1 (by decide)
        · rw [a3, i_cl (by omega)] at z
          subst z
          rw [a4] at k5
          exact k4 (nI_inj (by omega) (by omega) k5).symm
      rw [show upd (σ.1 13) (σ.1 16 p).toNatClampNeg (-1) k = σ.1 13 k from if_neg this]
      exact k5
    · rw [if_neg hm]; exact k5
  apply Inv0.mk
  case core =>
    simp +decide only [kyM, s_rd, sJ_I, sJ_rd, s_J, rnw_o, rnw_16, rnw_13, rnw_1, rnw_J, if_true, if_false, ite_true, ite_false]
    apply Core.mk
    case mdb => exact h.core.mdb
    case rcb => exact h.core.rcb
    case lvb =>
      intro k
      unfold lvN
      split
      · exact lvl_3 p
      · exact h.core.lvb k
    case node =>
      intro q hq
      by_cases e : q = p
      · subst e
        exact Or.inr ⟨kc + 1, by omega, by omega, if_pos rfl, if_pos rfl, if_pos rfl⟩
      · rw [show upd (σ.1 16) p (nI (kc + 1)) q = σ.1 16 q from if_neg e]
        rcases h.core.node q hq with h0 | ⟨k, a1, a2, a3, a4, a5⟩
        · exact Or.inl h0
        · exact Or.inr ⟨k, a1, by omega, a3, hpl k q a1 a2 hq e a4, by rw [lvN_o (by omega)]; exact a5⟩
    case root =>
      by_cases e : 0 = p
      · rw [show upd (σ.1 16) p (nI (kc + 1)) 0 = nI (kc + 1) from if_pos e]; exact hn0
      · rw [show upd (σ.1 16) p (nI (kc + 1)) 0 = σ.1 16 0 from if_neg e]; exact h.core.root
    case pars =>
      intro q h0 hq hne
      by_cases e2 : par q = p
      · rw [show upd (σ.1 16) p (nI (kc + 1)) (par q) = nI (kc + 1) from if_pos e2]; exact hn0
      · rw [show upd (σ.1 16) p (nI (kc + 1)) (par q) = σ.1 16 (par q) from if_neg e2]
        by_cases e : q = p
        · subst e
          exact hpar.resolve_left (by omega)
        · rw [show upd (σ.1 16) p (nI (kc + 1)) q = σ.1 16 q from if_neg e] at hne
          exact h.core.pars q h0 hq hne
    case plc =>
      intro k k1 k2
      by_cases e : k = kc + 1
      · rw [show upd (plO σ kc p) (kc + 1) (nI p) k = nI p from if_pos e]
        exact Or.inr ⟨p, hp, rfl, by rw [e]; exact if_pos rfl⟩
      · rcases h.core.plc k k1 (by omega) with a | ⟨q, a1, a2, a3⟩
        · refine Or.inl ?_
          rw [show upd (plO σ kc p) (kc + 1) (nI p) k = plO σ kc p k from if_neg e]
          unfold plO
          by_cases hm : mdR (σ.1 16 p) kc
          · rw [if_pos hm]
            unfold upd
            split
            · rfl
            · exact a
          · rw [if_neg hm]; exact a
        · by_cases e2 : q = p
          · subst e2
            refine Or.inl ?_
            rw [show upd (plO σ kc q) (kc + 1) (nI q) k = plO σ kc q k from if_neg e]
            unfold plO
            rw [if_pos (show mdR (σ.1 16 q) kc from ⟨by rw [a3, i_n (by omega)]; omega, by rw [a3, i_n (by omega)]; omega⟩), a3, i_cl (by omega)]
            exact if_pos rfl
          · exact Or.inr ⟨q, a1, hpl k q k1 (by omega) a1 e2 a2, by rw [show upd (σ.1 16) p (nI (kc + 1)) q = σ.1 16 q from if_neg e2]; exact a3⟩
    case rec => exact h.core.rec
    case lfs => exact h.core.lfs
    case med => exact h.core.med
    case ent =>
      intro m hm i hi
      rcases h.core.ent m hm i hi with ⟨a1, x, y, a2, a3, a4, a5, a6, a7, a8⟩ | ⟨a1, r, y, a2, a3, a4, a5, a6, a7, a8⟩
      · exact Or.inl ⟨a1, x, y, a2, by omega, a4, by omega, a6, a7, by rw [lvN_o (by omega), lvN_o (by omega)]; exact a8⟩
      · exact Or.inr ⟨a1, r, y, a2, a3, by omega, a5, a6, by rw [lvN_o (by omega)]; exact a7, a8⟩
  case cb => omega
  case tb => exact h.tb
  case kb => simp +decide only [kyM, s_rd, sJ_I, sJ_rd, s_J, rnw_o, rnw_16, rnw_13, rnw_1, rnw_J, if_true, if_false, ite_true, ite_false]; have := h.kb; omega
  case hk => simp +decide only [kyM, s_rd, sJ_I, sJ_rd, s_J, rnw_o, rnw_16, rnw_13, rnw_1, rnw_J, if_true, if_false, ite_true, ite_false]; exact if_pos rfl
  case hk' => simp +decide only [kyM, s_rd, sJ_I, sJ_rd, s_J, rnw_o, rnw_16, rnw_13, rnw_1, rnw_J, if_true, if_false, ite_true, ite_false]; exact if_pos rfl
  case hm' => simp +decide only [kyM, s_rd, sJ_I, sJ_rd, s_J, rnw_o, rnw_16, rnw_13, rnw_1, rnw_J, if_true, if_false, ite_true, ite_false]; exact Eq.trans (if_neg (by decide)) h.hm'
  case hr' => simp +decide only [kyM, s_rd, sJ_I, sJ_rd, s_J, rnw_o, rnw_16, rnw_13, rnw_1, rnw_J, if_true, if_false, ite_true, ite_false]; exact Eq.trans (if_neg (by decide)) h.hr'
  case ht' => simp +decide only [kyM, s_rd, sJ_I, sJ_rd, s_J, rnw_o, rnw_16, rnw_13, rnw_1, rnw_J, if_true, if_false, ite_true, ite_false]; exact Eq.trans (if_neg (by decide)) h.ht'
  case sd => simp +decide only [kyM, s_rd, sJ_I, sJ_rd, s_J, rnw_o, rnw_16, rnw_13, rnw_1, rnw_J, if_true, if_false, ite_true, ite_false]; exact Eq.trans (if_neg (by decide)) (h.sd.trans (if_neg (by decide)).symm)
  case e35 => simp +decide only [kyM, s_rd, sJ_I, sJ_rd, s_J, rnw_o, rnw_16, rnw_13, rnw_1, rnw_J, if_true, if_false, ite_true, ite_false]; rw [h.e35]
  case kep =>
    simp +decide only [kyM, s_rd, sJ_I, sJ_rd, s_J, rnw_o, rnw_16, rnw_13, rnw_1, rnw_J, if_true, if_false, ite_true, ite_false]
    intro q hq
    rcases h.kep q hq with a | ⟨k, p', a1, a2, a3⟩
    · exact Or.inl a
    · exact Or.inr ⟨k, p', a1, by omega, a3⟩
  case con => simp +decide only [kyM, s_rd, sJ_I, sJ_rd, s_J, rnw_o, rnw_16, rnw_13, rnw_1, rnw_J, if_true, if_false, ite_true, ite_false]; rw [show upd (σ.1 1) 2 (nI (kc + 1)) 1 = σ.1 1 1 from if_neg (by decide)]; exact h.con
  case hm => simp +decide only [kyM, s_rd, sJ_I, sJ_rd, s_J, rnw_o, rnw_16, rnw_13, rnw_1, rnw_J, if_true, if_false, ite_true, ite_false]; exact h.hm
  case hr => simp +decide only [kyM, s_rd, sJ_I, sJ_rd, s_J, rnw_o, rnw_16, rnw_13, rnw_1, rnw_J, if_true, if_false, ite_true, ite_false]; exact h.hr
  case ht => simp +decide only [kyM, s_rd, sJ_I, sJ_rd, s_J, rnw_o, rnw_16, rnw_13, rnw_1, rnw_J, if_true, if_false, ite_true, ite_false]; exact h.ht
  case e37 => simp +decide only [kyM, s_rd, sJ_I, sJ_rd, s_J, rnw_o, rnw_16, rnw_13, rnw_1, rnw_J, if_true, if_false, ite_true, ite_false]; exact h.e37
  case e38 => simp +decide only [kyM, s_rd, sJ_I, sJ_rd, s_J, rnw_o, rnw_16, rnw_13, rnw_1, rnw_J, if_true, if_false, ite_true, ite_false]; exact h.e38
  case e41 => simp +decide only [kyM, s_rd, sJ_I, sJ_rd, s_J, rnw_o, rnw_16, rnw_13, rnw_1, rnw_J, if_true, if_false, ite_true, ite_false]; exact h.e41
  case e46 => simp +decide only [kyM, s_rd, sJ_I, sJ_rd, s_J, rnw_o, rnw_16, rnw_13, rnw_1, rnw_J, if_true, if_false, ite_true, ite_false]; exact h.e46
  case e47 => simp +decide only [kyM, s_rd, sJ_I, sJ_rd, s_J, rnw_o, rnw_16, rnw_13, rnw_1, rnw_J, if_true, if_false, ite_true, ite_false]; exact h.e47
  case e48 => simp +decide only [kyM, s_rd, sJ_I, sJ_rd, s_J, rnw_o, rnw_16, rnw_13, rnw_1, rnw_J, if_true, if_false, ite_true, ite_false]; exact h.e48
  case e51 => simp +decide only [kyM, s_rd, sJ_I, sJ_rd, s_J, rnw_o, rnw_16, rnw_13, rnw_1, rnw_J, if_true, if_false, ite_true, ite_false]; exact h.e51
  case e53 => simp +decide only [kyM, s_rd, sJ_I, sJ_rd, s_J, rnw_o, rnw_16, rnw_13, rnw_1, rnw_J, if_true, if_false, ite_true, ite_false]; exact h.e53
  case e54 => simp +decide only [kyM, s_rd, sJ_I, sJ_rd, s_J, rnw_o, rnw_16, rnw_13, rnw_1, rnw_J, if_true, if_false, ite_true, ite_false]; exact h.e54
  case e50 => simp +decide only [kyM, s_rd, sJ_I, sJ_rd, s_J, rnw_o, rnw_16, rnw_13, rnw_1, rnw_J, if_true, if_false, ite_true, ite_false]; exact h.e50
  case mdm => simp +decide only [kyM, s_rd, sJ_I, sJ_rd, s_J, rnw_o, rnw_16, rnw_13, rnw_1, rnw_J, if_true, if_false, ite_true, ite_false]; exact h.mdm
  case okh => simp +decide only [kyM, s_rd, sJ_I, sJ_rd, s_J, rnw_o, rnw_16, rnw_13, rnw_1, rnw_J, if_true, if_false, ite_true, ite_false]; exact h.okh
  case due => simp +decide only [kyM, s_rd, sJ_I, sJ_rd, s_J, rnw_o, rnw_16, rnw_13, rnw_1, rnw_J, if_true, if_false, ite_true, ite_false]; exact h.due
  case mrk => simp +decide only [kyM, s_rd, sJ_I, sJ_rd, s_J, rnw_o, rnw_16, rnw_13, rnw_1, rnw_J, if_true, if_false, ite_true, ite_false]; exact h.mrk
  case prl => simp +decide only [kyM, s_rd, sJ_I, sJ_rd, s_J, rnw_o, rnw_16, rnw_13, rnw_1, rnw_J, if_true, if_false, ite_true, ite_false]; exact h.prl
end JNT
