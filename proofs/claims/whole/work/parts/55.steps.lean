/-! the steps of writing calls, on each side and on both -/
section STP
/-- an entry is written on both sides -/
def JW (σ : am_M) (t s : Nat) (ki inn out : Int32) (w : Int64) : am_M := wrM (wrE σ t s ki inn out) t s ki inn out w
/-- a place gets a new key on both sides -/
def JK (σ : am_M) (kc p : Nat) : am_M := kyM (rnw σ kc p) kc p
theorem wrE_M {σ τ : am_M} (h : EqM σ τ) (t s : Nat) (a b e : Int32) : EqM σ (wrE τ t s a b e) :=
  (((h.setC (by decide) _).setC (by decide) _).setC (by decide) _).setC (by decide) _
theorem wrM_C {σ τ : am_M} (h : EqC σ τ) (t s : Nat) (a b e : Int32) (w : Int64) : EqC σ (wrM τ t s a b e w) :=
  ((((h.setM (by decide) _).setM (by decide) _).setM (by decide) _).setMJ (by decide) _).setM (by decide) _
theorem wrE_C {σ τ : am_M} (h : EqC σ τ) (t s : Nat) (a b e : Int32) : EqC (wrE σ t s a b e) (wrE τ t s a b e) := by
  have e22 := h.i 22 (by decide) (by decide)
  have e23 := h.i 23 (by decide) (by decide)
  have e24 := h.i 24 (by decide) (by decide)
  have e21 := h.i 21 (by decide) (by decide)
  refine ⟨fun x hx hs => ?_, h.j, h.n⟩
  simp only [wrE, s_rd, e22, e23, e24, e21]
  by_cases h1 : x = 21
  · rw [if_pos h1, if_pos h1]
  · rw [if_neg h1, if_neg h1]
    by_cases h2 : x = 24
    · rw [if_pos h2, if_pos h2]
    · rw [if_neg h2, if_neg h2]
      by_cases h3 : x = 23
      · rw [if_pos h3, if_pos h3]
      · rw [if_neg h3, if_neg h3]
        by_cases h4 : x = 22
        · rw [if_pos h4, if_pos h4]
        · rw [if_neg h4, if_neg h4]; exact h.i x hx hs
theorem wrM_M {σ τ : am_M} (h : EqM σ τ) (t s : Nat) (a b e : Int32) (w : Int64) : EqM (wrM σ t s a b e w) (wrM τ t s a b e w) := by
  have e46 := h.i 46 (by decide) (by decide) (by decide)
  have e47 := h.i 47 (by decide) (by decide) (by decide)
  have e48 := h.i 48 (by decide) (by decide) (by decide)
  have e45 := h.i 45 (by decide) (by decide) (by decide)
  refine ⟨fun x hx hx2 hs => ?_, fun j h1 h2 => ?_, ?_, ?_, h.n⟩
  · simp only [wrM, s_rd, sJ_I, e46, e47, e48, e45]
    by_cases h1 : x = 45
    · rw [if_pos h1, if_pos h1]
    · rw [if_neg h1, if_neg h1]
      by_cases h2 : x = 48
      · rw [if_pos h2, if_pos h2]
      · rw [if_neg h2, if_neg h2]
        by_cases h3 : x = 47
        · rw [if_pos h3, if_pos h3]
        · rw [if_neg h3, if_neg h3]
          by_cases h4 : x = 46
          · rw [if_pos h4, if_pos h4]
          · rw [if_neg h4, if_neg h4]; exact h.i x hx hx2 hs
  · simp +decide only [wrM, s_rd, sJ_I, if_true, if_false, ite_true, ite_false]; exact h.f j h1 h2
  · simp +decide only [wrM, sJ_rd, s_J, if_true, if_false, ite_true, ite_false, h.j]
  · simp +decide only [wrM, sJ_rd, s_J, if_true, if_false, ite_true, ite_false]; exact h.k
theorem JW_C {σ τ : am_M} (h : EqC σ τ) (t s : Nat) (a b e : Int32) (w : Int64) : EqC (JW σ t s a b e w) (wrE τ t s a b e) := by
  have h1 := wrM_C (EqC.refl (wrE σ t s a b e)) t s a b e w
  have h2 := wrE_C h t s a b e
  exact ⟨fun x hx hs => (h2.i x hx hs).trans (h1.i x hx hs).symm, h2.j.trans h1.j.symm, h2.n.trans h1.n.symm⟩
theorem JW_M {σ τ : am_M} (h : EqM σ τ) (t s : Nat) (a b e : Int32) (w : Int64) : EqM (JW σ t s a b e w) (wrM τ t s a b e w) := by
  have h1 : EqM (wrE σ t s a b e) τ := by
    have := wrE_M (EqM.refl σ) t s a b e
    exact ⟨fun x hx hx2 hs => (h.i x hx hx2 hs).trans (this.i x hx hx2 hs).symm, fun j k1 k2 => (h.f j k1 k2).trans (this.f j k1 k2).symm, h.j.trans this.j.symm, h.k.trans this.k.symm, h.n.trans this.n.symm⟩
  exact wrM_M h1 t s a b e w
theorem rnw_M {σ τ : am_M} (h : EqM σ τ) (kc p : Nat) : EqM σ (rnw τ kc p) := by
  refine ⟨fun x hx hx2 hs => (rnw_o _ _ _ (by omega)).trans (h.i x hx hx2 hs), fun j h1 h2 => ?_, ?_, ?_, by rw [rnw_J]; exact h.n⟩
  · rw [rnw_o _ _ _ (by omega)]; exact h.f j h1 h2
  · rw [rnw_J]; exact h.j
  · rw [rnw_J]; exact h.k
theorem rnw_C {σ τ : am_M} (h : EqC σ τ) (kc p : Nat) : EqC (rnw σ kc p) (rnw τ kc p) := by
  refine ⟨fun x hx hs => ?_, by rw [rnw_J, rnw_J]; exact h.j, by rw [rnw_J, rnw_J]; exact h.n⟩
  by_cases h1 : x = 16
  · subst h1; rw [rnw_16, rnw_16, h.i 16 (by decide) (by decide)]
  · by_cases h2 : x = 13
    · subst h2; rw [rnw_13, rnw_13]; unfold plO; rw [h.i 16 (by decide) (by decide), h.i 13 (by decide) (by decide)]
    · by_cases h3 : x = 1
      · subst h3; rw [rnw_1, rnw_1, h.i 1 (by decide) (by decide)]
      · rw [rnw_o _ _ _ ⟨h1, h2, h3⟩, rnw_o _ _ _ ⟨h1, h2, h3⟩]; exact h.i x hx hs
theorem kyM_C {σ τ : am_M} (h : EqC σ τ) (kc p : Nat) : EqC σ (kyM τ kc p) := (h.setM (by decide) _).setM (by decide) _
theorem kyM_M {σ τ : am_M} (h : EqM σ τ) (kc p : Nat) : EqM (kyM σ kc p) (kyM τ kc p) := by
  have e35 := h.i 35 (by decide) (by decide) (by decide)
  refine ⟨fun x hx hx2 hs => ?_, fun j h1 h2 => ?_, h.j, h.k, h.n⟩
  · simp only [kyM, s_rd, e35]
    by_cases h1 : x = 35
    · rw [if_pos h1, if_pos h1]
    · rw [if_neg h1, if_neg h1, if_neg (by omega), if_neg (by omega)]; exact h.i x hx hx2 hs
  · simp +decide only [kyM, s_rd, if_true, if_false, ite_true, ite_false]
    unfold upd
    by_cases hj : j = 21
    · rw [if_pos hj, if_pos hj]
    · rw [if_neg hj, if_neg hj]; exact h.f j h1 h2
theorem JK_C {σ τ : am_M} (h : EqC σ τ) (kc p : Nat) : EqC (JK σ kc p) (rnw τ kc p) := by
  have h1 := kyM_C (EqC.refl (rnw σ kc p)) kc p
  have h2 := rnw_C h kc p
  exact ⟨fun x hx hs => (h2.i x hx hs).trans (h1.i x hx hs).symm, h2.j.trans h1.j.symm, h2.n.trans h1.n.symm⟩
theorem JK_M {σ τ : am_M} (h : EqM σ τ) (kc p : Nat) : EqM (JK σ kc p) (kyM τ kc p) := by
  have h1 : EqM (rnw σ kc p) τ := by
    have := rnw_M (EqM.refl σ) kc p
    exact ⟨fun x hx hx2 hs => (h.i x hx hx2 hs).trans (this.i x hx hx2 hs).symm, fun j k1 k2 => (h.f j k1 k2).trans (this.f j k1 k2).symm, h.j.trans this.j.symm, h.k.trans this.k.symm, h.n.trans this.n.symm⟩
  exact kyM_M h1 kc p
/-- the reference's cells are alike -/
abbrev Em (σ τ : am_M) : Prop := (∀ a, 34 < a → a < 57 → ¬ scr a → τ.1 a = σ.1 a) ∧ (∀ j, j ≠ 25 → j ≠ 27 → τ.1 34 j = σ.1 34 j)
theorem EqM.em {σ τ : am_M} (h : EqM σ τ) : Em σ τ := ⟨h.i, h.f⟩
theorem Sm.em {σ τ : am_M} (h : Sm σ τ) : Em σ τ := ⟨fun a ha hb hc => h.i a hc (by omega), h.f⟩
theorem Em.th {σ τ : am_M} (h : Em σ τ) (v : Int32) : Em σ (th τ v) := ⟨fun a ha hb hc => (th_ne _ _ (by omega)).trans (h.1 a ha hb hc), fun j hj hk => (th_f _ _ hj).trans (h.2 j hj hk)⟩
abbrev Kp (σ τ : am_M) : Prop := EqC σ τ ∧ τ.1 34 25 = σ.1 34 25
theorem Kp.refl (σ : am_M) : Kp σ σ := ⟨EqC.refl σ, rfl⟩
theorem Kp.trans {σ τ ρ : am_M} (h1 : Kp σ τ) (h2 : Kp τ ρ) : Kp σ ρ := ⟨h1.1.trans h2.1, h2.2.trans h1.2⟩
theorem Kp.w {σ τ : am_M} (h : Kp σ τ) (t s : Nat) (a b e : Int32) (w : Int64) : Kp σ (wrM τ t s a b e w) :=
  ⟨wrM_C h.1 t s a b e w, Eq.trans (by simp +decide only [wrM, s_rd, sJ_I, if_true, if_false, ite_true, ite_false]) h.2⟩
theorem Kp.k {σ τ : am_M} (h : Kp σ τ) (kc p : Nat) : Kp σ (kyM τ kc p) :=
  ⟨kyM_C h.1 kc p, Eq.trans (by unfold kyM; rw [s_ne _ _ (by decide), s_eq]; exact if_neg (by decide)) h.2⟩
variable (d : Nat) {c kc md rc td : Nat} {lev rk : Nat → Nat}
/-- entries go to medium t, which holds s -/
abbrev Wr (md t s : Nat) (σ : am_M) : Prop := (t < md) ∧ (wrt (σ.1 20) (-1) md = nI t) ∧ (σ.1 20 t = nI 0) ∧ (zn (σ.1 21) t = s)
theorem Wr.lt {md t s : Nat} {σ : am_M} (h : Wr md t s σ) : t < md := h.1
theorem Wr.w {md t s : Nat} {σ : am_M} (h : Wr md t s σ) : wrt (σ.1 20) (-1) md = nI t := h.2.1
theorem Wr.st {md t s : Nat} {σ : am_M} (h : Wr md t s σ) : σ.1 20 t = nI 0 := h.2.2.1
theorem Wr.sz {md t s : Nat} {σ : am_M} (h : Wr md t s σ) : zn (σ.1 21) t = s := h.2.2.2
theorem Wr.mk {md t s : Nat} {σ : am_M} (lt : t < md) (w : wrt (σ.1 20) (-1) md = nI t) (st : σ.1 20 t = nI 0) (sz : zn (σ.1 21) t = s) : Wr md t s σ := ⟨lt, w, st, sz⟩
theorem Wr.jw {σ : am_M} {md t s : Nat} (h : Wr md t s σ) (hs : s < 2 ^ 20) (a b e : Int32) (w : Int64) : Wr md t (s + 1) (JW σ t s a b e w) := by
  have e20 : (JW σ t s a b e w).1 20 = σ.1 20 := by simp +decide only [JW, wrM, wrE, s_rd, sJ_I, if_true, if_false, ite_true, ite_false]
  have e21 : (JW σ t s a b e w).1 21 = upd (σ.1 21) t (nI (s + 1)) := by simp +decide only [JW, wrM, wrE, s_rd, sJ_I, if_true, if_false, ite_true, ite_false]
  refine ⟨h.lt, ?_, ?_, ?_⟩
  · rw [e20]; exact h.w
  · rw [e20]; exact h.st
  · unfold zn; rw [e21, show upd (σ.1 21) t (nI (s + 1)) t = nI (s + 1) from if_pos rfl, i_cl (by omega)]
theorem Wr.jk {σ : am_M} {md t s : Nat} (h : Wr md t s σ) (kc p : Nat) : Wr md t s (JK σ kc p) := by
  have e20 : (JK σ kc p).1 20 = σ.1 20 := by unfold JK kyM; rw [s_ne _ _ (by decide), s_ne _ _ (by decide), rnw_o _ _ _ (by decide)]
  have e21 : (JK σ kc p).1 21 = σ.1 21 := by unfold JK kyM; rw [s_ne _ _ (by decide), s_ne _ _ (by decide), rnw_o _ _ _ (by decide)]
  refine ⟨h.lt, ?_, ?_, ?_⟩
  · rw [e20]; exact h.w
  · rw [e20]; exact h.st
  · unfold zn; rw [e21]; exact h.sz
/-- the class writes an entry -/
theorem x150 {J X : am_M} (h : Inv0 c kc md rc td lev rk J) {t s : Nat} (hw : Wr md t s J) (hs : s < 150) (hC : EqC J X) (a b e : Int32) : am_ex (d + 4) 150 [.ref 0, .int a, .int b, .int e] X = rV (wrE X t s a b e) := by
  have hmb := h.core.mdb
  have hz := (h.core.med t hw.lt).2.1
  rw [hw.sz] at hz
  rw [e150, q150_0, x38 _ X (by rw [hC.i 4 (by decide) (by decide)]; exact h.hm) hmb.2, bI_r, hC.i 20 (by decide) (by decide), hw.w, x40 _ X (by rw [hC.i 4 (by decide) (by decide)]; exact h.hm) hmb.2 hw.lt (by rw [hC.i 20 (by decide) (by decide)]; exact hw.st) (by rw [hC.i 21 (by decide) (by decide)]; exact hz) hs, bV_r]
/-- the class wraps a place's key -/
theorem x151 {J X : am_M} (h : Inv0 c kc md rc td lev rk J) {t s : Nat} (hw : Wr md t s J) (hs : s < 150) (hC : EqC J X) {p : Nat} (h0 : 0 < p) (hp : p < 85) : am_ex (d + 5) 151 [.ref 0, .int (nI p)] X = rV (wrE X t s (nI 0) (J.1 16 p) (J.1 16 (par p))) := by
  have hpl := par_lt h0
  rw [e151, q151_0, x77, bI_r, rd_n hp (by omega), x166 _ _ h0 hp, bI_r, x77, bI_r, rd_n (by omega) (by omega), x150 d h hw hs hC, bV_r, hC.i 16 (by decide) (by decide)]
/-- the reference writes an entry -/
theorem y188j {J Y : am_M} (h : Inv0 c kc md rc td lev rk J) {t s : Nat} (hw : Wr md t s J) (hs : s < 150) (hM : EqM J Y) (a b e : Int32) (w : Int64) : am_ex (d + 1) 188 [.ref 34, .int (nI t), .int a, .int b, .int e, .long w] Y = rV (wrM Y t s a b e w) := by
  have hmb := h.core.mdb
  have hz := (h.core.med t hw.lt).2.1
  have hlt := hw.lt
  rw [hw.sz] at hz
  rw [y188 _ Y (by omega) (by rw [hM.i 45 (by decide) (by decide) (by decide), (h.mdm t hw.lt).2]; exact hz) hs]
theorem y186j {J Y : am_M} (h : Inv0 c kc md rc td lev rk J) {t s : Nat} (hw : Wr md t s J) (hM : EqM J Y) : am_ex (d + 1) 186 [.ref 34, .int (-1)] Y = rI (nI t) Y := by
  rw [x186 _ Y (by rw [hM.f 22 (by decide) (by decide)]; exact h.hm') h.core.mdb.2, hM.i 44 (by decide) (by decide) (by decide), wrt_c (fun m hm => (h.mdm m hm).1), hw.w]
theorem y189j {J Y : am_M} (h : Inv0 c kc md rc td lev rk J) {t s : Nat} (hw : Wr md t s J) (hs : s < 150) (hM : EqM J Y) (a b : Int32) : am_ex (d + 3) 189 [.ref 34, .int a, .int b] Y = rV (wrM Y t s (nI 0) a b (wrp (J.1 1 1) a b).toInt64) := by
  rw [e189, q189_0, y186j _ h hw hM, bI_r, x178, bI_r, x178, bI_r, xmixM, bI_r, y188j _ h hw hs hM, bV_r, hM.f 20 (by decide) (by decide), h.sd]
  rfl
end STP
