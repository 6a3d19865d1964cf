/-! forgetting: the custodians' keys -/
section RFR
variable (d : Nat) {c kc md rc td : Nat} {lev rk : Nat → Nat} {σ : am_M}
/-- no leaf gets a new key -/
theorem rky_lf (h : Inv c kc md rc td lev rk σ) {p : Nat} (h1 : 21 ≤ p) (h2 : p < 85) : ¬ rky kc rc md σ (σ.1 19) p := by
  rintro ⟨ho, hs⟩
  have hkl := h.kl
  have hrb := h.core.rcb
  have hl := (sty_leaf _ _ h1).mp hs
  obtain ⟨k, k1, k2, e, n, hn⟩ := ho.resolve_left (by omega)
  have hlev : lev k = 3 := by
    rcases h.core.node p h2 with a | ⟨k', a1, a2, a3, a4, a5⟩
    · rw [a] at e; have := nI_inj (by omega) (by omega) e; omega
    · rw [a3] at e
      have := nI_inj (by omega) (by omega) e
      rw [← this, a5, lvl_lf h1]
  cases n with
  | zero =>
    obtain ⟨r, hw, m, i, a1, a2, a3, a4, a5, a6, a7, a8, a9⟩ := hn
    rcases h.core.ent m a2 i a3 with ⟨b1, _⟩ | ⟨b1, r', y, b2, b3, b4, b5, b6, b7, b8⟩
    · rw [b1] at a4; exact n10 a4.symm
    · rw [b5] at a5; rw [b6] at a6
      have er := nI_inj (by omega) (by omega) a5
      have ey := nI_inj (by omega) (by omega) a6
      rw [er, ey] at b8
      obtain ⟨r2, c1, c2, c3⟩ := (h.core.rec (p - 21) (by omega)).resolve_left hl.1
      have := h.lf.rkn (p - 21) (by omega) r2 k c1 k2 c2 (by rw [show 21 + (p - 21) = p by omega]; exact e)
      rw [b8] at this
      rw [← this] at c2
      exact (Wu_k h.base (by omega) a7 c2).mp hw hl.2
  | succ n =>
    obtain ⟨j, hj, _⟩ := hn
    have h3 := EdU_lev h.base (Nat.le_refl _) hj
    have h4 := h.core.lvb j
    omega
/-- how many steps a custodian's key needs, later in the call -/
theorem z67 (h : Inv0 c kc md rc td lev rk σ) {W : Nat → Prop} {f : Nat → Int32} (hF : Fnd kc rc lev σ md W f) {X : am_M} {kc2 : Nat} (hk : X.1 1 2 = nI kc2) (h1 : kc ≤ kc2) (h2 : kc2 ≤ 2048) (hf : X.1 25 = f) {x : Int32} (hx : x = -1 ∨ ∃ k, 1 ≤ k ∧ k ≤ kc ∧ x = nI k) : ∃ v, am_ex (d + 2) 67 [.ref 5, .int x] X = rI v X ∧ (v ≤ nI 0 ↔ ¬ OpV kc rc md σ W x) := by
  have hkl := h.kl
  rcases hx with rfl | ⟨k, k1, k2, rfl⟩
  · refine ⟨nI 0, ?_, fun _ => OpV_m hkl, fun _ => le00⟩
    rw [e67, q67_0, x24 d X hk h2, bI_r, bz_f (fun z => absurd z.1 (by decide)), if_pos rfl]
  · refine ⟨f k, ?_, ?_⟩
    · rw [e67, q67_0, x24 d X hk h2, bI_r, bz_t (show mdR (nI k) kc2 from ⟨by rw [i_n (by omega)]; omega, by rw [i_n (by omega)]; omega⟩), if_neg n10, if_pos (am_k (by omega) (by omega)), i_cl (by omega), hf]
    · rw [OpV_k hkl k1 k2]
      have hl := h.core.lvb k
      rcases hF k k1 k2 with ⟨a, b⟩ | ⟨a, b⟩
      · rw [a]; exact ⟨fun _ => b, fun _ => le00⟩
      · rw [a]
        refine ⟨fun z => ?_, fun z => absurd b z⟩
        rw [i_le, i_n (by omega), i_n (by omega)] at z
        omega
/-- what becomes of a custodian's key: the class -/
def SC (kc rc md : Nat) (σ J : am_M) (q : Nat) (v w : Int32) : Prop :=
  (¬ OpV kc rc md σ (Wu (σ.1 17) (σ.1 19)) (σ.1 11 q) ∧ v = σ.1 11 q ∧ w = σ.1 12 q) ∨ (OpV kc rc md σ (Wu (σ.1 17) (σ.1 19)) (σ.1 11 q) ∧ ∃ p, p < 85 ∧ σ.1 12 q = nI p ∧ ((rky kc rc md σ (σ.1 19) p ∧ v = J.1 16 p ∧ w = nI p) ∨ (¬ rky kc rc md σ (σ.1 19) p ∧ v = -1)))
def SM (kc rc md : Nat) (σ J : am_M) (q : Nat) (v : Int32) : Prop :=
  (¬ OpV kc rc md σ (Wu (σ.1 17) (σ.1 19)) (σ.1 11 q) ∧ v = σ.1 39 q) ∨ (OpV kc rc md σ (Wu (σ.1 17) (σ.1 19)) (σ.1 11 q) ∧ ∃ p, p < 85 ∧ σ.1 40 q = nI p ∧ ((rky kc rc md σ (σ.1 19) p ∧ v = J.1 16 p) ∨ (¬ rky kc rc md σ (σ.1 19) p ∧ v = nI 0)))
theorem kep_1 (h : Inv0 c kc md rc td lev rk σ) {q : Nat} (hq : q < 4) : σ.1 11 q = -1 ∨ ∃ k, 1 ≤ k ∧ k ≤ kc ∧ σ.1 11 q = nI k := by
  rcases h.kep q hq with a | ⟨k, p, a1, a2, a3, a4, a5, a6⟩
  · exact Or.inl a.2
  · exact Or.inr ⟨k, a1, a2, a5⟩
theorem kep_2 (h : Inv0 c kc md rc td lev rk σ) {q : Nat} (hq : q < 4) {W : Nat → Prop} (ho : OpV kc rc md σ W (σ.1 11 q)) : ∃ p, p < 85 ∧ σ.1 12 q = nI p ∧ σ.1 40 q = nI p := by
  rcases h.kep q hq with a | ⟨k, p, a1, a2, a3, a4, a5, a6⟩
  · rw [a.2] at ho; exact absurd ho (OpV_m h.kl)
  · exact ⟨p, a3, a6⟩
theorem x157 (h : Inv c kc md rc td lev rk σ) {X0 X1 : am_M} (hP : Pl kc rc md lev σ (σ.1 19) X0) (hm : mkd (σ.1 19)) (hK : XK X0 X1) {kc2 : Nat} (hk : X1.1 1 2 = nI kc2) (h1 : kc ≤ kc2) (h2 : kc2 ≤ 2048) (e11 : X1.1 11 = σ.1 11) (e12 : X1.1 12 = σ.1 12) : ∃ X, am_ex (d + 3) 157 [.ref 0] X1 = rV X ∧ (∀ a, a ≠ 11 → a ≠ 12 → X.1 a = X1.1 a) ∧ X.2 = X1.2 ∧ ∀ q, q < 4 → SC kc rc md σ X1 q (X.1 11 q) (X.1 12 q) := by
  have e0 : X0.1 7 4 = nI 0 := by
    rcases hP.idle with ⟨_, b⟩ | ⟨a, _⟩
    · exact absurd hm b
    · exact a
  obtain ⟨⟨X, u2, u3⟩, e1, a1, a2, a3, a4, a5, a6⟩ := lp_inv (fun i (t : am_M × Value × Value) => (!(t.2.1.category == 2)) = true ∧ (!(t.2.2.category == 2)) = true ∧ (∀ a, a ≠ 11 → a ≠ 12 → t.1.1 a = X1.1 a) ∧ t.1.2 = X1.2 ∧ (∀ q, q < i → SC kc rc md σ X1 q (t.1.1 11 q) (t.1.1 12 q)) ∧ (∀ q, i ≤ q → t.1.1 11 q = σ.1 11 q ∧ t.1.1 12 q = σ.1 12 q)) 0 4 (by omega) (fun i t => am_go am_X0 (am_ex (d + 2)) M157 2 [.ref 0, .int (nI i), t.2.1, t.2.2] [] t.1) (by
    rintro q ⟨X, u2, u3⟩ _ hq ⟨a1, a2, a3, a4, a5, a6⟩
    have a1 : (!(u2.category == 2)) = true := a1
    have a2 : (!(u3.category == 2)) = true := a2
    have a3 : ∀ a, a ≠ 11 → a ≠ 12 → X.1 a = X1.1 a := a3
    have a4 : X.2 = X1.2 := a4
    have a5 : ∀ q', q' < q → SC kc rc md σ X1 q' (X.1 11 q') (X.1 12 q') := a5
    have a6 : ∀ q', q ≤ q' → X.1 11 q' = σ.1 11 q' ∧ X.1 12 q' = σ.1 12 q' := a6
    have x1 : X.1 1 2 = nI kc2 := by rw [a3 1 (by decide) (by decide)]; exact hk
    have x25 : X.1 25 = X0.1 25 := by rw [a3 25 (by decide) (by decide), hK.2.1]
    obtain ⟨v, ev, hv⟩ := z67 d h.base hP.fnd x1 h1 h2 x25 (kep_1 h.base hq)
    show ∃ y : am_M × Value × Value, am_go am_X0 (am_ex (d + 2)) M157 2 [.ref 0, .int (nI q), u2, u3] [] X = am_go am_X0 (am_ex (d + 2)) M157 2 [.ref 0, .int (nI (q + 1)), y.2.1, y.2.2] [] y.1 ∧ _
    by_cases e : v ≤ nI 0
    · refine ⟨(X, u2, u3), ?_, a1, a2, a3, a4, fun q' b => ?_, fun q' b => a6 q' (by omega)⟩
      · rw [q157_2 _ _ _ a1 a2, if_neg (by rw [i_le, i_n (by omega), i_n (by omega)]; omega), if_pos (am_k (by omega) (by omega)), i_cl (by omega), (a6 q (Nat.le_refl _)).1, ev, bI_r, if_pos e, show nI q + nI 1 = nI (q + 1) from nI_1 _]
      · by_cases z : q' = q
        · subst z; exact Or.inl ⟨hv.mp e, (a6 q' (Nat.le_refl _)).1, (a6 q' (Nat.le_refl _)).2⟩
        · exact a5 q' (by omega)
    · have ho : OpV kc rc md σ (Wu (σ.1 17) (σ.1 19)) (σ.1 11 q) := Classical.not_not.mp (fun z => e (hv.mpr z))
      obtain ⟨p, b1, b2, b3⟩ := kep_2 h.base hq ho
      have hst := (hP.st p b1).ne
      have hop := (hP.op p b1).ne
      have x7 : X.1 7 4 = nI 0 := by rw [a3 7 (by decide) (by decide), hK.1]; exact e0
      have x29 : X.1 29 = X0.1 29 := by rw [a3 29 (by decide) (by decide), hK.2.2.1]
      have x30 : X.1 30 = X0.1 30 := by rw [a3 30 (by decide) (by decide), hK.2.2.2]
      have head : am_go am_X0 (am_ex (d + 2)) M157 2 [.ref 0, .int (nI q), u2, u3] [] X = am_bI (am_ex (d + 2) 16 [.ref 7, .int (nI p)] X) (fun r2 t2 => if r2 = nI 0 then (am_go am_X0 (am_ex (d + 2)) M157 60 [.ref 0, .int (nI q), .int (nI p), .int r2] [.int (-1), .int (nI q), .ref 11] t2) else (am_bI (am_ex (d + 2) 77 [.ref 3, .int (nI p)] t2) (fun r3 t3 => am_go am_X0 (am_ex (d + 2)) M157 60 [.ref 0, .int (nI q), .int (nI p), .int r2] [.int r3, .int (nI q), .ref 11] t3))) := by
        rw [q157_2 _ _ _ a1 a2, if_neg (by rw [i_le, i_n (by omega), i_n (by omega)]; omega), if_pos (am_k (by omega) (by omega)), i_cl (by omega), (a6 q (Nat.le_refl _)).1, ev, bI_r, if_neg e, if_pos (am_k (by omega) (by omega)), (a6 q (Nat.le_refl _)).2, b2]
      have fin : ∀ (v w r : Int32), SC kc rc md σ X1 q v w → am_go am_X0 (am_ex (d + 2)) M157 2 [.ref 0, .int (nI q), u2, u3] [] X = am_go am_X0 (am_ex (d + 2)) M157 75 [.ref 0, .int (nI q), .int (nI p), .int r] [.int w, .int (nI q), .ref 12] (am_wI X 11 q v) → ∃ y : am_M × Value × Value, am_go am_X0 (am_ex (d + 2)) M157 2 [.ref 0, .int (nI q), u2, u3] [] X = am_go am_X0 (am_ex (d + 2)) M157 2 [.ref 0, .int (nI (q + 1)), y.2.1, y.2.2] [] y.1 ∧ (!(y.2.1.category == 2)) = true ∧ (!(y.2.2.category == 2)) = true ∧ (∀ a, a ≠ 11 → a ≠ 12 → y.1.1 a = X1.1 a) ∧ y.1.2 = X1.2 ∧ (∀ q', q' < q + 1 → SC kc rc md σ X1 q' (y.1.1 11 q') (y.1.1 12 q')) ∧ (∀ q', q + 1 ≤ q' → y.1.1 11 q' = σ.1 11 q' ∧ y.1.1 12 q' = σ.1 12 q') := by
        intro v w r hS hrun
        have f11 : (am_wI (am_wI X 11 q v) 12 q w).1 11 = upd (X.1 11) q v := by rw [w_o _ _ _ (by decide), am_wI_s, s_eq]
        have f12 : (am_wI (am_wI X 11 q v) 12 q w).1 12 = upd (X.1 12) q w := by rw [am_wI_s, s_eq, w_o _ _ _ (by decide)]
        refine ⟨(am_wI (am_wI X 11 q v) 12 q w, .int (nI p), .int r), ?_, rfl, rfl, fun a c1 c2 => ?_, a4, fun q' hq' => ?_, fun q' hq' => ?_⟩
        · rw [hrun, q157_75, if_pos (am_k (by omega) (by omega)), i_cl (by omega), show nI q + nI 1 = nI (q + 1) from nI_1 _]
        · show (am_wI (am_wI X 11 q v) 12 q w).1 a = X1.1 a
          rw [w_o _ _ _ c2, w_o _ _ _ c1]; exact a3 a c1 c2
        · show SC kc rc md σ X1 q' ((am_wI (am_wI X 11 q v) 12 q w).1 11 q') ((am_wI (am_wI X 11 q v) 12 q w).1 12 q')
          rw [f11, f12]
          by_cases z : q' = q
          · rw [z, upd_e, upd_e]; exact hS
          · rw [upd_n z, upd_n z]; exact a5 q' (by omega)
        · show (am_wI (am_wI X 11 q v) 12 q w).1 11 q' = σ.1 11 q' ∧ (am_wI (am_wI X 11 q v) 12 q w).1 12 q' = σ.1 12 q'
          rw [f11, f12, upd_n (by omega), upd_n (by omega)]; exact a6 q' (by omega)
      by_cases er : rky kc rc md σ (σ.1 19) p
      · refine fin (X1.1 16 p) (nI p) (nI 1) (Or.inr ⟨ho, p, b1, b2, Or.inl ⟨er, rfl, rfl⟩⟩) ?_
        rw [head, x16 d X b1, bI_r, bz_t ⟨x7, by rw [x30]; exact hop.mpr er.1, by rw [x29]; exact hst.mpr er.2⟩, if_neg n10, x77, bI_r, rd_n b1 (by omega), a3 16 (by decide) (by decide), q157_60, if_pos (am_k (by omega) (by omega)), if_neg n10, i_cl (by omega)]
      · refine fin (-1) (-1) (nI 0) (Or.inr ⟨ho, p, b1, b2, Or.inr ⟨er, rfl⟩⟩) ?_
        rw [head, x16 d X b1, bI_r, bz_f (fun z => er ⟨hop.mp (by rw [← x30]; exact z.2.1), hst.mp (by rw [← x29]; exact z.2.2)⟩), if_pos rfl, q157_60, if_pos (am_k (by omega) (by omega)), if_pos rfl, i_cl (by omega)]) (X1, .null, .null) ⟨rfl, rfl, fun _ _ _ => rfl, rfl, fun q hq => by omega, fun q _ => by rw [e11, e12]; exact ⟨rfl, rfl⟩⟩
  have e1 : am_go am_X0 (am_ex (d + 2)) M157 2 [.ref 0, .int (nI 0), .null, .null] [] X1 = am_go am_X0 (am_ex (d + 2)) M157 2 [.ref 0, .int (nI 4), u2, u3] [] X := e1
  have a1 : (!(u2.category == 2)) = true := a1
  have a2 : (!(u3.category == 2)) = true := a2
  refine ⟨X, ?_, a3, a4, a5⟩
  rw [e157, q157_0, e1, q157_2 _ _ _ a1 a2, if_pos (by decide)]
theorem y230k (h : Inv c kc md rc td lev rk σ) {Y0 Y1 J : am_M} (ht : ∀ p, p < 21 → Flg (Y0.1 42 p) (rky kc rc md σ (σ.1 19) p)) (ha : ∀ q, q < 4 → Flg (Y0.1 43 q) (OpV kc rc md σ (Wu (σ.1 17) (σ.1 19)) (σ.1 11 q))) (hK : YK Y0 Y1) (e35 : ∀ p, p < 85 → Y1.1 35 p = J.1 16 p) (e39 : Y1.1 39 = σ.1 39) (e40 : Y1.1 40 = σ.1 40) (v1 v2 v3 : Int32) : ∃ Y, am_go am_X0 (am_ex d) M230 256 [.ref 34, .int v1, .int v2, .int v3, .int (nI 0), .null] [] Y1 = rI v2 Y ∧ (∀ a, a ≠ 39 → Y.1 a = Y1.1 a) ∧ Y.2 = Y1.2 ∧ ∀ q, q < 4 → SM kc rc md σ J q (Y.1 39 q) := by
  obtain ⟨⟨Y, u5⟩, e1, a1, a2, a3, a4, a5⟩ := lp_inv (fun i (t : am_M × Value) => (!(t.2.category == 2)) = true ∧ (∀ a, a ≠ 39 → t.1.1 a = Y1.1 a) ∧ t.1.2 = Y1.2 ∧ (∀ q, q < i → SM kc rc md σ J q (t.1.1 39 q)) ∧ (∀ q, i ≤ q → t.1.1 39 q = σ.1 39 q)) 0 4 (by omega) (fun i t => am_go am_X0 (am_ex d) M230 256 [.ref 34, .int v1, .int v2, .int v3, .int (nI i), t.2] [] t.1) (by
    rintro q ⟨Y, u5⟩ _ hq ⟨a1, a2, a3, a4, a5⟩
    have a1 : (!(u5.category == 2)) = true := a1
    have a2 : ∀ a, a ≠ 39 → Y.1 a = Y1.1 a := a2
    have a3 : Y.2 = Y1.2 := a3
    have a4 : ∀ q', q' < q → SM kc rc md σ J q' (Y.1 39 q') := a4
    have a5 : ∀ q', q ≤ q' → Y.1 39 q' = σ.1 39 q' := a5
    have y40 : Y.1 40 q = σ.1 40 q := by rw [a2 40 (by decide), e40]
    have y43 : Y.1 43 q = Y0.1 43 q := by rw [a2 43 (by decide), hK.2]
    have y42 : Y.1 42 = Y0.1 42 := by rw [a2 42 (by decide), hK.1]
    have haf := (ha q hq).ne
    show ∃ y : am_M × Value, am_go am_X0 (am_ex d) M230 256 [.ref 34, .int v1, .int v2, .int v3, .int (nI q), u5] [] Y = am_go am_X0 (am_ex d) M230 256 [.ref 34, .int v1, .int v2, .int v3, .int (nI (q + 1)), y.2] [] y.1 ∧ _
    by_cases ho : OpV kc rc md σ (Wu (σ.1 17) (σ.1 19)) (σ.1 11 q)
    · obtain ⟨p, b1, b2, b3⟩ := kep_2 h.base hq ho
      have fin : ∀ (v : Int32), SM kc rc md σ J q v → am_go am_X0 (am_ex d) M230 256 [.ref 34, .int v1, .int v2, .int v3, .int (nI q), u5] [] Y = am_go am_X0 (am_ex d) M230 315 [.ref 34, .int v1, .int v2, .int v3, .int (nI q), .int (nI p)] [.int v, .int (nI q), .ref 39] Y → ∃ y : am_M × Value, am_go am_X0 (am_ex d) M230 256 [.ref 34, .int v1, .int v2, .int v3, .int (nI q), u5] [] Y = am_go am_X0 (am_ex d) M230 256 [.ref 34, .int v1, .int v2, .int v3, .int (nI (q + 1)), y.2] [] y.1 ∧ (!(y.2.category == 2)) = true ∧ (∀ a, a ≠ 39 → y.1.1 a = Y1.1 a) ∧ y.1.2 = Y1.2 ∧ (∀ q', q' < q + 1 → SM kc rc md σ J q' (y.1.1 39 q')) ∧ (∀ q', q + 1 ≤ q' → y.1.1 39 q' = σ.1 39 q') := by
        intro v hS hrun
        have f39 : (am_wI Y 39 q v).1 39 = upd (Y.1 39) q v := by rw [am_wI_s, s_eq]
        refine ⟨(am_wI Y 39 q v, .int (nI p)), ?_, rfl, fun a c1 => ?_, a3, fun q' hq' => ?_, fun q' hq' => ?_⟩
        · rw [hrun, q230_315, if_pos (am_k (by omega) (by omega)), i_cl (by omega), show nI q + nI 1 = nI (q + 1) from nI_1 _]
        · show (am_wI Y 39 q v).1 a = Y1.1 a
          rw [w_o _ _ _ c1]; exact a2 a c1
        · show SM kc rc md σ J q' ((am_wI Y 39 q v).1 39 q')
          rw [f39]
          by_cases z : q' = q
          · rw [z, upd_e]; exact hS
          · rw [upd_n z]; exact a4 q' (by omega)
        · show (am_wI Y 39 q v).1 39 q' = σ.1 39 q'
          rw [f39, upd_n (by omega)]; exact a5 q' (by omega)
      have head : am_go am_X0 (am_ex d) M230 256 [.ref 34, .int v1, .int v2, .int v3, .int (nI q), u5] [] Y = (if (nI 21) ≤ nI p then (am_go am_X0 (am_ex d) M230 314 [.ref 34, .int v1, .int v2, .int v3, .int (nI q), .int (nI p)] [.int (nI q), .ref 39] Y) else (if am_in (nI p) 85 = true then (if Y.1 42 (nI p : Int32).toNatClampNeg = nI 0 then (am_go am_X0 (am_ex d) M230 314 [.ref 34, .int v1, .int v2, .int v3, .int (nI q), .int (nI p)] [.int (nI q), .ref 39] Y) else (if am_in (nI p) 85 = true then (am_go am_X0 (am_ex d) M230 315 [.ref 34, .int v1, .int v2, .int v3, .int (nI q), .int (nI p)] [.int (Y.1 35 (nI p : Int32).toNatClampNeg), .int (nI q), .ref 39] Y) else none)) else none)) := by
        rw [q230_256 _ _ _ _ _ _ a1, if_neg (by rw [i_le, i_n (by omega), i_n (by omega)]; omega), if_pos (am_k (by omega) (by omega)), if_pos (am_k (by omega) (by omega)), i_cl (by omega), y43, if_neg (haf.mpr ho), y40, b3]
      by_cases hp : p < 21
      · have hry := (ht p hp).ne
        by_cases er : rky kc rc md σ (σ.1 19) p
        · refine fin (J.1 16 p) (Or.inr ⟨ho, p, b1, b3, Or.inl ⟨er, rfl⟩⟩) ?_
          rw [head, if_neg (by rw [i_le, i_n (by omega), i_n (by omega)]; omega), if_pos (am_k (by omega) (by omega)), i_cl (by omega), y42, if_neg (hry.mpr er), if_pos (am_k (by omega) (by omega)), a2 35 (by decide), e35 p b1]
        · refine fin (nI 0) (Or.inr ⟨ho, p, b1, b3, Or.inr ⟨er, rfl⟩⟩) ?_
          rw [head, if_neg (by rw [i_le, i_n (by omega), i_n (by omega)]; omega), if_pos (am_k (by omega) (by omega)), i_cl (by omega), y42, if_pos (Classical.not_not.mp (fun z => er (hry.mp z))), q230_314]
      · refine fin (nI 0) (Or.inr ⟨ho, p, b1, b3, Or.inr ⟨rky_lf h (by omega) b1, rfl⟩⟩) ?_
        rw [head, if_pos (by rw [i_le, i_n (by omega), i_n (by omega)]; omega), q230_314]
    · refine ⟨(Y, .int (σ.1 40 q)), ?_, rfl, a2, a3, fun q' b => ?_, fun q' b => a5 q' (by omega)⟩
      · rw [q230_256 _ _ _ _ _ _ a1, if_neg (by rw [i_le, i_n (by omega), i_n (by omega)]; omega), if_pos (am_k (by omega) (by omega)), if_pos (am_k (by omega) (by omega)), i_cl (by omega), y43, if_pos (Classical.not_not.mp (fun z => ho (haf.mp z))), y40, show nI q + nI 1 = nI (q + 1) from nI_1 _]
      · by_cases z : q' = q
        · subst z; exact Or.inl ⟨ho, a5 q' (Nat.le_refl _)⟩
        · exact a4 q' (by omega)) (Y1, .null) ⟨rfl, fun _ _ => rfl, rfl, fun q hq => by omega, fun q _ => by rw [e39]⟩
  have e1 : am_go am_X0 (am_ex d) M230 256 [.ref 34, .int v1, .int v2, .int v3, .int (nI 0), .null] [] Y1 = am_go am_X0 (am_ex d) M230 256 [.ref 34, .int v1, .int v2, .int v3, .int (nI 4), u5] [] Y := e1
  have a1 : (!(u5.category == 2)) = true := a1
  refine ⟨Y, ?_, a2, a3, a4⟩
  rw [e1, q230_256 _ _ _ _ _ _ a1, if_pos (by decide)]
end RFR
