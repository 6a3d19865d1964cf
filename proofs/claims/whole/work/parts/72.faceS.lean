/-! openers, openWith, openingKeys -/
section FCS
variable (d : Nat) {c kc md rc td : Nat} {lev rk : Nat → Nat} {σ : am_M} {W : Nat → Prop}
/-- a refused call after which the reference's scratch cells are others -/
theorem Fc.xs {D k m : Nat} {as bs : List Value} {cod : String → Nat} {σ : am_M} (h : Inv c kc md rc td lev rk σ) (hc : c < 600) {E : String} {X : am_M} (hX : Sm σ X) (hn : X.2.2 = σ.2.2) (h1 : am_ex D k as σ = rX E (am_tick X)) (h2 : ∀ Z, Sm σ Z → Inv c kc md rc td lev rk Z → ∃ b Y, am_ex D m bs Z = rI b Y ∧ Sm Z Y ∧ Y.2.2 = Z.2.2 ∧ Y.1 34 25 = nI (cod E)) (hE : cod E ≠ 0 := by decide +kernel) : Fc D k m as bs cod (c + 1) σ := by
  refine Or.inr ⟨E, am_tick X, hE, h1, by show X.2.2 + 1 = _; rw [hn], fun Z hZ => ?_⟩
  have hs : Sm σ Z := (hX.tick).trans hZ.1
  obtain ⟨b, Y, hb, hY, hn2, ht⟩ := h2 Z hs (h.sm hs)
  exact ⟨b, Y, hb, hn2, ht, kc, md, rc, td, lev, rk, ((h.sm hs).sm hY).up (by omega) (by omega)⟩
theorem FcJ.xs {D k m : Nat} {as bs : List Value} {cod : String → Nat} {σ : am_M} (h : Inv c kc md rc td lev rk σ) (hc : c < 600) {E : String} {X : am_M} (hX : Sm σ X) (hn : X.2.2 = σ.2.2) (h1 : am_ex D k as σ = rX E (am_tick X)) (h2 : ∀ Z, Sm σ Z → Inv c kc md rc td lev rk Z → ∃ b Y, am_ex D m bs Z = rJ b Y ∧ Sm Z Y ∧ Y.2.2 = Z.2.2 ∧ Y.1 34 25 = nI (cod E)) (hE : cod E ≠ 0 := by decide +kernel) : FcJ D k m as bs cod (c + 1) σ := by
  refine Or.inr ⟨E, am_tick X, hE, h1, by show X.2.2 + 1 = _; rw [hn], fun Z hZ => ?_⟩
  have hs : Sm σ Z := (hX.tick).trans hZ.1
  obtain ⟨b, Y, hb, hY, hn2, ht⟩ := h2 Z hs (h.sm hs)
  exact ⟨b, Y, hb, hn2, ht, kc, md, rc, td, lev, rk, ((h.sm hs).sm hY).up (by omega) (by omega)⟩
/-- the key x opens a record of W -/
def OpV (kc rc md : Nat) (σ : am_M) (W : Nat → Prop) (x : Int32) : Prop := ∃ k, 1 ≤ k ∧ k ≤ kc ∧ x = nI k ∧ Op kc rc σ 0 md W k
theorem OpV_k (hk : kc ≤ 1801) {k : Nat} (h1 : 1 ≤ k) (h2 : k ≤ kc) : OpV kc rc md σ W (nI k) ↔ Op kc rc σ 0 md W k := by
  constructor
  · rintro ⟨j, a, b, e, o⟩
    have := nI_inj (by omega) (by omega) e
    rw [this]; exact o
  · exact fun o => ⟨k, h1, h2, rfl, o⟩
theorem OpV_m (hk : kc ≤ 1801) : ¬ OpV kc rc md σ W (-1) := fun ⟨j, a, b, e, o⟩ => nI_nm (by omega) e.symm
theorem OpV_0 (hk : kc ≤ 1801) : ¬ OpV kc rc md σ W (nI 0) := fun ⟨j, a, b, e, o⟩ => by have := nI_inj (by omega) (by omega) e; omega
theorem OpV_sm {τ : am_M} (h : SmE σ τ) (x : Int32) : OpV kc rc md τ W x ↔ OpV kc rc md σ W x := by
  unfold OpV
  simp only [Op_sm h]
theorem md_of {x : Int32} {kc : Nat} (h : mdR x kc) : ∃ k, 1 ≤ k ∧ k ≤ kc ∧ x = nI k := by
  refine ⟨x.toInt.toNat, by omega, by omega, ?_⟩
  have := x.toInt_lt
  rw [i_eq, i_n (by omega)]; omega
theorem w67p (h : Inv0 c kc md rc td lev rk σ) {f : Nat → Int32} (g : Nat → Int32) (hF : Fnd kc rc lev σ md W f) (x : Int32) : ∃ v, am_ex (d + 2) 67 [.ref 5, .int x] (S2 σ f g) = rI v (S2 σ f g) ∧ (v ≤ nI 0 ↔ ¬ OpV kc rc md σ W x) := by
  have hkl := h.kl
  by_cases hx : mdR x kc
  · obtain ⟨k, h1, h2, rfl⟩ := md_of hx
    refine ⟨f k, w67 d f g h h1 h2, ?_⟩
    rw [OpV_k hkl h1 h2]
    rcases hF k h1 h2 with ⟨a, b⟩ | ⟨a, b⟩
    · rw [a]; exact ⟨fun _ => b, fun _ => le00⟩
    · have hl := h.core.lvb k
      rw [a, i_le, i_n (by omega), i_n (by omega)]
      exact ⟨fun z => by omega, fun z => absurd b z⟩
  · refine ⟨nI 0, w67o d f g h hx, ?_⟩
    refine ⟨fun _ => ?_, fun _ => le00⟩
    rintro ⟨k, a, b, e, _⟩
    exact hx (by rw [e]; exact md_k a b hkl)
/-- the reference has a key in its set -/
theorem y195p (hk : kc ≤ 1801) {f : Nat → Int32} {n : Nat} (hS : ST kc f n) (hO : ∀ j, 1 ≤ j → j ≤ kc → (mS f n j ↔ Op kc rc σ 0 md W j)) (τ : am_M) {k : Nat} (h1 : 1 ≤ k) (h2 : k ≤ kc) : ∃ v, am_ex (d + 1) 195 [.ref 34, .int (nI k)] (R2 τ f n) = rI v (R2 τ f n) ∧ (v = nI 0 ↔ ¬ OpV kc rc md σ W (nI k)) := by
  have hle := hS.le
  refine ⟨_, y195 d (by omega) (nI k), ?_⟩
  rw [OpV_k hk h1 h2, ← hO k h1 h2]
  by_cases e : mS f n k
  · rw [bz_t e]; exact ⟨fun z => absurd z n10, fun z => absurd e z⟩
  · rw [bz_f e]; exact ⟨fun _ => e, fun _ => rfl⟩
noncomputable def bC (p : Prop) : Int32 := @ite _ p (Classical.propDecidable p) (nI 1) (nI 0)
theorem bC_t {p : Prop} (h : p) : bC p = nI 1 := @if_pos p (Classical.propDecidable p) h _ _ _
theorem bC_f {p : Prop} (h : ¬ p) : bC p = nI 0 := @if_neg p (Classical.propDecidable p) h _ _ _
noncomputable def opS (P : Nat → Prop) (i : Nat) (x : Int32) : Int32 := @ite _ (P i) (Classical.propDecidable (P i)) (x ||| (nI 2 <<< (nI i &&& 31))) x
theorem opS_t {P : Nat → Prop} {i : Nat} (h : P i) (x : Int32) : opS P i x = x ||| (nI 2 <<< (nI i &&& 31)) := @if_pos (P i) (Classical.propDecidable _) h _ _ _
theorem opS_f {P : Nat → Prop} {i : Nat} (h : ¬ P i) (x : Int32) : opS P i x = x := @if_neg (P i) (Classical.propDecidable _) h _ _ _
noncomputable def opA (P0 : Prop) (P : Nat → Prop) : Int32 := fld (opS P) 0 4 (bC P0)
theorem opA_c {P0 Q0 : Prop} {P Q : Nat → Prop} (h0 : P0 ↔ Q0) (h : ∀ i, P i ↔ Q i) : opA P0 P = opA Q0 Q := by
  have e1 : P = Q := by funext i; exact propext (h i)
  rw [propext h0, e1]
theorem c103 (h : Inv0 c kc md rc td lev rk σ) {r : Nat} (hr : r < rc) : ∃ f g, am_ex (d + 6) 103 [.ref 0, .int (nI r)] σ = rI (opA (OpV kc rc md σ (fun s => s = r) (σ.1 16 0)) (fun i => OpV kc rc md σ (fun s => s = r) (σ.1 11 i))) (S2 σ f g) := by
  have hrb := h.core.rcb
  have hX := x68 d (σ.1 26) h hr (σ.1 25)
  rw [S2_self] at hX
  obtain ⟨f, g, e1, hF⟩ := hX
  refine ⟨f, g, ?_⟩
  obtain ⟨v, e2, hv⟩ := w67p (d + 3) h g hF (σ.1 16 0)
  have lp : ∀ x, am_go am_X0 (am_ex (d + 5)) M103 45 [.ref 0, .int (nI r), .int x, .int (nI 0)] [] (S2 σ f g) = rI (fld (opS (fun i => OpV kc rc md σ (fun s => s = r) (σ.1 11 i))) 0 4 x) (S2 σ f g) := by
    intro x
    refine (lp_fld (opS (fun i => OpV kc rc md σ (fun s => s = r) (σ.1 11 i))) (fun _ _ => True) 0 4 (by omega) (fun i x => am_go am_X0 (am_ex (d + 5)) M103 45 [.ref 0, .int (nI r), .int x, .int (nI i)] [] (S2 σ f g)) (fun x => rI x (S2 σ f g)) ?_ ?_ x trivial).1
    · intro x _
      show am_go am_X0 (am_ex (d + 5)) M103 45 [.ref 0, .int (nI r), .int x, .int (nI 4)] [] (S2 σ f g) = _
      rw [q103_45, if_pos (by decide)]
    · intro i x _ hi _
      refine ⟨?_, trivial⟩
      show am_go am_X0 (am_ex (d + 5)) M103 45 [.ref 0, .int (nI r), .int x, .int (nI i)] [] (S2 σ f g) = am_go am_X0 (am_ex (d + 5)) M103 45 [.ref 0, .int (nI r), .int (opS (fun i => OpV kc rc md σ (fun s => s = r) (σ.1 11 i)) i x), .int (nI (i + 1))] [] (S2 σ f g)
      obtain ⟨w, e3, hw⟩ := w67p (d + 3) h g hF (σ.1 11 i)
      rw [q103_45, if_neg (by rw [i_le, i_n (by omega), i_n (by omega)]; omega), if_pos (am_k (by omega) (by omega)), i_cl (by omega), S2_o _ _ _ (by decide) (by decide), e3, bI_r, show nI i + nI 1 = nI (i + 1) from nI_1 _]
      by_cases e : w ≤ nI 0
      · rw [if_pos e, opS_f (hw.mp e)]
      · rw [if_neg e, opS_t (Classical.not_not.mp (fun z => e (hw.mpr z)))]
  rw [e103, q103_0, x58, bI_r, h.hr, x144 _ _ _ (by omega), if_pos (inR_n hr (by omega)), bV_r, e1, bV_r, x77, bI_r, rd_n (by omega) (by omega), S2_o _ _ _ (by decide) (by decide), e2, bI_r]
  by_cases e : v ≤ nI 0
  · rw [if_pos e, lp]
    unfold opA
    rw [bC_f (hv.mp e)]
  · rw [if_neg e, lp]
    unfold opA
    rw [bC_t (Classical.not_not.mp (fun z => e (hv.mpr z)))]
theorem y207 (h : Inv0 c kc md rc td lev rk σ) {r : Nat} (hr : r < rc) : ∃ f n, am_ex (d + 5) 207 [.ref 34, .int (nI r)] σ = rI (opA (OpV kc rc md σ (fun s => s = r) (σ.1 16 0)) (fun i => OpV kc rc md σ (fun s => s = r) (σ.1 11 i))) (R2 (th σ (nI 0)) f n) := by
  have hrb := h.core.rcb
  have hkl := h.kl
  have hT : Sm σ (th σ (nI 0)) := (Sm.refl σ).th _
  obtain ⟨f, n, e1, hS, hO⟩ := y199 d (h.sm hT) hr
  have hO2 : ∀ j, 1 ≤ j → j ≤ kc → (mS f n j ↔ Op kc rc σ 0 md (fun s => s = r) j) := fun j a b => (hO j a b).trans (Op_sm hT.e j)
  refine ⟨f, n, ?_⟩
  obtain ⟨k0, a1, a2, a3, _⟩ := (h.core.node 0 (by omega)).resolve_left h.core.root
  obtain ⟨v, e2, hv⟩ := y195p (d + 3) hkl hS hO2 (th σ (nI 0)) a1 a2
  have lp : ∀ x, am_go am_X0 (am_ex (d + 4)) M207 52 [.ref 34, .int (nI r), .int x, .int (nI 0)] [] (R2 (th σ (nI 0)) f n) = rI (fld (opS (fun i => OpV kc rc md σ (fun s => s = r) (σ.1 11 i))) 0 4 x) (R2 (th σ (nI 0)) f n) := by
    intro x
    refine (lp_fld (opS (fun i => OpV kc rc md σ (fun s => s = r) (σ.1 11 i))) (fun _ _ => True) 0 4 (by omega) (fun i x => am_go am_X0 (am_ex (d + 4)) M207 52 [.ref 34, .int (nI r), .int x, .int (nI i)] [] (R2 (th σ (nI 0)) f n)) (fun x => rI x (R2 (th σ (nI 0)) f n)) ?_ ?_ x trivial).1
    · intro x _
      show am_go am_X0 (am_ex (d + 4)) M207 52 [.ref 34, .int (nI r), .int x, .int (nI 4)] [] (R2 (th σ (nI 0)) f n) = _
      rw [q207_52, if_pos (by decide)]
    · intro i x _ hi _
      refine ⟨?_, trivial⟩
      show am_go am_X0 (am_ex (d + 4)) M207 52 [.ref 34, .int (nI r), .int x, .int (nI i)] [] (R2 (th σ (nI 0)) f n) = am_go am_X0 (am_ex (d + 4)) M207 52 [.ref 34, .int (nI r), .int (opS (fun i => OpV kc rc md σ (fun s => s = r) (σ.1 11 i)) i x), .int (nI (i + 1))] [] (R2 (th σ (nI 0)) f n)
      have e39 : (R2 (th σ (nI 0)) f n).1 39 = σ.1 39 := by rw [R2_o _ _ _ (by decide) (by decide), th_ne _ _ (by decide)]
      rw [q207_52, if_neg (by rw [i_le, i_n (by omega), i_n (by omega)]; omega), if_pos (am_k (by omega) (by omega)), if_pos (am_k (by omega) (by omega)), i_cl (by omega), e39, show nI i + nI 1 = nI (i + 1) from nI_1 _, or_0]
      rcases h.kep i hi with ⟨b1, b2⟩ | ⟨k, p, b1, b2, _, b3, b4, _⟩
      · rw [b1, if_pos le00, opS_f (by rw [b2]; exact OpV_m hkl)]
      · obtain ⟨w, e3, hw⟩ := y195p (d + 3) hkl hS hO2 (th σ (nI 0)) b1 b2
        rw [b3, if_neg (by rw [i_le, i_n (by omega), i_n (by omega)]; omega), e3, bI_r]
        by_cases e : w = nI 0
        · rw [if_pos e, opS_f (by rw [b4]; exact hw.mp e)]
        · rw [if_neg e, opS_t (by rw [b4]; exact Classical.not_not.mp (fun z => e (hw.mpr z)))]
  have e35 : (R2 (th σ (nI 0)) f n).1 35 = σ.1 16 := by rw [R2_o _ _ _ (by decide) (by decide), th_ne _ _ (by decide), h.e35]
  rw [e207, q207_0, x184 _ _ h.hr' hrb, bI_r, bz_t (inR_n hr (by omega)), if_neg n10, q207_14, th_w, th_v, if_pos le00, e1, bV_r, if_pos (am_k (by omega) (by omega)), i_cl (by omega), e35, a3, e2, bI_r]
  by_cases e : v = nI 0
  · rw [if_pos e, lp]
    unfold opA
    rw [bC_f (hv.mp e)]
  · rw [if_neg e, lp]
    unfold opA
    rw [bC_t (Classical.not_not.mp (fun z => e (hv.mpr z)))]
theorem R2_th (σ : am_M) (v : Int32) (f : Nat → Int32) (n : Nat) : (R2 (th σ v) f n).1 34 25 = v := by rw [R2_f _ _ _ (by decide), th_v]
theorem f103 (h : Inv c kc md rc td lev rk σ) (hc : c < 600) (x : Int32) : Fc (d + 8) 103 207 [.ref 0, .int x] [.ref 34, .int x] cO (c + 1) σ := by
  have hrb := h.core.rcb
  by_cases hx : inR x rc
  · obtain ⟨e1, h1⟩ := inR_of hx
    generalize x.toNatClampNeg = r at e1 h1
    subst e1
    obtain ⟨f, g, e2⟩ := c103 (d + 2) h.base h1
    refine Fc.r h hc (S2_sm σ f g) rfl e2 (fun Z hs hI => ?_)
    obtain ⟨f', n', e3⟩ := y207 (d + 3) hI.base h1
    refine ⟨_, ?_, ((Sm.refl Z).th (nI 0)).trans (R2_sm _ f' n'), rfl, R2_th _ _ _ _⟩
    rw [e3, hs.i 16 (by decide) (by decide), hs.i 11 (by decide) (by decide), opA_c (OpV_sm hs.e _) (fun i => OpV_sm hs.e _)]
  · refine Fc.x h hc (E := xIO) (Sm.refl σ) rfl ?_ (fun Z hs hI => ⟨nI 0, ?_⟩)
    · rw [e103, q103_0, x58, bI_r, h.hr, x144 _ _ _ (by omega), if_neg hx, bV_x]
    · rw [e207, q207_0, x184 _ _ hI.hr' hrb, bI_r, bz_f hx, if_pos rfl, q207_14, th_w, th_v, if_neg le10]
      rfl
theorem c127 (h : Inv0 c kc md rc td lev rk σ) {r : Nat} (hr : r < rc) : ∃ f g, am_ex (d + 6) 127 [.ref 0, .int (nI r)] σ = rI (nI (cntC (Op kc rc σ 0 md (fun s => s = r)) 1 kc)) (S2 σ f g) := by
  have hrb := h.core.rcb
  have hX := x68 d (σ.1 26) h hr (σ.1 25)
  rw [S2_self] at hX
  obtain ⟨f, g, e1, hF⟩ := hX
  refine ⟨f, g, ?_⟩
  rw [e127, q127_0, x58, bI_r, h.hr, x144 _ _ _ (by omega), if_pos (inR_n hr (by omega)), bV_r, e1, bV_r, x72 (d + 2) g h hF, bI_r]
theorem f127 (h : Inv c kc md rc td lev rk σ) (hc : c < 600) (x : Int32) : Fc (d + 8) 127 247 [.ref 0, .int x] [.ref 34, .int x] cO (c + 1) σ := by
  have hrb := h.core.rcb
  by_cases hx : inR x rc
  · obtain ⟨e1, h1⟩ := inR_of hx
    generalize x.toNatClampNeg = r at e1 h1
    subst e1
    obtain ⟨f, g, e2⟩ := c127 (d + 2) h.base h1
    refine Fc.r h hc (S2_sm σ f g) rfl e2 (fun Z hs hI => ?_)
    have hT : Sm Z (th Z (nI 0)) := (Sm.refl Z).th _
    obtain ⟨f', n', e3, hS, hO⟩ := y199 (d + 3) (hI.base.sm hT) h1
    refine ⟨R2 (th Z (nI 0)) f' n', ?_, hT.trans (R2_sm _ f' n'), rfl, R2_th _ _ _ _⟩
    rw [e247, q247_0, x184 _ _ hI.hr' hrb, bI_r, bz_t (inR_n h1 (by omega)), if_neg n10, q247_14, th_w, th_v, if_pos le00, e3, bV_r, R2_n, hS.2, cnt_C _ 1 kc (fun j a b => (hO j a (by omega)).trans (Op_sm (hs.trans hT).e j))]
  · refine Fc.x h hc (E := xIO) (Sm.refl σ) rfl ?_ (fun Z hs hI => ⟨nI 0, ?_⟩)
    · rw [e127, q127_0, x58, bI_r, h.hr, x144 _ _ _ (by omega), if_neg hx, bV_x]
    · rw [e247, q247_0, x184 _ _ hI.hr' hrb, bI_r, bz_f hx, if_pos rfl, q247_14, th_w, th_v, if_neg le10]
      rfl
/-- the class is asked to open a record with a kept key -/
theorem x149v (h : Inv0 c kc md rc td lev rk σ) (x : Int32) {r : Nat} (hr : r < rc) : ∃ f g v, (OpV kc rc md σ (fun s => s = r) x → am_ex (d + 6) 149 [.ref 0, .int x, .int (nI r)] σ = rI v (S2 σ f g) ∧ ∀ k, x = nI k → 1 ≤ k → k ≤ kc → v = nI (4 - lev k)) ∧ (¬ OpV kc rc md σ (fun s => s = r) x → am_ex (d + 6) 149 [.ref 0, .int x, .int (nI r)] σ = rX xNS (am_tick (S2 σ f g))) := by
  have hkl := h.kl
  by_cases hx : mdR x kc
  · obtain ⟨k, h1, h2, rfl⟩ := md_of hx
    have := x149 d (σ.1 26) h (q := k) ⟨h1, h2⟩ hr (σ.1 25)
    rw [S2_self] at this
    obtain ⟨f, g, a, b⟩ := this
    refine ⟨f, g, nI (4 - lev k), fun o => ⟨a ((OpV_k hkl h1 h2).mp o), fun k' e k1 k2 => ?_⟩, fun o => b (fun z => o ((OpV_k hkl h1 h2).mpr z))⟩
    rw [nI_inj (by omega) (by omega) e]
  · have := x149o d (σ.1 26) h hx hr (σ.1 25)
    rw [S2_self] at this
    obtain ⟨f, g, a⟩ := this
    refine ⟨f, g, nI 0, fun ⟨k, a, b, e, _⟩ => absurd (by rw [e]; exact md_k a b hkl) hx, fun _ => a⟩
theorem f104 (h : Inv c kc md rc td lev rk σ) (hc : c < 600) (x y : Int32) : FcJ (d + 8) 104 209 [.ref 0, .int x, .int y] [.ref 34, .int x, .int y] cdN (c + 1) σ := by
  have hrb := h.core.rcb
  have hkl := h.kl
  by_cases hxy : inR x 4 ∧ inR y rc
  · obtain ⟨e1, h1⟩ := inR_of hxy.1
    obtain ⟨e2, h2⟩ := inR_of hxy.2
    generalize x.toNatClampNeg = q at e1 h1
    generalize y.toNatClampNeg = r at e2 h2
    subst e1 e2
    obtain ⟨f, g, v, ho, hn⟩ := x149v (d + 1) h.base (σ.1 11 q) h2
    -- the reference's side
    have hm : ∀ Z, Sm σ Z → Inv c kc md rc td lev rk Z → ∃ f' n', am_ex (d + 8) 209 [.ref 34, .int (nI q), .int (nI r)] Z = (if bC (OpV kc rc md σ (fun s => s = r) (σ.1 11 q)) = nI 0 then am_go am_X0 (am_ex (d + 7)) M209 65 [.ref 34, .int (nI q), .int (nI r)] [.ref 34] (R2 (th Z (nI 0)) f' n') else am_go am_X0 (am_ex (d + 7)) M209 66 [.ref 34, .int (nI q), .int (nI r)] [.int (nI 0), .ref 34] (R2 (th Z (nI 0)) f' n')) := by
      intro Z hs hI
      have hT : Sm Z (th Z (nI 0)) := (Sm.refl Z).th _
      obtain ⟨f', n', e3, hS, hO⟩ := y199 (d + 3) (hI.base.sm hT) h2
      have hO2 : ∀ j, 1 ≤ j → j ≤ kc → (mS f' n' j ↔ Op kc rc σ 0 md (fun s => s = r) j) := fun j a b => (hO j a b).trans (Op_sm (hs.trans hT).e j)
      refine ⟨f', n', ?_⟩
      have e39 : (R2 (th Z (nI 0)) f' n').1 39 = σ.1 39 := by rw [R2_o _ _ _ (by decide) (by decide), th_ne _ _ (by decide), hs.i 39 (by decide) (by decide)]
      rw [e209, q209_0, x208, bI_r, bz_t (inR_n h1 (by omega)), if_neg n10, x184 _ _ hI.hr' hrb, bI_r, bz_t (inR_n h2 (by omega)), if_neg n10, q209_21, th_w, th_v, if_pos le00, e3, bV_r, if_pos (am_k (by omega) (by omega)), if_pos (am_k (by omega) (by omega)), i_cl (by omega), e39]
      rcases h.kep q h1 with ⟨b1, b2⟩ | ⟨k, p, b1, b2, _, b3, b4, _⟩
      · rw [b1, if_pos le00, b2, bC_f (OpV_m hkl), if_pos rfl]
      · obtain ⟨w, e4, hw⟩ := y195p (d + 6) hkl hS hO2 (th Z (nI 0)) b1 b2
        rw [b3, if_neg (by rw [i_le, i_n (by omega), i_n (by omega)]; omega), e4, bI_r, b4]
        by_cases e : w = nI 0
        · rw [if_pos e, bC_f (hw.mp e), if_pos rfl]
        · rw [if_neg e, bC_t (Classical.not_not.mp (fun z => e (hw.mpr z))), if_neg n10]
    have hcl : am_ex (d + 8) 104 [.ref 0, .int (nI q), .int (nI r)] σ = am_bI (am_ex (d + 7) 149 [.ref 0, .int (σ.1 11 q), .int (nI r)] σ) (fun r4 t4 => am_bJ (am_ex (d + 7) 61 [.ref 2, .int (nI r)] t4) (fun r5 t5 => some (.inl (some (.long r5)), t5))) := by
      rw [e104, q104_0, x144 _ _ _ (by omega), if_pos (inR_n h1 (by omega)), bV_r, x58, bI_r, h.hr, x144 _ _ _ (by omega), if_pos (inR_n h2 (by omega)), bV_r, if_pos (am_k (by omega) (by omega)), i_cl (by omega)]
    by_cases ho2 : OpV kc rc md σ (fun s => s = r) (σ.1 11 q)
    · refine FcJ.r h hc (S2_sm σ f g) rfl (v := σ.2.1 14 r) ?_ (fun Z hs hI => ?_)
      · rw [hcl, (ho ho2).1, bI_r, x61 (d + 5) _ (by rw [S2_o _ _ _ (by decide) (by decide)]; exact h.hr) hrb h2, bJ_r]
        rfl
      · obtain ⟨f', n', e3⟩ := hm Z hs hI
        refine ⟨th (R2 (th Z (nI 0)) f' n') (nI 0), ?_, (((Sm.refl Z).th (nI 0)).trans (R2_sm _ f' n')).th _, rfl, th_v _ _⟩
        rw [e3, bC_t ho2, if_neg n10, q209_66, th_w, th_v, if_pos le00, if_pos (am_k (by omega) (by omega)), i_cl (by omega)]
        show rJ (Z.2.1 50 r) _ = rJ (σ.2.1 14 r) _
        rw [hI.e50, hs.j 14 (by decide)]
    · refine FcJ.xs h hc (E := xNS) (S2_sm σ f g) rfl ?_ (fun Z hs hI => ?_)
      · rw [hcl, hn ho2, bI_x]
      · obtain ⟨f', n', e3⟩ := hm Z hs hI
        refine ⟨0, th (R2 (th Z (nI 0)) f' n') (nI 2), ?_, (((Sm.refl Z).th (nI 0)).trans (R2_sm _ f' n')).th _, rfl, th_v _ _⟩
        rw [e3, bC_f ho2, if_pos rfl, q209_65, q209_66, th_w, th_v, if_neg le20]
  · refine FcJ.x h hc (E := xIO) (Sm.refl σ) rfl ?_ (fun Z hs hI => ⟨0, ?_⟩)
    · rw [e104, q104_0, x144 _ _ _ (by omega)]
      by_cases h1 : inR x 4
      · rw [if_pos h1, bV_r, x58, bI_r, h.hr, x144 _ _ _ (by omega), if_neg (fun z => hxy ⟨h1, z⟩), bV_x]
      · rw [if_neg h1, bV_x]
    · rw [e209, q209_0, x208, bI_r]
      by_cases h1 : inR x 4
      · rw [bz_t h1, if_neg n10, x184 _ _ hI.hr' hrb, bI_r, bz_f (fun z => hxy ⟨h1, z⟩), if_pos rfl, q209_20, q209_21, th_w, th_v, if_neg le10]
        rfl
      · rw [bz_f h1, if_pos rfl, q209_20, q209_21, th_w, th_v, if_neg le10]
        rfl
end FCS
