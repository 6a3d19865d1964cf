/-! calls that change nothing -/
section FAC
variable (d : Nat) {c kc md rc td : Nat} {lev rk : Nat → Nat} {σ : am_M}
theorem f100 (h : Inv c kc md rc td lev rk σ) (hc : c < 600) (x : Int32) : Fc (d + 8) 100 204 [.ref 0, .int x] [.ref 34, .int x] cO (c + 1) σ := by
  by_cases hx : inR x 64
  · refine Fc.r h hc (Sm.refl σ) rfl (by rw [c100 (d + 5) σ x, if_pos hx]) (fun Z hs hI => ⟨_, by rw [y204 (d + 5) Z x, if_pos hx, hI.e37, hs.i 17 (by decide) (by decide)], (Sm.refl Z).th _, rfl, th_v _ _⟩)
  · exact Fc.x h hc (E := xIO) (Sm.refl σ) rfl (by rw [c100 (d + 5) σ x, if_neg hx]) (fun Z hs hI => ⟨_, by rw [y204 (d + 5) Z x, if_neg hx]; rfl⟩)
theorem f101 (h : Inv c kc md rc td lev rk σ) (hc : c < 600) (x : Int32) : Fc (d + 8) 101 205 [.ref 0, .int x] [.ref 34, .int x] cO (c + 1) σ := by
  have hrb := h.core.rcb
  by_cases hx : inR x rc
  · refine Fc.r h hc (Sm.refl σ) rfl (by rw [c101 (d + 5) σ h.hr hrb x, if_pos hx]) (fun Z hs hI => ⟨_, by rw [y205 (d + 5) Z hI.hr' hrb x, if_pos hx, hI.e51, hs.i 15 (by decide) (by decide)], (Sm.refl Z).th _, rfl, th_v _ _⟩)
  · exact Fc.x h hc (E := xIO) (Sm.refl σ) rfl (by rw [c101 (d + 5) σ h.hr hrb x, if_neg hx]) (fun Z hs hI => ⟨_, by rw [y205 (d + 5) Z hI.hr' hrb x, if_neg hx]; rfl⟩)
theorem f109 (h : Inv c kc md rc td lev rk σ) (hc : c < 600) (x : Int32) : Fc (d + 8) 109 224 [.ref 0, .int x] [.ref 34, .int x] cO (c + 1) σ := by
  have hz : ∀ Z, Inv c kc md rc td lev rk Z → okH (Z.1 38) := fun Z hI => by rw [hI.e38]; exact hI.okh
  by_cases hx : inR x 64
  · refine Fc.r h hc (Sm.refl σ) rfl (by rw [c109 (d + 2) σ h.okh x, if_pos hx]) (fun Z hs hI => ⟨_, by rw [y224 (d + 4) Z (hz Z hI) x, if_pos hx, hI.e38, hs.i 10 (by decide) (by decide)], (Sm.refl Z).th _, rfl, th_v _ _⟩)
  · exact Fc.x h hc (E := xIO) (Sm.refl σ) rfl (by rw [c109 (d + 2) σ h.okh x, if_neg hx]) (fun Z hs hI => ⟨_, by rw [y224 (d + 4) Z (hz Z hI) x, if_neg hx]; rfl⟩)
theorem f120 (h : Inv c kc md rc td lev rk σ) (hc : c < 600) (x : Int32) : Fc (d + 8) 120 236 [.ref 0, .int x] [.ref 34, .int x] cO (c + 1) σ := by
  by_cases hx : inR x 85
  · refine Fc.r h hc (Sm.refl σ) rfl (by rw [c120 (d + 4) σ x, if_pos hx]) (fun Z hs hI => ⟨_, by rw [y236 (d + 5) Z x, if_pos hx, hI.e35, hs.i 16 (by decide) (by decide)], (Sm.refl Z).th _, rfl, th_v _ _⟩)
  · exact Fc.x h hc (E := xIO) (Sm.refl σ) rfl (by rw [c120 (d + 4) σ x, if_neg hx]) (fun Z hs hI => ⟨_, by rw [y236 (d + 5) Z x, if_neg hx]; rfl⟩)
theorem f121 (h : Inv c kc md rc td lev rk σ) (hc : c < 600) (x : Int32) : Fc (d + 8) 121 237 [.ref 0, .int x] [.ref 34, .int x] cO (c + 1) σ := by
  have hkl := h.kl
  by_cases hx : mdR x kc
  · refine Fc.r h hc (Sm.refl σ) rfl (by rw [c121 (d + 5) σ h.hk (by omega) x, if_pos hx]) (fun Z hs hI => ⟨_, by rw [y237 (d + 5) Z hI.hk' (by omega) x, if_pos hx, hI.sd, hs.i 1 (by decide) (by decide)], (Sm.refl Z).th _, rfl, th_v _ _⟩)
  · exact Fc.x h hc (E := xIO) (Sm.refl σ) rfl (by rw [c121 (d + 5) σ h.hk (by omega) x, if_neg hx]) (fun Z hs hI => ⟨_, by rw [y237 (d + 5) Z hI.hk' (by omega) x, if_neg hx]; rfl⟩)
theorem f138 (h : Inv c kc md rc td lev rk σ) (hc : c < 600) (x : Int32) : Fc (d + 8) 138 267 [.ref 0, .int x] [.ref 34, .int x] cO (c + 1) σ := by
  by_cases hx : inR x 85
  · refine Fc.r h hc ((Sm.refl σ).set (a := 31) (by decide) _) rfl (by rw [c138 (d + 3) σ x, if_pos hx]) (fun Z hs hI => ⟨_, by rw [y267 (d + 2) Z x, if_pos hx, hI.e35, hI.e37, hs.i 16 (by decide) (by decide), hs.i 17 (by decide) (by decide)], (Sm.refl Z).th _, rfl, th_v _ _⟩)
  · exact Fc.x h hc (E := xIO) (Sm.refl σ) rfl (by rw [c138 (d + 3) σ x, if_neg hx]) (fun Z hs hI => ⟨_, by rw [y267 (d + 2) Z x, if_neg hx]; rfl⟩)
theorem f140 (h : Inv c kc md rc td lev rk σ) (hc : c < 600) (x y : Int32) : Fc (d + 8) 140 271 [.ref 0, .int x, .int y] [.ref 34, .int x, .int y] cdS (c + 1) σ := by
  by_cases hx : inR x 4 ∧ inR y 13
  · obtain ⟨e1, h1⟩ := inR_of hx.1
    obtain ⟨e2, h2⟩ := inR_of hx.2
    generalize x.toNatClampNeg = s at e1 h1
    generalize y.toNatClampNeg = i at e2 h2
    subst e1 e2
    by_cases hk : σ.1 32 s = -1
    · exact Fc.x h hc (E := xIS) (Sm.refl σ) rfl (by rw [c140 (d + 4) σ h1 h2, if_pos hk]) (fun Z hs hI => ⟨_, by rw [y271 (d + 4) Z h1 h2, hI.e54, hs.i 32 (by decide) (by decide), if_pos hk]; rfl⟩)
    · refine Fc.r h hc (Sm.refl σ) rfl (by rw [c140 (d + 4) σ h1 h2, if_neg hk]) (fun Z hs hI => ⟨_, by rw [y271 (d + 4) Z h1 h2, hI.e54, hs.i 32 (by decide) (by decide), if_neg hk, hI.e53, hs.i 33 (by decide) (by decide)], (Sm.refl Z).th _, rfl, th_v _ _⟩)
  · exact Fc.x h hc (E := xIO) (Sm.refl σ) rfl (by rw [c140x (d + 6) σ x y hx]) (fun Z hs hI => ⟨_, by rw [y271x (d + 5) Z x y hx]; rfl⟩)
theorem f141 (h : Inv c kc md rc td lev rk σ) (hc : c < 600) (x : Int32) : Fc (d + 8) 141 273 [.ref 0, .int x] [.ref 34, .int x] cdS (c + 1) σ := by
  by_cases hx : inR x 4
  · obtain ⟨e1, h1⟩ := inR_of hx
    generalize x.toNatClampNeg = s at e1 h1
    subst e1
    have hp : ∀ Z, Inv c kc md rc td lev rk Z → (Z.1 54 s = -1 ∨ ∃ k, k < 64 ∧ Z.1 54 s = nI k) := fun Z hI => by rw [hI.e54]; exact hI.prl s h1
    by_cases hk : σ.1 32 s = -1
    · exact Fc.x h hc (E := xIS) (Sm.refl σ) rfl (by rw [c141 (d + 4) σ h1 (h.prl s h1), if_pos hk]) (fun Z hs hI => ⟨_, by rw [y273 (d + 4) Z h1 (hp Z hI), hI.e54, hs.i 32 (by decide) (by decide), if_pos hk]; rfl⟩)
    · refine Fc.r h hc (Sm.refl σ) rfl (by rw [c141 (d + 4) σ h1 (h.prl s h1), if_neg hk]) (fun Z hs hI => ⟨_, by rw [y273 (d + 4) Z h1 (hp Z hI), hI.e54, hs.i 32 (by decide) (by decide), if_neg hk, hI.e53, hs.i 33 (by decide) (by decide)], (Sm.refl Z).th _, rfl, th_v _ _⟩)
  · exact Fc.x h hc (E := xIO) (Sm.refl σ) rfl (by rw [c141x (d + 6) σ x hx]) (fun Z hs hI => ⟨_, by rw [y273x (d + 4) Z x hx]; rfl⟩)
theorem f142 (h : Inv c kc md rc td lev rk σ) (hc : c < 600) (x y : Int32) : Fc (d + 8) 142 274 [.ref 0, .int x, .int y] [.ref 34, .int x, .int y] cdS (c + 1) σ := by
  by_cases hx : inR x 4
  · obtain ⟨e1, h1⟩ := inR_of hx
    generalize x.toNatClampNeg = s at e1 h1
    subst e1
    have hp : ∀ Z, Inv c kc md rc td lev rk Z → (Z.1 54 s = -1 ∨ ∃ k, k < 64 ∧ Z.1 54 s = nI k) := fun Z hI => by rw [hI.e54]; exact hI.prl s h1
    by_cases hk : σ.1 32 s = -1
    · exact Fc.x h hc (E := xIS) (Sm.refl σ) rfl (by rw [c142 (d + 4) σ h1 (h.prl s h1), if_pos hk]) (fun Z hs hI => ⟨_, by rw [y274 (d + 4) Z h1 (hp Z hI), hI.e54, hs.i 32 (by decide) (by decide), if_pos hk]; rfl⟩)
    · refine Fc.r h hc (Sm.refl σ) rfl (by rw [c142 (d + 4) σ h1 (h.prl s h1), if_neg hk]) (fun Z hs hI => ⟨_, by rw [y274 (d + 4) Z h1 (hp Z hI), hI.e54, hs.i 32 (by decide) (by decide), if_neg hk, hI.e53, hs.i 33 (by decide) (by decide)], (Sm.refl Z).th _, rfl, th_v _ _⟩)
  · exact Fc.x h hc (E := xIO) (Sm.refl σ) rfl (by rw [c142x (d + 6) σ x y hx]) (fun Z hs hI => ⟨_, by rw [y274x (d + 4) Z x y hx]; rfl⟩)
theorem f102 (h : Inv c kc md rc td lev rk σ) (hc : c < 600) (x : Int32) : Fc (d + 8) 102 206 [.ref 0, .int x] [.ref 34, .int x] cI1 (c + 1) σ := by
  by_cases hx : inR x 3
  · obtain ⟨e1, h1⟩ := inR_of hx
    generalize x.toNatClampNeg = w at e1 h1
    subst e1
    have hz : ∀ Z, Sm σ Z → cnt (fun k => ¬ Z.1 17 k = -1) 0 64 = cnt (fun k => ¬ σ.1 17 k = -1) 0 64 ∧ cnt (fun k => ¬ Z.1 17 k = -1 ∧ ¬ rdP Z md (-1) k) 0 64 = cnt (fun k => ¬ σ.1 17 k = -1 ∧ ¬ rdP σ md (-1) k) 0 64 := fun Z hs =>
      ⟨cnt_c _ _ (fun j _ _ => by rw [hs.i 17 (by decide) (by decide)]), cnt_c _ _ (fun j _ _ => by rw [hs.i 17 (by decide) (by decide), rd_sm hs])⟩
    have hm : ∀ Z, Sm σ Z → Inv c kc md rc td lev rk Z → am_ex (d + 8) 206 [.ref 34, .int (nI w)] Z = rI (nI (if w = 0 then rc else if w = 1 then cnt (fun k => ¬ σ.1 17 k = -1) 0 64 else cnt (fun k => ¬ σ.1 17 k = -1 ∧ ¬ rdP σ md (-1) k) 0 64)) (th Z (nI 0)) := fun Z hs hI => by
      rw [y206 (d + 4) Z hI h1, (hz Z hs).1, (hz Z hs).2]
    have hcl := c102 (d + 2) σ h h1
    by_cases h0 : w = 0
    · rw [if_pos h0] at hcl
      exact Fc.r h hc (Sm.refl σ) rfl hcl (fun Z hs hI => ⟨_, by rw [hm Z hs hI, if_pos h0], (Sm.refl Z).th _, rfl, th_v _ _⟩)
    · rw [if_neg h0] at hcl
      by_cases h2 : w = 1
      · rw [if_pos h2] at hcl
        exact Fc.r h hc (Sm.refl σ) rfl hcl (fun Z hs hI => ⟨_, by rw [hm Z hs hI, if_neg h0, if_pos h2], (Sm.refl Z).th _, rfl, th_v _ _⟩)
      · rw [if_neg h2] at hcl
        exact Fc.r h hc (smG σ md) rfl hcl (fun Z hs hI => ⟨_, by rw [hm Z hs hI, if_neg h0, if_neg h2], (Sm.refl Z).th _, rfl, th_v _ _⟩)
  · exact Fc.x h hc (E := xIA) (Sm.refl σ) rfl (by rw [c102x (d + 6) σ x hx]) (fun Z hs hI => ⟨_, by rw [y206x (d + 5) Z x hx]; rfl⟩)
theorem f135 (h : Inv c kc md rc td lev rk σ) (hc : c < 600) (x : Int32) : Fc (d + 8) 135 262 [.ref 0, .int x] [.ref 34, .int x] cO (c + 1) σ := by
  by_cases hx : inR x 64
  · obtain ⟨e1, h1⟩ := inR_of hx
    generalize x.toNatClampNeg = k at e1 h1
    subst e1
    have hcp : ∀ Z, Sm σ Z → rdnN Z md k = rdnN σ md k := fun Z hs => by
      have : ∀ s, cpN Z md s = cpN σ md s := fun s => cnt_c _ _ (fun j _ _ => by
        unfold inB onP isE
        rw [hs.i 20 (by decide) (by decide), hs.i 21 (by decide) (by decide), hs.i 16 (by decide) (by decide), hs.i 17 (by decide) (by decide), hs.i 22 (by decide) (by decide), hs.i 23 (by decide) (by decide), hs.i 24 (by decide) (by decide)])
      unfold rdnN
      rw [this, this, this, this]
    have hcl := c135 (d + 2) σ h h1
    by_cases hr : σ.1 17 k = -1
    · rw [if_pos hr] at hcl
      exact Fc.r h hc (Sm.refl σ) rfl hcl (fun Z hs hI => ⟨_, by rw [y262 (d + 5) Z hI h1, hs.i 17 (by decide) (by decide), if_pos hr], (Sm.refl Z).th _, rfl, th_v _ _⟩)
    · rw [if_neg hr] at hcl
      exact Fc.r h hc (smG σ md) rfl hcl (fun Z hs hI => ⟨_, by rw [y262 (d + 5) Z hI h1, hs.i 17 (by decide) (by decide), if_neg hr, hcp Z hs], (Sm.refl Z).th _, rfl, th_v _ _⟩)
  · exact Fc.x h hc (E := xIO) (Sm.refl σ) rfl (by rw [c135x (d + 6) σ x hx]) (fun Z hs hI => ⟨_, by rw [y262x (d + 5) Z x hx]; rfl⟩)
theorem f130 (h : Inv c kc md rc td lev rk σ) (hc : c < 600) (x y : Int32) : Fc (d + 8) 130 254 [.ref 0, .int x, .int y] [.ref 34, .int x, .int y] cdA (c + 1) σ := by
  by_cases hx : inR x md
  · by_cases hy : inR y 4
    · obtain ⟨e1, h1⟩ := inR_of hx
      obtain ⟨e2, h2⟩ := inR_of hy
      generalize x.toNatClampNeg = m at e1 h1
      generalize y.toNatClampNeg = w at e2 h2
      subst e1 e2
      have hcl : ∃ τ, Sm σ τ ∧ τ.2.2 = σ.2.2 ∧ am_ex (d + 8) 130 [.ref 0, .int (nI m), .int (nI w)] σ = rI (if w = 0 then σ.1 20 m else if w = 1 then σ.1 21 m else if w = 2 then nI (cnt (lvA σ) (m * 150) (zn (σ.1 21) m)) else nI (cnt (ndP σ md m) (m * 150) (zn (σ.1 21) m))) τ := c130n (d + 1) σ h h1 h2
      obtain ⟨τ, hs1, hs2, hcl⟩ := hcl
      refine Fc.r h hc hs1 hs2 hcl (fun Z hs hI => ⟨_, ?_, (Sm.refl Z).th _, rfl, th_v _ _⟩)
      rw [y254 (d + 3) Z hI h1 h2, cnt_c (Q := lvA σ) _ _ (fun j _ _ => lv_sm hs j), cnt_c (Q := ndP σ md m) _ _ (fun j _ _ => nd_sm hs md m j), hs.i 20 (by decide) (by decide), hs.i 21 (by decide) (by decide)]
    · exact Fc.x h hc (E := xIA) (Sm.refl σ) rfl ((c130x (d + 6) σ h x y).2 hx hy) (fun Z hs hI => ⟨_, by rw [(y254x (d + 5) Z hI x y).2 hx hy]; rfl⟩)
  · exact Fc.x h hc (E := xIO) (Sm.refl σ) rfl ((c130x (d + 6) σ h x y).1 hx) (fun Z hs hI => ⟨_, by rw [(y254x (d + 5) Z hI x y).1 hx]; rfl⟩)
/-- the same for a long answer -/
def FcJ (D k m : Nat) (as bs : List Value) (cod : String → Nat) (c : Nat) (σ : am_M) : Prop :=
  (∃ v X, am_ex D k as σ = rJ v X ∧ X.2.2 = σ.2.2 ∧ ∀ Z, Zr X Z → ∃ Y, am_ex D m bs Z = rJ v Y ∧ Y.2.2 = Z.2.2 ∧ Y.1 34 25 = nI 0 ∧ IvE c Y) ∨
  (∃ E X, cod E ≠ 0 ∧ am_ex D k as σ = rX E X ∧ X.2.2 = σ.2.2 + 1 ∧ ∀ Z, Zr X Z → ∃ b Y, am_ex D m bs Z = rJ b Y ∧ Y.2.2 = Z.2.2 ∧ Y.1 34 25 = nI (cod E) ∧ IvE c Y)
theorem FcJ.x {D k m : Nat} {as bs : List Value} {cod : String → Nat} {σ : am_M} (h : Inv c kc md rc td lev rk σ) (hc : c < 600) {E : String} {X : am_M} (hX : Sm σ X) (hn : X.2.2 = σ.2.2) (h1 : am_ex D k as σ = rX E (am_tick X)) (h2 : ∀ Z, Sm σ Z → Inv c kc md rc td lev rk Z → ∃ b, am_ex D m bs Z = rJ b (th Z (nI (cod E)))) (hE : cod E ≠ 0 := by decide +kernel) : FcJ D k m as bs cod (c + 1) σ := by
  refine Or.inr ⟨E, am_tick X, hE, h1, by show X.2.2 + 1 = _; rw [hn], fun Z hZ => ?_⟩
  have hs : Sm σ Z := (hX.tick).trans hZ.1
  obtain ⟨b, hb⟩ := h2 Z hs (h.sm hs)
  exact ⟨b, _, hb, rfl, th_v _ _, kc, md, rc, td, lev, rk, ((h.sm hs).sm ((Sm.refl Z).th _)).up (by omega) (by omega)⟩
theorem FcJ.r {D k m : Nat} {as bs : List Value} {cod : String → Nat} {σ : am_M} (h : Inv c kc md rc td lev rk σ) (hc : c < 600) {v : Int64} {X : am_M} (hX : Sm σ X) (hn : X.2.2 = σ.2.2) (h1 : am_ex D k as σ = rJ v X) (h2 : ∀ Z, Sm σ Z → Inv c kc md rc td lev rk Z → ∃ Y, am_ex D m bs Z = rJ v Y ∧ Sm Z Y ∧ Y.2.2 = Z.2.2 ∧ Y.1 34 25 = nI 0) : FcJ D k m as bs cod (c + 1) σ := by
  refine Or.inl ⟨v, X, h1, hn, fun Z hZ => ?_⟩
  have hs : Sm σ Z := hX.trans hZ.1
  obtain ⟨Y, hb, hY, hn2, ht⟩ := h2 Z hs (h.sm hs)
  exact ⟨Y, hb, hn2, ht, kc, md, rc, td, lev, rk, ((h.sm hs).sm hY).up (by omega) (by omega)⟩
theorem f99 (h : Inv c kc md rc td lev rk σ) (hc : c < 600) (x : Int32) : FcJ (d + 8) 99 203 [.ref 0, .int x] [.ref 34, .int x] cdN (c + 1) σ := by
  by_cases hx : inR x 64
  · obtain ⟨e1, h1⟩ := inR_of hx
    generalize x.toNatClampNeg = k at e1 h1
    subst e1
    have hcl := c99 (d + 2) σ h h1
    by_cases hr : rdP σ md (-1) k
    · rw [if_pos hr] at hcl
      exact FcJ.r h hc (smG σ md) rfl hcl (fun Z hs hI => ⟨_, by rw [y203 (d + 4) Z hI h1, if_pos ((rd_sm hs _ _ _).mpr hr), hs.j 14 (by decide), hs.i 17 (by decide) (by decide)], (Sm.refl Z).th _, rfl, th_v _ _⟩)
    · rw [if_neg hr] at hcl
      exact FcJ.x h hc (E := xNS) (smG σ md) rfl hcl (fun Z hs hI => ⟨_, by rw [y203 (d + 4) Z hI h1, if_neg (fun z => hr ((rd_sm hs _ _ _).mp z))]; rfl⟩)
  · exact FcJ.x h hc (E := xIO) (Sm.refl σ) rfl (by rw [c99x (d + 6) σ x hx]) (fun Z hs hI => ⟨_, by rw [y203x (d + 5) Z x hx]; rfl⟩)
theorem f131 (h : Inv c kc md rc td lev rk σ) (hc : c < 600) (x y z : Int32) : FcJ (d + 8) 131 255 [.ref 0, .int x, .int y, .int z] [.ref 34, .int x, .int y, .int z] cdA (c + 1) σ := by
  have hmb := h.core.mdb
  have hz : ∀ m, m < md → ∃ s, s ≤ 150 ∧ σ.1 21 m = nI s := fun m hm => ⟨_, (h.core.med m hm).1, (h.core.med m hm).2.1⟩
  have hzM : ∀ Z, Inv c kc md rc td lev rk Z → ∀ m, m < md → ∃ s, s ≤ 150 ∧ Z.1 45 m = nI s := fun Z hI m hm => ⟨_, (hI.core.med m hm).1, by rw [(hI.mdm m hm).2]; exact (hI.core.med m hm).2.1⟩
  have h45 : ∀ Z, Sm σ Z → Inv c kc md rc td lev rk Z → inR x md → Z.1 45 x.toNatClampNeg = σ.1 21 x.toNatClampNeg := fun Z hs hI hx => by rw [(hI.mdm _ (inR_of hx).2).2, hs.i 21 (by decide) (by decide)]
  by_cases hxy : inR x md ∧ 0 ≤ y.toInt ∧ y.toInt < (σ.1 21 x.toNatClampNeg).toInt
  · by_cases hw : inR z 4
    · obtain ⟨hx, hy0, hy1⟩ := hxy
      obtain ⟨e1, h1⟩ := inR_of hx
      obtain ⟨hz1, hz2, _⟩ := h.core.med _ h1
      rw [hz2, i_n (by omega)] at hy1
      obtain ⟨e2, h2⟩ := inR_of (n := zn (σ.1 21) x.toNatClampNeg) ⟨hy0, hy1⟩
      obtain ⟨e3, h3⟩ := inR_of hw
      generalize x.toNatClampNeg = m at e1 h1 hz1 hz2 h2
      generalize y.toNatClampNeg = i at e2 h2
      generalize z.toNatClampNeg = w at e3 h3
      subst e1 e2 e3
      have hcl := c131 (d + 4) σ h.hm hmb.2 h1 hz2 hz1 h2 h.hr h.core.rcb h3 ((h.core.ent m h1 i h2).imp (fun q => q.1) (fun ⟨q, r, _, q1, _, _, q2, _⟩ => ⟨q, r, q1, q2⟩))
      refine FcJ.r h hc (Sm.refl σ) rfl hcl (fun Z hs hI => ⟨_, ?_, (Sm.refl Z).th _, rfl, th_v _ _⟩)
      have hzz : zn (Z.1 21) m = zn (σ.1 21) m := by rw [hs.i 21 (by decide) (by decide)]
      rw [y255 (d + 5) Z hI.hm' hmb.2 h1 (by rw [(hI.mdm m h1).2]; exact (hI.core.med m h1).2.1) (hI.core.med m h1).1 (by rw [hzz]; exact h2) h3, hI.e46, hI.e47, hI.e48, hI.con m h1 i (by rw [hzz]; exact h2), hs.i 22 (by decide) (by decide), hs.i 23 (by decide) (by decide), hs.i 24 (by decide) (by decide), hs.i 1 (by decide) (by decide), hs.j 14 (by decide)]
    · exact FcJ.x h hc (E := xIA) (Sm.refl σ) rfl ((c131x (d + 4) σ h.hm hmb.2 x y z hz).2 hxy hw) (fun Z hs hI => ⟨_, by rw [(y255x (d + 5) Z hI.hm' hmb.2 x y z (hzM Z hI)).2 (by rw [h45 Z hs hI hxy.1]; exact hxy) hw]; rfl⟩)
  · exact FcJ.x h hc (E := xIO) (Sm.refl σ) rfl ((c131x (d + 4) σ h.hm hmb.2 x y z hz).1 hxy) (fun Z hs hI => ⟨_, by rw [(y255x (d + 5) Z hI.hm' hmb.2 x y z (hzM Z hI)).1 (fun q => hxy (by rw [h45 Z hs hI q.1] at q; exact q))]; rfl⟩)
end FAC
