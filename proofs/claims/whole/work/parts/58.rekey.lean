/-! what a call must show; rekey -/
section REK
/-- memories that differ in scratch cells only, with as many exceptions made -/
abbrev Zr (X Z : am_M) : Prop := Sm X Z ∧ Z.2.2 = X.2.2
abbrev IvE (c : Nat) (σ : am_M) : Prop := ∃ kc md rc td lev rk, Inv c kc md rc td lev rk σ
/-- a call of the class and the reference's answer alike, and the invariant afterwards -/
def Fc (D k m : Nat) (as bs : List Value) (cod : String → Nat) (c : Nat) (σ : am_M) : Prop :=
  (∃ v X, am_ex D k as σ = rI v X ∧ X.2.2 = σ.2.2 ∧ ∀ Z, Zr X Z → ∃ Y, am_ex D m bs Z = rI v Y ∧ Y.2.2 = Z.2.2 ∧ Y.1 34 25 = nI 0 ∧ IvE c Y) ∨
  (∃ E X, cod E ≠ 0 ∧ am_ex D k as σ = rX E X ∧ X.2.2 = σ.2.2 + 1 ∧ ∀ Z, Zr X Z → ∃ b Y, am_ex D m bs Z = rI b Y ∧ Y.2.2 = Z.2.2 ∧ Y.1 34 25 = nI (cod E) ∧ IvE c Y)
abbrev cdS (E : String) : Nat := if E = xIO then 1 else if E = xIS then 2 else 0
abbrev cdN (E : String) : Nat := if E = xIO then 1 else if E = xNS then 2 else 0
abbrev cdA (E : String) : Nat := if E = xIO then 1 else if E = xIA then 2 else 0
abbrev cO (E : String) : Nat := if E = xIO then 1 else 0
abbrev cI1 (E : String) : Nat := if E = xIA then 1 else 0
abbrev cS1 (E : String) : Nat := if E = xIS then 1 else 0
variable (d : Nat) {c kc md rc td : Nat} {lev rk : Nat → Nat}
theorem Inv.up {σ : am_M} (h : Inv c kc md rc td lev rk σ) {c' : Nat} (h1 : c ≤ c') (h2 : c' ≤ 600) : Inv c' kc md rc td lev rk σ := ⟨h.base.up h1 h2, h.lf⟩
/-- a refused call: the class throws at once -/
theorem Fc.x {D k m : Nat} {as bs : List Value} {cod : String → Nat} {σ : am_M} (h : Inv c kc md rc td lev rk σ) (hc : c < 600) {E : String} {X : am_M} (hX : Sm σ X) (hn : X.2.2 = σ.2.2) (h1 : am_ex D k as σ = rX E (am_tick X)) (h2 : ∀ Z, Sm σ Z → Inv c kc md rc td lev rk Z → ∃ b, am_ex D m bs Z = rI b (th Z (nI (cod E)))) (hE : cod E ≠ 0 := by decide +kernel) : Fc D k m as bs cod (c + 1) σ := by
  refine Or.inr ⟨E, am_tick X, hE, h1, by show X.2.2 + 1 = _; rw [hn], fun Z hZ => ?_⟩
  have hs : Sm σ Z := (hX.tick).trans hZ.1
  obtain ⟨b, hb⟩ := h2 Z hs (h.sm hs)
  exact ⟨b, _, hb, rfl, th_v _ _, kc, md, rc, td, lev, rk, ((h.sm hs).sm ((Sm.refl Z).th _)).up (by omega) (by omega)⟩
/-- a call that changes nothing -/
theorem Fc.r {D k m : Nat} {as bs : List Value} {cod : String → Nat} {σ : am_M} (h : Inv c kc md rc td lev rk σ) (hc : c < 600) {v : Int32} {X : am_M} (hX : Sm σ X) (hn : X.2.2 = σ.2.2) (h1 : am_ex D k as σ = rI v X) (h2 : ∀ Z, Sm σ Z → Inv c kc md rc td lev rk Z → ∃ Y, am_ex D m bs Z = rI v Y ∧ Sm Z Y ∧ Y.2.2 = Z.2.2 ∧ Y.1 34 25 = nI 0) : Fc D k m as bs cod (c + 1) σ := by
  refine Or.inl ⟨v, X, h1, hn, fun Z hZ => ?_⟩
  have hs : Sm σ Z := hX.trans hZ.1
  obtain ⟨Y, hb, hY, hn2, ht⟩ := h2 Z hs (h.sm hs)
  exact ⟨Y, hb, hn2, ht, kc, md, rc, td, lev, rk, ((h.sm hs).sm hY).up (by omega) (by omega)⟩
theorem JK_16 (σ : am_M) (kc p : Nat) : (JK σ kc p).1 16 = upd (σ.1 16) p (nI (kc + 1)) := by
  unfold JK kyM; rw [s_ne _ _ (by decide), s_ne _ _ (by decide), rnw_16]
theorem JK_17 (σ : am_M) (kc p : Nat) : (JK σ kc p).1 17 = σ.1 17 := by
  unfold JK kyM; rw [s_ne _ _ (by decide), s_ne _ _ (by decide), rnw_o _ _ _ (by decide)]
/-- children of a place below the leaves are not the place -/
theorem chN_k (n : Nat → Int32) (v : Int32) (p : Nat) : chN (upd n p v) p = chN n p :=
  cnt_c 4 0 (fun i _ _ => by rw [show upd n p v (4 * p + 1 + i) = n (4 * p + 1 + i) from if_neg (by omega)])
theorem rekJ {σ : am_M} (h : Inv c kc md rc td lev rk σ) (hc : c < 600) {p : Nat} (hp : p < 21) (hn : ¬ σ.1 16 p = nI 0) (hr : rmP σ md (chN (σ.1 16) p + (if p = 0 then 0 else 1))) : ∃ J lev', Inv (c + 1) (kc + 1) md rc td lev' rk J ∧ J.1 16 p = nI (kc + 1) ∧ (∀ X, EqC σ X → ∃ X', am_bV (am_ex (d + 7) 91 [.ref 3, .int (nI p)] X) (fun t2 => am_bV (am_ex (d + 7) 152 [.ref 0, .int (nI p)] t2) (fun t3 => if nI p = nI 0 then (am_go am_X0 (am_ex (d + 7)) M125 72 [.ref 0, .int (nI p)] [] t3) else (am_bV (am_ex (d + 7) 151 [.ref 0, .int (nI p)] t3) (fun t4 => am_go am_X0 (am_ex (d + 7)) M125 72 [.ref 0, .int (nI p)] [] t4)))) = rI (nI (kc + 1)) X' ∧ EqC J X' ∧ EqM X X') ∧ (∀ Y, EqM σ Y → ∃ Y', am_bI (am_ex (d + 7) 177 [.ref 34] Y) (fun r1 t1 => if am_in (nI p) 85 = true then (am_bV (am_ex (d + 7) 232 [.ref 34, .int (nI p)] (am_wI t1 35 (nI p : Int32).toNatClampNeg r1)) (fun t2 => if nI p ≤ (nI 0) then (am_go am_X0 (am_ex (d + 7)) M243 122 [.ref 34, .int (nI p)] [] t2) else (if am_in (nI p) 85 = true then (am_bI (am_ex (d + 7) 179 [.int (nI p)] t2) (fun r3 t3 => if am_in r3 85 = true then (am_bV (am_ex (d + 7) 189 [.ref 34, .int (t2.1 35 (nI p : Int32).toNatClampNeg), .int (t3.1 35 (r3 : Int32).toNatClampNeg)] t3) (fun t4 => am_go am_X0 (am_ex (d + 7)) M243 122 [.ref 34, .int (nI p)] [] t4)) else none)) else none))) else none) = rI (nI (kc + 1)) Y' ∧ EqM J Y' ∧ Kp Y Y') := by
  have hkl := h.kl
  have hkey := h.base.key (p := p) (by omega) (by
    by_cases e : p = 0
    · exact Or.inl e
    · exact Or.inr (h.core.pars p (by omega) (by omega) hn)) hc
  have hk91 : ∀ X, EqC σ X → am_ex (d + 7) 91 [.ref 3, .int (nI p)] X = rV (rnw X kc p) := fun X eX => x91 _ X (by rw [eX.i 1 (by decide) (by decide)]; exact h.hk) (by omega) (by omega)
  have hk177 : ∀ Y, EqM σ Y → am_ex (d + 7) 177 [.ref 34] Y = rI (nI (kc + 1)) (am_set Y 34 (upd (Y.1 34) 21 (nI (kc + 1)))) := fun Y eY => y177 _ Y (by rw [eY.f 21 (by decide) (by decide)]; exact h.hk')
  have hmk : ∀ Y : am_M, am_wI (am_set Y 34 (upd (Y.1 34) 21 (nI (kc + 1)))) 35 (nI p : Int32).toNatClampNeg (nI (kc + 1)) = kyM Y kc p := fun Y => by
    unfold kyM; rw [am_wI_s, i_cl (by omega), s_ne _ _ (by decide)]
  have hLf : ∀ J : am_M, J.1 16 = upd (σ.1 16) p (nI (kc + 1)) → J.1 17 = σ.1 17 → Lf (kc + 1) rc rk (J.1 16) (J.1 17) := by
    intro J e16 e17
    rw [e16, e17]
    refine ⟨fun k hk => ?_, fun k hk r b hr hb e1 e2 => ?_⟩
    · rw [show upd (σ.1 16) p (nI (kc + 1)) (21 + k) = σ.1 16 (21 + k) from if_neg (by omega)]; exact h.lf.lfn k hk
    · rw [show upd (σ.1 16) p (nI (kc + 1)) (21 + k) = σ.1 16 (21 + k) from if_neg (by omega)] at e2
      refine h.lf.rkn k hk r b hr ?_ e1 e2
      rcases h.core.node (21 + k) (by omega) with e | ⟨k', a1, a2, a3, _⟩
      · rw [e] at e2; have := nI_inj (by omega) (by omega) e2; omega
      · rw [a3] at e2; have := nI_inj (by omega) (by omega) e2; omega
  have hch := chN_k (σ.1 16) (nI (kc + 1)) p
  have hv : upd (σ.1 16) p (nI (kc + 1)) p = nI (kc + 1) := if_pos rfl
  have hn1 : ¬ nI (kc + 1) = nI 0 := fun z => by have := nI_inj (by omega) (by omega) z; omega
  -- the answers at the end
  have ans : ∀ J X : am_M, EqC J X → J.1 16 p = nI (kc + 1) → am_go am_X0 (am_ex (d + 7)) M125 72 [.ref 0, .int (nI p)] [] X = rI (nI (kc + 1)) X := by
    intro J X eX e
    rw [q125_72, x77, bI_r, rd_n (by omega) (by omega), eX.i 16 (by decide) (by decide), e]
  have ansM : ∀ J Y : am_M, EqM J Y → J.1 35 p = nI (kc + 1) → am_go am_X0 (am_ex (d + 7)) M243 122 [.ref 34, .int (nI p)] [] Y = rI (nI (kc + 1)) Y := by
    intro J Y eY e
    rw [q243_122, if_pos (am_k (by omega) (by omega)), i_cl (by omega), eY.i 35 (by decide) (by decide) (by decide), e]
  have hkk : EqC (rnw σ kc p) (JK σ kc p) := kyM_C (EqC.refl _) kc p
  by_cases hcost : chN (σ.1 16) p + (if p = 0 then 0 else 1) = 0
  · have h0 : p = 0 := by
      by_cases e : p = 0
      · exact e
      · rw [if_neg e] at hcost; omega
    have hc0 : chN (σ.1 16) p = 0 := by omega
    refine ⟨JK σ kc p, _, ⟨hkey, hLf _ (JK_16 σ kc p) (JK_17 σ kc p)⟩, by rw [JK_16]; exact hv, fun X eX => ?_, fun Y eY => ?_⟩
    · have e1 := JK_C eX kc p
      refine ⟨rnw X kc p, ?_, e1, rnw_M (EqM.refl X) kc p⟩
      rw [hk91 X eX, bV_r, (wch0 (d + 2) (rnw X kc p) hp).1 (by rw [e1.i 16 (by decide) (by decide), JK_16, hch]; exact hc0), bV_r, if_pos (by rw [h0]), ans _ _ e1 (by rw [JK_16]; exact hv)]
    · have e1 := JK_M eY kc p
      refine ⟨kyM Y kc p, ?_, e1, (Kp.refl Y).k kc p⟩
      rw [hk177 Y eY, bI_r, if_pos (am_k (by omega) (by omega)), hmk, (wch0 (d + 6) (kyM Y kc p) hp).2 (by rw [e1.i 35 (by decide) (by decide) (by decide), show (JK σ kc p).1 35 = (JK σ kc p).1 16 from hkey.e35, JK_16, hch]; exact hc0), bV_r, if_pos (by rw [h0]; exact le00), ansM _ _ e1 (by rw [show (JK σ kc p).1 35 = (JK σ kc p).1 16 from hkey.e35, JK_16]; exact hv)]
  · obtain ⟨t, s, hw, hs⟩ := rm_Wr σ h.base hr (by omega)
    have hB : JB (c + 1) (kc + 1) md rc td (lvN lev (kc + 1) (lvl p)) rk t s (JK σ kc p) := ⟨hkey, hw.jk kc p⟩
    obtain ⟨J2, hB2, hF2, hX2, hY2⟩ := wch (d + 1) hB hp (ch := chN (σ.1 16) p) (by rw [JK_16]; exact hch.symm) (by omega)
    have e16 : J2.1 16 = upd (σ.1 16) p (nI (kc + 1)) := by rw [hF2.i 16 (by decide), JK_16]
    have e17 : J2.1 17 = σ.1 17 := by rw [hF2.i 17 (by decide), JK_17]
    by_cases h0 : p = 0
    · refine ⟨J2, _, ⟨hB2.v.up (by omega) (by omega), hLf _ e16 e17⟩, by rw [e16]; exact hv, fun X eX => ?_, fun Y eY => ?_⟩
      · obtain ⟨X', k1, k2, k3⟩ := hX2 _ (JK_C eX kc p)
        refine ⟨X', ?_, k2, (rnw_M (EqM.refl X) kc p).trans k3⟩
        rw [hk91 X eX, bV_r, k1, bV_r, if_pos (by rw [h0]), ans _ _ k2 (by rw [e16]; exact hv)]
      · obtain ⟨Y', k1, k2, k3⟩ := hY2 _ (JK_M eY kc p)
        refine ⟨Y', ?_, k2, ((Kp.refl Y).k kc p).trans k3⟩
        rw [hk177 Y eY, bI_r, if_pos (am_k (by omega) (by omega)), hmk, k1, bV_r, if_pos (by rw [h0]; exact le00), ansM _ _ k2 (by rw [hB2.v.e35, e16]; exact hv)]
    · have hpl := par_lt (p := p) (by omega)
      rw [if_neg h0] at hs
      have hn2 : ¬ J2.1 16 p = nI 0 := by rw [e16, hv]; exact hn1
      have hok := wrap_ok hB2.v (q := p) (by omega) (by omega) hn2
      have hB3 := hB2.jw (by omega) hok
      have hF3 := FW.jw J2 t (s + chN (σ.1 16) p) (nI 0) (J2.1 16 p) (J2.1 16 (par p)) (wrp (J2.1 1 1) (J2.1 16 p) (J2.1 16 (par p))).toInt64
      have f16 : (JW J2 t (s + chN (σ.1 16) p) (nI 0) (J2.1 16 p) (J2.1 16 (par p)) (wrp (J2.1 1 1) (J2.1 16 p) (J2.1 16 (par p))).toInt64).1 16 = upd (σ.1 16) p (nI (kc + 1)) := by rw [hF3.i 16 (by decide), e16]
      have f17 : (JW J2 t (s + chN (σ.1 16) p) (nI 0) (J2.1 16 p) (J2.1 16 (par p)) (wrp (J2.1 1 1) (J2.1 16 p) (J2.1 16 (par p))).toInt64).1 17 = σ.1 17 := by rw [hF3.i 17 (by decide), e17]
      refine ⟨_, _, ⟨hB3.v.up (by omega) (by omega), hLf _ f16 f17⟩, by rw [f16]; exact hv, fun X eX => ?_, fun Y eY => ?_⟩
      · obtain ⟨X', k1, k2, k3⟩ := hX2 _ (JK_C eX kc p)
        have k4 := JW_C k2 t (s + chN (σ.1 16) p) (nI 0) (J2.1 16 p) (J2.1 16 (par p)) (wrp (J2.1 1 1) (J2.1 16 p) (J2.1 16 (par p))).toInt64
        refine ⟨_, ?_, k4, (rnw_M (EqM.refl X) kc p).trans (wrE_M k3 _ _ _ _ _)⟩
        rw [hk91 X eX, bV_r, k1, bV_r, if_neg (by rw [i_eq, i_n (by omega), i_n (by omega)]; omega), x151 (d + 2) hB2.v hB2.w (by omega) k2 (by omega) (by omega), bV_r, ans _ _ k4 (by rw [f16]; exact hv)]
      · obtain ⟨Y', k1, k2, k3⟩ := hY2 _ (JK_M eY kc p)
        have k4 := JW_M k2 t (s + chN (σ.1 16) p) (nI 0) (J2.1 16 p) (J2.1 16 (par p)) (wrp (J2.1 1 1) (J2.1 16 p) (J2.1 16 (par p))).toInt64
        refine ⟨_, ?_, k4, ((Kp.refl Y).k kc p).trans (k3.w _ _ _ _ _ _)⟩
        rw [hk177 Y eY, bI_r, if_pos (am_k (by omega) (by omega)), hmk, k1, bV_r, if_neg (by rw [i_le, i_n (by omega), i_n (by omega)]; omega), if_pos (am_k (by omega) (by omega)), x179 _ _ (by omega) (by omega), bI_r, if_pos (am_k (by omega) (by omega)), i_cl (by omega), i_cl (by omega), k2.i 35 (by decide) (by decide) (by decide), hB2.v.e35, y189j (d + 4) hB2.v hB2.w (by omega) k2, bV_r, ansM _ _ k4 (by rw [hB3.v.e35, f16]; exact hv)]
theorem y187m {σ Y : am_M} (h : Inv0 c kc md rc td lev rk σ) (e : Em σ Y) {v : Int32} (hv : v = -1 ∨ ∃ t, t < md ∧ v = nI t ∧ σ.1 20 t = nI 0) {n : Nat} (hn : n < 1000) : am_ex (d + 1) 187 [.ref 34, .int v, .int (nI n)] Y = rI (bz (rmO σ v n)) Y := by
  rcases hv with hv | ⟨t, ht, hv, hst⟩
  · subst hv
    rw [y187n _ _ _ hn]
    rw [bz_c (show n = 0 ↔ rmO σ (-1) n from ⟨Or.inl, fun z => z.elim id (fun q => absurd rfl q.1)⟩)]
  · subst hv
    have hmb := h.core.mdb
    obtain ⟨hz1, hz2, _⟩ := h.core.med t ht
    rw [y187 d Y (md := md) hmb.2 ht (by rw [e.1 45 (by decide) (by decide) (by decide), (h.mdm t ht).2]; exact hz2) hz1 hn]
    rw [bz_c (show zn (σ.1 21) t + n ≤ 150 ∨ n = 0 ↔ rmO σ (nI t) n from ⟨fun z => z.elim (fun q => Or.inr ⟨nI_nm (by omega), by rw [i_cl (by omega)]; exact q⟩) Or.inl, fun z => z.elim Or.inr (fun q => Or.inl (by have := q.2; rw [i_cl (by omega)] at this; exact this))⟩)]
theorem y186m {σ Y : am_M} (h : Inv0 c kc md rc td lev rk σ) (e : Em σ Y) (b : Int32) : am_ex (d + 1) 186 [.ref 34, .int b] Y = rI (wrt (σ.1 20) b md) Y := by
  rw [x186 _ Y (by rw [e.2 22 (by decide) (by decide)]; exact h.hm') h.core.mdb.2, e.1 44 (by decide) (by decide) (by decide), wrt_c (fun m hm => (h.mdm m hm).1)]
theorem f125 {σ : am_M} (h : Inv c kc md rc td lev rk σ) (hc : c < 600) (x : Int32) : Fc (d + 8) 125 243 [.ref 0, .int x] [.ref 34, .int x] cdS (c + 1) σ := by
  by_cases hx : inR x 21
  · obtain ⟨hxe, hp⟩ := inR_of hx
    generalize x.toNatClampNeg = p at hxe hp
    subst hxe
    have hm0 : ∀ Z, am_ex (d + 8) 243 [.ref 34, .int (nI p)] Z = am_go am_X0 (am_ex (d + 7)) M243 18 [.ref 34, .int (nI p)] [.int (nI 0), .ref 34] Z := by
      intro Z
      rw [e243, q243_0, x173, bI_r, bz_t (by rw [i_64, i_n (by omega), show (0 : Int64).toInt = 0 by decide +kernel, show (20 : Int64).toInt = 20 by decide +kernel]; omega), if_neg n10]
    have hm67 : ∀ Z, am_go am_X0 (am_ex (d + 7)) M243 67 [.ref 34, .int (nI p)] [.ref 34] Z = rI (nI 0) (th Z (nI 2)) := by
      intro Z
      rw [q243_67, q243_72, th_w, th_v, if_neg le20]
    by_cases hn : σ.1 16 p = nI 0
    · refine Fc.x h hc (E := xIS) (Sm.refl σ) rfl ?_ ?_
      · rw [e125, q125_0, x144 _ σ _ (by omega), if_pos (inR_n hp (by omega)), bV_r, x78, bI_r]
        simp only [bz_0]
        rw [rd_n (by omega) (by omega), if_pos (fun z => z hn)]
      · intro Z hs hI
        refine ⟨nI 0, ?_⟩
        rw [hm0, q243_18, th_w, th_v, if_pos le00, if_pos (am_k (by omega) (by omega)), i_cl (by omega), th_ne _ _ (by decide), hI.e35, hs.i 16 (by decide) (by decide), if_pos hn, hm67, th_th]
        rfl
    · generalize hcs : chN (σ.1 16) p + (if p = 0 then 0 else 1) = cost
      have hcb : cost < 1000 := by
        have h4 : chN (σ.1 16) p ≤ 4 := cnt_le _ 4 0
        have h1 : (if p = 0 then 0 else 1) ≤ 1 := by split <;> omega
        omega
      have hcl : am_ex (d + 8) 125 [.ref 0, .int (nI p)] σ = am_bV (am_ex (d + 7) 146 [.ref 0, .int (nI cost)] σ) (fun t1 => am_bV (am_ex (d + 7) 91 [.ref 3, .int (nI p)] t1) (fun t2 => am_bV (am_ex (d + 7) 152 [.ref 0, .int (nI p)] t2) (fun t3 => if nI p = nI 0 then (am_go am_X0 (am_ex (d + 7)) M125 72 [.ref 0, .int (nI p)] [] t3) else (am_bV (am_ex (d + 7) 151 [.ref 0, .int (nI p)] t3) (fun t4 => am_go am_X0 (am_ex (d + 7)) M125 72 [.ref 0, .int (nI p)] [] t4))))) := by
        rw [e125, q125_0, x144 _ σ _ (by omega), if_pos (inR_n hp (by omega)), bV_r, x78, bI_r]
        simp only [bz_0]
        rw [rd_n (by omega) (by omega), if_neg (fun z => z hn), x89 _ σ hp, bI_r, q125_46, q125_46, nI_add, nI_add, ← hcs]
        by_cases h0 : p = 0
        · rw [if_pos (show nI p = nI 0 by rw [h0]), if_pos h0]
        · rw [if_neg (show ¬ nI p = nI 0 by rw [i_eq, i_n (by omega), i_n (by omega)]; omega), if_neg h0]
      have hml : ∀ Z, Em σ Z → am_ex (d + 8) 243 [.ref 34, .int (nI p)] Z = if rmP σ md cost then am_go am_X0 (am_ex (d + 7)) M243 72 [.ref 34, .int (nI p)] [.int (nI 0), .ref 34] (th Z (nI 0)) else rI (nI 0) (th Z (nI 2)) := by
        intro Z hs
        have hs2 := hs.th (nI 0)
        have e35 : (th Z (nI 0)).1 35 = σ.1 16 := by rw [hs2.1 35 (by decide) (by decide) (by decide), h.e35]
        rw [hm0, q243_18, th_w, th_v, if_pos le00, if_pos (am_k (by omega) (by omega)), i_cl (by omega), e35, if_neg hn, y186m _ h.base hs2, bI_r, y231 _ _ hp, bI_r, e35, q243_60, q243_60, nI_add, nI_add]
        have key : am_bI (am_ex (d + 7) 187 [.ref 34, .int (wrt (σ.1 20) (-1) md), .int (nI cost)] (th Z (nI 0))) (fun r1 t1 => if r1 = nI 0 then (am_go am_X0 (am_ex (d + 7)) M243 67 [.ref 34, .int (nI p)] [.ref 34] t1) else (am_go am_X0 (am_ex (d + 7)) M243 72 [.ref 34, .int (nI p)] [.int (nI 0), .ref 34] t1)) = if rmP σ md cost then am_go am_X0 (am_ex (d + 7)) M243 72 [.ref 34, .int (nI p)] [.int (nI 0), .ref 34] (th Z (nI 0)) else rI (nI 0) (th Z (nI 2)) := by
          rw [y187m _ h.base hs2 (wrt_o _ h.base (-1)) hcb, bI_r, hm67, th_th]
          by_cases hr : rmP σ md cost
          · rw [bz_t hr, if_neg n10, if_pos hr]
          · rw [bz_f hr, if_pos rfl, if_neg hr]
        rw [← key, ← hcs]
        by_cases h0 : p = 0
        · rw [if_pos (show nI p ≤ nI 0 by rw [h0]; exact le00), if_pos h0]
        · rw [if_neg (show ¬ nI p ≤ nI 0 by rw [i_le, i_n (by omega), i_n (by omega)]; omega), if_neg h0]
      by_cases hr : rmP σ md cost
      · obtain ⟨J, lev', hJ, hJv, hX, hY⟩ := rekJ d h hc hp hn (by rw [hcs]; exact hr)
        obtain ⟨X', k1, k2, k3⟩ := hX σ (EqC.refl σ)
        refine Or.inl ⟨nI (kc + 1), X', ?_, k3.n, fun Z hZ => ?_⟩
        · rw [hcl, x146 _ σ h.base hcb, if_pos hr, bV_r, k1]
        · have eMZ : EqM σ Z := k3.trans (hZ.1.m hZ.2)
          have eCZ : EqC J Z := k2.trans (hZ.1.c hZ.2)
          have hth : Sm Z (th Z (nI 0)) := (Sm.refl Z).th _
          obtain ⟨Y', m1, m2, m3⟩ := hY (th Z (nI 0)) (eMZ.trans (hth.m rfl))
          refine ⟨Y', ?_, m3.1.n, m3.2.trans (th_v _ _), kc + 1, md, rc, td, lev', rk, hJ.sm (Sm.of (eCZ.trans ((hth.c rfl).trans m3.1)) m2)⟩
          rw [hml Z eMZ.em, if_pos hr, q243_72, th_w, th_v, if_pos le00, th_th, m1]
      · refine Fc.x h hc (E := xIS) (Sm.refl σ) rfl ?_ ?_
        · rw [hcl, x146 _ σ h.base hcb, if_neg hr, bV_x]
        · intro Z hs _
          exact ⟨nI 0, by rw [hml Z hs.em, if_neg hr]; rfl⟩
  · refine Fc.x h hc (E := xIO) (Sm.refl σ) rfl ?_ ?_
    · rw [e125, q125_0, x144 _ σ _ (by omega), if_neg hx, bV_x]
    · intro Z _ _
      refine ⟨nI 0, ?_⟩
      rw [e243, q243_0, x173, bI_r, bz_f (by rw [i_64, show (0 : Int64).toInt = 0 by decide +kernel, show (20 : Int64).toInt = 20 by decide +kernel]; exact fun z => hx ⟨z.1, by omega⟩), if_pos rfl, q243_18, th_w, th_v, if_neg le10]
      rfl
end REK
