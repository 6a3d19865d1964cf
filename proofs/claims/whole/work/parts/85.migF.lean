/-! migrate: the call -/
section MGF
variable (d : Nat) {c kc md rc td : Nat} {lev rk : Nat → Nat} {σ : am_M}
/-- an intact medium is destroyed: both sides -/
theorem Inv.dst {J X Y : am_M} (h : Inv c kc md rc td lev rk J) (hX : EqC J X) (hY : EqM J Y) {m : Nat} (hm : m < md) (hst : J.1 20 m = nI 0) : Inv c kc md rc td lev rk (hy aM (am_set (am_set X 20 (upd (X.1 20) m (nI 2))) 21 (upd (X.1 21) m (nI 0))) (am_set (am_set Y 44 (upd (Y.1 44) m (nI 2))) 45 (upd (Y.1 45) m (nI 0)))) := by
  have hmb := h.core.mdb
  have hs := Sm.mix hX hY
  generalize hT : hy aM (am_set (am_set X 20 (upd (X.1 20) m (nI 2))) 21 (upd (X.1 21) m (nI 0))) (am_set (am_set Y 44 (upd (Y.1 44) m (nI 2))) 45 (upd (Y.1 45) m (nI 0))) = T
  have e20 : T.1 20 = upd (J.1 20) m (nI 2) := by rw [← hT, hm_C 20 (by decide), s_ne _ _ (by decide), s_eq, hX.i 20 (by decide) (by decide)]
  have e21 : T.1 21 = upd (J.1 21) m (nI 0) := by rw [← hT, hm_C 21 (by decide), s_eq, hX.i 21 (by decide) (by decide)]
  have e44 : T.1 44 = upd (J.1 44) m (nI 2) := by rw [← hT, hm_M 44 (by decide), s_ne _ _ (by decide), s_eq, hY.i 44 (by decide) (by decide) (by decide)]
  have e45 : T.1 45 = upd (J.1 45) m (nI 0) := by rw [← hT, hm_M 45 (by decide), s_eq, hY.i 45 (by decide) (by decide) (by decide)]
  have g : ∀ a, ¬ scr a → a ≠ 34 → ¬ mdc a → T.1 a = J.1 a := fun a a1 a2 a3 => by
    rw [← hs.i a a1 a2, ← hT]
    by_cases e : aM a = true
    · rw [hm_M a e, hm_M a e, s_ne _ _ (fun z => a3 (by unfold mdc; omega)), s_ne _ _ (fun z => a3 (by unfold mdc; omega))]
    · rw [hm_C a (by simpa using e), hm_C a (by simpa using e), s_ne _ _ (fun z => a3 (by unfold mdc; omega)), s_ne _ _ (fun z => a3 (by unfold mdc; omega))]
  have f : ∀ j, j ≠ 25 → j ≠ 27 → T.1 34 j = J.1 34 j := fun j j1 j2 => by
    rw [← hT, hm_M 34 (by decide), s_ne _ _ (by decide), s_ne _ _ (by decide)]; exact hY.f j j1 j2
  refine Inv.mdch h (md' := md) g (fun j j1 j2 _ => f j j1 j2) (fun a ha => ?_) hmb ?_ ?_ ?_ ?_ ?_ ?_
  · rw [← hs.j a ha, ← hT]
    rfl
  · rw [← hT, hm_C 4 (by decide), s_ne _ _ (by decide), s_ne _ _ (by decide), hX.i 4 (by decide) (by decide)]; exact h.hm
  · rw [f 22 (by decide) (by decide)]; exact h.hm'
  · intro q hq
    rw [e20, e21]
    obtain ⟨b1, b2, b3⟩ := h.core.med q hq
    by_cases e : q = m
    · have z1 : upd (J.1 21) m (nI 0) q = nI 0 := if_pos e
      have z2 := zn_0 z1
      refine ⟨by omega, by rw [z2]; exact z1, Or.inr (Or.inr ⟨if_pos e, z1⟩)⟩
    · have z1 : upd (J.1 21) m (nI 0) q = J.1 21 q := if_neg e
      have z2 : zn (upd (J.1 21) m (nI 0)) q = zn (J.1 21) q := by unfold zn; rw [z1]
      rw [z2, z1, show upd (J.1 20) m (nI 2) q = J.1 20 q from if_neg e]
      exact ⟨b1, b2, b3⟩
  · intro q hq i hi
    rw [e21] at hi
    by_cases e : q = m
    · rw [zn_0 (show upd (J.1 21) m (nI 0) q = nI 0 from if_pos e)] at hi; omega
    · have z2 : zn (upd (J.1 21) m (nI 0)) q = zn (J.1 21) q := by unfold zn; rw [show upd (J.1 21) m (nI 0) q = J.1 21 q from if_neg e]
      rw [z2] at hi
      exact ⟨hq, hi⟩
  · rw [e20, e21]
    refine usd_mono md (fun q hq => ?_)
    by_cases e : q = m
    · rw [if_neg (show ¬ J.1 20 q = nI 2 by rw [e, hst]; decide), show upd (J.1 20) m (nI 2) q = nI 2 from if_pos e, if_pos rfl]; exact (h.core.med q hq).1
    · have z2 : zn (upd (J.1 21) m (nI 0)) q = zn (J.1 21) q := by unfold zn; rw [show upd (J.1 21) m (nI 0) q = J.1 21 q from if_neg e]
      rw [z2, show upd (J.1 20) m (nI 2) q = J.1 20 q from if_neg e]; exact Nat.le_refl _
  · intro q hq
    rw [e20, e21, e44, e45]
    unfold upd
    by_cases e : q = m
    · rw [if_pos e, if_pos e, if_pos e, if_pos e]; exact ⟨rfl, rfl⟩
    · rw [if_neg e, if_neg e, if_neg e, if_neg e]; exact h.mdm q hq
theorem f134 (h : Inv c kc md rc td lev rk σ) (hc : c < 600) (x : Int32) : Fc (d + 8) 134 259 [.ref 0, .int x] [.ref 34, .int x] cdS (c + 1) σ := by
  have hmb := h.core.mdb
  by_cases hx : inR x md
  · obtain ⟨e0, hm⟩ := inR_of hx
    generalize x.toNatClampNeg = m at e0 hm
    subst e0
    have hz := (h.core.med m hm).1
    generalize hL : ndL σ md m (zn (σ.1 21) m) = L
    have hLc : L.length = cnt (ndP σ md m) (m * 150) (zn (σ.1 21) m) := by rw [← hL]; exact ndL_len σ m _
    have hLb : L.length ≤ 150 := by
      have : cnt (ndP σ md m) (m * 150) (zn (σ.1 21) m) ≤ zn (σ.1 21) m := cnt_le _ _ _
      omega
    have hv := wrt_m (st := σ.1 20) (but := nI m) (md := md)
    generalize hve : wrt (σ.1 20) (nI m) md = v at hv
    have hv' : v = -1 ∨ ∃ t, t < md ∧ v = nI t ∧ σ.1 20 t = nI 0 := hv.imp id (fun ⟨t, a, b, e, _⟩ => ⟨t, a, b, e⟩)
    have hm58 : ∀ Z, am_go am_X0 (am_ex (d + 7)) M259 58 [.ref 34, .int (nI m), .int v, .int (nI L.length), .null] [.ref 34] Z = rI (nI 0) (th Z (nI 2)) := fun Z => by
      rw [q259_58, q259_63, th_w, th_v, if_neg le20]
    have hml : ∀ Z, Sm σ Z → Inv c kc md rc td lev rk Z → am_ex (d + 8) 259 [.ref 34, .int (nI m)] Z = if σ.1 20 m = nI 2 then rI (nI 0) (th Z (nI 2)) else if rmO σ v L.length then am_go am_X0 (am_ex (d + 7)) M259 82 [.ref 34, .int (nI m), .int v, .int (nI L.length), .int (nI (m * 150))] [] (th Z (nI 0)) else rI (nI 0) (th Z (nI 2)) := fun Z hs hI => by
      have hT : Sm Z (th Z (nI 0)) := (Sm.refl Z).th _
      have hIT := hI.sm hT
      have hsT := hs.trans hT
      have e253 := y253 (d + 3) _ hIT hm
      have ez : zn ((th Z (nI 0)).1 21) m = zn (σ.1 21) m := by unfold zn; rw [hsT.i 21 (by decide) (by decide)]
      rw [ez, cnt_c _ _ (fun a _ _ => nd_sm hsT md m a), ← hLc] at e253
      have e44 : (th Z (nI 0)).1 44 m = σ.1 20 m := by rw [(hIT.mdm m hm).1, hsT.i 20 (by decide) (by decide)]
      have e187 := y187m (d + 6) h.base hsT.em hv' (n := L.length) (by omega)
      have e186 := y186m (d + 6) h.base hsT.em (nI m)
      rw [hve] at e186
      rw [e259, q259_0, x185 _ _ hI.hm' hmb.2, bI_r, bz_t (inR_n hm (by omega)), if_neg n10, q259_14, th_w, th_v, if_pos le00, e186, bI_r, e253, bI_r, if_pos (am_k (by omega) (by omega)), i_cl (by omega), e44, hm58, e187, bI_r, hm58, q259_63, th_w, th_v, if_pos le00, th_th, th_th, mx150]
      by_cases a : σ.1 20 m = nI 2
      · rw [if_pos a, if_pos a]
      · rw [if_neg a, if_neg a]
        by_cases b : rmO σ v L.length
        · rw [bz_t b, if_neg n10, if_pos b]
        · rw [bz_f b, if_pos rfl, if_neg b]
    have hcl0 : am_ex (d + 8) 134 [.ref 0, .int (nI m)] σ = if σ.1 20 m = nI 2 then rX xIS (am_tick σ) else am_bI (am_ex (d + 7) 7 [.ref 6, .int (nI m)] σ) (fun r4 t4 => am_bI (am_ex (d + 7) 38 [.ref 4, .int (nI m)] t4) (fun r5 t5 => am_bV (am_ex (d + 7) 147 [.ref 0, .int r5, .int r4] t5) (fun t6 => am_go am_X0 (am_ex (d + 7)) M134 61 [.ref 0, .int (nI m), .int r4, .int r5, .int (nI 0)] [] t6))) := by
      rw [e134, q134_0, x32, bI_r, h.hm, x144 _ _ _ (by omega), if_pos (inR_n hm (by omega)), bV_r, x34 _ _ h.hm hmb.2, bI_r, rd_n hm (by omega)]
    by_cases hst2 : σ.1 20 m = nI 2
    · exact Fc.x h hc (E := xIS) (Sm.refl σ) rfl (by rw [hcl0, if_pos hst2]) (fun Z hs hI => ⟨nI 0, by rw [hml Z hs hI, if_pos hst2]; rfl⟩)
    · obtain ⟨f, g, e7, hg⟩ := x7 (d + 1) σ h hm
      rw [hL] at e7 hg
      have hG : Sm σ (am_set (am_set σ 27 f) 28 g) := ((Sm.refl σ).set (by decide) f).set (by decide) g
      have hcl : am_ex (d + 8) 134 [.ref 0, .int (nI m)] σ = if rmO σ v L.length then am_go am_X0 (am_ex (d + 7)) M134 61 [.ref 0, .int (nI m), .int (nI L.length), .int v, .int (nI 0)] [] (am_set (am_set σ 27 f) 28 g) else rX xIS (am_tick (am_set (am_set σ 27 f) 28 g)) := by
        have e38 : am_ex (d + 7) 38 [.ref 4, .int (nI m)] (am_set (am_set σ 27 f) 28 g) = rI v (am_set (am_set σ 27 f) 28 g) := by
          rw [x38 (d + 4) _ (h.base.sm hG).hm hmb.2, hG.i 20 (by decide) (by decide), hve]
        have e147 := x147 (d + 4) _ (h.base.sm hG) (v := v) (by rw [hG.i 20 (by decide) (by decide)]; exact hv') (n := L.length) (by omega)
        have hro : rmO (am_set (am_set σ 27 f) 28 g) v L.length ↔ rmO σ v L.length := by unfold rmO; rw [hG.i 21 (by decide) (by decide)]
        rw [hcl0, if_neg hst2, e7, bI_r, e38, bI_r, e147]
        by_cases b : rmO σ v L.length
        · rw [if_pos (hro.mpr b), bV_r, if_pos b]
        · rw [if_neg (fun z => b (hro.mp z)), bV_x, if_neg b]
      by_cases hrm : rmO σ v L.length
      · -- the ends of both runs
        have fin : ∀ (J X' : am_M), Inv (c + 1) kc md rc td lev rk J → FW σ J → J.1 21 m = σ.1 21 m → EqC J X' → EqM σ X' → am_go am_X0 (am_ex (d + 7)) M134 61 [.ref 0, .int (nI m), .int (nI L.length), .int v, .int (nI 0)] [] (am_set (am_set σ 27 f) 28 g) = am_go am_X0 (am_ex (d + 7)) M134 61 [.ref 0, .int (nI m), .int (nI L.length), .int v, .int (nI L.length)] [] X' → (∀ Y, EqM σ Y → ∃ Y', am_go am_X0 (am_ex (d + 7)) M259 82 [.ref 34, .int (nI m), .int v, .int (nI L.length), .int (nI (m * 150))] [] Y = am_go am_X0 (am_ex (d + 7)) M259 82 [.ref 34, .int (nI m), .int v, .int (nI L.length), .int (nI (m * 150 + zn (σ.1 21) m))] [] Y' ∧ EqM J Y' ∧ Kp Y Y') → Fc (d + 8) 134 259 [.ref 0, .int (nI m)] [.ref 34, .int (nI m)] cdS (c + 1) σ := by
          intro J X' hI hF hJm hX hXM hrunC hrunM
          have x20 : X'.1 20 m = σ.1 20 m := by rw [hX.i 20 (by decide) (by decide), hF.i 20 (by decide)]
          have hmx : X'.1 4 5 = nI md := by rw [hX.i 4 (by decide) (by decide)]; exact hI.hm
          have endC : am_go am_X0 (am_ex (d + 7)) M134 61 [.ref 0, .int (nI m), .int (nI L.length), .int v, .int (nI L.length)] [] X' = if σ.1 20 m = nI 0 then rI (nI L.length) (am_set (am_set X' 20 (upd (X'.1 20) m (nI 2))) 21 (upd (X'.1 21) m (nI 0))) else rI (nI L.length) X' := by
            rw [q134_61, if_pos (by rw [i_le]; exact Int.le_refl _), x34 _ _ hmx hmb.2, bI_r, rd_n hm (by omega), x20, x39 _ _ hmx hmb.2 hm, bV_r, if_pos rfl]
          have endM : ∀ Y', EqM J Y' → am_go am_X0 (am_ex (d + 7)) M259 82 [.ref 34, .int (nI m), .int v, .int (nI L.length), .int (nI (m * 150 + zn (σ.1 21) m))] [] Y' = if σ.1 20 m = nI 0 then rI (nI L.length) (am_set (am_set Y' 44 (upd (Y'.1 44) m (nI 2))) 45 (upd (Y'.1 45) m (nI 0))) else rI (nI L.length) Y' := fun Y' hY' => by
            have y44 : Y'.1 44 m = σ.1 20 m := by rw [hY'.i 44 (by decide) (by decide) (by decide), (hI.mdm m hm).1, hF.i 20 (by decide)]
            have y45 : Y'.1 45 m = nI (zn (σ.1 21) m) := by rw [hY'.i 45 (by decide) (by decide) (by decide), (hI.mdm m hm).2, hJm]; exact (h.core.med m hm).2.1
            rw [q259_82, if_pos (am_k (by omega) (by omega)), i_cl (by omega), y45, mx150, nI_add (m * 150) (zn (σ.1 21) m), if_pos (show nI (m * 150 + zn (σ.1 21) m) ≤ nI (m * 150 + zn (σ.1 21) m) by rw [i_le]; exact Int.le_refl _), if_pos (am_k (by omega) (by omega)), y44, if_pos (am_k (by omega) (by omega)), if_pos (am_k (by omega) (by omega)), am_wI_s, am_wI_s, s_ne _ _ (show (45 : Nat) ≠ 44 by decide)]
          by_cases hst : σ.1 20 m = nI 0
          · refine Fc.ch2 (X := am_set (am_set X' 20 (upd (X'.1 20) m (nI 2))) 21 (upd (X'.1 21) m (nI 0))) (v := nI L.length) (by rw [hcl, if_pos hrm, hrunC, endC, if_pos hst]) ((hXM.setC (by decide) _).setC (by decide) _) (by decide) (okM2 _) (fun W hW hWn => ?_)
            have hT : Sm σ (th W (nI 0)) := hW.th _
            obtain ⟨Y', k1, k2, k3⟩ := hrunM (th W (nI 0)) (hT.m hWn)
            refine ⟨am_set (am_set Y' 44 (upd (Y'.1 44) m (nI 2))) 45 (upd (Y'.1 45) m (nI 0)), by rw [hml W hW (h.sm hW), if_neg hst2, if_pos hrm, k1, endM Y' k2, if_pos hst], k3.1.n, by rw [s_ne _ _ (by decide), s_ne _ _ (by decide), k3.2, th_v], kc, md, rc, td, lev, rk, hI.dst hX k2 hm (by rw [hF.i 20 (by decide)]; exact hst)⟩
          · refine Fc.ch2 (X := X') (v := nI L.length) (by rw [hcl, if_pos hrm, hrunC, endC, if_neg hst]) hXM (by decide) (okM2 _) (fun W hW hWn => ?_)
            have hT : Sm σ (th W (nI 0)) := hW.th _
            obtain ⟨Y', k1, k2, k3⟩ := hrunM (th W (nI 0)) (hT.m hWn)
            exact ⟨Y', by rw [hml W hW (h.sm hW), if_neg hst2, if_pos hrm, k1, endM Y' k2, if_neg hst], k3.1.n, by rw [k3.2, th_v], kc, md, rc, td, lev, rk, hI.sm (Sm.mix hX k2)⟩
        rcases hv with ev | ⟨t, ht, ev, hst, hne⟩
        · have hL0 : L.length = 0 := by
            rcases hrm with z | z
            · exact z
            · exact absurd ev z.1
          refine fin σ (am_set (am_set σ 27 f) 28 g) (h.up (by omega) (by omega)) (FW.refl σ) rfl (hG.c rfl) (hG.m rfl) (by rw [hL0]) (fun Y hY => ⟨Y, ?_, hY, Kp.refl Y⟩)
          have hno := cnt_0 _ _ (hLc.symm.trans hL0)
          refine lp_mem 0 (zn (σ.1 21) m) (by omega) (fun i => am_go am_X0 (am_ex (d + 7)) M259 82 [.ref 34, .int (nI m), .int v, .int (nI L.length), .int (nI (m * 150 + i))] [] Y) (fun i _ hi => ?_)
          show am_go am_X0 (am_ex (d + 7)) M259 82 [.ref 34, .int (nI m), .int v, .int (nI L.length), .int (nI (m * 150 + i))] [] Y = am_go am_X0 (am_ex (d + 7)) M259 82 [.ref 34, .int (nI m), .int v, .int (nI L.length), .int (nI (m * 150 + (i + 1)))] [] Y
          have y45 : Y.1 45 m = nI (zn (σ.1 21) m) := by rw [hY.i 45 (by decide) (by decide) (by decide)]; exact h.base.s45 hm
          rw [q259_82, if_pos (am_k (by omega) (by omega)), i_cl (by omega), y45, mx150, nI_add (m * 150) (zn (σ.1 21) m), if_neg (show ¬ nI (m * 150 + zn (σ.1 21) m) ≤ nI (m * 150 + i) by rw [i_le, i_n (by omega), i_n (by omega)]; omega), y252f (d + 4) h hY hm hi, bI_r, bz_f (hno (m * 150 + i) (by omega) (by omega)), if_pos rfl, show nI (m * 150 + i) + nI 1 = nI (m * 150 + (i + 1)) from nI_1 _]
        · have hmt : m ≠ t := fun z => hne (by rw [z])
          have hroom : zn (σ.1 21) t + L.length ≤ 150 := by
            have := (h.core.med t ht).1
            rcases hrm with z | ⟨_, z⟩
            · omega
            · rw [ev, i_cl (by omega)] at z; exact z
          obtain ⟨J, hP, hX, hY⟩ := migJ (d + 3) (d + 4) h hm ht hmt hst rfl (by rw [hL]; exact hroom) (g := g) (by rw [hL]; exact hg) (nI L.length) (zn (σ.1 21) m) (Nat.le_refl _)
          rw [hL] at hX hP
          obtain ⟨X', k1, k2, k3, _⟩ := hX _ (hG.c rfl) (s_eq _ _ _)
          have hIJ : Inv (c + 1) kc md rc td lev rk J := ⟨hP.v.up (by omega) (by omega), by rw [hP.fw.i 16 (by decide), hP.fw.i 17 (by decide)]; exact h.lf⟩
          rw [ev] at fin
          exact fin J X' hIJ hP.fw (hP.ot m hm hmt).1 k2 ((hG.m rfl).trans k3) k1 hY
      · exact Fc.x h hc (E := xIS) hG rfl (by rw [hcl, if_neg hrm]) (fun Z hs hI => ⟨nI 0, by rw [hml Z hs hI, if_neg hst2, if_neg hrm]; rfl⟩)
  · refine Fc.x h hc (E := xIO) (Sm.refl σ) rfl ?_ (fun Z hs hI => ⟨nI 0, ?_⟩)
    · rw [e134, q134_0, x32, bI_r, h.hm, x144 _ _ _ (by omega), if_neg hx, bV_x]
    · rw [e259, q259_0, x185 _ _ hI.hm' hmb.2, bI_r, bz_f hx, if_pos rfl, q259_14, th_w, th_v, if_neg le10]; rfl
end MGF
