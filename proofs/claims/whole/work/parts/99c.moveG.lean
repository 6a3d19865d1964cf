/-! move: what it shows -/
section MVG
variable (d : Nat) {c kc md rc td : Nat} {lev rk : Nat → Nat} {σ : am_M}
theorem sLv_of {a b : Nat} (ha : 1 ≤ a ∧ a < 85) (hb : 1 ≤ b ∧ b < 85) (hl : lvl a = lvl b) (hab : a ≠ b) : sLv a b := by
  have h1 : ∀ p, 1 ≤ p → p < 85 → (p < 5 ∧ lvl p = 1) ∨ (5 ≤ p ∧ p < 21 ∧ lvl p = 2) ∨ (21 ≤ p ∧ lvl p = 3) := fun p h1 h2 => by
    unfold lvl
    (repeat' split) <;> omega
  have := h1 a ha.1 ha.2
  have := h1 b hb.1 hb.2
  exact ⟨hab, by omega⟩
theorem Pr_pa {a b : Nat} (hs : sLv a b) : (∀ y, ¬ Pr a b (par a) y) ∧ ∀ x, ¬ Pr a b x (par a) := by
  unfold par
  constructor
  · intro y z
    rcases z with ⟨z1, z2⟩ | ⟨z0, j, z1, z2, z3⟩ | ⟨z0, j, z1, z2, z3⟩ <;> omega
  · intro y z
    rcases z with ⟨z1, z2⟩ | ⟨z0, j, z1, z2, z3⟩ | ⟨z0, j, z1, z2, z3⟩ <;> omega
theorem f126 (h : Inv c kc md rc td lev rk σ) (hc : c < 600) (x y : Int32) : Fc (d + 8) 126 246 [.ref 0, .int x, .int y] [.ref 34, .int x, .int y] cd3 (c + 1) σ := by
  have hkl := h.kl
  have hrb := h.core.rcb
  by_cases hr0 : (1 ≤ x.toInt ∧ x.toInt ≤ 84) ∧ (1 ≤ y.toInt ∧ y.toInt ≤ 84)
  · obtain ⟨hxe, hxl⟩ := inR_of (show inR x 85 from ⟨by omega, by omega⟩)
    obtain ⟨hye, hyl⟩ := inR_of (show inR y 85 from ⟨by omega, by omega⟩)
    generalize x.toNatClampNeg = a at hxe hxl
    generalize y.toNatClampNeg = b at hye hyl
    subst hxe
    subst hye
    have ha : 1 ≤ a ∧ a < 85 := ⟨by have := hr0.1.1; rw [i_n (by omega)] at this; omega, hxl⟩
    have hb : 1 ≤ b ∧ b < 85 := ⟨by have := hr0.2.1; rw [i_n (by omega)] at this; omega, hyl⟩
    obtain ⟨cA, cB, cC⟩ := c126 d h ha hb
    by_cases hl : lvl a = lvl b
    · by_cases hm : mvO σ a b
      · have hew := eW_le (σ.1 16) (lvl (par b)) (par b)
        have hlp := lvl_par (p := b) (by omega) hb.2
        have hlb3 := lvl_3 b
        have hpb := par_lt (p := b) (by omega)
        have hpa := par_lt (p := a) (by omega)
        have hlpa := lvl_par (p := a) (by omega) ha.2
        by_cases hr : rmP σ md (eW (σ.1 16) (lvl (par b)) (par b) + 1)
        · have cC := cC hl hm
          rw [x146 (d + 3) σ h.base (by omega), if_pos hr, bV_r] at cC
          generalize hee : eW (σ.1 16) (lvl (par b)) (par b) = e at hew hr cC
          obtain ⟨m1, m2, m3⟩ := hm
          have hab : a ≠ b := fun z => by rw [z] at m1; exact m1 m2
          have hs : sLv a b := sLv_of ha hb hl hab
          obtain ⟨t, s, hw, hws⟩ := rm_Wr σ h.base hr (by omega)
          have hB0 : JB c kc md rc td lev rk t s σ := ⟨h.base, hw⟩
          obtain ⟨J1, lev1, hB1, hF1, _, hq1, hne1, _, hX1, hY1⟩ := bld (d + 1) (d + 3 - lvl (par b)) hB0 hc (pp := par b) (by omega) (by rw [hee]; omega) (lvl (par b)) (Nat.le_refl _)
          rw [anc_t, hee] at hB1
          rw [anc_t] at hne1
          rw [anc_t, show d + 3 - lvl (par b) + 4 + lvl (par b) = d + 7 by omega] at hY1
          have hkl1 := hB1.v.kl
          -- places of greater levels stay
          have q16 : ∀ q, lvl (par b) < lvl q → J1.1 16 q = σ.1 16 q := fun q hq => by
            rcases hq1 q with z | ⟨_, i, hi, z⟩
            · exact z
            · have := (anc_l (show par b < 85 by omega) hi).1
              rw [← z] at this
              omega
          have b16 : J1.1 16 b = nI 0 := by rw [q16 b (by omega)]; exact m2
          have a16 : ¬ J1.1 16 a = nI 0 := by rw [q16 a (by omega)]; exact m1
          have e17 : J1.1 17 = σ.1 17 := hF1.i 17 (by decide)
          have e19 : J1.1 19 = σ.1 19 := hF1.i 19 (by decide)
          have hL1 : Lf (kc + e) rc rk (J1.1 16) (J1.1 17) := by
            rw [e17]
            refine ⟨fun k hk => ?_, fun k hk r b' hr' hb' e1 e2 => ?_⟩
            · rw [q16 (21 + k) (by rw [lvl_lf (show 21 ≤ 21 + k by omega)]; omega)]; exact h.lf.lfn k hk
            · rw [q16 (21 + k) (by rw [lvl_lf (show 21 ≤ 21 + k by omega)]; omega)] at e2
              refine h.lf.rkn k hk r b' hr' ?_ e1 e2
              rcases h.core.node (21 + k) (by omega) with z | ⟨k', z1, z2, z3, _⟩
              · rw [z] at e2; have := nI_inj (by omega) (by omega) e2; omega
              · rw [z3] at e2; have := nI_inj (by omega) (by omega) e2; omega
          have hmk : ∀ k y, Pr a b (21 + k) y → J1.1 19 k = nI 0 := fun k y z => by
            rw [e19]
            have hbl := Pr_bl hs z
            have hk64 : k < 64 := by have := (Pr_b hs z).2.1; omega
            rcases h.mrk k hk64 with w | ⟨w1, w2⟩
            · exact w
            · refine absurd ?_ m3
              rw [ext_iff]
              exact ⟨k, hbl.1, hbl.2, w2, Or.inl (by rw [w1]; exact n10)⟩
          -- the class, until it has moved
          obtain ⟨X1, u1, k1, k2, k3, k4⟩ := hX1 σ (EqC.refl σ)
          have r153 : am_ex (d + 7) 153 [.ref 0, .int (nI (par b))] σ = rV X1 := by
            rw [e153, q153_0, k1, q153_2 _ _ _ _ k2, x165 _ _ (by omega), bI_r, if_pos (by rw [i_lt, i_n (by omega), i_n (by omega)]; omega)]
          obtain ⟨X2, r92, hMv⟩ := x92 (d + 3) hB1.v k3 hs
          -- the reference, until it has moved
          have ref : ∀ W, Sm σ W → W.2.2 = σ.2.2 → ∃ Y1 Y2, EqM J1 Y1 ∧ Kp (th W (nI 0)) Y1 ∧ MvM rc Y1 (Pr a b) Y2 ∧ am_ex (d + 7) 201 [.ref 34, .int (nI (par b))] (th W (nI 0)) = rV Y1 ∧ am_ex (d + 7) 245 [.ref 34, .int (nI a), .int (nI b)] Y1 = rI (nI (cnt (fun k => ¬ σ.1 17 k = -1) (fst a) (lvs a))) Y2 := by
            intro W hW hWn
            obtain ⟨Y1, g1, g2, g3⟩ := hY1 (th W (nI 0)) ((hW.th (nI 0)).m hWn)
            obtain ⟨Y2, g4, g5⟩ := y245 (d + 4) hB1.v g2 hs
            refine ⟨Y1, Y2, g2, g3, g5, g1, ?_⟩
            have y37 : Y1.1 37 = σ.1 17 := by rw [g2.i 37 (by decide) (by decide) (by decide), hB1.v.e37, e17]
            rw [g4, y37]
          obtain ⟨Ys1, Ys2, gs1, gs2, gs3, _, _⟩ := ref σ (Sm.refl σ) rfl
          obtain ⟨hI2, hL2, p16, u16, p17⟩ := mvJ hB1.v hL1 hs k3 gs1 hMv gs3 b16 hne1 hmk
          have nX2 : X2.2.2 = σ.2.2 := by rw [hMv.j, k4.n]
          have nY2 : Ys2.2.2 = σ.2.2 := by rw [gs3.j, gs2.1.n]; rfl
          have c2 : EqC (hy aM X2 Ys2) X2 := hy_C (by rw [nX2, nY2])
          have o2 : ∀ a, a = 20 ∨ a = 21 → (hy aM X2 Ys2).1 a = J1.1 a := fun a ha => by
            rw [← c2.i a (by omega) (by unfold scr; omega), hMv.o a (by omega) (by omega) (by omega) (by omega) (by omega), k3.i a (by omega) (by unfold scr; omega)]
          have mvEq : ∀ Y1 Y2, EqM J1 Y1 → MvM rc Y1 (Pr a b) Y2 → EqM (hy aM X2 Ys2) Y2 := fun Y1 Y2 g1 g2 => mvE hB1.v hL1 hs k3 gs1 g1 hMv gs3 g2 b16 hne1 hmk
          generalize hJ2 : hy aM X2 Ys2 = J2 at hI2 hL2 p16 u16 p17 c2 o2 mvEq
          have w2 : Wr md t (s + e) J2 := ⟨hB1.w.lt, by rw [o2 20 (by decide)]; exact hB1.w.w, by rw [o2 20 (by decide)]; exact hB1.w.st, by rw [o2 21 (by decide)]; exact hB1.w.sz⟩
          have hB2 : JB c (kc + e) md rc td lev1 rk t (s + e) J2 := ⟨hI2, w2⟩
          have jb : ¬ J2.1 16 b = nI 0 := by rw [(p16 a b (Or.inl ⟨rfl, rfl⟩)).1]; exact a16
          have hok := wrap_ok hI2 (q := b) (by omega) hb.2 jb
          have hB3 := hB2.jw (by omega) hok
          have hF3 := FW.jw J2 t (s + e) (nI 0) (J2.1 16 b) (J2.1 16 (par b)) (wrp (J2.1 1 1) (J2.1 16 b) (J2.1 16 (par b))).toInt64
          have c3 := JW_C c2 t (s + e) (nI 0) (J2.1 16 b) (J2.1 16 (par b)) (wrp (J2.1 1 1) (J2.1 16 b) (J2.1 16 (par b))).toInt64
          have c3m := fun (Y : am_M) (hY : EqM J2 Y) => JW_M hY t (s + e) (nI 0) (J2.1 16 b) (J2.1 16 (par b)) (wrp (J2.1 1 1) (J2.1 16 b) (J2.1 16 (par b))).toInt64
          generalize hJ3 : JW J2 t (s + e) (nI 0) (J2.1 16 b) (J2.1 16 (par b)) (wrp (J2.1 1 1) (J2.1 16 b) (J2.1 16 (par b))).toInt64 = J3 at hB3 hF3 c3 c3m
          have f16 : J3.1 16 = J2.1 16 := hF3.i 16 (by decide)
          have f17 : J3.1 17 = J2.1 17 := hF3.i 17 (by decide)
          -- pruning
          have pa16 : ¬ J3.1 16 (anc a (lvl a - 1)) = nI 0 := by
            have hanc : anc a (lvl a - 1) = par a := by
              rw [anc_p (show lvl a - 1 + 1 ≤ lvl a by omega), show lvl a - 1 + 1 = lvl a by omega, anc_t]
            rw [hanc, f16, u16 (par a) (Pr_pa hs).1 (Pr_pa hs).2]
            exact hB1.v.core.pars a (by omega) ha.2 a16
          obtain ⟨J4, hI4, hL4, i17, hX4, hY4⟩ := prn (d + 2) (d + 6) ha.2 (lvl a - 1) (by omega) J3 hB3.v (by rw [f16, f17]; exact hL2) pa16
          obtain ⟨X4, r4, c4, m4⟩ := hX4 _ .null c3 rfl
          have r93 : am_ex (d + 7) 93 [.ref 3, .int (nI a)] (wrE X2 t (s + e) (nI 0) (J2.1 16 b) (J2.1 16 (par b))) = rV X4 := by
            rw [e93, q93_0, x165 _ _ ha.2, nI_r, nI_sub (by omega) (by omega), r4]
          have r151 := x151 (d + 2) hI2 w2 (by omega) c2 (p := b) (by omega) hb.2
          have hfb := fst_le hb.2
          have x17 : X4.1 17 = J2.1 17 := by rw [c4.i 17 (by decide) (by decide), i17, f17]
          have hlv : lvs a = lvs b ∧ 0 < lvs a := by
            have h0 : 0 < lvs a := by unfold lvs; (repeat' split) <;> omega
            exact ⟨(Pr_fs hs h0).2, h0⟩
          have hcnt : cnt (fun k => ¬ X4.1 17 k = -1) (fst b) (lvs b) = cnt (fun k => ¬ σ.1 17 k = -1) (fst a) (lvs a) := by
            have g1 := cnt_sh (fun k => ¬ X4.1 17 k = -1) (fst b) (lvs b) 0
            have g2 := cnt_sh (fun k => ¬ σ.1 17 k = -1) (fst a) (lvs a) 0
            rw [Nat.add_zero] at g1 g2
            rw [← g1, ← g2, ← hlv.1]
            refine cnt_c _ 0 (fun j _ hj => ?_)
            have := p17 _ _ (Pr_fs hs (j := j) (by omega)).1
            rw [x17, this, e17]
          have mX2 : EqM X1 X2 := ⟨fun a h1 h2 _ => hMv.o a (by omega) (by omega) (by omega) (by omega) (by omega), fun j _ _ => by rw [hMv.o 34 (by decide) (by decide) (by decide) (by decide) (by decide)], by rw [hMv.j], by rw [hMv.j], by rw [hMv.j]⟩
          have mAll : EqM σ X4 := (wrE_M (k4.trans mX2) _ _ _ _ _).trans m4
          refine Fc.ch2 (X := X4) (v := nI (cnt (fun k => ¬ σ.1 17 k = -1) (fst a) (lvs a))) ?_ mAll (by decide) (okM3 _ _) (fun W hW hWn => ?_)
          · rw [cC, r153, bV_r, r92, bV_r, r151, bV_r, r93, bV_r, x170 (d + 4) _ hb.2, bI_r, x169 (d + 5) _ hb.2, bI_r, nI_add, x88 (d + 4) _ (by omega) hfb, bI_r, show fst b + lvs b - fst b = lvs b by omega, hcnt]
          · obtain ⟨Y1, Y2, g1, g2, g3, g4, g5⟩ := ref W hW hWn
            have hy3 := (y246h d h ha hb hW).2.2 hl ⟨m1, m2, m3⟩ (by rw [hee]; exact hr)
            have gM := mvEq Y1 Y2 g1 g3
            have gM3 := c3m Y2 gM
            obtain ⟨Y4, s4, f4, t4⟩ := hY4 _ (nI a) (nI b) (nI (cnt (fun k => ¬ σ.1 17 k = -1) (fst a) (lvs a))) gM3
            have hanc : anc a (lvl a - 1) = par a := by
              rw [anc_p (show lvl a - 1 + 1 ≤ lvl a by omega), show lvl a - 1 + 1 = lvl a by omega, anc_t]
            rw [hanc] at s4
            have y35 : Y2.1 35 = J2.1 16 := by rw [gM.i 35 (by decide) (by decide) (by decide), hI2.e35]
            have kY : Kp Y1 Y2 := ⟨⟨fun a h1 h2 => g3.o a (by omega) (by omega) (by omega), by rw [g3.j], by rw [g3.j]⟩, by rw [g3.o 34 (by decide) (by decide) (by decide)]⟩
            have kAll : Kp (th W (nI 0)) Y4 := ((g2.trans kY).w _ _ _ _ _ _).trans t4
            refine ⟨Y4, ?_, kAll.1.n, kAll.2.trans (th_v _ _), kc + e, md, rc, td, lev1, rk, Inv.sm ⟨hI4.up (by omega) (by omega), hL4⟩ (Sm.mix c4 f4)⟩
            rw [hy3, x179 _ _ (by omega) (by omega), bI_r, g4, bV_r, g5, bI_r, if_pos (am_k hb.2 (by omega)), x179 _ _ (by omega) (by omega), bI_r, if_pos (am_k (show par b < 85 by omega) (by omega)), i_cl (show b < 2 ^ 31 by omega), i_cl (show par b < 2 ^ 31 by omega), y35, y189j (d + 4) hI2 w2 (by omega) gM, bV_r, x179 _ _ (by omega) (by omega), bI_r, s4]
        · refine Fc.x h hc (E := xIS) (Sm.refl σ) rfl ?_ (fun Z hs _ => ⟨nI 0, ?_⟩)
          · rw [cC hl hm, x146 (d + 3) σ h.base (by omega), if_neg hr, bV_x]
          · rw [(y246h d h ha hb hs).2.1 hl (fun z => hr z.2)]
            rfl
      · refine Fc.x h hc (E := xIS) (Sm.refl σ) rfl (cB hl hm) (fun Z hs _ => ⟨nI 0, ?_⟩)
        rw [(y246h d h ha hb hs).2.1 hl (fun z => hm z.1)]
        rfl
    · refine Fc.x h hc (E := xIA) (Sm.refl σ) rfl (cA hl) (fun Z hs _ => ⟨nI 0, ?_⟩)
      rw [(y246h d h ha hb hs).1 hl]
      rfl
  · refine Fc.x h hc (E := xIO) (Sm.refl σ) rfl ?_ (fun Z hs _ => ⟨nI 0, ?_⟩)
    · rw [e126, q126_0, q126_22]
      by_cases e1 : x < nI 1
      · rw [if_pos e1]
      · rw [if_neg e1]
        by_cases e2 : nI 85 ≤ x
        · rw [if_pos e2]
        · rw [if_neg e2]
          by_cases e3 : y < nI 1
          · rw [if_pos e3]
          · rw [if_neg e3]
            by_cases e4 : y < nI 85
            · rw [i_lt, i_n (by omega)] at e1 e3 e4
              rw [i_le, i_n (by omega)] at e2
              exact absurd ⟨⟨by omega, by omega⟩, by omega, by omega⟩ hr0
            · rw [if_neg e4]
    · have h1 : ∀ V, am_go am_X0 (am_ex (d + 7)) M246 25 [.ref 34, .int x, .int y, .null, .null] [.ref 34] V = rI (nI 0) (th V (nI 1)) := fun V => by
        rw [q246_25, q246_45, th_w, th_v, if_neg (by decide)]
      have hi : ∀ v : Int32, ((1 : Int64).toInt ≤ v.toInt64.toInt ∧ v.toInt64.toInt ≤ (84 : Int64).toInt) ↔ (1 ≤ v.toInt ∧ v.toInt ≤ 84) := fun v => by
        rw [i_64, show (1 : Int64).toInt = 1 by decide +kernel, show (84 : Int64).toInt = 84 by decide +kernel]
      rw [e246, q246_0, x173, bI_r]
      by_cases e1 : 1 ≤ x.toInt ∧ x.toInt ≤ 84
      · rw [bz_t ((hi x).mpr e1), if_neg n10, x173, bI_r, bz_f (fun z => hr0 ⟨e1, (hi y).mp z⟩), if_pos rfl, h1]
        rfl
      · rw [bz_f (fun z => e1 ((hi x).mp z)), if_pos rfl, h1]
        rfl
end MVG
