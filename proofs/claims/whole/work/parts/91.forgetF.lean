/-! forget: the face -/
section FGF
variable (d : Nat) {c kc md rc td : Nat} {lev rk : Nat → Nat} {σ : am_M}
theorem Gn.M {u : Nat → Int32} {X0 X : am_M} {p : Nat} (h : Gn kc σ u X0 p X) : EqM X0 X :=
  ⟨fun a h1 h2 _ => h.o a (by omega) (by omega) (by omega) (by omega) (by omega) (by omega), fun j _ _ => by rw [h.o 34 (by decide) (by decide) (by decide) (by decide) (by decide) (by decide)], by rw [h.j], by rw [h.j], by rw [h.j]⟩
theorem plM_th0 {u : Nat → Int32} {T Y : am_M} (h : PlM kc rc md T u Y) (ht : T.1 34 25 = nI 0) : PlM kc rc md T u (th Y (nI 0)) := by
  apply PlM.mk
  case sm => exact h.sm.th _
  case n => exact h.n
  case t => rw [th_v, ht]
  case th => exact fun p hp => by rw [th_ne _ _ (by decide)]; exact h.th p hp
  case ry => exact fun p hp => by rw [th_ne _ _ (by decide)]; exact h.ry p hp
  case af => exact fun p hp => by rw [th_ne _ _ (by decide)]; exact h.af p hp
/-- the class, up to clearing -/
theorem c117 (h : Inv c kc md rc td lev rk σ) (x : Int32) {X0 : am_M} (e1 : am_ex (d + 7) 13 [.ref 7, .int (-1)] σ = rV X0) (hP : Pl kc rc md lev σ (σ.1 19) X0) (hm : mkd (σ.1 19)) : ((Any kc rc md σ → ¬ x = nI 0) → am_ex (d + 8) 117 [.ref 0, .int x] σ = am_go am_X0 (am_ex (d + 7)) M117 39 [.ref 0, .int x, .null, .null] [] X0) ∧ (¬ (Any kc rc md σ → ¬ x = nI 0) → am_ex (d + 8) 117 [.ref 0, .int x] σ = rX xIS (am_tick X0)) := by
  have e0 : X0.1 7 4 = nI 0 := by
    rcases hP.idle with ⟨_, b⟩ | ⟨a, _⟩
    · exact absurd hm b
    · exact a
  have e2 : am_ex (d + 7) 14 [.ref 7] X0 = rI (nI 0) X0 := by rw [e14, q14_0, e0, if_pos (Or.inl rfl)]
  obtain ⟨v, e3, hv⟩ := x156 (d + 4) h hP
  constructor
  · intro hx
    rw [e117, q117_0, e1, bV_r, e2, bI_r, if_pos rfl]
    by_cases ex : x = nI 0
    · rw [if_pos ex, e3, bI_r, if_pos (hv.mpr (fun z => hx z ex))]
    · rw [if_neg ex]
  · intro hx
    have ea : Any kc rc md σ := Classical.not_not.mp (fun z => hx (fun y => absurd y z))
    have ex : x = nI 0 := Classical.not_not.mp (fun z => hx (fun _ => z))
    rw [e117, q117_0, e1, bV_r, e2, bI_r, if_pos rfl, if_pos ex, e3, bI_r, if_neg (fun z => hv.mp z ea), q117_29]
theorem f117 (h : Inv c kc md rc td lev rk σ) (hc : c < 570) (x : Int32) : Fc (d + 8) 117 230 [.ref 0, .int x] [.ref 34, .int x] cS1 (c + 1) σ := by
  have hkl := h.kl
  have hrb := h.core.rcb
  obtain ⟨X0, e1, hP⟩ := x13m (d + 1) h
  by_cases hm : mkd (σ.1 19)
  · obtain ⟨cA, cB⟩ := c117 d h x e1 hP hm
    by_cases hx : Any kc rc md σ → ¬ x = nI 0
    · have cA := cA hx
      have hNb := cst_le kc rc md σ (σ.1 19)
      generalize hN : cst kc rc md σ (σ.1 19) = N at hNb
      have e17 := (x17 (d + 3) hP).1 hm
      rw [hN] at e17
      have hI0 := h.sm hP.sm
      by_cases hr : rmP σ md N
      · obtain ⟨X4, e94, hG⟩ := x94 (d + 3) h hP
        have cA2 : am_ex (d + 8) 117 [.ref 0, .int x] σ = am_go am_X0 (am_ex (d + 7)) M117 65 [.ref 0, .int x, .int (nI N), .int (nI 0)] [] X4 := by
          rw [cA, q117_39, e17, bI_r, x146 (d + 3) X0 hI0.base (by omega), if_pos ((rm_sm hP.sm md N).mpr hr), bV_r, e94, bV_r]
        -- the reference, from W: up to its new keys
        have ref : ∀ W, Sm σ W → ∃ Y0 Y4 v3, am_ex (d + 8) 230 [.ref 34, .int x] W = am_go am_X0 (am_ex (d + 7)) M230 187 [.ref 34, .int x, .int (nI N), .int v3, .int (nI 0), .null] [] Y4 ∧ PlM kc rc md (th W (nI 0)) ((th W (nI 0)).1 19) Y0 ∧ GnM (th W (nI 0)) ((th W (nI 0)).1 19) Y0 Y4 ∧ Y0.1 34 25 = nI 0 := by
          intro W hW
          have hT : Sm W (th W (nI 0)) := (Sm.refl W).th _
          obtain ⟨Y, v3, g1, _, hY⟩ := y230h d h hW x hm
          have hY2 := plM_th0 hY (th_v _ _)
          obtain ⟨Y4, g2, hM⟩ := y230c (d + 7) (h.sm (hW.trans hT)) hY2 x (nI N) v3
          refine ⟨th Y (nI 0), Y4, v3, ?_, hY2, hM, th_v _ _⟩
          rw [g1 hx, hN, y230r d h ((hW.trans hT).trans hY.sm) x v3 (by omega), if_pos hr, g2]
        obtain ⟨Y0, Y4, v3, _, hYs, hMs, _⟩ := ref σ (Sm.refl σ)
        have hTs : Sm σ (th σ (nI 0)) := (Sm.refl σ).th _
        obtain ⟨hJ, hGJ⟩ := clrJ h hTs hP.sm hG hYs.sm hMs
        have nX4 : X4.2.2 = σ.2.2 := by rw [hG.j]; exact hP.n
        have nY4 : Y4.2.2 = σ.2.2 := by rw [hMs.j, hYs.n]; rfl
        have eC4 : EqC (hy aM X4 Y4) X4 := hy_C (by rw [nX4, nY4])
        have o4 : ∀ a, a < 34 → ¬ scr a → a ≠ 13 → a ≠ 15 → a ≠ 16 → a ≠ 17 → a ≠ 18 → a ≠ 19 → (hy aM X4 Y4).1 a = σ.1 a := fun a a1 a2 a3 a4 a5 a6 a7 a8 => by
          rw [← eC4.i a a1 a2, hG.o a a3 a4 a5 a6 a7 a8, hP.sm.i a a2 (by omega)]
        have o4m : ∀ a, a = 39 ∨ a = 40 → (hy aM X4 Y4).1 a = σ.1 a := fun a ha => by
          rw [hyI (by rcases ha with rfl | rfl <;> decide), hMs.o a (by omega) (by omega) (by omega) (by omega), hYs.sm.i a (by unfold scr; omega) (by omega), hTs.i a (by unfold scr; omega) (by omega)]
        generalize hJ0 : hy aM X4 Y4 = J0 at hJ eC4 o4 o4m
        have n1 := hGJ.n1
        have n2 := hGJ.n2
        have l1 := hGJ.l1
        have l2 := hGJ.l2
        rw [hJ0] at n1 n2 l1 l2
        -- new keys
        obtain ⟨J1, lev1, hI1, o1, j1, a16, b16, hX1, hY1⟩ := rnwL (d + 4) (d + 6) hJ (P := rky kc rc md σ (σ.1 19)) (fun p hp e => by rw [n2 p (Or.inr e.2)]; exact sty_n h _ (by omega) e.2) (by omega) 21 (Nat.le_refl _)
        have hcn := rky_n (kc := kc) (rc := rc) (md := md) (σ := σ) (u := σ.1 19) 21 (Nat.le_refl _)
        have hcl := cntC_le (rky kc rc md σ (σ.1 19)) 21
        rw [show fld (cstS kc rc md σ (σ.1 19)) 0 21 0 = N from hN, if_neg (by decide)] at hcn
        generalize cntC (rky kc rc md σ (σ.1 19)) 0 21 = n at hI1 hcn hcl
        have hkl1 := hI1.kl
        have st1 : ∀ q, q < 85 → (¬ J1.1 16 q = nI 0 ↔ sty (σ.1 17) (σ.1 19) q) := fun q hq => by
          by_cases z : q < 21 ∧ rky kc rc md σ (σ.1 19) q
          · exact ⟨fun _ => z.2.2, fun _ => b16 q z.1 z.2⟩
          · rw [a16 q z]
            by_cases e : sty (σ.1 17) (σ.1 19) q
            · rw [n2 q (Or.inr e)]; exact ⟨fun _ => e, fun _ => sty_n h _ hq e⟩
            · rw [n1 q (by have : q ≠ 0 := fun y => e (by rw [y]; exact sty_0 _ _)
                           omega) hq e]
              exact ⟨fun y => absurd rfl y, fun y => absurd y e⟩
        have hch : ∀ p, p < 21 → rky kc rc md σ (σ.1 19) p → chN (J1.1 16) p = nC σ (σ.1 19) p := fun p hp _ => cnt_C _ 0 4 (fun i _ hi => st1 (4 * p + 1 + i) (by omega))
        have k20 : J1.1 20 = σ.1 20 := by rw [o1 20 (by decide) (by decide) (by decide) (by decide) (by decide), o4 20 (by decide) (by decide) (by decide) (by decide) (by decide) (by decide) (by decide) (by decide)]
        have k21 : J1.1 21 = σ.1 21 := by rw [o1 21 (by decide) (by decide) (by decide) (by decide) (by decide), o4 21 (by decide) (by decide) (by decide) (by decide) (by decide) (by decide) (by decide) (by decide)]
        obtain ⟨t, s, hw⟩ : ∃ t s, cst kc rc md σ (σ.1 19) = 0 ∨ (Wr md t s J1 ∧ s + cst kc rc md σ (σ.1 19) ≤ 150) := by
          by_cases z : N = 0
          · exact ⟨0, 0, Or.inl (hN.trans z)⟩
          · obtain ⟨t, s, w1, w2⟩ := rm_Wr σ h.base hr (by omega)
            refine ⟨t, s, Or.inr ⟨⟨w1.lt, by rw [k20]; exact w1.w, by rw [k20]; exact w1.st, by rw [k21]; exact w1.sz⟩, by rw [hN]; exact w2⟩⟩
        obtain ⟨J2, hI2, _, hF2, hX2, hY2⟩ := wrpL (d + 1) hI1 (σ := σ) (u := σ.1 19) (kc0 := kc) hch hw 21 (Nat.le_refl _)
        rw [show fld (cstS kc rc md σ (σ.1 19)) 0 21 0 = N from hN] at hI2
        -- the class
        have e0 : X0.1 7 4 = nI 0 := by
          rcases hP.idle with ⟨_, b⟩ | ⟨a, _⟩
          · exact absurd hm b
          · exact a
        have g4 : XK X0 X4 := ⟨hG.o 7 (by decide) (by decide) (by decide) (by decide) (by decide) (by decide), hG.o 25 (by decide) (by decide) (by decide) (by decide) (by decide) (by decide), hG.o 29 (by decide) (by decide) (by decide) (by decide) (by decide) (by decide), hG.o 30 (by decide) (by decide) (by decide) (by decide) (by decide) (by decide)⟩
        have pX0 : pX X0 (rky kc rc md σ (σ.1 19)) := fun p hp => ⟨fun z => ⟨(hP.op p (by omega)).ne.mp z.2.1, (hP.st p (by omega)).ne.mp z.2.2⟩, fun z => ⟨e0, (hP.op p (by omega)).ne.mpr z.1, (hP.st p (by omega)).ne.mpr z.2⟩⟩
        obtain ⟨X5, r5, c5, m5, p5⟩ := hX1 X4 x (nI N) eC4 (pX0.k g4)
        obtain ⟨X6, r6, c6, m6, p6⟩ := hX2 X5 x (nI N) c5 ((pX0.k g4).k p5)
        have x6 : ∀ a, a < 34 → ¬ scr a → ¬ (a = 21 ∨ a = 22 ∨ a = 23 ∨ a = 24 ∨ a = 45 ∨ a = 46 ∨ a = 47 ∨ a = 48) → a ≠ 1 → a ≠ 13 → a ≠ 16 → X6.1 a = J0.1 a := fun a a1 a2 a3 a4 a5 a6 => by
          rw [c6.i a a1 a2, hF2.i a a3, o1 a a4 a5 a6 (by omega) (by omega)]
        obtain ⟨X7, r7, o7, j7, s7⟩ := x157 (d + 4) h hP hm ((g4.trans p5).trans p6) (kc2 := kc + n) (by rw [c6.i 1 (by decide) (by decide)]; exact hI2.hk) (by omega) (by omega) (by rw [x6 11 (by decide) (by decide) (by decide) (by decide) (by decide) (by decide), o4 11 (by decide) (by decide) (by decide) (by decide) (by decide) (by decide) (by decide) (by decide)]) (by rw [x6 12 (by decide) (by decide) (by decide) (by decide) (by decide) (by decide), o4 12 (by decide) (by decide) (by decide) (by decide) (by decide) (by decide) (by decide) (by decide)])
        have m7 : EqM X6 X7 := ⟨fun a h1 h2 _ => o7 a (by omega) (by omega), fun j _ _ => by rw [o7 34 (by decide) (by decide)], by rw [j7], by rw [j7], by rw [j7]⟩
        have mAll : EqM σ X7 := ((((hP.sm.m hP.n).trans hG.M).trans m5).trans m6).trans m7
        refine Fc.ch2 (X := X7) (v := nI N) ?_ mAll (by decide) (okM2 x) (fun W hW hWn => ?_)
        · rw [cA2, r5, q117_65, if_pos (by decide), r6, q117_98, if_pos (by decide), r7, bV_r]
        · obtain ⟨Z0, Z4, w3, g1, hZP, hZM, hZt⟩ := ref W hW
          have hTW : Sm σ (th W (nI 0)) := hW.th _
          have nZ4 : Z4.2.2 = σ.2.2 := by rw [hZM.j, hZP.n]; exact hWn
          have eM4 : EqM J0 Z4 := by
            rw [← hJ0]
            exact clrE h hP.sm hG hTs hYs.sm hMs hTW hZP.sm hZM (by rw [nZ4, nY4])
          have u19 : (th W (nI 0)).1 19 = σ.1 19 := hTW.i 19 (by decide) (by decide)
          have ry : ∀ p, p < 21 → Flg (Z0.1 42 p) (rky kc rc md σ (σ.1 19) p) := fun p hp => by
            have := hZP.ry p hp
            rw [u19, rky_sm hTW] at this
            exact this
          have af : ∀ q, q < 4 → Flg (Z0.1 43 q) (OpV kc rc md σ (Wu (σ.1 17) (σ.1 19)) (σ.1 11 q)) := fun q hq => by
            have := hZP.af q hq
            rw [u19, hTW.i 17 (by decide) (by decide), hTW.i 11 (by decide) (by decide), OpV_sm hTW.e] at this
            exact this
          have z4 : YK Z0 Z4 := ⟨hZM.o 42 (by decide) (by decide) (by decide) (by decide), hZM.o 43 (by decide) (by decide) (by decide) (by decide)⟩
          have pY0 : pY Z0 (rky kc rc md σ (σ.1 19)) := fun p hp => (ry p hp).ne
          obtain ⟨Z5, s5, f5, t5, q5⟩ := hY1 Z4 x (nI N) w3 eM4 (pY0.k z4)
          obtain ⟨Z6, s6, f6, t6, q6⟩ := hY2 Z5 x (nI N) w3 f5 ((pY0.k z4).k q5)
          have z6 : ∀ a, a = 39 ∨ a = 40 → Z6.1 a = σ.1 a := fun a ha => by
            rw [f6.i a (by omega) (by omega) (by unfold scr; omega), hF2.i a (by omega), o1 a (by omega) (by omega) (by omega) (by omega) (by omega), o4m a ha]
          obtain ⟨Z7, r7', o7', j7', s7'⟩ := y230k (d + 7) h (J := X6) ry af ((z4.trans q5).trans q6) (fun p hp => by rw [f6.i 35 (by decide) (by decide) (by decide), hI2.e35, c6.i 16 (by decide) (by decide)]) (z6 39 (by decide)) (z6 40 (by decide)) x (nI N) w3
          refine ⟨Z7, ?_, ?_, ?_, kc + n, md, rc, td, lev1, rk, ?_⟩
          · rw [g1, s5, q230_187, if_pos (by decide), s6, q230_224, if_pos (by decide), r7']
          · rw [j7', t6.1.n, t5.1.n, nZ4, hWn]
          · rw [o7' 34 (by decide), t6.2, t5.2, hZM.o 34 (by decide) (by decide) (by decide) (by decide)]; exact hZt
          · -- the invariant
            have hLf : Lf (kc + n) rc rk (J2.1 16) (J2.1 17) := by
              have e16 : ∀ k, k < 64 → J2.1 16 (21 + k) = J0.1 16 (21 + k) := fun k hk => by rw [hF2.i 16 (by decide), a16 (21 + k) (fun z => by omega)]
              have e17' : J2.1 17 = J0.1 17 := by rw [hF2.i 17 (by decide), o1 17 (by decide) (by decide) (by decide) (by decide) (by decide)]
              refine ⟨fun k hk => ?_, fun k hk r b hr hb e1 e2 => ?_⟩
              · rw [e16 k hk, e17']
                by_cases e : sty (σ.1 17) (σ.1 19) (21 + k)
                · rw [n2 _ (Or.inr e), l2 k hk e]; exact h.lf.lfn k hk
                · rw [n1 _ (by omega) (by omega) e, l1 k hk e]; exact ⟨fun _ => rfl, fun _ => rfl⟩
              · rw [e17'] at e1
                rw [e16 k hk] at e2
                by_cases e : sty (σ.1 17) (σ.1 19) (21 + k)
                · rw [n2 _ (Or.inr e)] at e2
                  rw [l2 k hk e] at e1
                  refine h.lf.rkn k hk r b hr ?_ e1 e2
                  rcases h.core.node (21 + k) (by omega) with z | ⟨k', b1, b2, b3, _⟩
                  · rw [z] at e2; have := nI_inj (by omega) (by omega) e2; omega
                  · rw [b3] at e2; have := nI_inj (by omega) (by omega) e2; omega
                · rw [l1 k hk e] at e1
                  exact absurd e1.symm (nI_nm (by omega))
            have hI3 : Inv (c + 1) (kc + n) md rc td lev1 rk (hy aM X6 Z6) := Inv.sm ⟨hI2.up (by omega) (by omega), hLf⟩ (Sm.mix c6 f6)
            have tc : ∀ a, aM a = false → a ≠ 11 → a ≠ 12 → (hy aM X7 Z7).1 a = (hy aM X6 Z6).1 a := fun a h1 h2 h3 => by rw [hyI' h1, hyI' h1, o7 a h2 h3]
            have tm : ∀ a, aM a = true → a ≠ 39 → (hy aM X7 Z7).1 a = (hy aM X6 Z6).1 a := fun a h1 h2 => by rw [hyI h1, hyI h1, o7' a h2]
            have ta : ∀ a, a ≠ 11 → a ≠ 12 → a ≠ 39 → (hy aM X7 Z7).1 a = (hy aM X6 Z6).1 a := fun a h1 h2 h3 => by
              cases e : aM a with
              | true => exact tm a e h3
              | false => exact tc a e h1 h2
            have tj : ∀ a, (hy aM X7 Z7).2.1 a = (hy aM X6 Z6).2.1 a := fun a => by
              cases e : aM a with
              | true => rw [hyJ e, hyJ e, j7']
              | false => rw [hyJ' e, hyJ' e, j7]
            apply Inv.soft (td' := td) hI3
            case g => exact fun a _ _ h3 => ta a (fun z => h3 (by unfold sft; omega)) (fun z => h3 (by unfold sft; omega)) (fun z => h3 (by unfold sft; omega))
            case f => exact fun j _ _ _ => by rw [ta 34 (by decide) (by decide) (by decide)]
            case j => exact fun a _ => tj a
            case ht => rw [ta 0 (by decide) (by decide) (by decide)]; exact hI3.ht
            case ht' => rw [ta 34 (by decide) (by decide) (by decide)]; exact hI3.ht'
            case tb => exact hI3.tb
            case e38 => rw [ta 38 (by decide) (by decide) (by decide), ta 10 (by decide) (by decide) (by decide)]; exact hI3.e38
            case e41 => rw [ta 41 (by decide) (by decide) (by decide), ta 19 (by decide) (by decide) (by decide)]; exact hI3.e41
            case e53 => rw [ta 53 (by decide) (by decide) (by decide), ta 33 (by decide) (by decide) (by decide)]; exact hI3.e53
            case e54 => rw [ta 54 (by decide) (by decide) (by decide), ta 32 (by decide) (by decide) (by decide)]; exact hI3.e54
            case okh => rw [ta 10 (by decide) (by decide) (by decide)]; exact hI3.okh
            case due => rw [ta 18 (by decide) (by decide) (by decide), ta 52 (by decide) (by decide) (by decide)]; exact hI3.due
            case mrk => rw [ta 19 (by decide) (by decide) (by decide)]; exact hI3.mrk
            case prl => rw [ta 32 (by decide) (by decide) (by decide)]; exact hI3.prl
            case kep =>
              intro q hq
              rw [show (hy aM X7 Z7).1 39 = Z7.1 39 from hyI (by decide), show (hy aM X7 Z7).1 11 = X7.1 11 from hyI' (by decide), show (hy aM X7 Z7).1 12 = X7.1 12 from hyI' (by decide), ta 40 (by decide) (by decide) (by decide), show (hy aM X6 Z6).1 40 = Z6.1 40 from hyI (by decide), z6 40 (by decide)]
              rcases s7 q hq with ⟨b1, b2, b3⟩ | ⟨b1, p, b2, b3, b4⟩
              · rcases s7' q hq with ⟨c1, c2⟩ | ⟨c1, _⟩
                · rw [b2, b3, c2]
                  rcases h.kep q hq with z | ⟨k, p, z1, z2, z3, z4, z5, z6, z7⟩
                  · exact Or.inl z
                  · exact Or.inr ⟨k, p, z1, by omega, z3, z4, z5, z6, z7⟩
                · exact absurd c1 b1
              · rcases s7' q hq with ⟨c1, c2⟩ | ⟨c1, p', c2, c3, c4⟩
                · exact absurd b1 c1
                · obtain ⟨p2, d1, d2, d3⟩ := kep_2 h.base hq b1
                  have ep : p = p2 := nI_inj (by omega) (by omega) (b3.symm.trans d2)
                  have ep' : p' = p2 := nI_inj (by omega) (by omega) (c3.symm.trans d3)
                  subst ep
                  subst ep'
                  rcases b4 with ⟨f1, f2, f3⟩ | ⟨f1, f2⟩
                  · rcases c4 with ⟨g1, g2⟩ | ⟨g1, g2⟩
                    · have hne : ¬ J2.1 16 p' = nI 0 := by rw [hF2.i 16 (by decide)]; exact (st1 p' b2).mpr f1.2
                      rcases hI2.core.node p' b2 with z | ⟨k, z1, z2, z3, _⟩
                      · exact absurd z hne
                      · have x16e : X6.1 16 p' = nI k := by rw [c6.i 16 (by decide) (by decide), z3]
                        exact Or.inr ⟨k, p', z1, z2, b2, by rw [g2, x16e], by rw [f2, x16e], f3, d3⟩
                    · exact absurd f1 g1
                  · rcases c4 with ⟨g1, g2⟩ | ⟨g1, g2⟩
                    · exact absurd g1 f1
                    · exact Or.inl ⟨g2, f2⟩
      · refine Fc.xs h (by omega) (E := xIS) hP.sm hP.n ?_ (fun Z hs hI => ?_)
        · rw [cA, q117_39, e17, bI_r, x146 (d + 3) X0 hI0.base (by omega), if_neg (fun z => hr ((rm_sm hP.sm md N).mp z)), bV_x]
        · obtain ⟨Y, v3, g1, _, hY⟩ := y230h d h hs x hm
          have hT : Sm Z (th Z (nI 0)) := (Sm.refl Z).th _
          refine ⟨nI 0, th Y (nI 1), ?_, (hT.trans hY.sm).th _, hY.n, th_v _ _⟩
          rw [g1 hx, hN, y230r d h ((hs.trans hT).trans hY.sm) x v3 (by omega), if_neg hr]
    · refine Fc.xs h (by omega) (E := xIS) hP.sm hP.n (cB hx) (fun Z hs hI => ?_)
      obtain ⟨Y, v3, _, g2, hY⟩ := y230h d h hs x hm
      have hT : Sm Z (th Z (nI 0)) := (Sm.refl Z).th _
      exact ⟨nI 0, th Y (nI 1), g2 hx, (hT.trans hY.sm).th _, hY.n, th_v _ _⟩
  · have e0 : X0.1 7 4 = nI 1 := by
      rcases hP.idle with ⟨a, _⟩ | ⟨_, b⟩
      · exact a
      · exact absurd hm b
    refine Fc.x h (by omega) (E := xIS) hP.sm hP.n ?_ (fun Z hs hI => ⟨nI 0, ?_⟩)
    · rw [e117, q117_0, e1, bV_r, e14, q14_0, e0, if_pos (Or.inr rfl), bI_r, if_neg n10, q117_29]
    · obtain ⟨v, e2, hv⟩ := y226m (d + 6) h hs
      rw [e230, q230_0, e2, bI_r, if_pos (hv.mpr hm), q230_13, th_w, th_v, if_neg (by decide)]
      rfl
end FGF
