/-! calls without a wrapper; days; media that come and go; a new beginning -/
section DIR
/-- a call that never throws -/
def Fn (D k m : Nat) (as bs : List Value) (c : Nat) (σ : am_M) : Prop :=
  ∃ v X, am_ex D k as σ = rI v X ∧ X.2.2 = σ.2.2 ∧ ∀ Z, Zr X Z → ∃ Y, am_ex D m bs Z = rI v Y ∧ Y.2.2 = Z.2.2 ∧ IvE c Y
/-- a call without an answer -/
def FV (D k m : Nat) (as bs : List Value) (c : Nat) (σ : am_M) : Prop :=
  ∃ X, am_ex D k as σ = rV X ∧ X.2.2 = σ.2.2 ∧ ∀ Z, Zr X Z → ∃ Y, am_ex D m bs Z = rV Y ∧ Y.2.2 = Z.2.2 ∧ IvE c Y
variable (d : Nat) {c kc md rc td : Nat} {lev rk : Nat → Nat} {σ τ : am_M}
theorem Fn.r {D k m : Nat} {as bs : List Value} (h : Inv c kc md rc td lev rk σ) (hc : c < 600) {v : Int32} {X : am_M} (hX : Sm σ X) (hn : X.2.2 = σ.2.2) (h1 : am_ex D k as σ = rI v X) (h2 : ∀ Z, Sm σ Z → Inv c kc md rc td lev rk Z → ∃ Y, am_ex D m bs Z = rI v Y ∧ Sm Z Y ∧ Y.2.2 = Z.2.2) : Fn D k m as bs (c + 1) σ := by
  refine ⟨v, X, h1, hn, fun Z hZ => ?_⟩
  have hs : Sm σ Z := hX.trans hZ.1
  obtain ⟨Y, hb, hY, hn2⟩ := h2 Z hs (h.sm hs)
  exact ⟨Y, hb, hn2, kc, md, rc, td, lev, rk, ((h.sm hs).sm hY).up (by omega) (by omega)⟩
/-- the reference's run from the memory that the class left, and its run from the memory before the call -/
theorem fr_core {σ X Z : am_M} {D m : Nat} {bs : List Value} (hX : EqM σ X) (hZ : Zr X Z) (hk : qM m = true) (hb : okL aM bs) : ∃ W, Sm σ W ∧ W.2.2 = Z.2.2 ∧ ∀ r Y, am_ex D m bs W = some (r, Y) → ∃ Y', am_ex D m bs Z = some (r, Y') ∧ Y'.2.2 = Y.2.2 ∧ Y'.1 34 = Y.1 34 ∧ Sm (hy aM X Y) Y' := by
  have ml : ∀ a, aM a = true → 34 ≤ a ∧ a < 57 := fun a h => by
    unfold aM at h
    simp only [Bool.and_eq_true, Nat.ble_eq, Nat.blt_eq] at h
    exact h
  refine ⟨hy aM σ Z, ⟨fun a ha hb => ?_, fun j hj hk => ?_, fun a ha => ?_⟩, rfl, fun r Y hY => ?_⟩
  · by_cases e : aM a = true
    · rw [hyI e, hZ.1.i a ha hb]
      have := ml a e
      exact hX.i a (by omega) (by omega) ha
    · rw [hyI' (by simpa using e)]
  · rw [hyI (by decide), hZ.1.f j hj hk]; exact hX.f j hj hk
  · rcases ha with e | e | e
    · subst e; rw [hyJ' (by decide)]
    · subst e; rw [hyJ (by decide), hZ.1.j 49 (by decide)]; exact hX.j
    · subst e; rw [hyJ (by decide), hZ.1.j 50 (by decide)]; exact hX.k
  · rw [frM D hk hb] at hY
    cases hE : am_ex D m bs Z with
    | none => rw [hE] at hY; cases hY
    | some q =>
      obtain ⟨r', Y'⟩ := q
      rw [hE] at hY
      have hY2 : some (r', hy aM σ Y') = some (r, Y) := hY
      cases hY2
      have hs : Y' = hy aM Z Y' := by
        have h1 := frM D hk hb Z Z
        rw [hy_self, hE] at h1
        have h2 : some (r, Y') = some (r, hy aM Z Y') := h1
        exact (Prod.mk.inj (Option.some.inj h2)).2
      refine ⟨Y', rfl, rfl, (hyI (by decide)).symm, ⟨fun a ha hb => ?_, fun j hj hk => ?_, fun a ha => ?_⟩⟩
      · by_cases e : aM a = true
        · rw [hyI e, hyI e]
        · rw [hyI' (by simpa using e), hs, hyI' (by simpa using e), hZ.1.i a ha hb]
      · rw [hyI (by decide), hyI (by decide)]
      · rcases ha with e | e | e
        · subst e; rw [hyJ' (by decide), hs, hyJ' (by decide), hZ.1.j 14 (by decide)]
        · subst e; rw [hyJ (by decide), hyJ (by decide)]
        · subst e; rw [hyJ (by decide), hyJ (by decide)]
theorem Fc.ch {D k m : Nat} {as bs : List Value} {cod : String → Nat} {σ X : am_M} {v : Int32} (h1 : am_ex D k as σ = rI v X) (hX : EqM σ X) (hk : qM m = true) (hb : okL aM bs) (h2 : ∀ W, Sm σ W → ∃ Y, am_ex D m bs W = rI v Y ∧ Y.2.2 = W.2.2 ∧ Y.1 34 25 = nI 0 ∧ IvE c (hy aM X Y)) : Fc D k m as bs cod c σ := by
  refine Or.inl ⟨v, X, h1, hX.n, fun Z hZ => ?_⟩
  obtain ⟨W, hW, hn, hR⟩ := fr_core (D := D) hX hZ hk hb
  obtain ⟨Y, e1, e2, e3, kc, md, rc, td, lev, rk, hI⟩ := h2 W hW
  obtain ⟨Y', f1, f2, f3, f4⟩ := hR _ _ e1
  exact ⟨Y', f1, by rw [f2, e2, hn], by rw [f3]; exact e3, kc, md, rc, td, lev, rk, hI.sm f4⟩
theorem FV.ch {D k m : Nat} {as bs : List Value} {σ X : am_M} (h1 : am_ex D k as σ = rV X) (hX : EqM σ X) (hk : qM m = true) (hb : okL aM bs) (h2 : ∀ W, Sm σ W → ∃ Y, am_ex D m bs W = rV Y ∧ Y.2.2 = W.2.2 ∧ IvE c (hy aM X Y)) : FV D k m as bs c σ := by
  refine ⟨X, h1, hX.n, fun Z hZ => ?_⟩
  obtain ⟨W, hW, hn, hR⟩ := fr_core (D := D) hX hZ hk hb
  obtain ⟨Y, e1, e2, kc, md, rc, td, lev, rk, hI⟩ := h2 W hW
  obtain ⟨Y', f1, f2, f3, f4⟩ := hR _ _ e1
  exact ⟨Y', f1, by rw [f2, e2, hn], kc, md, rc, td, lev, rk, hI.sm f4⟩
/-- cells of the mixed memory -/
theorem hm_M {X Y : am_M} (a : Nat) (h : aM a = true) : (hy aM X Y).1 a = Y.1 a := hyI h
theorem hm_C {X Y : am_M} (a : Nat) (h : aM a = false) : (hy aM X Y).1 a = X.1 a := hyI' h
theorem okM1 : okL aM [.ref 34] := fun v hv => by rcases List.mem_cons.mp hv with e | e; (rw [e]; rfl); cases e
theorem okM2 (x : Int32) : okL aM [.ref 34, .int x] := okL_c.mpr ⟨rfl, okL_c.mpr ⟨rfl, fun v hv => by cases hv⟩⟩
theorem okM3 (x y : Int32) : okL aM [.ref 34, .int x, .int y] := okL_c.mpr ⟨rfl, okL_c.mpr ⟨rfl, okL_c.mpr ⟨rfl, fun v hv => by cases hv⟩⟩⟩
theorem okM3J (x : Int32) (y : Int64) : okL aM [.ref 34, .int x, .long y] := okL_c.mpr ⟨rfl, okL_c.mpr ⟨rfl, okL_c.mpr ⟨rfl, fun v hv => by cases hv⟩⟩⟩
theorem f111 (h : Inv c kc md rc td lev rk σ) (hc : c < 600) : Fn (d + 8) 111 227 [.ref 0] [.ref 34] (c + 1) σ :=
  Fn.r h hc (Sm.refl σ) rfl (c111 (d + 6) σ) (fun Z hs hI => ⟨_, by rw [y227 (d + 6) Z, hI.e41, hs.i 19 (by decide) (by decide)], (Sm.refl Z).th _, rfl⟩)
theorem f114 (h : Inv c kc md rc td lev rk σ) (hc : c < 600) : Fn (d + 8) 114 218 [.ref 0] [.ref 34] (c + 1) σ :=
  Fn.r h hc (Sm.refl σ) rfl (c114 (d + 7) σ) (fun Z hs hI => ⟨_, by rw [y218 (d + 7) Z, hI.ht', h.ht], (Sm.refl Z).th _, rfl⟩)
theorem f129 (h : Inv c kc md rc td lev rk σ) (hc : c < 600) : Fn (d + 8) 129 249 [.ref 0] [.ref 34] (c + 1) σ :=
  Fn.r h hc (Sm.refl σ) rfl (c129 (d + 6) σ) (fun Z hs hI => ⟨_, by rw [y249 (d + 7) Z, hI.hm', h.hm], (Sm.refl Z).th _, rfl⟩)
theorem f115 (h : Inv c kc md rc td lev rk σ) (hc : c < 600) (b : Bool) : Fn (d + 8) 115 219 [.ref 0, .int (bz (b = true))] [.ref 34, .int (bz (b = true))] (c + 1) σ := by
  refine Fn.r h hc (Sm.refl σ) rfl (c115 (d + 2) σ h.okh b) (fun Z hs hI => ⟨th Z (nI 0), ?_, (Sm.refl Z).th _, rfl⟩)
  rw [y219 (d + 4) Z (by rw [hI.e38]; exact hI.okh) hI.okR b]
  have e : cnt (fun k => dueP (dueOf (Z.1 37) (Z.1 52)) (Z.1 34 24) k ∧ ((¬ pinF (Z.1 38) k = nI 0) ↔ b = true)) 0 64 = cnt (fun k => dueP (σ.1 18) (σ.1 0 12) k ∧ ((¬ pinF (σ.1 10) k = nI 0) ↔ b = true)) 0 64 := by
    refine cnt_c 64 0 (fun j _ hj => ?_)
    have e1 : σ.1 18 j = dueOf (Z.1 37) (Z.1 52) j := by rw [hI.e37, ← hI.due j (by omega), hs.i 18 (by decide) (by decide)]
    unfold dueP
    rw [e1, hI.ht', h.ht, hI.e38, hs.i 10 (by decide) (by decide)]
  rw [e]
theorem f137 (h : Inv c kc md rc td lev rk σ) (hc : c < 600) : Fn (d + 8) 137 260 [.ref 0] [.ref 34] (c + 1) σ := by
  refine Fn.r h hc (smG σ md) rfl (c137 (d + 2) σ h) (fun Z hs hI => ⟨th Z (nI 0), ?_, (Sm.refl Z).th _, rfl⟩)
  rw [y260 (d + 3) Z hI, bts_c md 0 (nI 0) (fun j _ _ => by unfold rdM; rw [hs.i 20 (by decide) (by decide), ls_sm hs])]
abbrev cdP (E : String) : Nat := if E = xIA then 1 else if E = xIS then 2 else 0
theorem mkA_c {C C' : Nat → Prop} [DecidablePred C] [DecidablePred C'] {f : Nat → Int32} {n : Nat} (h : ∀ k, k < n → (C k ↔ C' k)) : mkA C f n = mkA C' f n := by
  funext k
  unfold mkA
  by_cases h1 : k < n ∧ C k
  · rw [if_pos h1, if_pos ⟨h1.1, (h k h1.1).mp h1.2⟩]
  · rw [if_neg h1, if_neg (fun z => h1 ⟨z.1, (h k z.1).mpr z.2⟩)]
theorem f113 (h : Inv c kc md rc td lev rk σ) (hc : c < 600) (x : Int32) : Fc (d + 8) 113 217 [.ref 0, .int x] [.ref 34, .int x] cdP (c + 1) σ := by
  by_cases hx : 1 ≤ x.toInt ∧ x.toInt ≤ 10000
  · obtain ⟨n, rfl, h1, h2⟩ : ∃ n : Nat, x = nI n ∧ 1 ≤ n ∧ n ≤ 10000 := by
      refine ⟨x.toInt.toNat, ?_, by omega, by omega⟩
      rw [i_eq, i_n (by omega)]; omega
    by_cases hs : td + n ≤ 1000000
    · have hnm : ∀ k, k < 64 → (newM (dueOf (σ.1 17) (σ.1 52)) (σ.1 19) (σ.1 10) (nI (td + n)) k ↔ newM (σ.1 18) (σ.1 19) (σ.1 10) (nI (td + n)) k) := fun k hk => by
        unfold newM dueP; rw [h.due k hk]
      generalize hN : newM (σ.1 18) (σ.1 19) (σ.1 10) (nI (td + n)) = NP at hnm
      refine Or.inl ⟨_, _, c113 (d + 2) σ h.okh h.ht h.tb h1 h2 hs, rfl, fun Z hZ => ?_⟩
      have zi := hZ.1.i
      have zf := hZ.1.f
      have z37 : Z.1 37 = σ.1 17 := by rw [zi 37 (by decide) (by decide), s_ne _ _ (by decide), s_ne _ _ (by decide), h.e37]
      have z38 : Z.1 38 = σ.1 10 := by rw [zi 38 (by decide) (by decide), s_ne _ _ (by decide), s_ne _ _ (by decide), h.e38]
      have z41 : Z.1 41 = σ.1 19 := by rw [zi 41 (by decide) (by decide), s_ne _ _ (by decide), s_ne _ _ (by decide), h.e41]
      have z52 : Z.1 52 = σ.1 52 := by rw [zi 52 (by decide) (by decide), s_ne _ _ (by decide), s_ne _ _ (by decide)]
      have z34 : Z.1 34 24 = nI td := by rw [zf 24 (by decide) (by decide), s_ne _ _ (by decide), s_ne _ _ (by decide), h.ht']
      have hy := y217 (d + 4) Z (by rw [z38]; exact h.okh) (by rw [z37, ← h.e37]; exact h.okR) z34 h.tb h1 h2 hs
      rw [z37, z38, z41, z52, cnt_c 64 0 (fun j _ hj => hN ▸ hnm j (by omega)), mkA_c (fun k hk => hN ▸ hnm k hk)] at hy
      refine ⟨_, hy, rfl, ?_, kc, md, rc, td + n, lev, rk, Inv.up (c := c) ?_ (by omega) (by omega)⟩
      · rw [s_ne _ _ (by decide), s_eq, show upd (upd (Z.1 34) 25 (nI 0)) 24 (nI (td + n)) 25 = upd (Z.1 34) 25 (nI 0) 25 from if_neg (by decide)]; exact if_pos rfl
      · generalize hM : mkA (newM (σ.1 18) (σ.1 19) (σ.1 10) (nI (td + n))) (σ.1 19) 64 = mk at zi
        generalize hT : am_set (am_set Z 34 (upd (upd (Z.1 34) 25 (nI 0)) 24 (nI (td + n)))) 41 mk = T
        have g2 : ∀ a, ¬ scr a → a ≠ 34 → a ≠ 41 → a ≠ 0 ∧ a ≠ 19 → T.1 a = σ.1 a := fun a h1 h2 h3 h4 => by
          rw [← hT, s_ne _ _ h3, s_ne _ _ h2, zi a h1 h2, s_ne _ _ h4.2, s_ne _ _ h4.1]
        have t19 : T.1 19 = mk := by rw [← hT, s_ne _ _ (by decide), s_ne _ _ (by decide), zi 19 (by decide) (by decide), s_eq]
        have f : ∀ j, j ≠ 25 → j ≠ 27 → j ≠ 24 → T.1 34 j = σ.1 34 j := fun j h1 h2 h3 => by
          rw [← hT, s_ne _ _ (by decide), s_eq, show upd (upd (Z.1 34) 25 (nI 0)) 24 (nI (td + n)) j = upd (Z.1 34) 25 (nI 0) j from if_neg h3, show upd (Z.1 34) 25 (nI 0) j = Z.1 34 j from if_neg h1, zf j h1 h2, s_ne _ _ (by decide), s_ne _ _ (by decide)]
        apply Inv.soft (td' := td + n) h
        case g => exact fun a h1 h2 h3 => g2 a h1 h2 (fun e => h3 (by unfold sft; omega)) ⟨fun e => h3 (by unfold sft; omega), fun e => h3 (by unfold sft; omega)⟩
        case f => exact f
        case j => exact fun a ha => by rw [← hT]; exact hZ.1.j a ha
        case ht => rw [← hT, s_ne _ _ (by decide), s_ne _ _ (by decide), zi 0 (by decide) (by decide), s_ne _ _ (by decide), s_eq]; exact if_pos rfl
        case ht' => rw [← hT, s_ne _ _ (by decide), s_eq]; exact if_pos rfl
        case tb => exact hs
        case e38 => rw [g2 38 (by decide) (by decide) (by decide) (by decide), g2 10 (by decide) (by decide) (by decide) (by decide)]; exact h.e38
        case e41 => rw [t19, ← hT, s_eq]
        case e53 => rw [g2 53 (by decide) (by decide) (by decide) (by decide), g2 33 (by decide) (by decide) (by decide) (by decide)]; exact h.e53
        case e54 => rw [g2 54 (by decide) (by decide) (by decide) (by decide), g2 32 (by decide) (by decide) (by decide) (by decide)]; exact h.e54
        case kep => rw [g2 39 (by decide) (by decide) (by decide) (by decide), g2 11 (by decide) (by decide) (by decide) (by decide), g2 12 (by decide) (by decide) (by decide) (by decide), g2 40 (by decide) (by decide) (by decide) (by decide)]; exact h.kep
        case okh => rw [g2 10 (by decide) (by decide) (by decide) (by decide)]; exact h.okh
        case due => rw [g2 18 (by decide) (by decide) (by decide) (by decide), g2 52 (by decide) (by decide) (by decide) (by decide)]; exact h.due
        case mrk =>
          rw [t19, ← hM]
          intro k hk
          by_cases hC : k < 64 ∧ newM (σ.1 18) (σ.1 19) (σ.1 10) (nI (td + n)) k
          · refine Or.inr ⟨if_pos hC, fun e => hC.2.1.1 ?_⟩
            rw [h.due k hk]
            exact if_pos e
          · rw [show mkA (newM (σ.1 18) (σ.1 19) (σ.1 10) (nI (td + n))) (σ.1 19) 64 k = σ.1 19 k from if_neg hC]
            exact h.mrk k hk
        case prl => rw [g2 32 (by decide) (by decide) (by decide) (by decide)]; exact h.prl
    · exact Fc.x h hc (E := xIS) (Sm.refl σ) rfl ((c113x (d + 7) σ h.ht h.tb (nI n)).2 n rfl h1 h2 (by omega)) (fun Z hs2 hI => ⟨_, by rw [(y217x (d + 5) Z hI.ht' hI.tb (nI n)).2 n rfl h1 h2 (by omega)]; rfl⟩)
  · exact Fc.x h hc (E := xIA) (Sm.refl σ) rfl ((c113x (d + 7) σ h.ht h.tb x).1 hx) (fun Z hs2 hI => ⟨_, by rw [(y217x (d + 5) Z hI.ht' hI.tb x).1 hx]; rfl⟩)
/-- cells of the media -/
abbrev mdc (a : Nat) : Prop := a = 4 ∨ a = 20 ∨ a = 21 ∨ a = 44 ∨ a = 45
/-- media come or go, entries are only fewer -/
theorem Inv.mdch (h : Inv c kc md rc td lev rk σ) {md' : Nat} (g : ∀ a, ¬ scr a → a ≠ 34 → ¬ mdc a → τ.1 a = σ.1 a) (f : ∀ j, j ≠ 25 → j ≠ 27 → j ≠ 22 → τ.1 34 j = σ.1 34 j) (j : ∀ a, a = 14 ∨ a = 49 ∨ a = 50 → τ.2.1 a = σ.2.1 a) (mdb : 1 ≤ md' ∧ md' ≤ 8) (hm : τ.1 4 5 = nI md') (hm' : τ.1 34 22 = nI md') (med : ∀ m, m < md' → zn (τ.1 21) m ≤ 150 ∧ τ.1 21 m = nI (zn (τ.1 21) m) ∧ (τ.1 20 m = nI 0 ∨ τ.1 20 m = nI 1 ∨ (τ.1 20 m = nI 2 ∧ τ.1 21 m = nI 0))) (ent : ∀ m, m < md' → ∀ i, i < zn (τ.1 21) m → m < md ∧ i < zn (σ.1 21) m) (us : usd (σ.1 20) (σ.1 21) md ≤ usd (τ.1 20) (τ.1 21) md') (mdm : ∀ m, m < md' → τ.1 44 m = τ.1 20 m ∧ τ.1 45 m = τ.1 21 m) : Inv c kc md' rc td lev rk τ := by
  have G : ∀ a, ¬ scr a → a ≠ 34 → ¬ mdc a → τ.1 a = σ.1 a := g
  refine ⟨?_, ?_⟩
  · apply Inv0.mk
    case core =>
      simp only [g 16 (by decide) (by decide) (by decide), g 17 (by decide) (by decide) (by decide), g 13 (by decide) (by decide) (by decide), g 15 (by decide) (by decide) (by decide), g 22 (by decide) (by decide) (by decide), g 23 (by decide) (by decide) (by decide), g 24 (by decide) (by decide) (by decide)]
      apply Core.mk
      case mdb => exact mdb
      case rcb => exact h.core.rcb
      case lvb => exact h.core.lvb
      case node => exact h.core.node
      case root => exact h.core.root
      case pars => exact h.core.pars
      case plc => exact h.core.plc
      case rec => exact h.core.rec
      case lfs => exact h.core.lfs
      case med => exact med
      case ent => exact fun m hm i hi => h.core.ent m (ent m hm i hi).1 i (ent m hm i hi).2
    case cb => exact h.cb
    case kb => have := h.kb; omega
    case hk => rw [g 1 (by decide) (by decide) (by decide)]; exact h.hk
    case hm => exact hm
    case hr => rw [g 2 (by decide) (by decide) (by decide)]; exact h.hr
    case ht => rw [g 0 (by decide) (by decide) (by decide)]; exact h.ht
    case tb => exact h.tb
    case hk' => rw [f 21 (by decide) (by decide) (by decide)]; exact h.hk'
    case hm' => exact hm'
    case hr' => rw [f 23 (by decide) (by decide) (by decide)]; exact h.hr'
    case ht' => rw [f 24 (by decide) (by decide) (by decide)]; exact h.ht'
    case sd => rw [f 20 (by decide) (by decide) (by decide), g 1 (by decide) (by decide) (by decide)]; exact h.sd
    case e35 => rw [g 35 (by decide) (by decide) (by decide), g 16 (by decide) (by decide) (by decide)]; exact h.e35
    case e37 => rw [g 37 (by decide) (by decide) (by decide), g 17 (by decide) (by decide) (by decide)]; exact h.e37
    case e38 => rw [g 38 (by decide) (by decide) (by decide), g 10 (by decide) (by decide) (by decide)]; exact h.e38
    case e41 => rw [g 41 (by decide) (by decide) (by decide), g 19 (by decide) (by decide) (by decide)]; exact h.e41
    case e46 => rw [g 46 (by decide) (by decide) (by decide), g 22 (by decide) (by decide) (by decide)]; exact h.e46
    case e47 => rw [g 47 (by decide) (by decide) (by decide), g 23 (by decide) (by decide) (by decide)]; exact h.e47
    case e48 => rw [g 48 (by decide) (by decide) (by decide), g 24 (by decide) (by decide) (by decide)]; exact h.e48
    case e51 => rw [g 51 (by decide) (by decide) (by decide), g 15 (by decide) (by decide) (by decide)]; exact h.e51
    case e53 => rw [g 53 (by decide) (by decide) (by decide), g 33 (by decide) (by decide) (by decide)]; exact h.e53
    case e54 => rw [g 54 (by decide) (by decide) (by decide), g 32 (by decide) (by decide) (by decide)]; exact h.e54
    case e50 => rw [j 50 (by decide), j 14 (by decide)]; exact h.e50
    case mdm => exact mdm
    case kep => simp only [g 39 (by decide) (by decide) (by decide), g 11 (by decide) (by decide) (by decide), g 12 (by decide) (by decide) (by decide), g 40 (by decide) (by decide) (by decide)]; exact h.kep
    case okh => rw [g 10 (by decide) (by decide) (by decide)]; exact h.okh
    case due => simp only [g 18 (by decide) (by decide) (by decide), g 17 (by decide) (by decide) (by decide), g 52 (by decide) (by decide) (by decide)]; exact h.due
    case mrk => simp only [g 19 (by decide) (by decide) (by decide), g 17 (by decide) (by decide) (by decide)]; exact h.mrk
    case con => simp only [g 22 (by decide) (by decide) (by decide), g 23 (by decide) (by decide) (by decide), g 24 (by decide) (by decide) (by decide), g 1 (by decide) (by decide) (by decide), j 49 (by decide), j 14 (by decide)]; exact fun m hm i hi => h.con m (ent m hm i hi).1 i (ent m hm i hi).2
    case prl => simp only [g 32 (by decide) (by decide) (by decide)]; exact h.prl
  · rw [g 16 (by decide) (by decide) (by decide), g 17 (by decide) (by decide) (by decide)]; exact h.lf
theorem usd_mono {st sz st' sz' : Nat → Int32} : ∀ k, (∀ m, m < k → (if st m = nI 2 then 150 else zn sz m) ≤ (if st' m = nI 2 then 150 else zn sz' m)) → usd st sz k ≤ usd st' sz' k := by
  intro k
  induction k with
  | zero => intro _; exact Nat.le_refl _
  | succ k ih =>
    intro h
    have h1 := ih (fun m hm => h m (by omega))
    have h2 := h k (by omega)
    rw [usd, usd]
    omega
theorem zn_0 {f : Nat → Int32} {m : Nat} (h : f m = nI 0) : zn f m = 0 := by unfold zn; rw [h]; rfl
/-- medium m is lost -/
theorem f132 (h : Inv c kc md rc td lev rk σ) (hc : c < 600) (x : Int32) : Fc (d + 8) 132 257 [.ref 0, .int x] [.ref 34, .int x] cdS (c + 1) σ := by
  have hmb := h.core.mdb
  by_cases hx : inR x md
  · obtain ⟨e1, h1⟩ := inR_of hx
    generalize x.toNatClampNeg = m at e1 h1
    subst e1
    by_cases hst : σ.1 20 m = nI 0
    · refine Fc.ch (X := am_set (gAl σ md) 20 (upd (σ.1 20) m (nI 1))) (by rw [c132 (d + 1) σ h h1, if_pos hst]) (((EqM.refl σ).setC (by decide) _).setC (by decide) _) (by decide) (okM2 _) (fun W hW => ?_)
      refine ⟨am_set (th W (nI 0)) 44 (upd (W.1 44) m (nI 1)), by rw [y257 (d + 2) W (h.sm hW) h1, hW.i 20 (by decide) (by decide), if_pos hst, ls_sm hW], rfl, by rw [s_ne _ _ (by decide), th_v], kc, md, rc, td, lev, rk, ?_⟩
      refine Inv.up (c := c) ?_ (by omega) (by omega)
      generalize hT : hy aM (am_set (gAl σ md) 20 (upd (σ.1 20) m (nI 1))) (am_set (th W (nI 0)) 44 (upd (W.1 44) m (nI 1))) = T
      have e20 : T.1 20 = upd (σ.1 20) m (nI 1) := by rw [← hT]; exact by rw [hm_C 20 (by decide), s_eq]
      have e21 : T.1 21 = σ.1 21 := by rw [← hT]; exact by rw [hm_C 21 (by decide), s_ne _ _ (by decide), s_ne _ _ (by decide)]
      have e44 : T.1 44 = upd (σ.1 44) m (nI 1) := by rw [← hT]; exact by rw [hm_M 44 (by decide), s_eq, hW.i 44 (by decide) (by decide)]
      have e45 : T.1 45 = σ.1 45 := by rw [← hT]; exact by rw [hm_M 45 (by decide), s_ne _ _ (by decide), th_ne _ _ (by decide), hW.i 45 (by decide) (by decide)]
      refine Inv.mdch h (md' := md) (fun a a1 a2 a3 => ?_) (fun j j1 j2 j3 => ?_) (fun a ha => ?_) hmb ?_ ?_ ?_ ?_ ?_ ?_
      · rw [← hT]
        by_cases e : aM a = true
        · rw [hm_M a e, s_ne _ _ (fun z => a3 (by unfold mdc; omega)), th_ne _ _ a2, hW.i a a1 a2]
        · rw [hm_C a (by simpa using e), s_ne _ _ (fun z => a3 (by unfold mdc; omega)), (smG σ md).i a a1 a2]
      · rw [← hT, hm_M 34 (by decide), s_ne _ _ (by decide), th_f _ _ j1, hW.f j j1 j2]
      · rw [← hT]
        rcases ha with e | e | e
        · subst e; exact hyJ' (by decide)
        · subst e; exact (hyJ (by decide)).trans (hW.j 49 (by decide))
        · subst e; exact (hyJ (by decide)).trans (hW.j 50 (by decide))
      · rw [← hT, hm_C 4 (by decide), s_ne _ _ (by decide), (smG σ md).i 4 (by decide) (by decide)]; exact h.hm
      · rw [← hT, hm_M 34 (by decide), s_ne _ _ (by decide), th_f _ _ (by decide), hW.f 22 (by decide) (by decide)]; exact h.hm'
      · intro q hq
        rw [e20, e21]
        obtain ⟨b1, b2, b3⟩ := h.core.med q hq
        refine ⟨b1, b2, ?_⟩
        by_cases e : q = m
        · rw [show upd (σ.1 20) m (nI 1) q = nI 1 from if_pos e]; exact Or.inr (Or.inl rfl)
        · rw [show upd (σ.1 20) m (nI 1) q = σ.1 20 q from if_neg e]; exact b3
      · intro q hq i hi
        rw [e21] at hi
        exact ⟨hq, hi⟩
      · rw [e20, e21]
        refine usd_mono md (fun q hq => ?_)
        by_cases e : q = m
        · rw [show upd (σ.1 20) m (nI 1) q = nI 1 from if_pos e, if_neg (show ¬ nI 1 = nI 2 by decide), if_neg (show ¬ σ.1 20 q = nI 2 by rw [e, hst]; decide)]; exact Nat.le_refl _
        · rw [show upd (σ.1 20) m (nI 1) q = σ.1 20 q from if_neg e]; exact Nat.le_refl _
      · intro q hq
        rw [e20, e21, e44, e45]
        refine ⟨?_, (h.mdm q hq).2⟩
        unfold upd
        by_cases e : q = m
        · rw [if_pos e, if_pos e]
        · rw [if_neg e, if_neg e]; exact (h.mdm q hq).1
    · exact Fc.x h hc (E := xIS) (Sm.refl σ) rfl (by rw [c132 (d + 1) σ h h1, if_neg hst]) (fun Z hs hI => ⟨_, by rw [y257 (d + 2) Z hI h1, hs.i 20 (by decide) (by decide), if_neg hst]; rfl⟩)
  · exact Fc.x h hc (E := xIO) (Sm.refl σ) rfl ((c132x (d + 5) σ h x hx).1) (fun Z hs hI => ⟨_, by rw [(y257x (d + 4) Z hI x hx).1]; rfl⟩)
/-- medium m is destroyed -/
theorem f133 (h : Inv c kc md rc td lev rk σ) (hc : c < 600) (x : Int32) : Fc (d + 8) 133 258 [.ref 0, .int x] [.ref 34, .int x] cdS (c + 1) σ := by
  have hmb := h.core.mdb
  by_cases hx : inR x md
  · obtain ⟨e1, h1⟩ := inR_of hx
    generalize x.toNatClampNeg = m at e1 h1
    subst e1
    by_cases hst : σ.1 20 m = nI 0
    · refine Fc.ch (X := am_set (am_set (gAl σ md) 20 (upd (σ.1 20) m (nI 2))) 21 (upd (σ.1 21) m (nI 0))) (by rw [c133 (d + 1) σ h h1, if_pos hst]) ((((EqM.refl σ).setC (by decide) _).setC (by decide) _).setC (by decide) _) (by decide) (okM2 _) (fun W hW => ?_)
      refine ⟨am_set (am_set (th W (nI 0)) 44 (upd (W.1 44) m (nI 2))) 45 (upd (W.1 45) m (nI 0)), by rw [y258 (d + 2) W (h.sm hW) h1, hW.i 20 (by decide) (by decide), if_pos hst, ls_sm hW], rfl, by rw [s_ne _ _ (by decide), s_ne _ _ (by decide), th_v], kc, md, rc, td, lev, rk, ?_⟩
      refine Inv.up (c := c) ?_ (by omega) (by omega)
      generalize hT : hy aM (am_set (am_set (gAl σ md) 20 (upd (σ.1 20) m (nI 2))) 21 (upd (σ.1 21) m (nI 0))) (am_set (am_set (th W (nI 0)) 44 (upd (W.1 44) m (nI 2))) 45 (upd (W.1 45) m (nI 0))) = T
      have e20 : T.1 20 = upd (σ.1 20) m (nI 2) := by rw [← hT]; exact by rw [hm_C 20 (by decide), s_ne _ _ (by decide), s_eq]
      have e21 : T.1 21 = upd (σ.1 21) m (nI 0) := by rw [← hT]; exact by rw [hm_C 21 (by decide), s_eq]
      have e44 : T.1 44 = upd (σ.1 44) m (nI 2) := by rw [← hT]; exact by rw [hm_M 44 (by decide), s_ne _ _ (by decide), s_eq, hW.i 44 (by decide) (by decide)]
      have e45 : T.1 45 = upd (σ.1 45) m (nI 0) := by rw [← hT]; exact by rw [hm_M 45 (by decide), s_eq, hW.i 45 (by decide) (by decide)]
      refine Inv.mdch h (md' := md) (fun a a1 a2 a3 => ?_) (fun j j1 j2 j3 => ?_) (fun a ha => ?_) hmb ?_ ?_ ?_ ?_ ?_ ?_
      · rw [← hT]
        by_cases e : aM a = true
        · rw [hm_M a e, s_ne _ _ (fun z => a3 (by unfold mdc; omega)), s_ne _ _ (fun z => a3 (by unfold mdc; omega)), th_ne _ _ a2, hW.i a a1 a2]
        · rw [hm_C a (by simpa using e), s_ne _ _ (fun z => a3 (by unfold mdc; omega)), s_ne _ _ (fun z => a3 (by unfold mdc; omega)), (smG σ md).i a a1 a2]
      · rw [← hT, hm_M 34 (by decide), s_ne _ _ (by decide), s_ne _ _ (by decide), th_f _ _ j1, hW.f j j1 j2]
      · rw [← hT]
        rcases ha with e | e | e
        · subst e; exact hyJ' (by decide)
        · subst e; exact (hyJ (by decide)).trans (hW.j 49 (by decide))
        · subst e; exact (hyJ (by decide)).trans (hW.j 50 (by decide))
      · rw [← hT, hm_C 4 (by decide), s_ne _ _ (by decide), s_ne _ _ (by decide), (smG σ md).i 4 (by decide) (by decide)]; exact h.hm
      · rw [← hT, hm_M 34 (by decide), s_ne _ _ (by decide), s_ne _ _ (by decide), th_f _ _ (by decide), hW.f 22 (by decide) (by decide)]; exact h.hm'
      · intro q hq
        rw [e20, e21]
        obtain ⟨b1, b2, b3⟩ := h.core.med q hq
        by_cases e : q = m
        · have z1 : upd (σ.1 21) m (nI 0) q = nI 0 := if_pos e
          have z2 := zn_0 z1
          refine ⟨by omega, by rw [z2]; exact z1, Or.inr (Or.inr ⟨if_pos e, z1⟩)⟩
        · have z1 : upd (σ.1 21) m (nI 0) q = σ.1 21 q := if_neg e
          have z2 : zn (upd (σ.1 21) m (nI 0)) q = zn (σ.1 21) q := by unfold zn; rw [z1]
          rw [z2, z1, show upd (σ.1 20) m (nI 2) q = σ.1 20 q from if_neg e]
          exact ⟨b1, b2, b3⟩
      · intro q hq i hi
        rw [e21] at hi
        by_cases e : q = m
        · rw [zn_0 (show upd (σ.1 21) m (nI 0) q = nI 0 from if_pos e)] at hi; omega
        · have z2 : zn (upd (σ.1 21) m (nI 0)) q = zn (σ.1 21) q := by unfold zn; rw [show upd (σ.1 21) m (nI 0) q = σ.1 21 q from if_neg e]
          rw [z2] at hi
          exact ⟨hq, hi⟩
      · rw [e20, e21]
        refine usd_mono md (fun q hq => ?_)
        by_cases e : q = m
        · rw [if_neg (show ¬ σ.1 20 q = nI 2 by rw [e, hst]; decide), show upd (σ.1 20) m (nI 2) q = nI 2 from if_pos e, if_pos rfl]; exact (h.core.med q hq).1
        · have z2 : zn (upd (σ.1 21) m (nI 0)) q = zn (σ.1 21) q := by unfold zn; rw [show upd (σ.1 21) m (nI 0) q = σ.1 21 q from if_neg e]
          rw [z2, show upd (σ.1 20) m (nI 2) q = σ.1 20 q from if_neg e]; exact Nat.le_refl _
      · intro q hq
        rw [e20, e21, e44, e45]
        unfold upd
        by_cases e : q = m
        · rw [if_pos e, if_pos e, if_pos e, if_pos e]; exact ⟨rfl, rfl⟩
        · rw [if_neg e, if_neg e, if_neg e, if_neg e]; exact h.mdm q hq
    · exact Fc.x h hc (E := xIS) (Sm.refl σ) rfl (by rw [c133 (d + 1) σ h h1, if_neg hst]) (fun Z hs hI => ⟨_, by rw [y258 (d + 2) Z hI h1, hs.i 20 (by decide) (by decide), if_neg hst]; rfl⟩)
  · exact Fc.x h hc (E := xIO) (Sm.refl σ) rfl ((c132x (d + 5) σ h x hx).2) (fun Z hs hI => ⟨_, by rw [(y257x (d + 4) Z hI x hx).2]; rfl⟩)
/-- a new medium -/
theorem f128 (h : Inv c kc md rc td lev rk σ) (hc : c < 600) : Fc (d + 8) 128 248 [.ref 0] [.ref 34] cS1 (c + 1) σ := by
  have hmb := h.core.mdb
  by_cases hm8 : md < 8
  · refine Fc.ch (X := am_set (am_set (am_set σ 20 (upd (σ.1 20) md (nI 0))) 21 (upd (σ.1 21) md (nI 0))) 4 (upd (σ.1 4) 5 (nI (md + 1)))) (by rw [c128 (d + 6) σ h.hm hmb.2, if_pos hm8]) ((((EqM.refl σ).setC (by decide) _).setC (by decide) _).setC (by decide) _) (by decide) okM1 (fun W hW => ?_)
    have hWm : W.1 34 22 = nI md := by rw [hW.f 22 (by decide) (by decide)]; exact h.hm'
    refine ⟨am_set (am_set (am_set (th W (nI 0)) 44 (upd (W.1 44) md (nI 0))) 45 (upd (W.1 45) md (nI 0))) 34 (upd ((th W (nI 0)).1 34) 22 (nI (md + 1))), by rw [y248 (d + 7) W hWm hmb.2, if_pos hm8], rfl, by rw [s_eq, show upd ((th W (nI 0)).1 34) 22 (nI (md + 1)) 25 = (th W (nI 0)).1 34 25 from if_neg (by decide), th_v], kc, md + 1, rc, td, lev, rk, ?_⟩
    refine Inv.up (c := c) ?_ (by omega) (by omega)
    generalize hT : hy aM (am_set (am_set (am_set σ 20 (upd (σ.1 20) md (nI 0))) 21 (upd (σ.1 21) md (nI 0))) 4 (upd (σ.1 4) 5 (nI (md + 1)))) (am_set (am_set (am_set (th W (nI 0)) 44 (upd (W.1 44) md (nI 0))) 45 (upd (W.1 45) md (nI 0))) 34 (upd ((th W (nI 0)).1 34) 22 (nI (md + 1)))) = T
    have e20 : T.1 20 = upd (σ.1 20) md (nI 0) := by rw [← hT, hm_C 20 (by decide), s_ne _ _ (by decide), s_ne _ _ (by decide), s_eq]
    have e21 : T.1 21 = upd (σ.1 21) md (nI 0) := by rw [← hT, hm_C 21 (by decide), s_ne _ _ (by decide), s_eq]
    have e44 : T.1 44 = upd (σ.1 44) md (nI 0) := by rw [← hT, hm_M 44 (by decide), s_ne _ _ (by decide), s_ne _ _ (by decide), s_eq, hW.i 44 (by decide) (by decide)]
    have e45 : T.1 45 = upd (σ.1 45) md (nI 0) := by rw [← hT, hm_M 45 (by decide), s_ne _ _ (by decide), s_eq, hW.i 45 (by decide) (by decide)]
    have z0 : ∀ q, q = md → upd (σ.1 21) md (nI 0) q = nI 0 := fun q e => if_pos e
    have z1 : ∀ q, q ≠ md → upd (σ.1 21) md (nI 0) q = σ.1 21 q := fun q e => if_neg e
    have zz : ∀ q, q ≠ md → zn (upd (σ.1 21) md (nI 0)) q = zn (σ.1 21) q := fun q e => by unfold zn; rw [z1 q e]
    refine Inv.mdch h (md' := md + 1) (fun a a1 a2 a3 => ?_) (fun j j1 j2 j3 => ?_) (fun a ha => ?_) ⟨by omega, by omega⟩ ?_ ?_ ?_ ?_ ?_ ?_
    · rw [← hT]
      by_cases e : aM a = true
      · rw [hm_M a e, s_ne _ _ a2, s_ne _ _ (fun z => a3 (by unfold mdc; omega)), s_ne _ _ (fun z => a3 (by unfold mdc; omega)), th_ne _ _ a2, hW.i a a1 a2]
      · rw [hm_C a (by simpa using e), s_ne _ _ (fun z => a3 (by unfold mdc; omega)), s_ne _ _ (fun z => a3 (by unfold mdc; omega)), s_ne _ _ (fun z => a3 (by unfold mdc; omega))]
    · rw [← hT, hm_M 34 (by decide), s_eq, show upd ((th W (nI 0)).1 34) 22 (nI (md + 1)) j = (th W (nI 0)).1 34 j from if_neg j3, th_f _ _ j1, hW.f j j1 j2]
    · rw [← hT]
      rcases ha with e | e | e
      · subst e; exact hyJ' (by decide)
      · subst e; exact (hyJ (by decide)).trans (hW.j 49 (by decide))
      · subst e; exact (hyJ (by decide)).trans (hW.j 50 (by decide))
    · rw [← hT, hm_C 4 (by decide), s_eq]; exact if_pos rfl
    · rw [← hT, hm_M 34 (by decide), s_eq]; exact if_pos rfl
    · intro q hq
      rw [e20, e21]
      by_cases e : q = md
      · have z2 := zn_0 (z0 q e)
        exact ⟨by omega, by rw [z2]; exact z0 q e, Or.inl (if_pos e)⟩
      · rw [zz q e, z1 q e, show upd (σ.1 20) md (nI 0) q = σ.1 20 q from if_neg e]
        exact h.core.med q (by omega)
    · intro q hq i hi
      rw [e21] at hi
      by_cases e : q = md
      · rw [zn_0 (z0 q e)] at hi; omega
      · rw [zz q e] at hi
        exact ⟨by omega, hi⟩
    · rw [e20, e21, usd]
      have : usd (σ.1 20) (σ.1 21) md ≤ usd (upd (σ.1 20) md (nI 0)) (upd (σ.1 21) md (nI 0)) md := usd_mono md (fun q hq => by
        rw [zz q (by omega), show upd (σ.1 20) md (nI 0) q = σ.1 20 q from if_neg (by omega)]; exact Nat.le_refl _)
      omega
    · intro q hq
      rw [e20, e21, e44, e45]
      unfold upd
      by_cases e : q = md
      · rw [if_pos e, if_pos e, if_pos e, if_pos e]; exact ⟨rfl, rfl⟩
      · rw [if_neg e, if_neg e, if_neg e, if_neg e]; exact h.mdm q (by omega)
  · exact Fc.x h hc (E := xIS) (Sm.refl σ) rfl (by rw [c128 (d + 6) σ h.hm hmb.2, if_neg hm8]) (fun Z hs hI => ⟨_, by rw [y248 (d + 7) Z hI.hm' hmb.2, if_neg hm8]; rfl⟩)
end DIR
