/-! more of them -/
section SFU
variable (d : Nat) {c kc md rc td : Nat} {lev rk : Nat → Nat} {σ τ : am_M}
theorem f123 (h : Inv c kc md rc td lev rk σ) (hc : c < 600) (x : Int32) : Fc (d + 8) 123 239 [.ref 0, .int x] [.ref 34, .int x] cO (c + 1) σ := by
  by_cases hx : inR x 4
  · have hxl := (inR_of hx).2
    generalize hq : x.toNatClampNeg = q at hxl
    refine Or.inl ⟨σ.1 11 q, am_set (am_set σ 11 (upd (σ.1 11) q (-1))) 12 (upd (σ.1 12) q (-1)), by rw [c123 (d + 6) σ x, if_pos hx, hq], rfl, fun Z hZ => ?_⟩
    have zi := hZ.1.i
    have zf := hZ.1.f
    have z39 : Z.1 39 = σ.1 39 := by rw [zi 39 (by decide) (by decide), s_ne _ _ (by decide), s_ne _ _ (by decide)]
    have hv : (if σ.1 39 q = nI 0 then -1 else σ.1 39 q) = σ.1 11 q := by
      rcases h.kep q hxl with ⟨a, b⟩ | ⟨k, p, a1, a2, _, a3, a4, _⟩
      · rw [if_pos a, b]
      · have hkl := h.kl
        rw [if_neg (by rw [a3]; exact fun z => by have := nI_inj (by omega) (by omega) z; omega), a3, a4]
    refine ⟨am_set (th Z (nI 0)) 39 (upd (σ.1 39) q (nI 0)), by rw [y239 (d + 5) Z x, if_pos hx, z39, hq, hv], rfl, by rw [s_ne _ _ (by decide), th_v], kc, md, rc, td, lev, rk, Inv.up (c := c) ?_ (by omega) (by omega)⟩
    have g2 : ∀ a, ¬ scr a → a ≠ 34 → a ≠ 39 → a ≠ 11 ∧ a ≠ 12 → (am_set (th Z (nI 0)) 39 (upd (σ.1 39) q (nI 0))).1 a = σ.1 a := fun a h1 h2 h3 h4 => by
      rw [s_ne _ _ h3, th_ne _ _ h2, zi a h1 h2, s_ne _ _ h4.2, s_ne _ _ h4.1]
    have f : ∀ j, j ≠ 25 → j ≠ 27 → (am_set (th Z (nI 0)) 39 (upd (σ.1 39) q (nI 0))).1 34 j = σ.1 34 j := fun j h1 h2 => by
      rw [s_ne _ _ (by decide), th_f _ _ h1, zf j h1 h2, s_ne _ _ (by decide), s_ne _ _ (by decide)]
    apply Inv.soft (td' := td) h
    case g => exact fun a h1 h2 h3 => g2 a h1 h2 (fun e => h3 (by unfold sft; omega)) ⟨fun e => h3 (by unfold sft; omega), fun e => h3 (by unfold sft; omega)⟩
    case f => exact fun j h1 h2 _ => f j h1 h2
    case j => exact fun a ha => hZ.1.j a ha
    case ht => rw [g2 0 (by decide) (by decide) (by decide) (by decide)]; exact h.ht
    case ht' => rw [f 24 (by decide) (by decide)]; exact h.ht'
    case tb => exact h.tb
    case e38 => rw [g2 38 (by decide) (by decide) (by decide) (by decide), g2 10 (by decide) (by decide) (by decide) (by decide)]; exact h.e38
    case e41 => rw [g2 41 (by decide) (by decide) (by decide) (by decide), g2 19 (by decide) (by decide) (by decide) (by decide)]; exact h.e41
    case e53 => rw [g2 53 (by decide) (by decide) (by decide) (by decide), g2 33 (by decide) (by decide) (by decide) (by decide)]; exact h.e53
    case e54 => rw [g2 54 (by decide) (by decide) (by decide) (by decide), g2 32 (by decide) (by decide) (by decide) (by decide)]; exact h.e54
    case kep =>
      rw [g2 40 (by decide) (by decide) (by decide) (by decide), s_eq, s_ne _ _ (show (11 : Nat) ≠ 39 by decide), th_ne _ _ (by decide), zi 11 (by decide) (by decide), s_ne _ _ (show (11 : Nat) ≠ 12 by decide), s_eq, s_ne _ _ (show (12 : Nat) ≠ 39 by decide), th_ne _ _ (by decide), zi 12 (by decide) (by decide), s_eq]
      intro q' hq'
      by_cases e : q' = q
      · exact Or.inl ⟨if_pos e, if_pos e⟩
      · rw [show upd (σ.1 39) q (nI 0) q' = σ.1 39 q' from if_neg e, show upd (σ.1 11) q (-1) q' = σ.1 11 q' from if_neg e, show upd (σ.1 12) q (-1) q' = σ.1 12 q' from if_neg e]
        exact h.kep q' hq'
    case okh => rw [g2 10 (by decide) (by decide) (by decide) (by decide)]; exact h.okh
    case due => rw [g2 18 (by decide) (by decide) (by decide) (by decide), g2 52 (by decide) (by decide) (by decide) (by decide)]; exact h.due
    case mrk => rw [g2 19 (by decide) (by decide) (by decide) (by decide)]; exact h.mrk
    case prl => rw [g2 32 (by decide) (by decide) (by decide) (by decide)]; exact h.prl
  · exact Fc.x h hc (E := xIO) (Sm.refl σ) rfl (by rw [c123 (d + 6) σ x, if_neg hx]) (fun Z hs hI => ⟨_, by rw [y239 (d + 5) Z x, if_neg hx]; rfl⟩)
theorem f122 (h : Inv c kc md rc td lev rk σ) (hc : c < 600) (x y : Int32) : Fc (d + 8) 122 238 [.ref 0, .int x, .int y] [.ref 34, .int x, .int y] cdS (c + 1) σ := by
  by_cases hxy : inR x 4 ∧ inR y 85
  · obtain ⟨e1, h1⟩ := inR_of hxy.1
    obtain ⟨e2, h2⟩ := inR_of hxy.2
    generalize x.toNatClampNeg = q at e1 h1
    generalize y.toNatClampNeg = p at e2 h2
    subst e1 e2
    by_cases hn : σ.1 16 p = nI 0
    · exact Fc.x h hc (E := xIS) (Sm.refl σ) rfl (by rw [c122 (d + 4) σ h1 h2, if_pos hn]) (fun Z hs hI => ⟨_, by rw [y238 (d + 5) Z h1 h2, hI.e35, hs.i 16 (by decide) (by decide), if_pos hn]; rfl⟩)
    · refine Or.inl ⟨σ.1 16 p, am_set (am_set σ 11 (upd (σ.1 11) q (σ.1 16 p))) 12 (upd (σ.1 12) q (nI p)), by rw [c122 (d + 4) σ h1 h2, if_neg hn], rfl, fun Z hZ => ?_⟩
      have zi := hZ.1.i
      have zf := hZ.1.f
      have z39 : Z.1 39 = σ.1 39 := by rw [zi 39 (by decide) (by decide), s_ne _ _ (by decide), s_ne _ _ (by decide)]
      have z40 : Z.1 40 = σ.1 40 := by rw [zi 40 (by decide) (by decide), s_ne _ _ (by decide), s_ne _ _ (by decide)]
      have z35 : Z.1 35 = σ.1 16 := by rw [zi 35 (by decide) (by decide), s_ne _ _ (by decide), s_ne _ _ (by decide), h.e35]
      refine ⟨am_set (am_set (th Z (nI 0)) 39 (upd (σ.1 39) q (σ.1 16 p))) 40 (upd (σ.1 40) q (nI p)), by rw [y238 (d + 5) Z h1 h2, z35, if_neg hn, z39, z40], rfl, by rw [s_ne _ _ (by decide), s_ne _ _ (by decide), th_v], kc, md, rc, td, lev, rk, Inv.up (c := c) ?_ (by omega) (by omega)⟩
      have g2 : ∀ a, ¬ scr a → a ≠ 34 → a ≠ 39 ∧ a ≠ 40 → a ≠ 11 ∧ a ≠ 12 → (am_set (am_set (th Z (nI 0)) 39 (upd (σ.1 39) q (σ.1 16 p))) 40 (upd (σ.1 40) q (nI p))).1 a = σ.1 a := fun a h1 h2 h3 h4 => by
        rw [s_ne _ _ h3.2, s_ne _ _ h3.1, th_ne _ _ h2, zi a h1 h2, s_ne _ _ h4.2, s_ne _ _ h4.1]
      have f : ∀ j, j ≠ 25 → j ≠ 27 → (am_set (am_set (th Z (nI 0)) 39 (upd (σ.1 39) q (σ.1 16 p))) 40 (upd (σ.1 40) q (nI p))).1 34 j = σ.1 34 j := fun j h1 h2 => by
        rw [s_ne _ _ (by decide), s_ne _ _ (by decide), th_f _ _ h1, zf j h1 h2, s_ne _ _ (by decide), s_ne _ _ (by decide)]
      apply Inv.soft (td' := td) h
      case g => exact fun a h1 h2 h3 => g2 a h1 h2 ⟨fun e => h3 (by unfold sft; omega), fun e => h3 (by unfold sft; omega)⟩ ⟨fun e => h3 (by unfold sft; omega), fun e => h3 (by unfold sft; omega)⟩
      case f => exact fun j h1 h2 _ => f j h1 h2
      case j => exact fun a ha => hZ.1.j a ha
      case ht => rw [g2 0 (by decide) (by decide) (by decide) (by decide)]; exact h.ht
      case ht' => rw [f 24 (by decide) (by decide)]; exact h.ht'
      case tb => exact h.tb
      case e38 => rw [g2 38 (by decide) (by decide) (by decide) (by decide), g2 10 (by decide) (by decide) (by decide) (by decide)]; exact h.e38
      case e41 => rw [g2 41 (by decide) (by decide) (by decide) (by decide), g2 19 (by decide) (by decide) (by decide) (by decide)]; exact h.e41
      case e53 => rw [g2 53 (by decide) (by decide) (by decide) (by decide), g2 33 (by decide) (by decide) (by decide) (by decide)]; exact h.e53
      case e54 => rw [g2 54 (by decide) (by decide) (by decide) (by decide), g2 32 (by decide) (by decide) (by decide) (by decide)]; exact h.e54
      case kep =>
        rw [s_eq, s_ne _ _ (show (39 : Nat) ≠ 40 by decide), s_eq, s_ne _ _ (show (11 : Nat) ≠ 40 by decide), s_ne _ _ (show (11 : Nat) ≠ 39 by decide), th_ne _ _ (by decide), zi 11 (by decide) (by decide), s_ne _ _ (show (11 : Nat) ≠ 12 by decide), s_eq, s_ne _ _ (show (12 : Nat) ≠ 40 by decide), s_ne _ _ (show (12 : Nat) ≠ 39 by decide), th_ne _ _ (by decide), zi 12 (by decide) (by decide), s_eq]
        intro q' hq'
        by_cases e : q' = q
        · rcases h.core.node p h2 with a | ⟨k, a1, a2, a3, _⟩
          · exact absurd a hn
          · exact Or.inr ⟨k, p, a1, a2, h2, Eq.trans (if_pos e) a3, Eq.trans (if_pos e) a3, if_pos e, if_pos e⟩
        · rw [show upd (σ.1 39) q (σ.1 16 p) q' = σ.1 39 q' from if_neg e, show upd (σ.1 11) q (σ.1 16 p) q' = σ.1 11 q' from if_neg e, show upd (σ.1 12) q (nI p) q' = σ.1 12 q' from if_neg e, show upd (σ.1 40) q (nI p) q' = σ.1 40 q' from if_neg e]
          exact h.kep q' hq'
      case okh => rw [g2 10 (by decide) (by decide) (by decide) (by decide)]; exact h.okh
      case due => rw [g2 18 (by decide) (by decide) (by decide) (by decide), g2 52 (by decide) (by decide) (by decide) (by decide)]; exact h.due
      case mrk => rw [g2 19 (by decide) (by decide) (by decide) (by decide)]; exact h.mrk
      case prl => rw [g2 32 (by decide) (by decide) (by decide) (by decide)]; exact h.prl
  · exact Fc.x h hc (E := xIO) (Sm.refl σ) rfl (by rw [c122x (d + 6) σ x y hxy]) (fun Z hs hI => ⟨_, by rw [y238x (d + 5) Z x y hxy]; rfl⟩)
end SFU
