/-! calls that change holds, marks, days, custodians' keys or proofs -/
section SFT
abbrev sft (a : Nat) : Prop := a = 0 ∨ a = 10 ∨ a = 11 ∨ a = 12 ∨ a = 18 ∨ a = 19 ∨ a = 32 ∨ a = 33 ∨ a = 38 ∨ a = 39 ∨ a = 40 ∨ a = 41 ∨ a = 52 ∨ a = 53 ∨ a = 54
variable {c kc md rc td : Nat} {lev rk : Nat → Nat} {σ τ : am_M}
theorem Inv.soft (h : Inv c kc md rc td lev rk σ) (g : ∀ a, ¬ scr a → a ≠ 34 → ¬ sft a → τ.1 a = σ.1 a) (f : ∀ j, j ≠ 25 → j ≠ 27 → j ≠ 24 → τ.1 34 j = σ.1 34 j) (j : ∀ a, a = 14 ∨ a = 49 ∨ a = 50 → τ.2.1 a = σ.2.1 a) {td' : Nat} (ht : τ.1 0 12 = nI td') (ht' : τ.1 34 24 = nI td') (tb : td' ≤ 1000000) (e38 : τ.1 38 = τ.1 10) (e41 : τ.1 41 = τ.1 19) (e53 : τ.1 53 = τ.1 33) (e54 : τ.1 54 = τ.1 32)
    (kep : ∀ q, q < 4 → (τ.1 39 q = nI 0 ∧ τ.1 11 q = -1) ∨ ∃ k p, 1 ≤ k ∧ k ≤ kc ∧ p < 85 ∧ τ.1 39 q = nI k ∧ τ.1 11 q = nI k ∧ τ.1 12 q = nI p ∧ τ.1 40 q = nI p) (okh : okH (τ.1 10)) (due : ∀ k, k < 64 → τ.1 18 k = dueOf (σ.1 17) (τ.1 52) k) (mrk : ∀ k, k < 64 → τ.1 19 k = nI 0 ∨ (τ.1 19 k = nI 1 ∧ ¬ σ.1 17 k = -1)) (prl : ∀ s, s < 4 → τ.1 32 s = -1 ∨ ∃ k, k < 64 ∧ τ.1 32 s = nI k) : Inv c kc md rc td' lev rk τ := by
  refine ⟨?_, ?_⟩
  · apply Inv0.mk
    case core => simp only [g 16 (by decide) (by decide) (by decide), g 17 (by decide) (by decide) (by decide), g 13 (by decide) (by decide) (by decide), g 15 (by decide) (by decide) (by decide), g 20 (by decide) (by decide) (by decide), g 21 (by decide) (by decide) (by decide), g 22 (by decide) (by decide) (by decide), g 23 (by decide) (by decide) (by decide), g 24 (by decide) (by decide) (by decide)]; exact h.core
    case cb => exact h.cb
    case kb => simp only [g 20 (by decide) (by decide) (by decide), g 21 (by decide) (by decide) (by decide)]; exact h.kb
    case hk => rw [g 1 (by decide) (by decide) (by decide)]; exact h.hk
    case hm => rw [g 4 (by decide) (by decide) (by decide)]; exact h.hm
    case hr => rw [g 2 (by decide) (by decide) (by decide)]; exact h.hr
    case ht => exact ht
    case tb => exact tb
    case hk' => rw [f 21 (by decide) (by decide) (by decide)]; exact h.hk'
    case hm' => rw [f 22 (by decide) (by decide) (by decide)]; exact h.hm'
    case hr' => rw [f 23 (by decide) (by decide) (by decide)]; exact h.hr'
    case ht' => exact ht'
    case sd => rw [f 20 (by decide) (by decide) (by decide), g 1 (by decide) (by decide) (by decide)]; exact h.sd
    case e35 => rw [g 35 (by decide) (by decide) (by decide), g 16 (by decide) (by decide) (by decide)]; exact h.e35
    case e37 => rw [g 37 (by decide) (by decide) (by decide), g 17 (by decide) (by decide) (by decide)]; exact h.e37
    case e38 => exact e38
    case e41 => exact e41
    case e46 => rw [g 46 (by decide) (by decide) (by decide), g 22 (by decide) (by decide) (by decide)]; exact h.e46
    case e47 => rw [g 47 (by decide) (by decide) (by decide), g 23 (by decide) (by decide) (by decide)]; exact h.e47
    case e48 => rw [g 48 (by decide) (by decide) (by decide), g 24 (by decide) (by decide) (by decide)]; exact h.e48
    case e51 => rw [g 51 (by decide) (by decide) (by decide), g 15 (by decide) (by decide) (by decide)]; exact h.e51
    case e53 => exact e53
    case e54 => exact e54
    case e50 => rw [j 50 (by decide), j 14 (by decide)]; exact h.e50
    case mdm => simp only [g 44 (by decide) (by decide) (by decide), g 20 (by decide) (by decide) (by decide), g 45 (by decide) (by decide) (by decide), g 21 (by decide) (by decide) (by decide)]; exact h.mdm
    case kep => exact kep
    case okh => exact okh
    case due => rw [g 17 (by decide) (by decide) (by decide)]; exact due
    case mrk => rw [g 17 (by decide) (by decide) (by decide)]; exact mrk
    case con => simp only [g 21 (by decide) (by decide) (by decide), g 22 (by decide) (by decide) (by decide), g 23 (by decide) (by decide) (by decide), g 24 (by decide) (by decide) (by decide), g 1 (by decide) (by decide) (by decide), j 49 (by decide), j 14 (by decide)]; exact h.con
    case prl => exact prl
  · rw [g 16 (by decide) (by decide) (by decide), g 17 (by decide) (by decide) (by decide)]; exact h.lf
variable (d : Nat)
theorem f108 (h : Inv c kc md rc td lev rk σ) (hc : c < 600) (x : Int32) : Fc (d + 8) 108 222 [.ref 0, .int x] [.ref 34, .int x] cO (c + 1) σ := by
  by_cases hx : inR x 8
  · have hxl := (inR_of hx).2
    refine Or.inl ⟨σ.1 10 x.toNatClampNeg, am_set σ 10 (upd (σ.1 10) x.toNatClampNeg (-1)), by rw [c108 (d + 6) σ x, if_pos hx], rfl, fun Z hZ => ?_⟩
    have z38 : Z.1 38 = σ.1 10 := by rw [hZ.1.i 38 (by decide) (by decide), s_ne _ _ (by decide), h.e38]
    refine ⟨am_set (th Z (nI 0)) 38 (upd (σ.1 10) x.toNatClampNeg (-1)), by rw [y222 (d + 5) Z x, if_pos hx, z38], rfl, by rw [s_ne _ _ (by decide), th_v], kc, md, rc, td, lev, rk, Inv.up (c := c) ?_ (by omega) (by omega)⟩
    have g : ∀ a, ¬ scr a → a ≠ 34 → a ≠ 38 → (am_set (th Z (nI 0)) 38 (upd (σ.1 10) x.toNatClampNeg (-1))).1 a = (am_set σ 10 (upd (σ.1 10) x.toNatClampNeg (-1))).1 a := fun a h1 h2 h3 => by
      rw [s_ne _ _ h3, th_ne _ _ h2, hZ.1.i a h1 h2]
    have g2 : ∀ a, ¬ scr a → a ≠ 34 → a ≠ 38 → a ≠ 10 → (am_set (th Z (nI 0)) 38 (upd (σ.1 10) x.toNatClampNeg (-1))).1 a = σ.1 a := fun a h1 h2 h3 h4 => by
      rw [g a h1 h2 h3, s_ne _ _ h4]
    have f : ∀ j, j ≠ 25 → j ≠ 27 → (am_set (th Z (nI 0)) 38 (upd (σ.1 10) x.toNatClampNeg (-1))).1 34 j = σ.1 34 j := fun j h1 h2 => by
      rw [s_ne _ _ (by decide), th_f _ _ h1, hZ.1.f j h1 h2, s_ne _ _ (by decide)]
    apply Inv.soft (td' := td) h
    case g => exact fun a h1 h2 h3 => g2 a h1 h2 (fun e => h3 (by unfold sft; omega)) (fun e => h3 (by unfold sft; omega))
    case f => exact fun j h1 h2 _ => f j h1 h2
    case j => exact fun a ha => hZ.1.j a ha
    case ht => rw [g2 0 (by decide) (by decide) (by decide) (by decide)]; exact h.ht
    case ht' => rw [f 24 (by decide) (by decide)]; exact h.ht'
    case tb => exact h.tb
    case e38 => rw [g 10 (by decide) (by decide) (by decide), s_eq, s_eq]
    case e41 => rw [g2 41 (by decide) (by decide) (by decide) (by decide), g2 19 (by decide) (by decide) (by decide) (by decide)]; exact h.e41
    case e53 => rw [g2 53 (by decide) (by decide) (by decide) (by decide), g2 33 (by decide) (by decide) (by decide) (by decide)]; exact h.e53
    case e54 => rw [g2 54 (by decide) (by decide) (by decide) (by decide), g2 32 (by decide) (by decide) (by decide) (by decide)]; exact h.e54
    case kep => rw [g2 39 (by decide) (by decide) (by decide) (by decide), g2 11 (by decide) (by decide) (by decide) (by decide), g2 12 (by decide) (by decide) (by decide) (by decide), g2 40 (by decide) (by decide) (by decide) (by decide)]; exact h.kep
    case okh =>
      rw [g 10 (by decide) (by decide) (by decide), s_eq]
      intro q hq
      by_cases e : q = x.toNatClampNeg
      · exact Or.inl (if_pos e)
      · rw [show upd (σ.1 10) x.toNatClampNeg (-1) q = σ.1 10 q from if_neg e]; exact h.okh q hq
    case due => rw [g2 18 (by decide) (by decide) (by decide) (by decide), g2 52 (by decide) (by decide) (by decide) (by decide)]; exact h.due
    case mrk => rw [g2 19 (by decide) (by decide) (by decide) (by decide)]; exact h.mrk
    case prl => rw [g2 32 (by decide) (by decide) (by decide) (by decide)]; exact h.prl
  · exact Fc.x h hc (E := xIO) (Sm.refl σ) rfl (by rw [c108 (d + 6) σ x, if_neg hx]) (fun Z hs hI => ⟨_, by rw [y222 (d + 5) Z x, if_neg hx]; rfl⟩)
end SFT
