/-! calls that change holds, marks, days, custodians' keys or proofs -/
section SFT
abbrev sft (a : Nat) : Prop := a = 0 ∨ a = 10 ∨ a = 11 ∨ a = 12 ∨ a = 18 ∨ a = 19 ∨ a = 32 ∨ a = 33 ∨ a = 38 ∨ a = 39 ∨ a = 40 ∨ a = 41 ∨ a = 52 ∨ a = 53 ∨ a = 54
variable {c kc md rc td : Nat} {lev rk : Nat → Nat} {σ τ : am_M}
theorem Inv.soft (h : Inv c kc md rc td lev rk σ) (g : ∀ a, ¬ scr a → a ≠ 34 → ¬ sft a → τ.1 a = σ.1 a) (f : ∀ j, j ≠ 25 → j ≠ 27 → j ≠ 24 → τ.1 34 j = σ.1 34 j) (j : ∀ a, a = 14 ∨ a = 49 ∨ a = 50 → τ.2.1 a = σ.2.1 a) {td' : Nat} (ht : τ.1 0 12 = nI td') (ht' : τ.1 34 24 = nI td') (tb : td' ≤ 1000000) (e38 : τ.1 38 = τ.1 10) (e41 : τ.1 41 = τ.1 19) (e53 : τ.1 53 = τ.1 33) (e54 : τ.1 54 = τ.1 32)
    (kep : ∀ q, q < 4 → (τ.1 39 q = nI 0 ∧ τ.1 11 q = -1) ∨ ∃ k p, 1 ≤ k ∧ k ≤ kc ∧ p < 85 ∧ τ.1 39 q = nI k ∧ τ.1 11 q = nI k ∧ τ.1 12 q = nI p ∧ τ.1 40 q = nI p) (okh : okH (τ.1 10)) (due : ∀ k, k < 64 → τ.1 18 k = dueOf (σ.1 17) (τ.1 52) k) (mrk : ∀ k, k < 64 → τ.1 19 k = nI 0 ∨ (τ.1 19 k = nI 1 ∧ ¬ σ.1 17 k = -1)) (prl : ∀ s, s < 4 → τ.1 32 s = -1 ∨ ∃ k, k < 64 ∧ τ.1 32 s = nI k) : Inv c kc md rc td' lev rk τ := by
  refine ⟨?_, ?_⟩
  · apply Inv0.mk
    case core => simp only [g 16 (by decide) (by decide) (by decide), g 17 (by decide) (by decide) (by decide), g 13 (by decide) (by decide) (by decide), g 15 (by decide) (by decide) (by decide), g 20 (by decide) (by decide) (by decide), g 21 (by decide) (by decide) (by decide), g 22 (by decide) (by decide) (by decide), g 23 (by decide) (by decide) (by decide), g 24 (by decide) (by decide) (by decide)]; exact h.core
    case cb => exact h.cb
    case kb => simp only [g 20 (by decide) (by decide) (by decide), g 21 (by decide) (by decide) (by decide)]; exact h.kb
    case hk => rw [g 1 (by decide) (by decide) (by decide)]; exact h.hk
    case hm => rw [g 4 (by decide) (by decide) (by decide)]; exact h.hm
    case hr => rw [g 2 (by decide) (by decide) (by decide)]; exact h.hr
    case ht => exact ht
    case tb => exact tb
    case hk' => rw [f 21 (by decide) (by decide) (by decide)]; exact h.hk'
    case hm' => rw [f 22 (by decide) (by decide) (by decide)]; exact h.hm'
    case hr' => rw [f 23 (by decide) (by decide) (by decide)]; exact h.hr'
    case ht' => exact ht'
    case sd => rw [f 20 (by decide) (by decide) (by decide), g 1 (by decide) (by decide) (by decide)]; exact h.sd
    case e35 => rw [g 35 (by decide) (by decide) (by decide), g 16 (by decide) (by decide) (by decide)]; exact h.e35
    case e37 => rw [g 37 (by decide) (by decide) (by decide), g 17 (by decide) (by decide) (by decide)]; exact h.e37
    case e38 => exact e38
    case e41 => exact e41
    case e46 => rw [g 46 (by decide) (by decide) (by decide), g 22 (by decide) (by decide) (by decide)]; exact h.e46
    case e47 => rw [g 47 (by decide) (by decide) (by decide), g 23 (by decide) (by decide) (by decide)]; exact h.e47
    case e48 => rw [g 48 (by decide) (by decide) (by decide), g 24 (by decide) (by decide) (by decide)]; exact h.e48
    case e51 => rw [g 51 (by decide) (by decide) (by decide), g 15 (by decide) (by decide) (by decide)]; exact h.e51
    case e53 => exact e53
    case e54 => exact e54
    case e50 => rw [j 50 (by decide), j 14 (by decide)]; exact h.e50
    case mdm => simp only [g 44 (by decide) (by decide) (by decide), g 20 (by decide) (by decide) (by decide), g 45 (by decide) (by decide) (by decide), g 21 (by decide) (by decide) (by decide)]; exact h.mdm
    case kep => exact kep
    case okh => exact okh
    case due => rw [g 17 (by decide) (by decide) (by decide)]; exact due
    case mrk => rw [g 17 (by decide) (by decide) (by decide)]; exact mrk
    case con => simp only [g 21 (by decide) (by decide) (by decide), g 22 (by decide) (by decide) (by decide), g 23 (by decide) (by decide) (by decide), g 24 (by decide) (by decide) (by decide), g 1 (by decide) (by decide) (by decide), j 49 (by decide), j 14 (by decide)]; exact h.con
    case prl => exact prl
  · rw [g 16 (by decide) (by decide) (by decide), g 17 (by decide) (by decide) (by decide)]; exact h.lf
end SFT
