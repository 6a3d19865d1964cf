/-! wrapping keys, both sides -/
section WRA
/-- only entries and sizes differ -/
abbrev FW (σ τ : am_M) : Prop := (∀ a, ¬ (a = 21 ∨ a = 22 ∨ a = 23 ∨ a = 24 ∨ a = 45 ∨ a = 46 ∨ a = 47 ∨ a = 48) → τ.1 a = σ.1 a) ∧ (∀ a, a ≠ 49 → τ.2.1 a = σ.2.1 a)
theorem FW.i {σ τ : am_M} (h : FW σ τ) : ∀ a, ¬ (a = 21 ∨ a = 22 ∨ a = 23 ∨ a = 24 ∨ a = 45 ∨ a = 46 ∨ a = 47 ∨ a = 48) → τ.1 a = σ.1 a := h.1
theorem FW.j {σ τ : am_M} (h : FW σ τ) : ∀ a, a ≠ 49 → τ.2.1 a = σ.2.1 a := h.2
theorem FW.mk {σ τ : am_M} (i : ∀ a, ¬ (a = 21 ∨ a = 22 ∨ a = 23 ∨ a = 24 ∨ a = 45 ∨ a = 46 ∨ a = 47 ∨ a = 48) → τ.1 a = σ.1 a) (j : ∀ a, a ≠ 49 → τ.2.1 a = σ.2.1 a) : FW σ τ := ⟨i, j⟩
theorem FW.refl (σ : am_M) : FW σ σ := ⟨fun _ _ => rfl, fun _ _ => rfl⟩
theorem FW.trans {σ τ ρ : am_M} (h1 : FW σ τ) (h2 : FW τ ρ) : FW σ ρ := ⟨fun a ha => (h2.i a ha).trans (h1.i a ha), fun a ha => (h2.j a ha).trans (h1.j a ha)⟩
theorem FW.jw (σ : am_M) (t s : Nat) (a b e : Int32) (w : Int64) : FW σ (JW σ t s a b e w) := by
  refine ⟨fun x hx => ?_, fun x hx => ?_⟩
  · simp only [JW, wrM, wrE, s_rd, sJ_I]
    rw [if_neg (by omega), if_neg (by omega), if_neg (by omega), if_neg (by omega), if_neg (by omega), if_neg (by omega), if_neg (by omega), if_neg (by omega)]
  · simp only [JW, wrM, wrE, sJ_rd, s_J]
    rw [if_neg hx]
variable (d : Nat) {c kc md rc td : Nat} {lev rk : Nat → Nat}
/-- the invariant of a writing run -/
abbrev JB (c kc md rc td : Nat) (lev rk : Nat → Nat) (t s : Nat) (σ : am_M) : Prop := (Inv0 c kc md rc td lev rk σ) ∧ (Wr md t s σ)
theorem JB.v {c kc md rc td : Nat} {lev rk : Nat → Nat} {t s : Nat} {σ : am_M} (h : JB c kc md rc td lev rk t s σ) : Inv0 c kc md rc td lev rk σ := h.1
theorem JB.w {c kc md rc td : Nat} {lev rk : Nat → Nat} {t s : Nat} {σ : am_M} (h : JB c kc md rc td lev rk t s σ) : Wr md t s σ := h.2
theorem JB.mk {c kc md rc td : Nat} {lev rk : Nat → Nat} {t s : Nat} {σ : am_M} (v : Inv0 c kc md rc td lev rk σ) (w : Wr md t s σ) : JB c kc md rc td lev rk t s σ := ⟨v, w⟩
theorem Inv0.up {σ : am_M} (h : Inv0 c kc md rc td lev rk σ) {c' : Nat} (h1 : c ≤ c') (h2 : c' ≤ 600) : Inv0 c' kc md rc td lev rk σ := by
  have hb := h.kb
  apply Inv0.mk
  case core => exact h.core
  case cb => exact h2
  case kb => omega
  case hk => exact h.hk
  case hm => exact h.hm
  case hr => exact h.hr
  case ht => exact h.ht
  case tb => exact h.tb
  case hk' => exact h.hk'
  case hm' => exact h.hm'
  case hr' => exact h.hr'
  case ht' => exact h.ht'
  case sd => exact h.sd
  case e35 => exact h.e35
  case e37 => exact h.e37
  case e38 => exact h.e38
  case e41 => exact h.e41
  case e46 => exact h.e46
  case e47 => exact h.e47
  case e48 => exact h.e48
  case e51 => exact h.e51
  case e53 => exact h.e53
  case e54 => exact h.e54
  case e50 => exact h.e50
  case mdm => exact h.mdm
  case kep => exact h.kep
  case okh => exact h.okh
  case due => exact h.due
  case mrk => exact h.mrk
  case con => exact h.con
  case prl => exact h.prl
theorem JB.jw {σ : am_M} {t s : Nat} (h : JB c kc md rc td lev rk t s σ) (hs : s < 150) {ki inn out : Int32} {w : Int64} (he : okE kc rc lev rk (σ.1 1 1) (σ.2.1 14) ki inn out w) : JB (c - 1) kc md rc td lev rk t (s + 1) (JW σ t s ki inn out w) :=
  ⟨h.v.wr h.w.lt h.w.st h.w.sz hs he, h.w.jw (by omega) ki inn out w⟩
/-- the wrapped key of a place may be written -/
theorem wrap_ok {σ : am_M} (h : Inv0 c kc md rc td lev rk σ) {q : Nat} (h0 : 0 < q) (hq : q < 85) (hn : ¬ σ.1 16 q = nI 0) : okE kc rc lev rk (σ.1 1 1) (σ.2.1 14) (nI 0) (σ.1 16 q) (σ.1 16 (par q)) (wrp (σ.1 1 1) (σ.1 16 q) (σ.1 16 (par q))).toInt64 := by
  have hp := h.core.pars q h0 hq hn
  have hpl := par_lt h0
  rcases h.core.node q hq with e | ⟨k, a1, a2, a3, a4, a5⟩
  · exact absurd e hn
  · rcases h.core.node (par q) (by omega) with e | ⟨k', b1, b2, b3, b4, b5⟩
    · exact absurd e hp
    · exact Or.inl ⟨rfl, rfl, k, k', a1, a2, b1, b2, a3, b3, by rw [a5, b5, lvl_par h0 hq]⟩
/-- all children of a place are wrapped anew -/
theorem wch {J : am_M} {t s : Nat} (h : JB c kc md rc td lev rk t s J) {p : Nat} (hp : p < 21) {ch : Nat} (hch : ch = cnt (fun i => ¬ J.1 16 (4 * p + 1 + i) = nI 0) 0 4) (hs : s + ch ≤ 150) : ∃ J', JB (c - ch) kc md rc td lev rk t (s + ch) J' ∧ FW J J' ∧ (∀ X, EqC J X → ∃ X', am_ex (d + 6) 152 [.ref 0, .int (nI p)] X = rV X' ∧ EqC J' X' ∧ EqM X X') ∧ (∀ Y, EqM J Y → ∃ Y', am_ex (d + 6) 232 [.ref 34, .int (nI p)] Y = rV Y' ∧ EqM J' Y' ∧ Kp Y Y') := by
  have key : ∀ i, i ≤ 4 → ∃ J', JB (c - cnt (fun i => ¬ J.1 16 (4 * p + 1 + i) = nI 0) 0 i) kc md rc td lev rk t (s + cnt (fun i => ¬ J.1 16 (4 * p + 1 + i) = nI 0) 0 i) J' ∧ FW J J' ∧ (∀ X, EqC J X → ∃ X', am_go am_X0 (am_ex (d + 5)) M152 7 [.ref 0, .int (nI p), .int (nI (4 * p + 1)), .int (nI (4 * p + 1))] [] X = am_go am_X0 (am_ex (d + 5)) M152 7 [.ref 0, .int (nI p), .int (nI (4 * p + 1)), .int (nI (4 * p + 1 + i))] [] X' ∧ EqC J' X' ∧ EqM X X') ∧ (∀ Y, EqM J Y → ∃ Y', am_go am_X0 (am_ex (d + 5)) M232 6 [.ref 34, .int (nI p), .int (nI (4 * p + 1))] [] Y = am_go am_X0 (am_ex (d + 5)) M232 6 [.ref 34, .int (nI p), .int (nI (4 * p + 1 + i))] [] Y' ∧ EqM J' Y' ∧ Kp Y Y') := by
    intro i
    induction i with
    | zero =>
      intro _
      exact ⟨J, by rw [cnt, Nat.sub_zero, Nat.add_zero]; exact h, FW.refl J, fun X hX => ⟨X, rfl, hX, EqM.refl X⟩, fun Y hY => ⟨Y, rfl, hY, Kp.refl Y⟩⟩
    | succ i ih =>
      intro hi
      obtain ⟨J', hB, hF, hX, hY⟩ := ih (by omega)
      have e16 : J'.1 16 = J.1 16 := hF.i 16 (by decide)
      have hpq : par (4 * p + 1 + i) = p := by have := par_ch (p := p) (c := 1 + i) (by omega) (by omega); rw [← Nat.add_assoc] at this; exact this
      rw [cnt_s, Nat.zero_add]
      have hmono : cnt (fun i => ¬ J.1 16 (4 * p + 1 + i) = nI 0) 0 i + (if ¬ J.1 16 (4 * p + 1 + i) = nI 0 then 1 else 0) ≤ ch := by
        have h1 := cnt_s (fun i => ¬ J.1 16 (4 * p + 1 + i) = nI 0) i 0
        rw [Nat.zero_add] at h1
        rw [← h1, hch]
        have : ∀ a b, a ≤ b → cnt (fun i => ¬ J.1 16 (4 * p + 1 + i) = nI 0) 0 a ≤ cnt (fun i => ¬ J.1 16 (4 * p + 1 + i) = nI 0) 0 b := by
          intro a b hab
          induction b with
          | zero => rw [show a = 0 by omega]; exact Nat.le_refl _
          | succ b ihb =>
            by_cases e : a = b + 1
            · rw [e]; exact Nat.le_refl _
            · have := ihb (by omega)
              rw [cnt_s]; omega
        exact this (i + 1) 4 hi
      by_cases hn : J.1 16 (4 * p + 1 + i) = nI 0
      · rw [if_neg (fun z => z hn), Nat.add_zero]
        refine ⟨J', hB, hF, fun X eX => ?_, fun Y eY => ?_⟩
        · obtain ⟨X', k1, k2, k3⟩ := hX X eX
          refine ⟨X', ?_, k2, k3⟩
          rw [k1, q152_7, nI_add, if_neg (by rw [i_le, i_n (by omega), i_n (by omega)]; omega), x78, bI_r]
          simp only [bz_0]
          rw [rd_n (by omega) (by omega), k2.i 16 (by decide) (by decide), e16, if_pos (fun z => z hn), show nI (4 * p + 1 + i) + nI 1 = nI (4 * p + 1 + (i + 1)) from nI_1 _]
        · obtain ⟨Y', k1, k2, k3⟩ := hY Y eY
          refine ⟨Y', ?_, k2, k3⟩
          rw [k1, q232_6, pk_mul, nI_add, if_neg (by rw [i_lt, i_n (by omega), i_n (by omega)]; omega), if_pos (am_k (by omega) (by omega)), i_cl (by omega), k2.i 35 (by decide) (by decide) (by decide), hB.v.e35, e16, if_pos hn, show nI (4 * p + 1 + i) + nI 1 = nI (4 * p + 1 + (i + 1)) from nI_1 _]
      · rw [if_pos hn] at hmono ⊢
        have hn' : ¬ J'.1 16 (4 * p + 1 + i) = nI 0 := by rw [e16]; exact hn
        have hs' : s + cnt (fun i => ¬ J.1 16 (4 * p + 1 + i) = nI 0) 0 i < 150 := by omega
        have hok := wrap_ok hB.v (q := 4 * p + 1 + i) (by omega) (by omega) hn'
        rw [hpq] at hok
        refine ⟨JW J' t (s + cnt (fun i => ¬ J.1 16 (4 * p + 1 + i) = nI 0) 0 i) (nI 0) (J'.1 16 (4 * p + 1 + i)) (J'.1 16 p) (wrp (J'.1 1 1) (J'.1 16 (4 * p + 1 + i)) (J'.1 16 p)).toInt64, ?_, hF.trans (FW.jw _ _ _ _ _ _ _), fun X eX => ?_, fun Y eY => ?_⟩
        · have := hB.jw hs' hok
          rw [Nat.sub_sub, Nat.add_assoc] at this
          exact this
        · obtain ⟨X', k1, k2, k3⟩ := hX X eX
          have hx := x151 d hB.v hB.w hs' k2 (p := 4 * p + 1 + i) (by omega) (by omega)
          rw [hpq] at hx
          refine ⟨_, ?_, JW_C k2 _ _ _ _ _ _, wrE_M k3 _ _ _ _ _⟩
          rw [k1, q152_7, nI_add, if_neg (by rw [i_le, i_n (by omega), i_n (by omega)]; omega), x78, bI_r]
          simp only [bz_0]
          rw [rd_n (by omega) (by omega), k2.i 16 (by decide) (by decide), if_neg (fun z => z hn'), hx, bV_r, show nI (4 * p + 1 + i) + nI 1 = nI (4 * p + 1 + (i + 1)) from nI_1 _]
        · obtain ⟨Y', k1, k2, k3⟩ := hY Y eY
          refine ⟨_, ?_, JW_M k2 _ _ _ _ _ _, k3.w _ _ _ _ _ _⟩
          rw [k1, q232_6, pk_mul, nI_add, if_neg (by rw [i_lt, i_n (by omega), i_n (by omega)]; omega), if_pos (am_k (by omega) (by omega)), i_cl (by omega), k2.i 35 (by decide) (by decide) (by decide), hB.v.e35, if_neg hn', if_pos (am_k (by omega) (by omega)), if_pos (am_k (by omega) (by omega)), i_cl (by omega), y189j (d + 2) hB.v hB.w hs' k2, bV_r, show nI (4 * p + 1 + i) + nI 1 = nI (4 * p + 1 + (i + 1)) from nI_1 _]
  obtain ⟨J', hB, hF, hX, hY⟩ := key 4 (Nat.le_refl _)
  rw [← hch] at hB
  refine ⟨J', hB, hF, fun X eX => ?_, fun Y eY => ?_⟩
  · obtain ⟨X', k1, k2, k3⟩ := hX X eX
    refine ⟨X', ?_, k2, k3⟩
    rw [e152, q152_0, x167, bI_r, k1, q152_7, nI_add, if_pos (by rw [i_le]; exact Int.le_refl _)]
  · obtain ⟨Y', k1, k2, k3⟩ := hY Y eY
    refine ⟨Y', ?_, k2, k3⟩
    rw [e232, q232_0, pk_mul, nI_add, k1, q232_6, pk_mul, nI_add, if_pos (by rw [i_lt, i_n (by omega), i_n (by omega)]; omega)]
end WRA
