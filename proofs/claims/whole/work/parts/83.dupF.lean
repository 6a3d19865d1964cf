/-! duplicate: the runs -/
section DPF
variable (d : Nat) {c kc md rc td : Nat} {lev rk : Nat → Nat} {σ : am_M}
theorem lk_n (h : Inv c kc md rc td lev rk σ) {t s : Nat} (h1 : 1 ≤ s) (h2 : s < 149) (hL : lkP σ md t s) : (s < 85 → ¬ σ.1 16 s = nI 0) ∧ (85 ≤ s → ¬ σ.1 17 (s - 85) = -1) := by
  have hkl := h.kl
  have hrb := h.core.rcb
  obtain ⟨m0, _, hm0, hne0, hst0, hon0⟩ := (ext_iff _ _ _).mp hL.2
  obtain ⟨a0, ha1, ha2, he0⟩ := (ext_iff _ _ _).mp hon0
  obtain ⟨x0, rfl⟩ : ∃ x0, a0 = m0 * 150 + x0 := ⟨a0 - m0 * 150, by omega⟩
  obtain ⟨b1, b2, b3⟩ := (isE_iff σ s _).mp he0
  constructor
  · intro z e
    unfold sIn at b2
    unfold sKi at b1
    rw [if_pos z] at b1 b2
    rcases h.core.ent m0 (by omega) x0 (by omega) with ⟨a1, x, y, a2, a3, a4, a5, a6, a7, a8⟩ | ⟨a1, _⟩
    · rw [a6, e] at b2
      have := nI_inj (by omega) (by omega) b2
      omega
    · rw [a1] at b1; exact n10 b1
  · intro z e
    unfold sIn at b2
    unfold sKi at b1
    rw [if_neg (by omega)] at b1 b2
    rcases h.core.ent m0 (by omega) x0 (by omega) with ⟨a1, _⟩ | ⟨a1, r, y, a2, a3, a4, a5, a6, a7, a8⟩
    · rw [a1] at b1; exact n10 b1.symm
    · rw [a5, e] at b2
      exact nI_nm (by omega) b2
/-- what the reference does at a spot -/
theorem y264p {J Y : am_M} (h : Inv c kc md rc td lev rk J) (hY : EqM J Y) {t q : Nat} (ht : t < md) (hq1 : 1 ≤ q) (hq : q < 85) (wr n : Nat) (hw : wr = 0 ∨ wr = 1) : am_go am_X0 (am_ex (d + 3)) M264 5 [.ref 34, .int (nI t), .int (nI wr), .int (nI n), .int (nI q), .null] [] Y = if lkP J md t q then (if wr = 0 then am_go am_X0 (am_ex (d + 3)) M264 5 [.ref 34, .int (nI t), .int (nI wr), .int (nI (n + 1)), .int (nI (q + 1)), .null] [] Y else am_bV (am_ex (d + 3) 189 [.ref 34, .int (sIn J q), .int (sOu J q)] Y) (fun t4 => am_go am_X0 (am_ex (d + 3)) M264 5 [.ref 34, .int (nI t), .int (nI wr), .int (nI (n + 1)), .int (nI (q + 1)), .null] [] t4)) else am_go am_X0 (am_ex (d + 3)) M264 5 [.ref 34, .int (nI t), .int (nI wr), .int (nI n), .int (nI (q + 1)), .null] [] Y := by
  have e35 : Y.1 35 = J.1 16 := by rw [hY.i 35 (by decide) (by decide) (by decide)]; exact h.e35
  have hpl := par_lt (p := q) (by omega)
  have hi : sIn J q = J.1 16 q := if_pos hq
  have ho : sOu J q = J.1 16 (par q) := if_pos hq
  have hk : sKi q = nI 0 := if_pos hq
  have h263 := y263 d h hY ht q
  rw [hi, ho, hk] at h263
  rw [q264_5, if_neg (by rw [i_le, i_n (by omega), i_n (by omega)]; omega), if_pos (am_k hq (by omega)), i_cl (by omega), e35, show nI q + nI 1 = nI (q + 1) from nI_1 _, show nI n + nI 1 = nI (n + 1) from nI_1 _]
  by_cases hn : J.1 16 q = nI 0
  · rw [if_pos hn, if_neg (fun z => (lk_n h hq1 (by omega) z).1 hq hn)]
  · rw [if_neg hn, if_pos (am_k hq (by omega)), x179 _ _ (by omega) (by omega), bI_r, if_pos (am_k (by omega) (by omega)), i_cl (by omega), e35, h263, bI_r]
    by_cases hL : lkP J md t q
    · rw [bz_t hL, if_neg n10, if_pos hL]
      rcases hw with rfl | rfl
      · rw [if_pos rfl, if_pos rfl]
      · rw [if_neg n10, if_neg (show ¬ (1 : Nat) = 0 by decide), if_pos (am_k hq (by omega)), x179 _ _ (by omega) (by omega), bI_r, if_pos (am_k (by omega) (by omega)), i_cl (by omega), e35, hi, ho]
    · rw [bz_f hL, if_pos rfl, if_neg hL]
theorem y264l {J Y : am_M} (h : Inv c kc md rc td lev rk J) (hY : EqM J Y) {t k : Nat} (ht : t < md) (hk : k < 64) (wr n : Nat) (hw : wr = 0 ∨ wr = 1) {u : Value} (hu : (!(u.category == 2)) = true) : ∃ u', (!(u'.category == 2)) = true ∧ am_go am_X0 (am_ex (d + 3)) M264 88 [.ref 34, .int (nI t), .int (nI wr), .int (nI n), .int (nI k), u] [] Y = if lkP J md t (85 + k) then (if wr = 0 then am_go am_X0 (am_ex (d + 3)) M264 88 [.ref 34, .int (nI t), .int (nI wr), .int (nI (n + 1)), .int (nI (k + 1)), u'] [] Y else am_bV (am_ex (d + 3) 188 [.ref 34, .int (nI t), .int (nI 1), .int (sIn J (85 + k)), .int (sOu J (85 + k)), .long (sCo J (85 + k))] Y) (fun t4 => am_go am_X0 (am_ex (d + 3)) M264 88 [.ref 34, .int (nI t), .int (nI wr), .int (nI (n + 1)), .int (nI (k + 1)), u'] [] t4)) else am_go am_X0 (am_ex (d + 3)) M264 88 [.ref 34, .int (nI t), .int (nI wr), .int (nI n), .int (nI (k + 1)), u'] [] Y := by
  have e35 : Y.1 35 = J.1 16 := by rw [hY.i 35 (by decide) (by decide) (by decide)]; exact h.e35
  have e37 : Y.1 37 = J.1 17 := by rw [hY.i 37 (by decide) (by decide) (by decide)]; exact h.e37
  have hrb := h.core.rcb
  have hi : sIn J (85 + k) = J.1 17 k := by unfold sIn; rw [if_neg (by omega), Nat.add_sub_cancel_left]
  have ho : sOu J (85 + k) = J.1 16 (21 + k) := by unfold sOu; rw [if_neg (by omega), show 85 + k - 64 = 21 + k by omega]
  have hki : sKi (85 + k) = nI 1 := if_neg (by omega)
  have h263 := y263 d h hY ht (85 + k)
  rw [hi, ho, hki] at h263
  refine ⟨.int (J.1 16 (21 + k)), rfl, ?_⟩
  rw [q264_88 _ _ _ _ _ _ hu, if_neg (by rw [i_le, i_n (by omega), i_n (by omega)]; omega), nI_add, if_pos (am_k (by omega) (by omega)), if_pos (am_k hk (by omega)), i_cl (by omega), e37, i_cl (by omega), e35, show nI k + nI 1 = nI (k + 1) from nI_1 _, show nI n + nI 1 = nI (n + 1) from nI_1 _]
  by_cases hn : J.1 17 k = -1
  · rw [if_pos hn, if_neg (fun z => (lk_n h (by omega) (by omega) z).2 (by omega) (by rw [Nat.add_sub_cancel_left]; exact hn))]
  · rw [if_neg hn, if_pos (am_k hk (by omega)), h263, bI_r]
    by_cases hL : lkP J md t (85 + k)
    · rw [bz_t hL, if_neg n10, if_pos hL]
      rcases hw with rfl | rfl
      · rw [if_pos rfl, if_pos rfl]
      · obtain ⟨r, a1, a2, a3⟩ := (h.core.rec k hk).resolve_left hn
        rw [if_neg n10, if_neg (show ¬ (1 : Nat) = 0 by decide), if_pos (am_k hk (by omega)), if_pos (am_k hk (by omega)), e37, a2, if_pos (am_k (by omega) (by omega)), i_cl (by omega), y190 d, bJ_r, hi, ho, a2]
        have : sCo J (85 + k) = Y.2.1 50 r ^^^ msk (Y.1 34 20) (J.1 16 (21 + k)) := by
          unfold sCo
          rw [if_neg (by omega), hi, ho, a2, i_cl (by omega), hY.k, h.e50, hY.f 20 (by decide) (by decide), h.sd]
        rw [this]
    · rw [bz_f hL, if_pos rfl, if_neg hL]
/-- counting alone -/
theorem y264c {J Y : am_M} (h : Inv c kc md rc td lev rk J) (hY : EqM J Y) {t : Nat} (ht : t < md) : am_ex (d + 4) 264 [.ref 34, .int (nI t), .int (nI 0)] Y = rI (nI (cnt (lkP J md t) 1 148)) Y := by
  have hA : ∀ n, am_go am_X0 (am_ex (d + 3)) M264 5 [.ref 34, .int (nI t), .int (nI 0), .int (nI n), .int (nI 1), .null] [] Y = am_go am_X0 (am_ex (d + 3)) M264 88 [.ref 34, .int (nI t), .int (nI 0), .int (nI (n + cnt (lkP J md t) 1 84)), .int (nI 0), .null] [] Y := by
    have : ∀ j i n, 1 ≤ i → i + j = 85 → am_go am_X0 (am_ex (d + 3)) M264 5 [.ref 34, .int (nI t), .int (nI 0), .int (nI n), .int (nI i), .null] [] Y = am_go am_X0 (am_ex (d + 3)) M264 88 [.ref 34, .int (nI t), .int (nI 0), .int (nI (n + cnt (lkP J md t) i j)), .int (nI 0), .null] [] Y := by
      intro j
      induction j with
      | zero =>
        intro i n _ hi
        have : i = 85 := by omega
        subst this
        rw [q264_5, if_pos (by decide)]
        rfl
      | succ j ih =>
        intro i n h1 hi
        rw [y264p d h hY ht h1 (by omega) 0 n (Or.inl rfl), cnt]
        by_cases hL : lkP J md t i
        · rw [if_pos hL, if_pos rfl, ih (i + 1) (n + 1) (by omega) (by omega), if_pos hL, Nat.add_assoc]
        · rw [if_neg hL, ih (i + 1) n (by omega) (by omega), if_neg hL, Nat.zero_add]
    exact fun n => this 84 1 n (by omega) (by omega)
  have hB : ∀ j k n (u : Value), k + j = 64 → (!(u.category == 2)) = true → am_go am_X0 (am_ex (d + 3)) M264 88 [.ref 34, .int (nI t), .int (nI 0), .int (nI n), .int (nI k), u] [] Y = rI (nI (n + cnt (lkP J md t) (85 + k) j)) Y := by
    intro j
    induction j with
    | zero =>
      intro k n u hk hu
      have : k = 64 := by omega
      subst this
      rw [q264_88 _ _ _ _ _ _ hu, if_pos (by decide)]
      rfl
    | succ j ih =>
      intro k n u hk hu
      obtain ⟨u', hu', e⟩ := y264l d h hY ht (k := k) (by omega) 0 n (Or.inl rfl) hu
      rw [e, cnt]
      by_cases hL : lkP J md t (85 + k)
      · rw [if_pos hL, if_pos rfl, ih (k + 1) (n + 1) u' (by omega) hu', if_pos hL, Nat.add_assoc, Nat.add_assoc 85 k 1]
      · rw [if_neg hL, ih (k + 1) n u' (by omega) hu', if_neg hL, Nat.zero_add, Nat.add_assoc 85 k 1]
  have hs : ∀ j i, cnt (lkP J md t) i (j + 64) = cnt (lkP J md t) i j + cnt (lkP J md t) (i + j) 64 := by
    intro j
    induction j with
    | zero => intro i; rw [Nat.zero_add]; show _ = 0 + _; rw [Nat.zero_add, Nat.add_zero]
    | succ j ih =>
      intro i
      have e1 := ih (i + 1)
      rw [show i + 1 + j = i + (j + 1) by omega] at e1
      show (if lkP J md t i then 1 else 0) + cnt (lkP J md t) (i + 1) (j + 64) = (if lkP J md t i then 1 else 0) + cnt (lkP J md t) (i + 1) j + cnt (lkP J md t) (i + (j + 1)) 64
      omega
  rw [e264, q264_0, hA 0, hB 64 0 _ .null (by omega) rfl, Nat.zero_add, show (148 : Nat) = 84 + 64 from rfl, hs 84 1]
/-- writing, both sides -/
theorem dupJ (d2 : Nat) (h : Inv c kc md rc td lev rk σ) {t s : Nat} (hW : Wr md t s σ) (hroom : s + cnt (lkP σ md t) 1 148 ≤ 150) (v2 : Int32) : ∀ j, j ≤ 148 → ∃ J', Dp σ md t (1 + j) J' ∧ JB (c - cnt (lkP σ md t) 1 j) kc md rc td lev rk t (s + cnt (lkP σ md t) 1 j) J' ∧ (∀ X, EqC σ X → X.1 27 = (gAl σ md).1 27 → ∃ X', am_go am_X0 (am_ex (d + 5)) M136 34 [.ref 0, .int (nI t), .int v2, .int (nI 1)] [] X = (if j < 85 then am_go am_X0 (am_ex (d + 5)) M136 34 [.ref 0, .int (nI t), .int v2, .int (nI (1 + j))] [] X' else am_go am_X0 (am_ex (d + 5)) M136 65 [.ref 0, .int (nI t), .int v2, .int (nI (j - 84))] [] X') ∧ EqC J' X' ∧ EqM X X' ∧ X'.1 27 = (gAl σ md).1 27) ∧ (∀ Y, EqM σ Y → ∃ Y' u', am_go am_X0 (am_ex (d2 + 3)) M264 5 [.ref 34, .int (nI t), .int (nI 1), .int (nI 0), .int (nI 1), .null] [] Y = (if j < 85 then am_go am_X0 (am_ex (d2 + 3)) M264 5 [.ref 34, .int (nI t), .int (nI 1), .int (nI (cnt (lkP σ md t) 1 j)), .int (nI (1 + j)), .null] [] Y' else am_go am_X0 (am_ex (d2 + 3)) M264 88 [.ref 34, .int (nI t), .int (nI 1), .int (nI (cnt (lkP σ md t) 1 j)), .int (nI (j - 84)), u'] [] Y') ∧ (!(u'.category == 2)) = true ∧ EqM J' Y' ∧ Kp Y Y') := by
  have hmb := h.core.mdb
  have hmono : ∀ j, j ≤ 148 → cnt (lkP σ md t) 1 j ≤ cnt (lkP σ md t) 1 148 := by
    have : ∀ k j, j + k = 148 → cnt (lkP σ md t) 1 j ≤ cnt (lkP σ md t) 1 148 := by
      intro k
      induction k with
      | zero => intro j hj; rw [show j = 148 by omega]; exact Nat.le_refl _
      | succ k ih =>
        intro j hj
        have := ih (j + 1) (by omega)
        rw [cnt_s] at this
        omega
    exact fun j hj => this (148 - j) j (by omega)
  intro j
  induction j with
  | zero =>
    intro _
    refine ⟨σ, ⟨FW.refl σ, rfl, fun _ _ _ => Iff.rfl, fun _ _ _ _ => Iff.rfl⟩, ⟨h.base, hW⟩, fun X eX e27 => ⟨X, by rw [if_pos (by omega)], eX, EqM.refl X, e27⟩, fun Y eY => ⟨Y, .null, by rw [if_pos (by omega)]; rfl, rfl, eY, Kp.refl Y⟩⟩
  | succ j ih =>
    intro hj
    obtain ⟨J, hD, hB, hX, hY⟩ := ih (by omega)
    have hm1 := hmono (j + 1) hj
    have hcs := cnt_s (lkP σ md t) j 1
    have hIJ : Inv (c - cnt (lkP σ md t) 1 j) kc md rc td lev rk J := ⟨hB.v, by rw [hD.fw.i 16 (by decide), hD.fw.i 17 (by decide)]; exact h.lf⟩
    have hlk := hD.lk hmb.2 (s := 1 + j) (Nat.le_refl _) (by omega)
    have hsp := sp_fw hD.fw (1 + j)
    have hco : sCo J (1 + j) = sCo σ (1 + j) := by unfold sCo; rw [hsp.1, hsp.2, hD.fw.i 1 (by decide), hD.fw.j 14 (by decide)]
    rw [hcs] at hm1 ⊢
    -- the class and the reference at this spot
    have hcl : ∀ X', EqC J X' → X'.1 27 = (gAl σ md).1 27 → (if j < 85 then am_go am_X0 (am_ex (d + 5)) M136 34 [.ref 0, .int (nI t), .int v2, .int (nI (1 + j))] [] X' else am_go am_X0 (am_ex (d + 5)) M136 65 [.ref 0, .int (nI t), .int v2, .int (nI (j - 84))] [] X') = if lkP σ md t (1 + j) then am_bV (am_ex (d + 4) 150 [.ref 0, .int (sKi (1 + j)), .int (sIn σ (1 + j)), .int (sOu σ (1 + j))] X') (fun t2 => if j + 1 < 85 then am_go am_X0 (am_ex (d + 5)) M136 34 [.ref 0, .int (nI t), .int v2, .int (nI (1 + (j + 1)))] [] t2 else am_go am_X0 (am_ex (d + 5)) M136 65 [.ref 0, .int (nI t), .int v2, .int (nI (j + 1 - 84))] [] t2) else (if j + 1 < 85 then am_go am_X0 (am_ex (d + 5)) M136 34 [.ref 0, .int (nI t), .int v2, .int (nI (1 + (j + 1)))] [] X' else am_go am_X0 (am_ex (d + 5)) M136 65 [.ref 0, .int (nI t), .int v2, .int (nI (j + 1 - 84))] [] X') := by
      intro X' eX' e27
      have x16 : X'.1 16 = σ.1 16 := by rw [eX'.i 16 (by decide) (by decide), hD.fw.i 16 (by decide)]
      have x17 : X'.1 17 = σ.1 17 := by rw [eX'.i 17 (by decide) (by decide), hD.fw.i 17 (by decide)]
      have hr : ∀ N, (s + N < 150) → N = cnt (lkP σ md t) 1 j → ∀ a b e : Int32, am_ex (d + 5) 150 [.ref 0, .int a, .int b, .int e] X' = am_ex (d + 4) 150 [.ref 0, .int a, .int b, .int e] X' := fun N hN hNe a b e => by
        subst hNe
        rw [x150 (d + 1) hB.v hB.w hN eX' a b e, x150 d hB.v hB.w hN eX' a b e]
      by_cases h84 : j < 84
      · have hq : 1 + j < 85 := by omega
        have hpl := par_lt (p := 1 + j) (by omega)
        simp only [if_pos (show j < 85 by omega), if_pos (show j + 1 < 85 by omega)]
        rw [q136_34, if_neg (by rw [i_le, i_n (by omega), i_n (by omega)]; omega), x4 (d + 3) h hW.lt hW.st (by omega) (by omega) e27, bI_r, show nI (1 + j) + nI 1 = nI (1 + (j + 1)) from nI_1 _]
        by_cases hL : lkP σ md t (1 + j)
        · rw [if_pos hL] at hm1
          rw [bz_t hL, if_neg n10, if_pos hL]
          have h151 : am_ex (d + 5) 151 [.ref 0, .int (nI (1 + j))] X' = am_ex (d + 4) 150 [.ref 0, .int (sKi (1 + j)), .int (sIn σ (1 + j)), .int (sOu σ (1 + j))] X' := by
            rw [x151 d hB.v hB.w (by omega) eX' (by omega) hq, x150 d hB.v hB.w (by omega) eX', hD.fw.i 16 (by decide)]
            unfold sKi sIn sOu
            rw [if_pos hq, if_pos hq, if_pos hq]
          rw [h151]
        · rw [bz_f hL, if_pos rfl, if_neg hL]
      · have hform : (if j < 85 then am_go am_X0 (am_ex (d + 5)) M136 34 [.ref 0, .int (nI t), .int v2, .int (nI (1 + j))] [] X' else am_go am_X0 (am_ex (d + 5)) M136 65 [.ref 0, .int (nI t), .int v2, .int (nI (j - 84))] [] X') = am_go am_X0 (am_ex (d + 5)) M136 65 [.ref 0, .int (nI t), .int v2, .int (nI (j - 84))] [] X' := by
          by_cases e : j < 85
          · have : j = 84 := by omega
            subst this
            rw [if_pos e, q136_34, if_pos (by decide)]
          · rw [if_neg e]
        have hnI : nI 85 + nI (j - 84) = nI (1 + j) := by rw [nI_add, show 85 + (j - 84) = 1 + j by omega]
        rw [hform]
        simp only [if_neg (show ¬ j + 1 < 85 by omega)]
        rw [q136_65, if_neg (by rw [i_le, i_n (by omega), i_n (by omega)]; omega), hnI, x4 (d + 3) h hW.lt hW.st (by omega) (by omega) e27, bI_r, show nI (j - 84) + nI 1 = nI (j + 1 - 84) from by rw [nI_add, show j - 84 + 1 = j + 1 - 84 by omega]]
        by_cases hL : lkP σ md t (1 + j)
        · rw [if_pos hL] at hm1
          rw [bz_t hL, if_neg n10, if_pos hL, x79, bI_r, rd_n (by omega) (by omega), x164, bI_r, x77, bI_r, rd_n (by omega) (by omega), x16, x17, hr (cnt (lkP σ md t) 1 j) (by omega) rfl]
          have a1 : sKi (1 + j) = nI 1 := if_neg (by omega)
          have a2 : sIn σ (1 + j) = σ.1 17 (j - 84) := by unfold sIn; rw [if_neg (by omega), show 1 + j - 85 = j - 84 by omega]
          have a3 : sOu σ (1 + j) = σ.1 16 (21 + (j - 84)) := by unfold sOu; rw [if_neg (by omega), show 1 + j - 64 = 21 + (j - 84) by omega]
          rw [a1, a2, a3]
        · rw [bz_f hL, if_pos rfl, if_neg hL]
    have hml : ∀ Y' (u : Value), EqM J Y' → (!(u.category == 2)) = true → ∃ u', (!(u'.category == 2)) = true ∧ (if j < 85 then am_go am_X0 (am_ex (d2 + 3)) M264 5 [.ref 34, .int (nI t), .int (nI 1), .int (nI (cnt (lkP σ md t) 1 j)), .int (nI (1 + j)), .null] [] Y' else am_go am_X0 (am_ex (d2 + 3)) M264 88 [.ref 34, .int (nI t), .int (nI 1), .int (nI (cnt (lkP σ md t) 1 j)), .int (nI (j - 84)), u] [] Y') = if lkP σ md t (1 + j) then (if j + 1 < 85 then am_go am_X0 (am_ex (d2 + 3)) M264 5 [.ref 34, .int (nI t), .int (nI 1), .int (nI (cnt (lkP σ md t) 1 j + 1)), .int (nI (1 + (j + 1))), .null] [] (wrM Y' t (s + cnt (lkP σ md t) 1 j) (sKi (1 + j)) (sIn σ (1 + j)) (sOu σ (1 + j)) (sCo σ (1 + j))) else am_go am_X0 (am_ex (d2 + 3)) M264 88 [.ref 34, .int (nI t), .int (nI 1), .int (nI (cnt (lkP σ md t) 1 j + 1)), .int (nI (j + 1 - 84)), u'] [] (wrM Y' t (s + cnt (lkP σ md t) 1 j) (sKi (1 + j)) (sIn σ (1 + j)) (sOu σ (1 + j)) (sCo σ (1 + j)))) else (if j + 1 < 85 then am_go am_X0 (am_ex (d2 + 3)) M264 5 [.ref 34, .int (nI t), .int (nI 1), .int (nI (cnt (lkP σ md t) 1 j)), .int (nI (1 + (j + 1))), .null] [] Y' else am_go am_X0 (am_ex (d2 + 3)) M264 88 [.ref 34, .int (nI t), .int (nI 1), .int (nI (cnt (lkP σ md t) 1 j)), .int (nI (j + 1 - 84)), u'] [] Y') := by
      intro Y' u eY' hu
      by_cases h84 : j < 84
      · have hq : 1 + j < 85 := by omega
        refine ⟨.null, rfl, ?_⟩
        simp only [if_pos (show j < 85 by omega), if_pos (show j + 1 < 85 by omega)]
        rw [y264p d2 hIJ eY' hW.lt (by omega) hq 1 _ (Or.inr rfl), show 1 + j + 1 = 1 + (j + 1) by omega]
        by_cases hL : lkP σ md t (1 + j)
        · rw [if_pos hL] at hm1
          rw [if_pos (hlk.mpr hL), if_neg (show ¬ (1 : Nat) = 0 by decide), if_pos hL, hsp.1, hsp.2, y189j d2 hB.v hB.w (by omega) eY', bV_r]
          have a1 : sKi (1 + j) = nI 0 := if_pos hq
          have a2 : sCo σ (1 + j) = (wrp (J.1 1 1) (sIn σ (1 + j)) (sOu σ (1 + j))).toInt64 := by unfold sCo; rw [if_pos hq, hD.fw.i 1 (by decide)]
          rw [a1, a2]
        · rw [if_neg (fun z => hL (hlk.mp z)), if_neg hL]
      · have hform : ∃ v, (!(v.category == 2)) = true ∧ (if j < 85 then am_go am_X0 (am_ex (d2 + 3)) M264 5 [.ref 34, .int (nI t), .int (nI 1), .int (nI (cnt (lkP σ md t) 1 j)), .int (nI (1 + j)), .null] [] Y' else am_go am_X0 (am_ex (d2 + 3)) M264 88 [.ref 34, .int (nI t), .int (nI 1), .int (nI (cnt (lkP σ md t) 1 j)), .int (nI (j - 84)), u] [] Y') = am_go am_X0 (am_ex (d2 + 3)) M264 88 [.ref 34, .int (nI t), .int (nI 1), .int (nI (cnt (lkP σ md t) 1 j)), .int (nI (j - 84)), v] [] Y' := by
          by_cases e : j < 85
          · have : j = 84 := by omega
            subst this
            exact ⟨.null, rfl, by rw [if_pos e, q264_5, if_pos (by decide)]⟩
          · exact ⟨u, hu, by rw [if_neg e]⟩
        obtain ⟨v, hv, ev⟩ := hform
        obtain ⟨u', hu', e⟩ := y264l d2 hIJ eY' hW.lt (k := j - 84) (by omega) 1 (cnt (lkP σ md t) 1 j) (Or.inr rfl) hv
        refine ⟨u', hu', ?_⟩
        rw [show 85 + (j - 84) = 1 + j by omega] at e
        rw [ev, e, show j - 84 + 1 = j + 1 - 84 by omega]
        simp only [if_neg (show ¬ j + 1 < 85 by omega)]
        by_cases hL : lkP σ md t (1 + j)
        · rw [if_pos hL] at hm1
          have a1 : sKi (1 + j) = nI 1 := if_neg (by omega)
          rw [if_pos (hlk.mpr hL), if_neg (show ¬ (1 : Nat) = 0 by decide), if_pos hL, hsp.1, hsp.2, hco, y188j (d2 + 2) hB.v hB.w (by omega) eY', bV_r, a1]
        · rw [if_neg (fun z => hL (hlk.mp z)), if_neg hL]
    by_cases hL : lkP σ md t (1 + j)
    · rw [if_pos hL] at hm1 ⊢
      obtain ⟨hok, hD2⟩ := hD.step h hB (by omega) (by omega) (by omega) hL
      have hB2 := hB.jw (by omega) hok
      rw [Nat.sub_sub, Nat.add_assoc] at hB2
      refine ⟨_, by rw [show 1 + (j + 1) = 1 + j + 1 by omega]; exact hD2, hB2, fun X eX e27 => ?_, fun Y eY => ?_⟩
      · obtain ⟨X', k1, k2, k3, k4⟩ := hX X eX e27
        refine ⟨wrE X' t (s + cnt (lkP σ md t) 1 j) (sKi (1 + j)) (sIn σ (1 + j)) (sOu σ (1 + j)), ?_, JW_C k2 _ _ _ _ _ _, wrE_M k3 _ _ _ _ _, ?_⟩
        · rw [k1, hcl X' k2 k4, if_pos hL, x150 d hB.v hB.w (by omega) k2, bV_r]
        · rw [← k4]; unfold wrE; rw [s_ne _ _ (by decide), s_ne _ _ (by decide), s_ne _ _ (by decide), s_ne _ _ (by decide)]
      · obtain ⟨Y', u, k1, k2, k3, k4⟩ := hY Y eY
        obtain ⟨u', hu', e⟩ := hml Y' u k3 k2
        refine ⟨_, u', ?_, hu', JW_M k3 _ _ _ _ _ _, k4.w _ _ _ _ _ _⟩
        rw [k1, e, if_pos hL]
    · simp only [if_neg hL, Nat.add_zero] at hm1 ⊢
      refine ⟨J, ⟨hD.fw, hD.n, fun s' q1 q2 => hD.on s' (by omega) q2, hD.ot⟩, hB, fun X eX e27 => ?_, fun Y eY => ?_⟩
      · obtain ⟨X', k1, k2, k3, k4⟩ := hX X eX e27
        exact ⟨X', by rw [k1, hcl X' k2 k4, if_neg hL], k2, k3, k4⟩
      · obtain ⟨Y', u, k1, k2, k3, k4⟩ := hY Y eY
        obtain ⟨u', hu', e⟩ := hml Y' u k3 k2
        exact ⟨Y', u', by rw [k1, e, if_neg hL], hu', k3, k4⟩
theorem f136 (h : Inv c kc md rc td lev rk σ) (hc : c < 600) : Fc (d + 8) 136 265 [.ref 0] [.ref 34] cS1 (c + 1) σ := by
  have hmb := h.core.mdb
  have hlt00 : ¬ nI 0 < nI 0 := by decide
  have hlt01 : nI 0 < nI 1 := by decide
  have hG := smG σ md
  have hIG := h.sm hG
  have g20 : (gAl σ md).1 20 = σ.1 20 := hG.i 20 (by decide) (by decide)
  have hcl0 : am_ex (d + 8) 136 [.ref 0] σ = am_bI (am_ex (d + 7) 5 [.ref 6, .int (wrt (σ.1 20) (-1) md)] (gAl σ md)) (fun r3 t3 => am_bV (am_ex (d + 7) 147 [.ref 0, .int (wrt (σ.1 20) (-1) md), .int r3] t3) (fun t4 => am_go am_X0 (am_ex (d + 7)) M136 34 [.ref 0, .int (wrt (σ.1 20) (-1) md), .int r3, .int (nI 1)] [] t4)) := by
    rw [e136, q136_0, x0 (d + 2) σ h (-1), bV_r, x38 (d + 4) _ hIG.hm hmb.2, bI_r, g20]
  have hm0 : ∀ Z, Sm σ Z → am_ex (d + 8) 265 [.ref 34] Z = if wrt (σ.1 20) (-1) md = -1 then am_go am_X0 (am_ex (d + 7)) M265 21 [.ref 34, .int (wrt (σ.1 20) (-1) md), .null] [.int (nI 0)] Z else am_bI (am_ex (d + 7) 264 [.ref 34, .int (wrt (σ.1 20) (-1) md), .int (nI 0)] Z) (fun r2 t2 => am_go am_X0 (am_ex (d + 7)) M265 21 [.ref 34, .int (wrt (σ.1 20) (-1) md), .null] [.int r2] t2) := fun Z hs => by
    rw [e265, q265_0, y186m (d + 6) h.base hs.em, bI_r]
  rcases wrt_o σ h.base (-1) with e | ⟨t, ht, e, hst⟩
  · -- no medium to write on
    have hno2 : ∀ s, 1 ≤ s → s < 149 → am_ex (d + 6) 4 [.ref 6, .int (nI s), .int (-1)] (gAl σ md) = rI (nI 0) (gAl σ md) := fun s h1 h2 => by
      rw [e4, q4_0, x11 _ _ h2, bI_r, if_pos (show (-1 : Int32) < nI 0 by decide), ite_self]
    have hno7 : ∀ s, 1 ≤ s → s < 149 → am_ex (d + 7) 4 [.ref 6, .int (nI s), .int (-1)] (gAl σ md) = rI (nI 0) (gAl σ md) := fun s h1 h2 => by
      rw [e4, q4_0, x11 _ _ h2, bI_r, if_pos (show (-1 : Int32) < nI 0 by decide), ite_self]
    have r5 : am_ex (d + 7) 5 [.ref 6, .int (-1)] (gAl σ md) = rI (nI 0) (gAl σ md) := by
      rw [e5, q5_0]
      refine Eq.trans (lp_mem 1 149 (by omega) (fun i => am_go am_X0 (am_ex (d + 6)) M5 4 [.ref 6, .int (-1), .int (nI 0), .int (nI i)] [] (gAl σ md)) (fun i h1 h2 => ?_)) ?_
      · show am_go am_X0 (am_ex (d + 6)) M5 4 [.ref 6, .int (-1), .int (nI 0), .int (nI i)] [] (gAl σ md) = am_go am_X0 (am_ex (d + 6)) M5 4 [.ref 6, .int (-1), .int (nI 0), .int (nI (i + 1))] [] (gAl σ md)
        rw [q5_4, if_neg (by rw [i_le, i_n (by omega), i_n (by omega)]; omega), hno2 i h1 h2, bI_r, if_pos rfl, show nI i + nI 1 = nI (i + 1) from nI_1 _]
      · show am_go am_X0 (am_ex (d + 6)) M5 4 [.ref 6, .int (-1), .int (nI 0), .int (nI 149)] [] (gAl σ md) = _
        rw [q5_4, if_pos (by decide)]
    refine Fc.r h hc hG rfl (v := nI 0) ?_ (fun Z hs hI => ⟨th Z (nI 0), ?_, (Sm.refl Z).th _, rfl, th_v _ _⟩)
    · rw [hcl0, e, r5, bI_r, x147 (d + 4) _ hIG.base (Or.inl rfl) (n := 0) (by omega), if_pos (Or.inl rfl), bV_r]
      refine Eq.trans (lp_mem 1 85 (by omega) (fun i => am_go am_X0 (am_ex (d + 7)) M136 34 [.ref 0, .int (-1), .int (nI 0), .int (nI i)] [] (gAl σ md)) (fun i h1 h2 => ?_)) ?_
      · show am_go am_X0 (am_ex (d + 7)) M136 34 [.ref 0, .int (-1), .int (nI 0), .int (nI i)] [] (gAl σ md) = am_go am_X0 (am_ex (d + 7)) M136 34 [.ref 0, .int (-1), .int (nI 0), .int (nI (i + 1))] [] (gAl σ md)
        rw [q136_34, if_neg (by rw [i_le, i_n (by omega), i_n (by omega)]; omega), hno7 i h1 (by omega), bI_r, if_pos rfl, show nI i + nI 1 = nI (i + 1) from nI_1 _]
      · show am_go am_X0 (am_ex (d + 7)) M136 34 [.ref 0, .int (-1), .int (nI 0), .int (nI 85)] [] (gAl σ md) = _
        rw [q136_34, if_pos (by decide)]
        refine Eq.trans (lp_mem 0 64 (by omega) (fun i => am_go am_X0 (am_ex (d + 7)) M136 65 [.ref 0, .int (-1), .int (nI 0), .int (nI i)] [] (gAl σ md)) (fun i h1 h2 => ?_)) ?_
        · show am_go am_X0 (am_ex (d + 7)) M136 65 [.ref 0, .int (-1), .int (nI 0), .int (nI i)] [] (gAl σ md) = am_go am_X0 (am_ex (d + 7)) M136 65 [.ref 0, .int (-1), .int (nI 0), .int (nI (i + 1))] [] (gAl σ md)
          rw [q136_65, if_neg (by rw [i_le, i_n (by omega), i_n (by omega)]; omega), nI_add, hno7 (85 + i) (by omega) (by omega), bI_r, if_pos rfl, show nI i + nI 1 = nI (i + 1) from nI_1 _]
        · show am_go am_X0 (am_ex (d + 7)) M136 65 [.ref 0, .int (-1), .int (nI 0), .int (nI 64)] [] (gAl σ md) = _
          rw [q136_65, if_pos (by decide)]
    · rw [hm0 Z hs, e, if_pos rfl, q265_21, y187n (d + 6) _ 0 (by omega), bI_r, bz_t rfl, if_neg n10, q265_37, th_w, th_v, if_neg hlt00, if_pos rfl]
  · have hnm : ¬ nI t = -1 := nI_nm (by omega)
    have hW : Wr md t (zn (σ.1 21) t) σ := ⟨ht, e, hst, rfl⟩
    generalize hN : cnt (lkP σ md t) 1 148 = N
    have hN148 : N ≤ 148 := by rw [← hN]; exact cnt_le _ 148 1
    have r5 := x5 (d + 4) h (X := gAl σ md) ht hst rfl
    rw [hN] at r5
    have r147 := x147 (d + 4) (gAl σ md) hIG.base (v := nI t) (Or.inr ⟨t, ht, rfl, by rw [g20]; exact hst⟩) (n := N) (by omega)
    have hro : rmO (gAl σ md) (nI t) N ↔ rmO σ (nI t) N := by unfold rmO; rw [hG.i 21 (by decide) (by decide)]
    have hcnt : ∀ Z, Sm σ Z → Z.2.2 = σ.2.2 → am_ex (d + 7) 264 [.ref 34, .int (nI t), .int (nI 0)] Z = rI (nI N) Z := fun Z hs hn => by
      rw [y264c (d + 3) h (hs.m hn) ht, hN]
    have hcnt2 : ∀ Z, Sm σ Z → am_ex (d + 7) 264 [.ref 34, .int (nI t), .int (nI 0)] Z = rI (nI N) Z := fun Z hs => by
      have hIZ := h.sm hs
      have e1 := y264c (d + 3) hIZ (EqM.refl Z) ht
      have e2 : cnt (lkP Z md t) 1 148 = cnt (lkP σ md t) 1 148 := cnt_c 148 1 (fun s _ _ => by
        have hon : ∀ m, onP Z m s ↔ onP σ m s := fun m => by
          unfold onP isE
          rw [hs.i 16 (by decide) (by decide), hs.i 17 (by decide) (by decide), hs.i 22 (by decide) (by decide), hs.i 23 (by decide) (by decide), hs.i 24 (by decide) (by decide), hs.i 21 (by decide) (by decide)]
        have e0 : ext (inB Z (nI t) s) 0 md = ext (inB σ (nI t) s) 0 md := ext_c (fun j _ _ => by unfold inB; rw [hon, hs.i 20 (by decide) (by decide)])
        unfold lkP inP
        rw [hon, e0])
      rw [e1, e2, hN]
    by_cases hrm : rmO σ (nI t) N
    · have hroom : zn (σ.1 21) t + N ≤ 150 := by
        have := (h.core.med t ht).1
        rcases hrm with z | ⟨_, z⟩
        · omega
        · rw [i_cl (by omega)] at z; exact z
      obtain ⟨J, hD, hB, hX, hY⟩ := dupJ (d + 2) (d + 3) h hW (by rw [hN]; exact hroom) (nI N) 148 (Nat.le_refl _)
      obtain ⟨X', k1, k2, k3, k4⟩ := hX (gAl σ md) (hG.c rfl) rfl
      have hInv : Inv (c + 1) kc md rc td lev rk J := ⟨hB.v.up (by omega) (by omega), by rw [hD.fw.i 16 (by decide), hD.fw.i 17 (by decide)]; exact h.lf⟩
      refine Fc.ch2 (X := X') (v := nI N) ?_ ((hG.m rfl).trans k3) (by decide) okM1 (fun W hW2 hWn => ?_)
      · rw [hcl0, e, r5, bI_r, r147, if_pos (hro.mpr hrm), bV_r, k1, if_neg (by omega), q136_65, if_pos (by decide)]
      · have hT : Sm σ (th W (nI 0)) := hW2.th _
        obtain ⟨Y', u', g1, g2, g3, g4⟩ := hY (th W (nI 0)) (hT.m hWn)
        refine ⟨Y', ?_, g4.1.n, by rw [g4.2, th_v], kc, md, rc, td, lev, rk, hInv.sm (Sm.mix k2 g3)⟩
        rw [hm0 W hW2, e, if_neg hnm, hcnt W hW2 hWn, bI_r, q265_21, y187m (d + 6) h.base hW2.em (Or.inr ⟨t, ht, rfl, hst⟩) (by omega), bI_r, bz_t hrm, if_neg n10, q265_37, th_w, th_v, if_neg hlt00, if_neg hnm, e264, q264_0]
        rw [g1, if_neg (by omega), q264_88 _ _ _ _ _ _ g2, if_pos (by decide), bI_r, hN]
    · refine Fc.xs h hc (E := xIS) hG rfl (by rw [hcl0, e, r5, bI_r, r147, if_neg (fun z => hrm (hro.mp z)), bV_x]) (fun Z hs hI => ⟨nI 0, th Z (nI 1), ?_, (Sm.refl Z).th _, rfl, th_v _ _⟩)
      rw [hm0 Z hs, e, if_neg hnm, hcnt2 Z hs, bI_r, q265_21, y187m (d + 6) h.base hs.em (Or.inr ⟨t, ht, rfl, hst⟩) (by omega), bI_r, bz_f hrm, if_pos rfl, q265_37, th_w, th_v, if_pos hlt01]
end DPF
