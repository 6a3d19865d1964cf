/-! live entries, and those that must be written anew: both sides -/
section MIG
variable (d : Nat) (σ : am_M) {c kc md rc td : Nat} {lev rk : Nat → Nat}
/-- an entry is live -/
abbrev lvA (σ : am_M) (a : Nat) : Prop := ext (fun s => isE σ s a) 1 148 = true
theorem lvA_iff (a : Nat) : lvA σ a ↔ ∃ s, 1 ≤ s ∧ s < 149 ∧ isE σ s a := by
  unfold lvA
  rw [ext_iff]
theorem cnt_sh (P : Nat → Prop) [DecidablePred P] (b : Nat) : ∀ n i, cnt (fun k => P (b + k)) i n = cnt P (b + i) n := by
  intro n
  induction n with
  | zero => intro i; rfl
  | succ n ih => intro i; rw [cnt, cnt, ih (i + 1)]; rfl
/-- a loop that goes on -/
theorem lp_inv {α β : Type} (I : Nat → α → Prop) (a e : Nat) (hae : a ≤ e) (F : Nat → α → β)
    (hs : ∀ i x, a ≤ i → i < e → I i x → ∃ y, F i x = F (i + 1) y ∧ I (i + 1) y) (x : α) (hI : I a x) : ∃ y, F a x = F e y ∧ I e y := by
  have : ∀ n i x, a ≤ i → i + n = e → I i x → ∃ y, F i x = F e y ∧ I e y := by
    intro n
    induction n with
    | zero => intro i x _ h hi; have : i = e := by omega
              subst this; exact ⟨x, rfl, hi⟩
    | succ n ih =>
      intro i x ha h hi
      obtain ⟨y, h1, h2⟩ := hs i x ha (by omega) hi
      rw [h1]
      exact ih (i + 1) y (by omega) (by omega) h2
  exact this (e - a) a x (Nat.le_refl _) (by omega) hI
theorem x6 (h : Inv c kc md rc td lev rk σ) {m : Nat} (hm : m < md) : am_ex (d + 4) 6 [.ref 6, .int (nI m)] σ = rI (nI (cnt (lvA σ) (m * 150) (zn (σ.1 21) m))) σ := by
  have hmb := h.core.mdb
  obtain ⟨hz1, hz2, hz3⟩ := h.core.med m hm
  rw [e6, q6_0]
  have := lp_cnt0 (fun i => lvA σ (m * 150 + i)) 0 (zn (σ.1 21) m) (by omega) (fun i n => am_go am_X0 (am_ex (d + 3)) M6 4 [.ref 6, .int (nI m), .int (nI n), .int (nI i)] [] σ) (fun n => rI (nI n) σ) ?_ ?_
  · refine Eq.trans this ?_
    rw [cnt_sh (lvA σ) (m * 150), Nat.sub_zero]
    rfl
  · intro n
    show am_go am_X0 (am_ex (d + 3)) M6 4 [.ref 6, .int (nI m), .int (nI n), .int (nI (zn (σ.1 21) m))] [] σ = _
    rw [q6_4, x36 _ _ h.hm hmb.2, bI_r, rd_n hm (by omega), hz2, if_pos (by rw [i_le]; exact Int.le_refl _)]
  · intro i n _ hi
    show am_go am_X0 (am_ex (d + 3)) M6 4 [.ref 6, .int (nI m), .int (nI n), .int (nI i)] [] σ = am_go am_X0 (am_ex (d + 3)) M6 4 [.ref 6, .int (nI m), .int (nI _), .int (nI (i + 1))] [] σ
    obtain ⟨v, hv1, hv2⟩ := x12 d _ h hm hi
    rw [q6_4, x36 _ _ h.hm hmb.2, bI_r, rd_n hm (by omega), hz2, if_neg (by rw [i_le, i_n (by omega), i_n (by omega)]; omega), x42, bI_r, hv1, bI_r, show nI i + nI 1 = nI (i + 1) from nI_1 _, show nI n + nI 1 = nI (n + 1) from nI_1 _]
    rcases hv2 with ⟨hv3, hv4⟩ | ⟨s, hs1, hs2, hs3, hs4, hs5⟩
    · rw [if_pos hv3, if_neg (fun z => by
        obtain ⟨s, k1, k2, k3⟩ := (lvA_iff σ _).mp z
        exact hv4 s k1 k2 k3)]
    · rw [if_neg (by rw [hs3]; exact nI_nm (by omega)), if_pos ((lvA_iff σ _).mpr ⟨s, hs1, hs2, hs4⟩)]
theorem y250 (h : Inv c kc md rc td lev rk σ) {m i : Nat} (hm : m < md) (hi : i < zn (σ.1 21) m) : am_ex (d + 2) 250 [.ref 34, .int (nI (m * 150 + i))] σ = rI (bz (lvA σ (m * 150 + i))) σ := by
  have hkl := h.kl
  have hrb := h.core.rcb
  have hmb := h.core.mdb
  have hsz := (h.core.med m hm).1
  have ha : m * 150 + i < 1200 := by omega
  have he := h.core.ent m hm i hi
  generalize m * 150 + i = a at *
  rw [e250, q250_0, if_pos (am_k ha (by omega)), i_cl (by omega), h.e46, h.e47, h.e48, h.e51, h.e35]
  rcases he with ⟨hki, x, y, hx1, hx2, hy1, hy2, hin, hou, hlv⟩ | ⟨hki, r, y, hr, hy1, hy2, hin, hou, hlv, hrk⟩
  · rw [if_neg (by rw [hki]; decide)]
    have := lp_ext (fun s => isE σ s a) 1 85 (by omega) (fun s => am_go am_X0 (am_ex (d + 1)) M250 61 [.ref 34, .int (nI a), .int (nI s)] [] σ) (rI (nI 1) σ) (rI (nI 0) σ) ?_ ?_
    · refine Eq.trans this ?_
      have hiff : ext (fun s => isE σ s a) 1 (85 - 1) = true ↔ lvA σ a := by
        rw [ext_iff, lvA_iff]
        constructor
        · rintro ⟨s, k1, k2, k3⟩; exact ⟨s, k1, by omega, k3⟩
        · rintro ⟨s, k1, k2, k3⟩
          rcases k3 with k3 | k3
          · exact ⟨s, k1, by have := k3.1; omega, Or.inl k3⟩
          · have := k3.2.1
            rw [hki] at this
            exact absurd this (by decide)
      by_cases hl : lvA σ a
      · rw [if_pos (hiff.mpr hl), bz_t hl]
      · rw [if_neg (fun z => hl (hiff.mp z)), bz_f hl]
    · show am_go am_X0 (am_ex (d + 1)) M250 61 [.ref 34, .int (nI a), .int (nI 85)] [] σ = _
      rw [q250_61, if_pos (by decide)]
    · intro s h1 h2
      have hpl := par_lt (p := s) (by omega)
      show am_go am_X0 (am_ex (d + 1)) M250 61 [.ref 34, .int (nI a), .int (nI s)] [] σ = if _ then _ else am_go am_X0 (am_ex (d + 1)) M250 61 [.ref 34, .int (nI a), .int (nI (s + 1))] [] σ
      rw [q250_61, if_neg (by rw [i_le, i_n (by omega), i_n (by omega)]; omega), if_pos (am_k h2 (by omega)), if_pos (am_k ha (by omega)), i_cl (by omega), i_cl (by omega), x179 _ _ (by omega) (by omega), bI_r, if_pos (am_k (by omega) (by omega)), if_pos (am_k ha (by omega)), i_cl (by omega), h.e35, h.e47, h.e48, show nI s + nI 1 = nI (s + 1) from nI_1 _]
      by_cases g1 : σ.1 16 s = σ.1 23 a
      · rw [if_pos g1]
        by_cases g2 : σ.1 16 (par s) = σ.1 24 a
        · rw [if_pos g2, if_pos (Or.inl ⟨h2, hki, g1.symm, g2.symm⟩)]
        · rw [if_neg g2, if_neg (fun z => z.elim (fun q => g2 q.2.2.2.symm) (fun q => absurd q.1 (by omega)))]
      · rw [if_neg g1, if_neg (fun z => z.elim (fun q => g1 q.2.2.1.symm) (fun q => absurd q.1 (by omega)))]
  · have hno : ∀ s, 1 ≤ s → s < 149 → isE σ s a → 85 ≤ s ∧ σ.1 15 r = nI (s - 85) ∧ σ.1 16 (s - 64) = nI y := by
      intro s h1 h2 h3
      rcases h3 with ⟨g1, g2, g3, g4⟩ | ⟨g1, g2, g3, g4⟩
      · rw [hki] at g2
        exact absurd g2 (by decide)
      · refine ⟨g1, ?_, by rw [← g4]; exact hou⟩
        rcases h.core.rec (s - 85) (by omega) with h5 | ⟨r', k1, k2, k3⟩
        · rw [hin, h5] at g3
          exact absurd g3 (nI_nm (by omega))
        · rw [hin, k2] at g3
          have := nI_inj (by omega) (by omega) g3
          subst this
          exact k3
    generalize hB : bz (lvA σ a) = B
    rw [if_pos hki, if_pos (am_k ha (by omega)), hin, if_pos (am_k (by omega) (by omega)), i_cl (by omega)]
    rcases h.core.lfs r hr with hp | ⟨k, hk1, hk2, hk3⟩
    · rw [if_pos hp, ← hB, bz_f (fun z => by
        obtain ⟨s, k1, k2, k3⟩ := (lvA_iff σ _).mp z
        have := (hno s k1 k2 k3).2.1
        rw [hp] at this
        exact nI_nm (by omega) this.symm)]
    · rw [hk2, if_neg (nI_nm (by omega)), if_pos (am_k ha (by omega)), if_pos (am_k (by omega) (by omega)), nI_add, if_pos (am_k (by omega) (by omega)), if_pos (am_k ha (by omega)), i_cl (by omega)]
      by_cases hq : σ.1 16 (21 + k) = σ.1 24 a
      · rw [if_pos hq, ← hB, bz_t ((lvA_iff σ _).mpr ⟨85 + k, by omega, by omega, Or.inr ⟨by omega, hki, by rw [hin, show 85 + k - 85 = k by omega, hk3], by rw [show 85 + k - 64 = 21 + k by omega, hq]⟩⟩)]
      · rw [if_neg hq, ← hB, bz_f (fun z => by
          obtain ⟨s, k1, k2, k3⟩ := (lvA_iff σ _).mp z
          obtain ⟨g1, g2, g3⟩ := hno s k1 k2 k3
          rw [hk2] at g2
          have := nI_inj (by omega) (by omega) g2
          rw [show s - 64 = 21 + k by omega] at g3
          exact hq (by rw [g3, hou]))]
theorem y251 (h : Inv c kc md rc td lev rk σ) {m : Nat} (hm : m < md) : am_ex (d + 3) 251 [.ref 34, .int (nI m)] σ = rI (nI (cnt (lvA σ) (m * 150) (zn (σ.1 21) m))) σ := by
  have hmb := h.core.mdb
  obtain ⟨hz1, hz2, hz3⟩ := h.core.med m hm
  obtain ⟨k1, k2⟩ := h.mdm m hm
  rw [e251, q251_0, pk_mul, Nat.mul_comm]
  have := lp_cnt0 (lvA σ) (m * 150) (m * 150 + zn (σ.1 21) m) (by omega) (fun i n => am_go am_X0 (am_ex (d + 2)) M251 8 [.ref 34, .int (nI m), .int (nI n), .int (nI i)] [] σ) (fun n => rI (nI n) σ) ?_ ?_
  · refine Eq.trans this ?_
    rw [Nat.add_sub_cancel_left]
  · intro n
    show am_go am_X0 (am_ex (d + 2)) M251 8 [.ref 34, .int (nI m), .int (nI n), .int (nI (m * 150 + zn (σ.1 21) m))] [] σ = _
    rw [q251_8, if_pos (am_k (by omega) (by omega)), i_cl (by omega), k2, hz2, at_n (by omega) (by omega), if_pos (by rw [i_le]; exact Int.le_refl _)]
  · intro i n h1 h2
    show am_go am_X0 (am_ex (d + 2)) M251 8 [.ref 34, .int (nI m), .int (nI n), .int (nI i)] [] σ = am_go am_X0 (am_ex (d + 2)) M251 8 [.ref 34, .int (nI m), .int (nI _), .int (nI (i + 1))] [] σ
    have hy := y250 d σ h hm (i := i - m * 150) (by omega)
    rw [show m * 150 + (i - m * 150) = i by omega] at hy
    rw [q251_8, if_pos (am_k (by omega) (by omega)), i_cl (by omega), k2, hz2, at_n (by omega) (by omega), if_neg (by rw [i_le, i_n (by omega), i_n (by omega)]; omega), hy, bI_r, show nI i + nI 1 = nI (i + 1) from nI_1 _, show nI n + nI 1 = nI (n + 1) from nI_1 _, show nI n + nI 0 = nI n from nI_add n 0]
    by_cases hl : lvA σ i
    · rw [bz_t hl, if_neg n10, if_pos hl]
    · rw [bz_f hl, if_pos rfl, if_neg hl]
/-- entry a has to be written anew if medium m goes; s is its spot -/
abbrev ndS (σ : am_M) (md m s a : Nat) : Prop := isE σ s a ∧ ¬ inP σ md (nI m) s ∧ ¬ ext (isE σ s) (m * 150) (a - m * 150) = true
abbrev ndP (σ : am_M) (md m a : Nat) : Prop := ext (fun s => ndS σ md m s a) 1 148 = true
theorem ndP_iff (m a : Nat) : ndP σ md m a ↔ ∃ s, 1 ≤ s ∧ s < 149 ∧ ndS σ md m s a := by
  unfold ndP
  rw [ext_iff]
theorem y252 (h : Inv c kc md rc td lev rk σ) {m i : Nat} (hm : m < md) (hi : i < zn (σ.1 21) m) : am_ex (d + 3) 252 [.ref 34, .int (nI m), .int (nI (m * 150 + i))] σ = rI (bz (ndP σ md m (m * 150 + i))) σ := by
  have hmb := h.core.mdb
  have hsz := (h.core.med m hm).1
  have ha : m * 150 + i < 1200 := by omega
  rw [e252, q252_0, y250 _ σ h hm hi, bI_r]
  generalize hB : bz (ndP σ md m (m * 150 + i)) = B
  by_cases hl : lvA σ (m * 150 + i)
  · obtain ⟨s, hs1, hs2, hs3⟩ := (lvA_iff σ _).mp hl
    obtain ⟨v, _, hv2⟩ := x12 d _ h hm hi
    have huq : ∀ s', 1 ≤ s' → s' < 149 → isE σ s' (m * 150 + i) → s' = s := by
      rcases hv2 with ⟨_, hv4⟩ | ⟨s0, _, _, _, _, hs5⟩
      · exact absurd hs3 (hv4 s hs1 hs2)
      · intro s' k1 k2 k3
        rw [hs5 s' k1 k2 k3, hs5 s hs1 hs2 hs3]
    have hs4 := (isE_iff σ s _).mp hs3
    rw [bz_t hl, if_neg n10, if_pos (am_k ha (by omega)), if_pos (am_k ha (by omega)), if_pos (am_k ha (by omega)), i_cl (by omega), h.e46, h.e47, h.e48, hs4.1, hs4.2.1, hs4.2.2, y192 _ σ h, bI_r]
    by_cases hin : inP σ md (nI m) s
    · rw [bz_t hin, if_neg n10, ← hB, bz_f (fun z => by
        obtain ⟨s', k1, k2, k3⟩ := (ndP_iff σ _ _).mp z
        have := huq s' k1 k2 k3.1
        subst this
        exact k3.2.1 hin)]
    · rw [bz_f hin, if_pos rfl, pk_mul, Nat.mul_comm 150 m]
      have := lp_ext (isE σ s) (m * 150) (m * 150 + i) (by omega) (fun j => am_go am_X0 (am_ex (d + 2)) M252 42 [.ref 34, .int (nI m), .int (nI (m * 150 + i)), .int (nI j)] [] σ) (rI (nI 0) σ) (rI (nI 1) σ) ?_ ?_
      · refine Eq.trans this ?_
        by_cases hx : ext (isE σ s) (m * 150) (m * 150 + i - m * 150) = true
        · rw [if_pos hx, ← hB, bz_f (fun z => by
            obtain ⟨s', k1, k2, k3⟩ := (ndP_iff σ _ _).mp z
            have := huq s' k1 k2 k3.1
            subst this
            exact k3.2.2 hx)]
        · rw [if_neg hx, ← hB, bz_t ((ndP_iff σ _ _).mpr ⟨s, hs1, hs2, hs3, hin, hx⟩)]
      · show am_go am_X0 (am_ex (d + 2)) M252 42 [.ref 34, .int (nI m), .int (nI (m * 150 + i)), .int (nI (m * 150 + i))] [] σ = _
        rw [q252_42, if_pos (by rw [i_le]; exact Int.le_refl _)]
      · intro j h1 h2
        show am_go am_X0 (am_ex (d + 2)) M252 42 [.ref 34, .int (nI m), .int (nI (m * 150 + i)), .int (nI j)] [] σ = if _ then _ else am_go am_X0 (am_ex (d + 2)) M252 42 [.ref 34, .int (nI m), .int (nI (m * 150 + i)), .int (nI (j + 1))] [] σ
        have hj : am_in (nI j) 1200 = true := am_k (by omega) (by omega)
        have hai : am_in (nI (m * 150 + i)) 1200 = true := am_k ha (by omega)
        rw [q252_42, if_neg (by rw [i_le, i_n (by omega), i_n (by omega)]; omega), if_pos hj, if_pos hai, if_pos hj, if_pos hai, if_pos hj, if_pos hai, i_cl (by omega), i_cl (by omega), h.e46, h.e47, h.e48, hs4.1, hs4.2.1, hs4.2.2, show nI j + nI 1 = nI (j + 1) from nI_1 _]
        by_cases g1 : σ.1 22 j = sKi s
        · rw [if_pos g1]
          by_cases g2 : σ.1 23 j = sIn σ s
          · rw [if_pos g2]
            by_cases g3 : σ.1 24 j = sOu σ s
            · rw [if_pos g3, if_pos ((isE_iff σ s j).mpr ⟨g1, g2, g3⟩)]
            · rw [if_neg g3, if_neg (fun z => g3 ((isE_iff σ s j).mp z).2.2)]
          · rw [if_neg g2, if_neg (fun z => g2 ((isE_iff σ s j).mp z).2.1)]
        · rw [if_neg g1, if_neg (fun z => g1 ((isE_iff σ s j).mp z).1)]
  · rw [bz_f hl, if_pos rfl, ← hB, bz_f (fun z => by
      obtain ⟨s', k1, k2, k3⟩ := (ndP_iff σ _ _).mp z
      exact hl ((lvA_iff σ _).mpr ⟨s', k1, k2, k3.1⟩))]
theorem y253 (h : Inv c kc md rc td lev rk σ) {m : Nat} (hm : m < md) : am_ex (d + 4) 253 [.ref 34, .int (nI m)] σ = rI (nI (cnt (ndP σ md m) (m * 150) (zn (σ.1 21) m))) σ := by
  have hmb := h.core.mdb
  obtain ⟨hz1, hz2, hz3⟩ := h.core.med m hm
  obtain ⟨k1, k2⟩ := h.mdm m hm
  rw [e253, q253_0, pk_mul, Nat.mul_comm]
  have := lp_cnt0 (ndP σ md m) (m * 150) (m * 150 + zn (σ.1 21) m) (by omega) (fun i n => am_go am_X0 (am_ex (d + 3)) M253 8 [.ref 34, .int (nI m), .int (nI n), .int (nI i)] [] σ) (fun n => rI (nI n) σ) ?_ ?_
  · refine Eq.trans this ?_
    rw [Nat.add_sub_cancel_left]
  · intro n
    show am_go am_X0 (am_ex (d + 3)) M253 8 [.ref 34, .int (nI m), .int (nI n), .int (nI (m * 150 + zn (σ.1 21) m))] [] σ = _
    rw [q253_8, if_pos (am_k (by omega) (by omega)), i_cl (by omega), k2, hz2, at_n (by omega) (by omega), if_pos (by rw [i_le]; exact Int.le_refl _)]
  · intro i n h1 h2
    show am_go am_X0 (am_ex (d + 3)) M253 8 [.ref 34, .int (nI m), .int (nI n), .int (nI i)] [] σ = am_go am_X0 (am_ex (d + 3)) M253 8 [.ref 34, .int (nI m), .int (nI _), .int (nI (i + 1))] [] σ
    have hy := y252 d σ h hm (i := i - m * 150) (by omega)
    rw [show m * 150 + (i - m * 150) = i by omega] at hy
    rw [q253_8, if_pos (am_k (by omega) (by omega)), i_cl (by omega), k2, hz2, at_n (by omega) (by omega), if_neg (by rw [i_le, i_n (by omega), i_n (by omega)]; omega), hy, bI_r, show nI i + nI 1 = nI (i + 1) from nI_1 _, show nI n + nI 1 = nI (n + 1) from nI_1 _, show nI n + nI 0 = nI n from nI_add n 0]
    by_cases hl : ndP σ md m i
    · rw [bz_t hl, if_neg n10, if_pos hl]
    · rw [bz_f hl, if_pos rfl, if_neg hl]
/-- the entries that have to be written anew, among the first i -/
def ndL (σ : am_M) (md m : Nat) : Nat → List Nat
  | 0 => []
  | i + 1 => if ndP σ md m (m * 150 + i) then ndL σ md m i ++ [m * 150 + i] else ndL σ md m i
theorem ndL_len (m : Nat) : ∀ i, (ndL σ md m i).length = cnt (ndP σ md m) (m * 150) i := by
  intro i
  induction i with
  | zero => rfl
  | succ i ih =>
    rw [ndL, cnt_s, ← ih]
    by_cases h : ndP σ md m (m * 150 + i)
    · rw [if_pos h, if_pos h, List.length_append]; rfl
    · rw [if_neg h, if_neg h, Nat.add_zero]
theorem nz_bit : ∀ a, a < 256 → (∀ j, j < 8 → a.testBit j = true → False) → a = 0 := by decide +kernel
theorem mN_0 (b : Int32) (s : Nat) {k : Nat} (hk : k ≤ 8) : nI (mN σ b s k) = nI 0 ↔ ¬ inP σ k b s := by
  have hlt := mN_256 σ b s hk
  unfold inP
  rw [ext_iff]
  constructor
  · rintro h ⟨j, h1, h2, h3⟩
    have h0 := nI_inj (by omega) (by omega) h
    have := (mN_bit σ b s k j).mpr ⟨by omega, h3⟩
    rw [h0, Nat.zero_testBit] at this
    cases this
  · intro h
    rw [nz_bit _ hlt (fun j hj hb => by
      obtain ⟨h1, h2⟩ := (mN_bit σ b s k j).mp hb
      exact h ⟨j, by omega, by omega, h2⟩)]
theorem s_sw (τ : am_M) {a b : Nat} (hab : a ≠ b) (f g f' g' : Nat → Int32) : am_set (am_set (am_set (am_set τ a f) b g) b g') a f' = am_set (am_set τ a f') b g' := by
  unfold am_set
  refine Prod.ext ?_ rfl
  funext c
  simp only [va_up]
  by_cases h1 : c = b
  · simp [h1, Ne.symm hab]
  · by_cases h2 : c = a
    · simp [h2, hab]
    · simp [h1, h2]
theorem bit_nz : ∀ m, m < 8 → ∀ x : Int32, x = nI 0 → ¬ x ||| bit m = nI 0 := by
  intro m hm x hx
  subst hx
  revert m
  decide +kernel
theorem gD_l (l l' : List Nat) {q : Nat} (h : q < l.length) : (l ++ l').getD q 0 = l.getD q 0 := by
  rw [List.getD_eq_getElem?_getD, List.getD_eq_getElem?_getD, List.getElem?_append_left h]
theorem gD_r (l : List Nat) (a : Nat) : (l ++ [a]).getD l.length 0 = a := by
  rw [List.getD_eq_getElem?_getD, List.getElem?_append_right (Nat.le_refl _), Nat.sub_self]; rfl
theorem x7 (h : Inv c kc md rc td lev rk σ) {m : Nat} (hm : m < md) : ∃ f g, am_ex (d + 6) 7 [.ref 6, .int (nI m)] σ = rI (nI (ndL σ md m (zn (σ.1 21) m)).length) (am_set (am_set σ 27 f) 28 g) ∧ ∀ q, q < (ndL σ md m (zn (σ.1 21) m)).length → g q = nI ((ndL σ md m (zn (σ.1 21) m)).getD q 0) := by
  have hmb := h.core.mdb
  obtain ⟨hz1, hz2, hz3⟩ := h.core.med m hm
  rw [e7, q7_0, x0 d σ h, bV_r]
  have hl := lp_inv (α := (Nat → Int32) × (Nat → Int32) × Nat × Value × Value) (fun i x => x.2.2.1 = (ndL σ md m i).length ∧ x.2.2.1 ≤ i ∧ (∀ s, 1 ≤ s → s < 149 → (x.1 s = nI 0 ↔ ¬ (inP σ md (nI m) s ∨ ext (isE σ s) (m * 150) i = true))) ∧ (∀ q, q < (ndL σ md m i).length → x.2.1 q = nI ((ndL σ md m i).getD q 0)) ∧ (!(x.2.2.2.1.category == 2)) = true ∧ (!(x.2.2.2.2.category == 2)) = true) 0 (zn (σ.1 21) m) (by omega) (fun i x => am_go am_X0 (am_ex (d + 5)) M7 9 [.ref 6, .int (nI m), .int (nI x.2.2.1), .int (nI i), x.2.2.2.1, x.2.2.2.2] [] (am_set (am_set σ 27 x.1) 28 x.2.1)) ?_ (gB σ (nI m) (fil (σ.1 27) 149 (nI 0)) md, σ.1 28, 0, .null, .null) ?_
  · obtain ⟨⟨f, g, n, u4, u5⟩, h1, hn, hni, hf, hg, hu4, hu5⟩ := hl
    refine ⟨f, g, ?_, hg⟩
    have e0 : am_set (am_set σ 27 (gB σ (nI m) (fil (σ.1 27) 149 (nI 0)) md)) 28 (σ.1 28) = am_set σ 27 (gB σ (nI m) (fil (σ.1 27) 149 (nI 0)) md) := by
      have := s_self (am_set σ 27 (gB σ (nI m) (fil (σ.1 27) 149 (nI 0)) md)) 28
      rw [s_ne _ _ (by decide)] at this
      exact this
    simp only at h1 hn hu4 hu5
    rw [e0] at h1
    refine Eq.trans h1 ?_
    rw [q7_9 _ _ _ _ _ hu4 hu5, x36 _ _ (by rw [s_ne _ _ (by decide), s_ne _ _ (by decide)]; exact h.hm) hmb.2, bI_r, rd_n hm (by omega), s_ne _ _ (by decide), s_ne _ _ (by decide), hz2, if_pos (by rw [i_le]; exact Int.le_refl _), hn]
  · rintro i ⟨f, g, n, u4, u5⟩ _ hi ⟨hn, hni, hf, hg, hu4, hu5⟩
    simp only at hn hni hf hg hu4 hu5
    have hS : Sm σ (am_set (am_set σ 27 f) 28 g) := ((Sm.refl σ).set (by decide) f).set (by decide) g
    have hI := h.sm hS
    have s21 : (am_set (am_set σ 27 f) 28 g).1 21 = σ.1 21 := hS.i 21 (by decide) (by decide)
    have s27 : (am_set (am_set σ 27 f) 28 g).1 27 = f := by rw [s_ne _ _ (by decide), s_eq]
    have hE : ∀ s a, isE (am_set (am_set σ 27 f) 28 g) s a ↔ isE σ s a := by
      intro s a
      unfold isE
      rw [hS.i 16 (by decide) (by decide), hS.i 17 (by decide) (by decide), hS.i 22 (by decide) (by decide), hS.i 23 (by decide) (by decide), hS.i 24 (by decide) (by decide)]
    obtain ⟨v, hv1, hv2⟩ := x12 (d + 2) _ hI hm (i := i) (by rw [s21]; exact hi)
    show ∃ y : (Nat → Int32) × (Nat → Int32) × Nat × Value × Value, am_go am_X0 (am_ex (d + 5)) M7 9 [.ref 6, .int (nI m), .int (nI n), .int (nI i), u4, u5] [] (am_set (am_set σ 27 f) 28 g) = am_go am_X0 (am_ex (d + 5)) M7 9 [.ref 6, .int (nI m), .int (nI y.2.2.1), .int (nI (i + 1)), y.2.2.2.1, y.2.2.2.2] [] (am_set (am_set σ 27 y.1) 28 y.2.1) ∧ _
    rw [q7_9 _ _ _ _ _ hu4 hu5, x36 _ _ (by rw [s_ne _ _ (by decide), s_ne _ _ (by decide)]; exact h.hm) hmb.2, bI_r, rd_n hm (by omega), s21, hz2, if_neg (by rw [i_le, i_n (by omega), i_n (by omega)]; omega), x42, bI_r, hv1, bI_r, show nI i + nI 1 = nI (i + 1) from nI_1 _]
    have hx : ∀ s, ext (isE σ s) (m * 150) (i + 1) = true ↔ (ext (isE σ s) (m * 150) i = true ∨ isE σ s (m * 150 + i)) := fun s => ext_s _ _ _
    rcases hv2 with ⟨hv3, hv4⟩ | ⟨s, hs1, hs2, hs3, hs4, hs5⟩
    · have hno : ¬ ndP σ md m (m * 150 + i) := fun z => by
        obtain ⟨s, k1, k2, k3⟩ := (ndP_iff σ _ _).mp z
        exact hv4 s k1 k2 ((hE _ _).mpr k3.1)
      have hL : ndL σ md m (i + 1) = ndL σ md m i := by rw [ndL, if_neg hno]
      rw [if_pos hv3]
      refine ⟨(f, g, n, .int (nI (m * 150 + i)), .int v), rfl, ?_, ?_, ?_, ?_, rfl, rfl⟩
      · show n = _; rw [hL]; exact hn
      · show n ≤ i + 1; omega
      · intro s k1 k2
        show f s = nI 0 ↔ _
        rw [hf s k1 k2, hx]
        have := hv4 s k1 k2
        rw [hE] at this
        exact ⟨fun z w => z (w.imp id (fun q => q.resolve_right this)), fun z w => z (w.imp id Or.inl)⟩
      · intro q hq
        show g q = _
        rw [hL] at hq ⊢
        exact hg q hq
    · rw [hE] at hs4
      have huq : ∀ s', 1 ≤ s' → s' < 149 → isE σ s' (m * 150 + i) → s' = s := fun s' k1 k2 k3 => hs5 s' k1 k2 ((hE _ _).mpr k3)
      rw [if_neg (by rw [hs3]; exact nI_nm (by omega)), hs3, x11 _ _ hs2, bI_r, s27]
      by_cases h0 : f s = nI 0
      · have hk := (hf s hs1 hs2).mp h0
        have hyes : ndP σ md m (m * 150 + i) := (ndP_iff σ _ _).mpr ⟨s, hs1, hs2, hs4, fun z => hk (Or.inl z), fun z => hk (Or.inr (by rw [Nat.add_sub_cancel_left] at z; exact z))⟩
        have hL : ndL σ md m (i + 1) = ndL σ md m i ++ [m * 150 + i] := by rw [ndL, if_pos hyes]
        rw [if_pos h0, if_neg (by rw [i_le, i_n (by omega), i_n (by omega)]; omega), if_pos (am_k (by omega) (by omega)), i_cl (by omega), am_wI_s, x10 _ _ hs2, bV_r, s_eq, s_ne _ _ (show (27 : Nat) ≠ 28 by decide), s27, s_sw _ (by decide), show nI n + nI 1 = nI (n + 1) from nI_1 _]
        refine ⟨(upd f s (f s ||| bit m), upd g n (nI (m * 150 + i)), n + 1, .int (nI (m * 150 + i)), .int (nI s)), rfl, ?_, ?_, ?_, ?_, rfl, rfl⟩
        · show n + 1 = _; rw [hL, List.length_append, ← hn]; rfl
        · show n + 1 ≤ i + 1; omega
        · intro t k1 k2
          show upd f s (f s ||| bit m) t = nI 0 ↔ _
          by_cases ht : t = s
          · subst ht
            rw [show upd f t (f t ||| bit m) t = f t ||| bit m from if_pos rfl]
            exact ⟨fun z => absurd z (bit_nz m (by omega) _ h0), fun z => absurd (Or.inr ((hx t).mpr (Or.inr hs4))) z⟩
          · rw [show upd f s (f s ||| bit m) t = f t from if_neg ht, hf t k1 k2, hx]
            have : ¬ isE σ t (m * 150 + i) := fun z => ht (huq t k1 k2 z)
            exact ⟨fun z w => z (w.imp id (fun q => q.resolve_right this)), fun z w => z (w.imp id Or.inl)⟩
        · intro q hq
          show upd g n (nI (m * 150 + i)) q = _
          rw [hL] at hq ⊢
          rw [List.length_append] at hq
          by_cases hqn : q = n
          · rw [show upd g n (nI (m * 150 + i)) q = nI (m * 150 + i) from if_pos hqn, hqn, hn, gD_r]
          · have hq2 : q < (ndL σ md m i).length := by
              have : ([m * 150 + i] : List Nat).length = 1 := rfl
              omega
            rw [show upd g n (nI (m * 150 + i)) q = g q from if_neg hqn, hg q hq2, gD_l _ _ hq2]
      · have hk : inP σ md (nI m) s ∨ ext (isE σ s) (m * 150) i = true := Decidable.byContradiction (fun z => h0 ((hf s hs1 hs2).mpr z))
        have hno : ¬ ndP σ md m (m * 150 + i) := fun z => by
          obtain ⟨s', k1, k2, k3⟩ := (ndP_iff σ _ _).mp z
          have := huq s' k1 k2 k3.1
          subst this
          rcases hk with hk | hk
          · exact k3.2.1 hk
          · exact k3.2.2 (by rw [Nat.add_sub_cancel_left]; exact hk)
        have hL : ndL σ md m (i + 1) = ndL σ md m i := by rw [ndL, if_neg hno]
        rw [if_neg h0]
        refine ⟨(f, g, n, .int (nI (m * 150 + i)), .int (nI s)), rfl, ?_, ?_, ?_, ?_, rfl, rfl⟩
        · show n = _; rw [hL]; exact hn
        · show n ≤ i + 1; omega
        · intro t k1 k2
          show f t = nI 0 ↔ _
          rw [hf t k1 k2, hx]
          by_cases ht : t = s
          · subst ht
            exact ⟨fun z => absurd hk z, fun z => absurd (hk.imp id Or.inl) z⟩
          · have : ¬ isE σ t (m * 150 + i) := fun z => ht (huq t k1 k2 z)
            exact ⟨fun z w => z (w.imp id (fun q => q.resolve_right this)), fun z w => z (w.imp id Or.inl)⟩
        · intro q hq
          show g q = _
          rw [hL] at hq ⊢
          exact hg q hq
  · refine ⟨rfl, Nat.le_refl _, ?_, ?_, rfl, rfl⟩
    · intro s k1 k2
      show gB σ (nI m) (fil (σ.1 27) 149 (nI 0)) md s = nI 0 ↔ _
      rw [gB_N σ _ k1 k2 _ _ hmb.2, mN_0 σ _ _ hmb.2]
      exact ⟨fun z w => w.elim z (fun q => Bool.false_ne_true q), fun z w => z (Or.inl w)⟩
    · intro q hq
      exact absurd hq (Nat.not_lt_zero _)
theorem c130n (h : Inv c kc md rc td lev rk σ) {m w : Nat} (hm : m < md) (hw : w < 4) : ∃ τ, Sm σ τ ∧ τ.2.2 = σ.2.2 ∧ am_ex (d + 7) 130 [.ref 0, .int (nI m), .int (nI w)] σ = rI (if w = 0 then σ.1 20 m else if w = 1 then σ.1 21 m else if w = 2 then nI (cnt (lvA σ) (m * 150) (zn (σ.1 21) m)) else nI (cnt (ndP σ md m) (m * 150) (zn (σ.1 21) m))) τ := by
  have hmb := h.core.mdb
  obtain ⟨f, g, hx, _⟩ := x7 d σ h hm
  rw [e130, q130_0, x32, bI_r, h.hm, x144 _ σ _ (by omega), if_pos (inR_n hm (by omega)), bV_r, x145 _ σ _ (by omega), if_pos (inR_n hw (by omega)), bV_r, x34 _ σ h.hm hmb.2, bI_r, rd_n hm (by omega), x36 _ σ h.hm hmb.2, bI_r, rd_n hm (by omega), x6 _ σ h hm, bI_r, hx, bI_r, ndL_len]
  by_cases h0 : w = 0
  · rw [if_pos (by rw [h0]), if_pos h0]; exact ⟨_, Sm.refl σ, rfl, rfl⟩
  · rw [if_neg (by rw [i_eq, i_n (by omega), i_n (by omega)]; omega), if_neg h0]
    by_cases h1 : w = 1
    · rw [if_pos (by rw [h1]), if_pos h1]; exact ⟨_, Sm.refl σ, rfl, rfl⟩
    · rw [if_neg (by rw [i_eq, i_n (by omega), i_n (by omega)]; omega), if_neg h1]
      by_cases h2 : w = 2
      · rw [if_pos (by rw [h2]), if_pos h2]; exact ⟨_, Sm.refl σ, rfl, rfl⟩
      · rw [if_neg (by rw [i_eq, i_n (by omega), i_n (by omega)]; omega), if_neg h2]
        exact ⟨_, ((Sm.refl σ).set (by decide) f).set (by decide) g, rfl, rfl⟩
theorem c130x (h : Inv c kc md rc td lev rk σ) (x y : Int32) : (¬ inR x md → am_ex (d + 2) 130 [.ref 0, .int x, .int y] σ = rX xIO (am_tick σ)) ∧ (inR x md → ¬ inR y 4 → am_ex (d + 2) 130 [.ref 0, .int x, .int y] σ = rX xIA (am_tick σ)) := by
  have hmb := h.core.mdb
  rw [e130, q130_0, x32, bI_r, h.hm, x144 _ σ _ (by omega)]
  exact ⟨fun h1 => by rw [if_neg h1, bV_x], fun h1 h2 => by rw [if_pos h1, bV_r, x145 _ σ _ (by omega), if_neg h2, bV_x]⟩
theorem lv_sm {σ τ : am_M} (hs : Sm σ τ) (a : Nat) : lvA τ a ↔ lvA σ a := by
  unfold lvA isE
  rw [hs.i 16 (by decide) (by decide), hs.i 17 (by decide) (by decide), hs.i 22 (by decide) (by decide), hs.i 23 (by decide) (by decide), hs.i 24 (by decide) (by decide)]
theorem nd_sm {σ τ : am_M} (hs : Sm σ τ) (md m a : Nat) : ndP τ md m a ↔ ndP σ md m a := by
  unfold ndP ndS inP inB onP isE
  rw [hs.i 20 (by decide) (by decide), hs.i 21 (by decide) (by decide), hs.i 16 (by decide) (by decide), hs.i 17 (by decide) (by decide), hs.i 22 (by decide) (by decide), hs.i 23 (by decide) (by decide), hs.i 24 (by decide) (by decide)]
theorem y254 (h : Inv c kc md rc td lev rk σ) {m w : Nat} (hm : m < md) (hw : w < 4) : am_ex (d + 5) 254 [.ref 34, .int (nI m), .int (nI w)] σ = rI (if w = 0 then σ.1 20 m else if w = 1 then σ.1 21 m else if w = 2 then nI (cnt (lvA σ) (m * 150) (zn (σ.1 21) m)) else nI (cnt (ndP σ md m) (m * 150) (zn (σ.1 21) m))) (th σ (nI 0)) := by
  have hmb := h.core.mdb
  have hs := (Sm.refl σ).th (nI 0)
  have hI := h.sm hs
  rw [e254, q254_0, x185 _ σ h.hm' hmb.2, bI_r, bz_t (inR_n hm (by omega)), if_neg n10, x173, bI_r, bz_t (by rw [i_64, i_n (by omega), show (0 : Int64).toInt = 0 by decide +kernel, show (3 : Int64).toInt = 3 by decide +kernel]; omega), if_neg n10, q254_30, th_w, th_v, if_pos le00, if_pos (am_k (by omega) (by omega)), if_pos (am_k (by omega) (by omega)), i_cl (by omega), th_ne _ _ (by decide), th_ne _ _ (by decide), (h.mdm m hm).1, (h.mdm m hm).2, y251 _ _ hI hm, bI_r, y253 _ _ hI hm, bI_r]
  rw [cnt_c (Q := lvA σ) _ _ (fun j _ _ => lv_sm hs j), cnt_c (Q := ndP σ md m) _ _ (fun j _ _ => nd_sm hs md m j), th_ne _ _ (show (21 : Nat) ≠ 34 by decide)]
  by_cases h0 : w = 0
  · rw [if_pos (by rw [h0]), if_pos h0]
  · rw [if_neg (by rw [i_eq, i_n (by omega), i_n (by omega)]; omega), if_neg h0]
    by_cases h1 : w = 1
    · rw [if_pos (by rw [h1]), if_pos h1]
    · rw [if_neg (by rw [i_eq, i_n (by omega), i_n (by omega)]; omega), if_neg h1]
      by_cases h2 : w = 2
      · rw [if_pos (by rw [h2]), if_pos h2]
      · rw [if_neg (by rw [i_eq, i_n (by omega), i_n (by omega)]; omega), if_neg h2]
theorem y254x (h : Inv c kc md rc td lev rk σ) (x y : Int32) : (¬ inR x md → am_ex (d + 3) 254 [.ref 34, .int x, .int y] σ = rI (nI 0) (th σ (nI 1))) ∧ (inR x md → ¬ inR y 4 → am_ex (d + 3) 254 [.ref 34, .int x, .int y] σ = rI (nI 0) (th σ (nI 2))) := by
  have hmb := h.core.mdb
  rw [e254, q254_0, x185 _ σ h.hm' hmb.2, bI_r]
  exact ⟨fun h1 => by rw [bz_f h1, if_pos rfl, q254_30, th_w, th_v, if_neg le10], fun h1 h2 => by
    rw [bz_t h1, if_neg n10, x173, bI_r, bz_f (by rw [i_64, show (0 : Int64).toInt = 0 by decide +kernel, show (3 : Int64).toInt = 3 by decide +kernel]; exact fun z => h2 ⟨z.1, by omega⟩), if_pos rfl, q254_30, th_w, th_v, if_neg le20]⟩
end MIG
