/-! which intact media have a live entry: both sides -/
section COV
variable (d : Nat) (σ : am_M)
theorem nI_inj {a b : Nat} (ha : a < 2 ^ 31) (hb : b < 2 ^ 31) (h : nI a = nI b) : a = b := by
  have := (i_eq _ _ ▸ h : (nI a).toInt = (nI b).toInt)
  rw [i_n ha, i_n hb] at this
  omega
theorem nI_nm {a : Nat} (ha : a < 2 ^ 31) : ¬ nI a = -1 := by
  rw [i_eq, i_n ha, i_m1]; omega
/-- the entry at a is the live one of spot s: below 85 the key at that place, from 85 on the record at that leaf -/
abbrev entP (n R ki inn out : Nat → Int32) (s a : Nat) : Prop := (s < 85 ∧ ki a = nI 0 ∧ inn a = n s ∧ out a = n (par s)) ∨ (85 ≤ s ∧ ki a = nI 1 ∧ inn a = R (s - 85) ∧ out a = n (s - 64))
abbrev isE (σ : am_M) (s a : Nat) : Prop := entP (σ.1 16) (σ.1 17) (σ.1 22) (σ.1 23) (σ.1 24) s a
abbrev onP (σ : am_M) (m s : Nat) : Prop := ext (isE σ s) (m * 150) (zn (σ.1 21) m) = true
/-- an intact medium but one has it -/
abbrev inB (σ : am_M) (b : Int32) (s m : Nat) : Prop := ¬ nI m = b ∧ σ.1 20 m = nI 0 ∧ onP σ m s
abbrev inP (σ : am_M) (md : Nat) (b : Int32) (s : Nat) : Prop := ext (inB σ b s) 0 md = true
abbrev rdP (σ : am_M) (md : Nat) (b : Int32) (k : Nat) : Prop := inP σ md b (85 + k) ∧ inP σ md b (21 + k) ∧ inP σ md b (par (21 + k)) ∧ inP σ md b (par (par (21 + k)))
variable {c kc md rc td : Nat} {lev rk : Nat → Nat}
theorem x12 (h : Inv c kc md rc td lev rk σ) {m i : Nat} (hm : m < md) (hi : i < zn (σ.1 21) m) : ∃ v, am_ex (d + 3) 12 [.ref 6, .int (nI (m * 150 + i))] σ = rI v σ ∧ ((v = -1 ∧ ∀ s, 1 ≤ s → s < 149 → ¬ isE σ s (m * 150 + i)) ∨ ∃ s, 1 ≤ s ∧ s < 149 ∧ v = nI s ∧ isE σ s (m * 150 + i) ∧ ∀ s', 1 ≤ s' → s' < 149 → isE σ s' (m * 150 + i) → s' = s) := by
  have hkl := h.kl
  have hrb := h.core.rcb
  have hmb := h.core.mdb
  have hsz := (h.core.med m hm).1
  have ha : m * 150 + i < 1200 := by omega
  generalize hA : m * 150 + i = a at *
  rw [e12, q12_0, x45, bI_r, rd_n ha (by omega), x43, bI_r, rd_n ha (by omega)]
  have he := h.core.ent m hm i hi
  rw [hA] at he
  rcases he with ⟨hki, x, y, hx1, hx2, hy1, hy2, hin, hou, hlv⟩ | ⟨hki, r, y, hr, hy1, hy2, hin, hou, hlv, hrk⟩
  · rw [hki, if_neg (by decide), x44, bI_r, rd_n ha (by omega), hin, x28 _ _ h.hk (by omega), bI_r, if_pos (show mdR (nI x) kc from ⟨by rw [i_n (by omega)]; omega, by rw [i_n (by omega)]; omega⟩), i_cl (by omega)]
    have hno : ∀ s, 1 ≤ s → s < 149 → isE σ s a → s < 85 ∧ σ.1 13 x = nI s ∧ σ.1 16 (par s) = nI y := by
      intro s h1 h2 h3
      rcases h3 with ⟨g1, g2, g3, g4⟩ | ⟨g1, g2, g3, g4⟩
      · refine ⟨g1, ?_, by rw [← g4]; exact hou⟩
        rcases h.core.node s g1 with h5 | ⟨k, k1, k2, k3, k4, k5⟩
        · rw [hin, h5] at g3
          have := nI_inj (by omega) (by omega) g3
          omega
        · rw [hin, k3] at g3
          have := nI_inj (by omega) (by omega) g3
          subst this
          exact k4
      · rw [hki] at g2
        exact absurd g2 (by decide)
    rcases h.core.plc x hx1 hx2 with hp | ⟨p, hp1, hp2, hp3⟩
    · rw [hp, if_pos (by decide)]
      refine ⟨_, rfl, Or.inl ⟨rfl, fun s h1 h2 h3 => ?_⟩⟩
      have := (hno s h1 h2 h3).2.1
      rw [hp] at this
      exact nI_nm (by omega) this.symm
    · rw [hp2]
      by_cases hp0 : p = 0
      · rw [hp0, if_pos le00]
        refine ⟨_, rfl, Or.inl ⟨rfl, fun s h1 h2 h3 => ?_⟩⟩
        obtain ⟨g1, g2, g3⟩ := hno s h1 h2 h3
        rw [hp2] at g2
        have := nI_inj (by omega) (by omega) g2
        omega
      · rw [if_neg (by rw [i_le, i_n (by omega), i_n (by omega)]; omega), x166 _ _ (by omega) hp1, nI_r, x77, bI_r, rd_n (by have := par_lt (p := p) (by omega); omega) (by omega), hou]
        by_cases hq : σ.1 16 (par p) = nI y
        · rw [if_pos hq]
          refine ⟨_, rfl, Or.inr ⟨p, by omega, by omega, rfl, Or.inl ⟨hp1, hki, by rw [hin, hp3], by rw [hou, hq]⟩, fun s' h1 h2 h3 => ?_⟩⟩
          obtain ⟨g1, g2, g3⟩ := hno s' h1 h2 h3
          rw [hp2] at g2
          exact (nI_inj (by omega) (by omega) g2).symm
        · rw [if_neg hq]
          refine ⟨_, rfl, Or.inl ⟨rfl, fun s h1 h2 h3 => ?_⟩⟩
          obtain ⟨g1, g2, g3⟩ := hno s h1 h2 h3
          rw [hp2] at g2
          have := nI_inj (by omega) (by omega) g2
          subst this
          exact hq g3
  · rw [hki, if_pos rfl, x44, bI_r, rd_n ha (by omega), hin, x62 _ _ h.hr hrb, bI_r, rd_n hr (by omega)]
    have hno : ∀ s, 1 ≤ s → s < 149 → isE σ s a → 85 ≤ s ∧ σ.1 15 r = nI (s - 85) ∧ σ.1 16 (s - 64) = nI y := by
      intro s h1 h2 h3
      rcases h3 with ⟨g1, g2, g3, g4⟩ | ⟨g1, g2, g3, g4⟩
      · rw [hki] at g2
        exact absurd g2 (by decide)
      · refine ⟨g1, ?_, by rw [← g4]; exact hou⟩
        rcases h.core.rec (s - 85) (by omega) with h5 | ⟨r', k1, k2, k3⟩
        · rw [hin, h5] at g3
          exact absurd g3 (nI_nm (by omega))
        · rw [hin, k2] at g3
          have := nI_inj (by omega) (by omega) g3
          subst this
          exact k3
    rcases h.core.lfs r hr with hp | ⟨k, hk1, hk2, hk3⟩
    · rw [hp, if_pos rfl, q12_61, q12_62, if_pos rfl]
      refine ⟨_, rfl, Or.inl ⟨rfl, fun s h1 h2 h3 => ?_⟩⟩
      have := (hno s h1 h2 h3).2.1
      rw [hp] at this
      exact nI_nm (by omega) this.symm
    · rw [hk2, if_neg (nI_nm (by omega)), x164, nI_r, x77, bI_r, rd_n (by omega) (by omega), hou]
      by_cases hq : σ.1 16 (21 + k) = nI y
      · rw [if_pos hq, q12_62, if_neg n10, nI_add]
        refine ⟨_, rfl, Or.inr ⟨85 + k, by omega, by omega, rfl, Or.inr ⟨by omega, hki, by rw [hin, show 85 + k - 85 = k by omega, hk3], by rw [hou, show 85 + k - 64 = 21 + k by omega, hq]⟩, fun s' h1 h2 h3 => ?_⟩⟩
        obtain ⟨g1, g2, g3⟩ := hno s' h1 h2 h3
        rw [hk2] at g2
        have := nI_inj (by omega) (by omega) g2
        omega
      · rw [if_neg hq, q12_61, q12_62, if_pos rfl]
        refine ⟨_, rfl, Or.inl ⟨rfl, fun s h1 h2 h3 => ?_⟩⟩
        obtain ⟨g1, g2, g3⟩ := hno s h1 h2 h3
        rw [hk2] at g2
        have := nI_inj (by omega) (by omega) g2
        rw [show s - 64 = 21 + k by omega] at g3
        exact hq g3
/-- the bit of a medium -/
abbrev bit (m : Nat) : Int32 := nI 1 <<< (nI m &&& 31)
theorem x10m (v : Int32) : am_ex (d + 1) 10 [.ref 6, .int (-1), .int v] σ = rV σ := by
  rw [e10, q10_0, if_pos (by decide)]
theorem x10 {s : Nat} (hs : s < 149) (m : Nat) : am_ex (d + 1) 10 [.ref 6, .int (nI s), .int (nI m)] σ = rV (am_set σ 27 (upd (σ.1 27) s (σ.1 27 s ||| bit m))) := by
  rw [e10, q10_0, if_neg (by rw [i_lt, i_n (by omega), i_n (by omega)]; omega), if_neg (by rw [i_le, i_n (by omega), i_n (by omega)]; omega), if_pos (am_k hs (by omega)), if_pos (am_k hs (by omega)), i_cl (by omega), am_wI_s]
theorem x11 {s : Nat} (hs : s < 149) : am_ex (d + 1) 11 [.ref 6, .int (nI s)] σ = rI (σ.1 27 s) σ := by
  rw [e11, q11_0, if_neg (by rw [i_lt, i_n (by omega), i_n (by omega)]; omega), if_neg (by rw [i_le, i_n (by omega), i_n (by omega)]; omega), if_pos (am_k hs (by omega)), i_cl (by omega)]
/-- the masks with the first j entries of a medium -/
def gm (σ : am_M) (m : Nat) (f : Nat → Int32) (j : Nat) : Nat → Int32 := fun s => if 1 ≤ s ∧ s < 149 ∧ ext (isE σ s) (m * 150) j = true then f s ||| bit m else f s
theorem ext_s (P : Nat → Prop) [DecidablePred P] : ∀ n i, ext P i (n + 1) = true ↔ ext P i n = true ∨ P (i + n) := by
  intro n i
  rw [ext_iff, ext_iff]
  constructor
  · rintro ⟨j, h1, h2, h3⟩
    by_cases h : j < i + n
    · exact Or.inl ⟨j, h1, h, h3⟩
    · exact Or.inr (by rw [show i + n = j by omega]; exact h3)
  · rintro (⟨j, h1, h2, h3⟩ | h)
    · exact ⟨j, h1, by omega, h3⟩
    · exact ⟨i + n, by omega, by omega, h⟩
theorem or_or (x b : Int32) : x ||| b ||| b = x ||| b := by rw [Int32.or_assoc, Int32.or_self]
theorem x9 (h : Inv c kc md rc td lev rk σ) {m : Nat} (hm : m < md) (f : Nat → Int32) : am_ex (d + 4) 9 [.ref 6, .int (nI m)] (am_set σ 27 f) = rV (am_set σ 27 (gm σ m f (zn (σ.1 21) m))) := by
  have hmb := h.core.mdb
  obtain ⟨hz1, hz2, hz3⟩ := h.core.med m hm
  rw [e9, q9_0]
  have := lp_mem 0 (zn (σ.1 21) m) (by omega) (fun i => am_go am_X0 (am_ex (d + 3)) M9 2 [.ref 6, .int (nI m), .int (nI i)] [] (am_set σ 27 (gm σ m f i))) ?_
  · rw [show gm σ m f 0 = f from funext fun s => if_neg (fun z => Bool.false_ne_true z.2.2)] at this
    refine Eq.trans this ?_
    show am_go am_X0 (am_ex (d + 3)) M9 2 [.ref 6, .int (nI m), .int (nI (zn (σ.1 21) m))] [] _ = _
    rw [q9_2, x36 _ _ (by rw [s_ne _ _ (by decide)]; exact h.hm) hmb.2, bI_r, rd_n hm (by omega), s_ne _ _ (by decide), hz2, if_pos (by rw [i_le]; exact Int.le_refl _)]
  · intro i _ hi
    show am_go am_X0 (am_ex (d + 3)) M9 2 [.ref 6, .int (nI m), .int (nI i)] [] _ = am_go am_X0 (am_ex (d + 3)) M9 2 [.ref 6, .int (nI m), .int (nI (i + 1))] [] _
    have hI := h.sm ((Sm.refl σ).set (a := 27) (by decide) (gm σ m f i))
    have s21 : (am_set σ 27 (gm σ m f i)).1 21 = σ.1 21 := s_ne _ _ (by decide)
    have hE : ∀ s a, isE (am_set σ 27 (gm σ m f i)) s a ↔ isE σ s a := by
      intro s a
      unfold isE
      rw [s_ne _ _ (by decide), s_ne _ _ (by decide), s_ne _ _ (by decide), s_ne _ _ (by decide), s_ne _ _ (by decide)]
    rw [q9_2, x36 _ _ (by rw [s_ne _ _ (by decide)]; exact h.hm) hmb.2, bI_r, rd_n hm (by omega), s21, hz2, if_neg (by rw [i_le, i_n (by omega), i_n (by omega)]; omega), x42, bI_r]
    obtain ⟨v, hv1, hv2⟩ := x12 d _ hI hm (by rw [s21]; exact hi)
    rw [hv1, bI_r, show nI i + nI 1 = nI (i + 1) from nI_1 _]
    rcases hv2 with ⟨hv3, hv4⟩ | ⟨s, hs1, hs2, hs3, hs4, hs5⟩
    · rw [hv3, x10m, bV_r, show gm σ m f i = gm σ m f (i + 1) from funext fun s => by
        simp only [gm]
        by_cases hc : 1 ≤ s ∧ s < 149
        · have hno : ¬ isE σ s (m * 150 + i) := fun z => hv4 s hc.1 hc.2 ((hE _ _).mpr z)
          by_cases he : ext (isE σ s) (m * 150) i = true
          · rw [if_pos ⟨hc.1, hc.2, he⟩, if_pos ⟨hc.1, hc.2, (ext_s _ _ _).mpr (Or.inl he)⟩]
          · rw [if_neg (fun z => he z.2.2), if_neg (fun z => ((ext_s _ _ _).mp z.2.2).elim he hno)]
        · rw [if_neg (fun z => hc ⟨z.1, z.2.1⟩), if_neg (fun z => hc ⟨z.1, z.2.1⟩)]]
    · rw [hs3, x10 _ _ hs2, bV_r, s_eq, s_ss, show upd (gm σ m f i) s (gm σ m f i s ||| bit m) = gm σ m f (i + 1) from funext fun t => by
        simp only [upd, gm]
        by_cases ht : t = s
        · subst ht
          have hnew : ext (isE σ t) (m * 150) (i + 1) = true := (ext_s _ _ _).mpr (Or.inr ((hE _ _).mp hs4))
          rw [if_pos rfl]
          by_cases he : ext (isE σ t) (m * 150) i = true
          · rw [if_pos ⟨hs1, hs2, he⟩, if_pos ⟨hs1, hs2, hnew⟩, or_or]
          · rw [if_neg (fun z => he z.2.2), if_pos ⟨hs1, hs2, hnew⟩]
        · rw [if_neg ht]
          by_cases hc : 1 ≤ t ∧ t < 149
          · have hno : ¬ isE σ t (m * 150 + i) := fun z => ht (hs5 t hc.1 hc.2 ((hE _ _).mpr z))
            by_cases he : ext (isE σ t) (m * 150) i = true
            · rw [if_pos ⟨hc.1, hc.2, he⟩, if_pos ⟨hc.1, hc.2, (ext_s _ _ _).mpr (Or.inl he)⟩]
            · rw [if_neg (fun z => he z.2.2), if_neg (fun z => ((ext_s _ _ _).mp z.2.2).elim he hno)]
          · rw [if_neg (fun z => hc ⟨z.1, z.2.1⟩), if_neg (fun z => hc ⟨z.1, z.2.1⟩)]]
/-- the masks of the first k media but one -/
def gB (σ : am_M) (b : Int32) (f : Nat → Int32) : Nat → (Nat → Int32)
  | 0 => f
  | k + 1 => if ¬ nI k = b ∧ σ.1 20 k = nI 0 then gm σ k (gB σ b f k) (zn (σ.1 21) k) else gB σ b f k
theorem x0 (h : Inv c kc md rc td lev rk σ) (b : Int32) : am_ex (d + 5) 0 [.ref 6, .int b] σ = rV (am_set σ 27 (gB σ b (fil (σ.1 27) 149 (nI 0)) md)) := by
  have hmb := h.core.mdb
  rw [e0, q0_0, x276 _ _ sh27 (by omega), bV_r]
  generalize fil (σ.1 27) 149 (nI 0) = f
  have := lp_mem 0 md (by omega) (fun i => am_go am_X0 (am_ex (d + 4)) M0 10 [.ref 6, .int b, .int (nI i)] [] (am_set σ 27 (gB σ b f i))) ?_
  · refine Eq.trans this ?_
    show am_go am_X0 (am_ex (d + 4)) M0 10 [.ref 6, .int b, .int (nI md)] [] _ = _
    rw [q0_10, x32, bI_r, s_ne _ _ (by decide), h.hm, if_pos (by rw [i_le]; exact Int.le_refl _)]
  · intro i _ hi
    show am_go am_X0 (am_ex (d + 4)) M0 10 [.ref 6, .int b, .int (nI i)] [] _ = am_go am_X0 (am_ex (d + 4)) M0 10 [.ref 6, .int b, .int (nI (i + 1))] [] _
    rw [q0_10, x32, bI_r, s_ne _ _ (by decide), h.hm, if_neg (by rw [i_le, i_n (by omega), i_n (by omega)]; omega), show nI i + nI 1 = nI (i + 1) from nI_1 _, gB]
    by_cases hb : nI i = b
    · rw [if_pos hb, if_neg (fun z => z.1 hb)]
    · rw [if_neg hb, x35 _ _ (by rw [s_ne _ _ (by decide)]; exact h.hm) hmb.2, bI_r]
      simp only [bz_0]
      rw [s_ne _ _ (by decide), i_cl (by omega)]
      by_cases hst : σ.1 20 i = nI 0
      · rw [if_neg (fun z => z ⟨inR_n hi (by omega), hst⟩), x9 d σ h hi, bV_r, if_pos ⟨hb, hst⟩]
      · rw [if_pos (fun z => hst z.2), if_neg (fun z => hst z.2)]
/-- the mask of a spot as a number -/
def mN (σ : am_M) (b : Int32) (s : Nat) : Nat → Nat
  | 0 => 0
  | k + 1 => if inB σ b s k then mN σ b s k ||| 2 ^ k else mN σ b s k
theorem or_bit : ∀ m, m < 8 → ∀ a, a < 2 ^ m → nI a ||| bit m = nI (a ||| 2 ^ m) ∧ (a ||| 2 ^ m) < 2 ^ (m + 1) := by decide +kernel
theorem mN_lt (b : Int32) (s : Nat) : ∀ k, k ≤ 8 → mN σ b s k < 2 ^ k := by
  intro k
  induction k with
  | zero => intro _; exact Nat.one_pos
  | succ k ih =>
    intro hk
    have h1 := ih (by omega)
    rw [mN]
    split
    · exact (or_bit k (by omega) _ h1).2
    · have : 2 ^ (k + 1) = 2 * 2 ^ k := by rw [Nat.pow_succ, Nat.mul_comm]
      omega
theorem gB_N (b : Int32) {s : Nat} (h1 : 1 ≤ s) (h2 : s < 149) (f : Nat → Int32) : ∀ k, k ≤ 8 → gB σ b (fil f 149 (nI 0)) k s = nI (mN σ b s k) := by
  intro k
  induction k with
  | zero => intro _; exact if_pos h2
  | succ k ih =>
    intro hk
    have h3 := ih (by omega)
    rw [gB, mN]
    by_cases hc : ¬ nI k = b ∧ σ.1 20 k = nI 0
    · rw [if_pos hc]
      simp only [gm]
      rw [h3]
      by_cases he : onP σ k s
      · rw [if_pos ⟨h1, h2, he⟩, if_pos ⟨hc.1, hc.2, he⟩, (or_bit k (by omega) _ (mN_lt σ b s k (by omega))).1]
      · rw [if_neg (fun z => he z.2.2), if_neg (fun z => he z.2.2)]
    · rw [if_neg hc, if_neg (fun z => hc ⟨z.1, z.2.1⟩)]
      exact h3
theorem mN_bit (b : Int32) (s : Nat) : ∀ k j, (mN σ b s k).testBit j = true ↔ j < k ∧ inB σ b s j := by
  intro k
  induction k with
  | zero => intro j; rw [mN, Nat.zero_testBit]; exact ⟨fun z => (by cases z), fun z => absurd z.1 (by omega)⟩
  | succ k ih =>
    intro j
    rw [mN]
    by_cases hc : inB σ b s k
    · rw [if_pos hc, Nat.testBit_or, Bool.or_eq_true, ih j, Nat.testBit_two_pow, decide_eq_true_iff]
      constructor
      · rintro (⟨h1, h2⟩ | h)
        · exact ⟨by omega, h2⟩
        · subst h; exact ⟨by omega, hc⟩
      · rintro ⟨h1, h2⟩
        by_cases hj : j = k
        · exact Or.inr hj.symm
        · exact Or.inl ⟨by omega, h2⟩
    · rw [if_neg hc, ih j]
      constructor
      · rintro ⟨h1, h2⟩; exact ⟨by omega, h2⟩
      · rintro ⟨h1, h2⟩
        by_cases hj : j = k
        · subst hj; exact absurd h2 hc
        · exact ⟨by omega, h2⟩
/-- the allowed media: all but b -/
def aw (b : Int32) : Int32 := if b = -1 then -1 else (nI 1 <<< (b &&& 31)) ^^^ (-1)
theorem aw_m : ∀ m, m < 8 → ∀ a, a < 256 → (nI a &&& aw (nI m) = nI 0 ↔ ∀ j, j < 8 → a.testBit j = true → j = m) := by decide +kernel
theorem aw_n : ∀ a, a < 256 → (nI a &&& aw (-1) = nI 0 ↔ ∀ j, j < 8 → a.testBit j = true → False) := by decide +kernel
theorem aw_P {b : Int32} (hb : b = -1 ∨ ∃ m, m < 8 ∧ b = nI m) (s : Nat) {k : Nat} (hk : k ≤ 8) : (nI (mN σ (-1) s k) &&& aw b = nI 0) ↔ ¬ inP σ k b s := by
  have hlt : mN σ (-1) s k < 256 := by
    have h1 := mN_lt σ (-1) s k hk
    have h2 : 2 ^ k ≤ 2 ^ 8 := Nat.pow_le_pow_right (by omega) hk
    omega
  unfold inP
  rw [ext_iff]
  rcases hb with rfl | ⟨m, hm, rfl⟩
  · rw [aw_n _ hlt]
    constructor
    · rintro h ⟨j, h1, h2, h3⟩
      exact h j (by omega) ((mN_bit σ (-1) s k j).mpr ⟨by omega, h3⟩)
    · intro h j hj hb
      obtain ⟨h1, h2⟩ := (mN_bit σ (-1) s k j).mp hb
      exact h ⟨j, by omega, by omega, h2⟩
  · rw [aw_m m hm _ hlt]
    constructor
    · rintro h ⟨j, h1, h2, h3, h4, h5⟩
      exact h3 (by rw [h j (by omega) ((mN_bit σ (-1) s k j).mpr ⟨by omega, nI_nm (by omega), h4, h5⟩)])
    · intro h j hj hb
      obtain ⟨h1, h2, h3, h4⟩ := (mN_bit σ (-1) s k j).mp hb
      by_cases e : j = m
      · exact e
      · exact absurd ⟨j, by omega, by omega, fun z => e (nI_inj (by omega) (by omega) z), h3, h4⟩ h
/-- the memory after all intact media were gathered -/
abbrev gAl (σ : am_M) (md : Nat) : am_M := am_set σ 27 (gB σ (-1) (fil (σ.1 27) 149 (nI 0)) md)
theorem x11g (hmd : md ≤ 8) {s : Nat} (h1 : 1 ≤ s) (h2 : s < 149) : am_ex (d + 1) 11 [.ref 6, .int (nI s)] (gAl σ md) = rI (nI (mN σ (-1) s md)) (gAl σ md) := by
  rw [x11 _ _ h2, s_eq, gB_N σ _ h1 h2 _ _ hmd]
theorem x1 (hmd : md ≤ 8) {b : Int32} (hb : b = -1 ∨ ∃ m, m < 8 ∧ b = nI m) {k : Nat} (hk : k < 64) : am_ex (d + 2) 1 [.ref 6, .int (nI k), .int (aw b)] (gAl σ md) = rI (bz (rdP σ md b k)) (gAl σ md) := by
  obtain ⟨g1, g2, g3, g4, g5⟩ := par3 hk
  rw [e1, q1_0, nI_add, x11g _ _ hmd (by omega) (by omega), bI_r, x164, nI_r]
  have st : ∀ (l p : Nat) (v : Int32), l < 3 → 0 < p → p < 85 → ¬ v = nI 0 → am_go am_X0 (am_ex (d + 1)) M1 20 [.ref 6, .int (nI k), .int (aw b), .int v, .int (nI p), .int (nI (l + 1))] [] (gAl σ md) = am_go am_X0 (am_ex (d + 1)) M1 20 [.ref 6, .int (nI k), .int (aw b), .int (nI (mN σ (-1) p md) &&& aw b), .int (nI (par p)), .int (nI (l + 1) + (-1))] [] (gAl σ md) := by
    intro l p v hl h0 hp hv
    rw [q1_20, if_neg (by rw [i_le, i_n (by omega), i_n (by omega)]; omega), if_neg hv, x11g _ _ hmd (by omega) (by omega), bI_r, x166 _ _ h0 hp, nI_r]
  have z0 : ∀ (v4 v5 v : Int32), v = nI 0 → am_go am_X0 (am_ex (d + 1)) M1 20 [.ref 6, .int (nI k), .int (aw b), .int v, .int v4, .int v5] [] (gAl σ md) = rI (nI 0) (gAl σ md) := by
    intro v4 v5 v hv
    rw [q1_20, q1_51, if_pos hv, if_pos hv]
    split <;> rfl
  unfold rdP
  by_cases h1 : inP σ md b (85 + k)
  · rw [st 2 (21 + k) _ (by omega) (by omega) (by omega) (fun z => (aw_P σ hb _ hmd).mp z h1), nI_p]
    by_cases h2 : inP σ md b (21 + k)
    · rw [st 1 _ _ (by omega) g1 (by omega) (fun z => (aw_P σ hb _ hmd).mp z h2), nI_p]
      by_cases h3 : inP σ md b (par (21 + k))
      · rw [st 0 _ _ (by omega) g3 (by omega) (fun z => (aw_P σ hb _ hmd).mp z h3), nI_p]
        by_cases h4 : inP σ md b (par (par (21 + k)))
        · rw [q1_20, if_pos le00, q1_51, if_neg (fun z => (aw_P σ hb _ hmd).mp z h4), bz_t ⟨h1, h2, h3, h4⟩]
        · rw [z0 _ _ _ ((aw_P σ hb _ hmd).mpr h4), bz_f (fun z => h4 z.2.2.2)]
      · rw [z0 _ _ _ ((aw_P σ hb _ hmd).mpr h3), bz_f (fun z => h3 z.2.2.1)]
    · rw [z0 _ _ _ ((aw_P σ hb _ hmd).mpr h2), bz_f (fun z => h2 z.2.1)]
  · rw [z0 _ _ _ ((aw_P σ hb _ hmd).mpr h1), bz_f (fun z => h1 z.1)]
theorem x2 (hmd : md ≤ 8) {b : Int32} (hb : b = -1 ∨ ∃ m, m < 8 ∧ b = nI m) : am_ex (d + 3) 2 [.ref 6, .int (aw b)] (gAl σ md) = rI (nI (cnt (rdP σ md b) 0 64)) (gAl σ md) := by
  rw [e2, q2_0]
  refine lp_cnt0 (rdP σ md b) 0 64 (by omega) (fun i c => am_go am_X0 (am_ex (d + 2)) M2 4 [.ref 6, .int (aw b), .int (nI c), .int (nI i)] [] (gAl σ md)) (fun c => rI (nI c) (gAl σ md)) ?_ ?_
  · intro c
    show am_go am_X0 (am_ex (d + 2)) M2 4 [.ref 6, .int (aw b), .int (nI c), .int (nI 64)] [] (gAl σ md) = _
    rw [q2_4, if_pos (by decide)]
  · intro i c _ hi
    show am_go am_X0 (am_ex (d + 2)) M2 4 [.ref 6, .int (aw b), .int (nI c), .int (nI i)] [] (gAl σ md) = am_go am_X0 (am_ex (d + 2)) M2 4 [.ref 6, .int (aw b), .int (nI _), .int (nI (i + 1))] [] (gAl σ md)
    rw [q2_4, if_neg (by rw [i_le, i_n (by omega), i_n (by omega)]; omega), x1 d σ hmd hb hi, bI_r, show nI i + nI 1 = nI (i + 1) from nI_1 _, show nI c + nI 1 = nI (c + 1) from nI_1 _]
    by_cases h : rdP σ md b i
    · rw [bz_t h, if_neg n10, if_pos h]
    · rw [bz_f h, if_pos rfl, if_neg h]
/-! the reference -/
theorem y191 (h : Inv c kc md rc td lev rk σ) {m : Nat} (hm : m < md) (x y z : Int32) : am_ex (d + 1) 191 [.ref 34, .int (nI m), .int x, .int y, .int z] σ = rI (bz (ext (fun a => σ.1 22 a = x ∧ σ.1 23 a = y ∧ σ.1 24 a = z) (m * 150) (zn (σ.1 21) m) = true)) σ := by
  have hmb := h.core.mdb
  obtain ⟨hz1, hz2, hz3⟩ := h.core.med m hm
  obtain ⟨k1, k2⟩ := h.mdm m hm
  rw [e191, q191_0, pk_mul, Nat.mul_comm]
  have := lp_ext (fun a => σ.1 22 a = x ∧ σ.1 23 a = y ∧ σ.1 24 a = z) (m * 150) (m * 150 + zn (σ.1 21) m) (by omega) (fun i => am_go am_X0 (am_ex d) M191 7 [.ref 34, .int (nI m), .int x, .int y, .int z, .int (nI i)] [] σ) (rI (nI 1) σ) (rI (nI 0) σ) ?_ ?_
  · refine Eq.trans this ?_
    rw [Nat.add_sub_cancel_left]
    split <;> rfl
  · show am_go am_X0 (am_ex d) M191 7 [.ref 34, .int (nI m), .int x, .int y, .int z, .int (nI (m * 150 + zn (σ.1 21) m))] [] σ = _
    rw [q191_7, if_pos (am_k (by omega) (by omega)), i_cl (by omega), k2, hz2, at_n (by omega) (by omega), if_pos (by rw [i_le]; exact Int.le_refl _)]
  · intro i h1 h2
    show am_go am_X0 (am_ex d) M191 7 [.ref 34, .int (nI m), .int x, .int y, .int z, .int (nI i)] [] σ = if _ then _ else am_go am_X0 (am_ex d) M191 7 [.ref 34, .int (nI m), .int x, .int y, .int z, .int (nI (i + 1))] [] σ
    rw [q191_7, if_pos (am_k (by omega) (by omega)), i_cl (by omega), k2, hz2, at_n (by omega) (by omega), if_neg (by rw [i_le, i_n (by omega), i_n (by omega)]; omega), if_pos (am_k (by omega) (by omega)), if_pos (am_k (by omega) (by omega)), if_pos (am_k (by omega) (by omega)), i_cl (by omega), h.e46, h.e47, h.e48, show nI i + nI 1 = nI (i + 1) from nI_1 _]
    by_cases g1 : σ.1 22 i = x
    · rw [if_pos g1]
      by_cases g2 : σ.1 23 i = y
      · rw [if_pos g2]
        by_cases g3 : σ.1 24 i = z
        · rw [if_pos g3, if_pos ⟨g1, g2, g3⟩]
        · rw [if_neg g3, if_neg (fun q => g3 q.2.2)]
      · rw [if_neg g2, if_neg (fun q => g2 q.2.1)]
    · rw [if_neg g1, if_neg (fun q => g1 q.1)]
/-- the live entry of a spot -/
def sKi (s : Nat) : Int32 := if s < 85 then nI 0 else nI 1
def sIn (σ : am_M) (s : Nat) : Int32 := if s < 85 then σ.1 16 s else σ.1 17 (s - 85)
def sOu (σ : am_M) (s : Nat) : Int32 := if s < 85 then σ.1 16 (par s) else σ.1 16 (s - 64)
theorem isE_iff (s a : Nat) : isE σ s a ↔ (σ.1 22 a = sKi s ∧ σ.1 23 a = sIn σ s ∧ σ.1 24 a = sOu σ s) := by
  unfold isE entP sKi sIn sOu
  by_cases h : s < 85
  · rw [if_pos h, if_pos h, if_pos h]
    exact ⟨fun q => q.elim (fun z => z.2) (fun z => absurd z.1 (by omega)), fun q => Or.inl ⟨h, q⟩⟩
  · rw [if_neg h, if_neg h, if_neg h]
    exact ⟨fun q => q.elim (fun z => absurd z.1 h) (fun z => z.2), fun q => Or.inr ⟨by omega, q⟩⟩
theorem y191s (h : Inv c kc md rc td lev rk σ) {m : Nat} (hm : m < md) (s : Nat) : am_ex (d + 1) 191 [.ref 34, .int (nI m), .int (sKi s), .int (sIn σ s), .int (sOu σ s)] σ = rI (bz (onP σ m s)) σ := by
  rw [y191 d σ h hm, bz_c (q := onP σ m s)]
  unfold onP
  rw [ext_c (fun j _ _ => isE_iff σ s j)]
theorem y192 (h : Inv c kc md rc td lev rk σ) (b : Int32) (s : Nat) : am_ex (d + 2) 192 [.ref 34, .int (sKi s), .int (sIn σ s), .int (sOu σ s), .int b] σ = rI (bz (inP σ md b s)) σ := by
  have hmb := h.core.mdb
  rw [e192, q192_0]
  have := lp_ext (inB σ b s) 0 md (by omega) (fun i => am_go am_X0 (am_ex (d + 1)) M192 3 [.ref 34, .int (sKi s), .int (sIn σ s), .int (sOu σ s), .int b, .int (nI i)] [] σ) (rI (nI 1) σ) (rI (nI 0) σ) ?_ ?_
  · refine Eq.trans this ?_
    rw [Nat.sub_zero]
    split <;> rfl
  · show am_go am_X0 (am_ex (d + 1)) M192 3 [.ref 34, .int (sKi s), .int (sIn σ s), .int (sOu σ s), .int b, .int (nI md)] [] σ = _
    rw [q192_3, h.hm', if_pos (by rw [i_le]; exact Int.le_refl _)]
  · intro i _ hi
    show am_go am_X0 (am_ex (d + 1)) M192 3 [.ref 34, .int (sKi s), .int (sIn σ s), .int (sOu σ s), .int b, .int (nI i)] [] σ = if _ then _ else am_go am_X0 (am_ex (d + 1)) M192 3 [.ref 34, .int (sKi s), .int (sIn σ s), .int (sOu σ s), .int b, .int (nI (i + 1))] [] σ
    rw [q192_3, h.hm', if_neg (by rw [i_le, i_n (by omega), i_n (by omega)]; omega), if_pos (am_k (by omega) (by omega)), i_cl (by omega), (h.mdm i hi).1, y191s d σ h hi s, bI_r, show nI i + nI 1 = nI (i + 1) from nI_1 _]
    by_cases g1 : nI i = b
    · rw [if_pos g1, if_neg (fun q => q.1 g1)]
    · rw [if_neg g1]
      by_cases g2 : σ.1 20 i = nI 0
      · rw [if_pos g2]
        by_cases g3 : onP σ i s
        · rw [bz_t g3, if_neg n10, if_pos ⟨g1, g2, g3⟩]
        · rw [bz_f g3, if_pos rfl, if_neg (fun q => g3 q.2.2)]
      · rw [if_neg g2, if_neg (fun q => g2 q.2.1)]
/-- no entry is the one of an empty leaf -/
theorem inP_e (h : Inv c kc md rc td lev rk σ) (b : Int32) {k : Nat} (hk : k < 64) (hr : σ.1 17 k = -1) : ¬ inP σ md b (85 + k) := by
  unfold inP
  rw [ext_iff]
  rintro ⟨m, h1, h2, h3, h4, h5⟩
  unfold onP at h5
  rw [ext_iff] at h5
  obtain ⟨a, g1, g2, g3⟩ := h5
  rw [isE_iff] at g3
  have e : a = m * 150 + (a - m * 150) := by omega
  have hrb := h.core.rcb
  rcases h.core.ent m (by omega) (a - m * 150) (by omega) with ⟨k1, _⟩ | ⟨k1, r, y, k2, k3, k4, k5, _⟩
  · rw [← e, g3.1] at k1
    unfold sKi at k1
    rw [if_neg (by omega)] at k1
    exact absurd k1 (by decide)
  · rw [← e, g3.2.1] at k5
    unfold sIn at k5
    rw [if_neg (by omega), show 85 + k - 85 = k by omega, hr] at k5
    exact nI_nm (by omega) k5.symm
theorem y193 (h : Inv c kc md rc td lev rk σ) (b : Int32) {k : Nat} (hk : k < 64) : am_ex (d + 3) 193 [.ref 34, .int (nI k), .int b] σ = rI (bz (rdP σ md b k)) σ := by
  obtain ⟨g1, g2, g3, g4, g5⟩ := par3 hk
  rw [e193, q193_0, if_pos (am_k hk (by omega)), i_cl (by omega), h.e37, nI_add, if_pos (am_k hk (by omega)), if_pos (am_k (by omega) (by omega)), i_cl (by omega), h.e35]
  by_cases hr : σ.1 17 k = -1
  · rw [if_pos hr, bz_f (fun z => inP_e σ h b hk hr z.1)]
  · rw [if_neg hr]
    have e85 := y192 d σ h b (85 + k)
    rw [show sKi (85 + k) = nI 1 from if_neg (by omega), show sIn σ (85 + k) = σ.1 17 k by unfold sIn; rw [if_neg (by omega), show 85 + k - 85 = k by omega], show sOu σ (85 + k) = σ.1 16 (21 + k) by unfold sOu; rw [if_neg (by omega), show 85 + k - 64 = 21 + k by omega]] at e85
    rw [e85, bI_r]
    have st : ∀ p, 0 < p → p < 85 → am_go am_X0 (am_ex (d + 2)) M193 38 [.ref 34, .int (nI k), .int b, .int (nI p)] [] σ = if inP σ md b p then am_go am_X0 (am_ex (d + 2)) M193 38 [.ref 34, .int (nI k), .int b, .int (nI (par p))] [] σ else rI (nI 0) σ := by
      intro p h0 hp
      have hpl := par_lt h0
      have ep := y192 d σ h b p
      rw [show sKi p = nI 0 from if_pos hp, show sIn σ p = σ.1 16 p from if_pos hp, show sOu σ p = σ.1 16 (par p) from if_pos hp] at ep
      rw [q193_38, if_neg (by rw [i_le, i_n (by omega), i_n (by omega)]; omega), if_pos (am_k hp (by omega)), i_cl (by omega), x179 _ _ h0 (by omega), bI_r, if_pos (am_k (by omega) (by omega)), i_cl (by omega), h.e35, ep, bI_r]
      by_cases hin : inP σ md b p
      · rw [bz_t hin, if_neg n10, x179 _ _ h0 (by omega), bI_r, if_pos hin]
      · rw [bz_f hin, if_pos rfl, if_neg hin]
    unfold rdP
    by_cases h1 : inP σ md b (85 + k)
    · rw [bz_t h1, if_neg n10, st _ (by omega) (by omega)]
      by_cases h2 : inP σ md b (21 + k)
      · rw [if_pos h2, st _ g1 (by omega)]
        by_cases h3 : inP σ md b (par (21 + k))
        · rw [if_pos h3, st _ g3 (by omega)]
          by_cases h4 : inP σ md b (par (par (21 + k)))
          · rw [if_pos h4, bz_t ⟨h1, h2, h3, h4⟩, g5, q193_38, if_pos le00]
          · rw [if_neg h4, bz_f (fun z => h4 z.2.2.2)]
        · rw [if_neg h3, bz_f (fun z => h3 z.2.2.1)]
      · rw [if_neg h2, bz_f (fun z => h2 z.2.1)]
    · rw [bz_f h1, if_pos rfl, bz_f (fun z => h1 z.1)]
theorem y194 (h : Inv c kc md rc td lev rk σ) (b : Int32) : am_ex (d + 4) 194 [.ref 34, .int b] σ = rI (nI (cnt (fun k => rdP σ md (-1) k ∧ ¬ rdP σ md b k) 0 64)) σ := by
  rw [e194, q194_0]
  refine lp_cnt0 _ 0 64 (by omega) (fun i n => am_go am_X0 (am_ex (d + 3)) M194 4 [.ref 34, .int b, .int (nI n), .int (nI i)] [] σ) (fun n => rI (nI n) σ) ?_ ?_
  · intro n
    show am_go am_X0 (am_ex (d + 3)) M194 4 [.ref 34, .int b, .int (nI n), .int (nI 64)] [] σ = _
    rw [q194_4, if_pos (by decide)]
  · intro i n _ hi
    show am_go am_X0 (am_ex (d + 3)) M194 4 [.ref 34, .int b, .int (nI n), .int (nI i)] [] σ = am_go am_X0 (am_ex (d + 3)) M194 4 [.ref 34, .int b, .int (nI _), .int (nI (i + 1))] [] σ
    rw [q194_4, if_neg (by rw [i_le, i_n (by omega), i_n (by omega)]; omega), y193 d σ h _ hi, bI_r, y193 d σ h _ hi, bI_r, show nI i + nI 1 = nI (i + 1) from nI_1 _, show nI n + nI 1 = nI (n + 1) from nI_1 _, show nI n + nI 0 = nI n from nI_add n 0]
    by_cases h1 : rdP σ md (-1) i
    · rw [bz_t h1, if_neg n10]
      by_cases h2 : rdP σ md b i
      · rw [bz_t h2, if_neg n10, if_neg (fun z => z.2 h2)]
      · rw [bz_f h2, if_pos rfl, if_pos ⟨h1, h2⟩]
    · rw [bz_f h1, if_pos rfl, if_neg (fun z => h1 z.1)]
end COV
