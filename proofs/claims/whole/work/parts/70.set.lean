/-! the reference's set of keys -/
section SET
def R2 (σ : am_M) (f : Nat → Int32) (n : Nat) : am_M := am_set (am_set σ 55 f) 34 (upd (σ.1 34) 27 (nI n))
theorem R2_55 (σ : am_M) (f : Nat → Int32) (n : Nat) : (R2 σ f n).1 55 = f := by unfold R2; rw [s_ne _ _ (by decide), s_eq]
theorem R2_n (σ : am_M) (f : Nat → Int32) (n : Nat) : (R2 σ f n).1 34 27 = nI n := by unfold R2; rw [s_eq]; exact if_pos rfl
theorem R2_f (σ : am_M) (f : Nat → Int32) (n : Nat) {j : Nat} (h : j ≠ 27) : (R2 σ f n).1 34 j = σ.1 34 j := by unfold R2; rw [s_eq]; exact if_neg h
theorem R2_o (σ : am_M) (f : Nat → Int32) (n : Nat) {a : Nat} (h1 : a ≠ 55) (h2 : a ≠ 34) : (R2 σ f n).1 a = σ.1 a := by unfold R2; rw [s_ne _ _ h2, s_ne _ _ h1]
theorem R2_J (σ : am_M) (f : Nat → Int32) (n : Nat) : (R2 σ f n).2 = σ.2 := rfl
theorem R2_sm (σ : am_M) (f : Nat → Int32) (n : Nat) : Sm σ (R2 σ f n) := by
  refine ⟨fun a ha hb => R2_o _ _ _ (fun e => ha (by rw [e]; decide)) hb, fun j hj hk => R2_f _ _ _ hk, fun a _ => rfl⟩
theorem R2_0 (σ : am_M) (n : Nat) : am_wI σ 34 27 (nI n) = R2 σ (σ.1 55) n := by
  unfold R2; rw [s_self, am_wI_s]
theorem R2_w (σ : am_M) (f : Nat → Int32) (n i m : Nat) (v : Int32) : am_wI (am_wI (R2 σ f n) 55 i v) 34 27 (nI m) = R2 σ (upd f i v) m := by
  rw [am_wI_s, am_wI_s, R2_55, s_ne _ _ (show (34 : Nat) ≠ 55 by decide)]
  unfold R2 am_set va_up
  simp only [Prod.mk.injEq, and_true]
  funext b
  by_cases h1 : b = 34
  · subst h1
    simp only [if_true]
    funext j
    unfold upd
    by_cases h2 : j = 27
    · simp [h2]
    · simp [h2]
  · by_cases h2 : b = 55
    · subst h2; simp
    · simp [h1, h2]
/-- key k is in the set -/
abbrev mS (f : Nat → Int32) (n k : Nat) : Prop := ext (fun i => f i = nI k) 0 n = true
theorem mS_iff {f : Nat → Int32} {n k : Nat} : mS f n k ↔ ∃ i, i < n ∧ f i = nI k := by
  unfold mS
  rw [ext_iff]
  constructor
  · rintro ⟨j, _, h1, h2⟩; exact ⟨j, by omega, h2⟩
  · rintro ⟨j, h1, h2⟩; exact ⟨j, by omega, by omega, h2⟩
/-- n different keys -/
abbrev ST (kc : Nat) (f : Nat → Int32) (n : Nat) : Prop := (∀ i, i < n → ∃ k, 1 ≤ k ∧ k ≤ kc ∧ f i = nI k) ∧ n = cnt (mS f n) 1 kc
theorem ST.le {kc : Nat} {f : Nat → Int32} {n : Nat} (h : ST kc f n) : n ≤ kc := by
  have := cnt_le (mS f n) kc 1
  have h2 := h.2
  omega
theorem ST.nil {kc : Nat} (f : Nat → Int32) : ST kc f 0 := by
  refine ⟨fun i hi => by omega, ?_⟩
  have : ∀ n i, cnt (mS f 0) i n = 0 := by
    intro n
    induction n with
    | zero => intro i; rfl
    | succ n ih => intro i; rw [cnt, ih, if_neg (fun z => by rw [mS_iff] at z; obtain ⟨i, hi, _⟩ := z; omega)]
  exact (this kc 1).symm
theorem mS_0 {f : Nat → Int32} {k : Nat} : ¬ mS f 0 k := fun z => by rw [mS_iff] at z; obtain ⟨i, hi, _⟩ := z; omega
theorem mS_add {kc : Nat} (hk : kc ≤ 1801) {f : Nat → Int32} {n k j : Nat} (h2 : k ≤ kc) (h3 : j ≤ kc) : mS (upd f n (nI k)) (n + 1) j ↔ mS f n j ∨ j = k := by
  rw [mS_iff, mS_iff]
  constructor
  · rintro ⟨i, a, b⟩
    by_cases e : i = n
    · rw [e, show upd f n (nI k) n = nI k from if_pos rfl] at b
      exact Or.inr (nI_inj (by omega) (by omega) b).symm
    · rw [show upd f n (nI k) i = f i from if_neg e] at b
      exact Or.inl ⟨i, by omega, b⟩
  · rintro (⟨i, a, b⟩ | e)
    · exact ⟨i, by omega, by rw [show upd f n (nI k) i = f i from if_neg (by omega)]; exact b⟩
    · exact ⟨n, by omega, by rw [e]; exact if_pos rfl⟩
theorem ST.add {kc : Nat} (hk : kc ≤ 1801) {f : Nat → Int32} {n k : Nat} (h : ST kc f n) (h1 : 1 ≤ k) (h2 : k ≤ kc) (hn : ¬ mS f n k) : ST kc (upd f n (nI k)) (n + 1) := by
  refine ⟨fun i hi => ?_, ?_⟩
  · by_cases e : i = n
    · rw [e]; exact ⟨k, h1, h2, if_pos rfl⟩
    · rw [show upd f n (nI k) i = f i from if_neg e]; exact h.1 i (by omega)
  · have e1 : cnt (mS (upd f n (nI k)) (n + 1)) 1 kc = cnt (fun j => mS f n j ∨ j = k) 1 kc := cnt_c kc 1 (fun j a b => mS_add hk h2 (by omega))
    rw [e1, cnt_ins hn (fun j => Iff.rfl) kc 1 h1 (by omega), ← h.2]
/-- the set grew, or is as it was -/
abbrev Gw (kc : Nat) (f : Nat → Int32) (n : Nat) (f' : Nat → Int32) (n' : Nat) : Prop := n ≤ n' ∧ (n' = n → f' = f) ∧ ∀ j, 1 ≤ j → j ≤ kc → mS f n j → mS f' n' j
theorem Gw.refl {kc : Nat} (f : Nat → Int32) (n : Nat) : Gw kc f n f n := ⟨Nat.le_refl _, fun _ => rfl, fun _ _ _ z => z⟩
theorem Gw.trans {kc : Nat} {f f' f'' : Nat → Int32} {n n' n'' : Nat} (h1 : Gw kc f n f' n') (h2 : Gw kc f' n' f'' n'') : Gw kc f n f'' n'' := by
  have a := h1.1
  have b := h2.1
  exact ⟨by omega, fun e => (h2.2.1 (by omega)).trans (h1.2.1 (by omega)), fun j k1 k2 z => h2.2.2 j k1 k2 (h1.2.2 j k1 k2 z)⟩
variable (d : Nat) {c kc md rc td : Nat} {lev rk : Nat → Nat} {σ : am_M} {f : Nat → Int32} {n : Nat}
theorem y195 (hn : n ≤ 2500) (x : Int32) : am_ex (d + 1) 195 [.ref 34, .int x] (R2 σ f n) = rI (bz (ext (fun i => f i = x) 0 n = true)) (R2 σ f n) := by
  rw [e195, q195_0]
  have := lp_ext (fun i => f i = x) 0 n (by omega) (fun i => am_go am_X0 (am_ex d) M195 2 [.ref 34, .int x, .int (nI i)] [] (R2 σ f n)) (rI (nI 1) (R2 σ f n)) (rI (nI 0) (R2 σ f n)) ?_ ?_
  · refine Eq.trans this ?_
    rw [Nat.sub_zero]
    by_cases e : ext (fun i => f i = x) 0 n = true
    · rw [if_pos e, bz_t e]
    · rw [if_neg e, bz_f e]
  · show am_go am_X0 (am_ex d) M195 2 [.ref 34, .int x, .int (nI n)] [] (R2 σ f n) = _
    rw [q195_2, R2_n, if_pos (by rw [i_le]; exact Int.le_refl _)]
  · intro i _ hi
    show am_go am_X0 (am_ex d) M195 2 [.ref 34, .int x, .int (nI i)] [] (R2 σ f n) = if f i = x then rI (nI 1) (R2 σ f n) else am_go am_X0 (am_ex d) M195 2 [.ref 34, .int x, .int (nI (i + 1))] [] (R2 σ f n)
    rw [q195_2, R2_n, if_neg (by rw [i_le, i_n (by omega), i_n (by omega)]; omega), if_pos (am_k (by omega) (by omega)), i_cl (by omega), R2_55, show nI i + nI 1 = nI (i + 1) from nI_1 _]
theorem y196 (hk : kc ≤ 1801) (h : ST kc f n) {k : Nat} (h1 : 1 ≤ k) (h2 : k ≤ kc) : ∃ f' n', am_ex (d + 2) 196 [.ref 34, .int (nI k)] (R2 σ f n) = rV (R2 σ f' n') ∧ ST kc f' n' ∧ Gw kc f n f' n' ∧ ∀ j, 1 ≤ j → j ≤ kc → (mS f' n' j ↔ mS f n j ∨ j = k) := by
  have hle := h.le
  by_cases e : mS f n k
  · refine ⟨f, n, ?_, h, Gw.refl f n, fun j _ _ => ⟨Or.inl, fun z => z.elim id (fun q => by rw [q]; exact e)⟩⟩
    rw [e196, q196_0, y195 d (by omega), bI_r, bz_t e, if_neg n10]
  · refine ⟨upd f n (nI k), n + 1, ?_, h.add hk h1 h2 e, ⟨by omega, fun z => by omega, fun j k1 k2 z => (mS_add hk h2 k2).mpr (Or.inl z)⟩, fun j k1 k2 => mS_add hk h2 k2⟩
    have e3 : (am_wI (R2 σ f n) 55 n (nI k)).1 34 27 = nI n := by rw [am_wI_s, s_ne _ _ (by decide), R2_n]
    rw [e196, q196_0, y195 d (by omega), bI_r, bz_f e, if_pos rfl, R2_n, if_pos (am_k (by omega) (by omega)), i_cl (by omega), e3, show nI n + nI 1 = nI (n + 1) from nI_1 _, R2_w]
/-- reads of the reference's entries -/
theorem Inv0.st0 (h : Inv0 c kc md rc td lev rk σ) {m : Nat} (hm : m < md) (hz : 0 < zn (σ.1 21) m) : ¬ σ.1 44 m = nI 2 := by
  rw [(h.mdm m hm).1]
  obtain ⟨_, h2, h3⟩ := h.core.med m hm
  rcases h3 with e | e | ⟨_, e⟩
  · rw [e]; decide
  · rw [e]; decide
  · have := zn_0 e; omega
theorem Inv0.s45 (h : Inv0 c kc md rc td lev rk σ) {m : Nat} (hm : m < md) : σ.1 45 m = nI (zn (σ.1 21) m) := by
  rw [(h.mdm m hm).2]; exact (h.core.med m hm).2.1
theorem mx150 (m : Nat) : nI 150 * nI m = nI (m * 150) := by rw [pk_mul, Nat.mul_comm]
/-- the keys around record r, one medium -/
theorem y197i (h : Inv0 c kc md rc td lev rk σ) {m r : Nat} (hm : m < md) (hr : r < rc) (hS : ST kc f n) : ∃ f' n', am_go am_X0 (am_ex (d + 2)) M197 16 [.ref 34, .int (nI r), .int (nI m), .int (nI (m * 150))] [] (R2 σ f n) = am_go am_X0 (am_ex (d + 2)) M197 2 [.ref 34, .int (nI r), .int (nI (m + 1)), .int (nI (m * 150 + zn (σ.1 21) m))] [] (R2 σ f' n') ∧ ST kc f' n' ∧ ∀ j, 1 ≤ j → j ≤ kc → (mS f' n' j ↔ mS f n j ∨ RcE kc rc σ m (m + 1) r j) := by
  have hkl := h.kl
  have hmb := h.core.mdb
  have hrb := h.core.rcb
  obtain ⟨hz1, hz2, _⟩ := h.core.med m hm
  obtain ⟨⟨f', n'⟩, e1, s1, i1⟩ := lp_inv (fun i (p : (Nat → Int32) × Nat) => ST kc p.1 p.2 ∧ ∀ j, 1 ≤ j → j ≤ kc → (mS p.1 p.2 j ↔ mS f n j ∨ ∃ i', i' < i ∧ σ.1 22 (m * 150 + i') = nI 1 ∧ σ.1 23 (m * 150 + i') = nI r ∧ σ.1 24 (m * 150 + i') = nI j)) 0 (zn (σ.1 21) m) (by omega) (fun i p => am_go am_X0 (am_ex (d + 2)) M197 16 [.ref 34, .int (nI r), .int (nI m), .int (nI (m * 150 + i))] [] (R2 σ p.1 p.2)) (by
    rintro i ⟨f1, n1⟩ _ hi ⟨s1, i1⟩
    have s1 : ST kc f1 n1 := s1
    have i1 : ∀ j, 1 ≤ j → j ≤ kc → (mS f1 n1 j ↔ mS f n j ∨ ∃ i', i' < i ∧ σ.1 22 (m * 150 + i') = nI 1 ∧ σ.1 23 (m * 150 + i') = nI r ∧ σ.1 24 (m * 150 + i') = nI j) := i1
    have ha : m * 150 + i < 1200 := by omega
    have hrun : am_go am_X0 (am_ex (d + 2)) M197 16 [.ref 34, .int (nI r), .int (nI m), .int (nI (m * 150 + i))] [] (R2 σ f1 n1) = if σ.1 22 (m * 150 + i) = nI 1 then (if σ.1 23 (m * 150 + i) = nI r then am_bV (am_ex (d + 2) 196 [.ref 34, .int (σ.1 24 (m * 150 + i))] (R2 σ f1 n1)) (fun t1 => am_go am_X0 (am_ex (d + 2)) M197 16 [.ref 34, .int (nI r), .int (nI m), .int (nI (m * 150 + (i + 1)))] [] t1) else am_go am_X0 (am_ex (d + 2)) M197 16 [.ref 34, .int (nI r), .int (nI m), .int (nI (m * 150 + (i + 1)))] [] (R2 σ f1 n1)) else am_go am_X0 (am_ex (d + 2)) M197 16 [.ref 34, .int (nI r), .int (nI m), .int (nI (m * 150 + (i + 1)))] [] (R2 σ f1 n1) := by
      rw [q197_16, if_pos (am_k (by omega) (by omega)), i_cl (by omega), R2_o _ _ _ (by decide) (by decide), if_neg (h.st0 hm (by omega)), if_pos (am_k (by omega) (by omega)), R2_o _ _ _ (by decide) (by decide), h.s45 hm, mx150, nI_add, if_neg (by rw [i_le, i_n (by omega), i_n (by omega)]; omega), if_pos (am_k (by omega) (by omega)), i_cl (by omega), R2_o _ _ _ (by decide) (by decide), h.e46, if_pos (am_k (by omega) (by omega)), R2_o _ _ _ (by decide) (by decide), h.e47, if_pos (am_k (by omega) (by omega)), R2_o _ _ _ (by decide) (by decide), h.e48, show nI (m * 150 + i) + nI 1 = nI (m * 150 + (i + 1)) from nI_1 _]
    have fin : ∀ f2 n2, ST kc f2 n2 → (∀ j, 1 ≤ j → j ≤ kc → (mS f2 n2 j ↔ mS f1 n1 j ∨ (σ.1 22 (m * 150 + i) = nI 1 ∧ σ.1 23 (m * 150 + i) = nI r ∧ σ.1 24 (m * 150 + i) = nI j))) → am_go am_X0 (am_ex (d + 2)) M197 16 [.ref 34, .int (nI r), .int (nI m), .int (nI (m * 150 + i))] [] (R2 σ f1 n1) = am_go am_X0 (am_ex (d + 2)) M197 16 [.ref 34, .int (nI r), .int (nI m), .int (nI (m * 150 + (i + 1)))] [] (R2 σ f2 n2) → ∃ p : (Nat → Int32) × Nat, am_go am_X0 (am_ex (d + 2)) M197 16 [.ref 34, .int (nI r), .int (nI m), .int (nI (m * 150 + i))] [] (R2 σ f1 n1) = am_go am_X0 (am_ex (d + 2)) M197 16 [.ref 34, .int (nI r), .int (nI m), .int (nI (m * 150 + (i + 1)))] [] (R2 σ p.1 p.2) ∧ ST kc p.1 p.2 ∧ ∀ j, 1 ≤ j → j ≤ kc → (mS p.1 p.2 j ↔ mS f n j ∨ ∃ i', i' < i + 1 ∧ σ.1 22 (m * 150 + i') = nI 1 ∧ σ.1 23 (m * 150 + i') = nI r ∧ σ.1 24 (m * 150 + i') = nI j) := by
      intro f2 n2 a1 a2 a3
      refine ⟨(f2, n2), a3, a1, fun j k1 k2 => ?_⟩
      show mS f2 n2 j ↔ _
      rw [a2 j k1 k2, i1 j k1 k2]
      constructor
      · rintro ((b | ⟨i', b1, b2⟩) | b)
        · exact Or.inl b
        · exact Or.inr ⟨i', by omega, b2⟩
        · exact Or.inr ⟨i, by omega, b⟩
      · rintro (b | ⟨i', b1, b2⟩)
        · exact Or.inl (Or.inl b)
        · by_cases e : i' = i
          · subst e; exact Or.inr b2
          · exact Or.inl (Or.inr ⟨i', by omega, b2⟩)
    show ∃ p : (Nat → Int32) × Nat, am_go am_X0 (am_ex (d + 2)) M197 16 [.ref 34, .int (nI r), .int (nI m), .int (nI (m * 150 + i))] [] (R2 σ f1 n1) = am_go am_X0 (am_ex (d + 2)) M197 16 [.ref 34, .int (nI r), .int (nI m), .int (nI (m * 150 + (i + 1)))] [] (R2 σ p.1 p.2) ∧ _
    by_cases b1 : σ.1 22 (m * 150 + i) = nI 1
    · by_cases b2 : σ.1 23 (m * 150 + i) = nI r
      · rcases h.core.ent m hm i hi with ⟨a1, _⟩ | ⟨a1, r', k, a2, a3, a4, a5, a6, a7, a8⟩
        · rw [a1] at b1; exact absurd b1.symm n10
        · obtain ⟨f2, n2, c1, c2, c3, c4⟩ := y196 d (σ := σ) hkl s1 a3 a4
          refine fin f2 n2 c2 (fun j k1 k2 => ?_) ?_
          · rw [c4 j k1 k2]
            refine ⟨fun z => z.imp id (fun q => ⟨b1, b2, by rw [q]; exact a6⟩), fun z => z.imp id (fun q => ?_)⟩
            have := q.2.2
            rw [a6] at this
            exact (nI_inj (by omega) (by omega) this).symm
          · rw [hrun, if_pos b1, if_pos b2, a6, c1, bV_r]
      · refine fin f1 n1 s1 (fun j k1 k2 => ⟨Or.inl, fun z => z.elim id (fun q => absurd q.2.1 b2)⟩) ?_
        rw [hrun, if_pos b1, if_neg b2]
    · refine fin f1 n1 s1 (fun j k1 k2 => ⟨Or.inl, fun z => z.elim id (fun q => absurd q.1 b1)⟩) ?_
      rw [hrun, if_neg b1]) (f, n) ⟨hS, fun j _ _ => ⟨Or.inl, fun z => z.elim id (fun ⟨i', b, _⟩ => by omega)⟩⟩
  have e1 : am_go am_X0 (am_ex (d + 2)) M197 16 [.ref 34, .int (nI r), .int (nI m), .int (nI (m * 150))] [] (R2 σ f n) = am_go am_X0 (am_ex (d + 2)) M197 16 [.ref 34, .int (nI r), .int (nI m), .int (nI (m * 150 + zn (σ.1 21) m))] [] (R2 σ f' n') := e1
  refine ⟨f', n', ?_, s1, fun j k1 k2 => ?_⟩
  · rw [e1, q197_16, if_pos (am_k (by omega) (by omega)), i_cl (by omega), if_pos (am_k (by omega) (by omega)), R2_o _ _ _ (show (45 : Nat) ≠ 55 by decide) (by decide), h.s45 hm, mx150, nI_add (m * 150) (zn (σ.1 21) m), if_pos (show nI (m * 150 + zn (σ.1 21) m) ≤ nI (m * 150 + zn (σ.1 21) m) by rw [i_le]; exact Int.le_refl _), show nI m + nI 1 = nI (m + 1) from nI_1 _, ite_self]
  · refine (i1 j k1 k2).trans ?_
    constructor
    · rintro (b | ⟨i', b1, b2, b3, b4⟩)
      · exact Or.inl b
      · exact Or.inr ⟨m, i', by omega, by omega, b1, b2, b3, b4, hr, k1, k2⟩
    · rintro (b | ⟨m', i', j1, j2, j3, j4, j5, j6, j7, j8, j9⟩)
      · exact Or.inl b
      · have hmm : m' = m := by omega
        subst hmm
        exact Or.inr ⟨i', j3, j4, j5, j6⟩
theorem y197 (h : Inv0 c kc md rc td lev rk σ) {r : Nat} (hr : r < rc) (hS : ST kc f n) : ∃ f' n', am_ex (d + 3) 197 [.ref 34, .int (nI r)] (R2 σ f n) = rV (R2 σ f' n') ∧ ST kc f' n' ∧ ∀ j, 1 ≤ j → j ≤ kc → (mS f' n' j ↔ mS f n j ∨ RcE kc rc σ 0 md r j) := by
  have hmb := h.core.mdb
  obtain ⟨⟨f', n', u⟩, e1, hu, s1, i1⟩ := lp_inv (fun m (p : (Nat → Int32) × Nat × Value) => (!(p.2.2.category == 2)) = true ∧ ST kc p.1 p.2.1 ∧ ∀ j, 1 ≤ j → j ≤ kc → (mS p.1 p.2.1 j ↔ mS f n j ∨ RcE kc rc σ 0 m r j)) 0 md (by omega) (fun m p => am_go am_X0 (am_ex (d + 2)) M197 2 [.ref 34, .int (nI r), .int (nI m), p.2.2] [] (R2 σ p.1 p.2.1)) (by
    rintro m ⟨f1, n1, u⟩ _ hm ⟨hu, s1, i1⟩
    obtain ⟨f2, n2, k1, k2, k3⟩ := y197i d (n := n1) (f := f1) h hm hr s1
    refine ⟨(f2, n2, .int (nI (m * 150 + zn (σ.1 21) m))), ?_, rfl, k2, fun j j1 j2 => ?_⟩
    · show am_go am_X0 (am_ex (d + 2)) M197 2 [.ref 34, .int (nI r), .int (nI m), u] [] (R2 σ f1 n1) = am_go am_X0 (am_ex (d + 2)) M197 2 [.ref 34, .int (nI r), .int (nI (m + 1)), .int (nI (m * 150 + zn (σ.1 21) m))] [] (R2 σ f2 n2)
      rw [q197_2 _ _ _ _ hu, R2_f _ _ _ (by decide), h.hm', if_neg (by rw [i_le, i_n (by omega), i_n (by omega)]; omega), mx150, k1]
    · show mS f2 n2 j ↔ _
      rw [k3 j j1 j2]
      have := i1 j j1 j2
      constructor
      · rintro (b | b)
        · rcases this.mp b with b | b
          · exact Or.inl b
          · obtain ⟨m', i', q1, q2, q3⟩ := b
            exact Or.inr ⟨m', i', q1, by omega, q3⟩
        · exact Or.inr (RcE_w b (by omega) (by omega))
      · rintro (b | b)
        · exact Or.inl (this.mpr (Or.inl b))
        · rcases RcE_s b with b | b
          · exact Or.inl (this.mpr (Or.inr b))
          · exact Or.inr b) (f, n, .null) ⟨rfl, hS, fun j _ _ => ⟨Or.inl, fun z => z.elim id (fun b => absurd b RcE_0)⟩⟩
  have e1 : am_go am_X0 (am_ex (d + 2)) M197 2 [.ref 34, .int (nI r), .int (nI 0), .null] [] (R2 σ f n) = am_go am_X0 (am_ex (d + 2)) M197 2 [.ref 34, .int (nI r), .int (nI md), u] [] (R2 σ f' n') := e1
  refine ⟨f', n', ?_, s1, i1⟩
  rw [e197, q197_0, e1, q197_2 _ _ _ _ hu, R2_f _ _ _ (by decide), h.hm', if_pos (by rw [i_le]; exact Int.le_refl _)]
end SET
