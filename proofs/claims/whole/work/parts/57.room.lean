/-! room for entries; a new key for a place: both sides -/
section ROO
variable (d : Nat) (σ : am_M) {c kc md rc td : Nat} {lev rk : Nat → Nat}
/-- the medium that is written on has room for n entries -/
abbrev rmO (σ : am_M) (v : Int32) (n : Nat) : Prop := n = 0 ∨ (¬ v = -1 ∧ zn (σ.1 21) v.toNatClampNeg + n ≤ 150)
abbrev rmP (σ : am_M) (md n : Nat) : Prop := rmO σ (wrt (σ.1 20) (-1) md) n
theorem x147 (h : Inv0 c kc md rc td lev rk σ) {v : Int32} (hv : v = -1 ∨ ∃ t, t < md ∧ v = nI t ∧ σ.1 20 t = nI 0) {n : Nat} (hn : n < 1000) : am_ex (d + 3) 147 [.ref 0, .int v, .int (nI n)] σ = if rmO σ v n then rV σ else rX xIS (am_tick σ) := by
  have hmb := h.core.mdb
  rw [e147, q147_0, x37 _ σ h.hm hmb.2, bI_r]
  rcases hv with hv | ⟨t, ht, hv, hst⟩
  · subst hv
    rw [show (if inR (-1) md ∧ σ.1 20 (-1 : Int32).toNatClampNeg = nI 0 then nI 150 - σ.1 21 (-1 : Int32).toNatClampNeg else nI 0) = nI 0 from if_neg (fun z => inR_m z.1)]
    by_cases h0 : n = 0
    · rw [if_pos (show nI n ≤ nI 0 by rw [h0]; exact le00), if_pos (Or.inl h0)]
    · rw [if_neg (show ¬ nI n ≤ nI 0 by rw [i_le, i_n (by omega), i_n (by omega)]; omega), if_neg (show ¬ rmO σ (-1) n from fun z => z.elim h0 (fun q => q.1 rfl))]
  · subst hv
    obtain ⟨hz1, hz2, _⟩ := h.core.med t ht
    have e : (if inR (nI t) md ∧ σ.1 20 (nI t).toNatClampNeg = nI 0 then nI 150 - σ.1 21 (nI t).toNatClampNeg else nI 0) = nI (150 - zn (σ.1 21) t) := by
      rw [i_cl (by omega), if_pos ⟨inR_n ht (by omega), hst⟩, ← nI_sub (by omega) (by omega), ← hz2]
    rw [e]
    by_cases hr : rmO σ (nI t) n
    · have hle : nI n ≤ nI (150 - zn (σ.1 21) t) := by
        rw [i_le, i_n (by omega), i_n (by omega)]
        rcases hr with hr | ⟨_, hr⟩
        · omega
        · rw [i_cl (by omega)] at hr; omega
      rw [if_pos hr, if_pos hle]
    · have hle : ¬ nI n ≤ nI (150 - zn (σ.1 21) t) := fun z => hr (by
        rw [i_le, i_n (by omega), i_n (by omega)] at z
        exact Or.inr ⟨nI_nm (by omega), by rw [i_cl (by omega)]; omega⟩)
      rw [if_neg hr, if_neg hle]
theorem wrt_o (h : Inv0 c kc md rc td lev rk σ) (b : Int32) : wrt (σ.1 20) b md = -1 ∨ ∃ t, t < md ∧ wrt (σ.1 20) b md = nI t ∧ σ.1 20 t = nI 0 :=
  (wrt_m (st := σ.1 20) (but := b) (md := md)).imp id (fun ⟨t, h1, h2, h3, _⟩ => ⟨t, h1, h2, h3⟩)
theorem x146 (h : Inv0 c kc md rc td lev rk σ) {n : Nat} (hn : n < 1000) : am_ex (d + 4) 146 [.ref 0, .int (nI n)] σ = if rmP σ md n then rV σ else rX xIS (am_tick σ) := by
  have hkl := h.kl
  rw [e146, q146_0, x38 _ σ h.hm h.core.mdb.2, bI_r, x147 _ σ h (wrt_o σ h (-1)) hn]
  by_cases hr : rmP σ md n
  · rw [if_pos hr, bV_r, x25 _ σ h.hk (by omega), bI_r, if_neg n10]
  · rw [if_neg hr, bV_x]
theorem y187r (h : Inv0 c kc md rc td lev rk σ) {v : Int32} (hv : v = -1 ∨ ∃ t, t < md ∧ v = nI t ∧ σ.1 20 t = nI 0) {n : Nat} (hn : n < 1000) : am_ex (d + 1) 187 [.ref 34, .int v, .int (nI n)] σ = rI (bz (rmO σ v n)) σ := by
  rcases hv with hv | ⟨t, ht, hv, hst⟩
  · subst hv
    rw [y187n _ _ _ hn]
    rw [bz_c (show n = 0 ↔ rmO σ (-1) n from ⟨Or.inl, fun z => z.elim id (fun q => absurd rfl q.1)⟩)]
  · subst hv
    have hmb := h.core.mdb
    obtain ⟨hz1, hz2, _⟩ := h.core.med t ht
    rw [y187 d σ (md := md) hmb.2 ht (by rw [(h.mdm t ht).2]; exact hz2) hz1 hn]
    rw [bz_c (show zn (σ.1 21) t + n ≤ 150 ∨ n = 0 ↔ rmO σ (nI t) n from ⟨fun z => z.elim (fun q => Or.inr ⟨nI_nm (by omega), by rw [i_cl (by omega)]; exact q⟩) Or.inl, fun z => z.elim Or.inr (fun q => Or.inl (by have := q.2; rw [i_cl (by omega)] at this; exact this))⟩)]
theorem rm_sm {σ τ : am_M} (hs : Sm σ τ) (md n : Nat) : rmP τ md n ↔ rmP σ md n := by
  unfold rmP rmO
  rw [hs.i 20 (by decide) (by decide), hs.i 21 (by decide) (by decide)]
/-- if there is room for some, there is a medium to write on -/
theorem rm_Wr (h : Inv0 c kc md rc td lev rk σ) {n : Nat} (hr : rmP σ md n) (h0 : 0 < n) : ∃ t s, Wr md t s σ ∧ s + n ≤ 150 := by
  have hmb := h.core.mdb
  rcases wrt_o σ h (-1) with e | ⟨t, ht, e, hst⟩
  · rcases hr with hr | hr
    · omega
    · exact absurd e hr.1
  · refine ⟨t, zn (σ.1 21) t, ⟨ht, e, hst, rfl⟩, ?_⟩
    rcases hr with hr | hr
    · omega
    · have := hr.2
      rw [e, i_cl (by omega)] at this
      exact this
/-- how many children a place has -/
abbrev chN (n : Nat → Int32) (p : Nat) : Nat := cnt (fun i => ¬ n (4 * p + 1 + i) = nI 0) 0 4
theorem x89 {p : Nat} (hp : p < 21) : am_ex (d + 4) 89 [.ref 3, .int (nI p)] σ = rI (nI (chN (σ.1 16) p)) σ := by
  rw [e89, q89_0, x167, nI_r]
  refine lp_cnt0 (fun i => ¬ σ.1 16 (4 * p + 1 + i) = nI 0) 0 4 (by omega) (fun i n => am_go am_X0 (am_ex (d + 3)) M89 10 [.ref 3, .int (nI p), .int (nI (4 * p + 1)), .int (nI n), .int (nI (4 * p + 1 + i))] [] σ) (fun n => rI (nI n) σ) ?_ ?_
  · intro n
    show am_go am_X0 (am_ex (d + 3)) M89 10 [.ref 3, .int (nI p), .int (nI (4 * p + 1)), .int (nI n), .int (nI (4 * p + 1 + 4))] [] σ = _
    rw [q89_10, nI_add, if_pos (by rw [i_le]; exact Int.le_refl _)]
  · intro i n _ hi
    show am_go am_X0 (am_ex (d + 3)) M89 10 [.ref 3, .int (nI p), .int (nI (4 * p + 1)), .int (nI n), .int (nI (4 * p + 1 + i))] [] σ = am_go am_X0 (am_ex (d + 3)) M89 10 [.ref 3, .int (nI p), .int (nI (4 * p + 1)), .int (nI _), .int (nI (4 * p + 1 + (i + 1)))] [] σ
    rw [q89_10, nI_add, if_neg (by rw [i_le, i_n (by omega), i_n (by omega)]; omega), x78, bI_r]
    simp only [bz_0]
    rw [rd_n (by omega) (by omega), show nI (4 * p + 1 + i) + nI 1 = nI (4 * p + 1 + (i + 1)) from nI_1 _, show nI n + nI 1 = nI (n + 1) from nI_1 _]
    by_cases hz : σ.1 16 (4 * p + 1 + i) = nI 0
    · rw [if_pos (fun z => z hz), if_neg (fun z => z hz)]
    · rw [if_neg (fun z => z hz), if_pos hz]
theorem y231 {p : Nat} (hp : p < 21) : am_ex (d + 1) 231 [.ref 34, .int (nI p)] σ = rI (nI (chN (σ.1 35) p)) σ := by
  rw [e231, q231_0, pk_mul, nI_add]
  refine lp_cnt0 (fun i => ¬ σ.1 35 (4 * p + 1 + i) = nI 0) 0 4 (by omega) (fun i n => am_go am_X0 (am_ex d) M231 8 [.ref 34, .int (nI p), .int (nI n), .int (nI (4 * p + 1 + i))] [] σ) (fun n => rI (nI n) σ) ?_ ?_
  · intro n
    show am_go am_X0 (am_ex d) M231 8 [.ref 34, .int (nI p), .int (nI n), .int (nI (4 * p + 1 + 4))] [] σ = _
    rw [q231_8, pk_mul, nI_add, if_pos (by rw [i_lt, i_n (by omega), i_n (by omega)]; omega)]
  · intro i n _ hi
    show am_go am_X0 (am_ex d) M231 8 [.ref 34, .int (nI p), .int (nI n), .int (nI (4 * p + 1 + i))] [] σ = am_go am_X0 (am_ex d) M231 8 [.ref 34, .int (nI p), .int (nI _), .int (nI (4 * p + 1 + (i + 1)))] [] σ
    rw [q231_8, pk_mul, nI_add, if_neg (by rw [i_lt, i_n (by omega), i_n (by omega)]; omega), if_pos (am_k (by omega) (by omega)), i_cl (by omega), show nI (4 * p + 1 + i) + nI 1 = nI (4 * p + 1 + (i + 1)) from nI_1 _, show nI n + nI 1 = nI (n + 1) from nI_1 _, show nI n + nI 0 = nI n from nI_add n 0]
    by_cases hz : σ.1 35 (4 * p + 1 + i) = nI 0
    · rw [if_pos hz, if_neg (fun z => z hz)]
    · rw [if_neg hz, if_pos hz]
theorem cnt_0 {P : Nat → Prop} [DecidablePred P] : ∀ n i, cnt P i n = 0 → ∀ j, i ≤ j → j < i + n → ¬ P j := by
  intro n
  induction n with
  | zero => intro i _ j h1 h2; omega
  | succ n ih =>
    intro i h j h1 h2
    rw [cnt] at h
    by_cases e : j = i
    · subst e
      intro hp
      rw [if_pos hp] at h
      omega
    · exact ih (i + 1) (by split at h <;> omega) j (by omega) (by omega)
/-- a place without children: nothing is wrapped -/
theorem wch0 {p : Nat} (hp : p < 21) : (chN (σ.1 16) p = 0 → am_ex (d + 5) 152 [.ref 0, .int (nI p)] σ = rV σ) ∧ (chN (σ.1 35) p = 0 → am_ex (d + 1) 232 [.ref 34, .int (nI p)] σ = rV σ) := by
  constructor
  · intro h
    rw [e152, q152_0, x167, bI_r]
    have := lp_mem 0 4 (by omega) (fun i => am_go am_X0 (am_ex (d + 4)) M152 7 [.ref 0, .int (nI p), .int (nI (4 * p + 1)), .int (nI (4 * p + 1 + i))] [] σ) ?_
    · refine Eq.trans this ?_
      show am_go am_X0 (am_ex (d + 4)) M152 7 [.ref 0, .int (nI p), .int (nI (4 * p + 1)), .int (nI (4 * p + 1 + 4))] [] σ = _
      rw [q152_7, nI_add, if_pos (by rw [i_le]; exact Int.le_refl _)]
    · intro i _ hi
      show am_go am_X0 (am_ex (d + 4)) M152 7 [.ref 0, .int (nI p), .int (nI (4 * p + 1)), .int (nI (4 * p + 1 + i))] [] σ = am_go am_X0 (am_ex (d + 4)) M152 7 [.ref 0, .int (nI p), .int (nI (4 * p + 1)), .int (nI (4 * p + 1 + (i + 1)))] [] σ
      have hz := cnt_0 _ _ h i (by omega) (by omega)
      rw [q152_7, nI_add, if_neg (by rw [i_le, i_n (by omega), i_n (by omega)]; omega), x78, bI_r]
      simp only [bz_0]
      rw [rd_n (by omega) (by omega), if_pos hz, show nI (4 * p + 1 + i) + nI 1 = nI (4 * p + 1 + (i + 1)) from nI_1 _]
  · intro h
    rw [e232, q232_0, pk_mul, nI_add]
    have := lp_mem 0 4 (by omega) (fun i => am_go am_X0 (am_ex d) M232 6 [.ref 34, .int (nI p), .int (nI (4 * p + 1 + i))] [] σ) ?_
    · refine Eq.trans this ?_
      show am_go am_X0 (am_ex d) M232 6 [.ref 34, .int (nI p), .int (nI (4 * p + 1 + 4))] [] σ = _
      rw [q232_6, pk_mul, nI_add, if_pos (by rw [i_lt, i_n (by omega), i_n (by omega)]; omega)]
    · intro i _ hi
      show am_go am_X0 (am_ex d) M232 6 [.ref 34, .int (nI p), .int (nI (4 * p + 1 + i))] [] σ = am_go am_X0 (am_ex d) M232 6 [.ref 34, .int (nI p), .int (nI (4 * p + 1 + (i + 1)))] [] σ
      have hz := Decidable.of_not_not (cnt_0 _ _ h i (by omega) (by omega))
      rw [q232_6, pk_mul, nI_add, if_neg (by rw [i_lt, i_n (by omega), i_n (by omega)]; omega), if_pos (am_k (by omega) (by omega)), i_cl (by omega), if_pos hz, show nI (4 * p + 1 + i) + nI 1 = nI (4 * p + 1 + (i + 1)) from nI_1 _]
end ROO
