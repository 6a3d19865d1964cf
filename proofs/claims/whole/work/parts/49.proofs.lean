/-! kept proofs, both sides -/
section PRF
variable (d : Nat) (σ : am_M)
theorem x54 {s : Nat} (hs : s < 4) : am_ex (d + 1) 54 [.ref 9, .int (nI s)] σ = rI (σ.1 32 s) σ := by
  rw [e54, q54_0, if_neg (by rw [i_lt, i_n (by omega), i_n (by omega)]; omega), if_neg (by rw [i_le, i_n (by omega), i_n (by omega)]; omega), if_pos (am_k hs (by omega)), i_cl (by omega)]
theorem x49 {s : Nat} (hs : s < 4) : am_ex (d + 2) 49 [.ref 9, .int (nI s)] σ = rI (bz (¬ σ.1 32 s = -1)) σ := by
  rw [e49, q49_0, x54 _ _ hs, bI_r]
  by_cases h : σ.1 32 s = -1
  · rw [if_pos h, bz_f (fun z => z h)]
  · rw [if_neg h, bz_t h]
theorem x148 {s : Nat} (hs : s < 4) : am_ex (d + 3) 148 [.ref 0, .int (nI s)] σ = if σ.1 32 s = -1 then rX xIS (am_tick σ) else rV σ := by
  rw [e148, q148_0, x49 _ _ hs, bI_r]
  by_cases h : σ.1 32 s = -1
  · rw [if_pos h, bz_f (fun z => z h), if_pos rfl]
  · rw [if_neg h, bz_t h, if_neg n10]
theorem at_13 (s i : Nat) : nI s * nI 13 + nI i = nI (13 * s + i) := by rw [pk_mul, nI_add, Nat.mul_comm]
theorem at_13' (s : Nat) : nI 13 * nI s = nI (13 * s) := by rw [pk_mul]
theorem x50 {s i : Nat} (h : 13 * s + i < 52) : am_ex (d + 1) 50 [.ref 9, .int (nI s), .int (nI i)] σ = rI (σ.1 33 (13 * s + i)) σ := by
  rw [e50, q50_0, at_13, if_neg (by rw [i_lt, i_n (by omega), i_n (by omega)]; omega), if_neg (by rw [i_le, i_n (by omega), i_n (by omega)]; omega), if_pos (am_k h (by omega)), i_cl (by omega)]
theorem x55 {s i : Nat} (h : 13 * s + i < 52) (v : Int32) : am_ex (d + 1) 55 [.ref 9, .int (nI s), .int (nI i), .int v] σ = rV (am_set σ 33 (upd (σ.1 33) (13 * s + i) v)) := by
  rw [e55, q55_0, at_13, if_neg (by rw [i_lt, i_n (by omega), i_n (by omega)]; omega), if_neg (by rw [i_le, i_n (by omega), i_n (by omega)]; omega), if_pos (am_k h (by omega)), i_cl (by omega), am_wI_s]
/-- where a brother's number goes -/
def sb (base pos c : Nat) : Nat := base + c - (if pos < c then 1 else 0)
def sibW (hv : Nat → Int32) (base first pos : Nat) : Nat → (Nat → Int32) → (Nat → Int32) := fun c f => if c = pos then f else upd f (sb base pos c) (hv (first + c))
/-- one level of a proof -/
def rndW (n hv : Nat → Int32) (a b : Nat) (f : Nat → Int32) : Nat → Int32 := fld (sibW hv (a + 1) (4 * par b + 1) (b - (4 * par b + 1))) 0 4 (upd f a (n (par b)))
def prfW (n hv : Nat → Int32) (s k : Nat) (f : Nat → Int32) : Nat → Int32 :=
  rndW n hv (13 * s + 9) (par (par (21 + k))) (rndW n hv (13 * s + 5) (par (21 + k)) (rndW n hv (13 * s + 1) (21 + k) (upd f (13 * s) (hv (21 + k)))))
theorem par_b {b : Nat} (h0 : 0 < b) : 4 * par b + 1 ≤ b ∧ b < 4 * par b + 5 := by unfold par; omega
theorem x51_90 {s i b : Nat} (v2 v5 v6 : Int32) (hv : Nat → Int32) (h0 : 0 < b) (hb : b < 85) (hi : 13 * s + i + 3 < 53) (τ : am_M) (h31 : ∀ p, p < 85 → τ.1 31 p = hv p) (f : Nat → Int32) :
    am_go am_X0 (am_ex (d + 2)) M51 90 [.ref 9, .int (nI s), .int v2, .int (nI b), .int (nI i), .int v5, .int v6, .int (nI (4 * par b + 1)), .int (nI (4 * par b + 1))] [] (am_set τ 33 f) = am_go am_X0 (am_ex (d + 2)) M51 49 [.ref 9, .int (nI s), .int v2, .int v6, .int (nI (i + 3)), .int (v5 + (-1)), .int v6, .int (nI (4 * par b + 1)), .int (nI (4 * par b + 5))] [] (am_set τ 33 (fld (sibW hv (13 * s + i) (4 * par b + 1) (b - (4 * par b + 1))) 0 4 f)) := by
  obtain ⟨hb1, hb2⟩ := par_b h0
  generalize hfi : 4 * par b + 1 = first at *
  generalize hpo : b - first = pos at *
  have := (lp_fld (sibW hv (13 * s + i) first pos) (fun _ _ => True) 0 4 (by omega) (fun c f => am_go am_X0 (am_ex (d + 2)) M51 90 [.ref 9, .int (nI s), .int v2, .int (nI b), .int (nI (sb i pos c)), .int v5, .int v6, .int (nI first), .int (nI (first + c))] [] (am_set τ 33 f)) (fun f => am_go am_X0 (am_ex (d + 2)) M51 49 [.ref 9, .int (nI s), .int v2, .int v6, .int (nI (i + 3)), .int (v5 + (-1)), .int v6, .int (nI first), .int (nI (first + 4))] [] (am_set τ 33 f)) ?_ ?_ f True.intro).1
  · rw [show sb i pos 0 = i by unfold sb; rw [if_neg (by omega)]; omega] at this
    rw [show 4 * par b + 5 = first + 4 by omega]
    exact this
  · intro g _
    show am_go am_X0 (am_ex (d + 2)) M51 90 [.ref 9, .int (nI s), .int v2, .int (nI b), .int (nI (sb i pos 4)), .int v5, .int v6, .int (nI first), .int (nI (first + 4))] [] (am_set τ 33 g) = _
    rw [q51_90, nI_add, if_pos (by rw [i_le]; exact Int.le_refl _), show sb i pos 4 = i + 3 by unfold sb; rw [if_pos (by omega)]; omega]
  · intro c g _ hc _
    refine ⟨?_, True.intro⟩
    show am_go am_X0 (am_ex (d + 2)) M51 90 [.ref 9, .int (nI s), .int v2, .int (nI b), .int (nI (sb i pos c)), .int v5, .int v6, .int (nI first), .int (nI (first + c))] [] (am_set τ 33 g) = am_go am_X0 (am_ex (d + 2)) M51 90 [.ref 9, .int (nI s), .int v2, .int (nI b), .int (nI (sb i pos (c + 1))), .int v5, .int v6, .int (nI first), .int (nI (first + (c + 1)))] [] _
    have hp4 : 4 * par b < 84 := by omega
    rw [q51_90, nI_add, if_neg (by rw [i_le, i_n (by omega), i_n (by omega)]; omega), show nI (first + c) + nI 1 = nI (first + (c + 1)) from nI_1 _]
    unfold sibW
    by_cases h : c = pos
    · rw [if_pos (by rw [i_eq, i_n (by omega), i_n (by omega)]; omega), if_pos h, show sb i pos (c + 1) = sb i pos c by unfold sb; rw [if_pos (by omega), if_neg (by omega)]; omega]
    · rw [if_neg (by rw [i_eq, i_n (by omega), i_n (by omega)]; omega), if_neg h, x21 _ _ (by omega), bI_r, s_ne _ _ (by decide), h31 _ (by omega)]
      have hsb : sb i pos c ≤ i + c ∧ sb i pos c + 1 = sb i pos (c + 1) ∧ 13 * s + sb i pos c = sb (13 * s + i) pos c ∧ sb i pos c ≤ i + 2 := by
        unfold sb
        by_cases h1 : pos < c
        · rw [if_pos h1, if_pos (by omega)]; omega
        · rw [if_neg h1, if_neg (by omega)]; omega
      rw [x55 _ _ (by omega), bV_r, s_eq, s_ss, show nI (sb i pos c) + nI 1 = nI (sb i pos c + 1) from nI_1 _, hsb.2.1, hsb.2.2.1]
theorem x51_49 {s i l b : Nat} (v2 : Int32) (hv : Nat → Int32) (h0 : 0 < b) (hb : b < 85) (hi : 13 * s + i + 4 < 53) (hl : l < 3) (τ : am_M) (h31 : ∀ p, p < 85 → τ.1 31 p = hv p) (f : Nat → Int32) (u6 u7 u8 : Value) (hu6 : (!(u6.category == 2)) = true) (hu7 : (!(u7.category == 2)) = true) (hu8 : (!(u8.category == 2)) = true) :
    am_go am_X0 (am_ex (d + 2)) M51 49 [.ref 9, .int (nI s), .int v2, .int (nI b), .int (nI i), .int (nI l), u6, u7, u8] [] (am_set τ 33 f) = am_go am_X0 (am_ex (d + 2)) M51 49 [.ref 9, .int (nI s), .int v2, .int (nI (par b)), .int (nI (i + 4)), .int (nI l + (-1)), .int (nI (par b)), .int (nI (4 * par b + 1)), .int (nI (4 * par b + 5))] [] (am_set τ 33 (rndW (τ.1 16) hv (13 * s + i) b f)) := by
  have hpb := par_lt h0
  rw [q51_49 _ _ _ _ _ _ _ hu6 hu7 hu8, if_neg (by rw [i_lt, i_n (by omega), i_n (by omega)]; omega), x166 _ _ h0 hb, nI_r, x77, bI_r, rd_n (by omega) (by omega), x55 _ _ (by omega), bV_r, x167, nI_r, s_ss, s_eq, s_ne _ _ (by decide), show nI i + nI 1 = nI (i + 1) from nI_1 _, x51_90 d v2 (nI l) (nI (par b)) hv h0 hb (by omega) τ h31]
  rfl
theorem par3 {k : Nat} (hk : k < 64) : 0 < par (21 + k) ∧ par (21 + k) < 21 ∧ 0 < par (par (21 + k)) ∧ par (par (21 + k)) < 5 ∧ par (par (par (21 + k))) = 0 := by unfold par; omega
theorem x51 {s k : Nat} (h4 : s < 4) (hk : k < 64) : am_ex (d + 5) 51 [.ref 9, .int (nI s), .int (nI k)] σ = rV (am_set (am_set (am_set σ 31 (hvA (σ.1 16) (σ.1 17) (σ.1 31) 0)) 32 (upd (σ.1 32) s (nI k))) 33 (prfW (σ.1 16) (hs (σ.1 16) (σ.1 17)) s k (σ.1 33))) := by
  obtain ⟨g1, g2, g3, g4, g5⟩ := par3 hk
  rw [e51, q51_0, if_neg (by rw [i_lt, i_n (by omega), i_n (by omega)]; omega), if_pos (by rw [i_lt, i_n (by omega), i_n (by omega)]; omega), x20, bV_r, if_pos (am_k h4 (by omega)), i_cl (by omega), am_wI_s, x164, nI_r, x21 _ _ (by omega), bI_r, x55 _ _ (by omega), bV_r]
  rw [s_ne _ _ (show (33 : Nat) ≠ 32 by decide), s_ne _ _ (show (33 : Nat) ≠ 31 by decide), s_ne _ _ (show (32 : Nat) ≠ 31 by decide), s_ne _ _ (show (31 : Nat) ≠ 32 by decide), s_eq]
  generalize hτ : am_set (am_set σ 31 (hvA (σ.1 16) (σ.1 17) (σ.1 31) 0)) 32 (upd (σ.1 32) s (nI k)) = τ
  have h31 : ∀ p, p < 85 → τ.1 31 p = hs (σ.1 16) (σ.1 17) p := by
    intro p hp
    rw [← hτ, s_ne _ _ (by decide), s_eq]
    exact if_pos (by omega)
  have h16 : τ.1 16 = σ.1 16 := by rw [← hτ, s_ne _ _ (by decide), s_ne _ _ (by decide)]
  rw [show hvA (σ.1 16) (σ.1 17) (σ.1 31) 0 (21 + k) = hs (σ.1 16) (σ.1 17) (21 + k) from if_pos (by omega)]
  rw [x51_49 (d + 2) (nI k) (hs (σ.1 16) (σ.1 17)) (by omega) (by omega) (by omega) (by omega) τ h31 _ _ _ _ rfl rfl rfl, show nI 2 + (-1) = nI 1 from nI_p 1]
  rw [x51_49 (d + 2) (nI k) (hs (σ.1 16) (σ.1 17)) g1 (by omega) (by omega) (by omega) τ h31 _ _ _ _ rfl rfl rfl, show nI 1 + (-1) = nI 0 from nI_p 0]
  rw [x51_49 (d + 2) (nI k) (hs (σ.1 16) (σ.1 17)) g3 (by omega) (by omega) (by omega) τ h31 _ _ _ _ rfl rfl rfl, nI_m]
  rw [q51_49 _ _ _ _ _ _ _ rfl rfl rfl, if_pos (by decide), h16]
  rfl
theorem c139 {s k : Nat} (h4 : s < 4) (hk : k < 64) : am_ex (d + 6) 139 [.ref 0, .int (nI s), .int (nI k)] σ = rI (prfW (σ.1 16) (hs (σ.1 16) (σ.1 17)) s k (σ.1 33) (13 * s)) (am_set (am_set (am_set σ 31 (hvA (σ.1 16) (σ.1 17) (σ.1 31) 0)) 32 (upd (σ.1 32) s (nI k))) 33 (prfW (σ.1 16) (hs (σ.1 16) (σ.1 17)) s k (σ.1 33))) := by
  rw [e139, q139_0, x144 _ σ _ (by omega), if_pos (inR_n h4 (by omega)), bV_r, x144 _ σ _ (by omega), if_pos (inR_n hk (by omega)), bV_r, x51 _ _ h4 hk, bV_r, x50 _ _ (by omega), bI_r, s_eq]
  rfl
theorem c139x (x y : Int32) (h : ¬ (inR x 4 ∧ inR y 64)) : am_ex (d + 2) 139 [.ref 0, .int x, .int y] σ = rX xIO (am_tick σ) := by
  rw [e139, q139_0, x144 d σ _ (by omega)]
  by_cases h1 : inR x 4
  · rw [if_pos h1, bV_r, x144 d σ _ (by omega), if_neg (fun z => h ⟨h1, z⟩), bV_x]
  · rw [if_neg h1, bV_x]
theorem y269_103 {s a b : Nat} (v2 : Int32) (h0 : 0 < b) (hb : b < 85) (ha : a + 3 < 53) (τ : am_M) (f : Nat → Int32) :
    am_go am_X0 (am_ex (d + 5)) M269 103 [.ref 34, .int (nI s), .int v2, .int (nI a), .int (nI b), .int (nI (par b)), .int (nI (4 * par b + 1))] [] (am_set τ 53 f) = am_go am_X0 (am_ex (d + 5)) M269 67 [.ref 34, .int (nI s), .int v2, .int (nI (a + 3)), .int (nI (par b)), .int (nI (par b)), .int (nI (4 * par b + 5))] [] (am_set τ 53 (fld (sibW (hs (τ.1 35) (τ.1 37)) a (4 * par b + 1) (b - (4 * par b + 1))) 0 4 f)) := by
  obtain ⟨hb1, hb2⟩ := par_b h0
  generalize hpo : b - (4 * par b + 1) = pos at *
  have := (lp_fld (sibW (hs (τ.1 35) (τ.1 37)) a (4 * par b + 1) pos) (fun _ _ => True) 0 4 (by omega) (fun c f => am_go am_X0 (am_ex (d + 5)) M269 103 [.ref 34, .int (nI s), .int v2, .int (nI (sb a pos c)), .int (nI b), .int (nI (par b)), .int (nI (4 * par b + 1 + c))] [] (am_set τ 53 f)) (fun f => am_go am_X0 (am_ex (d + 5)) M269 67 [.ref 34, .int (nI s), .int v2, .int (nI (a + 3)), .int (nI (par b)), .int (nI (par b)), .int (nI (4 * par b + 5))] [] (am_set τ 53 f)) ?_ ?_ f True.intro).1
  · rw [show sb a pos 0 = a by unfold sb; rw [if_neg (by omega)]; omega] at this
    exact this
  · intro g _
    show am_go am_X0 (am_ex (d + 5)) M269 103 [.ref 34, .int (nI s), .int v2, .int (nI (sb a pos 4)), .int (nI b), .int (nI (par b)), .int (nI (4 * par b + 1 + 4))] [] (am_set τ 53 g) = _
    rw [q269_103, pk_mul, nI_add, if_pos (by rw [i_lt, i_n (by omega), i_n (by omega)]; omega), x179 _ _ h0 (by omega), bI_r, show sb a pos 4 = a + 3 by unfold sb; rw [if_pos (by omega)]; omega]
  · intro c g _ hc _
    refine ⟨?_, True.intro⟩
    show am_go am_X0 (am_ex (d + 5)) M269 103 [.ref 34, .int (nI s), .int v2, .int (nI (sb a pos c)), .int (nI b), .int (nI (par b)), .int (nI (4 * par b + 1 + c))] [] (am_set τ 53 g) = am_go am_X0 (am_ex (d + 5)) M269 103 [.ref 34, .int (nI s), .int v2, .int (nI (sb a pos (c + 1))), .int (nI b), .int (nI (par b)), .int (nI (4 * par b + 1 + (c + 1)))] [] _
    rw [q269_103, pk_mul, nI_add, if_neg (by rw [i_lt, i_n (by omega), i_n (by omega)]; omega), show nI (4 * par b + 1 + c) + nI 1 = nI (4 * par b + 1 + (c + 1)) from nI_1 _]
    unfold sibW
    by_cases h : c = pos
    · rw [if_pos (by rw [i_eq, i_n (by omega), i_n (by omega)]; omega), if_pos h, show sb a pos (c + 1) = sb a pos c by unfold sb; rw [if_pos (by omega), if_neg (by omega)]; omega]
    · have hsb : sb a pos c ≤ a + c ∧ sb a pos c + 1 = sb a pos (c + 1) ∧ sb a pos c ≤ a + 2 := by
        unfold sb
        by_cases h1 : pos < c
        · rw [if_pos h1, if_pos (by omega)]; omega
        · rw [if_neg h1, if_neg (by omega)]; omega
      rw [if_neg (by rw [i_eq, i_n (by omega), i_n (by omega)]; omega), if_neg h, y266p _ _ (by omega), bI_r, s_ne _ _ (show (35 : Nat) ≠ 53 by decide), s_ne _ _ (show (37 : Nat) ≠ 53 by decide), if_pos (am_k (by omega) (by omega)), i_cl (by omega), am_wI_s, s_eq, s_ss, show nI (sb a pos c) + nI 1 = nI (sb a pos c + 1) from nI_1 _, hsb.2.1]
theorem y269_67 {s a b : Nat} (v2 : Int32) (h0 : 0 < b) (hb : b < 85) (ha : a + 4 < 53) (τ : am_M) (f : Nat → Int32) (u5 u6 : Value) (hu5 : (!(u5.category == 2)) = true) (hu6 : (!(u6.category == 2)) = true) :
    am_go am_X0 (am_ex (d + 5)) M269 67 [.ref 34, .int (nI s), .int v2, .int (nI a), .int (nI b), u5, u6] [] (am_set τ 53 f) = am_go am_X0 (am_ex (d + 5)) M269 67 [.ref 34, .int (nI s), .int v2, .int (nI (a + 4)), .int (nI (par b)), .int (nI (par b)), .int (nI (4 * par b + 5))] [] (am_set τ 53 (rndW (τ.1 35) (hs (τ.1 35) (τ.1 37)) a b f)) := by
  have hpb := par_lt h0
  rw [q269_67 _ _ _ _ _ _ hu5 hu6, if_neg (by rw [i_le, i_n (by omega), i_n (by omega)]; omega), x179 _ _ h0 (by omega), bI_r, if_pos (am_k (by omega) (by omega)), if_pos (am_k (by omega) (by omega)), i_cl (by omega), i_cl (by omega), am_wI_s, s_ss, s_eq, s_ne _ _ (by decide), pk_mul, nI_add, nI_add, y269_103 d v2 h0 hb (by omega) τ]
  rfl
theorem y269 {s k : Nat} (h4 : s < 4) (hk : k < 64) : am_ex (d + 6) 269 [.ref 34, .int (nI s), .int (nI k)] σ = rI (prfW (σ.1 35) (hs (σ.1 35) (σ.1 37)) s k (σ.1 53) (13 * s)) (am_set (am_set (th σ (nI 0)) 54 (upd (σ.1 54) s (nI k))) 53 (prfW (σ.1 35) (hs (σ.1 35) (σ.1 37)) s k (σ.1 53))) := by
  obtain ⟨g1, g2, g3, g4, g5⟩ := par3 hk
  rw [e269, q269_0, x268, bI_r, bz_t (inR_n h4 (by omega)), if_neg n10, x182, bI_r, bz_t (inR_n hk (by omega)), if_neg n10, q269_20, th_w, th_v, if_pos le00, if_pos (am_k h4 (by omega)), nI_add, y266p _ _ (by omega), bI_r, at_13', if_pos (am_k (by omega) (by omega)), i_cl (by omega), i_cl (by omega), am_wI_s, am_wI_s, show nI (13 * s) + nI 1 = nI (13 * s + 1) from nI_1 _]
  rw [s_ne _ _ (show (53 : Nat) ≠ 54 by decide), s_ne _ _ (show (35 : Nat) ≠ 54 by decide), s_ne _ _ (show (37 : Nat) ≠ 54 by decide), th_ne _ _ (show (53 : Nat) ≠ 34 by decide), th_ne _ _ (show (54 : Nat) ≠ 34 by decide), th_ne _ _ (show (35 : Nat) ≠ 34 by decide), th_ne _ _ (show (37 : Nat) ≠ 34 by decide)]
  generalize hτ : am_set (th σ (nI 0)) 54 (upd (σ.1 54) s (nI k)) = τ
  have h35 : τ.1 35 = σ.1 35 := by rw [← hτ, s_ne _ _ (by decide), th_ne _ _ (by decide)]
  have h37 : τ.1 37 = σ.1 37 := by rw [← hτ, s_ne _ _ (by decide), th_ne _ _ (by decide)]
  rw [y269_67 d (nI k) (by omega) (by omega) (by omega) τ _ _ _ rfl rfl]
  rw [y269_67 d (nI k) g1 (by omega) (by omega) τ _ _ _ rfl rfl]
  rw [y269_67 d (nI k) g3 (by omega) (by omega) τ _ _ _ rfl rfl, g5]
  rw [q269_67 _ _ _ _ _ _ rfl rfl, if_pos le00, at_13', if_pos (am_k (by omega) (by omega)), i_cl (by omega), s_eq, h35, h37]
  rfl
theorem y269x (x y : Int32) (h : ¬ (inR x 4 ∧ inR y 64)) : am_ex (d + 3) 269 [.ref 34, .int x, .int y] σ = rI (nI 0) (th σ (nI 1)) := by
  rw [e269, q269_0, x268, bI_r]
  by_cases h1 : inR x 4
  · rw [bz_t h1, if_neg n10, x182, bI_r, bz_f (fun z => h ⟨h1, z⟩), if_pos rfl, q269_19, q269_20, th_w, th_v, if_neg le10]
  · rw [bz_f h1, if_pos rfl, q269_19, q269_20, th_w, th_v, if_neg le10]
theorem c140 {s i : Nat} (h4 : s < 4) (hi : i < 13) : am_ex (d + 4) 140 [.ref 0, .int (nI s), .int (nI i)] σ = if σ.1 32 s = -1 then rX xIS (am_tick σ) else rI (σ.1 33 (13 * s + i)) σ := by
  rw [e140, q140_0, x144 _ σ _ (by omega), if_pos (inR_n h4 (by omega)), bV_r, x144 _ σ _ (by omega), if_pos (inR_n hi (by omega)), bV_r, x148 _ _ h4]
  by_cases h : σ.1 32 s = -1
  · rw [if_pos h, if_pos h, bV_x]
  · rw [if_neg h, if_neg h, bV_r, x50 _ _ (by omega), bI_r]
theorem c140x (x y : Int32) (h : ¬ (inR x 4 ∧ inR y 13)) : am_ex (d + 2) 140 [.ref 0, .int x, .int y] σ = rX xIO (am_tick σ) := by
  rw [e140, q140_0, x144 d σ _ (by omega)]
  by_cases h1 : inR x 4
  · rw [if_pos h1, bV_r, x144 d σ _ (by omega), if_neg (fun z => h ⟨h1, z⟩), bV_x]
  · rw [if_neg h1, bV_x]
theorem y270 {s : Nat} (h4 : s < 4) : am_ex (d + 3) 270 [.ref 34, .int (nI s)] σ = rI (if σ.1 54 s = -1 then nI 2 else nI 0) σ := by
  rw [e270, q270_0, x268, bI_r, bz_t (inR_n h4 (by omega)), if_neg n10, if_pos (am_k h4 (by omega)), i_cl (by omega)]
  split <;> rfl
theorem y270x {x : Int32} (h : ¬ inR x 4) : am_ex (d + 3) 270 [.ref 34, .int x] σ = rI (nI 1) σ := by
  rw [e270, q270_0, x268, bI_r, bz_f h, if_pos rfl]
theorem y271 {s i : Nat} (h4 : s < 4) (hi : i < 13) : am_ex (d + 4) 271 [.ref 34, .int (nI s), .int (nI i)] σ = if σ.1 54 s = -1 then rI (nI 0) (th σ (nI 2)) else rI (σ.1 53 (13 * s + i)) (th σ (nI 0)) := by
  rw [e271, q271_0, x268, bI_r, bz_t (inR_n h4 (by omega)), if_neg n10, x173, bI_r, bz_t (by rw [i_64, i_n (by omega), show (0 : Int64).toInt = 0 by decide +kernel, show (12 : Int64).toInt = 12 by decide +kernel]; omega), if_neg n10, y270 _ _ h4, bI_r, q271_29, th_w, th_v]
  by_cases h : σ.1 54 s = -1
  · rw [if_pos h, if_neg le20, if_pos h]
  · rw [if_neg h, if_pos le00, if_neg h, at_13', nI_add, if_pos (am_k (by omega) (by omega)), i_cl (by omega), th_ne _ _ (by decide)]
theorem y271x (x y : Int32) (h : ¬ (inR x 4 ∧ inR y 13)) : am_ex (d + 3) 271 [.ref 34, .int x, .int y] σ = rI (nI 0) (th σ (nI 1)) := by
  rw [e271, q271_0, x268, bI_r]
  by_cases h1 : inR x 4
  · rw [bz_t h1, if_neg n10, x173, bI_r, bz_f (by
      rw [i_64, show (0 : Int64).toInt = 0 by decide +kernel, show (12 : Int64).toInt = 12 by decide +kernel]
      intro q
      exact h ⟨h1, q.1, by omega⟩), if_pos rfl, q271_20, q271_29, th_w, th_v, if_neg le10]
  · rw [bz_f h1, if_pos rfl, q271_20, q271_29, th_w, th_v, if_neg le10]
/-- the hash above, from one below -/
noncomputable def stH (pr : Nat → Int32) (a pos : Nat) (h : Int32) : Nat → Int32 → Int32 := fun c x => mixF (x ^^^ (if c = pos then h else pr (sb (a + 1) pos c)))
noncomputable def rtH (pr : Nat → Int32) (a b : Nat) (h : Int32) : Int32 := if pr a = nI 0 then nI 0 else fld (stH pr a (b - (4 * par b + 1)) h) 0 4 (mixF (pr a))
noncomputable def rtA (pr : Nat → Int32) (s k : Nat) (h : Int32) : Int32 := rtH pr (13 * s + 9) (par (par (21 + k))) (rtH pr (13 * s + 5) (par (21 + k)) (rtH pr (13 * s + 1) (21 + k) h))
theorem x53 {s i pos : Nat} (hi : 13 * s + i + 4 < 53) (hp : pos < 4) (h : Int32) : am_ex (d + 2) 53 [.ref 9, .int (nI s), .int (nI i), .int (nI pos), .int h] σ = rI (if σ.1 33 (13 * s + i) = nI 0 then nI 0 else fld (stH (σ.1 33) (13 * s + i) pos h) 0 4 (mixF (σ.1 33 (13 * s + i)))) σ := by
  rw [e53, q53_0, x50 _ _ (by omega), bI_r]
  by_cases h0 : σ.1 33 (13 * s + i) = nI 0
  · rw [if_pos h0, if_pos h0]
  · rw [if_neg h0, if_neg h0, xmix, nI_r, show nI i + nI 1 = nI (i + 1) from nI_1 _]
    have := (lp_fld (stH (σ.1 33) (13 * s + i) pos h) (fun _ _ => True) 0 4 (by omega) (fun c x => am_go am_X0 (am_ex (d + 1)) M53 30 [.ref 9, .int (nI s), .int (nI i), .int (nI pos), .int h, .int (σ.1 33 (13 * s + i)), .int x, .int (nI (sb (i + 1) pos c)), .int (nI c)] [] σ) (fun x => rI x σ) ?_ ?_ (mixF (σ.1 33 (13 * s + i))) True.intro).1
    · rw [show sb (i + 1) pos 0 = i + 1 by unfold sb; rw [if_neg (by omega)]; omega] at this
      exact this
    · intro x _
      show am_go am_X0 (am_ex (d + 1)) M53 30 [.ref 9, .int (nI s), .int (nI i), .int (nI pos), .int h, .int (σ.1 33 (13 * s + i)), .int x, .int (nI (sb (i + 1) pos 4)), .int (nI 4)] [] σ = _
      rw [q53_30, if_pos (by decide)]
    · intro c x _ hc _
      refine ⟨?_, True.intro⟩
      show am_go am_X0 (am_ex (d + 1)) M53 30 [.ref 9, .int (nI s), .int (nI i), .int (nI pos), .int h, .int (σ.1 33 (13 * s + i)), .int x, .int (nI (sb (i + 1) pos c)), .int (nI c)] [] σ = am_go am_X0 (am_ex (d + 1)) M53 30 [.ref 9, .int (nI s), .int (nI i), .int (nI pos), .int h, .int (σ.1 33 (13 * s + i)), .int _, .int (nI (sb (i + 1) pos (c + 1))), .int (nI (c + 1))] [] σ
      rw [q53_30, if_neg (by rw [i_le, i_n (by omega), i_n (by omega)]; omega), show nI c + nI 1 = nI (c + 1) from nI_1 _]
      unfold stH
      by_cases hcp : c = pos
      · rw [if_pos (by rw [hcp]), if_pos hcp, xmix, nI_r, show sb (i + 1) pos (c + 1) = sb (i + 1) pos c by unfold sb; rw [if_pos (by omega), if_neg (by omega)]; omega]
      · have hsb : sb (i + 1) pos c + 1 = sb (i + 1) pos (c + 1) ∧ sb (i + 1) pos c ≤ i + 3 ∧ 13 * s + sb (i + 1) pos c = sb (13 * s + i + 1) pos c := by
          unfold sb
          by_cases h1 : pos < c
          · rw [if_pos h1, if_pos (by omega)]; omega
          · rw [if_neg h1, if_neg (by omega)]; omega
        rw [if_neg (by rw [i_eq, i_n (by omega), i_n (by omega)]; omega), if_neg hcp, x50 _ _ (by omega), bI_r, xmix, nI_r, show nI (sb (i + 1) pos c) + nI 1 = nI (sb (i + 1) pos c + 1) from nI_1 _, hsb.1, hsb.2.2]
theorem x52_18 {s i l b : Nat} (v2 : Int32) (h : Int32) (h0 : 0 < b) (hb : b < 85) (hi : 13 * s + i + 4 < 53) (hl : l < 3) (u7 : Value) (hu7 : (!(u7.category == 2)) = true) :
    am_go am_X0 (am_ex (d + 2)) M52 18 [.ref 9, .int (nI s), .int v2, .int h, .int (nI b), .int (nI i), .int (nI l), u7] [] σ = am_go am_X0 (am_ex (d + 2)) M52 18 [.ref 9, .int (nI s), .int v2, .int (rtH (σ.1 33) (13 * s + i) b h), .int (nI (par b)), .int (nI (i + 4)), .int (nI l + (-1)), .int (nI (par b))] [] σ := by
  obtain ⟨hb1, hb2⟩ := par_b h0
  rw [q52_18 _ _ _ _ _ _ _ _ hu7, if_neg (by rw [i_lt, i_n (by omega), i_n (by omega)]; omega), x166 _ _ h0 hb, nI_r, x167, nI_r, show nI b - nI (4 * par b + 1) = nI (b - (4 * par b + 1)) by rw [i_eq, pk_sub_toInt (by omega) (by omega), i_n (by omega)]; omega, x53 _ _ hi (by omega), bI_r, nI_add]
  rfl
theorem x52 {s k : Nat} (h4 : s < 4) (hk : k < 64) (hl : σ.1 32 s = nI k) (h : Int32) : am_ex (d + 3) 52 [.ref 9, .int (nI s), .int h] σ = rI (rtA (σ.1 33) s k h) σ := by
  obtain ⟨g1, g2, g3, g4, g5⟩ := par3 hk
  rw [e52, q52_0, x54 _ _ h4, bI_r, hl, x164, nI_r, x52_18 _ _ _ _ (by omega) (by omega) (by omega) (by omega) _ rfl, show nI 2 + (-1) = nI 1 from nI_p 1, x52_18 _ _ _ _ g1 (by omega) (by omega) (by omega) _ rfl, show nI 1 + (-1) = nI 0 from nI_p 0, x52_18 _ _ _ _ g3 (by omega) (by omega) (by omega) _ rfl, nI_m, q52_18 _ _ _ _ _ _ _ _ rfl, if_pos (by decide)]
  rfl
theorem c141 {s : Nat} (h4 : s < 4) (hl : σ.1 32 s = -1 ∨ ∃ k, k < 64 ∧ σ.1 32 s = nI k) : am_ex (d + 4) 141 [.ref 0, .int (nI s)] σ = if σ.1 32 s = -1 then rX xIS (am_tick σ) else rI (rtA (σ.1 33) s (σ.1 32 s).toNatClampNeg (σ.1 33 (13 * s))) σ := by
  rw [e141, q141_0, x144 _ σ _ (by omega), if_pos (inR_n h4 (by omega)), bV_r, x148 _ _ h4]
  rcases hl with h | ⟨k, hk, hl⟩
  · rw [if_pos h, if_pos h, bV_x]
  · have hn : ¬ σ.1 32 s = -1 := by rw [hl, i_eq, i_n (by omega), i_m1]; omega
    rw [if_neg hn, if_neg hn, bV_r, x50 _ _ (by omega), bI_r, x52 _ _ h4 hk hl, bI_r, hl, i_cl (by omega)]
    rfl
theorem c142 {s : Nat} (h4 : s < 4) (hl : σ.1 32 s = -1 ∨ ∃ k, k < 64 ∧ σ.1 32 s = nI k) (h : Int32) : am_ex (d + 4) 142 [.ref 0, .int (nI s), .int h] σ = if σ.1 32 s = -1 then rX xIS (am_tick σ) else rI (rtA (σ.1 33) s (σ.1 32 s).toNatClampNeg h) σ := by
  rw [e142, q142_0, x144 _ σ _ (by omega), if_pos (inR_n h4 (by omega)), bV_r, x148 _ _ h4]
  rcases hl with h | ⟨k, hk, hl⟩
  · rw [if_pos h, if_pos h, bV_x]
  · have hn : ¬ σ.1 32 s = -1 := by rw [hl, i_eq, i_n (by omega), i_m1]; omega
    rw [if_neg hn, if_neg hn, bV_r, x52 _ _ h4 hk hl, bI_r, hl, i_cl (by omega)]
theorem c141x (x : Int32) (h : ¬ inR x 4) : am_ex (d + 2) 141 [.ref 0, .int x] σ = rX xIO (am_tick σ) := by
  rw [e141, q141_0, x144 d σ _ (by omega), if_neg h, bV_x]
theorem c142x (x y : Int32) (h : ¬ inR x 4) : am_ex (d + 2) 142 [.ref 0, .int x, .int y] σ = rX xIO (am_tick σ) := by
  rw [e142, q142_0, x144 d σ _ (by omega), if_neg h, bV_x]
theorem y272_21 {s a b : Nat} (v2 : Int32) (h : Int32) (h0 : 0 < b) (hb : b < 85) (ha : a + 4 < 53) (u6 u7 u8 : Value) (hu6 : (!(u6.category == 2)) = true) (hu7 : (!(u7.category == 2)) = true) (hu8 : (!(u8.category == 2)) = true) :
    ∃ x y z, am_go am_X0 (am_ex (d + 1)) M272 21 [.ref 34, .int (nI s), .int v2, .int h, .int (nI a), .int (nI b), u6, u7, u8] [] σ = am_go am_X0 (am_ex (d + 1)) M272 21 [.ref 34, .int (nI s), .int v2, .int (rtH (σ.1 53) a b h), .int (nI (a + 4)), .int (nI (par b)), .int x, .int y, .int z] [] σ := by
  obtain ⟨hb1, hb2⟩ := par_b h0
  rw [q272_21 _ _ _ _ _ _ _ hu6 hu7 hu8, if_neg (by rw [i_le, i_n (by omega), i_n (by omega)]; omega), if_pos (am_k (by omega) (by omega)), i_cl (by omega), xmixM, bI_r, x179 _ _ h0 (by omega), bI_r, pk_mul, nI_add, nI_add]
  generalize hpo : b - (4 * par b + 1) = pos at *
  have := (lp_fld (stH (σ.1 53) a pos h) (fun _ _ => True) 0 4 (by omega) (fun c x => am_go am_X0 (am_ex (d + 1)) M272 55 [.ref 34, .int (nI s), .int v2, .int h, .int (nI a), .int (nI b), .int x, .int (nI (sb (a + 1) pos c)), .int (nI (4 * par b + 1 + c))] [] σ) (fun x => am_go am_X0 (am_ex (d + 1)) M272 21 [.ref 34, .int (nI s), .int v2, .int (if σ.1 53 a = nI 0 then nI 0 else x), .int (nI (a + 4)), .int (nI (par b)), .int x, .int (nI (sb (a + 1) pos 4)), .int (nI (4 * par b + 1 + 4))] [] σ) ?_ ?_ (mixF (σ.1 53 a)) True.intro).1
  · rw [show sb (a + 1) pos 0 = a + 1 by unfold sb; rw [if_neg (by omega)]; omega] at this
    unfold rtH
    rw [hpo]
    exact ⟨_, _, _, this⟩
  · intro x _
    show am_go am_X0 (am_ex (d + 1)) M272 55 [.ref 34, .int (nI s), .int v2, .int h, .int (nI a), .int (nI b), .int x, .int (nI (sb (a + 1) pos 4)), .int (nI (4 * par b + 1 + 4))] [] σ = _
    rw [q272_55, x179 _ _ h0 (by omega), bI_r, pk_mul, nI_add, if_pos (by rw [i_lt, i_n (by omega), i_n (by omega)]; omega), if_pos (am_k (by omega) (by omega)), i_cl (by omega), q272_134, q272_134, x179 _ _ h0 (by omega), bI_r, bI_r, nI_add]
    split <;> rfl
  · intro c x _ hc _
    refine ⟨?_, True.intro⟩
    show am_go am_X0 (am_ex (d + 1)) M272 55 [.ref 34, .int (nI s), .int v2, .int h, .int (nI a), .int (nI b), .int x, .int (nI (sb (a + 1) pos c)), .int (nI (4 * par b + 1 + c))] [] σ = am_go am_X0 (am_ex (d + 1)) M272 55 [.ref 34, .int (nI s), .int v2, .int h, .int (nI a), .int (nI b), .int _, .int (nI (sb (a + 1) pos (c + 1))), .int (nI (4 * par b + 1 + (c + 1)))] [] σ
    rw [q272_55, x179 _ _ h0 (by omega), bI_r, pk_mul, nI_add, if_neg (by rw [i_lt, i_n (by omega), i_n (by omega)]; omega), q272_89, q272_89, xmixM, bI_r, xmixM, bI_r, show nI (4 * par b + 1 + c) + nI 1 = nI (4 * par b + 1 + (c + 1)) from nI_1 _]
    unfold stH
    by_cases hcp : c = pos
    · have : nI (4 * par b + 1 + c) = nI b := by rw [show 4 * par b + 1 + c = b by omega]
      rw [if_pos this, if_pos this, if_pos hcp, nI_add, show sb (a + 1) pos c + 0 = sb (a + 1) pos (c + 1) by unfold sb; rw [if_neg (show ¬ pos < c by omega), if_pos (show pos < c + 1 by omega)]; omega]
    · have hsb : sb (a + 1) pos c + 1 = sb (a + 1) pos (c + 1) ∧ sb (a + 1) pos c ≤ a + 3 := by
        unfold sb
        by_cases h1 : pos < c
        · rw [if_pos h1, if_pos (by omega)]; omega
        · rw [if_neg h1, if_neg (by omega)]; omega
      have : ¬ nI (4 * par b + 1 + c) = nI b := by rw [i_eq, i_n (by omega), i_n (by omega)]; omega
      rw [if_neg this, if_pos (am_k (by omega) (by omega)), if_neg this, if_neg hcp, i_cl (by omega), nI_add, hsb.1]
theorem y272 {s k : Nat} (h4 : s < 4) (hk : k < 64) (hl : σ.1 54 s = nI k) (h : Int32) : am_ex (d + 2) 272 [.ref 34, .int (nI s), .int h] σ = rI (rtA (σ.1 53) s k h) σ := by
  obtain ⟨g1, g2, g3, g4, g5⟩ := par3 hk
  rw [e272, q272_0, if_pos (am_k h4 (by omega)), i_cl (by omega), hl, at_13', nI_add, nI_add]
  obtain ⟨x1, y1, z1, k1⟩ := y272_21 d σ (s := s) (a := 13 * s + 1) (b := 21 + k) h h (by omega) (by omega) (by omega) .null .null .null rfl rfl rfl
  obtain ⟨x2, y2, z2, k2⟩ := y272_21 d σ (s := s) (a := 13 * s + 5) (b := par (21 + k)) h (rtH (σ.1 53) (13 * s + 1) (21 + k) h) g1 (by omega) (by omega) (.int x1) (.int y1) (.int z1) rfl rfl rfl
  obtain ⟨x3, y3, z3, k3⟩ := y272_21 d σ (s := s) (a := 13 * s + 9) (b := par (par (21 + k))) h (rtH (σ.1 53) (13 * s + 5) (par (21 + k)) (rtH (σ.1 53) (13 * s + 1) (21 + k) h)) g3 (by omega) (by omega) (.int x2) (.int y2) (.int z2) rfl rfl rfl
  rw [k1, k2, k3, g5, q272_21 _ _ _ _ _ _ _ rfl rfl rfl, if_pos le00]
  rfl
theorem y273 {s : Nat} (h4 : s < 4) (hl : σ.1 54 s = -1 ∨ ∃ k, k < 64 ∧ σ.1 54 s = nI k) : am_ex (d + 4) 273 [.ref 34, .int (nI s)] σ = if σ.1 54 s = -1 then rI (nI 0) (th σ (nI 2)) else rI (rtA (σ.1 53) s (σ.1 54 s).toNatClampNeg (σ.1 53 (13 * s))) (th σ (nI 0)) := by
  rw [e273, q273_0, y270 _ _ h4, bI_r, th_w, th_v]
  rcases hl with h | ⟨k, hk, hl⟩
  · rw [if_pos h, if_neg le20, if_pos h]
  · have hn : ¬ σ.1 54 s = -1 := by rw [hl, i_eq, i_n (by omega), i_m1]; omega
    rw [if_neg hn, if_pos le00, if_neg hn, at_13', if_pos (am_k (by omega) (by omega)), i_cl (by omega), y272 _ _ h4 hk (by rw [th_ne _ _ (by decide)]; exact hl), bI_r, hl, i_cl (by omega), th_ne _ _ (by decide)]
theorem y274 {s : Nat} (h4 : s < 4) (hl : σ.1 54 s = -1 ∨ ∃ k, k < 64 ∧ σ.1 54 s = nI k) (h : Int32) : am_ex (d + 4) 274 [.ref 34, .int (nI s), .int h] σ = if σ.1 54 s = -1 then rI (nI 0) (th σ (nI 2)) else rI (rtA (σ.1 53) s (σ.1 54 s).toNatClampNeg h) (th σ (nI 0)) := by
  rw [e274, q274_0, y270 _ _ h4, bI_r, th_w, th_v]
  rcases hl with h | ⟨k, hk, hl⟩
  · rw [if_pos h, if_neg le20, if_pos h]
  · have hn : ¬ σ.1 54 s = -1 := by rw [hl, i_eq, i_n (by omega), i_m1]; omega
    rw [if_neg hn, if_pos le00, if_neg hn, y272 _ _ h4 hk (by rw [th_ne _ _ (by decide)]; exact hl), bI_r, hl, i_cl (by omega), th_ne _ _ (by decide)]
theorem y273x (x : Int32) (h : ¬ inR x 4) : am_ex (d + 4) 273 [.ref 34, .int x] σ = rI (nI 0) (th σ (nI 1)) := by
  rw [e273, q273_0, y270x _ _ h, bI_r, th_w, th_v, if_neg le10]
theorem y274x (x y : Int32) (h : ¬ inR x 4) : am_ex (d + 4) 274 [.ref 34, .int x, .int y] σ = rI (nI 0) (th σ (nI 1)) := by
  rw [e274, q274_0, y270x _ _ h, bI_r, th_w, th_v, if_neg le10]
end PRF
