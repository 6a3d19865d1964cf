/-! reads and single writes of the class's parts -/
section ACC
variable (d : Nat) (σ : am_M)
/-- a key that has been made -/
abbrev mdR (x : Int32) (kc : Nat) : Prop := 1 ≤ x.toInt ∧ x.toInt ≤ (kc : Int)
theorem x161 (x : Int32) : ∃ y, ∀ (d : Nat) (σ : am_M), am_ex (d + 1) 161 [.int x] σ = rI y σ ∧ am_ex (d + 1) 176 [.int x] σ = rI y σ := by
  refine ⟨_, fun d σ => ⟨(e161 d σ x).trans (q161_0 _ _ _), ?_⟩⟩
  rw [e176, q176_0]
noncomputable def mixF (x : Int32) : Int32 := (x161 x).choose
theorem xmix (x : Int32) : am_ex (d + 1) 161 [.int x] σ = rI (mixF x) σ := ((x161 x).choose_spec d σ).1
theorem xmixM (x : Int32) : am_ex (d + 1) 176 [.int x] σ = rI (mixF x) σ := ((x161 x).choose_spec d σ).2
/-- the value of a key -/
noncomputable def valF (seed key : Int32) : Int32 := mixF (seed + key * (-1640531527))
theorem x30 (x : Int32) : am_ex (d + 2) 30 [.ref 1, .int x] σ = rI (valF (σ.1 1 1) x) σ := by
  rw [e30, q30_0, xmix, nI_r]; rfl
theorem x178 (x : Int32) : am_ex (d + 2) 178 [.ref 34, .int x] σ = rI (valF (σ.1 34 20) x) σ := by
  rw [e178, q178_0, xmixM, bI_r]; rfl
theorem x24 {kc : Nat} (hk : σ.1 1 2 = nI kc) (hb : kc ≤ 2048) (x : Int32) : am_ex (d + 1) 24 [.ref 1, .int x] σ = rI (bz (mdR x kc)) σ := by
  rw [e24, q24_0, hk]
  simp (disch := omega) only [am_in_R, inR, i_lt, i_le, i_n, i_cl, nI_add, pk_mul, i_m1]
  split
  · rw [bz, if_neg (by omega)]
  · split
    · rw [bz, if_neg (by omega)]
    · rw [if_neg (by omega), bz, if_pos (by omega)]
theorem x25 {kc : Nat} (hk : σ.1 1 2 = nI kc) (hb : kc ≤ 2027) : am_ex (d + 1) 25 [.ref 1] σ = rI (nI 1) σ := by
  rw [e25, q25_0, hk]
  simp (disch := omega) only [am_in_R, inR, i_lt, i_le, i_n, i_cl, nI_add, pk_mul, i_m1]
  rw [if_neg (by omega)]
theorem x26 : am_ex (d + 1) 26 [.ref 1] σ = rI (σ.1 1 2) σ := by rw [e26, q26_0]
theorem x27 {kc : Nat} (hk : σ.1 1 2 = nI kc) (hb : kc < 2048) (v : Int32) : am_ex (d + 1) 27 [.ref 1, .int v] σ = rI (nI (kc + 1)) (am_set (am_set σ 1 (upd (σ.1 1) 2 (nI (kc + 1)))) 13 (upd (σ.1 13) (kc + 1) v)) := by
  rw [e27, q27_0, hk]
  simp (disch := omega) only [am_in_R, inR, i_lt, i_le, i_n, i_cl, nI_add, pk_mul, i_m1, am_wI_s, am_wJ_s, s_eq, s_J, sJ_I, sJ_eq, sJ_k, s_ss, s_ne _ _ (show (1 : Nat) ≠ 13 by decide), s_ne _ _ (show (13 : Nat) ≠ 1 by decide), pk_us]
  rw [if_neg (by omega), if_pos (by omega)]
theorem x28 {kc : Nat} (hk : σ.1 1 2 = nI kc) (hb : kc ≤ 2048) (x : Int32) : am_ex (d + 2) 28 [.ref 1, .int x] σ = rI (if mdR x kc then σ.1 13 x.toNatClampNeg else -1) σ := by
  rw [e28, q28_0, x24 d σ hk hb, bI_r]
  simp only [bz_0, am_in_R]
  by_cases h : mdR x kc
  · rw [if_neg (fun z => z h), if_pos (by unfold inR; omega), if_pos h]
  · rw [if_pos h, if_neg h]
theorem x29 {kc : Nat} (hk : σ.1 1 2 = nI kc) (hb : kc ≤ 2048) (x v : Int32) : am_ex (d + 2) 29 [.ref 1, .int x, .int v] σ = rV (if mdR x kc then am_set σ 13 (upd (σ.1 13) x.toNatClampNeg v) else σ) := by
  rw [e29, q29_0, x24 d σ hk hb, bI_r]
  simp only [bz_0, am_in_R]
  by_cases h : mdR x kc
  · rw [if_neg (fun z => z h), if_pos (by unfold inR; omega), if_pos h]
    rfl
  · rw [if_pos h, if_neg h]
/-! media -/
theorem x32 : am_ex (d + 1) 32 [.ref 4] σ = rI (σ.1 4 5) σ := by rw [e32, q32_0]
theorem x46 {md : Nat} (hm : σ.1 4 5 = nI md) (hb : md ≤ 8) (x : Int32) : am_ex (d + 1) 46 [.ref 4, .int x] σ = rI (bz (inR x md)) σ := by
  rw [e46, q46_0, hm]
  simp (disch := omega) only [am_in_R, inR, i_lt, i_le, i_n, i_cl, nI_add, pk_mul, i_m1]
  split
  · rw [bz, if_neg (by omega)]
  · split
    · rw [bz, if_neg (by omega)]
    · rw [if_neg (by omega), bz, if_pos (by omega)]
theorem x47 (x : Int32) : am_ex (d + 1) 47 [.int x] σ = rI (bz (inR x 1200)) σ := by
  rw [e47, q47_0]
  simp (disch := omega) only [am_in_R, inR, i_lt, i_le, i_n, i_cl, nI_add, pk_mul, i_m1]
  split
  · rw [bz, if_neg (by omega)]
  · split
    · rw [bz, if_neg (by omega)]
    · rw [bz, if_pos (by omega)]
theorem x33 {md : Nat} (hm : σ.1 4 5 = nI md) (hb : md < 8) : am_ex (d + 1) 33 [.ref 4] σ = rI (nI md) (am_set (am_set (am_set σ 20 (upd (σ.1 20) md (nI 0))) 21 (upd (σ.1 21) md (nI 0))) 4 (upd (σ.1 4) 5 (nI (md + 1)))) := by
  rw [e33, q33_0]
  simp (disch := omega) only [am_in_R, inR, i_lt, i_le, i_n, i_cl, nI_add, pk_mul, i_m1, am_wI_s, am_wJ_s, s_eq, s_J, sJ_I, sJ_eq, sJ_k, s_ss, s_ne _ _ (show (4 : Nat) ≠ 20 by decide), s_ne _ _ (show (4 : Nat) ≠ 21 by decide), s_ne _ _ (show (21 : Nat) ≠ 20 by decide), hm, pk_us]
  rw [if_neg (by omega), if_pos (by omega), if_pos (by omega), pk_sub (by omega), Nat.add_sub_cancel]
theorem x34 {md : Nat} (hm : σ.1 4 5 = nI md) (hb : md ≤ 8) (x : Int32) : am_ex (d + 2) 34 [.ref 4, .int x] σ = rI (rd (σ.1 20) md (nI 2) x) σ := by
  rw [e34, q34_0, x46 d σ hm hb, bI_r]
  simp only [bz_0, am_in_R]
  by_cases h : inR x md
  · rw [if_neg (fun z => z h), if_pos (by unfold inR at *; omega), rd, if_pos h]
  · rw [if_pos h, rd, if_neg h]
theorem x35 {md : Nat} (hm : σ.1 4 5 = nI md) (hb : md ≤ 8) (x : Int32) : am_ex (d + 2) 35 [.ref 4, .int x] σ = rI (bz (inR x md ∧ σ.1 20 x.toNatClampNeg = nI 0)) σ := by
  rw [e35, q35_0, x46 d σ hm hb, bI_r]
  simp only [bz_0, am_in_R]
  by_cases h : inR x md
  · rw [if_neg (fun z => z h), if_pos (by unfold inR at *; omega)]
    by_cases h2 : σ.1 20 x.toNatClampNeg = nI 0
    · rw [if_pos h2, bz, if_pos ⟨h, h2⟩]
    · rw [if_neg h2, bz, if_neg (fun z => h2 z.2)]
  · rw [if_pos h, bz, if_neg (fun z => h z.1)]
theorem x36 {md : Nat} (hm : σ.1 4 5 = nI md) (hb : md ≤ 8) (x : Int32) : am_ex (d + 2) 36 [.ref 4, .int x] σ = rI (rd (σ.1 21) md (nI 0) x) σ := by
  rw [e36, q36_0, x46 d σ hm hb, bI_r]
  simp only [bz_0, am_in_R]
  by_cases h : inR x md
  · rw [if_neg (fun z => z h), if_pos (by unfold inR at *; omega), rd, if_pos h]
  · rw [if_pos h, rd, if_neg h]
theorem x37 {md : Nat} (hm : σ.1 4 5 = nI md) (hb : md ≤ 8) (x : Int32) : am_ex (d + 2) 37 [.ref 4, .int x] σ = rI (if inR x md ∧ σ.1 20 x.toNatClampNeg = nI 0 then nI 150 - σ.1 21 x.toNatClampNeg else nI 0) σ := by
  rw [e37, q37_0, x46 d σ hm hb, bI_r]
  simp only [bz_0, am_in_R]
  by_cases h : inR x md
  · rw [if_neg (fun z => z h), if_pos (by unfold inR at *; omega)]
    by_cases h2 : σ.1 20 x.toNatClampNeg = nI 0
    · rw [if_pos h2, if_pos (by unfold inR at *; omega), if_pos ⟨h, h2⟩]
    · rw [if_neg h2, if_neg (fun z => h2 z.2)]
  · rw [if_pos h, if_neg (fun z => h z.1)]
theorem x39 {md m : Nat} (hm : σ.1 4 5 = nI md) (hb : md ≤ 8) (hmm : m < md) (v : Int32) : am_ex (d + 2) 39 [.ref 4, .int (nI m), .int v] σ = rV (if v = nI 2 then am_set (am_set σ 20 (upd (σ.1 20) m v)) 21 (upd (σ.1 21) m (nI 0)) else am_set σ 20 (upd (σ.1 20) m v)) := by
  rw [e39, q39_0, x46 d σ hm hb, bI_r]
  simp only [bz_0]
  rw [if_neg (fun z => z (inR_n hmm (by omega)))]
  simp (disch := omega) only [am_in_R, inR, i_lt, i_le, i_n, i_cl, nI_add, pk_mul, i_m1, am_wI_s, am_wJ_s, s_eq, s_J, sJ_I, sJ_eq, sJ_k, s_ss, s_ne _ _ (show (21 : Nat) ≠ 20 by decide)]
  rw [if_pos (by omega)]
  by_cases h : v = nI 2
  · rw [if_pos h, if_pos (by omega), if_pos h]
  · rw [if_neg h, if_neg h]
theorem x42 (m i : Nat) : am_ex (d + 1) 42 [.ref 4, .int (nI m), .int (nI i)] σ = rI (nI (m * 150 + i)) σ := by
  rw [e42, q42_0, pk_mul, nI_add]
theorem x43 (x : Int32) : am_ex (d + 2) 43 [.ref 4, .int x] σ = rI (rd (σ.1 22) 1200 (nI 0) x) σ := by
  rw [e43, q43_0, x47, bI_r]
  simp only [bz_0, am_in_R]
  by_cases h : inR x 1200
  · rw [if_neg (fun z => z h), if_pos h, rd, if_pos h]
  · rw [if_pos h, rd, if_neg h]
theorem x44 (x : Int32) : am_ex (d + 2) 44 [.ref 4, .int x] σ = rI (rd (σ.1 23) 1200 (-1) x) σ := by
  rw [e44, q44_0, x47, bI_r]
  simp only [bz_0, am_in_R]
  by_cases h : inR x 1200
  · rw [if_neg (fun z => z h), if_pos h, rd, if_pos h]
  · rw [if_pos h, rd, if_neg h]
theorem x45 (x : Int32) : am_ex (d + 2) 45 [.ref 4, .int x] σ = rI (rd (σ.1 24) 1200 (-1) x) σ := by
  rw [e45, q45_0, x47, bI_r]
  simp only [bz_0, am_in_R]
  by_cases h : inR x 1200
  · rw [if_neg (fun z => z h), if_pos h, rd, if_pos h]
  · rw [if_pos h, rd, if_neg h]
/-- an entry is laid on medium m, behind its s entries -/
def wrE (σ : am_M) (m s : Nat) (ki inn out : Int32) : am_M := am_set (am_set (am_set (am_set σ 22 (upd (σ.1 22) (m * 150 + s) ki)) 23 (upd (σ.1 23) (m * 150 + s) inn)) 24 (upd (σ.1 24) (m * 150 + s) out)) 21 (upd (σ.1 21) m (nI (s + 1)))
theorem x40 {md m s : Nat} (hm : σ.1 4 5 = nI md) (hb : md ≤ 8) (hmm : m < md) (hst : σ.1 20 m = nI 0) (hs : σ.1 21 m = nI s) (hs2 : s < 150) (a b c : Int32) : am_ex (d + 3) 40 [.ref 4, .int (nI m), .int a, .int b, .int c] σ = rV (wrE σ m s a b c) := by
  have h1 : inR (nI m) md := inR_n hmm (by omega)
  have hcl : (nI m).toNatClampNeg = m := i_cl (by omega)
  have h37 : am_ex (d + 2) 37 [.ref 4, .int (nI m)] σ = rI (nI (150 - s)) σ := by rw [x37 d σ hm hb, hcl, if_pos ⟨h1, hst⟩, hs, pk_sub (by omega)]
  rw [e40, q40_0, x36 (d) σ hm hb, bI_r, rd_n hmm (by omega), hs, x42, bI_r, x46 (d + 1) σ hm hb, bI_r]
  simp only [bz_0]
  rw [if_neg (fun z => z h1), h37, bI_r, x47, bI_r]
  simp only [bz_0]
  rw [if_neg (by rw [i_le, i_n (by omega), i_n (by omega)]; omega), if_neg (fun z => z (inR_n (by omega) (by omega)))]
  simp (disch := omega) only [am_in_R, inR, i_lt, i_le, i_n, i_cl, nI_add, pk_mul, i_m1, am_wI_s, am_wJ_s, s_eq, s_J, sJ_I, sJ_eq, sJ_k, s_ss, s_ne _ _ (show (23 : Nat) ≠ 22 by decide), s_ne _ _ (show (24 : Nat) ≠ 22 by decide), s_ne _ _ (show (24 : Nat) ≠ 23 by decide), s_ne _ _ (show (21 : Nat) ≠ 22 by decide), s_ne _ _ (show (21 : Nat) ≠ 23 by decide), s_ne _ _ (show (21 : Nat) ≠ 24 by decide), hs]
  rw [if_pos (by omega), if_pos (by omega), if_pos (by omega), if_pos (by omega), if_pos (by omega)]
  rfl
/-! records -/
theorem x57 {rc : Nat} (hr : σ.1 2 2 = nI rc) (hb : rc ≤ 200) : am_ex (d + 1) 57 [.ref 2] σ = rI (bz (rc = 200)) σ := by
  rw [e57, q57_0, hr]
  simp (disch := omega) only [am_in_R, inR, i_lt, i_le, i_n, i_cl, nI_add, pk_mul, i_m1]
  by_cases h : rc = 200
  · rw [bz, if_pos h]; simp [h]
  · rw [bz, if_neg h]
    first | rw [if_pos (by omega)] | rw [if_neg (by omega)]
theorem x58 : am_ex (d + 1) 58 [.ref 2] σ = rI (σ.1 2 2) σ := by rw [e58, q58_0]
theorem x59 {rc : Nat} (hr : σ.1 2 2 = nI rc) (hb : rc < 200) (v : Int32) (w : Int64) : am_ex (d + 1) 59 [.ref 2, .int v, .long w] σ = rI (nI rc) (am_set (am_set (am_setJ σ 14 (vp_updL (σ.2.1 14) rc w)) 15 (upd (σ.1 15) rc v)) 2 (upd (σ.1 2) 2 (nI (rc + 1)))) := by
  rw [e59, q59_0]
  simp (disch := omega) only [am_in_R, inR, i_lt, i_le, i_n, i_cl, nI_add, pk_mul, i_m1, am_wI_s, am_wJ_s, s_eq, s_J, sJ_I, sJ_eq, sJ_k, s_ss, s_ne _ _ (show (2 : Nat) ≠ 15 by decide), hr, pk_us]
  rw [if_neg (by omega), if_pos (by omega), if_pos (by omega), pk_sub (by omega), Nat.add_sub_cancel]
theorem x60 {rc : Nat} (hr : σ.1 2 2 = nI rc) (hb : rc ≤ 200) (x : Int32) : am_ex (d + 1) 60 [.ref 2, .int x] σ = rI (bz (inR x rc)) σ := by
  rw [e60, q60_0, hr]
  simp (disch := omega) only [am_in_R, inR, i_lt, i_le, i_n, i_cl, nI_add, pk_mul, i_m1]
  split
  · rw [bz, if_neg (by omega)]
  · split
    · rw [bz, if_neg (by omega)]
    · rw [if_neg (by omega), bz, if_pos (by omega)]
theorem x61 {rc r : Nat} (hr : σ.1 2 2 = nI rc) (hb : rc ≤ 200) (h : r < rc) : am_ex (d + 2) 61 [.ref 2, .int (nI r)] σ = rJ (σ.2.1 14 r) σ := by
  rw [e61, q61_0, x60 d σ hr hb, bI_r]
  simp only [bz_0]
  rw [if_neg (fun z => z (inR_n h (by omega)))]
  simp (disch := omega) only [am_in_R, inR, i_lt, i_le, i_n, i_cl, nI_add, pk_mul, i_m1]
  rw [if_pos (by omega)]
theorem x62 {rc : Nat} (hr : σ.1 2 2 = nI rc) (hb : rc ≤ 200) (x : Int32) : am_ex (d + 2) 62 [.ref 2, .int x] σ = rI (rd (σ.1 15) rc (-1) x) σ := by
  rw [e62, q62_0, x60 d σ hr hb, bI_r]
  simp only [bz_0, am_in_R]
  by_cases h : inR x rc
  · rw [if_neg (fun z => z h), if_pos (by unfold inR at *; omega), rd, if_pos h]
  · rw [if_pos h, rd, if_neg h]
theorem x63 {rc : Nat} (hr : σ.1 2 2 = nI rc) (hb : rc ≤ 200) (x v : Int32) : am_ex (d + 2) 63 [.ref 2, .int x, .int v] σ = rV (if inR x rc then am_set σ 15 (upd (σ.1 15) x.toNatClampNeg v) else σ) := by
  rw [e63, q63_0, x60 d σ hr hb, bI_r]
  simp only [bz_0, am_in_R]
  by_cases h : inR x rc
  · rw [if_neg (fun z => z h), if_pos (by unfold inR at *; omega), if_pos h]
    rfl
  · rw [if_pos h, if_neg h]
/-! tree -/
theorem x77 (x : Int32) : am_ex (d + 2) 77 [.ref 3, .int x] σ = rI (rd (σ.1 16) 85 (nI 0) x) σ := by
  rw [e77, q77_0, x162, nI_r]
  simp only [bz_0, am_in_R]
  by_cases h : inR x 85
  · rw [if_neg (fun z => z h), if_pos h, rd, if_pos h]
  · rw [if_pos h, rd, if_neg h]
theorem x78 (x : Int32) : am_ex (d + 3) 78 [.ref 3, .int x] σ = rI (bz (rd (σ.1 16) 85 (nI 0) x ≠ nI 0)) σ := by
  rw [e78, q78_0, x77, bI_r]
  by_cases h : rd (σ.1 16) 85 (nI 0) x = nI 0
  · rw [if_pos h, bz, if_neg (fun z => z h)]
  · rw [if_neg h, bz, if_pos h]
theorem x79 (x : Int32) : am_ex (d + 2) 79 [.ref 3, .int x] σ = rI (rd (σ.1 17) 64 (-1) x) σ := by
  rw [e79, q79_0, x163, nI_r]
  simp only [bz_0, am_in_R]
  by_cases h : inR x 64
  · rw [if_neg (fun z => z h), if_pos h, rd, if_pos h]
  · rw [if_pos h, rd, if_neg h]
theorem x80 (x : Int32) : am_ex (d + 2) 80 [.ref 3, .int x] σ = rI (rd (σ.1 18) 64 (-1) x) σ := by
  rw [e80, q80_0, x163, nI_r]
  simp only [bz_0, am_in_R]
  by_cases h : inR x 64
  · rw [if_neg (fun z => z h), if_pos h, rd, if_pos h]
  · rw [if_pos h, rd, if_neg h]
theorem x81 (x t : Int32) : am_ex (d + 3) 81 [.ref 3, .int x, .int t] σ = rI (bz (rd (σ.1 18) 64 (-1) x ≠ -1 ∧ rd (σ.1 18) 64 (-1) x ≤ t)) σ := by
  rw [e81, q81_0, x80, bI_r]
  generalize rd (σ.1 18) 64 (-1) x = y
  by_cases h : y = -1
  · rw [if_pos h, show bz (y ≠ -1 ∧ y ≤ t) = nI 0 from if_neg (fun z => z.1 h)]
  · rw [if_neg h]
    by_cases h2 : y ≤ t
    · rw [show bz (y ≠ -1 ∧ y ≤ t) = nI 1 from if_pos ⟨h, h2⟩, if_neg (by rw [i_lt]; rw [i_le] at h2; omega)]
    · rw [show bz (y ≠ -1 ∧ y ≤ t) = nI 0 from if_neg (fun z => h2 z.2), if_pos (by rw [i_lt]; rw [i_le] at h2; omega)]
theorem x82 (x : Int32) : am_ex (d + 2) 82 [.ref 3, .int x] σ = rI (bz (rd (σ.1 19) 64 (nI 0) x ≠ nI 0)) σ := by
  rw [e82, q82_0, x163, nI_r]
  simp only [bz_0, am_in_R]
  by_cases h : inR x 64
  · rw [if_neg (fun z => z h), if_pos h]
    simp only [rd, if_pos h]
    by_cases h2 : σ.1 19 x.toNatClampNeg = nI 0
    · rw [if_pos h2, bz, if_neg (fun z => z h2)]
    · rw [if_neg h2, bz, if_pos h2]
  · rw [if_pos h]
    simp only [rd, if_neg h]
    rw [bz, if_neg (fun z => z rfl)]
theorem x83 {k : Nat} (h : k < 64) (v : Int32) : am_ex (d + 2) 83 [.ref 3, .int (nI k), .int v] σ = rV (am_set σ 17 (upd (σ.1 17) k v)) := by
  rw [e83, q83_0, x163, nI_r]
  simp only [bz_0]
  rw [if_neg (fun z => z (inR_n h (by omega)))]
  simp (disch := omega) only [am_in_R, inR, i_lt, i_le, i_n, i_cl, nI_add, pk_mul, i_m1, am_wI_s, am_wJ_s, s_eq, s_J, sJ_I, sJ_eq, sJ_k, s_ss]
  rw [if_pos (by omega)]
theorem x84 {k : Nat} (h : k < 64) (v : Int32) : am_ex (d + 2) 84 [.ref 3, .int (nI k), .int v] σ = rV (am_set σ 18 (upd (σ.1 18) k v)) := by
  rw [e84, q84_0, x163, nI_r]
  simp only [bz_0]
  rw [if_neg (fun z => z (inR_n h (by omega)))]
  simp (disch := omega) only [am_in_R, inR, i_lt, i_le, i_n, i_cl, nI_add, pk_mul, i_m1, am_wI_s, am_wJ_s, s_eq, s_J, sJ_I, sJ_eq, sJ_k, s_ss]
  rw [if_pos (by omega)]
theorem x85 {k : Nat} (h : k < 64) (v : Int32) : am_ex (d + 2) 85 [.ref 3, .int (nI k), .int v] σ = rV (am_set σ 19 (upd (σ.1 19) k (vp_nar .boolean v))) := by
  rw [e85, q85_0, x163, nI_r]
  simp only [bz_0]
  rw [if_neg (fun z => z (inR_n h (by omega)))]
  simp (disch := omega) only [am_in_R, inR, i_lt, i_le, i_n, i_cl, nI_add, pk_mul, i_m1, am_wI_s, am_wJ_s, s_eq, s_J, sJ_I, sJ_eq, sJ_k, s_ss]
  rw [if_pos (by omega)]
end ACC
