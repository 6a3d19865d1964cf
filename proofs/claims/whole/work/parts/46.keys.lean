/-! keys, custodians' keys, media: both sides -/
section KEY
variable (d : Nat) (σ : am_M)
theorem c120 (x : Int32) : am_ex (d + 4) 120 [.ref 0, .int x] σ = if inR x 85 then rI (if σ.1 16 x.toNatClampNeg = nI 0 then -1 else σ.1 16 x.toNatClampNeg) σ else rX xIO (am_tick σ) := by
  rw [e120, q120_0, x144 (d + 2) σ x (by omega)]
  by_cases h : inR x 85
  · rw [if_pos h, if_pos h, bV_r, x78, bI_r]
    simp only [bz_0]
    rw [x77, bI_r, rd, if_pos h]
    by_cases h1 : σ.1 16 x.toNatClampNeg = nI 0
    · rw [if_pos (fun z => z h1), if_pos h1]
    · rw [if_neg (fun z => z h1), if_neg h1]
  · rw [if_neg h, if_neg h, bV_x]
theorem y236 (x : Int32) : am_ex (d + 3) 236 [.ref 34, .int x] σ = if inR x 85 then rI (if σ.1 35 x.toNatClampNeg = nI 0 then -1 else σ.1 35 x.toNatClampNeg) (th σ (nI 0)) else rI (nI 0) (th σ (nI 1)) := by
  rw [e236, q236_0, x183, bI_r]
  by_cases h : inR x 85
  · rw [bz_t h, if_neg n10, q236_13, th_w, th_v, if_pos le00, if_pos (am_t h), if_pos (am_t h), if_pos h, th_ne _ _ (by decide)]
    split <;> rfl
  · rw [bz_f h, if_pos rfl, q236_13, th_w, th_v, if_neg le10, if_neg h]
theorem c121 {kc : Nat} (hk : σ.1 1 2 = nI kc) (hb : kc ≤ 2048) (x : Int32) : am_ex (d + 3) 121 [.ref 0, .int x] σ = if mdR x kc then rI (valF (σ.1 1 1) x) σ else rX xIO (am_tick σ) := by
  rw [e121, q121_0, x24 _ σ hk hb, bI_r]
  by_cases h : mdR x kc
  · rw [bz_t h, if_neg n10, x30, bI_r, if_pos h]
  · rw [bz_f h, if_pos rfl, if_neg h]
theorem y237 {kc : Nat} (hk : σ.1 34 21 = nI kc) (hb : kc ≤ 2048) (x : Int32) : am_ex (d + 3) 237 [.ref 34, .int x] σ = if mdR x kc then rI (valF (σ.1 34 20) x) (th σ (nI 0)) else rI (nI 0) (th σ (nI 1)) := by
  rw [e237, q237_0, x173, bI_r, hk]
  have : ((1 : Int64).toInt ≤ (x.toInt64).toInt ∧ (x.toInt64).toInt ≤ ((nI kc).toInt64).toInt) ↔ mdR x kc := by
    rw [i_64, i_64, i_n (by omega), show (1 : Int64).toInt = 1 by decide +kernel]
  rw [bz_c this]
  by_cases h : mdR x kc
  · rw [bz_t h, if_neg n10, q237_20, th_w, th_v, if_pos le00, x178, bI_r, if_pos h, th_f _ _ (by decide)]
  · rw [bz_f h, if_pos rfl, q237_20, th_w, th_v, if_neg le10, if_neg h]
theorem c122 {c p : Nat} (hc : c < 4) (hp : p < 85) : am_ex (d + 4) 122 [.ref 0, .int (nI c), .int (nI p)] σ = if σ.1 16 p = nI 0 then rX xIS (am_tick σ) else rI (σ.1 16 p) (am_set (am_set σ 11 (upd (σ.1 11) c (σ.1 16 p))) 12 (upd (σ.1 12) c (nI p))) := by
  rw [e122, q122_0, x144 (d + 2) σ _ (by omega), if_pos (inR_n hc (by omega)), bV_r, x144 (d + 2) σ _ (by omega), if_pos (inR_n hp (by omega)), bV_r, x78, bI_r]
  simp only [bz_0]
  rw [x77, bI_r, rd_n hp (by omega)]
  by_cases h1 : σ.1 16 p = nI 0
  · rw [if_pos (fun z => z h1), if_pos h1]
  · rw [if_neg (fun z => z h1), if_neg h1, if_pos (am_k hc (by omega)), if_pos (am_k hc (by omega)), if_pos (am_k hc (by omega)), i_cl (by omega), am_wI_s, am_wI_s, s_ne _ _ (show (11 : Nat) ≠ 12 by decide), s_eq, s_ne _ _ (show (12 : Nat) ≠ 11 by decide)]
    rw [show upd (σ.1 11) c (σ.1 16 p) c = σ.1 16 p from if_pos rfl]
theorem c122x (x y : Int32) (h : ¬ (inR x 4 ∧ inR y 85)) : am_ex (d + 2) 122 [.ref 0, .int x, .int y] σ = rX xIO (am_tick σ) := by
  rw [e122, q122_0, x144 d σ _ (by omega)]
  by_cases h1 : inR x 4
  · rw [if_pos h1, bV_r, x144 d σ _ (by omega), if_neg (fun z => h ⟨h1, z⟩), bV_x]
  · rw [if_neg h1, bV_x]
theorem y238 {c p : Nat} (hc : c < 4) (hp : p < 85) : am_ex (d + 3) 238 [.ref 34, .int (nI c), .int (nI p)] σ = if σ.1 35 p = nI 0 then rI (nI 0) (th σ (nI 2)) else rI (σ.1 35 p) (am_set (am_set (th σ (nI 0)) 39 (upd (σ.1 39) c (σ.1 35 p))) 40 (upd (σ.1 40) c (nI p))) := by
  rw [e238, q238_0, x208, bI_r, bz_t (inR_n hc (by omega)), if_neg n10, x183, bI_r, bz_t (inR_n hp (by omega)), if_neg n10, if_pos (am_k hp (by omega)), i_cl (by omega)]
  by_cases h1 : σ.1 35 p = nI 0
  · rw [if_pos h1, q238_33, th_w, th_v, if_neg le20, if_pos h1]
  · rw [if_neg h1, q238_33, th_w, th_v, if_pos le00, if_pos (am_k hp (by omega)), if_pos (am_k hc (by omega)), if_pos (am_k hc (by omega)), if_pos (am_k hp (by omega)), if_neg h1, i_cl (by omega), i_cl (by omega), am_wI_s, am_wI_s, s_ne _ _ (show (35 : Nat) ≠ 40 by decide), s_ne _ _ (show (35 : Nat) ≠ 39 by decide), s_ne _ _ (show (40 : Nat) ≠ 39 by decide), th_ne _ _ (show 35 ≠ 34 by decide), th_ne _ _ (show 39 ≠ 34 by decide), th_ne _ _ (show 40 ≠ 34 by decide)]
theorem y238x (x y : Int32) (h : ¬ (inR x 4 ∧ inR y 85)) : am_ex (d + 3) 238 [.ref 34, .int x, .int y] σ = rI (nI 0) (th σ (nI 1)) := by
  rw [e238, q238_0, x208, bI_r]
  by_cases h1 : inR x 4
  · rw [bz_t h1, if_neg n10, x183, bI_r, bz_f (fun z => h ⟨h1, z⟩), if_pos rfl, q238_15, q238_33, th_w, th_v, if_neg le10]
  · rw [bz_f h1, if_pos rfl, q238_15, q238_33, th_w, th_v, if_neg le10]
theorem c123 (x : Int32) : am_ex (d + 2) 123 [.ref 0, .int x] σ = if inR x 4 then rI (σ.1 11 x.toNatClampNeg) (am_set (am_set σ 11 (upd (σ.1 11) x.toNatClampNeg (-1))) 12 (upd (σ.1 12) x.toNatClampNeg (-1))) else rX xIO (am_tick σ) := by
  rw [e123, q123_0, x144 d σ x (by omega)]
  by_cases h : inR x 4
  · rw [if_pos h, if_pos h, bV_r, if_pos (am_t h), if_pos (am_t h), if_pos (am_t h), am_wI_s, am_wI_s, s_ne _ _ (show (12 : Nat) ≠ 11 by decide)]
  · rw [if_neg h, if_neg h, bV_x]
theorem y239 (x : Int32) : am_ex (d + 3) 239 [.ref 34, .int x] σ = if inR x 4 then rI (if σ.1 39 x.toNatClampNeg = nI 0 then -1 else σ.1 39 x.toNatClampNeg) (am_set (th σ (nI 0)) 39 (upd (σ.1 39) x.toNatClampNeg (nI 0))) else rI (nI 0) (th σ (nI 1)) := by
  rw [e239, q239_0, x208, bI_r]
  by_cases h : inR x 4
  · rw [bz_t h, if_neg n10, q239_13, th_w, th_v, if_pos le00, if_pos (am_t h), if_pos (am_t h), if_pos h, q239_44, q239_44, if_pos (am_t h), if_pos (am_t h), am_wI_s, th_ne _ _ (by decide)]
    split <;> rfl
  · rw [bz_f h, if_pos rfl, q239_13, th_w, th_v, if_neg le10, if_neg h]
theorem c128 {md : Nat} (hm : σ.1 4 5 = nI md) (hb : md ≤ 8) : am_ex (d + 2) 128 [.ref 0] σ = if md < 8 then rI (nI md) (am_set (am_set (am_set σ 20 (upd (σ.1 20) md (nI 0))) 21 (upd (σ.1 21) md (nI 0))) 4 (upd (σ.1 4) 5 (nI (md + 1)))) else rX xIS (am_tick σ) := by
  rw [e128, q128_0, x32, bI_r, hm]
  by_cases h : md < 8
  · rw [if_pos (by rw [i_lt, i_n (by omega), i_n (by omega)]; omega), x33 d σ hm h, bI_r, if_pos h]
  · rw [if_neg (by rw [i_lt, i_n (by omega), i_n (by omega)]; omega), if_neg h]
theorem y248 {md : Nat} (hm : σ.1 34 22 = nI md) (hb : md ≤ 8) : am_ex (d + 1) 248 [.ref 34] σ = if md < 8 then rI (nI md) (am_set (am_set (am_set (th σ (nI 0)) 44 (upd (σ.1 44) md (nI 0))) 45 (upd (σ.1 45) md (nI 0))) 34 (upd ((th σ (nI 0)).1 34) 22 (nI (md + 1)))) else rI (nI 0) (th σ (nI 1)) := by
  rw [e248, q248_0, hm]
  by_cases h : md < 8
  · rw [if_neg (by rw [i_eq, i_n (by omega), i_n (by omega)]; omega), q248_15, th_w, th_v, if_pos le00, if_pos h]
    simp only [am_wI_s, s_ne _ _ (show (34 : Nat) ≠ 45 by decide), s_ne _ _ (show (34 : Nat) ≠ 44 by decide), s_ne _ _ (show (45 : Nat) ≠ 44 by decide), s_eq]
    rw [th_f _ _ (by decide), hm, if_pos (am_k h (by omega)), if_pos (am_k h (by omega)), i_cl (by omega), th_ne _ _ (show (44 : Nat) ≠ 34 by decide), th_ne _ _ (show (45 : Nat) ≠ 34 by decide), show nI md + nI 1 = nI (md + 1) from nI_1 md]
    rw [show upd ((th σ (nI 0)).1 34) 22 (nI (md + 1)) 22 = nI (md + 1) from if_pos rfl, show nI (md + 1) - nI 1 = nI md by rw [i_eq, i_pred (by omega), i_n (by omega)]; omega]
  · rw [if_pos (by rw [i_eq, i_n (by omega), i_n (by omega)]; omega), q248_15, th_w, th_v, if_neg le10, if_neg h]
theorem c129 : am_ex (d + 2) 129 [.ref 0] σ = rI (σ.1 4 5) σ := by rw [e129, q129_0, x32, bI_r]
theorem y249 : am_ex (d + 1) 249 [.ref 34] σ = rI (σ.1 34 22) (th σ (nI 0)) := by rw [e249, q249_0, th_w, th_f _ _ (by decide)]
/-- the mask over a record's content -/
noncomputable def msk (s b : Int32) : Int64 := (((mixF (valF s b + nI 1)).toInt64) <<< ((nI 32 : Int32).toInt64 &&& 63)) ||| (((mixF (valF s b + nI 2)).toInt64) &&& (4294967295))
/-- a wrapped key -/
noncomputable def wrp (s a b : Int32) : Int32 := valF s a ^^^ mixF (valF s b ^^^ a)
theorem x159 {a : Nat} (ha : a < 1200) : am_ex (d + 3) 159 [.ref 0, .int (nI a)] σ = rI (wrp (σ.1 1 1) (σ.1 23 a) (σ.1 24 a)) σ := by
  rw [e159, q159_0, x44, bI_r, rd_n ha (by omega), x30, bI_r, x45, bI_r, rd_n ha (by omega), x30, bI_r, xmix, bI_r]; rfl
theorem x160 {a rc r : Nat} (ha : a < 1200) (hr : σ.1 2 2 = nI rc) (hb : rc ≤ 200) (hi : σ.1 23 a = nI r) (hrr : r < rc) : am_ex (d + 3) 160 [.ref 0, .int (nI a)] σ = rJ (σ.2.1 14 r ^^^ msk (σ.1 1 1) (σ.1 24 a)) σ := by
  rw [e160, q160_0, x45, bI_r, rd_n ha (by omega), x30, bI_r, xmix, bI_r, xmix, bI_r, x44, bI_r, rd_n ha (by omega), hi, x61 _ σ hr hb hrr, bJ_r]; rfl
theorem y190 (b : Int32) : am_ex (d + 3) 190 [.ref 34, .int b] σ = rJ (msk (σ.1 34 20) b) σ := by
  rw [e190, q190_0, x178, bI_r, xmixM, bI_r, x178, bI_r, xmixM, bI_r]; rfl
theorem y177 {kc : Nat} (hk : σ.1 34 21 = nI kc) : am_ex (d + 1) 177 [.ref 34] σ = rI (nI (kc + 1)) (am_set σ 34 (upd (σ.1 34) 21 (nI (kc + 1)))) := by
  rw [e177, q177_0, hk, show nI kc + nI 1 = nI (kc + 1) from nI_1 kc, am_wI_s, s_eq, show upd (σ.1 34) 21 (nI (kc + 1)) 21 = nI (kc + 1) from if_pos rfl]
theorem y187 {md m s n : Nat} (hb : md ≤ 8) (hmm : m < md) (hs : σ.1 45 m = nI s) (hs2 : s ≤ 150) (hn : n < 1000) : am_ex (d + 1) 187 [.ref 34, .int (nI m), .int (nI n)] σ = rI (bz (s + n ≤ 150 ∨ n = 0)) σ := by
  rw [e187, q187_0]
  simp (disch := omega) only [am_in_R, inR, i_lt, i_eq, i_n, i_cl, i_m1, hs, nI_add]
  by_cases h : n = 0
  · rw [if_pos (by omega), bz_t (Or.inr h)]
  · rw [if_neg (by omega), if_neg (by omega), if_pos (by omega)]
    by_cases h1 : s + n ≤ 150
    · rw [if_neg (by omega), bz_t (Or.inl h1)]
    · rw [if_pos (by omega), bz_f (by omega)]
theorem y187n (n : Nat) (hn : n < 1000) : am_ex (d + 1) 187 [.ref 34, .int (-1), .int (nI n)] σ = rI (bz (n = 0)) σ := by
  rw [e187, q187_0, if_pos (show (-1 : Int32) = -1 from rfl)]
  by_cases h : n = 0
  · rw [if_pos (by rw [h]), bz_t h]
  · rw [if_neg (by rw [i_eq, i_n (by omega), i_n (by omega)]; omega), bz_f h]
/-- an entry of the reference -/
def wrM (σ : am_M) (m s : Nat) (ki inn out : Int32) (w : Int64) : am_M := am_set (am_setJ (am_set (am_set (am_set σ 46 (upd (σ.1 46) (m * 150 + s) ki)) 47 (upd (σ.1 47) (m * 150 + s) inn)) 48 (upd (σ.1 48) (m * 150 + s) out)) 49 (vp_updL (σ.2.1 49) (m * 150 + s) w)) 45 (upd (σ.1 45) m (nI (s + 1)))
theorem at_n {m s : Nat} (hm : m < 8) (hs : s < 151) : nI 150 * nI m + nI s = nI (m * 150 + s) := by
  rw [pk_mul, nI_add, Nat.mul_comm]
theorem y188 {m s : Nat} (hmm : m < 8) (hs : σ.1 45 m = nI s) (hs2 : s < 150) (a b c : Int32) (w : Int64) : am_ex (d + 1) 188 [.ref 34, .int (nI m), .int a, .int b, .int c, .long w] σ = rV (wrM σ m s a b c w) := by
  rw [e188, q188_0, if_pos (am_k hmm (by omega)), i_cl (by omega), hs, at_n hmm (by omega)]
  rw [if_pos (am_k (by omega) (by omega)), if_pos (am_k (by omega) (by omega)), if_pos (am_k (by omega) (by omega)), if_pos (am_k (by omega) (by omega)), if_pos (am_k (by omega) (by omega)), if_pos (am_k (by omega) (by omega)), i_cl (by omega)]
  simp only [am_wI_s, am_wJ_s, s_eq, s_J, sJ_I, s_ne _ _ (show (47 : Nat) ≠ 46 by decide), s_ne _ _ (show (48 : Nat) ≠ 47 by decide), s_ne _ _ (show (48 : Nat) ≠ 46 by decide), s_ne _ _ (show (45 : Nat) ≠ 48 by decide), s_ne _ _ (show (45 : Nat) ≠ 47 by decide), s_ne _ _ (show (45 : Nat) ≠ 46 by decide), hs, show nI s + nI 1 = nI (s + 1) from nI_1 s]
  rfl
theorem y189 {md m s : Nat} (hm : σ.1 34 22 = nI md) (hb : md ≤ 8) (hw : wrt (σ.1 44) (-1) md = nI m) (hmm : m < 8) (hs : σ.1 45 m = nI s) (hs2 : s < 150) (a b : Int32) : am_ex (d + 3) 189 [.ref 34, .int a, .int b] σ = rV (wrM σ m s (nI 0) a b (wrp (σ.1 34 20) a b).toInt64) := by
  rw [e189, q189_0, x186 _ σ hm hb, bI_r, hw, x178, bI_r, x178, bI_r, xmixM, bI_r, y188 _ σ hmm hs hs2, bV_r]; rfl
/-- what an entry shows -/
theorem c131 {md m i s rc w : Nat} (hm : σ.1 4 5 = nI md) (hb : md ≤ 8) (hmm : m < md) (hs : σ.1 21 m = nI s) (hs2 : s ≤ 150) (hi : i < s) (hr : σ.1 2 2 = nI rc) (hrb : rc ≤ 200) (hw : w < 4) (hk : σ.1 22 (m * 150 + i) = nI 0 ∨ (σ.1 22 (m * 150 + i) = nI 1 ∧ ∃ r, r < rc ∧ σ.1 23 (m * 150 + i) = nI r)) : am_ex (d + 4) 131 [.ref 0, .int (nI m), .int (nI i), .int (nI w)] σ = rJ (if w = 0 then (σ.1 22 (m * 150 + i)).toInt64 else if w = 1 then (σ.1 23 (m * 150 + i)).toInt64 else if w = 2 then (σ.1 24 (m * 150 + i)).toInt64 else if σ.1 22 (m * 150 + i) = nI 0 then (wrp (σ.1 1 1) (σ.1 23 (m * 150 + i)) (σ.1 24 (m * 150 + i))).toInt64 else σ.2.1 14 (σ.1 23 (m * 150 + i)).toNatClampNeg ^^^ msk (σ.1 1 1) (σ.1 24 (m * 150 + i))) σ := by
  have ha : m * 150 + i < 1200 := by omega
  rw [e131, q131_0, x32, bI_r, hm, x144 _ σ _ (by omega), if_pos (inR_n hmm (by omega)), bV_r, x36 _ σ hm hb, bI_r, rd_n hmm (by omega), hs, x144 _ σ _ (by omega), if_pos (inR_n hi (by omega)), bV_r, x145 _ σ _ (by omega), if_pos (inR_n hw (by omega)), bV_r, x42, bI_r, x43, bI_r, x44, bI_r, x45, bI_r, rd_n ha (by omega), rd_n ha (by omega), rd_n ha (by omega), bI_r, x159 _ σ ha, bI_r]
  simp (disch := omega) only [i_eq (nI w), i_n]
  by_cases h0 : w = 0
  · rw [if_pos (by omega), if_pos h0]
  · rw [if_neg (by omega), if_neg h0]
    by_cases h1 : w = 1
    · rw [if_pos (by omega), if_pos h1]
    · rw [if_neg (by omega), if_neg h1]
      by_cases h2 : w = 2
      · rw [if_pos (by omega), if_pos h2]
      · rw [if_neg (by omega), if_neg h2]
        rcases hk with hk | ⟨hk, r, hr1, hr2⟩
        · rw [if_pos hk, if_pos hk]
        · rw [if_neg (by rw [hk]; exact n10), if_neg (by rw [hk]; exact n10), x160 _ σ ha hr hrb hr2 hr1, bJ_r, hr2, i_cl (by omega)]
theorem c131x {md : Nat} (hm : σ.1 4 5 = nI md) (hb : md ≤ 8) (x y z : Int32) (hz : ∀ m, m < md → ∃ s, s ≤ 150 ∧ σ.1 21 m = nI s) : (¬ (inR x md ∧ 0 ≤ y.toInt ∧ y.toInt < (σ.1 21 x.toNatClampNeg).toInt) → am_ex (d + 4) 131 [.ref 0, .int x, .int y, .int z] σ = rX xIO (am_tick σ)) ∧ ((inR x md ∧ 0 ≤ y.toInt ∧ y.toInt < (σ.1 21 x.toNatClampNeg).toInt) → ¬ inR z 4 → am_ex (d + 4) 131 [.ref 0, .int x, .int y, .int z] σ = rX xIA (am_tick σ)) := by
  rw [e131, q131_0, x32, bI_r, hm, x144 _ σ _ (by omega)]
  constructor
  · intro h
    by_cases h1 : inR x md
    · obtain ⟨s, hs, hs2⟩ := hz _ (inR_of h1).2
      rw [if_pos h1, bV_r, x36 _ σ hm hb, bI_r, rd, if_pos h1, hs2, x144 _ σ _ (by omega), if_neg (fun q => h ⟨h1, q.1, by rw [hs2, i_n (by omega)]; exact q.2⟩), bV_x]
    · rw [if_neg h1, bV_x]
  · rintro ⟨h1, h2, h3⟩ h4
    obtain ⟨s, hs, hs2⟩ := hz _ (inR_of h1).2
    rw [hs2, i_n (by omega)] at h3
    rw [if_pos h1, bV_r, x36 _ σ hm hb, bI_r, rd, if_pos h1, hs2, x144 _ σ _ (by omega), if_pos ⟨h2, h3⟩, bV_r, x145 _ σ _ (by omega), if_neg h4, bV_x]
theorem y255 {md m i s w : Nat} (hm : σ.1 34 22 = nI md) (hb : md ≤ 8) (hmm : m < md) (hs : σ.1 45 m = nI s) (hs2 : s ≤ 150) (hi : i < s) (hw : w < 4) : am_ex (d + 3) 255 [.ref 34, .int (nI m), .int (nI i), .int (nI w)] σ = rJ (if w = 0 then (σ.1 46 (m * 150 + i)).toInt64 else if w = 1 then (σ.1 47 (m * 150 + i)).toInt64 else if w = 2 then (σ.1 48 (m * 150 + i)).toInt64 else σ.2.1 49 (m * 150 + i)) (th σ (nI 0)) := by
  rw [e255, q255_0, x185 _ σ hm hb, bI_r, bz_t (inR_n hmm (by omega)), if_neg n10, if_pos (am_k (by omega) (by omega)), i_cl (by omega), hs, x173, bI_r, bz_t (by rw [i_64, i_64, i_n (by omega), i_pred (by omega), show (0 : Int64).toInt = 0 by decide +kernel]; omega), if_neg n10, x173, bI_r, bz_t (by rw [i_64, i_n (by omega), show (0 : Int64).toInt = 0 by decide +kernel, show (3 : Int64).toInt = 3 by decide +kernel]; omega), if_neg n10, q255_48, th_w, th_v, if_pos le00, at_n (by omega) (by omega), if_pos (am_k (by omega) (by omega)), if_pos (am_k (by omega) (by omega)), if_pos (am_k (by omega) (by omega)), if_pos (am_k (by omega) (by omega)), i_cl (by omega)]
  simp (disch := omega) only [i_eq (nI w), i_n]
  rw [th_ne _ _ (by decide), th_ne _ _ (by decide), th_ne _ _ (by decide), th_J]
  by_cases h0 : w = 0
  · rw [if_pos (by omega), if_pos h0]
  · rw [if_neg (by omega), if_neg h0]
    by_cases h1 : w = 1
    · rw [if_pos (by omega), if_pos h1]
    · rw [if_neg (by omega), if_neg h1]
      by_cases h2 : w = 2
      · rw [if_pos (by omega), if_pos h2]
      · rw [if_neg (by omega), if_neg h2]
theorem y255x {md : Nat} (hm : σ.1 34 22 = nI md) (hb : md ≤ 8) (x y z : Int32) (hz : ∀ m, m < md → ∃ s, s ≤ 150 ∧ σ.1 45 m = nI s) : (¬ (inR x md ∧ 0 ≤ y.toInt ∧ y.toInt < (σ.1 45 x.toNatClampNeg).toInt) → am_ex (d + 3) 255 [.ref 34, .int x, .int y, .int z] σ = rJ 0 (th σ (nI 1))) ∧ ((inR x md ∧ 0 ≤ y.toInt ∧ y.toInt < (σ.1 45 x.toNatClampNeg).toInt) → ¬ inR z 4 → am_ex (d + 3) 255 [.ref 34, .int x, .int y, .int z] σ = rJ 0 (th σ (nI 2))) := by
  rw [e255, q255_0, x185 _ σ hm hb, bI_r, q255_27, q255_48, th_w, th_v, if_neg le10]
  constructor
  · intro h
    by_cases h1 : inR x md
    · obtain ⟨s, hs, hs2⟩ := hz _ (inR_of h1).2
      rw [bz_t h1, if_neg n10, if_pos (am_t ⟨h1.1, by have := h1.2; omega⟩), hs2, x173, bI_r, bz_f (by
        rw [i_64, i_64, i_pred (by omega), show (0 : Int64).toInt = 0 by decide +kernel]
        intro q
        refine h ⟨h1, q.1, ?_⟩
        rw [hs2, i_n (by omega)]; omega), if_pos rfl, q255_27, q255_48, th_w, th_v, if_neg le10]
    · rw [bz_f h1, if_pos rfl]
  · rintro ⟨h1, h2, h3⟩ h4
    obtain ⟨s, hs, hs2⟩ := hz _ (inR_of h1).2
    rw [hs2, i_n (by omega)] at h3
    rw [bz_t h1, if_neg n10, if_pos (am_t ⟨h1.1, by have := h1.2; omega⟩), hs2, x173, bI_r, bz_t (by
        rw [i_64, i_64, i_pred (by omega), show (0 : Int64).toInt = 0 by decide +kernel]; omega), if_neg n10, x173, bI_r, bz_f (by
        rw [i_64, show (0 : Int64).toInt = 0 by decide +kernel, show (3 : Int64).toInt = 3 by decide +kernel]
        intro q
        exact h4 ⟨q.1, by omega⟩), if_pos rfl, q255_48, th_w, th_v, if_neg le20]
end KEY
