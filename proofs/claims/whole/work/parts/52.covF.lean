/-! reading, counting, losing: both sides -/
section CVF
variable (d : Nat) (σ : am_M) {c kc md rc td : Nat} {lev rk : Nat → Nat}
theorem aw_1 : aw (-1) = -1 := if_pos rfl
theorem aw_k {m : Nat} (hm : m < 8) : aw (nI m) = (nI 1 <<< (nI m &&& 31)) ^^^ (-1) := if_neg (nI_nm (by omega))
theorem smG (σ : am_M) (md : Nat) : Sm σ (gAl σ md) := (Sm.refl σ).set (by decide) _
/-- a record that can be read is there -/
theorem rd_r (h : Inv c kc md rc td lev rk σ) {b : Int32} {k : Nat} (hk : k < 64) (hr : rdP σ md b k) : ∃ r, r < rc ∧ σ.1 17 k = nI r :=
  (h.core.rec k hk).elim (fun z => absurd hr.1 (inP_e σ h b hk z)) (fun ⟨r, h1, h2, _⟩ => ⟨r, h1, h2⟩)
theorem c99 (h : Inv c kc md rc td lev rk σ) {k : Nat} (hk : k < 64) : am_ex (d + 6) 99 [.ref 0, .int (nI k)] σ = if rdP σ md (-1) k then rJ (σ.2.1 14 (σ.1 17 k).toNatClampNeg) (gAl σ md) else rX xNS (am_tick (gAl σ md)) := by
  have hmb := h.core.mdb
  have hrb := h.core.rcb
  rw [e99, q99_0, x144 _ σ _ (by omega), if_pos (inR_n hk (by omega)), bV_r, x0 d σ h, bV_r]
  have hx := x1 (d + 3) σ hmb.2 (Or.inl rfl) hk
  rw [aw_1] at hx
  rw [hx, bI_r]
  by_cases hp : rdP σ md (-1) k
  · obtain ⟨r, h1, h2⟩ := rd_r σ h hk hp
    rw [bz_t hp, if_neg n10, if_pos hp, x79, bI_r, rd_n hk (by omega), s_ne _ _ (by decide), h2, x61 _ _ (by rw [s_ne _ _ (by decide)]; exact h.hr) hrb h1, bJ_r, i_cl (by omega)]
    rfl
  · rw [bz_f hp, if_pos rfl, if_neg hp]
theorem c99x (x : Int32) (h : ¬ inR x 64) : am_ex (d + 2) 99 [.ref 0, .int x] σ = rX xIO (am_tick σ) := by
  rw [e99, q99_0, x144 d σ _ (by omega), if_neg h, bV_x]
theorem y203 (h : Inv c kc md rc td lev rk σ) {k : Nat} (hk : k < 64) : am_ex (d + 4) 203 [.ref 34, .int (nI k)] σ = if rdP σ md (-1) k then rJ (σ.2.1 14 (σ.1 17 k).toNatClampNeg) (th σ (nI 0)) else rJ 0 (th σ (nI 2)) := by
  have hrb := h.core.rcb
  rw [e203, q203_0, x182, bI_r, bz_t (inR_n hk (by omega)), if_neg n10, y193 d σ h _ hk, bI_r]
  by_cases hp : rdP σ md (-1) k
  · obtain ⟨r, h1, h2⟩ := rd_r σ h hk hp
    rw [bz_t hp, if_neg n10, if_pos hp, q203_26, th_w, th_v, if_pos le00, if_pos (am_k hk (by omega)), i_cl (by omega), th_ne _ _ (by decide), h.e37, h2, if_pos (am_k (by omega) (by omega)), th_J, h.e50]
  · rw [bz_f hp, if_pos rfl, if_neg hp, q203_26, th_w, th_v, if_neg le20]
theorem y203x (x : Int32) (h : ¬ inR x 64) : am_ex (d + 3) 203 [.ref 34, .int x] σ = rJ 0 (th σ (nI 1)) := by
  rw [e203, q203_0, x182, bI_r, bz_f h, if_pos rfl, q203_26, th_w, th_v, if_neg le10]
/-- of those with P, the ones without Q -/
theorem cnt_sub {P Q : Nat → Prop} [DecidablePred P] [DecidablePred Q] : ∀ n i, (∀ j, i ≤ j → j < i + n → Q j → P j) → cnt (fun j => P j ∧ ¬ Q j) i n + cnt Q i n = cnt P i n := by
  intro n
  induction n with
  | zero => intro i _; rfl
  | succ n ih =>
    intro i h
    have := ih (i + 1) (fun j h1 h2 => h j (by omega) (by omega))
    rw [cnt, cnt, cnt]
    by_cases hq : Q i
    · have hp := h i (by omega) (by omega) hq
      rw [if_neg (fun z => z.2 hq), if_pos hq, if_pos hp]; omega
    · by_cases hp : P i
      · rw [if_pos ⟨hp, hq⟩, if_neg hq, if_pos hp]; omega
      · rw [if_neg (fun z => hp z.1), if_neg hq, if_neg hp]; omega
theorem nI_sub {a b : Nat} (h : b ≤ a) (ha : a < 2 ^ 30) : nI a - nI b = nI (a - b) := by
  rw [i_eq, pk_sub_toInt (by omega) (by omega), i_n (by omega)]; omega
theorem c102 (h : Inv c kc md rc td lev rk σ) {w : Nat} (hw : w < 3) : am_ex (d + 6) 102 [.ref 0, .int (nI w)] σ = if w = 0 then rI (nI rc) σ else if w = 1 then rI (nI (cnt (fun k => ¬ σ.1 17 k = -1) 0 64)) σ else rI (nI (cnt (fun k => ¬ σ.1 17 k = -1 ∧ ¬ rdP σ md (-1) k) 0 64)) (gAl σ md) := by
  have hmb := h.core.mdb
  rw [e102, q102_0, x145 _ σ _ (by omega), if_pos (inR_n hw (by omega)), bV_r]
  by_cases h0 : w = 0
  · rw [if_pos (by rw [h0]), x58, bI_r, h.hr, if_pos h0]
  · rw [if_neg (by rw [i_eq, i_n (by omega), i_n (by omega)]; omega), x88 _ σ (by omega) (by omega), bI_r, if_neg h0, show (64 : Nat) - 0 = 64 from rfl]
    by_cases h1 : w = 1
    · rw [if_pos (by rw [h1]), if_pos h1]
    · have hx := x2 (d + 2) σ hmb.2 (Or.inl rfl)
      rw [aw_1] at hx
      have hs := cnt_sub (P := fun k => ¬ σ.1 17 k = -1) (Q := rdP σ md (-1)) 64 0 (fun j _ hj hq => by
        obtain ⟨r, h1, h2⟩ := rd_r σ h (by omega) hq
        rw [h2]; have := h.core.rcb; exact nI_nm (by omega))
      have hle := cnt_le (fun k => ¬ σ.1 17 k = -1) 64 0
      rw [if_neg (by rw [i_eq, i_n (by omega), i_n (by omega)]; omega), x0 d σ h, bV_r, hx, bI_r, if_neg h1, nI_sub (by show cnt (rdP σ md (-1)) 0 64 ≤ cnt (fun k => ¬ σ.1 17 k = -1) 0 64; omega) (by omega), show cnt (fun k => ¬ σ.1 17 k = -1) 0 64 - cnt (rdP σ md (-1)) 0 64 = cnt (fun k => ¬ σ.1 17 k = -1 ∧ ¬ rdP σ md (-1) k) 0 64 by omega]
theorem c102x (x : Int32) (h : ¬ inR x 3) : am_ex (d + 2) 102 [.ref 0, .int x] σ = rX xIA (am_tick σ) := by
  rw [e102, q102_0, x145 d σ _ (by omega), if_neg h, bV_x]
theorem y206 (h : Inv c kc md rc td lev rk σ) {w : Nat} (hw : w < 3) : am_ex (d + 4) 206 [.ref 34, .int (nI w)] σ = rI (nI (if w = 0 then rc else if w = 1 then cnt (fun k => ¬ σ.1 17 k = -1) 0 64 else cnt (fun k => ¬ σ.1 17 k = -1 ∧ ¬ rdP σ md (-1) k) 0 64)) (th σ (nI 0)) := by
  rw [e206, q206_0, x173, bI_r, bz_t (by rw [i_64, i_n (by omega), show (0 : Int64).toInt = 0 by decide +kernel, show (2 : Int64).toInt = 2 by decide +kernel]; omega), if_neg n10, q206_18, th_w, th_v, if_neg (by decide)]
  by_cases h0 : w = 0
  · rw [if_pos (by rw [h0]), q206_32, th_v, if_pos le00, th_f _ _ (by decide), h.hr', if_pos h0]
  · rw [if_neg (by rw [i_eq, i_n (by omega), i_n (by omega)]; omega), if_neg h0]
    generalize hτ : th σ (nI 0) = τ
    have hs : Sm σ τ := by rw [← hτ]; exact (Sm.refl σ).th _
    have hI := h.sm hs
    have t37 : τ.1 37 = σ.1 17 := by rw [hI.e37]; exact hs.i 17 (by decide) (by decide)
    have hrd : ∀ k, rdP τ md (-1) k ↔ rdP σ md (-1) k := by
      intro k
      unfold rdP inP inB onP isE
      rw [hs.i 20 (by decide) (by decide), hs.i 21 (by decide) (by decide), hs.i 16 (by decide) (by decide), hs.i 17 (by decide) (by decide), hs.i 22 (by decide) (by decide), hs.i 23 (by decide) (by decide), hs.i 24 (by decide) (by decide)]
    have := lp_cnt0 (fun k => ¬ σ.1 17 k = -1 ∧ (w = 1 ∨ ¬ rdP σ md (-1) k)) 0 64 (by omega) (fun i n => am_go am_X0 (am_ex (d + 3)) M206 52 [.ref 34, .int (nI w), .int (nI n), .int (nI i)] [] τ) (fun n => rI (nI n) τ) ?_ ?_
    · refine Eq.trans this ?_
      by_cases h1 : w = 1
      · rw [if_pos h1, cnt_c (Q := fun k => ¬ σ.1 17 k = -1) 64 0 (fun j _ _ => ⟨fun z => z.1, fun z => ⟨z, Or.inl h1⟩⟩)]
      · rw [if_neg h1, cnt_c (Q := fun k => ¬ σ.1 17 k = -1 ∧ ¬ rdP σ md (-1) k) 64 0 (fun j _ _ => ⟨fun z => ⟨z.1, z.2.resolve_left h1⟩, fun z => ⟨z.1, Or.inr z.2⟩⟩)]
    · intro n
      show am_go am_X0 (am_ex (d + 3)) M206 52 [.ref 34, .int (nI w), .int (nI n), .int (nI 64)] [] τ = _
      rw [q206_52, if_pos (by decide)]
    · intro i n _ hi
      show am_go am_X0 (am_ex (d + 3)) M206 52 [.ref 34, .int (nI w), .int (nI n), .int (nI i)] [] τ = am_go am_X0 (am_ex (d + 3)) M206 52 [.ref 34, .int (nI w), .int (nI _), .int (nI (i + 1))] [] τ
      rw [q206_52, if_neg (by rw [i_le, i_n (by omega), i_n (by omega)]; omega), if_pos (am_k hi (by omega)), i_cl (by omega), t37, y193 d τ hI _ hi, bI_r, show nI i + nI 1 = nI (i + 1) from nI_1 _, show nI n + nI 1 = nI (n + 1) from nI_1 _, show nI n + nI 0 = nI n from nI_add n 0]
      by_cases g1 : σ.1 17 i = -1
      · rw [if_pos g1, if_neg (fun z => z.1 g1)]
      · rw [if_neg g1]
        by_cases g2 : w = 1
        · rw [if_pos (by rw [g2]), if_pos ⟨g1, Or.inl g2⟩]
        · rw [if_neg (by rw [i_eq, i_n (by omega), i_n (by omega)]; omega)]
          by_cases g3 : rdP τ md (-1) i
          · rw [bz_t g3, if_neg n10, if_neg (fun z => z.2.elim g2 (fun q => q ((hrd i).mp g3)))]
          · rw [bz_f g3, if_pos rfl, if_pos ⟨g1, Or.inr (fun q => g3 ((hrd i).mpr q))⟩]
theorem y206x (x : Int32) (h : ¬ inR x 3) : am_ex (d + 3) 206 [.ref 34, .int x] σ = rI (nI 0) (th σ (nI 1)) := by
  rw [e206, q206_0, x173, bI_r, bz_f (by rw [i_64, show (0 : Int64).toInt = 0 by decide +kernel, show (2 : Int64).toInt = 2 by decide +kernel]; exact fun z => h ⟨z.1, by omega⟩), if_pos rfl, q206_18, th_w, th_v, if_pos (by decide), q206_32, th_v, if_neg le10]
/-- reads that do not see scratch cells -/
theorem rd_sm {σ τ : am_M} (hs : Sm σ τ) (md : Nat) (b : Int32) (k : Nat) : rdP τ md b k ↔ rdP σ md b k := by
  unfold rdP inP inB onP isE
  rw [hs.i 20 (by decide) (by decide), hs.i 21 (by decide) (by decide), hs.i 16 (by decide) (by decide), hs.i 17 (by decide) (by decide), hs.i 22 (by decide) (by decide), hs.i 23 (by decide) (by decide), hs.i 24 (by decide) (by decide)]
/-- without a medium no more can be read -/
theorem rd_le {b : Int32} {k : Nat} (h : rdP σ md b k) : rdP σ md (-1) k ∨ ∃ m, m < md ∧ nI m = -1 := by
  by_cases hm : ∃ m, m < md ∧ nI m = -1
  · exact Or.inr hm
  · have key : ∀ s, inP σ md b s → inP σ md (-1) s := by
      intro s
      unfold inP
      rw [ext_iff, ext_iff]
      rintro ⟨j, h1, h2, h3, h4, h5⟩
      exact ⟨j, h1, h2, fun z => hm ⟨j, by omega, z⟩, h4, h5⟩
    exact Or.inl ⟨key _ h.1, key _ h.2.1, key _ h.2.2.1, key _ h.2.2.2⟩
/-- how many can no longer be read without a medium -/
abbrev lsN (σ : am_M) (md : Nat) (b : Int32) : Nat := cnt (fun k => rdP σ md (-1) k ∧ ¬ rdP σ md b k) 0 64
theorem lose_n (hmd : md ≤ 8) (b : Int32) : lsN σ md b + cnt (rdP σ md b) 0 64 = cnt (rdP σ md (-1)) 0 64 :=
  cnt_sub 64 0 (fun _ _ _ hq => (rd_le σ hq).elim id (fun ⟨_, h1, h2⟩ => absurd h2 (nI_nm (by omega))))
theorem x158 (h : Inv c kc md rc td lev rk σ) {m : Nat} (hm : m < md) (v : Int32) : am_ex (d + 6) 158 [.ref 0, .int (nI m), .int v] σ = if σ.1 20 m = nI 0 then rI (nI (lsN σ md (nI m))) (if v = nI 2 then am_set (am_set (gAl σ md) 20 (upd (σ.1 20) m v)) 21 (upd (σ.1 21) m (nI 0)) else am_set (gAl σ md) 20 (upd (σ.1 20) m v)) else rX xIS (am_tick σ) := by
  have hmb := h.core.mdb
  rw [e158, q158_0, x32, bI_r, h.hm, x144 _ σ _ (by omega), if_pos (inR_n hm (by omega)), bV_r, x35 _ σ h.hm hmb.2, bI_r]
  simp only [bz_0]
  rw [i_cl (by omega)]
  by_cases hst : σ.1 20 m = nI 0
  · have hx := x2 (d + 2) σ hmb.2 (Or.inl rfl)
    rw [aw_1] at hx
    have hx' := x2 (d + 2) σ hmb.2 (Or.inr ⟨m, by omega, rfl⟩)
    rw [aw_k (by omega)] at hx'
    have hl := lose_n σ hmb.2 (nI m)
    have hle := cnt_le (rdP σ md (-1)) 64 0
    rw [if_neg (fun z => z ⟨inR_n hm (by omega), hst⟩), if_pos hst, x0 d σ h, bV_r, hx, bI_r, hx', bI_r, x39 _ _ (by rw [s_ne _ _ (by decide)]; exact h.hm) hmb.2 hm, bV_r, nI_sub (by omega) (by omega), show cnt (rdP σ md (-1)) 0 64 - cnt (rdP σ md (nI m)) 0 64 = lsN σ md (nI m) by omega, s_ne _ _ (show (20 : Nat) ≠ 27 by decide), s_ne _ _ (show (21 : Nat) ≠ 27 by decide)]
  · rw [if_pos (fun z => hst z.2), if_neg hst]
theorem c132 (h : Inv c kc md rc td lev rk σ) {m : Nat} (hm : m < md) : am_ex (d + 7) 132 [.ref 0, .int (nI m)] σ = if σ.1 20 m = nI 0 then rI (nI (lsN σ md (nI m))) (am_set (gAl σ md) 20 (upd (σ.1 20) m (nI 1))) else rX xIS (am_tick σ) := by
  rw [e132, q132_0, x158 d σ h hm]
  by_cases hst : σ.1 20 m = nI 0
  · rw [if_pos hst, if_pos hst, if_neg (by decide), bI_r]
  · rw [if_neg hst, if_neg hst, bI_x]
theorem c133 (h : Inv c kc md rc td lev rk σ) {m : Nat} (hm : m < md) : am_ex (d + 7) 133 [.ref 0, .int (nI m)] σ = if σ.1 20 m = nI 0 then rI (nI (lsN σ md (nI m))) (am_set (am_set (gAl σ md) 20 (upd (σ.1 20) m (nI 2))) 21 (upd (σ.1 21) m (nI 0))) else rX xIS (am_tick σ) := by
  rw [e133, q133_0, x158 d σ h hm]
  by_cases hst : σ.1 20 m = nI 0
  · rw [if_pos hst, if_pos hst, if_pos rfl, bI_r]
  · rw [if_neg hst, if_neg hst, bI_x]
theorem c132x (h : Inv c kc md rc td lev rk σ) (x : Int32) (hx : ¬ inR x md) : am_ex (d + 3) 132 [.ref 0, .int x] σ = rX xIO (am_tick σ) ∧ am_ex (d + 3) 133 [.ref 0, .int x] σ = rX xIO (am_tick σ) := by
  have hmb := h.core.mdb
  have key : ∀ v, am_ex (d + 2) 158 [.ref 0, .int x, .int v] σ = rX xIO (am_tick σ) := by
    intro v
    rw [e158, q158_0, x32, bI_r, h.hm, x144 _ σ _ (by omega), if_neg hx, bV_x]
  rw [e132, q132_0, key, bI_x, e133, q133_0, key, bI_x]
  exact ⟨rfl, rfl⟩
theorem ls_sm {σ τ : am_M} (hs : Sm σ τ) (md : Nat) (b : Int32) : lsN τ md b = lsN σ md b :=
  cnt_c 64 0 (fun j _ _ => by rw [rd_sm hs, rd_sm hs])
theorem y256 (h : Inv c kc md rc td lev rk σ) {m : Nat} (hm : m < md) (v : Int32) : am_ex (d + 5) 256 [.ref 34, .int (nI m), .int v] σ = if σ.1 20 m = nI 0 then rI (nI (lsN σ md (nI m))) (if v = nI 2 then am_set (am_set (th σ (nI 0)) 44 (upd (σ.1 44) m v)) 45 (upd (σ.1 45) m (nI 0)) else am_set (th σ (nI 0)) 44 (upd (σ.1 44) m v)) else rI (nI 0) (th σ (nI 2)) := by
  have hmb := h.core.mdb
  rw [e256, q256_0, x185 _ σ h.hm' hmb.2, bI_r, bz_t (inR_n hm (by omega)), if_neg n10, if_pos (am_k (by omega) (by omega)), i_cl (by omega), (h.mdm m hm).1]
  by_cases hst : σ.1 20 m = nI 0
  · have hs := (Sm.refl σ).th (nI 0)
    rw [if_pos hst, if_pos hst, q256_27, th_w, th_v, if_pos le00, y194 d _ (h.sm hs), bI_r, if_pos (am_k (by omega) (by omega)), if_pos (am_k (by omega) (by omega)), i_cl (by omega), am_wI_s, am_wI_s, s_ne _ _ (show (45 : Nat) ≠ 44 by decide), th_ne _ _ (show (44 : Nat) ≠ 34 by decide), th_ne _ _ (show (45 : Nat) ≠ 34 by decide)]
    rw [show cnt (fun k => rdP (th σ (nI 0)) md (-1) k ∧ ¬ rdP (th σ (nI 0)) md (nI m) k) 0 64 = lsN σ md (nI m) from ls_sm hs md (nI m)]
    split <;> rfl
  · rw [if_neg hst, if_neg hst, q256_27, th_w, th_v, if_neg le20]
theorem y257 (h : Inv c kc md rc td lev rk σ) {m : Nat} (hm : m < md) : am_ex (d + 6) 257 [.ref 34, .int (nI m)] σ = if σ.1 20 m = nI 0 then rI (nI (lsN σ md (nI m))) (am_set (th σ (nI 0)) 44 (upd (σ.1 44) m (nI 1))) else rI (nI 0) (th σ (nI 2)) := by
  rw [e257, q257_0, y256 d σ h hm]
  by_cases hst : σ.1 20 m = nI 0
  · rw [if_pos hst, if_pos hst, if_neg (by decide), bI_r]
  · rw [if_neg hst, if_neg hst, bI_r]
theorem y258 (h : Inv c kc md rc td lev rk σ) {m : Nat} (hm : m < md) : am_ex (d + 6) 258 [.ref 34, .int (nI m)] σ = if σ.1 20 m = nI 0 then rI (nI (lsN σ md (nI m))) (am_set (am_set (th σ (nI 0)) 44 (upd (σ.1 44) m (nI 2))) 45 (upd (σ.1 45) m (nI 0))) else rI (nI 0) (th σ (nI 2)) := by
  rw [e258, q258_0, y256 d σ h hm]
  by_cases hst : σ.1 20 m = nI 0
  · rw [if_pos hst, if_pos hst, if_pos rfl, bI_r]
  · rw [if_neg hst, if_neg hst, bI_r]
theorem y257x (h : Inv c kc md rc td lev rk σ) (x : Int32) (hx : ¬ inR x md) : am_ex (d + 4) 257 [.ref 34, .int x] σ = rI (nI 0) (th σ (nI 1)) ∧ am_ex (d + 4) 258 [.ref 34, .int x] σ = rI (nI 0) (th σ (nI 1)) := by
  have hmb := h.core.mdb
  have key : ∀ v, am_ex (d + 3) 256 [.ref 34, .int x, .int v] σ = rI (nI 0) (th σ (nI 1)) := by
    intro v
    rw [e256, q256_0, x185 _ σ h.hm' hmb.2, bI_r, bz_f hx, if_pos rfl, q256_27, th_w, th_v, if_neg le10]
  rw [e257, q257_0, key, bI_r, e258, q258_0, key, bI_r]
  exact ⟨rfl, rfl⟩
/-- media that nobody misses -/
abbrev rdM (σ : am_M) (md m : Nat) : Prop := σ.1 20 m = nI 0 ∧ lsN σ md (nI m) = 0
def bts (P : Nat → Prop) [DecidablePred P] : Nat → Nat → Int32 → Int32 := fld (fun i x => if P i then x ||| bit i else x)
theorem bts_c {P Q : Nat → Prop} [DecidablePred P] [DecidablePred Q] : ∀ n i x, (∀ j, i ≤ j → j < i + n → (P j ↔ Q j)) → bts P i n x = bts Q i n x := by
  intro n
  induction n with
  | zero => intro i x _; rfl
  | succ n ih =>
    intro i x h
    show bts P (i + 1) n (if P i then x ||| bit i else x) = bts Q (i + 1) n (if Q i then x ||| bit i else x)
    rw [ih _ _ (fun j h1 h2 => h j (by omega) (by omega))]
    by_cases hp : P i
    · rw [if_pos hp, if_pos ((h i (by omega) (by omega)).mp hp)]
    · rw [if_neg hp, if_neg (fun z => hp ((h i (by omega) (by omega)).mpr z))]
theorem c137 (h : Inv c kc md rc td lev rk σ) : am_ex (d + 6) 137 [.ref 0] σ = rI (bts (rdM σ md) 0 md (nI 0)) (gAl σ md) := by
  have hmb := h.core.mdb
  have hx := x2 (d + 2) σ hmb.2 (Or.inl rfl)
  rw [aw_1] at hx
  rw [e137, q137_0, x0 d σ h, bV_r, hx, bI_r]
  refine (lp_fld (fun i x => if rdM σ md i then x ||| bit i else x) (fun _ _ => True) 0 md (by omega) (fun i x => am_go am_X0 (am_ex (d + 5)) M137 21 [.ref 0, .int (nI (cnt (rdP σ md (-1)) 0 64)), .int x, .int (nI i)] [] (gAl σ md)) (fun x => rI x (gAl σ md)) ?_ ?_ (nI 0) True.intro).1
  · intro x _
    show am_go am_X0 (am_ex (d + 5)) M137 21 [.ref 0, .int (nI (cnt (rdP σ md (-1)) 0 64)), .int x, .int (nI md)] [] (gAl σ md) = _
    rw [q137_21, x32, bI_r, s_ne _ _ (by decide), h.hm, if_pos (by rw [i_le]; exact Int.le_refl _)]
  · intro i x _ hi _
    refine ⟨?_, True.intro⟩
    show am_go am_X0 (am_ex (d + 5)) M137 21 [.ref 0, .int (nI (cnt (rdP σ md (-1)) 0 64)), .int x, .int (nI i)] [] (gAl σ md) = am_go am_X0 (am_ex (d + 5)) M137 21 [.ref 0, .int (nI (cnt (rdP σ md (-1)) 0 64)), .int _, .int (nI (i + 1))] [] (gAl σ md)
    rw [q137_21, x32, bI_r, s_ne _ _ (by decide), h.hm, if_neg (by rw [i_le, i_n (by omega), i_n (by omega)]; omega), x35 _ _ (by rw [s_ne _ _ (by decide)]; exact h.hm) hmb.2, bI_r, show nI i + nI 1 = nI (i + 1) from nI_1 _]
    simp only [bz_0]
    rw [s_ne _ _ (by decide), i_cl (by omega)]
    by_cases hst : σ.1 20 i = nI 0
    · have hx' := x2 (d + 2) σ hmb.2 (Or.inr ⟨i, by omega, rfl⟩)
      rw [aw_k (by omega)] at hx'
      have hl := lose_n σ hmb.2 (nI i)
      have hle := cnt_le (rdP σ md (-1)) 64 0
      rw [if_neg (fun z => z ⟨inR_n hi (by omega), hst⟩), hx', bI_r]
      by_cases he : lsN σ md (nI i) = 0
      · rw [if_pos (by rw [show cnt (rdP σ md (nI i)) 0 64 = cnt (rdP σ md (-1)) 0 64 by omega]), if_pos ⟨hst, he⟩]
      · rw [if_neg (fun z => he (by
          have := nI_inj (by omega) (by omega) z
          omega)), if_neg (fun z => he z.2)]
    · rw [if_pos (fun z => hst z.2), if_neg (fun z => hst z.1)]
theorem y260 (h : Inv c kc md rc td lev rk σ) : am_ex (d + 5) 260 [.ref 34] σ = rI (bts (rdM σ md) 0 md (nI 0)) (th σ (nI 0)) := by
  have hmb := h.core.mdb
  rw [e260, q260_0, th_w]
  have hs := (Sm.refl σ).th (nI 0)
  have hI := h.sm hs
  refine (lp_fld (fun i x => if rdM σ md i then x ||| bit i else x) (fun _ _ => True) 0 md (by omega) (fun i x => am_go am_X0 (am_ex (d + 4)) M260 9 [.ref 34, .int x, .int (nI i)] [] (th σ (nI 0))) (fun x => rI x (th σ (nI 0))) ?_ ?_ (nI 0) True.intro).1
  · intro x _
    show am_go am_X0 (am_ex (d + 4)) M260 9 [.ref 34, .int x, .int (nI md)] [] (th σ (nI 0)) = _
    rw [q260_9, hI.hm', if_pos (by rw [i_le]; exact Int.le_refl _)]
  · intro i x _ hi _
    refine ⟨?_, True.intro⟩
    show am_go am_X0 (am_ex (d + 4)) M260 9 [.ref 34, .int x, .int (nI i)] [] (th σ (nI 0)) = am_go am_X0 (am_ex (d + 4)) M260 9 [.ref 34, .int _, .int (nI (i + 1))] [] (th σ (nI 0))
    have hle : lsN σ md (nI i) ≤ 64 := cnt_le _ 64 0
    rw [q260_9, hI.hm', if_neg (by rw [i_le, i_n (by omega), i_n (by omega)]; omega), if_pos (am_k (by omega) (by omega)), i_cl (by omega), th_ne _ _ (by decide), (h.mdm i hi).1, y194 d _ hI, bI_r, or_0, show nI i + nI 1 = nI (i + 1) from nI_1 _]
    rw [show cnt (fun k => rdP (th σ (nI 0)) md (-1) k ∧ ¬ rdP (th σ (nI 0)) md (nI i) k) 0 64 = lsN σ md (nI i) from ls_sm hs md (nI i)]
    by_cases hst : σ.1 20 i = nI 0
    · rw [if_pos hst]
      by_cases he : lsN σ md (nI i) = 0
      · rw [if_pos (by rw [he]), if_pos ⟨hst, he⟩]
      · rw [if_neg (fun z => he (nI_inj (by omega) (by omega) z)), if_neg (fun z => he z.2)]
    · rw [if_neg hst, if_neg (fun z => hst z.1)]
/-- how many bits -/
def pop (a : Nat) : Nat := cnt (fun j => a.testBit j = true) 0 8
theorem pop_s : ∀ m, m < 8 → ∀ a, a < 2 ^ m → pop (a ||| 2 ^ m) = pop a + 1 := by decide +kernel
theorem cnt_s (P : Nat → Prop) [DecidablePred P] : ∀ n i, cnt P i (n + 1) = cnt P i n + (if P (i + n) then 1 else 0) := by
  intro n
  induction n with
  | zero => intro i; rw [cnt, cnt, cnt, Nat.add_zero, Nat.zero_add, Nat.add_zero]
  | succ n ih => intro i; rw [cnt, ih (i + 1), cnt, show i + 1 + n = i + (n + 1) by omega]; omega
theorem pop_N (b : Int32) (s : Nat) : ∀ k, k ≤ 8 → pop (mN σ b s k) = cnt (inB σ b s) 0 k := by
  intro k
  induction k with
  | zero => intro _; rw [mN, cnt]; decide
  | succ k ih =>
    intro hk
    rw [cnt_s, mN, ← ih (by omega), Nat.zero_add]
    by_cases hc : inB σ b s k
    · rw [if_pos hc, if_pos hc, pop_s k (by omega) _ (mN_lt σ b s k (by omega))]
    · rw [if_neg hc, if_neg hc, Nat.add_zero]
theorem bc_dec : ∀ a, a < 256 → ∀ C σ, am_go am_X0 C M275 0 [.int (nI a)] [] σ = rI (nI (pop a)) σ := by
  intro a ha C σ
  rw [q275_0]
  refine congrArg (fun v => some (Sum.inl (some (Value.int v)), σ)) ?_
  revert a
  decide +kernel
theorem x275 {a : Nat} (ha : a < 256) : am_ex (d + 1) 275 [.int (nI a)] σ = rI (nI (pop a)) σ := by
  rw [e275, bc_dec a ha]
theorem mN_256 (b : Int32) (s : Nat) {k : Nat} (hk : k ≤ 8) : mN σ b s k < 256 := by
  have h1 := mN_lt σ b s k hk
  have h2 : 2 ^ k ≤ 2 ^ 8 := Nat.pow_le_pow_right (by omega) hk
  omega
/-- on how many intact media -/
abbrev cpN (σ : am_M) (md s : Nat) : Nat := cnt (inB σ (-1) s) 0 md
def rdnN (σ : am_M) (md k : Nat) : Nat := min (min (min (cpN σ md (85 + k)) (cpN σ md (21 + k))) (cpN σ md (par (21 + k)))) (cpN σ md (par (par (21 + k))))
theorem mi_n {a b : Nat} (ha : a < 2 ^ 31) (hb : b < 2 ^ 31) : (if nI b < nI a then nI b else nI a) = nI (min a b) := by
  by_cases h : b < a
  · rw [if_pos (by rw [i_lt, i_n hb, i_n ha]; omega), Nat.min_eq_right (by omega)]
  · rw [if_neg (by rw [i_lt, i_n hb, i_n ha]; omega), Nat.min_eq_left (by omega)]
theorem x3 (hmd : md ≤ 8) {k : Nat} (hk : k < 64) : am_ex (d + 2) 3 [.ref 6, .int (nI k)] (gAl σ md) = rI (nI (rdnN σ md k)) (gAl σ md) := by
  obtain ⟨g1, g2, g3, g4, g5⟩ := par3 hk
  have hc : ∀ s, cpN σ md s ≤ 8 := fun s => Nat.le_trans (cnt_le _ _ _) hmd
  have hp : ∀ s, pop (mN σ (-1) s md) = cpN σ md s := fun s => pop_N σ (-1) s md hmd
  rw [e3, q3_0, nI_add, x11g _ _ hmd (by omega) (by omega), bI_r, x275 _ _ (mN_256 σ _ _ hmd), bI_r, x164, nI_r, hp]
  have st : ∀ (l p a : Nat), l < 3 → 0 < p → p < 85 → a ≤ 8 → am_go am_X0 (am_ex (d + 1)) M3 20 [.ref 6, .int (nI k), .int (nI a), .int (nI p), .int (nI (l + 1))] [] (gAl σ md) = am_go am_X0 (am_ex (d + 1)) M3 20 [.ref 6, .int (nI k), .int (nI (min a (cpN σ md p))), .int (nI (par p)), .int (nI l)] [] (gAl σ md) := by
    intro l p a hl h0 hpp ha
    rw [q3_20, if_neg (by rw [i_le, i_n (by omega), i_n (by omega)]; omega), x11g _ _ hmd (by omega) (by omega), bI_r, x275 _ _ (mN_256 σ _ _ hmd), bI_r, x166 _ _ h0 hpp, nI_r, hp, mi_n (by omega) (by have := hc p; omega), nI_p]
  rw [st 2 _ _ (by omega) (by omega) (by omega) (hc _), st 1 _ _ (by omega) g1 (by omega) (by have := hc (85 + k); omega), st 0 _ _ (by omega) g3 (by omega) (by have := hc (85 + k); omega), q3_20, if_pos le00]
  rfl
theorem c135 (h : Inv c kc md rc td lev rk σ) {k : Nat} (hk : k < 64) : am_ex (d + 6) 135 [.ref 0, .int (nI k)] σ = if σ.1 17 k = -1 then rI (-1) σ else rI (nI (rdnN σ md k)) (gAl σ md) := by
  have hmb := h.core.mdb
  rw [e135, q135_0, x144 _ σ _ (by omega), if_pos (inR_n hk (by omega)), bV_r, x79, bI_r, rd_n hk (by omega)]
  by_cases hr : σ.1 17 k = -1
  · rw [if_pos hr, if_pos hr]
  · rw [if_neg hr, if_neg hr, x0 d σ h, bV_r, x3 _ σ hmb.2 hk, bI_r]
theorem c135x (x : Int32) (h : ¬ inR x 64) : am_ex (d + 2) 135 [.ref 0, .int x] σ = rX xIO (am_tick σ) := by
  rw [e135, q135_0, x144 d σ _ (by omega), if_neg h, bV_x]
theorem y261 (h : Inv c kc md rc td lev rk σ) (s : Nat) : am_ex (d + 2) 261 [.ref 34, .int (sKi s), .int (sIn σ s), .int (sOu σ s)] σ = rI (nI (cpN σ md s)) σ := by
  have hmb := h.core.mdb
  rw [e261, q261_0]
  refine lp_cnt0 (inB σ (-1) s) 0 md (by omega) (fun i n => am_go am_X0 (am_ex (d + 1)) M261 6 [.ref 34, .int (sKi s), .int (sIn σ s), .int (sOu σ s), .int (nI n), .int (nI i)] [] σ) (fun n => rI (nI n) σ) ?_ ?_
  · intro n
    show am_go am_X0 (am_ex (d + 1)) M261 6 [.ref 34, .int (sKi s), .int (sIn σ s), .int (sOu σ s), .int (nI n), .int (nI md)] [] σ = _
    rw [q261_6, h.hm', if_pos (by rw [i_le]; exact Int.le_refl _)]
  · intro i n _ hi
    show am_go am_X0 (am_ex (d + 1)) M261 6 [.ref 34, .int (sKi s), .int (sIn σ s), .int (sOu σ s), .int (nI n), .int (nI i)] [] σ = am_go am_X0 (am_ex (d + 1)) M261 6 [.ref 34, .int (sKi s), .int (sIn σ s), .int (sOu σ s), .int (nI _), .int (nI (i + 1))] [] σ
    rw [q261_6, h.hm', if_neg (by rw [i_le, i_n (by omega), i_n (by omega)]; omega), if_pos (am_k (by omega) (by omega)), i_cl (by omega), (h.mdm i hi).1, y191s d σ h hi s, bI_r, show nI i + nI 1 = nI (i + 1) from nI_1 _, show nI n + nI 1 = nI (n + 1) from nI_1 _, show nI n + nI 0 = nI n from nI_add n 0]
    by_cases g2 : σ.1 20 i = nI 0
    · rw [if_pos g2]
      by_cases g3 : onP σ i s
      · rw [bz_t g3, if_neg n10, if_pos ⟨nI_nm (by omega), g2, g3⟩]
      · rw [bz_f g3, if_pos rfl, if_neg (fun q => g3 q.2.2)]
    · rw [if_neg g2, if_neg (fun q => g2 q.2.1)]
theorem y262 (h : Inv c kc md rc td lev rk σ) {k : Nat} (hk : k < 64) : am_ex (d + 3) 262 [.ref 34, .int (nI k)] σ = rI (if σ.1 17 k = -1 then -1 else nI (rdnN σ md k)) (th σ (nI 0)) := by
  obtain ⟨g1, g2, g3, g4, g5⟩ := par3 hk
  have hmb := h.core.mdb
  have hs := (Sm.refl σ).th (nI 0)
  have hI := h.sm hs
  have hcE : ∀ s, cpN (th σ (nI 0)) md s = cpN σ md s := fun s => cnt_c _ _ (fun j _ _ => by
    unfold inB onP isE
    rw [hs.i 20 (by decide) (by decide), hs.i 21 (by decide) (by decide), hs.i 16 (by decide) (by decide), hs.i 17 (by decide) (by decide), hs.i 22 (by decide) (by decide), hs.i 23 (by decide) (by decide), hs.i 24 (by decide) (by decide)])
  have hc : ∀ s, cpN σ md s ≤ 8 := fun s => Nat.le_trans (cnt_le _ _ _) hmb.2
  rw [e262, q262_0, x182, bI_r, bz_t (inR_n hk (by omega)), if_neg n10, q262_13, th_w, th_v, if_pos le00, if_pos (am_k hk (by omega)), i_cl (by omega), hI.e37, hs.i 17 (by decide) (by decide)]
  by_cases hr : σ.1 17 k = -1
  · rw [if_pos hr, if_pos hr]
  · have e85 := y261 d _ hI (85 + k)
    rw [show sKi (85 + k) = nI 1 from if_neg (by omega), show sIn (th σ (nI 0)) (85 + k) = σ.1 17 k by unfold sIn; rw [if_neg (by omega), show 85 + k - 85 = k by omega, th_ne _ _ (by decide)], show sOu (th σ (nI 0)) (85 + k) = σ.1 16 (21 + k) by unfold sOu; rw [if_neg (by omega), show 85 + k - 64 = 21 + k by omega, th_ne _ _ (by decide)], hcE] at e85
    rw [if_neg hr, if_neg hr, if_pos (am_k hk (by omega)), nI_add, if_pos (am_k (by omega) (by omega)), i_cl (by omega), hI.e35, hs.i 16 (by decide) (by decide), e85, bI_r]
    have st : ∀ (p a : Nat) (u : Value), (!(u.category == 2)) = true → 0 < p → p < 85 → a ≤ 8 → ∃ w, am_go am_X0 (am_ex (d + 2)) M262 60 [.ref 34, .int (nI k), .int (nI p), .int (nI a), u] [] (th σ (nI 0)) = am_go am_X0 (am_ex (d + 2)) M262 60 [.ref 34, .int (nI k), .int (nI (par p)), .int (nI (min a (cpN σ md p))), .int w] [] (th σ (nI 0)) := by
      intro p a u hu h0 hp ha
      have hpl := par_lt h0
      have ep := y261 d _ hI p
      rw [show sKi p = nI 0 from if_pos hp, show sIn (th σ (nI 0)) p = σ.1 16 p by unfold sIn; rw [if_pos hp, th_ne _ _ (by decide)], show sOu (th σ (nI 0)) p = σ.1 16 (par p) by unfold sOu; rw [if_pos hp, th_ne _ _ (by decide)], hcE] at ep
      have hcp := hc p
      rw [q262_60 _ _ _ _ _ hu, if_neg (by rw [i_le, i_n (by omega), i_n (by omega)]; omega), if_pos (am_k hp (by omega)), i_cl (by omega), x179 _ _ h0 (by omega), bI_r, if_pos (am_k (by omega) (by omega)), i_cl (by omega), hI.e35, hs.i 16 (by decide) (by decide), ep, bI_r, q262_98, q262_98, x179 _ _ h0 (by omega), bI_r, bI_r]
      refine ⟨nI (cpN σ md p), ?_⟩
      · by_cases hle : a ≤ cpN σ md p
        · rw [if_pos (by rw [i_le, i_n (by omega), i_n (by omega)]; omega), Nat.min_eq_left hle]
        · rw [if_neg (by rw [i_le, i_n (by omega), i_n (by omega)]; omega), Nat.min_eq_right (by omega)]
    obtain ⟨w1, k1⟩ := st (21 + k) (cpN σ md (85 + k)) .null rfl (by omega) (by omega) (hc _)
    obtain ⟨w2, k2⟩ := st (par (21 + k)) (min (cpN σ md (85 + k)) (cpN σ md (21 + k))) (.int w1) rfl g1 (by omega) (by have := hc (85 + k); omega)
    obtain ⟨w3, k3⟩ := st (par (par (21 + k))) (min (min (cpN σ md (85 + k)) (cpN σ md (21 + k))) (cpN σ md (par (21 + k)))) (.int w2) rfl g3 (by omega) (by have := hc (85 + k); omega)
    rw [k1, k2, k3, g5, q262_60 _ _ _ _ _ rfl, if_pos le00]
    rfl
theorem y262x (x : Int32) (h : ¬ inR x 64) : am_ex (d + 3) 262 [.ref 34, .int x] σ = rI (nI 0) (th σ (nI 1)) := by
  rw [e262, q262_0, x182, bI_r, bz_f h, if_pos rfl, q262_13, th_w, th_v, if_neg le10]
end CVF
