/-! a new beginning, both sides -/
section BEG
variable (d : Nat) (σ : am_M)
/-- v up to n -/
def fil (f : Nat → Int32) (n : Nat) (v : Int32) : Nat → Int32 := fun k => if k < n then v else f k
theorem fil_s (f : Nat → Int32) (n : Nat) (v : Int32) : upd (fil f n v) n v = fil f (n + 1) v := by
  funext k
  simp only [fil, upd]
  by_cases h : k = n
  · rw [if_pos h, if_pos (by omega)]
  · rw [if_neg h]
    by_cases h2 : k < n
    · rw [if_pos h2, if_pos (by omega)]
    · rw [if_neg h2, if_neg (by omega)]
theorem fil_0 (f : Nat → Int32) (v : Int32) : fil f 0 v = f := by
  funext k; simp only [fil]; rw [if_neg (by omega)]
/-- a loop that only changes memory -/
theorem lp_mem {β : Type} (a e : Nat) (hae : a ≤ e) (F : Nat → β) (hs : ∀ i, a ≤ i → i < e → F i = F (i + 1)) : F a = F e := by
  have : ∀ n i, a ≤ i → i + n = e → F i = F e := by
    intro n
    induction n with
    | zero => intro i _ h; rw [show i = e by omega]
    | succ n ih => intro i h1 h2; rw [hs i h1 (by omega)]; exact ih (i + 1) (by omega) (by omega)
  exact this (e - a) a (Nat.le_refl _) (by omega)
theorem x276 {a n : Nat} (hs : am_sh[a]? = some (.inl (0, n))) (hn : n < 2 ^ 31) (v : Int32) : am_ex (d + 1) 276 [.ref a, .int v] σ = rV (am_set σ a (fil (σ.1 a) n v)) := by
  rw [am_ex_s (lv := [.ref a, .int v, .null, .null]) m276 (Nat.le_of_ble_eq_true rfl) rfl]
  refine Eq.trans (g_K (v := nI 0) dJ7_fill_53178_0 rfl rfl) ?_
  refine Eq.trans (g_isn (k := 2) dJ7_fill_53178_1 rfl (Nat.le_of_ble_eq_true rfl) rfl rfl rfl) ?_
  refine Eq.trans (g_A dJ7_fill_53178_2 rfl rfl) ?_
  refine Eq.trans (g_len dJ7_fill_53178_3 hs rfl) ?_
  refine Eq.trans (g_isn (k := 3) dJ7_fill_53178_4 rfl (Nat.le_of_ble_eq_true rfl) rfl rfl rfl) ?_
  have st : ∀ (i : Nat) (τ : am_M), am_go am_X0 (am_ex d) M276 5 [.ref a, .int v, .int (nI i), .int (nI n)] [] τ = if nI n ≤ nI i then rV τ else (if am_in (nI i) n = true then am_go am_X0 (am_ex d) M276 5 [.ref a, .int v, .int (nI i + nI 1), .int (nI n)] [] (am_wI τ a (nI i).toNatClampNeg v) else none) := by
    intro i τ
    refine Eq.trans (g_A dJ7_fill_53178_5 rfl rfl) ?_
    refine Eq.trans (g_A dJ7_fill_53178_6 rfl rfl) ?_
    refine Eq.trans (g_icge (t := 20) dJ7_fill_53178_7 rfl rfl) ?_
    refine am_ite ?_ ?_
    · exact g_vret dJ7_fill_53178_20 rfl
    · refine Eq.trans (g_A dJ7_fill_53178_10 rfl rfl) ?_
      refine Eq.trans (g_A dJ7_fill_53178_11 rfl rfl) ?_
      refine Eq.trans (g_A dJ7_fill_53178_12 rfl rfl) ?_
      refine Eq.trans (g_iast dJ7_fill_53178_13 hs rfl) ?_
      refine am_ite ?_ rfl
      refine Eq.trans (g_inc (v := nI i + nI 1) dJ7_fill_53178_14 rfl (Nat.le_of_ble_eq_true rfl) rfl rfl rfl rfl) ?_
      refine Eq.trans (g_goto (pc' := 5) dJ7_fill_53178_17 rfl) ?_
      rfl
  have := lp_mem 0 n (by omega) (fun i => am_go am_X0 (am_ex d) M276 5 [.ref a, .int v, .int (nI i), .int (nI n)] [] (am_set σ a (fil (σ.1 a) i v))) ?_
  · rw [fil_0, s_self] at this
    refine Eq.trans this ?_
    show am_go am_X0 (am_ex d) M276 5 [.ref a, .int v, .int (nI n), .int (nI n)] [] _ = _
    rw [st, if_pos (by rw [i_le]; omega)]
  · intro i _ hi
    show am_go am_X0 (am_ex d) M276 5 [.ref a, .int v, .int (nI i), .int (nI n)] [] _ = am_go am_X0 (am_ex d) M276 5 [.ref a, .int v, .int (nI (i + 1)), .int (nI n)] [] _
    rw [st, if_neg (by rw [i_le, i_n (by omega), i_n (by omega)]; omega), if_pos (am_k hi (by omega)), i_cl (by omega), am_wI_s, s_eq, s_ss, fil_s, show nI i + nI 1 = nI (i + 1) from nI_1 i]
/-- a place gets a new key: the class -/
def rnw (σ : am_M) (kc p : Nat) : am_M :=
  let a := if mdR (σ.1 16 p) kc then am_set σ 13 (upd (σ.1 13) (σ.1 16 p).toNatClampNeg (-1)) else σ
  let b := am_set (am_set a 1 (upd (a.1 1) 2 (nI (kc + 1)))) 13 (upd (a.1 13) (kc + 1) (nI p))
  am_set b 16 (upd (σ.1 16) p (nI (kc + 1)))
theorem x91 {kc p : Nat} (hk : σ.1 1 2 = nI kc) (hb : kc < 2048) (hp : p < 85) : am_ex (d + 3) 91 [.ref 3, .int (nI p)] σ = rV (rnw σ kc p) := by
  rw [e91, q91_0, x162, nI_r, bz_t (inR_n hp (by omega)), if_neg n10, if_pos (am_k hp (by omega)), i_cl (by omega), x29 _ σ hk (by omega), bV_r]
  unfold rnw
  by_cases h : mdR (σ.1 16 p) kc
  · rw [if_pos h, x27 _ _ (by rw [s_ne _ _ (by decide)]; exact hk) hb, bI_r, if_pos (am_k hp (by omega)), am_wI_s]
    simp only [s_ne _ _ (show (16 : Nat) ≠ 13 by decide), s_ne _ _ (show (16 : Nat) ≠ 1 by decide), s_ne _ _ (show (13 : Nat) ≠ 1 by decide)]
  · rw [if_neg h, x27 _ _ hk hb, bI_r, if_pos (am_k hp (by omega)), am_wI_s]
    simp only [s_ne _ _ (show (16 : Nat) ≠ 13 by decide), s_ne _ _ (show (16 : Nat) ≠ 1 by decide), s_ne _ _ (show (13 : Nat) ≠ 1 by decide)]
theorem s_rd (σ : am_M) (a b : Nat) (f : Nat → Int32) : (am_set σ a f).1 b = if b = a then f else σ.1 b := by
  by_cases h : b = a
  · rw [if_pos h, h, s_eq]
  · rw [if_neg h, s_ne _ _ h]
theorem sJ_rd (σ : am_M) (a b : Nat) (f : Nat → Int64) : (am_setJ σ a f).2.1 b = if b = a then f else σ.2.1 b := by
  by_cases h : b = a
  · rw [if_pos h, h, sJ_eq]
  · rw [if_neg h, sJ_ne _ _ h]
/-- the class begins anew -/
def bgC (σ : am_M) (s : Int32) : am_M :=
  let a := am_set σ 1 (upd (upd (σ.1 1) 1 s) 2 (nI 0))
  let a := am_set a 2 (upd (a.1 2) 2 (nI 0))
  let a := am_set a 16 (fil (a.1 16) 85 (nI 0))
  let a := am_set a 17 (fil (a.1 17) 64 (-1))
  let a := am_set a 18 (fil (a.1 18) 64 (-1))
  let a := am_set a 19 (clr (a.1 19) 0 64)
  let a := rnw a 0 0
  let a := am_set a 4 (upd (a.1 4) 5 (nI 0))
  let a := am_set (am_set (am_set a 20 (upd (a.1 20) 0 (nI 0))) 21 (upd (a.1 21) 0 (nI 0))) 4 (upd (a.1 4) 5 (nI (0 + 1)))
  let a := am_set a 32 (fil (a.1 32) 4 (-1))
  let a := am_set a 10 (fil (a.1 10) 8 (-1))
  let a := am_set a 11 (fil (a.1 11) 4 (-1))
  let a := am_set a 12 (fil (a.1 12) 4 (-1))
  am_set a 0 (upd (a.1 0) 12 (nI 0))
theorem x76 (hk : σ.1 1 2 = nI 0) : am_ex (d + 4) 76 [.ref 3] σ = rV (
    let a := am_set σ 16 (fil (σ.1 16) 85 (nI 0))
    let a := am_set a 17 (fil (a.1 17) 64 (-1))
    let a := am_set a 18 (fil (a.1 18) 64 (-1))
    let a := am_set a 19 (clr (a.1 19) 0 64)
    rnw a 0 0) := by
  rw [e76, q76_0, x276 _ _ sh16 (by omega), bV_r, x276 _ _ sh17 (by omega), bV_r, x276 _ _ sh18 (by omega), bV_r, x86 _ _ (by omega) (by omega), bV_r, x91 _ _ (kc := 0) (by
    rw [s_ne _ _ (by decide), s_ne _ _ (by decide), s_ne _ _ (by decide), s_ne _ _ (by decide)]; exact hk) (by omega) (by omega), bV_r]
theorem x143 (s : Int32) : am_ex (d + 5) 143 [.ref 0, .int s] σ = rV (bgC σ s) := by
  rw [e143, q143_0, e23, q23_0, bV_r, e56, q56_0, bV_r, am_wI_s, am_wI_s, am_wI_s, s_eq, s_ss, x76 _ _ (by rw [s_ne _ _ (by decide), s_eq]; exact if_pos rfl), bV_r, e31, q31_0, am_wI_s, x33 _ _ (md := 0) (by rw [s_eq]; exact if_pos rfl) (by omega), bI_r, bV_r, e48, q48_0, x276 _ _ sh32 (by omega), bV_r, bV_r, x276 _ _ sh10 (by omega), bV_r, x276 _ _ sh11 (by omega), bV_r, x276 _ _ sh12 (by omega), bV_r]
  rfl
theorem c97 (s : Int32) : am_ex (d + 6) 97 [.ref 0, .int s] σ = rV (bgC σ s) := by
  rw [e97, q97_0, x143, bV_r]
/-- the reference begins anew -/
def bgM (σ : am_M) (s : Int32) : am_M :=
  let a := am_set σ 34 (upd (σ.1 34) 20 s)
  let a := am_set a 35 (fil (a.1 35) 85 (nI 0))
  let a := am_set (am_set a 37 (fil (a.1 37) 64 (-1))) 41 (fil (a.1 41) 64 (nI 0))
  let a := am_set a 38 (fil (a.1 38) 8 (-1))
  let a := am_set (am_set a 39 (fil (a.1 39) 4 (nI 0))) 54 (fil (a.1 54) 4 (-1))
  let a := am_set (am_set a 44 (fil (a.1 44) 8 (nI 0))) 45 (fil (a.1 45) 8 (nI 0))
  let a := am_set a 34 (upd (upd (upd (upd (a.1 34) 22 (nI 1)) 24 (nI 0)) 23 (nI 0)) 21 (nI 1))
  am_set a 35 (upd (a.1 35) 0 (nI 1))
theorem s_two (τ : am_M) {a b : Nat} (hab : a ≠ b) (f g f' g' : Nat → Int32) : am_set (am_set (am_set (am_set τ a f) b g) a f') b g' = am_set (am_set τ a f') b g' := by
  unfold am_set
  refine Prod.ext ?_ rfl
  funext c
  simp only [va_up]
  by_cases h1 : c = b
  · simp [h1]
  · by_cases h2 : c = a
    · simp [h2, hab]
    · simp [h1, h2]
theorem y174 (s : Int32) : am_ex (d + 2) 174 [.ref 34, .int s] σ = rV (bgM σ s) := by
  rw [e174, q174_0, am_wI_s]
  have l7 : ∀ τ : am_M, am_go am_X0 (am_ex (d + 1)) M174 7 [.ref 34, .int s, .int (nI 0)] [] τ = am_go am_X0 (am_ex (d + 1)) M174 28 [.ref 34, .int s, .int (nI 0)] [] (am_set τ 35 (fil (τ.1 35) 85 (nI 0))) := by
    intro τ
    have := lp_mem 0 85 (by omega) (fun i => am_go am_X0 (am_ex (d + 1)) M174 7 [.ref 34, .int s, .int (nI i)] [] (am_set τ 35 (fil (τ.1 35) i (nI 0)))) ?_
    · rw [fil_0, s_self] at this
      refine Eq.trans this ?_
      show am_go am_X0 (am_ex (d + 1)) M174 7 [.ref 34, .int s, .int (nI 85)] [] _ = _
      rw [q174_7, if_pos (by decide)]
    · intro i _ hi
      show am_go am_X0 (am_ex (d + 1)) M174 7 [.ref 34, .int s, .int (nI i)] [] _ = am_go am_X0 (am_ex (d + 1)) M174 7 [.ref 34, .int s, .int (nI (i + 1))] [] _
      rw [q174_7, if_neg (by rw [i_le, i_n (by omega), i_n (by omega)]; omega), if_pos (am_k hi (by omega)), i_cl (by omega), am_wI_s, s_eq, s_ss, fil_s, show nI i + nI 1 = nI (i + 1) from nI_1 i]
  have l28 : ∀ τ : am_M, am_go am_X0 (am_ex (d + 1)) M174 28 [.ref 34, .int s, .int (nI 0)] [] τ = am_go am_X0 (am_ex (d + 1)) M174 56 [.ref 34, .int s, .int (nI 0)] [] (am_set (am_set τ 37 (fil (τ.1 37) 64 (-1))) 41 (fil (τ.1 41) 64 (nI 0))) := by
    intro τ
    have := lp_mem 0 64 (by omega) (fun i => am_go am_X0 (am_ex (d + 1)) M174 28 [.ref 34, .int s, .int (nI i)] [] (am_set (am_set τ 37 (fil (τ.1 37) i (-1))) 41 (fil (τ.1 41) i (nI 0)))) ?_
    · rw [fil_0, fil_0, s_self] at this
      rw [s_self] at this
      refine Eq.trans this ?_
      show am_go am_X0 (am_ex (d + 1)) M174 28 [.ref 34, .int s, .int (nI 64)] [] _ = _
      rw [q174_28, if_pos (by decide)]
    · intro i _ hi
      show am_go am_X0 (am_ex (d + 1)) M174 28 [.ref 34, .int s, .int (nI i)] [] _ = am_go am_X0 (am_ex (d + 1)) M174 28 [.ref 34, .int s, .int (nI (i + 1))] [] _
      rw [q174_28, if_neg (by rw [i_le, i_n (by omega), i_n (by omega)]; omega), if_pos (am_k hi (by omega)), if_pos (am_k hi (by omega)), i_cl (by omega), am_wI_s, am_wI_s, s_ne _ _ (show (37 : Nat) ≠ 41 by decide), s_eq, s_ne _ _ (show (41 : Nat) ≠ 37 by decide), s_eq, nb_0, s_two _ (by decide), fil_s, fil_s, show nI i + nI 1 = nI (i + 1) from nI_1 i]
  have l56 : ∀ τ : am_M, am_go am_X0 (am_ex (d + 1)) M174 56 [.ref 34, .int s, .int (nI 0)] [] τ = am_go am_X0 (am_ex (d + 1)) M174 77 [.ref 34, .int s, .int (nI 0)] [] (am_set τ 38 (fil (τ.1 38) 8 (-1))) := by
    intro τ
    have := lp_mem 0 8 (by omega) (fun i => am_go am_X0 (am_ex (d + 1)) M174 56 [.ref 34, .int s, .int (nI i)] [] (am_set τ 38 (fil (τ.1 38) i (-1)))) ?_
    · rw [fil_0, s_self] at this
      refine Eq.trans this ?_
      show am_go am_X0 (am_ex (d + 1)) M174 56 [.ref 34, .int s, .int (nI 8)] [] _ = _
      rw [q174_56, if_pos (by decide)]
    · intro i _ hi
      show am_go am_X0 (am_ex (d + 1)) M174 56 [.ref 34, .int s, .int (nI i)] [] _ = am_go am_X0 (am_ex (d + 1)) M174 56 [.ref 34, .int s, .int (nI (i + 1))] [] _
      rw [q174_56, if_neg (by rw [i_le, i_n (by omega), i_n (by omega)]; omega), if_pos (am_k hi (by omega)), i_cl (by omega), am_wI_s, s_eq, s_ss, fil_s, show nI i + nI 1 = nI (i + 1) from nI_1 i]
  have l77 : ∀ τ : am_M, am_go am_X0 (am_ex (d + 1)) M174 77 [.ref 34, .int s, .int (nI 0)] [] τ = am_go am_X0 (am_ex (d + 1)) M174 104 [.ref 34, .int s, .int (nI 0)] [] (am_set (am_set τ 39 (fil (τ.1 39) 4 (nI 0))) 54 (fil (τ.1 54) 4 (-1))) := by
    intro τ
    have := lp_mem 0 4 (by omega) (fun i => am_go am_X0 (am_ex (d + 1)) M174 77 [.ref 34, .int s, .int (nI i)] [] (am_set (am_set τ 39 (fil (τ.1 39) i (nI 0))) 54 (fil (τ.1 54) i (-1)))) ?_
    · rw [fil_0, fil_0, s_self] at this
      rw [s_self] at this
      refine Eq.trans this ?_
      show am_go am_X0 (am_ex (d + 1)) M174 77 [.ref 34, .int s, .int (nI 4)] [] _ = _
      rw [q174_77, if_pos (by decide)]
    · intro i _ hi
      show am_go am_X0 (am_ex (d + 1)) M174 77 [.ref 34, .int s, .int (nI i)] [] _ = am_go am_X0 (am_ex (d + 1)) M174 77 [.ref 34, .int s, .int (nI (i + 1))] [] _
      rw [q174_77, if_neg (by rw [i_le, i_n (by omega), i_n (by omega)]; omega), if_pos (am_k hi (by omega)), if_pos (am_k hi (by omega)), i_cl (by omega), am_wI_s, am_wI_s, s_ne _ _ (show (39 : Nat) ≠ 54 by decide), s_eq, s_ne _ _ (show (54 : Nat) ≠ 39 by decide), s_eq, s_two _ (by decide), fil_s, fil_s, show nI i + nI 1 = nI (i + 1) from nI_1 i]
  have l104 : ∀ τ : am_M, am_go am_X0 (am_ex (d + 1)) M174 104 [.ref 34, .int s, .int (nI 0)] [] τ = rV (
      let a := am_set (am_set τ 44 (fil (τ.1 44) 8 (nI 0))) 45 (fil (τ.1 45) 8 (nI 0))
      let a := am_set a 34 (upd (upd (upd (upd (a.1 34) 22 (nI 1)) 24 (nI 0)) 23 (nI 0)) 21 (nI 1))
      am_set a 35 (upd (a.1 35) 0 (nI 1))) := by
    intro τ
    have := lp_mem 0 8 (by omega) (fun i => am_go am_X0 (am_ex (d + 1)) M174 104 [.ref 34, .int s, .int (nI i)] [] (am_set (am_set τ 44 (fil (τ.1 44) i (nI 0))) 45 (fil (τ.1 45) i (nI 0)))) ?_
    · rw [fil_0, fil_0, s_self] at this
      rw [s_self] at this
      refine Eq.trans this ?_
      show am_go am_X0 (am_ex (d + 1)) M174 104 [.ref 34, .int s, .int (nI 8)] [] _ = _
      rw [q174_104, if_pos (by decide)]
      simp only [am_wI_s, s_eq, s_ss]
      rw [y177 _ _ (kc := 0) (by rw [s_eq]; exact if_pos rfl), bI_r, if_pos (by decide), s_eq, s_ss, show (nI 0).toNatClampNeg = 0 from i_cl (by omega)]
      rw [show ∀ f : Nat → Int32, upd (upd f 21 (nI 0)) 21 (nI (0 + 1)) = upd f 21 (nI 1) from fun f => funext fun k => by simp only [upd]; split <;> rfl]
    · intro i _ hi
      show am_go am_X0 (am_ex (d + 1)) M174 104 [.ref 34, .int s, .int (nI i)] [] _ = am_go am_X0 (am_ex (d + 1)) M174 104 [.ref 34, .int s, .int (nI (i + 1))] [] _
      rw [q174_104, if_neg (by rw [i_le, i_n (by omega), i_n (by omega)]; omega), if_pos (am_k hi (by omega)), if_pos (am_k hi (by omega)), i_cl (by omega), am_wI_s, am_wI_s, s_ne _ _ (show (44 : Nat) ≠ 45 by decide), s_eq, s_ne _ _ (show (45 : Nat) ≠ 44 by decide), s_eq, s_two _ (by decide), fil_s, fil_s, show nI i + nI 1 = nI (i + 1) from nI_1 i]
  rw [l7, l28, l56, l77, l104]
  rfl
theorem y175 (s : Int32) : am_ex (d + 3) 175 [.ref 34, .int s] σ = rV (bgM (th σ (nI 0)) s) := by
  rw [e175, q175_0, th_w, y174, bV_r]
end BEG
