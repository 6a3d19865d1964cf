/-! a new beginning, both sides -/
section BEG
variable (d : Nat) (σ : am_M)
/-- v up to n -/
def fil (f : Nat → Int32) (n : Nat) (v : Int32) : Nat → Int32 := fun k => if k < n then v else f k
theorem fil_s (f : Nat → Int32) (n : Nat) (v : Int32) : upd (fil f n v) n v = fil f (n + 1) v := by
  funext k
  simp only [fil, upd]
  by_cases h : k = n
  · rw [if_pos h, if_pos (by omega)]
  · rw [if_neg h]
    by_cases h2 : k < n
    · rw [if_pos h2, if_pos (by omega)]
    · rw [if_neg h2, if_neg (by omega)]
theorem fil_0 (f : Nat → Int32) (v : Int32) : fil f 0 v = f := by
  funext k; simp only [fil]; rw [if_neg (by omega)]
/-- a loop that only changes memory -/
theorem lp_mem {β : Type} (a e : Nat) (hae : a ≤ e) (F : Nat → β) (hs : ∀ i, a ≤ i → i < e → F i = F (i + 1)) : F a = F e := by
  have : ∀ n i, a ≤ i → i + n = e → F i = F e := by
    intro n
    induction n with
    | zero => intro i _ h; rw [show i = e by omega]
    | succ n ih => intro i h1 h2; rw [hs i h1 (by omega)]; exact ih (i + 1) (by omega) (by omega)
  exact this (e - a) a (Nat.le_refl _) (by omega)
theorem x276 {a n : Nat} (hs : am_sh[a]? = some (.inl (0, n))) (hn : n < 2 ^ 31) (v : Int32) : am_ex (d + 1) 276 [.ref a, .int v] σ = rV (am_set σ a (fil (σ.1 a) n v)) := by
  rw [am_ex_s (lv := [.ref a, .int v, .null, .null]) m276 (Nat.le_of_ble_eq_true rfl) rfl]
  refine Eq.trans (g_K (v := nI 0) dJ7_fill_53178_0 rfl rfl) ?_
  refine Eq.trans (g_isn (k := 2) dJ7_fill_53178_1 rfl (Nat.le_of_ble_eq_true rfl) rfl rfl rfl) ?_
  refine Eq.trans (g_A dJ7_fill_53178_2 rfl rfl) ?_
  refine Eq.trans (g_len dJ7_fill_53178_3 hs rfl) ?_
  refine Eq.trans (g_isn (k := 3) dJ7_fill_53178_4 rfl (Nat.le_of_ble_eq_true rfl) rfl rfl rfl) ?_
  have st : ∀ (i : Nat) (τ : am_M), am_go am_X0 (am_ex d) M276 5 [.ref a, .int v, .int (nI i), .int (nI n)] [] τ = if nI n ≤ nI i then rV τ else (if am_in (nI i) n = true then am_go am_X0 (am_ex d) M276 5 [.ref a, .int v, .int (nI i + nI 1), .int (nI n)] [] (am_wI τ a (nI i).toNatClampNeg v) else none) := by
    intro i τ
    refine Eq.trans (g_A dJ7_fill_53178_5 rfl rfl) ?_
    refine Eq.trans (g_A dJ7_fill_53178_6 rfl rfl) ?_
    refine Eq.trans (g_icge (t := 20) dJ7_fill_53178_7 rfl rfl) ?_
    refine am_ite ?_ ?_
    · exact g_vret dJ7_fill_53178_20 rfl
    · refine Eq.trans (g_A dJ7_fill_53178_10 rfl rfl) ?_
      refine Eq.trans (g_A dJ7_fill_53178_11 rfl rfl) ?_
      refine Eq.trans (g_A dJ7_fill_53178_12 rfl rfl) ?_
      refine Eq.trans (g_iast dJ7_fill_53178_13 hs rfl) ?_
      refine am_ite ?_ rfl
      refine Eq.trans (g_inc (v := nI i + nI 1) dJ7_fill_53178_14 rfl (Nat.le_of_ble_eq_true rfl) rfl rfl rfl rfl) ?_
      refine Eq.trans (g_goto (pc' := 5) dJ7_fill_53178_17 rfl) ?_
      rfl
  have := lp_mem 0 n (by omega) (fun i => am_go am_X0 (am_ex d) M276 5 [.ref a, .int v, .int (nI i), .int (nI n)] [] (am_set σ a (fil (σ.1 a) i v))) ?_
  · rw [fil_0, s_self] at this
    refine Eq.trans this ?_
    show am_go am_X0 (am_ex d) M276 5 [.ref a, .int v, .int (nI n), .int (nI n)] [] _ = _
    rw [st, if_pos (by rw [i_le]; omega)]
  · intro i _ hi
    show am_go am_X0 (am_ex d) M276 5 [.ref a, .int v, .int (nI i), .int (nI n)] [] _ = am_go am_X0 (am_ex d) M276 5 [.ref a, .int v, .int (nI (i + 1)), .int (nI n)] [] _
    rw [st, if_neg (by rw [i_le, i_n (by omega), i_n (by omega)]; omega), if_pos (am_k hi (by omega)), i_cl (by omega), am_wI_s, s_eq, s_ss, fil_s, show nI i + nI 1 = nI (i + 1) from nI_1 i]
end BEG
