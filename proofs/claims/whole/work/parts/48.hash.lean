/-! hashes, both sides -/
section HSH
variable (d : Nat) (σ : am_M)
theorem nI_p (k : Nat) : nI (k + 1) + (-1) = nI k := by
  rw [← nI_1 k, Int32.add_assoc]
  exact Int32.add_zero _
theorem nI_m : nI 0 + (-1) = -1 := by decide +kernel
/-- a loop that counts down -/
theorem lp_dn {β : Type} (e : Nat) (F : Nat → β) (hs : ∀ i, i < e → F (i + 1) = F i) : F e = F 0 := by
  have : ∀ n, n ≤ e → F n = F 0 := by
    intro n
    induction n with
    | zero => intro _; rfl
    | succ n ih => intro h; rw [hs n (by omega)]; exact ih (by omega)
  exact this e (Nat.le_refl _)
noncomputable def ch4 (h a b c e : Int32) : Int32 := mixF (mixF (mixF (mixF (h ^^^ a) ^^^ b) ^^^ c) ^^^ e)
/-- the hash of a place, f levels above the leaves -/
noncomputable def hsF (n R : Nat → Int32) : Nat → Nat → Int32
  | 0, p => if n p = nI 0 then nI 0 else mixF (mixF (n p) ^^^ (R (p - 21) + nI 1))
  | f + 1, p => if n p = nI 0 then nI 0 else ch4 (mixF (n p)) (hsF n R f (4 * p + 1)) (hsF n R f (4 * p + 2)) (hsF n R f (4 * p + 3)) (hsF n R f (4 * p + 4))
noncomputable def hs (n R : Nat → Int32) (p : Nat) : Int32 := hsF n R (3 - lvl p) p
theorem lvl_ch {p c : Nat} (hp : p < 21) (h1 : 1 ≤ c) (h4 : c ≤ 4) : lvl (4 * p + c) = lvl p + 1 := by
  unfold lvl; repeat' split
  all_goals omega
theorem par_ch {p c : Nat} (h1 : 1 ≤ c) (h4 : c ≤ 4) : par (4 * p + c) = p := by unfold par; omega
theorem lvl_2 {p : Nat} (hp : p < 21) : lvl p ≤ 2 := by unfold lvl; repeat' split
                                                        all_goals omega
theorem lvl_lf {p : Nat} (hp : 21 ≤ p) : lvl p = 3 := by unfold lvl; repeat' split
                                                         all_goals omega
theorem hs_leaf (n R : Nat → Int32) {p : Nat} (hp : 21 ≤ p) : hs n R p = if n p = nI 0 then nI 0 else mixF (mixF (n p) ^^^ (R (p - 21) + nI 1)) := by
  unfold hs; rw [lvl_lf hp]; rfl
theorem hs_node (n R : Nat → Int32) {p : Nat} (hp : p < 21) : hs n R p = if n p = nI 0 then nI 0 else ch4 (mixF (n p)) (hs n R (4 * p + 1)) (hs n R (4 * p + 2)) (hs n R (4 * p + 3)) (hs n R (4 * p + 4)) := by
  have h2 := lvl_2 hp
  unfold hs
  rw [lvl_ch hp (by omega) (by omega), lvl_ch hp (by omega) (by omega), lvl_ch hp (by omega) (by omega), lvl_ch hp (by omega) (by omega), show 3 - lvl p = (3 - (lvl p + 1)) + 1 by omega, hsF]
theorem x21 {p : Nat} (hp : p < 85) : am_ex (d + 2) 21 [.ref 8, .int (nI p)] σ = rI (σ.1 31 p) σ := by
  rw [e21, q21_0, x162, nI_r, bz_t (inR_n hp (by omega)), if_neg n10, if_pos (am_k hp (by omega)), i_cl (by omega)]
theorem nI_s21 {p : Nat} (hp : 21 ≤ p) (hb : p < 2 ^ 20) : nI p - nI 21 = nI (p - 21) := by
  rw [i_eq, i_n (by omega), pk_sub_toInt (by omega) (by omega)]; omega
theorem s21_lt {p : Nat} (hp : p < 21) : ¬ inR (nI p - nI 21) 64 := by
  intro h
  have := h.1
  rw [pk_sub_toInt (by omega) (by omega)] at this
  omega
theorem x22 {p : Nat} (hp : p < 85) : am_ex (d + 3) 22 [.ref 8, .int (nI p)] σ = rI (if 21 ≤ p then mixF (mixF (σ.1 16 p) ^^^ (σ.1 17 (p - 21) + nI 1)) else ch4 (mixF (σ.1 16 p)) (σ.1 31 (4 * p + 1)) (σ.1 31 (4 * p + 2)) (σ.1 31 (4 * p + 3)) (σ.1 31 (4 * p + 4))) σ := by
  rw [e22, q22_0, x77, bI_r, rd_n hp (by omega), xmix, nI_r, x163, nI_r]
  by_cases h : 21 ≤ p
  · rw [nI_s21 h (by omega), bz_t (inR_n (by omega) (by omega)), if_neg n10, x79, bI_r, rd_n (by omega) (by omega), xmix, nI_r, if_pos h]
  · rw [bz_f (s21_lt (by omega)), if_pos rfl, x167, nI_r, if_neg h]
    have st : ∀ (v3 h : Int32) (c : Nat), c < 4 → am_go am_X0 (am_ex (d + 2)) M22 50 [.ref 8, .int (nI p), .int h, .int v3, .int (nI (4 * p + 1)), .int (nI (4 * p + 1 + c))] [] σ = am_go am_X0 (am_ex (d + 2)) M22 50 [.ref 8, .int (nI p), .int (mixF (h ^^^ σ.1 31 (4 * p + 1 + c))), .int v3, .int (nI (4 * p + 1)), .int (nI (4 * p + 1 + (c + 1)))] [] σ := by
      intro v3 h c hc
      rw [q22_50, nI_add, if_neg (by rw [i_le, i_n (by omega), i_n (by omega)]; omega), x21 _ _ (by omega), bI_r, xmix, nI_r, show nI (4 * p + 1 + c) + nI 1 = nI (4 * p + 1 + (c + 1)) from nI_1 _]
    have e0 := st (nI p - nI 21) (mixF (σ.1 16 p)) 0 (by omega)
    refine Eq.trans e0 ?_
    rw [st _ _ 1 (by omega), st _ _ 2 (by omega), st _ _ 3 (by omega), q22_50, nI_add, if_pos (show nI (4 * p + 1 + 4) ≤ nI (4 * p + 1 + (3 + 1)) from (by rw [i_le]; exact Int.le_refl _))]
    rfl
/-- hashes from i on -/
noncomputable def hvA (n R f : Nat → Int32) (i : Nat) : Nat → Int32 := fun k => if i ≤ k ∧ k < 85 then hs n R k else f k
theorem x20 : am_ex (d + 4) 20 [.ref 8] σ = rV (am_set σ 31 (hvA (σ.1 16) (σ.1 17) (σ.1 31) 0)) := by
  rw [e20, q20_0]
  have := lp_dn 85 (fun j => am_go am_X0 (am_ex (d + 3)) M20 3 [.ref 8, .int (nI j + (-1))] [] (am_set σ 31 (hvA (σ.1 16) (σ.1 17) (σ.1 31) j))) ?_
  · rw [show hvA (σ.1 16) (σ.1 17) (σ.1 31) 85 = σ.1 31 from funext fun k => if_neg (by omega), s_self, show nI 85 + (-1) = nI 84 from nI_p 84, nI_m] at this
    rw [this, q20_3, if_pos (by decide)]
  · intro p hp
    show am_go am_X0 (am_ex (d + 3)) M20 3 [.ref 8, .int (nI (p + 1) + (-1))] [] _ = _
    rw [nI_p, q20_3, if_neg (by rw [i_lt, i_n (by omega), i_n (by omega)]; omega), x78, bI_r]
    simp only [bz_0]
    rw [rd_n hp (by omega), s_ne _ _ (by decide), x22 _ _ hp, bI_r, q20_32, q20_32, if_pos (am_k hp (by omega)), if_pos (am_k hp (by omega)), i_cl (by omega), am_wI_s, am_wI_s, s_eq, s_ss, s_ss, s_ne _ _ (show (16 : Nat) ≠ 31 by decide), s_ne _ _ (show (17 : Nat) ≠ 31 by decide)]
    have key : ∀ v, v = hs (σ.1 16) (σ.1 17) p → upd (hvA (σ.1 16) (σ.1 17) (σ.1 31) (p + 1)) p v = hvA (σ.1 16) (σ.1 17) (σ.1 31) p := by
      intro v hv
      funext k
      simp only [upd, hvA]
      by_cases h1 : k = p
      · subst h1; rw [if_pos rfl, if_pos (by omega), hv]
      · rw [if_neg h1]
        by_cases h2 : p + 1 ≤ k ∧ k < 85
        · rw [if_pos h2, if_pos (by omega)]
        · rw [if_neg h2, if_neg (by omega)]
    by_cases h0 : σ.1 16 p = nI 0
    · rw [if_pos (fun z => z h0), key _ (by
        by_cases hl : 21 ≤ p
        · rw [hs_leaf _ _ hl, if_pos h0]
        · rw [hs_node _ _ (by omega), if_pos h0])]
    · rw [if_neg (fun z => z h0), key _ (by
        by_cases hl : 21 ≤ p
        · rw [hs_leaf _ _ hl, if_neg h0, if_pos hl]
        · rw [hs_node _ _ (by omega), if_neg h0, if_neg hl]
          simp only [hvA]
          rw [if_pos (by omega), if_pos (by omega), if_pos (by omega), if_pos (by omega)])]
theorem y266 : ∀ f p, p < 85 → lvl p + f = 3 → am_ex (d + 2 + f) 266 [.ref 34, .int (nI p)] σ = rI (hs (σ.1 35) (σ.1 37) p) σ := by
  intro f
  induction f with
  | zero =>
    intro p hp hl
    have h21 : 21 ≤ p := by
      by_cases h : 21 ≤ p
      · exact h
      · have := lvl_2 (p := p) (by omega); omega
    rw [show d + 2 + 0 = (d + 1) + 1 from rfl, e266, q266_0, if_pos (am_k hp (by omega)), i_cl (by omega), hs_leaf _ _ h21]
    by_cases h0 : σ.1 35 p = nI 0
    · rw [if_pos h0, if_pos h0]
    · rw [if_neg h0, if_neg h0, if_pos (am_k hp (by omega)), xmixM, bI_r, if_neg (by rw [i_lt, i_n (by omega), i_n (by omega)]; omega), nI_s21 h21 (by omega), if_pos (am_k (by omega) (by omega)), i_cl (by omega), xmixM, bI_r]
  | succ f ih =>
    intro p hp hl
    have h21 : p < 21 := by
      by_cases h : 21 ≤ p
      · have := lvl_lf h; omega
      · omega
    rw [show d + 2 + (f + 1) = (d + 2 + f) + 1 from rfl, e266, q266_0, if_pos (am_k hp (by omega)), i_cl (by omega), hs_node _ _ h21]
    by_cases h0 : σ.1 35 p = nI 0
    · rw [if_pos h0, if_pos h0]
    · rw [if_neg h0, if_neg h0, if_pos (am_k hp (by omega)), show d + 2 + f = (d + 1 + f) + 1 by omega, xmixM, bI_r, if_pos (by rw [i_lt, i_n (by omega), i_n (by omega)]; omega), pk_mul, nI_add]
      have st : ∀ (h : Int32) (c : Nat), 1 ≤ c → c ≤ 4 → am_go am_X0 (am_ex (d + 1 + f + 1)) M266 50 [.ref 34, .int (nI p), .int h, .int (nI (4 * p + c))] [] σ = am_go am_X0 (am_ex (d + 1 + f + 1)) M266 50 [.ref 34, .int (nI p), .int (mixF (h ^^^ hs (σ.1 35) (σ.1 37) (4 * p + c))), .int (nI (4 * p + (c + 1)))] [] σ := by
        intro h c hc1 hc4
        have hi := ih (4 * p + c) (by omega) (by rw [lvl_ch h21 hc1 hc4]; omega)
        rw [show d + 2 + f = d + 1 + f + 1 by omega] at hi
        rw [q266_50, pk_mul, nI_add, if_neg (by rw [i_lt, i_n (by omega), i_n (by omega)]; omega), hi, bI_r, xmixM, bI_r, show nI (4 * p + c) + nI 1 = nI (4 * p + (c + 1)) from nI_1 _]
      rw [st _ 1 (by omega) (by omega), st _ 2 (by omega) (by omega), st _ 3 (by omega) (by omega), st _ 4 (by omega) (by omega), q266_50, pk_mul, nI_add, if_pos (by rw [i_lt, i_n (by omega), i_n (by omega)]; omega)]
      rfl
theorem y266p {p : Nat} (hp : p < 85) : am_ex (d + 5) 266 [.ref 34, .int (nI p)] σ = rI (hs (σ.1 35) (σ.1 37) p) σ := by
  have h3 := lvl_3 p
  have := y266 (d + lvl p) σ (3 - lvl p) p hp (by omega)
  rw [show d + lvl p + 2 + (3 - lvl p) = d + 5 by omega] at this
  exact this
theorem c138 (x : Int32) : am_ex (d + 5) 138 [.ref 0, .int x] σ = if inR x 85 then rI (hs (σ.1 16) (σ.1 17) x.toNatClampNeg) (am_set σ 31 (hvA (σ.1 16) (σ.1 17) (σ.1 31) 0)) else rX xIO (am_tick σ) := by
  rw [e138, q138_0, x144 _ σ x (by omega)]
  by_cases h : inR x 85
  · obtain ⟨h1, h2⟩ := inR_of h
    rw [if_pos h, if_pos h, bV_r, x20, bV_r, show (Value.int x) = .int (nI x.toNatClampNeg) by rw [← h1], x21 _ _ h2, bI_r, s_eq]
    simp only [hvA]
    rw [if_pos (by omega)]
  · rw [if_neg h, if_neg h, bV_x]
theorem y267 (x : Int32) : am_ex (d + 6) 267 [.ref 34, .int x] σ = if inR x 85 then rI (hs (σ.1 35) (σ.1 37) x.toNatClampNeg) (th σ (nI 0)) else rI (nI 0) (th σ (nI 1)) := by
  rw [e267, q267_0, x183, bI_r]
  by_cases h : inR x 85
  · obtain ⟨h1, h2⟩ := inR_of h
    rw [bz_t h, if_neg n10, q267_13, th_w, th_v, if_pos le00, if_pos h, show (Value.int x) = .int (nI x.toNatClampNeg) by rw [← h1], y266p _ _ h2, bI_r, th_ne _ _ (by decide), th_ne _ _ (by decide)]
  · rw [bz_f h, if_pos rfl, q267_13, th_w, th_v, if_neg le10, if_neg h]
end HSH
