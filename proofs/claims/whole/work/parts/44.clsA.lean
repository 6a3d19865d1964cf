/-! the class: records, holds, marks, days -/
section CLA
variable (d : Nat) (σ : am_M)
theorem nb_0 : vp_nar .boolean (nI 0) = nI 0 := by decide +kernel
theorem nb_1 : vp_nar .boolean (nI 1) = nI 1 := by decide +kernel
/-- how many of the n numbers from i on have P -/
def cnt (P : Nat → Prop) [DecidablePred P] : Nat → Nat → Nat
  | _, 0 => 0
  | i, n + 1 => (if P i then 1 else 0) + cnt P (i + 1) n
theorem cnt_le (P : Nat → Prop) [DecidablePred P] : ∀ n i, cnt P i n ≤ n := by
  intro n
  induction n with
  | zero => intro i; exact Nat.le_refl _
  | succ n ih =>
    intro i
    have := ih (i + 1)
    rw [cnt]
    split <;> omega
theorem cnt_c {P Q : Nat → Prop} [DecidablePred P] [DecidablePred Q] : ∀ n i, (∀ j, i ≤ j → j < i + n → (P j ↔ Q j)) → cnt P i n = cnt Q i n := by
  intro n
  induction n with
  | zero => intro i _; rfl
  | succ n ih =>
    intro i h
    rw [cnt, cnt, ih (i + 1) (fun j h1 h2 => h j (by omega) (by omega))]
    by_cases hp : P i
    · rw [if_pos hp, if_pos ((h i (by omega) (by omega)).mp hp)]
    · rw [if_neg hp, if_neg (fun z => hp ((h i (by omega) (by omega)).mpr z))]
theorem x144 (x : Int32) {e : Nat} (he : e < 2 ^ 31) : am_ex (d + 1) 144 [.int x, .int (nI e)] σ = if inR x e then rV σ else rX xIO (am_tick σ) := by
  rw [e144, q144_0, q144_9]
  simp (disch := omega) only [am_in_R, inR, i_lt, i_le, i_n, i_cl, nI_add, pk_mul, i_m1]
  by_cases h : 0 ≤ x.toInt ∧ x.toInt < (e : Int)
  · rw [if_neg (by omega), if_pos (by omega), if_pos h]
  · rw [if_neg h]
    by_cases h2 : x.toInt < 0
    · rw [if_pos (by omega)]
    · rw [if_neg (by omega), if_neg (by omega)]
theorem x145 (x : Int32) {e : Nat} (he : e < 2 ^ 30) : am_ex (d + 1) 145 [.int x, .int (nI e)] σ = if inR x (e + 1) then rV σ else rX xIA (am_tick σ) := by
  rw [e145, q145_0, q145_9]
  simp (disch := omega) only [am_in_R, inR, i_lt, i_le, i_n, i_cl, nI_add, pk_mul, i_m1]
  by_cases h : 0 ≤ x.toInt ∧ x.toInt < ((e + 1 : Nat) : Int)
  · rw [if_neg (by omega), if_pos (by omega), if_pos h]
  · rw [if_neg h]
    by_cases h2 : x.toInt < 0
    · rw [if_pos (by omega)]
    · rw [if_neg (by omega), if_neg (by omega)]
theorem x87 : am_ex (d + 1) 87 [.ref 3] σ = rI (nI (cnt (fun k => ¬ σ.1 19 k = nI 0) 0 64)) σ := by
  rw [e87, q87_0]
  have lp : ∀ n i c, i + n = 64 → am_go am_X0 (am_ex d) M87 4 [.ref 3, .int (nI c), .int (nI i)] [] σ = rI (nI (c + cnt (fun k => ¬ σ.1 19 k = nI 0) i n)) σ := by
    intro n
    induction n with
    | zero =>
      intro i c hi
      rw [q87_4, if_pos (by rw [i_le, i_n (by omega), i_n (by omega)]; omega)]
      rfl
    | succ n ih =>
      intro i c hi
      rw [q87_4]
      simp (disch := omega) only [am_in_R, inR, i_lt, i_le, i_n, i_cl, nI_add, pk_mul, i_m1]
      rw [if_neg (by omega), if_pos (by omega), cnt]
      by_cases h : σ.1 19 i = nI 0
      · rw [if_pos h, ih (i + 1) c (by omega), if_neg (fun z => z h), Nat.zero_add]
      · rw [if_neg h, ih (i + 1) (c + 1) (by omega), if_pos h, Nat.add_assoc]
  have := lp 64 0 0 rfl
  rw [Nat.zero_add] at this
  exact this
theorem x88 {a b : Nat} (hab : a ≤ b) (hb : b ≤ 64) : am_ex (d + 3) 88 [.ref 3, .int (nI a), .int (nI b)] σ = rI (nI (cnt (fun k => ¬ σ.1 17 k = -1) a (b - a))) σ := by
  rw [e88, q88_0]
  have lp : ∀ n i c, i + n = b → am_go am_X0 (am_ex (d + 2)) M88 5 [.ref 3, .int (nI a), .int (nI b), .int (nI c), .int (nI i)] [] σ = rI (nI (c + cnt (fun k => ¬ σ.1 17 k = -1) i n)) σ := by
    intro n
    induction n with
    | zero =>
      intro i c hi
      rw [q88_5, if_pos (by rw [i_le, i_n (by omega), i_n (by omega)]; omega)]
      rfl
    | succ n ih =>
      intro i c hi
      rw [q88_5, x79, bI_r, rd_n (by omega) (by omega)]
      simp (disch := omega) only [am_in_R, inR, i_lt, i_le, i_n, i_cl, nI_add, pk_mul, i_m1]
      rw [if_neg (by omega), cnt]
      by_cases h : σ.1 17 i = -1
      · rw [if_pos h, ih (i + 1) c (by omega), if_neg (fun z => z h), Nat.zero_add]
      · rw [if_neg h, ih (i + 1) (c + 1) (by omega), if_pos h, Nat.add_assoc]
  have := lp (b - a) a 0 (by omega)
  rw [Nat.zero_add] at this
  exact this
/-- zeros from a up to b -/
def clr (f : Nat → Int32) (a b : Nat) : Nat → Int32 := fun k => if a ≤ k ∧ k < b then nI 0 else f k
theorem x86 {a b : Nat} (hab : a ≤ b) (hb : b ≤ 64) : am_ex (d + 3) 86 [.ref 3, .int (nI a), .int (nI b)] σ = rV (am_set σ 19 (clr (σ.1 19) a b)) := by
  rw [e86, q86_0]
  have lp : ∀ n i (f : Nat → Int32), i + n = b → am_go am_X0 (am_ex (d + 2)) M86 2 [.ref 3, .int (nI a), .int (nI b), .int (nI i)] [] (am_set σ 19 f) = rV (am_set σ 19 (clr f i b)) := by
    intro n
    induction n with
    | zero =>
      intro i f hi
      rw [q86_2, if_pos (by rw [i_le, i_n (by omega), i_n (by omega)]; omega)]
      have : clr f i b = f := by funext k; unfold clr; rw [if_neg (by omega)]
      rw [this]
    | succ n ih =>
      intro i f hi
      rw [q86_2, if_neg (by rw [i_le, i_n (by omega), i_n (by omega)]; omega), x85 d _ (by omega), bV_r, nb_0, s_eq, s_ss, show nI i + nI 1 = nI (i + 1) from nI_1 i, ih (i + 1) _ (by omega)]
      rw [show clr (upd f i (nI 0)) (i + 1) b = clr f i b from by
        funext k
        unfold clr upd
        by_cases h1 : k = i
        · subst h1; rw [if_neg (by omega), if_pos rfl, if_pos (by omega)]
        · by_cases h2 : i + 1 ≤ k ∧ k < b
          · rw [if_pos h2, if_pos (by omega)]
          · rw [if_neg h2, if_neg h1, if_neg (by omega)]]
  have := lp (b - a) a (σ.1 19) (by omega)
  rw [s_self] at this
  exact this
/-! the face: records and holds -/
theorem c100 (x : Int32) : am_ex (d + 3) 100 [.ref 0, .int x] σ = if inR x 64 then rI (σ.1 17 x.toNatClampNeg) σ else rX xIO (am_tick σ) := by
  rw [e100, q100_0, x144 (d + 1) σ x (by omega)]
  by_cases h : inR x 64
  · rw [if_pos h, if_pos h, bV_r, x79, bI_r, rd, if_pos h]
  · rw [if_neg h, if_neg h, bV_x]
theorem c101 {rc : Nat} (hr : σ.1 2 2 = nI rc) (hb : rc ≤ 200) (x : Int32) : am_ex (d + 3) 101 [.ref 0, .int x] σ = if inR x rc then rI (σ.1 15 x.toNatClampNeg) σ else rX xIO (am_tick σ) := by
  rw [e101, q101_0, x58, bI_r, hr, x144 (d + 1) σ x (by omega)]
  by_cases h : inR x rc
  · rw [if_pos h, if_pos h, bV_r, x62 d σ hr hb, bI_r, rd, if_pos h]
  · rw [if_neg h, if_neg h, bV_x]
theorem c107 {c p : Nat} (hc : c < 8) (hp : p < 85) : am_ex (d + 4) 107 [.ref 0, .int (nI c), .int (nI p)] σ = rI (nI (cnt (fun k => ¬ σ.1 17 k = -1) (fst p) (lvs p))) (am_set (am_set σ 10 (upd (σ.1 10) c (nI p))) 19 (clr (σ.1 19) (fst p) (fst p + lvs p))) := by
  have hf := fst_le hp
  rw [e107, q107_0, x144 (d + 2) σ _ (by omega), if_pos (inR_n hc (by omega)), bV_r, x144 (d + 2) σ _ (by omega), if_pos (inR_n hp (by omega)), bV_r]
  simp only [am_in_R]
  rw [if_pos (inR_n hc (by omega)), i_cl (by omega), x170 d _ hp, bI_r, x169 (d + 1) _ hp, bI_r, nI_add, x86 d _ (by omega) hf, bV_r, x88 d _ (by omega) hf, bI_r, show fst p + lvs p - fst p = lvs p by omega, am_wI_s, s_ne _ _ (show (17 : Nat) ≠ 19 by decide), s_ne _ _ (show (17 : Nat) ≠ 10 by decide), s_ne _ _ (show (19 : Nat) ≠ 10 by decide)]
theorem c107x (x y : Int32) (h : ¬ (inR x 8 ∧ inR y 85)) : am_ex (d + 4) 107 [.ref 0, .int x, .int y] σ = rX xIO (am_tick σ) := by
  rw [e107, q107_0, x144 (d + 2) σ _ (by omega)]
  by_cases h1 : inR x 8
  · rw [if_pos h1, bV_r, x144 (d + 2) σ _ (by omega), if_neg (fun z => h ⟨h1, z⟩), bV_x]
  · rw [if_neg h1, bV_x]
theorem c108 (x : Int32) : am_ex (d + 2) 108 [.ref 0, .int x] σ = if inR x 8 then rI (σ.1 10 x.toNatClampNeg) (am_set σ 10 (upd (σ.1 10) x.toNatClampNeg (-1))) else rX xIO (am_tick σ) := by
  rw [e108, q108_0, x144 d σ x (by omega)]
  simp only [am_in_R]
  by_cases h : inR x 8
  · rw [if_pos h, if_pos h, bV_r, if_pos h, if_pos h]; rfl
  · rw [if_neg h, if_neg h, bV_x]
theorem c109 (hH : okH (σ.1 10)) (x : Int32) : am_ex (d + 6) 109 [.ref 0, .int x] σ = if inR x 64 then rI (pinF (σ.1 10) x.toNatClampNeg) σ else rX xIO (am_tick σ) := by
  rw [e109, q109_0, x144 (d + 4) σ x (by omega)]
  by_cases h : inR x 64
  · obtain ⟨h1, h2⟩ := inR_of h
    rw [if_pos h, if_pos h, bV_r]
    rw [show (Value.int x) = .int (nI x.toNatClampNeg) by rw [← h1], x154 d σ hH h2, bI_r]
  · rw [if_neg h, if_neg h, bV_x]
theorem c110 (hH : okH (σ.1 10)) {k : Nat} (hk : k < 64) (v : Int32) : am_ex (d + 6) 110 [.ref 0, .int (nI k), .int v] σ = if σ.1 17 k = -1 ∨ (¬ v = nI 0 ∧ ¬ pinF (σ.1 10) k = nI 0) then rX xIS (am_tick σ) else rI (bz (¬ σ.1 19 k = nI 0)) (am_set σ 19 (upd (σ.1 19) k (vp_nar .boolean v))) := by
  have e40 : am_go am_X0 (am_ex (d + 5)) M110 40 [.ref 0, .int (nI k), .int v, .null] [] σ = rI (bz (¬ σ.1 19 k = nI 0)) (am_set σ 19 (upd (σ.1 19) k (vp_nar .boolean v))) := by
    rw [q110_40, x82, bI_r, x85 _ _ hk, bV_r]
    simp only [bz_01, if_true]
    rw [bz_c (show rd (σ.1 19) 64 (nI 0) (nI k) ≠ nI 0 ↔ ¬ σ.1 19 k = nI 0 by rw [rd_n hk (by omega)])]
  rw [e110, q110_0, x144 (d + 4) σ _ (by omega), if_pos (inR_n hk (by omega)), bV_r, x79, bI_r, rd_n hk (by omega), q110_30, e40, x154 d σ hH hk, bI_r]
  by_cases h1 : σ.1 17 k = -1
  · rw [if_pos h1, if_pos (Or.inl h1)]
  · rw [if_neg h1]
    by_cases h2 : v = nI 0
    · rw [if_pos h2, if_neg (fun z => z.elim h1 (fun q => q.1 h2))]
    · rw [if_neg h2]
      by_cases h3 : pinF (σ.1 10) k = nI 0
      · rw [if_pos h3, if_neg (fun z => z.elim h1 (fun q => q.2 h3)), e40]
      · rw [if_neg h3, if_pos (Or.inr ⟨h2, h3⟩), q110_30]
theorem c110x (x v : Int32) (h : ¬ inR x 64) : am_ex (d + 2) 110 [.ref 0, .int x, .int v] σ = rX xIO (am_tick σ) := by
  rw [e110, q110_0, x144 d σ _ (by omega), if_neg h, bV_x]
theorem c111 : am_ex (d + 2) 111 [.ref 0] σ = rI (nI (cnt (fun k => ¬ σ.1 19 k = nI 0) 0 64)) σ := by
  rw [e111, q111_0, x87, bI_r]
theorem c112 {k : Nat} (hk : k < 64) (v : Int32) : am_ex (d + 3) 112 [.ref 0, .int (nI k), .int v] σ = if -1 ≤ v.toInt ∧ v.toInt ≤ 1000000 then (if σ.1 17 k = -1 then rX xIS (am_tick σ) else rI (σ.1 18 k) (am_set σ 18 (upd (σ.1 18) k v))) else rX xIA (am_tick σ) := by
  rw [e112, q112_0, x144 (d + 1) σ _ (by omega), if_pos (inR_n hk (by omega)), bV_r, q112_17, x79, bI_r, rd_n hk (by omega), x80, bI_r, rd_n hk (by omega), x84 _ _ hk, bV_r]
  simp only [i_lt, i_le, i_m1, show (1000000 : Int32).toInt = 1000000 by decide +kernel]
  by_cases h : -1 ≤ v.toInt ∧ v.toInt ≤ 1000000
  · rw [if_neg (by omega), if_pos (by omega), if_pos h]
  · rw [if_neg h]
    by_cases h2 : v.toInt < -1
    · rw [if_pos (by omega)]
    · rw [if_neg (by omega), if_neg (by omega)]
theorem c112x (x v : Int32) (h : ¬ inR x 64) : am_ex (d + 2) 112 [.ref 0, .int x, .int v] σ = rX xIO (am_tick σ) := by
  rw [e112, q112_0, x144 d σ _ (by omega), if_neg h, bV_x]
theorem c114 : am_ex (d + 1) 114 [.ref 0] σ = rI (σ.1 0 12) σ := by rw [e114, q114_0]
/-- due at day t -/
abbrev dueP (g : Nat → Int32) (t : Int32) (k : Nat) : Prop := ¬ g k = -1 ∧ g k ≤ t
/-- one where C holds, among the first i -/
def mkA (C : Nat → Prop) [DecidablePred C] (f : Nat → Int32) (i : Nat) : Nat → Int32 := fun k => if k < i ∧ C k then nI 1 else f k
theorem mkA_0 (C : Nat → Prop) [DecidablePred C] (f : Nat → Int32) : mkA C f 0 = f := by
  funext k; unfold mkA; rw [if_neg (by omega)]
theorem mkA_t (C : Nat → Prop) [DecidablePred C] (f : Nat → Int32) {i : Nat} (h : C i) : upd (mkA C f i) i (nI 1) = mkA C f (i + 1) := by
  funext k; unfold upd mkA
  by_cases h1 : k = i
  · subst h1; rw [if_pos rfl, if_pos ⟨by omega, h⟩]
  · rw [if_neg h1]
    by_cases h2 : k < i ∧ C k
    · rw [if_pos h2, if_pos ⟨by omega, h2.2⟩]
    · rw [if_neg h2, if_neg (fun z => h2 ⟨by omega, z.2⟩)]
theorem mkA_f (C : Nat → Prop) [DecidablePred C] (f : Nat → Int32) {i : Nat} (h : ¬ C i) : mkA C f i = mkA C f (i + 1) := by
  funext k; unfold mkA
  by_cases h2 : k < i ∧ C k
  · rw [if_pos h2, if_pos ⟨by omega, h2.2⟩]
  · rw [if_neg h2]
    by_cases h3 : k = i
    · rw [if_neg (fun z => h (h3 ▸ z.2))]
    · rw [if_neg (fun z => h2 ⟨by omega, z.2⟩)]
theorem mkA_i (C : Nat → Prop) [DecidablePred C] (f : Nat → Int32) (i : Nat) : mkA C f i i = f i := by
  unfold mkA; rw [if_neg (by omega)]
/-- a leaf that gets a mark when days pass -/
abbrev newM (g f h : Nat → Int32) (t : Int32) (k : Nat) : Prop := dueP g t k ∧ f k = nI 0 ∧ pinF h k = nI 0
theorem c113_57 (v1 : Int32) (hH : okH (σ.1 10)) : ∀ n i c, i + n = 64 → am_go am_X0 (am_ex (d + 5)) M113 57 [.ref 0, .int v1, .int (nI c), .int (nI i)] [] (am_set σ 19 (mkA (newM (σ.1 18) (σ.1 19) (σ.1 10) (σ.1 0 12)) (σ.1 19) i)) = rI (nI (c + cnt (newM (σ.1 18) (σ.1 19) (σ.1 10) (σ.1 0 12)) i n)) (am_set σ 19 (mkA (newM (σ.1 18) (σ.1 19) (σ.1 10) (σ.1 0 12)) (σ.1 19) 64)) := by
  intro n
  induction n with
  | zero =>
    intro i c hi
    have : i = 64 := by omega
    subst this
    rw [q113_57, if_pos (by decide)]
    rfl
  | succ n ih =>
    intro i c hi
    generalize hτ : am_set σ 19 (mkA (newM (σ.1 18) (σ.1 19) (σ.1 10) (σ.1 0 12)) (σ.1 19) i) = τ
    have t18 : τ.1 18 = σ.1 18 := by rw [← hτ, s_ne _ _ (by decide)]
    have t10 : τ.1 10 = σ.1 10 := by rw [← hτ, s_ne _ _ (by decide)]
    have t0 : τ.1 0 = σ.1 0 := by rw [← hτ, s_ne _ _ (by decide)]
    have t19 : τ.1 19 i = σ.1 19 i := by rw [← hτ, s_eq, mkA_i]
    have e1 : nI i + nI 1 = nI (i + 1) := nI_1 i
    have e2 : nI c + nI 1 = nI (c + 1) := nI_1 c
    have hno : ¬ newM (σ.1 18) (σ.1 19) (σ.1 10) (σ.1 0 12) i → am_go am_X0 (am_ex (d + 5)) M113 57 [.ref 0, .int v1, .int (nI c), .int (nI (i + 1))] [] τ = rI (nI (c + cnt (newM (σ.1 18) (σ.1 19) (σ.1 10) (σ.1 0 12)) i (n + 1))) (am_set σ 19 (mkA (newM (σ.1 18) (σ.1 19) (σ.1 10) (σ.1 0 12)) (σ.1 19) 64)) := by
      intro hN
      rw [← hτ, mkA_f _ _ hN, ih (i + 1) c (by omega), cnt, if_neg hN, Nat.zero_add]
    rw [q113_57, if_neg (by rw [i_le, i_n (by omega), i_n (by omega)]; omega), x81, bI_r, t18, t0, rd_n (by omega) (by omega)]
    simp only [bz_0, e1, e2]
    by_cases hdue : ¬ σ.1 18 i = -1 ∧ σ.1 18 i ≤ σ.1 0 12
    · rw [if_neg (fun z => z hdue), x82, bI_r]
      simp only [bz_0]
      rw [rd_n (by omega) (by omega), t19]
      by_cases hm : σ.1 19 i = nI 0
      · rw [if_pos (fun z => z hm), x154 d τ (by rw [t10]; exact hH) (by omega), bI_r, t10]
        by_cases hp : pinF (σ.1 10) i = nI 0
        · have hN : newM (σ.1 18) (σ.1 19) (σ.1 10) (σ.1 0 12) i := ⟨hdue, hm, hp⟩
          rw [if_pos hp, x85 _ _ (by omega), bV_r, nb_1, ← hτ, s_eq, s_ss, mkA_t _ _ hN, ih (i + 1) (c + 1) (by omega), cnt, if_pos hN, Nat.add_assoc]
        · rw [if_neg hp]
          exact hno (fun z => hp z.2.2)
      · rw [if_neg (fun z => z hm)]
        exact hno (fun z => hm z.2.1)
    · rw [if_pos hdue]
      exact hno (fun z => hdue z.1)
theorem c113 (hH : okH (σ.1 10)) {t : Nat} (ht : σ.1 0 12 = nI t) (hb : t ≤ 1000000) {n : Nat} (h0 : 1 ≤ n) (hn : n ≤ 10000) (hs : t + n ≤ 1000000) : am_ex (d + 6) 113 [.ref 0, .int (nI n)] σ = rI (nI (cnt (newM (σ.1 18) (σ.1 19) (σ.1 10) (nI (t + n))) 0 64)) (am_set (am_set σ 0 (upd (σ.1 0) 12 (nI (t + n)))) 19 (mkA (newM (σ.1 18) (σ.1 19) (σ.1 10) (nI (t + n))) (σ.1 19) 64)) := by
  rw [e113, q113_0, ht, nI_add]
  simp (disch := omega) only [i_lt, i_le, i_n, show (1000000 : Int32).toInt = 1000000 by decide +kernel]
  rw [if_neg (by omega), if_pos (by omega), if_pos (by omega), am_wI_s]
  have := c113_57 d (am_set σ 0 (upd (σ.1 0) 12 (nI (t + n)))) (nI n) (by rw [s_ne _ _ (by decide)]; exact hH) 64 0 0 rfl
  rw [mkA_0] at this
  rw [s_self] at this
  rw [s_eq, s_ne _ _ (show (18 : Nat) ≠ 0 by decide), s_ne _ _ (show (19 : Nat) ≠ 0 by decide), s_ne _ _ (show (10 : Nat) ≠ 0 by decide), pk_us, Nat.zero_add] at this
  exact this
theorem c113x {t : Nat} (ht : σ.1 0 12 = nI t) (hb : t ≤ 1000000) (x : Int32) : (¬ (1 ≤ x.toInt ∧ x.toInt ≤ 10000) → am_ex (d + 1) 113 [.ref 0, .int x] σ = rX xIA (am_tick σ)) ∧ (∀ n, x = nI n → 1 ≤ n → n ≤ 10000 → 1000000 < t + n → am_ex (d + 1) 113 [.ref 0, .int x] σ = rX xIS (am_tick σ)) := by
  constructor
  · intro h
    rw [e113, q113_0, q113_12]
    simp (disch := omega) only [i_lt, i_le, i_n]
    by_cases h2 : x.toInt < 1
    · rw [if_pos (by omega)]
    · rw [if_neg (by omega), if_neg (by omega)]
  · rintro n rfl h1 h2 h3
    rw [e113, q113_0, ht, nI_add]
    simp (disch := omega) only [i_lt, i_le, i_n, show (1000000 : Int32).toInt = 1000000 by decide +kernel]
    rw [if_neg (by omega), if_pos (by omega), if_neg (by omega)]
theorem c115 (hH : okH (σ.1 10)) (b : Bool) : am_ex (d + 6) 115 [.ref 0, .int (bz (b = true))] σ = rI (nI (cnt (fun k => dueP (σ.1 18) (σ.1 0 12) k ∧ ((¬ pinF (σ.1 10) k = nI 0) ↔ b = true)) 0 64)) σ := by
  rw [e115, q115_0]
  generalize hv : bz (b = true) = v
  have lp : ∀ n i c, i + n = 64 → am_go am_X0 (am_ex (d + 5)) M115 4 [.ref 0, .int v, .int (nI c), .int (nI i)] [] σ = rI (nI (c + cnt (fun k => dueP (σ.1 18) (σ.1 0 12) k ∧ ((¬ pinF (σ.1 10) k = nI 0) ↔ b = true)) i n)) σ := by
    intro n
    induction n with
    | zero =>
      intro i c hi
      rw [q115_4, if_pos (by rw [i_le, i_n (by omega), i_n (by omega)]; omega)]
      rfl
    | succ n ih =>
      intro i c hi
      have e1 : nI i + nI 1 = nI (i + 1) := nI_1 i
      have e2 : nI c + nI 1 = nI (c + 1) := nI_1 c
      rw [q115_4, if_neg (by rw [i_le, i_n (by omega), i_n (by omega)]; omega), x81, bI_r, rd_n (by omega) (by omega), x154 d σ hH (by omega), bI_r, q115_38, q115_38, cnt]
      simp only [bz_0, e1, e2]
      by_cases hdue : ¬ σ.1 18 i = -1 ∧ σ.1 18 i ≤ σ.1 0 12
      · rw [if_neg (fun z => z hdue)]
        by_cases hp : pinF (σ.1 10) i = nI 0
        · rw [if_pos hp]
          cases b with
          | true =>
            have : v = nI 1 := by rw [← hv]; rfl
            rw [if_neg (by rw [this]; decide), ih (i + 1) c (by omega), if_neg (fun z => (z.2.mpr rfl) hp), Nat.zero_add]
          | false =>
            have : v = nI 0 := by rw [← hv]; rfl
            rw [if_pos (by rw [this]), ih (i + 1) (c + 1) (by omega), if_pos ⟨hdue, ⟨fun z => absurd hp z, fun z => by cases z⟩⟩, Nat.add_assoc]
        · rw [if_neg hp]
          cases b with
          | true =>
            have : v = nI 1 := by rw [← hv]; rfl
            rw [if_pos (by rw [this]), ih (i + 1) (c + 1) (by omega), if_pos ⟨hdue, ⟨fun _ => rfl, fun _ => hp⟩⟩, Nat.add_assoc]
          | false =>
            have : v = nI 0 := by rw [← hv]; rfl
            rw [if_neg (by rw [this]; decide), ih (i + 1) c (by omega), if_neg (fun z => by have := z.2.mp hp; cases this), Nat.zero_add]
      · rw [if_pos hdue, ih (i + 1) c (by omega), if_neg (fun z => hdue z.1), Nat.zero_add]
  have := lp 64 0 0 rfl
  rw [Nat.zero_add] at this
  exact this
end CLA
