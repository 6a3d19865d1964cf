/-! the reference's small methods, and what both sides share -/
section MST
variable (d : Nat) (σ : am_M)
theorem lg_lt (x y : Int64) : (lg_cmp x y < nI 0) = (x.toInt < y.toInt) := by
  apply propext
  unfold lg_cmp
  simp only [gt_iff_lt, Int64.lt_iff_toInt_lt, ← Int64.toInt_inj]
  split
  · rename_i h
    have : ¬ ((1 : Int32) < nI 0) := by decide
    constructor
    · intro q; exact absurd q this
    · intro q; omega
  · split
    · rename_i h1 h2
      have : ¬ ((0 : Int32) < nI 0) := by decide
      constructor
      · intro q; exact absurd q this
      · intro q; omega
    · have : ((-1 : Int32) < nI 0) := by decide
      constructor
      · intro _; omega
      · intro _; exact this
theorem lg_gt (x y : Int64) : (nI 0 < lg_cmp x y) = (y.toInt < x.toInt) := by
  apply propext
  unfold lg_cmp
  simp only [gt_iff_lt, Int64.lt_iff_toInt_lt, ← Int64.toInt_inj]
  split
  · rename_i h
    have : (nI 0 < (1 : Int32)) := by decide
    constructor
    · intro _; exact h
    · intro _; exact this
  · split
    · rename_i h1 h2
      have : ¬ (nI 0 < (0 : Int32)) := by decide
      constructor
      · intro q; exact absurd q this
      · intro q; omega
    · have : ¬ (nI 0 < (-1 : Int32)) := by decide
      constructor
      · intro q; exact absurd q this
      · intro q; omega
theorem x173 (a b c : Int64) : am_ex (d + 1) 173 [.long a, .long b, .long c] σ = rI (bz (b.toInt ≤ a.toInt ∧ a.toInt ≤ c.toInt)) σ := by
  rw [e173, q173_0]
  simp only [lg_lt, lg_gt]
  split
  · rw [bz, if_neg (by omega)]
  · split
    · rw [bz, if_neg (by omega)]
    · rw [bz, if_pos (by omega)]
theorem i_64 (x : Int32) : x.toInt64.toInt = x.toInt := Int32.toInt_toInt64 x
theorem bz_c {p q : Prop} [Decidable p] [Decidable q] (h : p ↔ q) : bz p = bz q := by
  by_cases hp : p
  · rw [bz, bz, if_pos hp, if_pos (h.mp hp)]
  · rw [bz, bz, if_neg hp, if_neg (fun z => hp (h.mpr z))]
theorem x182 (x : Int32) : am_ex (d + 2) 182 [.int x] σ = rI (bz (inR x 64)) σ := by
  rw [e182, q182_0, x173, bI_r]
  simp only [bz_01, if_true, i_64]
  rw [bz_c (q := inR x 64)]
  unfold inR
  rw [show (0 : Int64).toInt = 0 by decide, show (63 : Int64).toInt = 63 by decide]
  omega
theorem x183 (x : Int32) : am_ex (d + 2) 183 [.int x] σ = rI (bz (inR x 85)) σ := by
  rw [e183, q183_0, x173, bI_r]
  simp only [bz_01, if_true, i_64]
  rw [bz_c (q := inR x 85)]
  unfold inR
  rw [show (0 : Int64).toInt = 0 by decide, show (84 : Int64).toInt = 84 by decide]
  omega
theorem x208 (x : Int32) : am_ex (d + 2) 208 [.int x] σ = rI (bz (inR x 4)) σ := by
  rw [e208, q208_0, x173, bI_r]
  simp only [bz_01, if_true, i_64]
  rw [bz_c (q := inR x 4)]
  unfold inR
  rw [show (0 : Int64).toInt = 0 by decide, show (3 : Int64).toInt = 3 by decide]
  omega
theorem x220 (x : Int32) : am_ex (d + 2) 220 [.int x] σ = rI (bz (inR x 8)) σ := by
  rw [e220, q220_0, x173, bI_r]
  simp only [bz_01, if_true, i_64]
  rw [bz_c (q := inR x 8)]
  unfold inR
  rw [show (0 : Int64).toInt = 0 by decide, show (7 : Int64).toInt = 7 by decide]
  omega
theorem x268 (x : Int32) : am_ex (d + 2) 268 [.int x] σ = rI (bz (inR x 4)) σ := by
  rw [e268, q268_0, x173, bI_r]
  simp only [bz_01, if_true, i_64]
  rw [bz_c (q := inR x 4)]
  unfold inR
  rw [show (0 : Int64).toInt = 0 by decide, show (3 : Int64).toInt = 3 by decide]
  omega
theorem i_pred {n : Nat} (h : n < 2 ^ 30) : (nI n - nI 1).toInt = (n : Int) - 1 := pk_sub_toInt h (by omega)
theorem x184 {rc : Nat} (h : σ.1 34 23 = nI rc) (hb : rc ≤ 200) (x : Int32) : am_ex (d + 2) 184 [.ref 34, .int x] σ = rI (bz (inR x rc)) σ := by
  rw [e184, q184_0, x173, bI_r, h]
  simp only [bz_01, if_true, i_64]
  rw [bz_c (q := inR x rc)]
  unfold inR
  rw [show (0 : Int64).toInt = 0 by decide, i_pred (by omega)]
  omega
theorem x185 {md : Nat} (h : σ.1 34 22 = nI md) (hb : md ≤ 8) (x : Int32) : am_ex (d + 2) 185 [.ref 34, .int x] σ = rI (bz (inR x md)) σ := by
  rw [e185, q185_0, x173, bI_r, h]
  simp only [bz_01, if_true, i_64]
  rw [bz_c (q := inR x md)]
  unfold inR
  rw [show (0 : Int64).toInt = 0 by decide, i_pred (by omega)]
  omega
theorem x179 {p : Nat} (h0 : 0 < p) (hp : p < 2 ^ 31) : am_ex (d + 1) 179 [.int (nI p)] σ = rI (nI (par p)) σ := by
  rw [e179, q179_0, pk_sub (by omega), pk_div (by omega) (by omega) (by omega)]
  rfl
theorem x180 {p : Nat} (hp : p < 85) : am_ex (d + 1) 180 [.int (nI p)] σ = rI (nI (lvl p)) σ := by
  rw [e180, q180_0]
  unfold lvl
  simp (disch := omega) only [am_in_R, inR, i_lt, i_le, i_n, i_cl, nI_add, pk_mul, i_m1, i_eq]
  by_cases h1 : p < 1
  · rw [if_pos (by omega), if_pos h1]
  · rw [if_neg (by omega), if_neg h1]
    by_cases h2 : p < 5
    · rw [if_neg (by omega), if_pos h2]
    · rw [if_pos (by omega), if_neg h2]
      by_cases h3 : p < 21
      · rw [if_neg (by omega), if_pos h3]
      · rw [if_pos (by omega), if_neg h3]
def tp : Nat → Nat → Nat → Nat
  | 0, n, _ => n
  | f + 1, n, t => if n ≤ t then n else tp f (par n) t
theorem bz_t {p : Prop} [Decidable p] (h : p) : bz p = nI 1 := if_pos h
theorem bz_f {p : Prop} [Decidable p] (h : ¬ p) : bz p = nI 0 := if_neg h
theorem x181_2 (v0 : Int32) {t : Nat} (ht : t < 85) : ∀ (f n : Nat), n < 85 → lvl n ≤ f → am_go am_X0 (am_ex (d + 1)) M181 2 [.int v0, .int (nI t), .int (nI n)] [] σ = rI (bz (tp f n t = t)) σ := by
  intro f
  induction f with
  | zero =>
    intro n hn hl
    have h0 : n = 0 := by unfold lvl at hl; split at hl <;> (try split at hl) <;> (try split at hl) <;> omega
    subst h0
    rw [q181_2, if_pos (by rw [i_le, i_n (by omega), i_n (by omega)]; omega)]
    by_cases h : t = 0
    · subst h
      rw [if_pos rfl, bz_t (show tp 0 0 0 = 0 from rfl)]
    · rw [if_neg (by rw [i_eq, i_n (by omega), i_n (by omega)]; omega), bz_f (show ¬ tp 0 0 t = t from fun z => h z.symm)]
  | succ f ih =>
    intro n hn hl
    rw [q181_2]
    by_cases h : n ≤ t
    · have e : tp (f + 1) n t = n := by rw [tp, if_pos h]
      rw [if_pos (by rw [i_le, i_n (by omega), i_n (by omega)]; omega)]
      by_cases h2 : n = t
      · rw [if_pos (by rw [h2]), bz_t (by rw [e]; exact h2)]
      · rw [if_neg (by rw [i_eq, i_n (by omega), i_n (by omega)]; omega), bz_f (by rw [e]; exact h2)]
    · have h0 : 0 < n := by omega
      have e : tp (f + 1) n t = tp f (par n) t := by rw [tp, if_neg h]
      rw [if_neg (by rw [i_le, i_n (by omega), i_n (by omega)]; omega), x179 d σ h0 (by omega), bI_r]
      have h2 := lvl_par h0 hn
      have h3 := par_lt h0
      rw [ih (par n) (by omega) (by omega), bz_c (show tp f (par n) t = t ↔ tp (f + 1) n t = t by rw [e])]
theorem lvl_3 (p : Nat) : lvl p ≤ 3 := by
  unfold lvl
  repeat' split
  all_goals omega
theorem tp_leaf : ∀ k, k < 64 → ∀ t, t < 85 → (tp 3 (21 + k) t = t ↔ fst t ≤ k ∧ k < fst t + lvs t) := by decide +kernel
theorem x181 {k t : Nat} (hk : k < 64) (ht : t < 85) : am_ex (d + 2) 181 [.int (nI (21 + k)), .int (nI t)] σ = rI (bz (fst t ≤ k ∧ k < fst t + lvs t)) σ := by
  rw [e181, q181_0, x181_2 d σ _ ht 3 (21 + k) (by omega) (lvl_3 _), bz_c (tp_leaf k hk t ht)]
/-! which holds pin a leaf -/
abbrev blw (k : Nat) (x : Int32) : Prop := fst x.toNatClampNeg ≤ k ∧ k < fst x.toNatClampNeg + lvs x.toNatClampNeg
def pnA (h : Nat → Int32) (k : Nat) : Nat → Nat → Int32 → Int32
  | 0, _, a => a
  | n + 1, i, a => pnA h k n (i + 1) (if h i ≠ -1 ∧ blw k (h i) then a ||| (nI 1 <<< (nI i &&& 31)) else a)
def pinF (h : Nat → Int32) (k : Nat) : Int32 := pnA h k 8 0 (nI 0)
/-- holds have places -/
def okH (h : Nat → Int32) : Prop := ∀ c, c < 8 → h c = -1 ∨ ∃ p, p < 85 ∧ h c = nI p
theorem x154 (hH : okH (σ.1 10)) {k : Nat} (hk : k < 64) : am_ex (d + 5) 154 [.ref 0, .int (nI k)] σ = rI (pinF (σ.1 10) k) σ := by
  rw [e154, q154_0]
  have lp : ∀ (n i : Nat) (a : Int32) (u : Value), (!(u.category == 2)) = true → i + n = 8 → am_go am_X0 (am_ex (d + 4)) M154 4 [.ref 0, .int (nI k), .int a, .int (nI i), u] [] σ = rI (pnA (σ.1 10) k n i a) σ := by
    intro n
    induction n with
    | zero =>
      intro i a u hu hi
      rw [q154_4 _ _ _ _ _ hu, if_pos (by rw [i_le, i_n (by omega), i_n (by omega)]; omega)]
      rfl
    | succ n ih =>
      intro i a u hu hi
      rw [q154_4 _ _ _ _ _ hu]
      simp (disch := omega) only [am_in_R, inR, i_lt, i_le, i_n, i_cl, nI_add, pk_mul, i_m1]
      rw [if_neg (by omega), if_pos (by omega), pnA]
      rcases hH i (by omega) with h | ⟨p, hp, h⟩
      · rw [if_pos h, ih (i + 1) _ _ rfl (by omega), if_neg (fun z => z.1 h)]
      · have hne : ¬ σ.1 10 i = -1 := by rw [h, i_eq, i_n (by omega), i_m1]; omega
        rw [if_neg hne, h, x171 d σ hk hp, bI_r]
        simp only [bz_0]
        have hb : blw k (nI p) ↔ fst p ≤ k ∧ k < fst p + lvs p := by unfold blw; rw [i_cl (by omega)]
        by_cases hq : fst p ≤ k ∧ k < fst p + lvs p
        · rw [if_neg (fun z => z hq), ih (i + 1) _ _ rfl (by omega), if_pos ⟨by rw [← h]; exact hne, hb.mpr hq⟩]
        · rw [if_pos hq, ih (i + 1) _ _ rfl (by omega), if_neg (fun z => hq (hb.mp z.2))]
  exact lp 8 0 (nI 0) .null rfl rfl
theorem or_0 (a : Int32) : a ||| nI 0 = a := Int32.or_zero
theorem x223 (hH : okH (σ.1 38)) {k : Nat} (hk : k < 64) : am_ex (d + 3) 223 [.ref 34, .int (nI k)] σ = rI (pinF (σ.1 38) k) σ := by
  rw [e223, q223_0]
  have lp : ∀ (n i : Nat) (a : Int32), i + n = 8 → am_go am_X0 (am_ex (d + 2)) M223 4 [.ref 34, .int (nI k), .int a, .int (nI i)] [] σ = rI (pnA (σ.1 38) k n i a) σ := by
    intro n
    induction n with
    | zero =>
      intro i a hi
      rw [q223_4, if_pos (by rw [i_le, i_n (by omega), i_n (by omega)]; omega)]
      rfl
    | succ n ih =>
      intro i a hi
      rw [q223_4]
      simp (disch := omega) only [am_in_R, inR, i_lt, i_le, i_n, i_cl, nI_add, pk_mul, i_m1, or_0]
      rw [if_neg (by omega), if_pos (by omega), pnA]
      rcases hH i (by omega) with h | ⟨p, hp, h⟩
      · rw [if_pos h, ih (i + 1) _ (by omega), if_neg (fun z => z.1 h)]
      · have hne : ¬ σ.1 38 i = -1 := by rw [h, i_eq, i_n (by omega), i_m1]; omega
        rw [if_neg hne, if_pos (by omega), h, x181 d σ hk hp, bI_r]
        simp only [bz_0]
        have hb : blw k (nI p) ↔ fst p ≤ k ∧ k < fst p + lvs p := by unfold blw; rw [i_cl (by omega)]
        by_cases hq : fst p ≤ k ∧ k < fst p + lvs p
        · rw [if_neg (fun z => z hq), ih (i + 1) _ (by omega), if_pos ⟨by rw [← h]; exact hne, hb.mpr hq⟩]
        · rw [if_pos hq, ih (i + 1) _ (by omega), if_neg (fun z => hq (hb.mp z.2))]
  exact lp 8 0 (nI 0) rfl
/-! the writable medium -/
def wrt (st : Nat → Int32) (but : Int32) : Nat → Int32
  | 0 => -1
  | n + 1 => if ¬ nI n = but ∧ st n = nI 0 then nI n else wrt st but n
theorem x38 {md : Nat} (hm : σ.1 4 5 = nI md) (hb : md ≤ 8) (but : Int32) : am_ex (d + 3) 38 [.ref 4, .int but] σ = rI (wrt (σ.1 20) but md) σ := by
  rw [e38, q38_0, hm]
  have lp : ∀ n, n ≤ md → am_go am_X0 (am_ex (d + 2)) M38 7 [.ref 4, .int but, .int (nI n - nI 1)] [] σ = rI (wrt (σ.1 20) but n) σ := by
    intro n
    induction n with
    | zero =>
      intro _
      rw [q38_7, if_pos (by decide)]
      rfl
    | succ n ih =>
      intro hn
      have e1 : nI (n + 1) - nI 1 = nI n := nI_pred n
      have e2 : nI n + (-1) = nI n - nI 1 := by rw [Int32.sub_eq_add_neg]; rfl
      rw [e1, q38_7, if_neg (by rw [i_lt, i_n (by omega), i_n (by omega)]; omega), wrt, e2, ih (by omega)]
      by_cases h : nI n = but
      · rw [if_pos h, if_neg (fun z => z.1 h)]
      · rw [if_neg h, x35 d σ hm hb, bI_r]
        simp only [bz_0]
        rw [i_cl (by omega)]
        by_cases h2 : σ.1 20 n = nI 0
        · rw [if_neg (fun z => z ⟨inR_n (by omega) (by omega), h2⟩), if_pos ⟨h, h2⟩]
        · rw [if_pos (fun z => h2 z.2), if_neg (fun z => h2 z.2)]
          exact ih (by omega)
  exact lp md (Nat.le_refl _)
theorem x186 {md : Nat} (hm : σ.1 34 22 = nI md) (hb : md ≤ 8) (but : Int32) : am_ex (d + 1) 186 [.ref 34, .int but] σ = rI (wrt (σ.1 44) but md) σ := by
  rw [e186, q186_0, hm]
  have lp : ∀ n, n ≤ md → am_go am_X0 (am_ex d) M186 7 [.ref 34, .int but, .int (nI n - nI 1)] [] σ = rI (wrt (σ.1 44) but n) σ := by
    intro n
    induction n with
    | zero =>
      intro _
      rw [q186_7, if_pos (by decide)]
      rfl
    | succ n ih =>
      intro hn
      have e1 : nI (n + 1) - nI 1 = nI n := nI_pred n
      have e2 : nI n + (-1) = nI n - nI 1 := by rw [Int32.sub_eq_add_neg]; rfl
      rw [e1, q186_7, if_neg (by rw [i_lt, i_n (by omega), i_n (by omega)]; omega), wrt, e2, ih (by omega)]
      by_cases h : nI n = but
      · rw [if_pos h, if_neg (fun z => z.1 h)]
      · simp only [am_in_R]
        rw [if_neg h, if_pos (inR_n (by omega) (by omega)), i_cl (by omega)]
        by_cases h2 : σ.1 44 n = nI 0
        · rw [if_pos h2, if_pos ⟨h, h2⟩]
        · rw [if_neg h2, if_neg (fun z => h2 z.2)]
  exact lp md (Nat.le_refl _)
theorem wrt_m {st : Nat → Int32} {but : Int32} {md : Nat} : wrt st but md = -1 ∨ ∃ m, m < md ∧ wrt st but md = nI m ∧ st m = nI 0 ∧ ¬ nI m = but := by
  induction md with
  | zero => exact Or.inl rfl
  | succ n ih =>
    rw [wrt]
    by_cases h : ¬ nI n = but ∧ st n = nI 0
    · rw [if_pos h]
      exact Or.inr ⟨n, by omega, rfl, h.2, h.1⟩
    · rw [if_neg h]
      rcases ih with q | ⟨m, h1, h2, h3, h4⟩
      · exact Or.inl q
      · exact Or.inr ⟨m, by omega, h2, h3, h4⟩
theorem wrt_c {st st' : Nat → Int32} {but : Int32} {md : Nat} (h : ∀ m, m < md → st m = st' m) : wrt st but md = wrt st' but md := by
  induction md with
  | zero => rfl
  | succ n ih =>
    rw [wrt, wrt, h n (by omega), ih (fun m hm => h m (by omega))]
end MST
