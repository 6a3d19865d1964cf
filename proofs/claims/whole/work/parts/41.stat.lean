/-! static methods of the class: the form of the tree -/
theorem x162 (d : Nat) (σ : am_M) (x : Int32) : am_ex (d + 1) 162 [.int x] σ = rI (bz (inR x 85)) σ := by
  rw [e162, q162_0]
  simp (disch := omega) only [am_in_R, inR, i_lt, i_le, i_n, i_cl, nI_add, pk_mul, i_m1]
  split
  · rw [bz, if_neg (by omega)]
  · split
    · rw [bz, if_neg (by omega)]
    · rw [bz, if_pos (by omega)]
theorem x163 (d : Nat) (σ : am_M) (x : Int32) : am_ex (d + 1) 163 [.int x] σ = rI (bz (inR x 64)) σ := by
  rw [e163, q163_0]
  simp (disch := omega) only [am_in_R, inR, i_lt, i_le, i_n, i_cl, nI_add, pk_mul, i_m1]
  split
  · rw [bz, if_neg (by omega)]
  · split
    · rw [bz, if_neg (by omega)]
    · rw [bz, if_pos (by omega)]
theorem x164 (d : Nat) (σ : am_M) (k : Nat) : am_ex (d + 1) 164 [.int (nI k)] σ = rI (nI (21 + k)) σ := by
  rw [e164, q164_0, nI_add]
/-- the level of a place -/
def lvl (p : Nat) : Nat := if p < 1 then 0 else if p < 5 then 1 else if p < 21 then 2 else 3
def par (p : Nat) : Nat := (p - 1) / 4
theorem x165 (d : Nat) (σ : am_M) {p : Nat} (hp : p < 85) : am_ex (d + 1) 165 [.int (nI p)] σ = rI (nI (lvl p)) σ := by
  rw [e165, q165_0]
  have h0 : (am_lst.getD 1 0).toInt = 1 := by decide +kernel
  have h1 : (am_lst.getD 2 0).toInt = 5 := by decide +kernel
  have h2 : (am_lst.getD 3 0).toInt = 21 := by decide +kernel
  unfold lvl
  rw [q165_2]
  simp (disch := omega) only [am_in_R, inR, i_lt, i_le, i_n, i_cl, nI_add, pk_mul, i_m1, Nat.zero_add, h0]
  rw [if_neg (by omega), if_pos (by omega)]
  by_cases c1 : p < 1
  · rw [if_pos (by omega), if_pos c1]
  rw [if_neg (by omega), if_neg c1, q165_2]
  simp (disch := omega) only [am_in_R, inR, i_lt, i_le, i_n, i_cl, nI_add, pk_mul, i_m1, Nat.reduceAdd, h1]
  rw [if_neg (by omega), if_pos (by omega)]
  by_cases c2 : p < 5
  · rw [if_pos (by omega), if_pos c2]
  rw [if_neg (by omega), if_neg c2, q165_2]
  simp (disch := omega) only [am_in_R, inR, i_lt, i_le, i_n, i_cl, nI_add, pk_mul, i_m1, Nat.reduceAdd, h2]
  rw [if_neg (by omega), if_pos (by omega)]
  by_cases c3 : p < 21
  · rw [if_pos (by omega), if_pos c3]
  rw [if_neg (by omega), if_neg c3, q165_2]
  rw [if_pos (by decide)]
theorem x166 (d : Nat) (σ : am_M) {p : Nat} (h0 : 0 < p) (hp : p < 85) : am_ex (d + 1) 166 [.int (nI p)] σ = rI (nI (par p)) σ := by
  rw [e166, q166_0]
  simp (disch := omega) only [am_in_R, inR, i_lt, i_le, i_n, i_cl, nI_add, pk_mul, i_m1]
  rw [if_neg (by omega), pk_sub (by omega), pk_div (by omega) (by omega) (by omega)]
  rfl
theorem x167 (d : Nat) (σ : am_M) {p : Nat} : am_ex (d + 1) 167 [.int (nI p)] σ = rI (nI (4 * p + 1)) σ := by
  rw [e167, q167_0, pk_mul, nI_add]
/-- n steps towards the root -/
def up (p : Nat) : Nat → Nat
  | 0 => p
  | n + 1 => up (par p) n
theorem lvl_par {p : Nat} (h0 : 0 < p) (hp : p < 85) : lvl (par p) + 1 = lvl p := by
  unfold lvl par
  repeat' split
  all_goals omega
theorem par_lt {p : Nat} (h0 : 0 < p) : par p < p := by unfold par; omega
theorem x168_7 (d : Nat) (σ : am_M) (v0 : Int32) (l : Nat) : ∀ (n p : Nat), p < 85 → lvl p = l + n → am_go am_X0 (am_ex (d + 1)) M168 7 [.int v0, .int (nI l), .int (nI p), .int (nI (l + n))] [] σ = rI (nI (up p n)) σ := by
  intro n
  induction n with
  | zero =>
    intro p hp hl
    rw [q168_7, if_pos (by rw [i_le]; exact Int.le_refl _)]
    rfl
  | succ n ih =>
    intro p hp hl
    have hl3 : lvl p ≤ 3 := by unfold lvl; repeat' split
                               all_goals omega
    have hp0 : 0 < p := by
      rcases Nat.eq_zero_or_pos p with h | h
      · subst h; have : lvl 0 = 0 := rfl
        omega
      · exact h
    have h2 := lvl_par hp0 hp
    have h3 := par_lt hp0
    rw [q168_7, if_neg (by simp (disch := omega) only [am_in_R, inR, i_lt, i_le, i_n, i_cl, nI_add, pk_mul, i_m1]; omega), x166 d σ hp0 hp, bI_r, show nI (l + (n + 1)) + (-1) = nI (l + n) from pk_m1 (l + n)]
    exact ih (par p) (by omega) (by omega)
theorem x168 (d : Nat) (σ : am_M) {p l : Nat} (hp : p < 85) (hl : l ≤ lvl p) : am_ex (d + 2) 168 [.int (nI p), .int (nI l)] σ = rI (nI (up p (lvl p - l))) σ := by
  rw [e168, q168_0, x165 d σ hp, bI_r]
  have := x168_7 d σ (nI p) l (lvl p - l) p hp (by omega)
  rw [show l + (lvl p - l) = lvl p by omega] at this
  exact this
/-- leaves below a place -/
def lvs (p : Nat) : Nat := if p < 1 then 64 else if p < 5 then 16 else if p < 21 then 4 else 1
def fst (p : Nat) : Nat := if p < 1 then 0 else if p < 5 then (p - 1) * 16 else if p < 21 then (p - 5) * 4 else p - 21
theorem x169 (d : Nat) (σ : am_M) {p : Nat} (hp : p < 85) : am_ex (d + 2) 169 [.int (nI p)] σ = rI (nI (lvs p)) σ := by
  rw [e169, q169_0, x165 d σ hp, bI_r]
  have h : lvl p = 0 ∧ lvs p = 64 ∨ lvl p = 1 ∧ lvs p = 16 ∨ lvl p = 2 ∧ lvs p = 4 ∨ lvl p = 3 ∧ lvs p = 1 := by
    unfold lvl lvs
    repeat' split
    all_goals omega
  rcases h with ⟨a, b⟩ | ⟨a, b⟩ | ⟨a, b⟩ | ⟨a, b⟩ <;> rw [a, b]
  · rw [show nI 1 <<< (nI 2 * (nI 3 - nI 0) &&& 31) = nI 64 by decide +kernel]
  · rw [show nI 1 <<< (nI 2 * (nI 3 - nI 1) &&& 31) = nI 16 by decide +kernel]
  · rw [show nI 1 <<< (nI 2 * (nI 3 - nI 2) &&& 31) = nI 4 by decide +kernel]
  · rw [show nI 1 <<< (nI 2 * (nI 3 - nI 3) &&& 31) = nI 1 by decide +kernel]
theorem x170 (d : Nat) (σ : am_M) {p : Nat} (hp : p < 85) : am_ex (d + 3) 170 [.int (nI p)] σ = rI (nI (fst p)) σ := by
  rw [e170, q170_0, x165 (d + 1) σ hp, bI_r]
  have h : (p < 1 ∧ lvl p = 0 ∧ fst p = 0 ∧ lvs p = 64) ∨ (1 ≤ p ∧ p < 5 ∧ lvl p = 1 ∧ fst p = (p - 1) * 16 ∧ lvs p = 16) ∨ (5 ≤ p ∧ p < 21 ∧ lvl p = 2 ∧ fst p = (p - 5) * 4 ∧ lvs p = 4) ∨ (21 ≤ p ∧ lvl p = 3 ∧ fst p = p - 21 ∧ lvs p = 1) := by
    unfold lvl fst lvs
    repeat' split
    all_goals omega
  have hx := x169 d σ hp
  rcases h with ⟨c1, a, b, e⟩ | ⟨c0, c1, a, b, e⟩ | ⟨c0, c1, a, b, e⟩ | ⟨c0, a, b, e⟩
  · rw [if_pos (by rw [a]; decide), hx, bI_r, a, b, e]
    rw [show p = 0 by omega]
    rfl
  · rw [if_pos (by rw [a]; decide), hx, bI_r, a, b, e]
    rw [show am_lst.getD (nI 1).toNatClampNeg 0 = nI 1 by decide +kernel, pk_sub (by omega), pk_mul]
  · rw [if_pos (by rw [a]; decide), hx, bI_r, a, b, e]
    rw [show am_lst.getD (nI 2).toNatClampNeg 0 = nI 5 by decide +kernel, pk_sub (by omega), pk_mul]
  · rw [if_pos (by rw [a]; decide), hx, bI_r, a, b, e]
    rw [show am_lst.getD (nI 3).toNatClampNeg 0 = nI 21 by decide +kernel, pk_sub (by omega), pk_mul, Nat.mul_one]
theorem fst_le {p : Nat} (hp : p < 85) : fst p + lvs p ≤ 64 := by
  unfold fst lvs
  repeat' split
  all_goals omega
theorem x171 (d : Nat) (σ : am_M) {k p : Nat} (hk : k < 64) (hp : p < 85) : am_ex (d + 4) 171 [.int (nI k), .int (nI p)] σ = rI (bz (fst p ≤ k ∧ k < fst p + lvs p)) σ := by
  have hf := fst_le hp
  rw [e171, q171_0, x170 d σ hp, bI_r, x169 (d + 1) σ hp, bI_r]
  simp (disch := omega) only [am_in_R, inR, i_lt, i_le, i_n, i_cl, nI_add, pk_mul, i_m1]
  by_cases h1 : k < fst p
  · rw [if_pos (by omega), bz, if_neg (by omega)]
  · rw [if_neg (by omega)]
    by_cases h2 : fst p + lvs p ≤ k
    · rw [if_pos (by omega), bz, if_neg (by omega)]
    · rw [if_neg (by omega), bz, if_pos (by omega)]
