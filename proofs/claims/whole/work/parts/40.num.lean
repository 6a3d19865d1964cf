/-! numbers, answers, memories: the words of the pure part -/
abbrev rI (v : Int32) (σ : am_M) : Option (am_R × am_M) := some (.inl (some (.int v)), σ)
abbrev rJ (v : Int64) (σ : am_M) : Option (am_R × am_M) := some (.inl (some (.long v)), σ)
abbrev rV (σ : am_M) : Option (am_R × am_M) := some (.inl none, σ)
abbrev rX (E : String) (σ : am_M) : Option (am_R × am_M) := some (.inr E, σ)
abbrev xIO : String := "java/lang/IndexOutOfBoundsException"
abbrev xIS : String := "java/lang/IllegalStateException"
abbrev xIA : String := "java/lang/IllegalArgumentException"
abbrev xNS : String := "java/util/NoSuchElementException"
abbrev bz (p : Prop) [Decidable p] : Int32 := if p then nI 1 else nI 0
/-- x is a place below n -/
abbrev inR (x : Int32) (n : Nat) : Prop := 0 ≤ x.toInt ∧ x.toInt < (n : Int)
theorem i_lt (x y : Int32) : (x < y) = (x.toInt < y.toInt) := propext Int32.lt_iff_toInt_lt
theorem i_le (x y : Int32) : (x ≤ y) = (x.toInt ≤ y.toInt) := propext Int32.le_iff_toInt_le
theorem i_eq (x y : Int32) : (x = y) = (x.toInt = y.toInt) := propext Int32.toInt_inj.symm
theorem i_n {n : Nat} (h : n < 2 ^ 31) : (nI n).toInt = (n : Int) := nI_toInt h
theorem i_m1 : (-1 : Int32).toInt = -1 := by decide +kernel
theorem am_in_R (x : Int32) (n : Nat) : (am_in x n = true) = inR x n := by
  apply propext
  constructor
  · intro h
    exact vp_in_iff.mp (am_in_iff h)
  · intro h
    have h1 := vp_in_iff.mpr h
    unfold vp_in at h1
    unfold am_in
    simp only [Bool.not_eq_true', Bool.or_eq_false_iff, decide_eq_false_iff_not]
    exact ⟨fun q => h1 (Or.inl q), fun q => h1 (Or.inr q)⟩
theorem i_cl {n : Nat} (h : n < 2 ^ 31) : (nI n).toNatClampNeg = n := nI_clamp h
/-- a guarded read of an array -/
abbrev rd (f : Nat → Int32) (n : Nat) (d x : Int32) : Int32 := if inR x n then f x.toNatClampNeg else d
theorem inR_n {k n : Nat} (h : k < n) (hn : n ≤ 2 ^ 31) : inR (nI k) n := by
  have h1 : k < 2 ^ 31 := by omega
  unfold inR
  rw [i_n h1]
  constructor <;> omega
theorem inR_m {n : Nat} : ¬ inR (-1) n := by
  unfold inR
  rw [i_m1]; omega
theorem rd_n {f : Nat → Int32} {n k : Nat} {d : Int32} (h : k < n) (hn : n ≤ 2 ^ 31) : rd f n d (nI k) = f k := by
  have h1 : k < 2 ^ 31 := by omega
  unfold rd
  rw [if_pos (inR_n h hn), i_cl h1]
theorem rd_o {f : Nat → Int32} {n : Nat} {d x : Int32} (h : ¬ inR x n) : rd f n d x = d := if_neg h
theorem rd_m {f : Nat → Int32} {n : Nat} {d : Int32} : rd f n d (-1) = d := if_neg inR_m
theorem inR_of {x : Int32} {n : Nat} (h : inR x n) : x = nI x.toNatClampNeg ∧ x.toNatClampNeg < n := by
  have h0 : x.toNatClampNeg = x.toInt.toNat := rfl
  have h1 : x.toInt < 2 ^ 31 := by
    have := x.toInt_lt
    omega
  have h2 : x.toInt.toNat < 2 ^ 31 := by omega
  rw [h0]
  constructor
  · rw [i_eq, i_n h2]
    omega
  · omega
/-! memory: a whole cell replaced -/
def am_set (σ : am_M) (a : Nat) (f : Nat → Int32) : am_M := (va_up σ.1 a f, σ.2)
def am_setJ (σ : am_M) (a : Nat) (f : Nat → Int64) : am_M := (σ.1, va_up σ.2.1 a f, σ.2.2)
theorem am_wI_s (σ : am_M) (a j : Nat) (x : Int32) : am_wI σ a j x = am_set σ a (upd (σ.1 a) j x) := rfl
theorem am_wJ_s (σ : am_M) (a j : Nat) (x : Int64) : am_wJ σ a j x = am_setJ σ a (vp_updL (σ.2.1 a) j x) := rfl
theorem s_eq (σ : am_M) (a : Nat) (f : Nat → Int32) : (am_set σ a f).1 a = f := by simp [am_set, va_up]
theorem s_ne (σ : am_M) {a b : Nat} (f : Nat → Int32) (h : b ≠ a) : (am_set σ a f).1 b = σ.1 b := by simp [am_set, va_up, h]
theorem s_J (σ : am_M) (a : Nat) (f : Nat → Int32) : (am_set σ a f).2 = σ.2 := rfl
theorem sJ_I (σ : am_M) (a : Nat) (f : Nat → Int64) : (am_setJ σ a f).1 = σ.1 := rfl
theorem sJ_eq (σ : am_M) (a : Nat) (f : Nat → Int64) : (am_setJ σ a f).2.1 a = f := by simp [am_setJ, va_up]
theorem sJ_ne (σ : am_M) {a b : Nat} (f : Nat → Int64) (h : b ≠ a) : (am_setJ σ a f).2.1 b = σ.2.1 b := by simp [am_setJ, va_up, h]
theorem sJ_k (σ : am_M) (a : Nat) (f : Nat → Int64) : (am_setJ σ a f).2.2 = σ.2.2 := rfl
theorem s_ss (σ : am_M) (a : Nat) (f g : Nat → Int32) : am_set (am_set σ a f) a g = am_set σ a g := by
  unfold am_set
  simp only [Prod.mk.injEq, and_true]
  funext b
  by_cases h : b = a
  · simp [va_up, h]
  · simp [va_up, h]
theorem s_self (σ : am_M) (a : Nat) : am_set σ a (σ.1 a) = σ := by
  unfold am_set
  have : va_up σ.1 a (σ.1 a) = σ.1 := by
    funext b
    by_cases h : b = a
    · simp [va_up, h]
    · simp [va_up, h]
  rw [this]
theorem t_I (σ : am_M) : (am_tick σ).1 = σ.1 := rfl
theorem t_J (σ : am_M) : (am_tick σ).2.1 = σ.2.1 := rfl
/-! answers of callees -/
theorem bI_r (v : Int32) (σ : am_M) (f : Int32 → am_M → Option (am_R × am_M)) : am_bI (rI v σ) f = f v σ := rfl
theorem bI_x (E : String) (σ : am_M) (f : Int32 → am_M → Option (am_R × am_M)) : am_bI (rX E σ) f = rX E σ := rfl
theorem bJ_r (v : Int64) (σ : am_M) (f : Int64 → am_M → Option (am_R × am_M)) : am_bJ (rJ v σ) f = f v σ := rfl
theorem bJ_x (E : String) (σ : am_M) (f : Int64 → am_M → Option (am_R × am_M)) : am_bJ (rX E σ) f = rX E σ := rfl
theorem bV_r (σ : am_M) (f : am_M → Option (am_R × am_M)) : am_bV (rV σ) f = f σ := rfl
theorem bV_x (E : String) (σ : am_M) (f : am_M → Option (am_R × am_M)) : am_bV (rX E σ) f = rX E σ := rfl
theorem nI_r (v : Int32) (σ : am_M) (f : Int32 → am_M → Option (am_R × am_M)) : am_nI (rI v σ) f = f v σ := rfl
theorem bz_0 (p : Prop) [Decidable p] : (bz p = nI 0) = ¬ p := by
  apply propext
  by_cases h : p
  · simp [bz, h]; decide
  · simp [bz, h]
theorem bz_01 (p : Prop) [Decidable p] : (bz p = nI 0 ∨ bz p = nI 1) = True := by
  by_cases h : p
  · simp [bz, h]
  · simp [bz, h]
