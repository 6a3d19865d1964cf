/-! the reference: records, holds, marks, days -/
section MDA
variable (d : Nat) (σ : am_M)
/-- a loop that counts -/
theorem lp_cnt {β : Type} (P : Nat → Prop) [DecidablePred P] (e : Nat) (F : Nat → Nat → β) (K : Nat → β) (he : ∀ c, F e c = K c)
    (hs : ∀ i c, i < e → F i c = F (i + 1) (if P i then c + 1 else c)) : ∀ n i c, i + n = e → F i c = K (c + cnt P i n) := by
  intro n
  induction n with
  | zero => intro i c h; have : i = e := by omega
            subst this; exact he c
  | succ n ih =>
    intro i c h
    rw [hs i c (by omega), ih (i + 1) _ (by omega), cnt]
    by_cases hp : P i
    · rw [if_pos hp, if_pos hp, Nat.add_assoc]
    · rw [if_neg hp, if_neg hp, Nat.zero_add]
/-- a loop that counts, and whose memory is a function of the index -/
theorem lp_cnt0 {β : Type} (P : Nat → Prop) [DecidablePred P] (a e : Nat) (hae : a ≤ e) (F : Nat → Nat → β) (K : Nat → β) (he : ∀ c, F e c = K c)
    (hs : ∀ i c, a ≤ i → i < e → F i c = F (i + 1) (if P i then c + 1 else c)) : F a 0 = K (cnt P a (e - a)) := by
  have : ∀ n i c, a ≤ i → i + n = e → F i c = K (c + cnt P i n) := by
    intro n
    induction n with
    | zero => intro i c _ h; have : i = e := by omega
              subst this; exact he c
    | succ n ih =>
      intro i c ha h
      rw [hs i c ha (by omega), ih (i + 1) _ (by omega) (by omega), cnt]
      by_cases hp : P i
      · rw [if_pos hp, if_pos hp, Nat.add_assoc]
      · rw [if_neg hp, if_neg hp, Nat.zero_add]
  have h := this (e - a) a 0 (Nat.le_refl _) (by omega)
  rw [Nat.zero_add] at h
  exact h
/-- is there one with P among the n from i on -/
def ext (P : Nat → Prop) [DecidablePred P] : Nat → Nat → Bool
  | _, 0 => false
  | i, n + 1 => if P i then true else ext P (i + 1) n
theorem ext_iff (P : Nat → Prop) [DecidablePred P] : ∀ n i, ext P i n = true ↔ ∃ j, i ≤ j ∧ j < i + n ∧ P j := by
  intro n
  induction n with
  | zero => intro i; exact ⟨fun h => (by cases h), fun ⟨j, h1, h2, _⟩ => absurd h2 (by omega)⟩
  | succ n ih =>
    intro i
    rw [ext]
    by_cases hp : P i
    · rw [if_pos hp]; exact ⟨fun _ => ⟨i, by omega, by omega, hp⟩, fun _ => rfl⟩
    · rw [if_neg hp, ih (i + 1)]
      exact ⟨fun ⟨j, h1, h2, h3⟩ => ⟨j, by omega, by omega, h3⟩, fun ⟨j, h1, h2, h3⟩ => ⟨j, by
        rcases Nat.eq_or_lt_of_le h1 with h | h
        · subst h; exact absurd h3 hp
        · omega, by omega, h3⟩⟩
theorem ext_c {P Q : Nat → Prop} [DecidablePred P] [DecidablePred Q] {n i : Nat} (h : ∀ j, i ≤ j → j < i + n → (P j ↔ Q j)) : ext P i n = ext Q i n := by
  rw [Bool.eq_iff_iff, ext_iff, ext_iff]
  exact ⟨fun ⟨j, h1, h2, h3⟩ => ⟨j, h1, h2, (h j h1 h2).mp h3⟩, fun ⟨j, h1, h2, h3⟩ => ⟨j, h1, h2, (h j h1 h2).mpr h3⟩⟩
/-- a loop that looks for one -/
theorem lp_ext {β : Type} (P : Nat → Prop) [DecidablePred P] (a e : Nat) (hae : a ≤ e) (F : Nat → β) (T N : β) (he : F e = N)
    (hs : ∀ i, a ≤ i → i < e → F i = if P i then T else F (i + 1)) : F a = if ext P a (e - a) = true then T else N := by
  have : ∀ n i, a ≤ i → i + n = e → F i = if ext P i n = true then T else N := by
    intro n
    induction n with
    | zero => intro i _ h; have : i = e := by omega
              subst this; exact he
    | succ n ih =>
      intro i ha h
      rw [hs i ha (by omega), ext]
      by_cases hp : P i
      · rw [if_pos hp, if_pos hp, if_pos rfl]
      · rw [if_neg hp, if_neg hp, ih (i + 1) (by omega) (by omega)]
  exact this (e - a) a (Nat.le_refl _) (by omega)
/-- a loop that changes something step by step -/
def fld {α : Type} (f : Nat → α → α) : Nat → Nat → α → α
  | _, 0, a => a
  | i, n + 1, a => fld f (i + 1) n (f i a)
theorem lp_fld {α β : Type} (f : Nat → α → α) (I : Nat → α → Prop) (a e : Nat) (hae : a ≤ e) (F : Nat → α → β) (K : α → β) (he : ∀ x, I e x → F e x = K x)
    (hs : ∀ i x, a ≤ i → i < e → I i x → F i x = F (i + 1) (f i x) ∧ I (i + 1) (f i x)) (x : α) (hI : I a x) : F a x = K (fld f a (e - a) x) ∧ I e (fld f a (e - a) x) := by
  have : ∀ n i x, a ≤ i → i + n = e → I i x → F i x = K (fld f i n x) ∧ I e (fld f i n x) := by
    intro n
    induction n with
    | zero => intro i x _ h hi; have : i = e := by omega
              subst this; exact ⟨he x hi, hi⟩
    | succ n ih =>
      intro i x ha h hi
      obtain ⟨h1, h2⟩ := hs i x ha (by omega) hi
      rw [h1, fld]
      exact ih (i + 1) _ (by omega) (by omega) h2
  exact this (e - a) a x (Nat.le_refl _) (by omega) hI
/-- the refusal of the last call -/
def th (σ : am_M) (v : Int32) : am_M := am_set σ 34 (upd (σ.1 34) 25 v)
theorem th_w (v : Int32) : am_wI σ 34 25 v = th σ v := rfl
theorem th_v (v : Int32) : (th σ v).1 34 25 = v := by unfold th; rw [s_eq]; exact if_pos rfl
theorem th_ne {a : Nat} (v : Int32) (h : a ≠ 34) : (th σ v).1 a = σ.1 a := s_ne _ _ h
theorem th_f {j : Nat} (v : Int32) (h : j ≠ 25) : (th σ v).1 34 j = σ.1 34 j := by unfold th; rw [s_eq]; exact if_neg h
theorem th_J (v : Int32) : (th σ v).2 = σ.2 := rfl
theorem th_th (v w : Int32) : th (th σ v) w = th σ w := by
  unfold th; rw [s_ss, s_eq]
  exact congrArg _ (funext fun k => by unfold upd; split <;> rfl)
theorem le00 : nI 0 ≤ nI 0 := by decide
theorem le10 : ¬ nI 1 ≤ nI 0 := by decide
theorem le20 : ¬ nI 2 ≤ nI 0 := by decide
theorem le30 : ¬ nI 3 ≤ nI 0 := by decide
theorem n10 : ¬ nI 1 = nI 0 := by decide
theorem am_t {x : Int32} {n : Nat} (h : inR x n) : am_in x n = true := by rw [am_in_R]; exact h
theorem am_k {k n : Nat} (h : k < n) (hn : n ≤ 2 ^ 31) : am_in (nI k) n = true := am_t (inR_n h hn)
theorem y172 : am_ex (d + 1) 172 [.ref 34] σ = rI (σ.1 34 25) σ := by rw [e172, q172_0]
theorem y204 (x : Int32) : am_ex (d + 3) 204 [.ref 34, .int x] σ = if inR x 64 then rI (σ.1 37 x.toNatClampNeg) (th σ (nI 0)) else rI (nI 0) (th σ (nI 1)) := by
  rw [e204, q204_0, x182, bI_r]
  by_cases h : inR x 64
  · rw [bz_t h, if_neg n10, q204_13, th_w, th_v, if_pos le00, if_pos (am_t h), if_pos h, th_ne _ _ (by decide)]
  · rw [bz_f h, if_pos rfl, q204_13, th_w, th_v, if_neg le10, if_neg h]
theorem y205 {rc : Nat} (hr : σ.1 34 23 = nI rc) (hb : rc ≤ 200) (x : Int32) : am_ex (d + 3) 205 [.ref 34, .int x] σ = if inR x rc then rI (σ.1 51 x.toNatClampNeg) (th σ (nI 0)) else rI (nI 0) (th σ (nI 1)) := by
  rw [e205, q205_0, x184 d σ hr hb, bI_r]
  by_cases h : inR x rc
  · rw [bz_t h, if_neg n10, q205_14, th_w, th_v, if_pos le00, if_pos (am_t ⟨h.1, by have := h.2; omega⟩), if_pos h, th_ne _ _ (by decide)]
  · rw [bz_f h, if_pos rfl, q205_14, th_w, th_v, if_neg le10, if_neg h]
/-- what lies at the leaves: nothing, or a record's number -/
def okR (f : Nat → Int32) : Prop := ∀ k, k < 64 → f k = -1 ∨ inR (f k) 200
/-- the due day of the record at a leaf -/
def dueOf (r u : Nat → Int32) (k : Nat) : Int32 := if r k = -1 then -1 else u (r k).toNatClampNeg
theorem y215 (hR : okR (σ.1 37)) {k : Nat} (hk : k < 64) : am_ex (d + 1) 215 [.ref 34, .int (nI k)] σ = rI (bz (dueP (dueOf (σ.1 37) (σ.1 52)) (σ.1 34 24) k)) σ := by
  rw [e215, q215_0, if_pos (am_k hk (by omega)), i_cl (by omega)]
  by_cases h : σ.1 37 k = -1
  · rw [if_pos h, bz_f (fun z => z.1 (by unfold dueOf; rw [if_pos h]))]
  · have hr := (hR k hk).resolve_left h
    have hd : dueOf (σ.1 37) (σ.1 52) k = σ.1 52 (σ.1 37 k).toNatClampNeg := by unfold dueOf; rw [if_neg h]
    rw [if_neg h, if_pos (am_k hk (by omega)), if_pos (am_t hr)]
    by_cases h1 : σ.1 52 (σ.1 37 k).toNatClampNeg = -1
    · rw [if_pos h1, bz_f (fun z => z.1 (hd.trans h1))]
    · rw [if_neg h1, if_pos (am_k hk (by omega)), if_pos (am_t hr)]
      by_cases h2 : σ.1 34 24 < σ.1 52 (σ.1 37 k).toNatClampNeg
      · rw [if_pos h2, bz_f (fun z => by have := z.2; rw [hd, i_le] at this; rw [i_lt] at h2; omega)]
      · rw [if_neg h2, bz_t ⟨fun z => h1 (hd.symm.trans z), by rw [hd, i_le]; rw [i_lt] at h2; omega⟩]
theorem y216 (hR : okR (σ.1 37)) {k : Nat} (hk : k < 64) (v : Int32) : am_ex (d + 3) 216 [.ref 34, .int (nI k), .int v] σ = if -1 ≤ v.toInt ∧ v.toInt ≤ 1000000 then (if σ.1 37 k = -1 then rI (nI 0) (th σ (nI 3)) else rI (σ.1 52 (σ.1 37 k).toNatClampNeg) (am_set (th σ (nI 0)) 52 (upd (σ.1 52) (σ.1 37 k).toNatClampNeg v))) else rI (nI 0) (th σ (nI 2)) := by
  rw [e216, q216_0, x182, bI_r, bz_t (inR_n hk (by omega)), if_neg n10, x173, bI_r]
  simp only [bz_0, i_64, show (-1 : Int64).toInt = -1 by decide +kernel, show (1000000 : Int64).toInt = 1000000 by decide +kernel]
  by_cases h : -1 ≤ v.toInt ∧ v.toInt ≤ 1000000
  · rw [if_neg (fun z => z h), if_pos (am_k hk (by omega)), if_pos h, i_cl (by omega)]
    by_cases h1 : σ.1 37 k = -1
    · rw [if_pos h1, q216_45, th_w, th_v, if_neg le30, if_pos h1]
    · have hr := (hR k hk).resolve_left h1
      rw [if_neg h1, q216_45, th_w, th_v, if_pos le00, if_pos (am_k hk (by omega)), i_cl (by omega), th_ne _ _ (by decide), if_pos (am_t hr), if_pos (am_k hk (by omega)), if_pos (am_t hr), th_ne _ _ (by decide), if_neg h1]
      rfl
  · rw [if_pos h, q216_45, th_w, th_v, if_neg le20, if_neg h]
theorem y216x (x v : Int32) (h : ¬ inR x 64) : am_ex (d + 3) 216 [.ref 34, .int x, .int v] σ = rI (nI 0) (th σ (nI 1)) := by
  rw [e216, q216_0, x182, bI_r, bz_f h, if_pos rfl, q216_45, th_w, th_v, if_neg le10]
theorem y218 : am_ex (d + 1) 218 [.ref 34] σ = rI (σ.1 34 24) (th σ (nI 0)) := by
  rw [e218, q218_0, th_w, th_f _ _ (by decide)]
theorem y226 : am_ex (d + 1) 226 [.ref 34] σ = rI (nI (cnt (fun k => ¬ σ.1 41 k = nI 0) 0 64)) σ := by
  rw [e226, q226_0]
  refine lp_cnt0 (fun k => ¬ σ.1 41 k = nI 0) 0 64 (by omega) (fun i c => am_go am_X0 (am_ex d) M226 4 [.ref 34, .int (nI c), .int (nI i)] [] σ) (fun c => rI (nI c) σ) ?_ ?_
  · intro c
    show am_go am_X0 (am_ex d) M226 4 [.ref 34, .int (nI c), .int (nI 64)] [] σ = _
    rw [q226_4, if_pos (by decide)]
  · intro i c _ hi
    show am_go am_X0 (am_ex d) M226 4 [.ref 34, .int (nI c), .int (nI i)] [] σ = am_go am_X0 (am_ex d) M226 4 [.ref 34, .int (nI _), .int (nI (i + 1))] [] σ
    rw [q226_4]
    simp (disch := omega) only [am_in_R, inR, i_lt, i_le, i_n, i_cl, nI_add, pk_mul, i_m1]
    rw [if_neg (by omega), if_pos (by omega)]
    by_cases h : σ.1 41 i = nI 0
    · rw [if_pos h, if_neg (fun z => z h)]; rfl
    · rw [if_neg h, if_pos h]
theorem y227 : am_ex (d + 2) 227 [.ref 34] σ = rI (nI (cnt (fun k => ¬ σ.1 41 k = nI 0) 0 64)) (th σ (nI 0)) := by
  rw [e227, q227_0, y226, bI_r, th_w, th_ne _ _ (by decide)]
theorem y222 (x : Int32) : am_ex (d + 3) 222 [.ref 34, .int x] σ = if inR x 8 then rI (σ.1 38 x.toNatClampNeg) (am_set (th σ (nI 0)) 38 (upd (σ.1 38) x.toNatClampNeg (-1))) else rI (nI 0) (th σ (nI 1)) := by
  rw [e222, q222_0, x220, bI_r]
  by_cases h : inR x 8
  · rw [bz_t h, if_neg n10, q222_13, th_w, th_v, if_pos le00, if_pos (am_t h), if_pos (am_t h), if_pos h, am_wI_s, th_ne _ _ (by decide)]
  · rw [bz_f h, if_pos rfl, q222_13, th_w, th_v, if_neg le10, if_neg h]
theorem y224 (hH : okH (σ.1 38)) (x : Int32) : am_ex (d + 4) 224 [.ref 34, .int x] σ = if inR x 64 then rI (pinF (σ.1 38) x.toNatClampNeg) (th σ (nI 0)) else rI (nI 0) (th σ (nI 1)) := by
  rw [e224, q224_0, x182, bI_r]
  by_cases h : inR x 64
  · obtain ⟨h1, h2⟩ := inR_of h
    rw [bz_t h, if_neg n10, q224_13, th_w, th_v, if_pos le00, if_pos h]
    rw [show (Value.int x) = .int (nI x.toNatClampNeg) by rw [← h1], x223 d _ (by rw [th_ne _ _ (by decide)]; exact hH) h2, bI_r, th_ne _ _ (by decide)]
  · rw [bz_f h, if_pos rfl, q224_13, th_w, th_v, if_neg le10, if_neg h]
theorem y225 (hH : okH (σ.1 38)) {k : Nat} (hk : k < 64) (h01 : σ.1 41 k = nI 0 ∨ σ.1 41 k = nI 1) (v : Int32) : am_ex (d + 4) 225 [.ref 34, .int (nI k), .int v] σ = if σ.1 37 k = -1 ∨ (¬ v = nI 0 ∧ ¬ pinF (σ.1 38) k = nI 0) then rI (nI 0) (th σ (nI 2)) else rI (σ.1 41 k) (am_set (th σ (nI 0)) 41 (upd (σ.1 41) k (vp_nar .boolean v))) := by
  have e34 : ∀ τ, am_go am_X0 (am_ex (d + 3)) M225 34 [.ref 34, .int (nI k), .int v, .null] [.ref 34] τ = rI (nI 0) (th τ (nI 2)) := by
    intro τ; rw [q225_34, q225_39, th_w, th_v, if_neg le20]
  have e38 : am_go am_X0 (am_ex (d + 3)) M225 38 [.ref 34, .int (nI k), .int v, .null] [.ref 34] σ = rI (σ.1 41 k) (am_set (th σ (nI 0)) 41 (upd (σ.1 41) k (vp_nar .boolean v))) := by
    rw [q225_38, q225_39, th_w, th_v, if_pos le00, if_pos (am_k hk (by omega)), if_pos (am_k hk (by omega)), i_cl (by omega), th_ne _ _ (by decide), if_pos h01, am_wI_s, th_ne _ _ (by decide)]
  rw [e225, q225_0, x182, bI_r, bz_t (inR_n hk (by omega)), if_neg n10, if_pos (am_k hk (by omega)), i_cl (by omega), e34, e38, x223 (d) σ hH hk, bI_r]
  by_cases h1 : σ.1 37 k = -1
  · rw [if_pos h1, if_pos (Or.inl h1)]
  · rw [if_neg h1]
    by_cases h2 : v = nI 0
    · rw [if_pos h2, if_neg (fun z => z.elim h1 (fun q => q.1 h2))]
    · rw [if_neg h2]
      by_cases h3 : pinF (σ.1 38) k = nI 0
      · rw [if_pos h3, if_neg (fun z => z.elim h1 (fun q => q.2 h3)), e38]
      · rw [if_neg h3, if_pos (Or.inr ⟨h2, h3⟩), e34]
theorem y225x (x v : Int32) (h : ¬ inR x 64) : am_ex (d + 3) 225 [.ref 34, .int x, .int v] σ = rI (nI 0) (th σ (nI 1)) := by
  rw [e225, q225_0, x182, bI_r, bz_f h, if_pos rfl, q225_39, th_w, th_v, if_neg le10]
theorem y221x (x y : Int32) (h : ¬ (inR x 8 ∧ inR y 85)) : am_ex (d + 3) 221 [.ref 34, .int x, .int y] σ = rI (nI 0) (th σ (nI 1)) := by
  rw [e221, q221_0, x220, bI_r]
  by_cases h1 : inR x 8
  · rw [bz_t h1, if_neg n10, x183, bI_r, bz_f (fun z => h ⟨h1, z⟩), if_pos rfl, q221_19, q221_20, th_w, th_v, if_neg le10]
  · rw [bz_f h1, if_pos rfl, q221_19, q221_20, th_w, th_v, if_neg le10]
theorem y221 {c p : Nat} (hc : c < 8) (hp : p < 85) : am_ex (d + 3) 221 [.ref 34, .int (nI c), .int (nI p)] σ = rI (nI (cnt (fun k => (fst p ≤ k ∧ k < fst p + lvs p) ∧ ¬ σ.1 37 k = -1) 0 64)) (am_set (am_set (th σ (nI 0)) 38 (upd (σ.1 38) c (nI p))) 41 (clr (σ.1 41) (fst p) (fst p + lvs p))) := by
  rw [e221, q221_0, x220, bI_r, bz_t (inR_n hc (by omega)), if_neg n10, x183, bI_r, bz_t (inR_n hp (by omega)), if_neg n10, q221_20, th_w, th_v, if_pos le00, if_pos (am_k hc (by omega)), i_cl (by omega), am_wI_s, th_ne _ _ (by decide)]
  generalize hτ : am_set (th σ (nI 0)) 38 (upd (σ.1 38) c (nI p)) = τ
  have t41 : τ.1 41 = σ.1 41 := by rw [← hτ, s_ne _ _ (by decide), th_ne _ _ (by decide)]
  have t37 : τ.1 37 = σ.1 37 := by rw [← hτ, s_ne _ _ (by decide), th_ne _ _ (by decide)]
  have hfst := fst_le hp
  have := lp_cnt0 (fun k => (fst p ≤ k ∧ k < fst p + lvs p) ∧ ¬ σ.1 37 k = -1) 0 64 (by omega) (fun i n => am_go am_X0 (am_ex (d + 2)) M221 44 [.ref 34, .int (nI c), .int (nI p), .int (nI n), .int (nI i)] [] (am_set τ 41 (clr (σ.1 41) (fst p) (min i (fst p + lvs p))))) (fun n => rI (nI n) (am_set τ 41 (clr (σ.1 41) (fst p) (fst p + lvs p)))) ?_ ?_
  · rw [show clr (σ.1 41) (fst p) (min 0 (fst p + lvs p)) = σ.1 41 from funext fun k => by unfold clr; rw [if_neg (by omega)], ← t41, s_self] at this
    rw [t41] at this
    exact this
  · intro n
    show am_go am_X0 (am_ex (d + 2)) M221 44 [.ref 34, .int (nI c), .int (nI p), .int (nI n), .int (nI 64)] [] _ = _
    rw [q221_44, if_pos (by decide), Nat.min_eq_right hfst]
  · intro i n _ hi
    show am_go am_X0 (am_ex (d + 2)) M221 44 [.ref 34, .int (nI c), .int (nI p), .int (nI n), .int (nI i)] [] _ = am_go am_X0 (am_ex (d + 2)) M221 44 [.ref 34, .int (nI c), .int (nI p), .int (nI _), .int (nI (i + 1))] [] _
    rw [q221_44, if_neg (by rw [i_le, i_n (by omega), i_n (by omega)]; omega), nI_add, x181 d _ hi hp, bI_r]
    simp only [bz_0, show nI i + nI 1 = nI (i + 1) from nI_1 i, show nI n + nI 1 = nI (n + 1) from nI_1 n, show nI n + nI 0 = nI n from nI_add n 0]
    by_cases hin : fst p ≤ i ∧ i < fst p + lvs p
    · rw [if_neg (fun z => z hin), if_pos (am_k hi (by omega)), if_pos (am_k hi (by omega)), i_cl (by omega), am_wI_s, s_eq, s_ss, nb_0, s_ne _ _ (by decide), t37]
      rw [show upd (clr (σ.1 41) (fst p) (min i (fst p + lvs p))) i (nI 0) = clr (σ.1 41) (fst p) (min (i + 1) (fst p + lvs p)) from funext fun k => by
        simp only [clr, upd]
        by_cases h1 : k = i
        · rw [if_pos h1, if_pos (by omega)]
        · rw [if_neg h1]
          by_cases h2 : fst p ≤ k ∧ k < min i (fst p + lvs p)
          · rw [if_pos h2, if_pos (by omega)]
          · rw [if_neg h2, if_neg (by omega)]]
      by_cases hr : σ.1 37 i = -1
      · rw [if_pos hr, if_neg (fun z => z.2 hr)]
      · rw [if_neg hr, if_pos ⟨hin, hr⟩]
    · rw [if_pos hin, if_neg (fun z => hin z.1)]
      rw [show clr (σ.1 41) (fst p) (min i (fst p + lvs p)) = clr (σ.1 41) (fst p) (min (i + 1) (fst p + lvs p)) from funext fun k => by
          unfold clr
          by_cases h2 : fst p ≤ k ∧ k < min i (fst p + lvs p)
          · rw [if_pos h2, if_pos (by omega)]
          · rw [if_neg h2, if_neg (by omega)]]
theorem y219 (hH : okH (σ.1 38)) (hR : okR (σ.1 37)) (b : Bool) : am_ex (d + 4) 219 [.ref 34, .int (bz (b = true))] σ = rI (nI (cnt (fun k => dueP (dueOf (σ.1 37) (σ.1 52)) (σ.1 34 24) k ∧ ((¬ pinF (σ.1 38) k = nI 0) ↔ b = true)) 0 64)) (th σ (nI 0)) := by
  rw [e219, q219_0, th_w]
  generalize hτ : th σ (nI 0) = τ
  have t38 : τ.1 38 = σ.1 38 := by rw [← hτ, th_ne _ _ (by decide)]
  have t37 : τ.1 37 = σ.1 37 := by rw [← hτ, th_ne _ _ (by decide)]
  have t52 : τ.1 52 = σ.1 52 := by rw [← hτ, th_ne _ _ (by decide)]
  have t34 : τ.1 34 24 = σ.1 34 24 := by rw [← hτ, th_f _ _ (by decide)]
  refine lp_cnt0 _ 0 64 (by omega) (fun i n => am_go am_X0 (am_ex (d + 3)) M219 9 [.ref 34, .int (bz (b = true)), .int (nI n), .int (nI i)] [] τ) (fun n => rI (nI n) τ) ?_ ?_
  · intro n
    show am_go am_X0 (am_ex (d + 3)) M219 9 [.ref 34, .int (bz (b = true)), .int (nI n), .int (nI 64)] [] _ = _
    rw [q219_9, if_pos (by decide)]
  · intro i n _ hi
    show am_go am_X0 (am_ex (d + 3)) M219 9 [.ref 34, .int (bz (b = true)), .int (nI n), .int (nI i)] [] _ = am_go am_X0 (am_ex (d + 3)) M219 9 [.ref 34, .int (bz (b = true)), .int (nI _), .int (nI (i + 1))] [] _
    rw [q219_9, if_neg (by rw [i_le, i_n (by omega), i_n (by omega)]; omega), y215 _ τ (by rw [t37]; exact hR) hi, bI_r, x223 d τ (by rw [t38]; exact hH) hi, bI_r, q219_37, q219_37, t38, t37, t52, t34]
    simp only [bz_0, show nI i + nI 1 = nI (i + 1) from nI_1 i, show nI n + nI 1 = nI (n + 1) from nI_1 n, show nI n + nI 0 = nI n from nI_add n 0]
    by_cases h1 : dueP (dueOf (σ.1 37) (σ.1 52)) (σ.1 34 24) i
    · rw [if_neg (fun z => z h1)]
      by_cases h2 : pinF (σ.1 38) i = nI 0
      · rw [if_pos h2]
        cases b with
        | true => rw [if_neg (show ¬ nI 0 = bz (true = true) by decide), if_neg (fun z => z.2.mpr rfl h2)]
        | false => rw [if_pos (show nI 0 = bz (false = true) by decide), if_pos ⟨h1, ⟨fun z => absurd h2 z, fun z => by cases z⟩⟩]
      · rw [if_neg h2]
        cases b with
        | true => rw [if_pos (show nI 1 = bz (true = true) by decide), if_pos ⟨h1, ⟨fun _ => rfl, fun _ => h2⟩⟩]
        | false => rw [if_neg (show ¬ nI 1 = bz (false = true) by decide), if_neg (fun z => by have := z.2.mp h2; cases this)]
    · rw [if_pos h1, if_neg (fun z => h1 z.1)]
theorem y217 (hH : okH (σ.1 38)) (hR : okR (σ.1 37)) {t : Nat} (ht : σ.1 34 24 = nI t) (hb : t ≤ 1000000) {n : Nat} (h0 : 1 ≤ n) (hn : n ≤ 10000) (hs : t + n ≤ 1000000) : am_ex (d + 4) 217 [.ref 34, .int (nI n)] σ = rI (nI (cnt (newM (dueOf (σ.1 37) (σ.1 52)) (σ.1 41) (σ.1 38) (nI (t + n))) 0 64)) (am_set (am_set σ 34 (upd (upd (σ.1 34) 25 (nI 0)) 24 (nI (t + n)))) 41 (mkA (newM (dueOf (σ.1 37) (σ.1 52)) (σ.1 41) (σ.1 38) (nI (t + n))) (σ.1 41) 64)) := by
  rw [e217, q217_0, x173, bI_r, bz_t (by rw [i_64, i_n (by omega), show (1 : Int64).toInt = 1 by decide +kernel, show (10000 : Int64).toInt = 10000 by decide +kernel]; omega), if_neg n10, ht, nI_add, if_pos (by rw [i_le, i_n (by omega), show (1000000 : Int32).toInt = 1000000 by decide +kernel]; omega), q217_33, th_w, th_v, if_pos le00, th_f _ _ (by decide), ht, nI_add, am_wI_s]
  unfold th
  rw [s_ss, s_eq]
  generalize hτ : am_set σ 34 (upd (upd (σ.1 34) 25 (nI 0)) 24 (nI (t + n))) = τ
  have t38 : τ.1 38 = σ.1 38 := by rw [← hτ, s_ne _ _ (by decide)]
  have t37 : τ.1 37 = σ.1 37 := by rw [← hτ, s_ne _ _ (by decide)]
  have t52 : τ.1 52 = σ.1 52 := by rw [← hτ, s_ne _ _ (by decide)]
  have t41 : τ.1 41 = σ.1 41 := by rw [← hτ, s_ne _ _ (by decide)]
  have t34 : τ.1 34 24 = nI (t + n) := by rw [← hτ, s_eq]; exact if_pos rfl
  have := lp_cnt0 (newM (dueOf (σ.1 37) (σ.1 52)) (σ.1 41) (σ.1 38) (nI (t + n))) 0 64 (by omega) (fun i c => am_go am_X0 (am_ex (d + 3)) M217 59 [.ref 34, .int (nI n), .int (nI c), .int (nI i)] [] (am_set τ 41 (mkA (newM (dueOf (σ.1 37) (σ.1 52)) (σ.1 41) (σ.1 38) (nI (t + n))) (σ.1 41) i))) (fun c => rI (nI c) (am_set τ 41 (mkA (newM (dueOf (σ.1 37) (σ.1 52)) (σ.1 41) (σ.1 38) (nI (t + n))) (σ.1 41) 64))) ?_ ?_
  · rw [mkA_0, ← t41, s_self] at this
    rw [t41] at this
    exact this
  · intro c
    show am_go am_X0 (am_ex (d + 3)) M217 59 [.ref 34, .int (nI n), .int (nI c), .int (nI 64)] [] _ = _
    rw [q217_59, if_pos (by decide)]
  · intro i c _ hi
    generalize hρ : am_set τ 41 (mkA (newM (dueOf (σ.1 37) (σ.1 52)) (σ.1 41) (σ.1 38) (nI (t + n))) (σ.1 41) i) = ρ
    have r38 : ρ.1 38 = σ.1 38 := by rw [← hρ, s_ne _ _ (by decide), t38]
    have r37 : ρ.1 37 = σ.1 37 := by rw [← hρ, s_ne _ _ (by decide), t37]
    have r52 : ρ.1 52 = σ.1 52 := by rw [← hρ, s_ne _ _ (by decide), t52]
    have r34 : ρ.1 34 24 = nI (t + n) := by rw [← hρ, s_ne _ _ (by decide), t34]
    have r41 : ρ.1 41 i = σ.1 41 i := by rw [← hρ, s_eq, mkA_i]
    show am_go am_X0 (am_ex (d + 3)) M217 59 [.ref 34, .int (nI n), .int (nI c), .int (nI i)] [] ρ = am_go am_X0 (am_ex (d + 3)) M217 59 [.ref 34, .int (nI n), .int (nI _), .int (nI (i + 1))] [] _
    rw [q217_59, if_neg (by rw [i_le, i_n (by omega), i_n (by omega)]; omega), if_pos (am_k hi (by omega)), i_cl (by omega), y215 _ ρ (by rw [r37]; exact hR) hi, bI_r, x223 d ρ (by rw [r38]; exact hH) hi, bI_r, r38, r37, r52, r34, r41]
    simp only [bz_0, show nI i + nI 1 = nI (i + 1) from nI_1 i, show nI c + nI 1 = nI (c + 1) from nI_1 c]
    by_cases h1 : σ.1 41 i = nI 0
    · rw [if_pos h1]
      by_cases h2 : dueP (dueOf (σ.1 37) (σ.1 52)) (nI (t + n)) i
      · rw [if_neg (fun z => z h2)]
        by_cases h3 : pinF (σ.1 38) i = nI 0
        · rw [if_pos h3, if_pos (am_k hi (by omega)), nb_1, am_wI_s, ← hρ, s_ss, s_eq, mkA_t _ _ ⟨h2, h1, h3⟩, if_pos ⟨h2, h1, h3⟩]
        · rw [if_neg h3, ← hρ, if_neg (fun z => h3 z.2.2), mkA_f _ _ (fun z => h3 z.2.2)]
      · rw [if_pos h2, ← hρ, if_neg (fun z => h2 z.1), mkA_f _ _ (fun z => h2 z.1)]
    · rw [if_neg h1, ← hρ, if_neg (fun z => h1 z.2.1), mkA_f _ _ (fun z => h1 z.2.1)]
theorem y217x {t : Nat} (ht : σ.1 34 24 = nI t) (hb : t ≤ 1000000) (x : Int32) : (¬ (1 ≤ x.toInt ∧ x.toInt ≤ 10000) → am_ex (d + 3) 217 [.ref 34, .int x] σ = rI (nI 0) (th σ (nI 1))) ∧ (∀ n, x = nI n → 1 ≤ n → n ≤ 10000 → 1000000 < t + n → am_ex (d + 3) 217 [.ref 34, .int x] σ = rI (nI 0) (th σ (nI 2))) := by
  constructor
  · intro h
    rw [e217, q217_0, x173, bI_r, bz_f (by rw [i_64, show (1 : Int64).toInt = 1 by decide +kernel, show (10000 : Int64).toInt = 10000 by decide +kernel]; omega), if_pos rfl, q217_33, th_w, th_v, if_neg le10]
  · rintro n rfl h1 h2 h3
    rw [e217, q217_0, x173, bI_r, bz_t (by rw [i_64, i_n (by omega), show (1 : Int64).toInt = 1 by decide +kernel, show (10000 : Int64).toInt = 10000 by decide +kernel]; omega), if_neg n10, ht, nI_add, if_neg (by rw [i_le, i_n (by omega), show (1000000 : Int32).toInt = 1000000 by decide +kernel]; omega), q217_33, th_w, th_v, if_neg le20]
end MDA
