/-! what forgetting would do: the class -/
section PLN
/-- a place of level 3 - f keeps its node -/
def stF (R u : Nat → Int32) : Nat → Nat → Bool
  | 0, p => decide (¬ R (p - 21) = -1 ∧ u (p - 21) = nI 0)
  | f + 1, p => stF R u f (4 * p + 1) || (stF R u f (4 * p + 2) || (stF R u f (4 * p + 3) || stF R u f (4 * p + 4)))
def sty (R u : Nat → Int32) (p : Nat) : Prop := p = 0 ∨ stF R u (3 - lvl p) p = true
theorem sty_leaf (R u : Nat → Int32) {p : Nat} (hp : 21 ≤ p) : sty R u p ↔ ¬ R (p - 21) = -1 ∧ u (p - 21) = nI 0 := by
  unfold sty
  rw [lvl_lf hp]
  constructor
  · rintro (e | e)
    · omega
    · exact of_decide_eq_true e
  · exact fun e => Or.inr (decide_eq_true e)
theorem sty_in (R u : Nat → Int32) {p : Nat} (h0 : 0 < p) (hp : p < 21) : sty R u p ↔ ∃ i, i < 4 ∧ sty R u (4 * p + 1 + i) := by
  have hl := lvl_2 hp
  have hc : ∀ i, i < 4 → (sty R u (4 * p + 1 + i) ↔ stF R u (2 - lvl p) (4 * p + 1 + i) = true) := fun i hi => by
    have := lvl_ch (p := p) (c := 1 + i) hp (by omega) (by omega)
    unfold sty
    rw [Nat.add_assoc, this, show 3 - (lvl p + 1) = 2 - lvl p by omega]
    exact ⟨fun z => z.elim (fun e => by omega) id, Or.inr⟩
  have e1 : sty R u p ↔ stF R u (3 - lvl p) p = true := ⟨fun z => z.elim (fun e => by omega) id, Or.inr⟩
  rw [e1, show 3 - lvl p = (2 - lvl p) + 1 by omega, stF]
  simp only [Bool.or_eq_true]
  constructor
  · rintro (e | e | e | e)
    · exact ⟨0, by omega, (hc 0 (by omega)).mpr e⟩
    · exact ⟨1, by omega, (hc 1 (by omega)).mpr e⟩
    · exact ⟨2, by omega, (hc 2 (by omega)).mpr e⟩
    · exact ⟨3, by omega, (hc 3 (by omega)).mpr e⟩
  · rintro ⟨i, hi, e⟩
    have e := (hc i hi).mp e
    have : i = 0 ∨ i = 1 ∨ i = 2 ∨ i = 3 := by omega
    rcases this with rfl | rfl | rfl | rfl
    · exact Or.inl e
    · exact Or.inr (Or.inl e)
    · exact Or.inr (Or.inr (Or.inl e))
    · exact Or.inr (Or.inr (Or.inr e))
theorem sty_0 (R u : Nat → Int32) : sty R u 0 := Or.inl rfl
theorem sty_c {R u v : Nat → Int32} (h : ∀ k, k < 64 → (u k = nI 0 ↔ v k = nI 0)) {p : Nat} (hp : p < 85) : sty R u p ↔ sty R v p := by
  have : ∀ f p, p < 85 → lvl p + f = 3 → (stF R u f p = true ↔ stF R v f p = true) := by
    intro f
    induction f with
    | zero =>
      intro p hp hl
      have hp21 : 21 ≤ p := by unfold lvl at hl; split at hl <;> (try split at hl) <;> (try split at hl) <;> omega
      unfold stF
      rw [decide_eq_true_iff, decide_eq_true_iff, h (p - 21) (by omega)]
    | succ f ih =>
      intro p hp hl
      have hp21 : p < 21 := by
        by_cases e : p < 21
        · exact e
        · have := lvl_lf (p := p) (by omega); omega
      have hc : ∀ i, i < 4 → (stF R u f (4 * p + (1 + i)) = true ↔ stF R v f (4 * p + (1 + i)) = true) := fun i hi => ih _ (by omega) (by
        have := lvl_ch (p := p) (c := 1 + i) hp21 (by omega) (by omega); omega)
      unfold stF
      simp only [Bool.or_eq_true]
      rw [hc 0 (by omega), hc 1 (by omega), hc 2 (by omega), hc 3 (by omega)]
  unfold sty
  rw [this (3 - lvl p) p hp (by have := lvl_3 p; omega)]
/-- records of marked leaves -/
def Wu (R u : Nat → Int32) (r : Nat) : Prop := ∃ k, k < 64 ∧ ¬ u k = nI 0 ∧ R k = nI r
/-- a place's key opens a record of a marked leaf -/
def opn (kc rc md : Nat) (σ : am_M) (u : Nat → Int32) (p : Nat) : Prop := p = 0 ∨ OpV kc rc md σ (Wu (σ.1 17) u) (σ.1 16 p)
def rky (kc rc md : Nat) (σ : am_M) (u : Nat → Int32) (p : Nat) : Prop := opn kc rc md σ u p ∧ sty (σ.1 17) u p
/-- children that stay -/
noncomputable def nC (σ : am_M) (u : Nat → Int32) (p : Nat) : Nat := cntC (fun i => sty (σ.1 17) u (4 * p + 1 + i)) 0 4
noncomputable def cstS (kc rc md : Nat) (σ : am_M) (u : Nat → Int32) (i x : Nat) : Nat := @ite _ (rky kc rc md σ u i) (Classical.propDecidable _) (x + nC σ u i) x
theorem cstS_t {kc rc md : Nat} {σ : am_M} {u : Nat → Int32} {i : Nat} (h : rky kc rc md σ u i) (x : Nat) : cstS kc rc md σ u i x = x + nC σ u i := @if_pos _ (Classical.propDecidable _) h _ _ _
theorem cstS_f {kc rc md : Nat} {σ : am_M} {u : Nat → Int32} {i : Nat} (h : ¬ rky kc rc md σ u i) (x : Nat) : cstS kc rc md σ u i x = x := @if_neg _ (Classical.propDecidable _) h _ _ _
/-- entries that forgetting writes -/
noncomputable def cst (kc rc md : Nat) (σ : am_M) (u : Nat → Int32) : Nat := fld (cstS kc rc md σ u) 0 21 0
theorem nC_le (σ : am_M) (u : Nat → Int32) (p : Nat) : nC σ u p ≤ 4 := by
  unfold nC cntC
  exact @cnt_le _ (fun k => Classical.propDecidable _) 4 0
theorem fld_le {f : Nat → Nat → Nat} {b : Nat} (h : ∀ i x, f i x ≤ x + b) : ∀ n i x, fld f i n x ≤ x + n * b := by
  intro n
  induction n with
  | zero => intro i x; show x ≤ x + 0 * b; omega
  | succ n ih =>
    intro i x
    have h1 := ih (i + 1) (f i x)
    have h2 := h i x
    show fld f (i + 1) n (f i x) ≤ x + (n + 1) * b
    rw [Nat.add_mul]
    omega
theorem cst_le (kc rc md : Nat) (σ : am_M) (u : Nat → Int32) : cst kc rc md σ u ≤ 84 := by
  have := fld_le (f := cstS kc rc md σ u) (b := 4) (fun i x => by
    by_cases h : rky kc rc md σ u i
    · rw [cstS_t h]; have := nC_le σ u i; omega
    · rw [cstS_f h]; omega) 21 0 0
  unfold cst
  omega
/-- some leaf is marked -/
def mkd (u : Nat → Int32) : Prop := ∃ k, k < 64 ∧ ¬ u k = nI 0
variable (d : Nat) {c kc md rc td : Nat} {lev rk : Nat → Nat} {σ : am_M} {u : Nat → Int32}
theorem x15 (X : am_M) {p : Nat} (hp : p < 85) : am_ex (d + 2) 15 [.ref 7, .int (nI p)] X = rI (bz (¬ X.1 29 p = nI 0)) X := by
  rw [e15, q15_0, x162, nI_r, bz_t (inR_n hp (by omega)), if_neg n10, if_pos (am_k hp (by omega)), i_cl (by omega)]
  by_cases e : X.1 29 p = nI 0
  · rw [if_pos e, bz_f (fun z => z e)]
  · rw [if_neg e, bz_t e]
theorem x16 (X : am_M) {p : Nat} (hp : p < 85) : am_ex (d + 2) 16 [.ref 7, .int (nI p)] X = rI (bz (X.1 7 4 = nI 0 ∧ ¬ X.1 30 p = nI 0 ∧ ¬ X.1 29 p = nI 0)) X := by
  rw [e16, q16_0]
  by_cases e0 : X.1 7 4 = nI 0
  · rw [if_pos e0, x162, nI_r, bz_t (inR_n hp (by omega)), if_neg n10, if_pos (am_k hp (by omega)), i_cl (by omega), if_pos (am_k hp (by omega))]
    by_cases e1 : X.1 30 p = nI 0
    · rw [if_pos e1, bz_f (fun z => z.2.1 e1)]
    · rw [if_neg e1]
      by_cases e2 : X.1 29 p = nI 0
      · rw [if_pos e2, bz_f (fun z => z.2.2 e2)]
      · rw [if_neg e2, bz_t ⟨e0, e1, e2⟩]
  · rw [if_neg e0, bz_f (fun z => e0 z.1)]
theorem x19 (X : am_M) {p : Nat} (hp : p < 21) : am_ex (d + 3) 19 [.ref 7, .int (nI p)] X = rI (nI (cnt (fun i => ¬ X.1 29 (4 * p + 1 + i) = nI 0) 0 4)) X := by
  rw [e19, q19_0, x167, nI_r]
  refine lp_cnt0 (fun i => ¬ X.1 29 (4 * p + 1 + i) = nI 0) 0 4 (by omega) (fun i n => am_go am_X0 (am_ex (d + 2)) M19 10 [.ref 7, .int (nI p), .int (nI (4 * p + 1)), .int (nI n), .int (nI (4 * p + 1 + i))] [] X) (fun n => rI (nI n) X) ?_ ?_
  · intro n
    show am_go am_X0 (am_ex (d + 2)) M19 10 [.ref 7, .int (nI p), .int (nI (4 * p + 1)), .int (nI n), .int (nI (4 * p + 1 + 4))] [] X = _
    rw [q19_10, nI_add, if_pos (by rw [i_le]; exact Int.le_refl _)]
  · intro i n _ hi
    show am_go am_X0 (am_ex (d + 2)) M19 10 [.ref 7, .int (nI p), .int (nI (4 * p + 1)), .int (nI n), .int (nI (4 * p + 1 + i))] [] X = am_go am_X0 (am_ex (d + 2)) M19 10 [.ref 7, .int (nI p), .int (nI (4 * p + 1)), .int (nI _), .int (nI (4 * p + 1 + (i + 1)))] [] X
    rw [q19_10, nI_add, if_neg (by rw [i_le, i_n (by omega), i_n (by omega)]; omega), x15 d X (by omega), bI_r, show nI (4 * p + 1 + i) + nI 1 = nI (4 * p + 1 + (i + 1)) from nI_1 _, show nI n + nI 1 = nI (n + 1) from nI_1 _]
    by_cases e : X.1 29 (4 * p + 1 + i) = nI 0
    · rw [bz_f (fun z => z e), if_pos rfl, if_neg (fun z => z e)]
    · rw [bz_t e, if_neg n10, if_pos e]
/-- a flag for a property -/
abbrev Flg (v : Int32) (P : Prop) : Prop := (v = nI 1 ∧ P) ∨ (v = nI 0 ∧ ¬ P)
theorem Flg.ne {v : Int32} {P : Prop} (h : Flg v P) : ¬ v = nI 0 ↔ P := by
  rcases h with ⟨a, b⟩ | ⟨a, b⟩
  · rw [a]; exact ⟨fun _ => b, fun _ => n10⟩
  · exact ⟨fun z => absurd a z, fun z => absurd z b⟩
/-- the plan for the marks u, as the class holds it -/
abbrev Pl (kc rc md : Nat) (lev : Nat → Nat) (σ : am_M) (u : Nat → Int32) (X : am_M) : Prop := (Sm σ X) ∧ (X.2.2 = σ.2.2) ∧ (Flg (X.1 7 4) (¬ mkd u)) ∧ (∀ p, p < 85 → Flg (X.1 29 p) (sty (σ.1 17) u p)) ∧ (∀ p, p < 85 → Flg (X.1 30 p) (opn kc rc md σ u p)) ∧ (Fnd kc rc lev σ md (Wu (σ.1 17) u) (X.1 25))
theorem Pl.sm {kc rc md : Nat} {lev : Nat → Nat} {σ : am_M} {u : Nat → Int32} {X : am_M} (h : Pl kc rc md lev σ u X) : Sm σ X := h.1
theorem Pl.n {kc rc md : Nat} {lev : Nat → Nat} {σ : am_M} {u : Nat → Int32} {X : am_M} (h : Pl kc rc md lev σ u X) : X.2.2 = σ.2.2 := h.2.1
theorem Pl.idle {kc rc md : Nat} {lev : Nat → Nat} {σ : am_M} {u : Nat → Int32} {X : am_M} (h : Pl kc rc md lev σ u X) : Flg (X.1 7 4) (¬ mkd u) := h.2.2.1
theorem Pl.st {kc rc md : Nat} {lev : Nat → Nat} {σ : am_M} {u : Nat → Int32} {X : am_M} (h : Pl kc rc md lev σ u X) : ∀ p, p < 85 → Flg (X.1 29 p) (sty (σ.1 17) u p) := h.2.2.2.1
theorem Pl.op {kc rc md : Nat} {lev : Nat → Nat} {σ : am_M} {u : Nat → Int32} {X : am_M} (h : Pl kc rc md lev σ u X) : ∀ p, p < 85 → Flg (X.1 30 p) (opn kc rc md σ u p) := h.2.2.2.2.1
theorem Pl.fnd {kc rc md : Nat} {lev : Nat → Nat} {σ : am_M} {u : Nat → Int32} {X : am_M} (h : Pl kc rc md lev σ u X) : Fnd kc rc lev σ md (Wu (σ.1 17) u) (X.1 25) := h.2.2.2.2.2
theorem Pl.mk {kc rc md : Nat} {lev : Nat → Nat} {σ : am_M} {u : Nat → Int32} {X : am_M} (sm : Sm σ X) (n : X.2.2 = σ.2.2) (idle : Flg (X.1 7 4) (¬ mkd u)) (st : ∀ p, p < 85 → Flg (X.1 29 p) (sty (σ.1 17) u p)) (op : ∀ p, p < 85 → Flg (X.1 30 p) (opn kc rc md σ u p)) (fnd : Fnd kc rc lev σ md (Wu (σ.1 17) u) (X.1 25)) : Pl kc rc md lev σ u X := ⟨sm, n, idle, st, op, fnd⟩
theorem x17 {X : am_M} (h : Pl kc rc md lev σ u X) : (mkd u → am_ex (d + 4) 17 [.ref 7] X = rI (nI (cst kc rc md σ u)) X) ∧ (¬ mkd u → am_ex (d + 4) 17 [.ref 7] X = rI (nI 0) X) := by
  have key : ∀ (f : Nat → Nat → Nat), (∀ i, i < 21 → ∀ x, am_go am_X0 (am_ex (d + 3)) M17 4 [.ref 7, .int (nI x), .int (nI i)] [] X = am_go am_X0 (am_ex (d + 3)) M17 4 [.ref 7, .int (nI (f i x)), .int (nI (i + 1))] [] X) → am_ex (d + 4) 17 [.ref 7] X = rI (nI (fld f 0 21 0)) X := by
    intro f hf
    rw [e17, q17_0]
    refine (lp_fld f (fun _ _ => True) 0 21 (by omega) (fun i x => am_go am_X0 (am_ex (d + 3)) M17 4 [.ref 7, .int (nI x), .int (nI i)] [] X) (fun x => rI (nI x) X) ?_ ?_ 0 trivial).1
    · intro x _
      show am_go am_X0 (am_ex (d + 3)) M17 4 [.ref 7, .int (nI x), .int (nI 21)] [] X = _
      rw [q17_4, if_pos (by decide)]
    · intro i x _ hi _
      exact ⟨hf i hi x, trivial⟩
  constructor
  · intro hm
    refine key _ (fun i hi x => ?_)
    have e0 : X.1 7 4 = nI 0 := by
      rcases h.idle with ⟨_, b⟩ | ⟨a, _⟩
      · exact absurd hm b
      · exact a
    have e1 : cnt (fun j => ¬ X.1 29 (4 * i + 1 + j) = nI 0) 0 4 = nC σ u i := cnt_C _ 0 4 (fun j _ hj => (h.st (4 * i + 1 + j) (by omega)).ne)
    rw [q17_4, if_neg (by rw [i_le, i_n (by omega), i_n (by omega)]; omega), x16 (d + 1) X (by omega), bI_r, x19 d X hi, bI_r, e1, show nI i + nI 1 = nI (i + 1) from nI_1 _, nI_add x (nC σ u i)]
    have h1 := (h.op i (by omega)).ne
    have h2 := (h.st i (by omega)).ne
    by_cases e : rky kc rc md σ u i
    · rw [bz_t ⟨e0, h1.mpr e.1, h2.mpr e.2⟩, if_neg n10, cstS_t e]
    · rw [bz_f (fun z => e ⟨h1.mp z.2.1, h2.mp z.2.2⟩), if_pos rfl, cstS_f e]
  · intro hm
    have e0 : ¬ X.1 7 4 = nI 0 := h.idle.ne.mpr hm
    have := key (fun _ x => x) (fun i hi x => by
      rw [q17_4, if_neg (by rw [i_le, i_n (by omega), i_n (by omega)]; omega), x16 (d + 1) X (by omega), bI_r, bz_f (fun z => e0 z.1), if_pos rfl, show nI i + nI 1 = nI (i + 1) from nI_1 _])
    have e2 : ∀ n i, fld (fun _ x => x) i n (0 : Nat) = 0 := by
      intro n
      induction n with
      | zero => intro i; rfl
      | succ n ih => intro i; exact ih (i + 1)
    rw [e2] at this
    exact this
end PLN
