/-! which keys open which records: closures -/
section OPN
/-- what is reached from B in n steps of Ed -/
def Cl (B : Nat → Prop) (Ed : Nat → Nat → Prop) : Nat → Nat → Prop
  | 0, k => B k
  | n + 1, k => ∃ j, Ed j k ∧ Cl B Ed n j
abbrev ClS (B : Nat → Prop) (Ed : Nat → Nat → Prop) (k : Nat) : Prop := ∃ n, Cl B Ed n k
/-- an entry of the media from lo up to hi wraps key x by key y -/
def EdU (kc : Nat) (σ : am_M) (lo hi x y : Nat) : Prop := ∃ m i, lo ≤ m ∧ m < hi ∧ i < zn (σ.1 21) m ∧ σ.1 22 (m * 150 + i) = nI 0 ∧ σ.1 23 (m * 150 + i) = nI x ∧ σ.1 24 (m * 150 + i) = nI y ∧ 1 ≤ x ∧ x ≤ kc ∧ 1 ≤ y ∧ y ≤ kc
def EdD (kc : Nat) (σ : am_M) (lo hi x y : Nat) : Prop := EdU kc σ lo hi y x
/-- an entry encrypts record r by key y -/
def RcE (kc rc : Nat) (σ : am_M) (lo hi r y : Nat) : Prop := ∃ m i, lo ≤ m ∧ m < hi ∧ i < zn (σ.1 21) m ∧ σ.1 22 (m * 150 + i) = nI 1 ∧ σ.1 23 (m * 150 + i) = nI r ∧ σ.1 24 (m * 150 + i) = nI y ∧ r < rc ∧ 1 ≤ y ∧ y ≤ kc
def RcB (kc rc : Nat) (σ : am_M) (lo hi : Nat) (W : Nat → Prop) (k : Nat) : Prop := ∃ r, W r ∧ RcE kc rc σ lo hi r k
/-- key k opens a record of W -/
def Op (kc rc : Nat) (σ : am_M) (lo hi : Nat) (W : Nat → Prop) (k : Nat) : Prop := ClS (RcB kc rc σ lo hi W) (EdU kc σ lo hi) k
/-- key k is opened by key q -/
def Dn (kc : Nat) (σ : am_M) (lo hi q k : Nat) : Prop := ClS (fun j => j = q) (EdD kc σ lo hi) k
variable {c kc md rc td : Nat} {lev rk : Nat → Nat} {σ τ : am_M} {lo hi : Nat} {W : Nat → Prop}
theorem EdU_lev (h : Inv0 c kc md rc td lev rk σ) (hh : hi ≤ md) {x y : Nat} (e : EdU kc σ lo hi x y) : lev x = lev y + 1 := by
  obtain ⟨m, i, h1, h2, h3, h4, h5, h6, h7, h8, h9, h10⟩ := e
  have hkl := h.kl
  rcases h.core.ent m (by omega) i h3 with ⟨a1, x', y', a2, a3, a4, a5, a6, a7, a8⟩ | ⟨a1, _⟩
  · rw [a6] at h5; rw [a7] at h6
    have e1 := nI_inj (by omega) (by omega) h5
    have e2 := nI_inj (by omega) (by omega) h6
    rw [← e1, ← e2]; exact a8
  · rw [a1] at h4; exact absurd h4 n10
theorem RcE_lev (h : Inv0 c kc md rc td lev rk σ) (hh : hi ≤ md) {r y : Nat} (e : RcE kc rc σ lo hi r y) : lev y = 3 ∧ rk y = r := by
  obtain ⟨m, i, h1, h2, h3, h4, h5, h6, h7, h8, h9⟩ := e
  have hkl := h.kl
  have hrb := h.core.rcb
  rcases h.core.ent m (by omega) i h3 with ⟨a1, _⟩ | ⟨a1, r', y', a2, a3, a4, a5, a6, a7, a8⟩
  · rw [a1] at h4; exact absurd h4.symm n10
  · rw [a5] at h5; rw [a6] at h6
    have e1 := nI_inj (by omega) (by omega) h5
    have e2 := nI_inj (by omega) (by omega) h6
    rw [← e1, ← e2]; exact ⟨a7, a8⟩
theorem Op_lev (h : Inv0 c kc md rc td lev rk σ) (hh : hi ≤ md) : ∀ n k, Cl (RcB kc rc σ lo hi W) (EdU kc σ lo hi) n k → 1 ≤ k ∧ k ≤ kc ∧ lev k + n = 3 := by
  intro n
  induction n with
  | zero =>
    rintro k ⟨r, _, e⟩
    have h1 := RcE_lev h hh e
    obtain ⟨m, i, _, _, _, _, _, _, _, h8, h9⟩ := e
    exact ⟨h8, h9, by omega⟩
  | succ n ih =>
    rintro k ⟨j, e, hj⟩
    have h1 := EdU_lev h hh e
    obtain ⟨m, i, _, _, _, _, _, _, _, _, h8, h9⟩ := e
    have := ih j hj
    exact ⟨h8, h9, by omega⟩
theorem Dn_lev (h : Inv0 c kc md rc td lev rk σ) (hh : hi ≤ md) {q : Nat} (hq : 1 ≤ q ∧ q ≤ kc) : ∀ n k, Cl (fun j => j = q) (EdD kc σ lo hi) n k → 1 ≤ k ∧ k ≤ kc ∧ lev k = lev q + n := by
  intro n
  induction n with
  | zero =>
    intro k e
    have e : k = q := e
    subst e
    exact ⟨hq.1, hq.2, rfl⟩
  | succ n ih =>
    rintro k ⟨j, e, hj⟩
    have e : EdU kc σ lo hi k j := e
    have h1 := EdU_lev h hh e
    obtain ⟨m, i, _, _, _, _, _, _, h8, h9, _, _⟩ := e
    have := ih j hj
    exact ⟨h8, h9, by omega⟩
/-- down from a key to a record is up from the record to the key -/
theorem Dn_Op {q r : Nat} : (∃ k, Dn kc σ lo hi q k ∧ RcE kc rc σ lo hi r k) ↔ Op kc rc σ lo hi (fun s => s = r) q := by
  constructor
  · rintro ⟨k, ⟨n, hn⟩, e⟩
    have : ∀ n k, Cl (fun j => j = q) (EdD kc σ lo hi) n k → Op kc rc σ lo hi (fun s => s = r) k → Op kc rc σ lo hi (fun s => s = r) q := by
      intro n
      induction n with
      | zero => intro k e o; have e : k = q := e; rw [← e]; exact o
      | succ n ih =>
        rintro k ⟨j, e, hj⟩ ⟨n', o⟩
        exact ih j hj ⟨n' + 1, k, e, o⟩
    exact this n k hn ⟨0, r, rfl, e⟩
  · rintro ⟨n, hn⟩
    have : ∀ n k, Cl (RcB kc rc σ lo hi (fun s => s = r)) (EdU kc σ lo hi) n k → Dn kc σ lo hi q k → ∃ k, Dn kc σ lo hi q k ∧ RcE kc rc σ lo hi r k := by
      intro n
      induction n with
      | zero =>
        rintro k ⟨r', e, h2⟩ hd
        have e : r' = r := e
        subst e
        exact ⟨k, hd, h2⟩
      | succ n ih =>
        rintro k ⟨j, e, hj⟩ ⟨n', hd⟩
        exact ih j hj ⟨n' + 1, k, e, hd⟩
    exact this n q hn ⟨0, rfl⟩
theorem Cl_c {B B' : Nat → Prop} {Ed Ed' : Nat → Nat → Prop} (h1 : ∀ k, B k ↔ B' k) (h2 : ∀ j k, Ed j k ↔ Ed' j k) : ∀ n k, Cl B Ed n k ↔ Cl B' Ed' n k := by
  intro n
  induction n with
  | zero => exact h1
  | succ n ih =>
    intro k
    constructor
    · rintro ⟨j, a, b⟩; exact ⟨j, (h2 j k).mp a, (ih j).mp b⟩
    · rintro ⟨j, a, b⟩; exact ⟨j, (h2 j k).mpr a, (ih j).mpr b⟩
theorem Op_c {W W' : Nat → Prop} (h : ∀ r, r < rc → (W r ↔ W' r)) (k : Nat) : Op kc rc σ lo hi W k ↔ Op kc rc σ lo hi W' k := by
  have : ∀ k, RcB kc rc σ lo hi W k ↔ RcB kc rc σ lo hi W' k := fun k => by
    constructor
    · rintro ⟨r, a, b⟩; have b' := b; obtain ⟨m, i, _, _, _, _, _, _, hr, _⟩ := b'; exact ⟨r, (h r hr).mp a, b⟩
    · rintro ⟨r, a, b⟩; have b' := b; obtain ⟨m, i, _, _, _, _, _, _, hr, _⟩ := b'; exact ⟨r, (h r hr).mpr a, b⟩
  constructor
  · rintro ⟨n, hn⟩; exact ⟨n, (Cl_c this (fun _ _ => Iff.rfl) n k).mp hn⟩
  · rintro ⟨n, hn⟩; exact ⟨n, (Cl_c this (fun _ _ => Iff.rfl) n k).mpr hn⟩
/-- alike in the cells of the entries -/
abbrev SmE (σ τ : am_M) : Prop := τ.1 21 = σ.1 21 ∧ τ.1 22 = σ.1 22 ∧ τ.1 23 = σ.1 23 ∧ τ.1 24 = σ.1 24
theorem Sm.e {σ τ : am_M} (h : Sm σ τ) : SmE σ τ := ⟨h.i 21 (by decide) (by decide), h.i 22 (by decide) (by decide), h.i 23 (by decide) (by decide), h.i 24 (by decide) (by decide)⟩
theorem EdU_sm (h : SmE σ τ) (x y : Nat) : EdU kc τ lo hi x y ↔ EdU kc σ lo hi x y := by
  unfold EdU; rw [h.1, h.2.1, h.2.2.1, h.2.2.2]
theorem RcE_sm (h : SmE σ τ) (r y : Nat) : RcE kc rc τ lo hi r y ↔ RcE kc rc σ lo hi r y := by
  unfold RcE; rw [h.1, h.2.1, h.2.2.1, h.2.2.2]
theorem Op_sm (h : SmE σ τ) (k : Nat) : Op kc rc τ lo hi W k ↔ Op kc rc σ lo hi W k := by
  have : ∀ k, RcB kc rc τ lo hi W k ↔ RcB kc rc σ lo hi W k := fun k => by
    unfold RcB; simp only [RcE_sm h]
  constructor
  · rintro ⟨n, hn⟩; exact ⟨n, (Cl_c this (EdU_sm h) n k).mp hn⟩
  · rintro ⟨n, hn⟩; exact ⟨n, (Cl_c this (EdU_sm h) n k).mpr hn⟩
/-- a count by a property that nobody decides -/
noncomputable def cntC (P : Nat → Prop) (i n : Nat) : Nat := @cnt P (fun k => Classical.propDecidable (P k)) i n
theorem cntC_e (P : Nat → Prop) [i1 : DecidablePred P] (i n : Nat) : cntC P i n = cnt P i n := by
  unfold cntC
  congr 1
theorem cnt_C (P : Nat → Prop) [DecidablePred P] {Q : Nat → Prop} (i n : Nat) (h : ∀ j, i ≤ j → j < i + n → (P j ↔ Q j)) : cnt P i n = cntC Q i n := by
  unfold cntC
  exact @cnt_c P Q _ (fun k => Classical.propDecidable (Q k)) n i h
theorem cntC_c {P Q : Nat → Prop} (i n : Nat) (h : ∀ j, i ≤ j → j < i + n → (P j ↔ Q j)) : cntC P i n = cntC Q i n := by
  unfold cntC
  exact @cnt_c P Q (fun k => Classical.propDecidable (P k)) (fun k => Classical.propDecidable (Q k)) n i h
/-- one more -/
theorem cnt_ins {P P' : Nat → Prop} [DecidablePred P] [DecidablePred P'] {k0 : Nat} (hn : ¬ P k0) (h : ∀ k, P' k ↔ P k ∨ k = k0) : ∀ n i, i ≤ k0 → k0 < i + n → cnt P' i n = cnt P i n + 1 := by
  intro n
  induction n with
  | zero => intro i h1 h2; omega
  | succ n ih =>
    intro i h1 h2
    rw [cnt, cnt]
    by_cases e : i = k0
    · subst e
      have : cnt P' (i + 1) n = cnt P (i + 1) n := cnt_c n (i + 1) (fun j a b => by
        rw [h j]
        exact ⟨fun z => z.elim id (fun q => by omega), Or.inl⟩)
      rw [this, if_pos ((h i).mpr (Or.inr rfl)), if_neg hn]; omega
    · rw [ih (i + 1) (by omega) (by omega)]
      by_cases hp : P i
      · rw [if_pos hp, if_pos ((h i).mpr (Or.inl hp))]; omega
      · rw [if_neg hp, if_neg (fun z => ((h i).mp z).elim hp e)]; omega
end OPN
