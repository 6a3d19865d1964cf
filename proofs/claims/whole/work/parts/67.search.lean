/-! the class's search -/
section SRC
def S2 (σ : am_M) (f g : Nat → Int32) : am_M := am_set (am_set σ 25 f) 26 g
theorem S2_25 (σ : am_M) (f g : Nat → Int32) : (S2 σ f g).1 25 = f := by unfold S2; rw [s_ne _ _ (by decide), s_eq]
theorem S2_26 (σ : am_M) (f g : Nat → Int32) : (S2 σ f g).1 26 = g := by unfold S2; rw [s_eq]
theorem S2_o (σ : am_M) (f g : Nat → Int32) {a : Nat} (h1 : a ≠ 25) (h2 : a ≠ 26) : (S2 σ f g).1 a = σ.1 a := by unfold S2; rw [s_ne _ _ h2, s_ne _ _ h1]
theorem S2_s5 (σ : am_M) (f g f' : Nat → Int32) : am_set (S2 σ f g) 25 f' = S2 σ f' g := by
  unfold S2 am_set va_up
  simp only [Prod.mk.injEq, and_true]
  funext b
  by_cases h : b = 25
  · subst h; simp
  · simp [h]
theorem S2_s6 (σ : am_M) (f g g' : Nat → Int32) : am_set (S2 σ f g) 26 g' = S2 σ f g' := by unfold S2; rw [s_ss]
theorem S2_J (σ : am_M) (f g : Nat → Int32) : (S2 σ f g).2 = σ.2 := rfl
theorem S2_sm (σ : am_M) (f g : Nat → Int32) : Sm σ (S2 σ f g) := ((Sm.refl σ).set (by decide) f).set (by decide) g
theorem S2_self (σ : am_M) : S2 σ (σ.1 25) (σ.1 26) = σ := by
  unfold S2; rw [s_self, s_self]
variable (d : Nat) {c kc md rc td : Nat} {lev rk : Nat → Nat} {σ : am_M} (f g : Nat → Int32)
theorem w32 (h : Inv0 c kc md rc td lev rk σ) : am_ex (d + 1) 32 [.ref 4] (S2 σ f g) = rI (nI md) (S2 σ f g) := by
  rw [x32, S2_o _ _ _ (by decide) (by decide), h.hm]
theorem w36 (h : Inv0 c kc md rc td lev rk σ) {m : Nat} (hm : m < md) : am_ex (d + 2) 36 [.ref 4, .int (nI m)] (S2 σ f g) = rI (nI (zn (σ.1 21) m)) (S2 σ f g) := by
  have hmb := h.core.mdb
  rw [x36 d _ (by rw [S2_o _ _ _ (by decide) (by decide)]; exact h.hm) hmb.2, rd_n hm (by omega), S2_o _ _ _ (by decide) (by decide), ← (h.core.med m hm).2.1]
theorem w43 {a : Nat} (ha : a < 1200) : am_ex (d + 2) 43 [.ref 4, .int (nI a)] (S2 σ f g) = rI (σ.1 22 a) (S2 σ f g) := by
  rw [x43, rd_n ha (by omega), S2_o _ _ _ (by decide) (by decide)]
theorem w44 {a : Nat} (ha : a < 1200) : am_ex (d + 2) 44 [.ref 4, .int (nI a)] (S2 σ f g) = rI (σ.1 23 a) (S2 σ f g) := by
  rw [x44, rd_n ha (by omega), S2_o _ _ _ (by decide) (by decide)]
theorem w45 {a : Nat} (ha : a < 1200) : am_ex (d + 2) 45 [.ref 4, .int (nI a)] (S2 σ f g) = rI (σ.1 24 a) (S2 σ f g) := by
  rw [x45, rd_n ha (by omega), S2_o _ _ _ (by decide) (by decide)]
theorem md_k {x kc : Nat} (h1 : 1 ≤ x) (h2 : x ≤ kc) (h3 : kc ≤ 1801) : mdR (nI x) kc := by
  unfold mdR; rw [i_n (by omega)]; omega
theorem w24 (h : Inv0 c kc md rc td lev rk σ) (x : Int32) : am_ex (d + 1) 24 [.ref 1, .int x] (S2 σ f g) = rI (bz (mdR x kc)) (S2 σ f g) := by
  have hkl := h.kl
  rw [x24 d _ (by rw [S2_o _ _ _ (by decide) (by decide)]; exact h.hk) (by omega)]
theorem w67 (h : Inv0 c kc md rc td lev rk σ) {x : Nat} (h1 : 1 ≤ x) (h2 : x ≤ kc) : am_ex (d + 2) 67 [.ref 5, .int (nI x)] (S2 σ f g) = rI (f x) (S2 σ f g) := by
  have hkl := h.kl
  rw [e67, q67_0, w24 d f g h, bI_r, bz_t (md_k h1 h2 hkl), if_neg n10, if_pos (am_k (by omega) (by omega)), i_cl (by omega), S2_25]
theorem w67o (h : Inv0 c kc md rc td lev rk σ) {x : Int32} (hx : ¬ mdR x kc) : am_ex (d + 2) 67 [.ref 5, .int x] (S2 σ f g) = rI (nI 0) (S2 σ f g) := by
  rw [e67, q67_0, w24 d f g h, bI_r, bz_f hx, if_pos rfl]
theorem w75 (h : Inv0 c kc md rc td lev rk σ) {x : Nat} (h1 : 1 ≤ x) (h2 : x ≤ kc) (v : Int32) : am_ex (d + 2) 75 [.ref 5, .int (nI x), .int v] (S2 σ f g) = rV (S2 σ (if f x = nI 0 then upd f x v else f) g) := by
  have hkl := h.kl
  rw [e75, q75_0, w24 d f g h, bI_r, bz_t (md_k h1 h2 hkl), if_neg n10, if_pos (am_k (by omega) (by omega)), i_cl (by omega), S2_25]
  by_cases e : f x = nI 0
  · rw [if_pos e, if_pos (am_k (by omega) (by omega)), if_pos e, am_wI_s, S2_25, S2_s5]
  · rw [if_neg e, if_neg e]
theorem w75o (h : Inv0 c kc md rc td lev rk σ) {x : Int32} (hx : ¬ mdR x kc) (v : Int32) : am_ex (d + 2) 75 [.ref 5, .int x, .int v] (S2 σ f g) = rV (S2 σ f g) := by
  rw [e75, q75_0, w24 d f g h, bI_r, bz_f hx, if_pos rfl]
theorem w60 (h : Inv0 c kc md rc td lev rk σ) (x : Int32) : am_ex (d + 1) 60 [.ref 2, .int x] (S2 σ f g) = rI (bz (inR x rc)) (S2 σ f g) := by
  rw [x60 d _ (by rw [S2_o _ _ _ (by decide) (by decide)]; exact h.hr) h.core.rcb]
theorem w65 (h : Inv0 c kc md rc td lev rk σ) {r : Nat} (hr : r < rc) : am_ex (d + 2) 65 [.ref 5, .int (nI r)] (S2 σ f g) = rV (S2 σ f (upd g r (nI 1))) := by
  have hrb := h.core.rcb
  rw [e65, q65_0, w60 d f g h, bI_r, bz_t (inR_n hr (by omega)), if_neg n10, if_pos (am_k (by omega) (by omega)), i_cl (by omega), am_wI_s, S2_26, S2_s6, nb_1]
theorem w65o (h : Inv0 c kc md rc td lev rk σ) {x : Int32} (hx : ¬ inR x rc) : am_ex (d + 2) 65 [.ref 5, .int x] (S2 σ f g) = rV (S2 σ f g) := by
  rw [e65, q65_0, w60 d f g h, bI_r, bz_f hx, if_pos rfl]
theorem w66 (h : Inv0 c kc md rc td lev rk σ) {r : Nat} (hr : r < rc) : am_ex (d + 2) 66 [.ref 5, .int (nI r)] (S2 σ f g) = rI (bz (¬ g r = nI 0)) (S2 σ f g) := by
  have hrb := h.core.rcb
  rw [e66, q66_0, w60 d f g h, bI_r, bz_t (inR_n hr (by omega)), if_neg n10, if_pos (am_k (by omega) (by omega)), i_cl (by omega), S2_26]
  by_cases e : g r = nI 0
  · rw [if_pos e, bz_f (fun z => z e)]
  · rw [if_neg e, bz_t e]
/-- the search begins -/
theorem x64 (h : Inv0 c kc md rc td lev rk σ) : am_ex (d + 2) 64 [.ref 5] (S2 σ f g) = rV (S2 σ (fil f (kc + 1) (nI 0)) (fil g 200 (nI 0))) := by
  have hkl := h.kl
  rw [e64, q64_0]
  obtain ⟨y, e1, e2⟩ := lp_inv (fun i (y : Nat → Int32) => y = fil f i (nI 0)) 0 (kc + 1) (by omega) (fun i y => am_go am_X0 (am_ex (d + 1)) M64 2 [.ref 5, .int (nI i)] [] (S2 σ y g)) (fun i y _ hi hy => by
    refine ⟨upd y i (nI 0), ?_, ?_⟩
    · show am_go am_X0 (am_ex (d + 1)) M64 2 [.ref 5, .int (nI i)] [] (S2 σ y g) = am_go am_X0 (am_ex (d + 1)) M64 2 [.ref 5, .int (nI (i + 1))] [] (S2 σ (upd y i (nI 0)) g)
      rw [q64_2, x26, bI_r, S2_o _ _ _ (by decide) (by decide), h.hk, if_neg (by rw [i_lt, i_n (by omega), i_n (by omega)]; omega), if_neg (by rw [i_lt, i_n (by omega), i_n (by omega)]; omega), if_pos (am_k (by omega) (by omega)), i_cl (by omega), am_wI_s, S2_25, S2_s5, show nI i + nI 1 = nI (i + 1) from nI_1 _]
    · subst hy
      funext k
      unfold upd fil
      by_cases h1 : k = i
      · rw [if_pos h1, if_pos (by omega)]
      · rw [if_neg h1]
        by_cases h2 : k < i
        · rw [if_pos h2, if_pos (by omega)]
        · rw [if_neg h2, if_neg (by omega)]) f (by funext k; unfold fil; rw [if_neg (by omega)])
  have e1 : am_go am_X0 (am_ex (d + 1)) M64 2 [.ref 5, .int (nI 0)] [] (S2 σ f g) = am_go am_X0 (am_ex (d + 1)) M64 2 [.ref 5, .int (nI (kc + 1))] [] (S2 σ y g) := e1
  rw [e1, e2, q64_2, x26, bI_r, S2_o _ _ _ (by decide) (by decide), h.hk, if_pos (by rw [i_lt, i_n (by omega), i_n (by omega)]; omega)]
  obtain ⟨z, e3, e4⟩ := lp_inv (fun i (y : Nat → Int32) => y = fil g i (nI 0)) 0 200 (by omega) (fun i y => am_go am_X0 (am_ex (d + 1)) M64 35 [.ref 5, .int (nI i)] [] (S2 σ (fil f (kc + 1) (nI 0)) y)) (fun i y _ hi hy => by
    refine ⟨upd y i (nI 0), ?_, ?_⟩
    · show am_go am_X0 (am_ex (d + 1)) M64 35 [.ref 5, .int (nI i)] [] (S2 σ (fil f (kc + 1) (nI 0)) y) = am_go am_X0 (am_ex (d + 1)) M64 35 [.ref 5, .int (nI (i + 1))] [] (S2 σ (fil f (kc + 1) (nI 0)) (upd y i (nI 0)))
      rw [q64_35, if_neg (by rw [i_le, i_n (by omega), i_n (by omega)]; omega), if_pos (am_k (by omega) (by omega)), i_cl (by omega), am_wI_s, S2_26, S2_s6, nb_0, show nI i + nI 1 = nI (i + 1) from nI_1 _]
    · subst hy
      funext k
      unfold upd fil
      by_cases h1 : k = i
      · rw [if_pos h1, if_pos (by omega)]
      · rw [if_neg h1]
        by_cases h2 : k < i
        · rw [if_pos h2, if_pos (by omega)]
        · rw [if_neg h2, if_neg (by omega)]) g (by funext k; unfold fil; rw [if_neg (by omega)])
  have e3 : am_go am_X0 (am_ex (d + 1)) M64 35 [.ref 5, .int (nI 0)] [] (S2 σ (fil f (kc + 1) (nI 0)) g) = am_go am_X0 (am_ex (d + 1)) M64 35 [.ref 5, .int (nI 200)] [] (S2 σ (fil f (kc + 1) (nI 0)) z) := e3
  rw [e3, e4, q64_35, if_pos (by decide)]
/-- steps of keys: what is reached has its grade, and is to be reached -/
abbrev SR (kc : Nat) (gr : Nat → Nat) (O : Nat → Prop) (f : Nat → Int32) : Prop := ∀ k, 1 ≤ k → k ≤ kc → f k = nI 0 ∨ (f k = nI (gr k + 1) ∧ O k)
abbrev Mn (f f' : Nat → Int32) : Prop := ∀ k, ¬ f k = nI 0 → f' k = f k
theorem Mn.refl (f : Nat → Int32) : Mn f f := fun _ _ => rfl
theorem Mn.trans {f f' f'' : Nat → Int32} (h1 : Mn f f') (h2 : Mn f' f'') : Mn f f'' := fun k hk => by
  have e := h1 k hk
  rw [h2 k (by rw [e]; exact hk), e]
variable {gr : Nat → Nat} {O : Nat → Prop}
theorem nI_s0 {n : Nat} (h : n < 2 ^ 30) : ¬ nI (n + 1) = nI 0 := fun z => by have := nI_inj (by omega) (by omega) z; omega
theorem SR.reach {f : Nat → Int32} (h : SR kc gr O f) {y : Nat} (hO : O y) (hg : gr y ≤ 3) : SR kc gr O (if f y = nI 0 then upd f y (nI (gr y + 1)) else f) ∧ Mn f (if f y = nI 0 then upd f y (nI (gr y + 1)) else f) ∧ ¬ (if f y = nI 0 then upd f y (nI (gr y + 1)) else f) y = nI 0 := by
  by_cases e : f y = nI 0
  · rw [if_pos e]
    refine ⟨fun k h1 h2 => ?_, fun k hk => ?_, ?_⟩
    · by_cases e2 : k = y
      · subst e2; exact Or.inr ⟨if_pos rfl, hO⟩
      · rw [show upd f y (nI (gr y + 1)) k = f k from if_neg e2]; exact h k h1 h2
    · exact if_neg (fun z => hk (by rw [z]; exact e))
    · rw [show upd f y (nI (gr y + 1)) y = nI (gr y + 1) from if_pos rfl]; exact nI_s0 (by omega)
  · rw [if_neg e]
    exact ⟨h, Mn.refl f, e⟩
/-- one step upwards over one medium -/
theorem x73 (h : Inv0 c kc md rc td lev rk σ) {m s : Nat} (hm : m < md) (hs : 1 ≤ s ∧ s ≤ 3) (hg3 : ∀ k, gr k ≤ 3) {f : Nat → Int32} (hF : SR kc gr O f) (hEd : ∀ x y, EdU kc σ m (m + 1) x y → O x → gr y = gr x + 1 ∧ O y) : ∃ f', am_ex (d + 3) 73 [.ref 5, .int (nI m), .int (nI s)] (S2 σ f g) = rV (S2 σ f' g) ∧ SR kc gr O f' ∧ Mn f f' ∧ ∀ x y, EdU kc σ m (m + 1) x y → f x = nI s → ¬ f' y = nI 0 := by
  have hkl := h.kl
  have hmb := h.core.mdb
  obtain ⟨hz1, hz2, _⟩ := h.core.med m hm
  obtain ⟨⟨f', u⟩, e1, hu, i1, i2, i3⟩ := lp_inv (fun i (p : (Nat → Int32) × Value) => (!(p.2.category == 2)) = true ∧ SR kc gr O p.1 ∧ Mn f p.1 ∧ ∀ i', i' < i → ∀ x y, σ.1 22 (m * 150 + i') = nI 0 → σ.1 23 (m * 150 + i') = nI x → σ.1 24 (m * 150 + i') = nI y → 1 ≤ x → x ≤ kc → 1 ≤ y → y ≤ kc → f x = nI s → ¬ p.1 y = nI 0) 0 (zn (σ.1 21) m) (by omega) (fun i p => am_go am_X0 (am_ex (d + 2)) M73 2 [.ref 5, .int (nI m), .int (nI s), .int (nI i), p.2] [] (S2 σ p.1 g)) (by
    rintro i ⟨f1, u⟩ _ hi ⟨hu, i1, i2, i3⟩
    have i1 : SR kc gr O f1 := i1
    have i2 : Mn f f1 := i2
    have ha : m * 150 + i < 1200 := by omega
    -- what the next state must hold
    have fin : ∀ f2, SR kc gr O f2 → Mn f1 f2 → (∀ x y, σ.1 22 (m * 150 + i) = nI 0 → σ.1 23 (m * 150 + i) = nI x → σ.1 24 (m * 150 + i) = nI y → 1 ≤ x → x ≤ kc → 1 ≤ y → y ≤ kc → f x = nI s → ¬ f2 y = nI 0) → am_go am_X0 (am_ex (d + 2)) M73 2 [.ref 5, .int (nI m), .int (nI s), .int (nI i), u] [] (S2 σ f1 g) = am_go am_X0 (am_ex (d + 2)) M73 2 [.ref 5, .int (nI m), .int (nI s), .int (nI (i + 1)), .int (nI (m * 150 + i))] [] (S2 σ f2 g) → ∃ y : (Nat → Int32) × Value, am_go am_X0 (am_ex (d + 2)) M73 2 [.ref 5, .int (nI m), .int (nI s), .int (nI i), u] [] (S2 σ f1 g) = am_go am_X0 (am_ex (d + 2)) M73 2 [.ref 5, .int (nI m), .int (nI s), .int (nI (i + 1)), y.2] [] (S2 σ y.1 g) ∧ (!(y.2.category == 2)) = true ∧ SR kc gr O y.1 ∧ Mn f y.1 ∧ ∀ i', i' < i + 1 → ∀ x z, σ.1 22 (m * 150 + i') = nI 0 → σ.1 23 (m * 150 + i') = nI x → σ.1 24 (m * 150 + i') = nI z → 1 ≤ x → x ≤ kc → 1 ≤ z → z ≤ kc → f x = nI s → ¬ y.1 z = nI 0 := by
      intro f2 a1 a2 a3 a4
      refine ⟨(f2, .int (nI (m * 150 + i))), a4, rfl, a1, i2.trans a2, fun i' hi' x z b1 b2 b3 b4 b5 b6 b7 b8 => ?_⟩
      by_cases e : i' = i
      · subst e; exact a3 x z b1 b2 b3 b4 b5 b6 b7 b8
      · have h1 := i3 i' (by omega) x z b1 b2 b3 b4 b5 b6 b7 b8
        show ¬ f2 z = nI 0
        rw [a2 z h1]; exact h1
    have hrun : am_go am_X0 (am_ex (d + 2)) M73 2 [.ref 5, .int (nI m), .int (nI s), .int (nI i), u] [] (S2 σ f1 g) = if σ.1 22 (m * 150 + i) = nI 0 then am_bI (am_ex (d + 2) 67 [.ref 5, .int (σ.1 23 (m * 150 + i))] (S2 σ f1 g)) (fun r5 t5 => if r5 = nI s then am_bI (am_ex (d + 2) 45 [.ref 4, .int (nI (m * 150 + i))] t5) (fun r6 t6 => am_bV (am_ex (d + 2) 75 [.ref 5, .int r6, .int (nI (s + 1))] t6) (fun t7 => am_go am_X0 (am_ex (d + 2)) M73 2 [.ref 5, .int (nI m), .int (nI s), .int (nI (i + 1)), .int (nI (m * 150 + i))] [] t7)) else am_go am_X0 (am_ex (d + 2)) M73 2 [.ref 5, .int (nI m), .int (nI s), .int (nI (i + 1)), .int (nI (m * 150 + i))] [] t5) else am_go am_X0 (am_ex (d + 2)) M73 2 [.ref 5, .int (nI m), .int (nI s), .int (nI (i + 1)), .int (nI (m * 150 + i))] [] (S2 σ f1 g) := by
      rw [q73_2 _ _ _ _ _ hu, w36 d f1 g h hm, bI_r, if_neg (by rw [i_le, i_n (by omega), i_n (by omega)]; omega), x42, bI_r, w43 d f1 g ha, bI_r, w44 d f1 g ha, bI_r, show nI i + nI 1 = nI (i + 1) from nI_1 _, show nI s + nI 1 = nI (s + 1) from nI_1 _]
    show ∃ y : (Nat → Int32) × Value, am_go am_X0 (am_ex (d + 2)) M73 2 [.ref 5, .int (nI m), .int (nI s), .int (nI i), u] [] (S2 σ f1 g) = am_go am_X0 (am_ex (d + 2)) M73 2 [.ref 5, .int (nI m), .int (nI s), .int (nI (i + 1)), y.2] [] (S2 σ y.1 g) ∧ _
    rcases h.core.ent m hm i hi with ⟨a1, x', y', a2, a3, a4, a5, a6, a7, a8⟩ | ⟨a1, _⟩
    · obtain ⟨x, y, b2, b3, b4, b5, b6, b7⟩ : ∃ x y, 1 ≤ x ∧ x ≤ kc ∧ 1 ≤ y ∧ y ≤ kc ∧ σ.1 23 (m * 150 + i) = nI x ∧ σ.1 24 (m * 150 + i) = nI y := ⟨x', y', a2, a3, a4, a5, a6, a7⟩
      have hed : EdU kc σ m (m + 1) x y := ⟨m, i, by omega, by omega, hi, a1, b6, b7, b2, b3, b4, b5⟩
      by_cases e : f1 x = nI s
      · have hfx : ¬ f1 x = nI 0 := by rw [e]; exact fun z => by have := nI_inj (by omega) (by omega) z; omega
        obtain ⟨c1, c2⟩ := (i1 x b2 b3).resolve_left hfx
        have hgs : gr x + 1 = s := by
          have hg := hg3 x
          rw [e] at c1
          exact (nI_inj (by omega) (by omega) c1).symm
        obtain ⟨g1, g2⟩ := hEd x y hed c2
        have hr := SR.reach i1 g2 (hg3 y)
        rw [g1, hgs] at hr
        refine fin _ hr.1 hr.2.1 (fun x2 y2 _ _ d3 _ _ d6 d7 _ => ?_) ?_
        · rw [b7] at d3
          have := nI_inj (by omega) (by omega) d3
          rw [← this]; exact hr.2.2
        · rw [hrun, if_pos a1, b6, w67 d f1 g h b2 b3, bI_r, if_pos e, w45 d f1 g ha, bI_r, b7, w75 d f1 g h b4 b5, bV_r]
      · refine fin f1 i1 (Mn.refl f1) (fun x2 y2 _ d2 _ d4 d5 _ _ d8 => ?_) ?_
        · rw [b6] at d2
          have hx := nI_inj (by omega) (by omega) d2
          refine absurd ?_ e
          rw [hx, i2 x2 (by rw [d8]; exact fun z => by have := nI_inj (by omega) (by omega) z; omega)]
          exact d8
        · rw [hrun, if_pos a1, b6, w67 d f1 g h b2 b3, bI_r, if_neg e]
    · refine fin f1 i1 (Mn.refl f1) (fun x2 y2 d1 _ _ _ _ _ _ _ => ?_) ?_
      · rw [a1] at d1; exact absurd d1 n10
      · rw [hrun, if_neg (by rw [a1]; exact n10)]) (f, .null) ⟨rfl, hF, Mn.refl f, fun i' hi' => by omega⟩
  have e1 : am_go am_X0 (am_ex (d + 2)) M73 2 [.ref 5, .int (nI m), .int (nI s), .int (nI 0), .null] [] (S2 σ f g) = am_go am_X0 (am_ex (d + 2)) M73 2 [.ref 5, .int (nI m), .int (nI s), .int (nI (zn (σ.1 21) m)), u] [] (S2 σ f' g) := e1
  have i3 : ∀ i', i' < zn (σ.1 21) m → ∀ x y, σ.1 22 (m * 150 + i') = nI 0 → σ.1 23 (m * 150 + i') = nI x → σ.1 24 (m * 150 + i') = nI y → 1 ≤ x → x ≤ kc → 1 ≤ y → y ≤ kc → f x = nI s → ¬ f' y = nI 0 := i3
  refine ⟨f', ?_, i1, i2, ?_⟩
  · rw [e73, q73_0, e1, q73_2 _ _ _ _ _ hu, w36 d f' g h hm, bI_r, if_pos (by rw [i_le]; exact Int.le_refl _)]
  · rintro x y ⟨m', i', j1, j2, j3, j4, j5, j6, j7, j8, j9, j10⟩ hx
    have hmm : m' = m := by omega
    subst hmm
    exact i3 i' j3 x y j4 j5 j6 j7 j8 j9 j10 hx
/-- one step downwards over one medium -/
theorem x74 (h : Inv0 c kc md rc td lev rk σ) {m s : Nat} (hm : m < md) (hs : 1 ≤ s ∧ s ≤ 3) (hg3 : ∀ k, gr k ≤ 3) {f : Nat → Int32} (hF : SR kc gr O f) (hEd : ∀ x y, EdD kc σ m (m + 1) x y → O x → gr y = gr x + 1 ∧ O y) : ∃ f', am_ex (d + 3) 74 [.ref 5, .int (nI m), .int (nI s)] (S2 σ f g) = rV (S2 σ f' g) ∧ SR kc gr O f' ∧ Mn f f' ∧ ∀ x y, EdD kc σ m (m + 1) x y → f x = nI s → ¬ f' y = nI 0 := by
  have hkl := h.kl
  have hmb := h.core.mdb
  obtain ⟨hz1, hz2, _⟩ := h.core.med m hm
  obtain ⟨⟨f', u⟩, e1, hu, i1, i2, i3⟩ := lp_inv (fun i (p : (Nat → Int32) × Value) => (!(p.2.category == 2)) = true ∧ SR kc gr O p.1 ∧ Mn f p.1 ∧ ∀ i', i' < i → ∀ x y, σ.1 22 (m * 150 + i') = nI 0 → σ.1 24 (m * 150 + i') = nI x → σ.1 23 (m * 150 + i') = nI y → 1 ≤ x → x ≤ kc → 1 ≤ y → y ≤ kc → f x = nI s → ¬ p.1 y = nI 0) 0 (zn (σ.1 21) m) (by omega) (fun i p => am_go am_X0 (am_ex (d + 2)) M74 2 [.ref 5, .int (nI m), .int (nI s), .int (nI i), p.2] [] (S2 σ p.1 g)) (by
    rintro i ⟨f1, u⟩ _ hi ⟨hu, i1, i2, i3⟩
    have i1 : SR kc gr O f1 := i1
    have i2 : Mn f f1 := i2
    have ha : m * 150 + i < 1200 := by omega
    -- what the next state must hold
    have fin : ∀ f2, SR kc gr O f2 → Mn f1 f2 → (∀ x y, σ.1 22 (m * 150 + i) = nI 0 → σ.1 24 (m * 150 + i) = nI x → σ.1 23 (m * 150 + i) = nI y → 1 ≤ x → x ≤ kc → 1 ≤ y → y ≤ kc → f x = nI s → ¬ f2 y = nI 0) → am_go am_X0 (am_ex (d + 2)) M74 2 [.ref 5, .int (nI m), .int (nI s), .int (nI i), u] [] (S2 σ f1 g) = am_go am_X0 (am_ex (d + 2)) M74 2 [.ref 5, .int (nI m), .int (nI s), .int (nI (i + 1)), .int (nI (m * 150 + i))] [] (S2 σ f2 g) → ∃ y : (Nat → Int32) × Value, am_go am_X0 (am_ex (d + 2)) M74 2 [.ref 5, .int (nI m), .int (nI s), .int (nI i), u] [] (S2 σ f1 g) = am_go am_X0 (am_ex (d + 2)) M74 2 [.ref 5, .int (nI m), .int (nI s), .int (nI (i + 1)), y.2] [] (S2 σ y.1 g) ∧ (!(y.2.category == 2)) = true ∧ SR kc gr O y.1 ∧ Mn f y.1 ∧ ∀ i', i' < i + 1 → ∀ x z, σ.1 22 (m * 150 + i') = nI 0 → σ.1 24 (m * 150 + i') = nI x → σ.1 23 (m * 150 + i') = nI z → 1 ≤ x → x ≤ kc → 1 ≤ z → z ≤ kc → f x = nI s → ¬ y.1 z = nI 0 := by
      intro f2 a1 a2 a3 a4
      refine ⟨(f2, .int (nI (m * 150 + i))), a4, rfl, a1, i2.trans a2, fun i' hi' x z b1 b2 b3 b4 b5 b6 b7 b8 => ?_⟩
      by_cases e : i' = i
      · subst e; exact a3 x z b1 b2 b3 b4 b5 b6 b7 b8
      · have h1 := i3 i' (by omega) x z b1 b2 b3 b4 b5 b6 b7 b8
        show ¬ f2 z = nI 0
        rw [a2 z h1]; exact h1
    have hrun : am_go am_X0 (am_ex (d + 2)) M74 2 [.ref 5, .int (nI m), .int (nI s), .int (nI i), u] [] (S2 σ f1 g) = if σ.1 22 (m * 150 + i) = nI 0 then am_bI (am_ex (d + 2) 67 [.ref 5, .int (σ.1 24 (m * 150 + i))] (S2 σ f1 g)) (fun r5 t5 => if r5 = nI s then am_bI (am_ex (d + 2) 44 [.ref 4, .int (nI (m * 150 + i))] t5) (fun r6 t6 => am_bV (am_ex (d + 2) 75 [.ref 5, .int r6, .int (nI (s + 1))] t6) (fun t7 => am_go am_X0 (am_ex (d + 2)) M74 2 [.ref 5, .int (nI m), .int (nI s), .int (nI (i + 1)), .int (nI (m * 150 + i))] [] t7)) else am_go am_X0 (am_ex (d + 2)) M74 2 [.ref 5, .int (nI m), .int (nI s), .int (nI (i + 1)), .int (nI (m * 150 + i))] [] t5) else am_go am_X0 (am_ex (d + 2)) M74 2 [.ref 5, .int (nI m), .int (nI s), .int (nI (i + 1)), .int (nI (m * 150 + i))] [] (S2 σ f1 g) := by
      rw [q74_2 _ _ _ _ _ hu, w36 d f1 g h hm, bI_r, if_neg (by rw [i_le, i_n (by omega), i_n (by omega)]; omega), x42, bI_r, w43 d f1 g ha, bI_r, w45 d f1 g ha, bI_r, show nI i + nI 1 = nI (i + 1) from nI_1 _, show nI s + nI 1 = nI (s + 1) from nI_1 _]
    show ∃ y : (Nat → Int32) × Value, am_go am_X0 (am_ex (d + 2)) M74 2 [.ref 5, .int (nI m), .int (nI s), .int (nI i), u] [] (S2 σ f1 g) = am_go am_X0 (am_ex (d + 2)) M74 2 [.ref 5, .int (nI m), .int (nI s), .int (nI (i + 1)), y.2] [] (S2 σ y.1 g) ∧ _
    rcases h.core.ent m hm i hi with ⟨a1, x', y', a2, a3, a4, a5, a6, a7, a8⟩ | ⟨a1, _⟩
    · obtain ⟨x, y, b2, b3, b4, b5, b6, b7⟩ : ∃ x y, 1 ≤ x ∧ x ≤ kc ∧ 1 ≤ y ∧ y ≤ kc ∧ σ.1 24 (m * 150 + i) = nI x ∧ σ.1 23 (m * 150 + i) = nI y := ⟨y', x', a4, a5, a2, a3, a7, a6⟩
      have hed : EdD kc σ m (m + 1) x y := ⟨m, i, by omega, by omega, hi, a1, b7, b6, b4, b5, b2, b3⟩
      by_cases e : f1 x = nI s
      · have hfx : ¬ f1 x = nI 0 := by rw [e]; exact fun z => by have := nI_inj (by omega) (by omega) z; omega
        obtain ⟨c1, c2⟩ := (i1 x b2 b3).resolve_left hfx
        have hgs : gr x + 1 = s := by
          have hg := hg3 x
          rw [e] at c1
          exact (nI_inj (by omega) (by omega) c1).symm
        obtain ⟨g1, g2⟩ := hEd x y hed c2
        have hr := SR.reach i1 g2 (hg3 y)
        rw [g1, hgs] at hr
        refine fin _ hr.1 hr.2.1 (fun x2 y2 _ _ d3 _ _ d6 d7 _ => ?_) ?_
        · rw [b7] at d3
          have := nI_inj (by omega) (by omega) d3
          rw [← this]; exact hr.2.2
        · rw [hrun, if_pos a1, b6, w67 d f1 g h b2 b3, bI_r, if_pos e, w44 d f1 g ha, bI_r, b7, w75 d f1 g h b4 b5, bV_r]
      · refine fin f1 i1 (Mn.refl f1) (fun x2 y2 _ d2 _ d4 d5 _ _ d8 => ?_) ?_
        · rw [b6] at d2
          have hx := nI_inj (by omega) (by omega) d2
          refine absurd ?_ e
          rw [hx, i2 x2 (by rw [d8]; exact fun z => by have := nI_inj (by omega) (by omega) z; omega)]
          exact d8
        · rw [hrun, if_pos a1, b6, w67 d f1 g h b2 b3, bI_r, if_neg e]
    · refine fin f1 i1 (Mn.refl f1) (fun x2 y2 d1 _ _ _ _ _ _ _ => ?_) ?_
      · rw [a1] at d1; exact absurd d1 n10
      · rw [hrun, if_neg (by rw [a1]; exact n10)]) (f, .null) ⟨rfl, hF, Mn.refl f, fun i' hi' => by omega⟩
  have e1 : am_go am_X0 (am_ex (d + 2)) M74 2 [.ref 5, .int (nI m), .int (nI s), .int (nI 0), .null] [] (S2 σ f g) = am_go am_X0 (am_ex (d + 2)) M74 2 [.ref 5, .int (nI m), .int (nI s), .int (nI (zn (σ.1 21) m)), u] [] (S2 σ f' g) := e1
  have i3 : ∀ i', i' < zn (σ.1 21) m → ∀ x y, σ.1 22 (m * 150 + i') = nI 0 → σ.1 24 (m * 150 + i') = nI x → σ.1 23 (m * 150 + i') = nI y → 1 ≤ x → x ≤ kc → 1 ≤ y → y ≤ kc → f x = nI s → ¬ f' y = nI 0 := i3
  refine ⟨f', ?_, i1, i2, ?_⟩
  · rw [e74, q74_0, e1, q74_2 _ _ _ _ _ hu, w36 d f' g h hm, bI_r, if_pos (by rw [i_le]; exact Int.le_refl _)]
  · rintro x y ⟨m', i', j1, j2, j3, j4, j5, j6, j7, j8, j9, j10⟩ hx
    have hmm : m' = m := by omega
    subst hmm
    exact i3 i' j3 x y j4 j6 j5 j9 j10 j7 j8 hx
end SRC
