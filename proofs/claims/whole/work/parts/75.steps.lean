/-! openSteps: how far a key is from a record -/
section OST
def R3 (σ : am_M) (f : Nat → Int32) (n : Nat) (s : Nat → Int32) : am_M := R2 (am_set σ 56 s) f n
theorem R3_56 (σ : am_M) (f : Nat → Int32) (n : Nat) (s : Nat → Int32) : (R3 σ f n s).1 56 = s := by unfold R3; rw [R2_o _ _ _ (by decide) (by decide), s_eq]
theorem R3_55 (σ : am_M) (f : Nat → Int32) (n : Nat) (s : Nat → Int32) : (R3 σ f n s).1 55 = f := R2_55 _ _ _
theorem R3_n (σ : am_M) (f : Nat → Int32) (n : Nat) (s : Nat → Int32) : (R3 σ f n s).1 34 27 = nI n := R2_n _ _ _
theorem R3_f (σ : am_M) (f : Nat → Int32) (n : Nat) (s : Nat → Int32) {j : Nat} (h : j ≠ 27) : (R3 σ f n s).1 34 j = σ.1 34 j := by unfold R3; rw [R2_f _ _ _ h, s_ne _ _ (by decide)]
theorem R3_o (σ : am_M) (f : Nat → Int32) (n : Nat) (s : Nat → Int32) {a : Nat} (h1 : a ≠ 55) (h2 : a ≠ 34) (h3 : a ≠ 56) : (R3 σ f n s).1 a = σ.1 a := by unfold R3; rw [R2_o _ _ _ h1 h2, s_ne _ _ h3]
theorem R3_sm (σ : am_M) (f : Nat → Int32) (n : Nat) (s : Nat → Int32) : Sm σ (R3 σ f n s) := ((Sm.refl σ).set (by decide) s).trans (R2_sm _ f n)
theorem R3_w (σ : am_M) (f : Nat → Int32) (n : Nat) (s : Nat → Int32) (i : Nat) (v : Int32) : am_wI (R3 σ f n s) 56 i v = R3 σ f n (upd s i v) := by
  rw [am_wI_s, R3_56]
  unfold R3 R2
  rw [s_ne _ _ (show (34 : Nat) ≠ 56 by decide), s_ne _ _ (show (34 : Nat) ≠ 56 by decide)]
  unfold am_set va_up
  simp only [Prod.mk.injEq, and_true]
  funext b
  by_cases h1 : b = 56
  · subst h1; simp
  · simp [h1]
theorem R3_0 (σ : am_M) (v w : Int32) (n : Nat) : am_wI (am_wI (am_wI σ 55 0 v) 56 0 w) 34 27 (nI n) = R3 σ (upd (σ.1 55) 0 v) n (upd (σ.1 56) 0 w) := by
  rw [am_wI_s, am_wI_s, am_wI_s, s_ne _ _ (show (34 : Nat) ≠ 56 by decide), s_ne _ _ (show (34 : Nat) ≠ 55 by decide), s_ne _ _ (show (56 : Nat) ≠ 55 by decide)]
  unfold R3 R2
  rw [s_ne _ _ (show (34 : Nat) ≠ 56 by decide)]
  unfold am_set va_up
  simp only [Prod.mk.injEq, and_true]
  funext b
  by_cases h1 : b = 34
  · subst h1; simp
  · by_cases h2 : b = 55
    · subst h2; simp
    · by_cases h3 : b = 56
      · subst h3; simp
      · simp [h1, h2, h3]
variable (d : Nat) {c kc md rc td : Nat} {lev rk : Nat → Nat} {σ : am_M} {f s : Nat → Int32} {n : Nat}
theorem y196n (hk : kc ≤ 1801) (h : ST kc f n) {k : Nat} (h1 : 1 ≤ k) (h2 : k ≤ kc) (e : ¬ mS f n k) : am_ex (d + 2) 196 [.ref 34, .int (nI k)] (R3 σ f n s) = rV (R3 σ (upd f n (nI k)) (n + 1) s) := by
  have hle := h.le
  unfold R3
  have e3 : (am_wI (R2 (am_set σ 56 s) f n) 55 n (nI k)).1 34 27 = nI n := by rw [am_wI_s, s_ne _ _ (by decide), R2_n]
  rw [e196, q196_0, y195 d (by omega), bI_r, bz_f e, if_pos rfl, R2_n, if_pos (am_k (by omega) (by omega)), i_cl (by omega), e3, show nI n + nI 1 = nI (n + 1) from nI_1 _, R2_w]
/-- keys laid so far, each with its steps from q -/
abbrev LI (kc md : Nat) (lev : Nat → Nat) (σ : am_M) (q : Nat) (f : Nat → Int32) (n : Nat) (s : Nat → Int32) : Prop := ST kc f n ∧ ∀ i, i < n → ∃ k, 1 ≤ k ∧ k ≤ kc ∧ f i = nI k ∧ Dn kc σ 0 md q k ∧ s i = nI (lev k - lev q)
abbrev Pf (f : Nat → Int32) (n : Nat) (s f' : Nat → Int32) (n' : Nat) (s' : Nat → Int32) : Prop := n ≤ n' ∧ ∀ i, i < n → f' i = f i ∧ s' i = s i
theorem Pf.refl (f : Nat → Int32) (n : Nat) (s : Nat → Int32) : Pf f n s f n s := ⟨Nat.le_refl _, fun _ _ => ⟨rfl, rfl⟩⟩
theorem Pf.trans {f f' f'' s s' s'' : Nat → Int32} {n n' n'' : Nat} (h1 : Pf f n s f' n' s') (h2 : Pf f' n' s' f'' n'' s'') : Pf f n s f'' n'' s'' := by
  have a := h1.1
  have b := h2.1
  refine ⟨by omega, fun i hi => ?_⟩
  have c1 := h1.2 i hi
  have c2 := h2.2 i (by omega)
  exact ⟨c2.1.trans c1.1, c2.2.trans c1.2⟩
theorem Pf.mS {f f' s s' : Nat → Int32} {n n' : Nat} (h : Pf f n s f' n' s') {k : Nat} (hk : mS f n k) : mS f' n' k := by
  rw [mS_iff] at hk ⊢
  obtain ⟨i, hi, e⟩ := hk
  have := h.1
  exact ⟨i, by omega, by rw [(h.2 i hi).1]; exact e⟩
theorem y211i (h : Inv0 c kc md rc td lev rk σ) {m q p x : Nat} (hm : m < md) (hq : 1 ≤ q ∧ q ≤ kc) (hL : LI kc md lev σ q f n s) (hp : p < n) (hx : f p = nI x) (hx1 : 1 ≤ x) (hx2 : x ≤ kc) (w : Int32) : ∃ f' n' s', am_go am_X0 (am_ex (d + 2)) M211 46 [.ref 34, .int w, .int (nI p), .int (nI m), .int (nI (m * 150))] [] (R3 σ f n s) = am_go am_X0 (am_ex (d + 2)) M211 31 [.ref 34, .int w, .int (nI p), .int (nI (m + 1)), .int (nI (m * 150 + zn (σ.1 21) m))] [] (R3 σ f' n' s') ∧ LI kc md lev σ q f' n' s' ∧ Pf f n s f' n' s' ∧ ∀ y, EdD kc σ m (m + 1) x y → mS f' n' y := by
  have hkl := h.kl
  have hmb := h.core.mdb
  obtain ⟨hz1, hz2, _⟩ := h.core.med m hm
  obtain ⟨⟨f', n', s'⟩, e1, s1, g1, i1⟩ := lp_inv (fun i (p : (Nat → Int32) × Nat × (Nat → Int32)) => LI kc md lev σ q p.1 p.2.1 p.2.2 ∧ Pf f n s p.1 p.2.1 p.2.2 ∧ ∀ i', i' < i → ∀ y, σ.1 22 (m * 150 + i') = nI 0 → σ.1 24 (m * 150 + i') = nI x → σ.1 23 (m * 150 + i') = nI y → 1 ≤ y → y ≤ kc → mS p.1 p.2.1 y) 0 (zn (σ.1 21) m) (by omega) (fun i r => am_go am_X0 (am_ex (d + 2)) M211 46 [.ref 34, .int w, .int (nI p), .int (nI m), .int (nI (m * 150 + i))] [] (R3 σ r.1 r.2.1 r.2.2)) (by
    rintro i ⟨f1, n1, s1⟩ _ hi ⟨l1, g1, i1⟩
    have l1 : LI kc md lev σ q f1 n1 s1 := l1
    have g1 : Pf f n s f1 n1 s1 := g1
    have ha : m * 150 + i < 1200 := by omega
    have hle := l1.1.le
    have hge := g1.1
    have hp1 : f1 p = nI x := by rw [(g1.2 p hp).1]; exact hx
    have fin : ∀ f2 n2 s2, LI kc md lev σ q f2 n2 s2 → Pf f1 n1 s1 f2 n2 s2 → (∀ y, σ.1 22 (m * 150 + i) = nI 0 → σ.1 24 (m * 150 + i) = nI x → σ.1 23 (m * 150 + i) = nI y → 1 ≤ y → y ≤ kc → mS f2 n2 y) → am_go am_X0 (am_ex (d + 2)) M211 46 [.ref 34, .int w, .int (nI p), .int (nI m), .int (nI (m * 150 + i))] [] (R3 σ f1 n1 s1) = am_go am_X0 (am_ex (d + 2)) M211 46 [.ref 34, .int w, .int (nI p), .int (nI m), .int (nI (m * 150 + (i + 1)))] [] (R3 σ f2 n2 s2) → ∃ r : (Nat → Int32) × Nat × (Nat → Int32), am_go am_X0 (am_ex (d + 2)) M211 46 [.ref 34, .int w, .int (nI p), .int (nI m), .int (nI (m * 150 + i))] [] (R3 σ f1 n1 s1) = am_go am_X0 (am_ex (d + 2)) M211 46 [.ref 34, .int w, .int (nI p), .int (nI m), .int (nI (m * 150 + (i + 1)))] [] (R3 σ r.1 r.2.1 r.2.2) ∧ LI kc md lev σ q r.1 r.2.1 r.2.2 ∧ Pf f n s r.1 r.2.1 r.2.2 ∧ ∀ i', i' < i + 1 → ∀ y, σ.1 22 (m * 150 + i') = nI 0 → σ.1 24 (m * 150 + i') = nI x → σ.1 23 (m * 150 + i') = nI y → 1 ≤ y → y ≤ kc → mS r.1 r.2.1 y := by
      intro f2 n2 s2 a1 a2 a3 a4
      refine ⟨(f2, n2, s2), a4, a1, g1.trans a2, fun i' hi' y b1 b2 b3 b4 b5 => ?_⟩
      by_cases e : i' = i
      · subst e; exact a3 y b1 b2 b3 b4 b5
      · exact a2.mS (i1 i' (by omega) y b1 b2 b3 b4 b5)
    have hk : am_go am_X0 (am_ex (d + 2)) M211 46 [.ref 34, .int w, .int (nI p), .int (nI m), .int (nI (m * 150 + i))] [] (R3 σ f1 n1 s1) = if σ.1 22 (m * 150 + i) = nI 0 then (if σ.1 24 (m * 150 + i) = nI x then (if ext (fun j => f1 j = σ.1 23 (m * 150 + i)) 0 n1 = true then am_go am_X0 (am_ex (d + 2)) M211 46 [.ref 34, .int w, .int (nI p), .int (nI m), .int (nI (m * 150 + (i + 1)))] [] (R3 σ f1 n1 s1) else am_bV (am_ex (d + 2) 196 [.ref 34, .int (σ.1 23 (m * 150 + i))] (R3 σ f1 n1 (upd s1 n1 (s1 p + nI 1)))) (fun t => am_go am_X0 (am_ex (d + 2)) M211 46 [.ref 34, .int w, .int (nI p), .int (nI m), .int (nI (m * 150 + (i + 1)))] [] t)) else am_go am_X0 (am_ex (d + 2)) M211 46 [.ref 34, .int w, .int (nI p), .int (nI m), .int (nI (m * 150 + (i + 1)))] [] (R3 σ f1 n1 s1)) else am_go am_X0 (am_ex (d + 2)) M211 46 [.ref 34, .int w, .int (nI p), .int (nI m), .int (nI (m * 150 + (i + 1)))] [] (R3 σ f1 n1 s1) := by
      have hhas : am_ex (d + 2) 195 [.ref 34, .int (σ.1 23 (m * 150 + i))] (R3 σ f1 n1 s1) = rI (bz (ext (fun j => f1 j = σ.1 23 (m * 150 + i)) 0 n1 = true)) (R3 σ f1 n1 s1) := y195 (d + 1) (by omega) _
      rw [q211_46, if_pos (am_k (by omega) (by omega)), i_cl (by omega), R3_o _ _ _ _ (by decide) (by decide) (by decide), if_neg (h.st0 hm (by omega)), if_pos (am_k (by omega) (by omega)), R3_o _ _ _ _ (by decide) (by decide) (by decide), h.s45 hm, mx150, nI_add, if_neg (by rw [i_le, i_n (by omega), i_n (by omega)]; omega), if_pos (am_k (by omega) (by omega)), i_cl (by omega), R3_o _ _ _ _ (show (46 : Nat) ≠ 55 by decide) (by decide) (by decide), h.e46, if_pos (am_k (by omega) (by omega)), if_pos (am_k (by omega) (by omega)), i_cl (by omega), R3_o _ _ _ _ (show (48 : Nat) ≠ 55 by decide) (by decide) (by decide), h.e48, R3_55, hp1, if_pos (am_k (by omega) (by omega)), R3_o _ _ _ _ (show (47 : Nat) ≠ 55 by decide) (by decide) (by decide), h.e47, hhas, bI_r, if_pos (am_k (by omega) (by omega)), R3_n, if_pos (am_k (by omega) (by omega)), if_pos (am_k (by omega) (by omega)), i_cl (by omega), R3_56, R3_w, R3_o _ _ _ _ (show (47 : Nat) ≠ 55 by decide) (by decide) (by decide), h.e47, show nI (m * 150 + i) + nI 1 = nI (m * 150 + (i + 1)) from nI_1 _]
      by_cases b1 : σ.1 22 (m * 150 + i) = nI 0
      · rw [if_pos b1, if_pos b1]
        by_cases b2 : σ.1 24 (m * 150 + i) = nI x
        · rw [if_pos b2, if_pos b2]
          by_cases b3 : ext (fun j => f1 j = σ.1 23 (m * 150 + i)) 0 n1 = true
          · rw [bz_t b3, if_neg n10, if_pos b3]
          · rw [bz_f b3, if_pos rfl, if_neg b3]
        · rw [if_neg b2, if_neg b2]
      · rw [if_neg b1, if_neg b1]
    show ∃ r : (Nat → Int32) × Nat × (Nat → Int32), am_go am_X0 (am_ex (d + 2)) M211 46 [.ref 34, .int w, .int (nI p), .int (nI m), .int (nI (m * 150 + i))] [] (R3 σ f1 n1 s1) = am_go am_X0 (am_ex (d + 2)) M211 46 [.ref 34, .int w, .int (nI p), .int (nI m), .int (nI (m * 150 + (i + 1)))] [] (R3 σ r.1 r.2.1 r.2.2) ∧ _
    by_cases b1 : σ.1 22 (m * 150 + i) = nI 0
    · by_cases b2 : σ.1 24 (m * 150 + i) = nI x
      · rcases h.core.ent m hm i hi with ⟨a1, y, x', a2, a3, a4, a5, a6, a7, a8⟩ | ⟨a1, _⟩
        · have exx : x' = x := by rw [a7] at b2; exact nI_inj (by omega) (by omega) b2
          subst exx
          by_cases b3 : mS f1 n1 y
          · refine fin f1 n1 s1 l1 (Pf.refl _ _ _) (fun y2 _ _ d3 d4 d5 => ?_) ?_
            · rw [a6] at d3
              rw [← nI_inj (by omega) (by omega) d3]; exact b3
            · rw [hk, if_pos b1, if_pos b2, a6, if_pos b3]
          · obtain ⟨k, k1, k2, k3, k4, k5⟩ := l1.2 p (by omega)
            have ek : k = x' := by rw [hp1] at k3; exact (nI_inj (by omega) (by omega) k3).symm
            subst ek
            have hdn : Dn kc σ 0 md q y := by
              obtain ⟨nn, hnn⟩ := k4
              exact ⟨nn + 1, k, ⟨m, i, by omega, hm, hi, a1, a6, a7, a2, a3, a4, a5⟩, hnn⟩
            have hlq : lev q ≤ lev k := by
              obtain ⟨nn, hnn⟩ := k4
              have := Dn_lev h (Nat.le_refl _) hq nn k hnn; omega
            have hl3 := h.core.lvb y
            refine fin (upd f1 n1 (nI y)) (n1 + 1) (upd s1 n1 (s1 p + nI 1)) ⟨l1.1.add hkl a2 a3 b3, fun j hj => ?_⟩ ⟨by omega, fun j hj => ⟨if_neg (by omega), if_neg (by omega)⟩⟩ (fun y2 _ _ d3 d4 d5 => ?_) ?_
            · by_cases e : j = n1
              · subst e
                refine ⟨y, a2, a3, if_pos rfl, hdn, ?_⟩
                rw [show upd s1 j (s1 p + nI 1) j = s1 p + nI 1 from if_pos rfl, k5, nI_add, show lev k - lev q + 1 = lev y - lev q by omega]
              · rw [show upd f1 n1 (nI y) j = f1 j from if_neg e, show upd s1 n1 (s1 p + nI 1) j = s1 j from if_neg e]
                exact l1.2 j (by omega)
            · rw [a6] at d3
              exact (mS_add hkl a3 d5).mpr (Or.inr (nI_inj (by omega) (by omega) d3).symm)
            · rw [hk, if_pos b1, if_pos b2, a6, if_neg b3, y196n d hkl l1.1 a2 a3 b3, bV_r]
        · rw [a1] at b1; exact absurd b1 n10
      · refine fin f1 n1 s1 l1 (Pf.refl _ _ _) (fun y2 _ d2 _ _ _ => absurd d2 b2) ?_
        rw [hk, if_pos b1, if_neg b2]
    · refine fin f1 n1 s1 l1 (Pf.refl _ _ _) (fun y2 d1 _ _ _ _ => absurd d1 b1) ?_
      rw [hk, if_neg b1]) (f, n, s) ⟨hL, Pf.refl f n s, fun i' hi' => by omega⟩
  have e1 : am_go am_X0 (am_ex (d + 2)) M211 46 [.ref 34, .int w, .int (nI p), .int (nI m), .int (nI (m * 150))] [] (R3 σ f n s) = am_go am_X0 (am_ex (d + 2)) M211 46 [.ref 34, .int w, .int (nI p), .int (nI m), .int (nI (m * 150 + zn (σ.1 21) m))] [] (R3 σ f' n' s') := e1
  refine ⟨f', n', s', ?_, s1, g1, ?_⟩
  · rw [e1, q211_46, if_pos (am_k (by omega) (by omega)), i_cl (by omega), if_pos (am_k (by omega) (by omega)), R3_o _ _ _ _ (show (45 : Nat) ≠ 55 by decide) (by decide) (by decide), h.s45 hm, mx150, nI_add (m * 150) (zn (σ.1 21) m), if_pos (show nI (m * 150 + zn (σ.1 21) m) ≤ nI (m * 150 + zn (σ.1 21) m) by rw [i_le]; exact Int.le_refl _), show nI m + nI 1 = nI (m + 1) from nI_1 _, ite_self]
  · rintro y ⟨m', i', j1, j2, j3, j4, j5, j6, j7, j8, j9, j10⟩
    have hmm : m' = m := by omega
    subst hmm
    exact i1 i' j3 y j4 j6 j5 j7 j8
/-- one key of the row is gone through -/
theorem y211p (h : Inv0 c kc md rc td lev rk σ) {q p x : Nat} (hq : 1 ≤ q ∧ q ≤ kc) (hL : LI kc md lev σ q f n s) (hp : p < n) (hx : f p = nI x) (hx1 : 1 ≤ x) (hx2 : x ≤ kc) (w : Int32) {u4 : Value} (hu4 : (!(u4.category == 2)) = true) : ∃ f' n' s' u3 u4', am_go am_X0 (am_ex (d + 2)) M211 31 [.ref 34, .int w, .int (nI p), .int (nI 0), u4] [] (R3 σ f n s) = am_go am_X0 (am_ex (d + 2)) M211 21 [.ref 34, .int w, .int (nI (p + 1)), u3, u4'] [] (R3 σ f' n' s') ∧ (!(u3.category == 2)) = true ∧ (!(u4'.category == 2)) = true ∧ LI kc md lev σ q f' n' s' ∧ Pf f n s f' n' s' ∧ ∀ y, EdD kc σ 0 md x y → mS f' n' y := by
  have hmb := h.core.mdb
  obtain ⟨⟨f', n', s', u⟩, e1, hu, l1, g1, i1⟩ := lp_inv (fun m (r : (Nat → Int32) × Nat × (Nat → Int32) × Value) => (!(r.2.2.2.category == 2)) = true ∧ LI kc md lev σ q r.1 r.2.1 r.2.2.1 ∧ Pf f n s r.1 r.2.1 r.2.2.1 ∧ ∀ y, EdD kc σ 0 m x y → mS r.1 r.2.1 y) 0 md (by omega) (fun m r => am_go am_X0 (am_ex (d + 2)) M211 31 [.ref 34, .int w, .int (nI p), .int (nI m), r.2.2.2] [] (R3 σ r.1 r.2.1 r.2.2.1)) (by
    rintro m ⟨f1, n1, s1, u⟩ _ hm ⟨hu, l1, g1, i1⟩
    have g1 : Pf f n s f1 n1 s1 := g1
    have hge := g1.1
    obtain ⟨f2, n2, s2, k1, k2, k3, k4⟩ := y211i d (f := f1) (n := n1) (s := s1) h hm hq l1 (p := p) (by omega) (by rw [(g1.2 p hp).1]; exact hx) hx1 hx2 w
    refine ⟨(f2, n2, s2, .int (nI (m * 150 + zn (σ.1 21) m))), ?_, rfl, k2, g1.trans k3, fun y e => ?_⟩
    · show am_go am_X0 (am_ex (d + 2)) M211 31 [.ref 34, .int w, .int (nI p), .int (nI m), u] [] (R3 σ f1 n1 s1) = am_go am_X0 (am_ex (d + 2)) M211 31 [.ref 34, .int w, .int (nI p), .int (nI (m + 1)), .int (nI (m * 150 + zn (σ.1 21) m))] [] (R3 σ f2 n2 s2)
      rw [q211_31 _ _ _ _ _ hu, R3_f _ _ _ _ (by decide), h.hm', if_neg (by rw [i_le, i_n (by omega), i_n (by omega)]; omega), mx150, k1]
    · rcases EdU_s e with e | e
      · exact k3.mS (i1 y e)
      · exact k4 y e) (f, n, s, u4) ⟨hu4, hL, Pf.refl f n s, fun y e => absurd e EdU_0⟩
  have e1 : am_go am_X0 (am_ex (d + 2)) M211 31 [.ref 34, .int w, .int (nI p), .int (nI 0), u4] [] (R3 σ f n s) = am_go am_X0 (am_ex (d + 2)) M211 31 [.ref 34, .int w, .int (nI p), .int (nI md), u] [] (R3 σ f' n' s') := e1
  refine ⟨f', n', s', .int (nI md), u, ?_, rfl, hu, l1, g1, i1⟩
  rw [e1, q211_31 _ _ _ _ _ hu, R3_f _ _ _ _ (by decide), h.hm', if_pos (by rw [i_le]; exact Int.le_refl _), show nI p + nI 1 = nI (p + 1) from nI_1 _]
theorem y211 (h : Inv0 c kc md rc td lev rk σ) {q : Nat} (hq : 1 ≤ q ∧ q ≤ kc) : ∃ f' n' s', am_ex (d + 3) 211 [.ref 34, .int (nI q)] σ = rV (R3 σ f' n' s') ∧ LI kc md lev σ q f' n' s' ∧ mS f' n' q ∧ ∀ x y, EdD kc σ 0 md x y → mS f' n' x → mS f' n' y := by
  have hkl := h.kl
  have key : ∀ fu (f s : Nat → Int32) n p (u3 u4 : Value), kc - p ≤ fu → p ≤ n → LI kc md lev σ q f n s → mS f n q → (∀ p', p' < p → ∀ x y, f p' = nI x → EdD kc σ 0 md x y → mS f n y) → (!(u3.category == 2)) = true → (!(u4.category == 2)) = true → ∃ f' n' s', am_go am_X0 (am_ex (d + 2)) M211 21 [.ref 34, .int (nI q), .int (nI p), u3, u4] [] (R3 σ f n s) = rV (R3 σ f' n' s') ∧ LI kc md lev σ q f' n' s' ∧ mS f' n' q ∧ ∀ x y, EdD kc σ 0 md x y → mS f' n' x → mS f' n' y := by
    intro fu
    induction fu with
    | zero =>
      intro f s n p u3 u4 hf hpn hL hmq hc hu3 hu4
      have hle := hL.1.le
      have e : p = n := by omega
      subst e
      refine ⟨f, p, s, ?_, hL, hmq, fun x y e hx => ?_⟩
      · rw [q211_21 _ _ _ _ hu3 hu4, R3_n, if_pos (by rw [i_le]; exact Int.le_refl _)]
      · rw [mS_iff] at hx
        obtain ⟨i, hi, hx⟩ := hx
        exact hc i hi x y hx e
    | succ fu ih =>
      intro f s n p u3 u4 hf hpn hL hmq hc hu3 hu4
      have hle := hL.1.le
      by_cases e : p = n
      · subst e
        refine ⟨f, p, s, ?_, hL, hmq, fun x y e hx => ?_⟩
        · rw [q211_21 _ _ _ _ hu3 hu4, R3_n, if_pos (by rw [i_le]; exact Int.le_refl _)]
        · rw [mS_iff] at hx
          obtain ⟨i, hi, hx⟩ := hx
          exact hc i hi x y hx e
      · obtain ⟨x, x1, x2, x3, _⟩ := hL.2 p (by omega)
        obtain ⟨f1, n1, s1, v3, v4, k1, k2, k3, k4, k5, k6⟩ := y211p d h hq hL (p := p) (by omega) x3 x1 x2 (nI q) hu4
        have hge := k5.1
        obtain ⟨f2, n2, s2, j1, j2⟩ := ih f1 s1 n1 (p + 1) v3 v4 (by omega) (by omega) k4 (k5.mS hmq) (fun p' hp' x' y hx' ed => by
          have hfp := (k5.2 p' (by omega)).1
          by_cases ep : p' = p
          · have exy : x' = x := by
              obtain ⟨_, _, _, _, _, _, _, _, _, _, a, b⟩ := id ed
              rw [hfp, ep, x3] at hx'
              exact (nI_inj (by omega) (by omega) hx').symm
            rw [exy] at ed
            exact k6 y ed
          · exact k5.mS (hc p' (by omega) x' y (by rw [← hfp]; exact hx') ed)) k2 k3
        refine ⟨f2, n2, s2, ?_, j2⟩
        rw [q211_21 _ _ _ _ hu3 hu4, R3_n, if_neg (by rw [i_le, i_n (by omega), i_n (by omega)]; omega), k1, j1]
  have hst : ST kc (upd (σ.1 55) 0 (nI q)) 1 := (ST.nil (σ.1 55)).add hkl hq.1 hq.2 mS_0
  have hL0 : LI kc md lev σ q (upd (σ.1 55) 0 (nI q)) 1 (upd (σ.1 56) 0 (nI 0)) := ⟨hst, fun i hi => by
    have : i = 0 := by omega
    subst this
    exact ⟨q, hq.1, hq.2, if_pos rfl, ⟨0, rfl⟩, by rw [Nat.sub_self]; exact if_pos rfl⟩⟩
  obtain ⟨f', n', s', e1, k⟩ := key kc (upd (σ.1 55) 0 (nI q)) (upd (σ.1 56) 0 (nI 0)) 1 0 .null .null (by omega) (by omega) hL0 (mS_iff.mpr ⟨0, by omega, if_pos rfl⟩) (fun p' hp' => by omega) rfl rfl
  refine ⟨f', n', s', ?_, k⟩
  rw [e211, q211_0, if_pos (am_k (by omega) (by omega)), if_pos (am_k (by omega) (by omega)), i_cl (by omega), R3_0, e1]
theorem y210 (hn : n ≤ 2500) (x : Int32) : ∃ v, am_ex (d + 1) 210 [.ref 34, .int x] (R3 σ f n s) = rI v (R3 σ f n s) ∧ ((v = -1 ∧ ¬ ext (fun i => f i = x) 0 n = true) ∨ ∃ i, i < n ∧ v = nI i ∧ f i = x) := by
  have key : ∀ j i, i + j = n → (∀ i', i' < i → ¬ f i' = x) → ∃ v, am_go am_X0 (am_ex d) M210 2 [.ref 34, .int x, .int (nI i)] [] (R3 σ f n s) = rI v (R3 σ f n s) ∧ ((v = -1 ∧ ¬ ext (fun i => f i = x) 0 n = true) ∨ ∃ i, i < n ∧ v = nI i ∧ f i = x) := by
    intro j
    induction j with
    | zero =>
      intro i hi hno
      refine ⟨-1, ?_, Or.inl ⟨rfl, fun z => ?_⟩⟩
      · rw [q210_2, R3_n, if_pos (by rw [i_le, i_n (by omega), i_n (by omega)]; omega)]
      · obtain ⟨i', _, h1, h2⟩ := (ext_iff _ _ _).mp z
        exact hno i' (by omega) h2
    | succ j ih =>
      intro i hi hno
      by_cases e : f i = x
      · refine ⟨nI i, ?_, Or.inr ⟨i, by omega, rfl, e⟩⟩
        rw [q210_2, R3_n, if_neg (by rw [i_le, i_n (by omega), i_n (by omega)]; omega), if_pos (am_k (by omega) (by omega)), i_cl (by omega), R3_55, if_pos e]
      · obtain ⟨v, e1, e2⟩ := ih (i + 1) (by omega) (fun i' hi' => by
          by_cases e' : i' = i
          · rw [e']; exact e
          · exact hno i' (by omega))
        refine ⟨v, ?_, e2⟩
        rw [q210_2, R3_n, if_neg (by rw [i_le, i_n (by omega), i_n (by omega)]; omega), if_pos (am_k (by omega) (by omega)), i_cl (by omega), R3_55, if_neg e, show nI i + nI 1 = nI (i + 1) from nI_1 _, e1]
  obtain ⟨v, e1, e2⟩ := key n 0 (by omega) (fun i' hi' => by omega)
  exact ⟨v, by rw [e210, q210_0, e1], e2⟩
/-- the least number of steps found so far -/
abbrev Lst (lq : Nat) (v : Int32) (P : Prop) : Prop := (v = -1 ∧ ¬ P) ∨ (v = nI (4 - lq) ∧ P)
theorem y212i (h : Inv0 c kc md rc td lev rk σ) {m q r : Nat} (hm : m < md) (hq : 1 ≤ q ∧ q ≤ kc) (hL : LI kc md lev σ q f n s) {v : Int32} {P : Prop} (hv : Lst (lev q) v P) {u5 : Value} (hu5 : (!(u5.category == 2)) = true) : ∃ v' u', am_go am_X0 (am_ex (d + 1)) M212 19 [.ref 34, .int (nI r), .int v, .int (nI m), .int (nI (m * 150)), u5] [] (R3 σ f n s) = am_go am_X0 (am_ex (d + 1)) M212 4 [.ref 34, .int (nI r), .int v', .int (nI (m + 1)), .int (nI (m * 150 + zn (σ.1 21) m)), u'] [] (R3 σ f n s) ∧ (!(u'.category == 2)) = true ∧ Lst (lev q) v' (P ∨ qM1 σ f n r m) := by
  have hkl := h.kl
  have hmb := h.core.mdb
  have hle := hL.1.le
  have hlq := h.core.lvb q
  obtain ⟨hz1, hz2, _⟩ := h.core.med m hm
  obtain ⟨⟨v', u⟩, e1, hu, i1⟩ := lp_inv (fun i (p : Int32 × Value) => (!(p.2.category == 2)) = true ∧ Lst (lev q) p.1 (P ∨ ext (fun i => qE σ f n r (m * 150 + i)) 0 i = true)) 0 (zn (σ.1 21) m) (by omega) (fun i p => am_go am_X0 (am_ex (d + 1)) M212 19 [.ref 34, .int (nI r), .int p.1, .int (nI m), .int (nI (m * 150 + i)), p.2] [] (R3 σ f n s)) (by
    rintro i ⟨v1, u⟩ _ hi ⟨hu, i1⟩
    have i1 : Lst (lev q) v1 (P ∨ ext (fun i => qE σ f n r (m * 150 + i)) 0 i = true) := i1
    have ha : m * 150 + i < 1200 := by omega
    have hs : ext (fun i => qE σ f n r (m * 150 + i)) 0 (i + 1) = true ↔ ext (fun i => qE σ f n r (m * 150 + i)) 0 i = true ∨ qE σ f n r (m * 150 + i) := by
      rw [ext_s, Nat.zero_add]
    have hpre : am_go am_X0 (am_ex (d + 1)) M212 19 [.ref 34, .int (nI r), .int v1, .int (nI m), .int (nI (m * 150 + i)), u] [] (R3 σ f n s) = if σ.1 22 (m * 150 + i) = nI 1 then (if σ.1 23 (m * 150 + i) = nI r then am_bI (am_ex (d + 1) 210 [.ref 34, .int (σ.1 24 (m * 150 + i))] (R3 σ f n s)) (fun r1 t1 => am_go am_X0 (am_ex (d + 1)) M212 83 [.ref 34, .int (nI r), .int v1, .int (nI m), .int (nI (m * 150 + i)), u] [.int r1] t1) else am_go am_X0 (am_ex (d + 1)) M212 83 [.ref 34, .int (nI r), .int v1, .int (nI m), .int (nI (m * 150 + i)), u] [.int (-1)] (R3 σ f n s)) else am_go am_X0 (am_ex (d + 1)) M212 83 [.ref 34, .int (nI r), .int v1, .int (nI m), .int (nI (m * 150 + i)), u] [.int (-1)] (R3 σ f n s) := by
      rw [q212_19 _ _ _ _ _ _ hu, if_pos (am_k (by omega) (by omega)), i_cl (by omega), R3_o _ _ _ _ (by decide) (by decide) (by decide), if_neg (h.st0 hm (by omega)), if_pos (am_k (by omega) (by omega)), R3_o _ _ _ _ (by decide) (by decide) (by decide), h.s45 hm, mx150, nI_add, if_neg (by rw [i_le, i_n (by omega), i_n (by omega)]; omega), if_pos (am_k (by omega) (by omega)), i_cl (by omega), R3_o _ _ _ _ (by decide) (by decide) (by decide), h.e46, if_pos (am_k (by omega) (by omega)), R3_o _ _ _ _ (by decide) (by decide) (by decide), h.e47, if_pos (am_k (by omega) (by omega)), R3_o _ _ _ _ (by decide) (by decide) (by decide), h.e48, q212_82 _ _ _ _ _ _ hu]
    have h83 : am_go am_X0 (am_ex (d + 1)) M212 83 [.ref 34, .int (nI r), .int v1, .int (nI m), .int (nI (m * 150 + i)), u] [.int (-1)] (R3 σ f n s) = am_go am_X0 (am_ex (d + 1)) M212 19 [.ref 34, .int (nI r), .int v1, .int (nI m), .int (nI (m * 150 + (i + 1))), .int (-1)] [] (R3 σ f n s) := by
      rw [q212_83 _ _ _ _ _ _ _ hu, if_pos rfl, show nI (m * 150 + i) + nI 1 = nI (m * 150 + (i + 1)) from nI_1 _]
    have no : ¬ qE σ f n r (m * 150 + i) → am_go am_X0 (am_ex (d + 1)) M212 19 [.ref 34, .int (nI r), .int v1, .int (nI m), .int (nI (m * 150 + i)), u] [] (R3 σ f n s) = am_go am_X0 (am_ex (d + 1)) M212 19 [.ref 34, .int (nI r), .int v1, .int (nI m), .int (nI (m * 150 + (i + 1))), .int (-1)] [] (R3 σ f n s) → ∃ p : Int32 × Value, am_go am_X0 (am_ex (d + 1)) M212 19 [.ref 34, .int (nI r), .int v1, .int (nI m), .int (nI (m * 150 + i)), u] [] (R3 σ f n s) = am_go am_X0 (am_ex (d + 1)) M212 19 [.ref 34, .int (nI r), .int p.1, .int (nI m), .int (nI (m * 150 + (i + 1))), p.2] [] (R3 σ f n s) ∧ (!(p.2.category == 2)) = true ∧ Lst (lev q) p.1 (P ∨ ext (fun i => qE σ f n r (m * 150 + i)) 0 (i + 1) = true) := by
      intro hno e
      refine ⟨(v1, .int (-1)), e, rfl, ?_⟩
      rw [hs]
      exact i1.imp (fun z => ⟨z.1, fun q => z.2 (q.imp id (fun q => q.resolve_right hno))⟩) (fun z => ⟨z.1, z.2.imp id Or.inl⟩)
    show ∃ p : Int32 × Value, am_go am_X0 (am_ex (d + 1)) M212 19 [.ref 34, .int (nI r), .int v1, .int (nI m), .int (nI (m * 150 + i)), u] [] (R3 σ f n s) = am_go am_X0 (am_ex (d + 1)) M212 19 [.ref 34, .int (nI r), .int p.1, .int (nI m), .int (nI (m * 150 + (i + 1))), p.2] [] (R3 σ f n s) ∧ _
    by_cases b1 : σ.1 22 (m * 150 + i) = nI 1
    · by_cases b2 : σ.1 23 (m * 150 + i) = nI r
      · obtain ⟨w, e2, hw⟩ := y210 d (σ := σ) (f := f) (s := s) (n := n) (by omega) (σ.1 24 (m * 150 + i))
        rcases hw with ⟨w1, w2⟩ | ⟨j, j1, j2, j3⟩
        · refine no (fun z => w2 z.2.2) ?_
          rw [hpre, if_pos b1, if_pos b2, e2, bI_r, w1, h83]
        · have hyes : qE σ f n r (m * 150 + i) := ⟨b1, b2, (ext_iff _ _ _).mpr ⟨j, by omega, by omega, j3⟩⟩
          have hsj : s j + nI 1 = nI (4 - lev q) := by
            obtain ⟨k, k1, k2, k3, k4, k5⟩ := hL.2 j j1
            rcases h.core.ent m hm i hi with ⟨a1, _⟩ | ⟨a1, r', y, a2, a3, a4, a5, a6, a7, a8⟩
            · rw [a1] at b1; exact absurd b1.symm n10
            · rw [j3, a6] at k3
              have := nI_inj (by omega) (by omega) k3
              subst this
              rw [k5, nI_add, a7, show 3 - lev q + 1 = 4 - lev q by omega]
          refine ⟨(nI (4 - lev q), .int (nI j)), ?_, rfl, Or.inr ⟨rfl, Or.inr (hs.mpr (Or.inr hyes))⟩⟩
          show _ = am_go am_X0 (am_ex (d + 1)) M212 19 [.ref 34, .int (nI r), .int (nI (4 - lev q)), .int (nI m), .int (nI (m * 150 + (i + 1))), .int (nI j)] [] (R3 σ f n s)
          rw [hpre, if_pos b1, if_pos b2, e2, bI_r, j2, q212_83 _ _ _ _ _ _ _ hu, if_neg (nI_nm (by omega)), q212_109, if_pos (am_k (by omega) (by omega)), if_pos (am_k (by omega) (by omega)), i_cl (by omega), R3_56, hsj, show nI (m * 150 + i) + nI 1 = nI (m * 150 + (i + 1)) from nI_1 _]
          rcases i1 with ⟨z, _⟩ | ⟨z, _⟩
          · rw [if_pos z]
          · rw [z, if_neg (nI_nm (by omega)), if_pos (by rw [i_le]; exact Int.le_refl _)]
      · refine no (fun z => b2 z.2.1) ?_
        rw [hpre, if_pos b1, if_neg b2, h83]
    · refine no (fun z => b1 z.1) ?_
      rw [hpre, if_neg b1, h83]) (v, u5) ⟨hu5, by
        refine hv.imp (fun z => ⟨z.1, fun q => q.elim z.2 (fun q => ?_)⟩) (fun z => ⟨z.1, Or.inl z.2⟩)
        obtain ⟨j, h1, h2, _⟩ := (ext_iff _ _ _).mp q
        omega⟩
  have e1 : am_go am_X0 (am_ex (d + 1)) M212 19 [.ref 34, .int (nI r), .int v, .int (nI m), .int (nI (m * 150)), u5] [] (R3 σ f n s) = am_go am_X0 (am_ex (d + 1)) M212 19 [.ref 34, .int (nI r), .int v', .int (nI m), .int (nI (m * 150 + zn (σ.1 21) m)), u] [] (R3 σ f n s) := e1
  refine ⟨v', u, ?_, hu, i1⟩
  rw [e1, q212_19 _ _ _ _ _ _ hu, if_pos (am_k (by omega) (by omega)), i_cl (by omega), if_pos (am_k (by omega) (by omega)), R3_o _ _ _ _ (show (45 : Nat) ≠ 55 by decide) (by decide) (by decide), h.s45 hm, mx150, nI_add (m * 150) (zn (σ.1 21) m), if_pos (show nI (m * 150 + zn (σ.1 21) m) ≤ nI (m * 150 + zn (σ.1 21) m) by rw [i_le]; exact Int.le_refl _), show nI m + nI 1 = nI (m + 1) from nI_1 _, ite_self]
theorem y212 (h : Inv0 c kc md rc td lev rk σ) {q r : Nat} (hr : r < rc) (hq : 1 ≤ q ∧ q ≤ kc) (hL : LI kc md lev σ q f n s) : ∃ v, am_ex (d + 2) 212 [.ref 34, .int (nI r)] (R3 σ f n s) = rI v (R3 σ f n s) ∧ Lst (lev q) v (∃ k, mS f n k ∧ RcE kc rc σ 0 md r k) := by
  have hmb := h.core.mdb
  obtain ⟨⟨v, u, u'⟩, e1, hu, hu', i1⟩ := lp_inv (fun m (p : Int32 × Value × Value) => (!(p.2.1.category == 2)) = true ∧ (!(p.2.2.category == 2)) = true ∧ Lst (lev q) p.1 (∃ m', m' < m ∧ qM1 σ f n r m')) 0 md (by omega) (fun m p => am_go am_X0 (am_ex (d + 1)) M212 4 [.ref 34, .int (nI r), .int p.1, .int (nI m), p.2.1, p.2.2] [] (R3 σ f n s)) (by
    rintro m ⟨v1, u, u'⟩ _ hm ⟨hu, hu', i1⟩
    obtain ⟨v2, w, k1, k2, k3⟩ := y212i d (r := r) h hm hq hL i1 hu'
    refine ⟨(v2, .int (nI (m * 150 + zn (σ.1 21) m)), w), ?_, rfl, k2, ?_⟩
    · show am_go am_X0 (am_ex (d + 1)) M212 4 [.ref 34, .int (nI r), .int v1, .int (nI m), u, u'] [] (R3 σ f n s) = am_go am_X0 (am_ex (d + 1)) M212 4 [.ref 34, .int (nI r), .int v2, .int (nI (m + 1)), .int (nI (m * 150 + zn (σ.1 21) m)), w] [] (R3 σ f n s)
      rw [q212_4 _ _ _ _ _ hu hu', R3_f _ _ _ _ (by decide), h.hm', if_neg (by rw [i_le, i_n (by omega), i_n (by omega)]; omega), mx150, k1]
    · have : ((∃ m', m' < m ∧ qM1 σ f n r m') ∨ qM1 σ f n r m) ↔ ∃ m', m' < m + 1 ∧ qM1 σ f n r m' := by
        constructor
        · rintro (⟨m', a, b⟩ | b)
          · exact ⟨m', by omega, b⟩
          · exact ⟨m, by omega, b⟩
        · rintro ⟨m', a, b⟩
          by_cases e : m' = m
          · subst e; exact Or.inr b
          · exact Or.inl ⟨m', by omega, b⟩
      exact k3.imp (fun z => ⟨z.1, fun q => z.2 (this.mpr q)⟩) (fun z => ⟨z.1, this.mp z.2⟩)) (-1, .null, .null) ⟨rfl, rfl, Or.inl ⟨rfl, fun ⟨m', a, _⟩ => by omega⟩⟩
  have e1 : am_go am_X0 (am_ex (d + 1)) M212 4 [.ref 34, .int (nI r), .int (-1), .int (nI 0), .null, .null] [] (R3 σ f n s) = am_go am_X0 (am_ex (d + 1)) M212 4 [.ref 34, .int (nI r), .int v, .int (nI md), u, u'] [] (R3 σ f n s) := e1
  refine ⟨v, ?_, ?_⟩
  · rw [e212, q212_0, e1, q212_4 _ _ _ _ _ hu hu', R3_f _ _ _ _ (by decide), h.hm', if_pos (by rw [i_le]; exact Int.le_refl _)]
  · have : (∃ m', m' < md ∧ qM1 σ f n r m') ↔ ∃ k, mS f n k ∧ RcE kc rc σ 0 md r k := by
      rw [← qM_iff h hr (Nat.le_refl _)]
      exact ⟨fun ⟨m, a, b⟩ => ⟨m, by omega, a, b⟩, fun ⟨m, _, a, b⟩ => ⟨m, a, b⟩⟩
    exact i1.imp (fun z => ⟨z.1, fun q => z.2 (this.mpr q)⟩) (fun z => ⟨z.1, this.mp z.2⟩)
/-- the steps from a key to a record, by the reference -/
theorem y213s (h : Inv0 c kc md rc td lev rk σ) {q r : Nat} (hr : r < rc) (hq : 1 ≤ q ∧ q ≤ kc) (v1 : Int32) : ∃ f n s, (Op kc rc σ 0 md (fun t => t = r) q → am_go am_X0 (am_ex (d + 3)) M213 58 [.ref 34, .int v1, .int (nI r), .null, .null] [.int (nI q)] σ = rI (nI (4 - lev q)) (th (R3 σ f n s) (nI 0))) ∧ (¬ Op kc rc σ 0 md (fun t => t = r) q → am_go am_X0 (am_ex (d + 3)) M213 58 [.ref 34, .int v1, .int (nI r), .null, .null] [.int (nI q)] σ = rI (nI 0) (th (R3 σ f n s) (nI 2))) := by
  have hkl := h.kl
  have hlq := h.core.lvb q
  obtain ⟨f, n, s, e1, hL, hmq, hcl⟩ := y211 d h hq
  obtain ⟨v, e2, hv⟩ := y212 (d + 1) h hr hq hL
  refine ⟨f, n, s, ?_⟩
  have hiff : (∃ k, mS f n k ∧ RcE kc rc σ 0 md r k) ↔ Op kc rc σ 0 md (fun t => t = r) q := by
    rw [← Dn_Op]
    constructor
    · rintro ⟨k, a, e⟩
      obtain ⟨_, _, _, _, _, _, _, _, _, a1, a2⟩ := id e
      rw [mS_iff] at a
      obtain ⟨i, hi, ei⟩ := a
      obtain ⟨k', b1, b2, b3, b4, _⟩ := hL.2 i hi
      rw [ei] at b3
      have := nI_inj (by omega) (by omega) b3
      subst this
      exact ⟨k, b4, e⟩
    · rintro ⟨k, ⟨nn, hn⟩, e⟩
      have : ∀ nn j, Cl (fun j => j = q) (EdD kc σ 0 md) nn j → mS f n j := by
        intro nn
        induction nn with
        | zero =>
          intro j ej
          have ej : j = q := ej
          rw [ej]; exact hmq
        | succ nn ih =>
          rintro j ⟨i, ed, hi⟩
          exact hcl i j ed (ih i hi)
      exact ⟨k, this nn k hn, e⟩
  have hrun : am_go am_X0 (am_ex (d + 3)) M213 58 [.ref 34, .int v1, .int (nI r), .null, .null] [.int (nI q)] σ = if v = -1 then rI (nI 0) (th (R3 σ f n s) (nI 2)) else rI v (th (R3 σ f n s) (nI 0)) := by
    rw [q213_58, if_neg (by rw [i_le, i_n (by omega), i_n (by omega)]; omega), e1, bV_r, e2, bI_r, q213_78, q213_90, q213_90, th_w, th_w, th_v, th_v, if_neg le20, if_pos le00]
  rw [hrun]
  rcases hv with ⟨a, b⟩ | ⟨a, b⟩
  · exact ⟨fun o => absurd (hiff.mpr o) b, fun _ => by rw [if_pos a]⟩
  · exact ⟨fun _ => by rw [if_neg (by rw [a]; exact nI_nm (by omega)), a], fun o => absurd (hiff.mp b) o⟩
theorem f105 (h : Inv c kc md rc td lev rk σ) (hc : c < 600) (x y : Int32) : Fc (d + 8) 105 213 [.ref 0, .int x, .int y] [.ref 34, .int x, .int y] cdN (c + 1) σ := by
  have hkl := h.kl
  have hrb := h.core.rcb
  by_cases hxy : (x = -1 ∨ inR x 4) ∧ inR y rc
  · obtain ⟨hx, hy⟩ := hxy
    obtain ⟨e2, h2⟩ := inR_of hy
    generalize y.toNatClampNeg = r at e2 h2
    subst e2
    -- the key that is asked for
    have main : ∀ kx : Int32, (am_ex (d + 8) 105 [.ref 0, .int x, .int (nI r)] σ = am_bI (am_ex (d + 7) 149 [.ref 0, .int kx, .int (nI r)] σ) (fun r1 t1 => some (.inl (some (.int r1)), t1))) → (kx = -1 ∧ (∀ Z, Sm σ Z → Inv c kc md rc td lev rk Z → am_ex (d + 8) 213 [.ref 34, .int x, .int (nI r)] Z = am_go am_X0 (am_ex (d + 7)) M213 58 [.ref 34, .int x, .int (nI r), .null, .null] [.int (nI 0)] (th Z (nI 0))) ∨ ∃ k, 1 ≤ k ∧ k ≤ kc ∧ kx = nI k ∧ (∀ Z, Sm σ Z → Inv c kc md rc td lev rk Z → am_ex (d + 8) 213 [.ref 34, .int x, .int (nI r)] Z = am_go am_X0 (am_ex (d + 7)) M213 58 [.ref 34, .int x, .int (nI r), .null, .null] [.int (nI k)] (th Z (nI 0)))) → Fc (d + 8) 105 213 [.ref 0, .int x, .int (nI r)] [.ref 34, .int x, .int (nI r)] cdN (c + 1) σ := by
      intro kx hcl hmm
      obtain ⟨f, g, v, ho, hn⟩ := x149v (d + 1) h.base kx h2
      rcases hmm with ⟨ek, hm⟩ | ⟨k, k1, k2, ek, hm⟩
      · refine Fc.xs h hc (E := xNS) (S2_sm σ f g) rfl (by rw [hcl, hn (by rw [ek]; exact OpV_m hkl), bI_x]) (fun Z hs hI => ⟨nI 0, th (th Z (nI 0)) (nI 2), ?_, ((Sm.refl Z).th _).th _, rfl, th_v _ _⟩)
        rw [hm Z hs hI, q213_58, if_pos le00, q213_78, if_pos rfl, q213_90, th_w, th_v, if_neg le20]
      · have hT : ∀ Z : am_M, Sm Z (th Z (nI 0)) := fun Z => (Sm.refl Z).th _
        by_cases o : Op kc rc σ 0 md (fun t => t = r) k
        · obtain ⟨e3, e4⟩ := ho (by rw [ek]; exact (OpV_k hkl k1 k2).mpr o)
          refine Fc.r h hc (S2_sm σ f g) rfl (v := nI (4 - lev k)) (by rw [hcl, e3, bI_r, e4 k ek k1 k2]) (fun Z hs hI => ?_)
          obtain ⟨f', n', s', a, b⟩ := y213s (d + 4) (hI.base.sm (hT Z)) h2 (q := k) ⟨k1, k2⟩ x
          exact ⟨th (R3 (th Z (nI 0)) f' n' s') (nI 0), by rw [hm Z hs hI, a ((Op_sm (hs.trans (hT Z)).e k).mpr o)], ((hT Z).trans (R3_sm _ f' n' s')).th _, rfl, th_v _ _⟩
        · have e3 := hn (by rw [ek]; exact fun z => o ((OpV_k hkl k1 k2).mp z))
          refine Fc.xs h hc (E := xNS) (S2_sm σ f g) rfl (by rw [hcl, e3, bI_x]) (fun Z hs hI => ?_)
          obtain ⟨f', n', s', a, b⟩ := y213s (d + 4) (hI.base.sm (hT Z)) h2 (q := k) ⟨k1, k2⟩ x
          exact ⟨nI 0, th (R3 (th Z (nI 0)) f' n' s') (nI 2), by rw [hm Z hs hI, b (fun z => o ((Op_sm (hs.trans (hT Z)).e k).mp z))], ((hT Z).trans (R3_sm _ f' n' s')).th _, rfl, th_v _ _⟩
    rcases hx with hx | hx
    · subst hx
      obtain ⟨k0, a1, a2, a3, _⟩ := (h.core.node 0 (by omega)).resolve_left h.core.root
      refine main (nI k0) ?_ (Or.inr ⟨k0, a1, a2, rfl, fun Z hs hI => ?_⟩)
      · rw [e105, q105_0, if_pos rfl, q105_10, x58, bI_r, h.hr, x144 _ _ _ (by omega), if_pos (inR_n h2 (by omega)), bV_r, if_neg (by decide), x77, bI_r, rd_n (by omega) (by omega), a3, q105_43]
      · rw [e213, q213_0, if_pos rfl, q213_13, x184 _ _ hI.hr' hrb, bI_r, bz_t (inR_n h2 (by omega)), if_neg n10, q213_26, th_w, th_v, if_pos le00, if_pos rfl, if_pos (am_k (by omega) (by omega)), i_cl (by omega), th_ne _ _ (by decide), hI.e35, hs.i 16 (by decide) (by decide), a3]
    · obtain ⟨e1, h1⟩ := inR_of hx
      generalize x.toNatClampNeg = q at e1 h1
      subst e1
      have hcl : am_ex (d + 8) 105 [.ref 0, .int (nI q), .int (nI r)] σ = am_bI (am_ex (d + 7) 149 [.ref 0, .int (σ.1 11 q), .int (nI r)] σ) (fun r1 t1 => some (.inl (some (.int r1)), t1)) := by
        rw [e105, q105_0, if_neg (nI_nm (by omega)), x144 _ _ _ (by omega), if_pos (inR_n h1 (by omega)), bV_r, q105_10, x58, bI_r, h.hr, x144 _ _ _ (by omega), if_pos (inR_n h2 (by omega)), bV_r, if_pos (by rw [i_le, i_n (by omega), i_n (by omega)]; omega), if_pos (am_k (by omega) (by omega)), i_cl (by omega), q105_43]
      have hml : ∀ Z, Sm σ Z → Inv c kc md rc td lev rk Z → am_ex (d + 8) 213 [.ref 34, .int (nI q), .int (nI r)] Z = am_go am_X0 (am_ex (d + 7)) M213 58 [.ref 34, .int (nI q), .int (nI r), .null, .null] [.int (σ.1 39 q)] (th Z (nI 0)) := fun Z hs hI => by
        rw [e213, q213_0, if_neg (nI_nm (by omega)), x208, bI_r, bz_t (inR_n h1 (by omega)), if_neg n10, q213_13, x184 _ _ hI.hr' hrb, bI_r, bz_t (inR_n h2 (by omega)), if_neg n10, q213_26, th_w, th_v, if_pos le00, if_neg (nI_nm (by omega)), if_pos (am_k (by omega) (by omega)), i_cl (by omega), th_ne _ _ (by decide), hs.i 39 (by decide) (by decide)]
      rcases h.kep q h1 with ⟨b1, b2⟩ | ⟨k, p, b1, b2, bp, b3, b4, b5, b6⟩
      · exact main _ hcl (Or.inl ⟨b2, fun Z hs hI => by rw [hml Z hs hI, b1]⟩)
      · exact main _ hcl (Or.inr ⟨k, b1, b2, b4, fun Z hs hI => by rw [hml Z hs hI, b3]⟩)
  · refine Fc.x h hc (E := xIO) (Sm.refl σ) rfl ?_ (fun Z hs hI => ⟨nI 0, ?_⟩)
    · rw [e105, q105_0]
      have h10 : ¬ inR y rc → am_go am_X0 (am_ex (d + 7)) M105 10 [.ref 0, .int x, .int y] [] σ = rX xIO (am_tick σ) := fun hy => by
        rw [q105_10, x58, bI_r, h.hr, x144 _ _ _ (by omega), if_neg hy, bV_x]
      by_cases hx : x = -1
      · rw [if_pos hx, h10 (fun z => hxy ⟨Or.inl hx, z⟩)]
      · rw [if_neg hx, x144 _ _ _ (by omega)]
        by_cases hx4 : inR x 4
        · rw [if_pos hx4, bV_r, h10 (fun z => hxy ⟨Or.inr hx4, z⟩)]
        · rw [if_neg hx4, bV_x]
    · have h26 : am_go am_X0 (am_ex (d + 7)) M213 26 [.ref 34, .int x, .int y, .null, .null] [.int (nI 1), .ref 34] Z = rI (nI 0) (th Z (nI 1)) := by
        rw [q213_26, th_w, th_v, if_neg le10]
      have h13 : ¬ inR y rc → am_go am_X0 (am_ex (d + 7)) M213 13 [.ref 34, .int x, .int y, .null, .null] [.ref 34] Z = rI (nI 0) (th Z (nI 1)) := fun hy => by
        rw [q213_13, x184 _ _ hI.hr' hrb, bI_r, bz_f hy, if_pos rfl, q213_25, h26]
      rw [e213, q213_0]
      by_cases hx : x = -1
      · rw [if_pos hx, h13 (fun z => hxy ⟨Or.inl hx, z⟩)]
        rfl
      · rw [if_neg hx, x208, bI_r]
        by_cases hx4 : inR x 4
        · rw [bz_t hx4, if_neg n10, h13 (fun z => hxy ⟨Or.inr hx4, z⟩)]
          rfl
        · rw [bz_f hx4, if_pos rfl, q213_25, h26]
          rfl
end OST
