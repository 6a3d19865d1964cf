/-! forgetting: new keys, and their children wrapped -/
section ANW
/-- the class's plan stays -/
abbrev XK (X X' : am_M) : Prop := X'.1 7 = X.1 7 ∧ X'.1 25 = X.1 25 ∧ X'.1 29 = X.1 29 ∧ X'.1 30 = X.1 30
abbrev YK (Y Y' : am_M) : Prop := Y'.1 42 = Y.1 42 ∧ Y'.1 43 = Y.1 43
theorem XK.refl (X : am_M) : XK X X := ⟨rfl, rfl, rfl, rfl⟩
theorem YK.refl (Y : am_M) : YK Y Y := ⟨rfl, rfl⟩
theorem XK.trans {X Y Z : am_M} (h1 : XK X Y) (h2 : XK Y Z) : XK X Z := ⟨h2.1.trans h1.1, h2.2.1.trans h1.2.1, h2.2.2.1.trans h1.2.2.1, h2.2.2.2.trans h1.2.2.2⟩
theorem YK.trans {X Y Z : am_M} (h1 : YK X Y) (h2 : YK Y Z) : YK X Z := ⟨h2.1.trans h1.1, h2.2.trans h1.2⟩
theorem wrE_o (X : am_M) (t s : Nat) (a b e : Int32) {x : Nat} (h : x ≠ 21 ∧ x ≠ 22 ∧ x ≠ 23 ∧ x ≠ 24) : (wrE X t s a b e).1 x = X.1 x := by
  simp only [wrE, s_rd]
  rw [if_neg h.1, if_neg h.2.2.2, if_neg h.2.2.1, if_neg h.2.1]
theorem wrM_o (X : am_M) (t s : Nat) (a b e : Int32) (w : Int64) {x : Nat} (h : x ≠ 45 ∧ x ≠ 46 ∧ x ≠ 47 ∧ x ≠ 48) : (wrM X t s a b e w).1 x = X.1 x := by
  simp only [wrM, s_rd, sJ_I]
  rw [if_neg h.1, if_neg h.2.2.2, if_neg h.2.2.1, if_neg h.2.1]
theorem XK.w {X X' : am_M} (h : XK X X') (t s : Nat) (a b e : Int32) : XK X (wrE X' t s a b e) :=
  h.trans ⟨wrE_o _ _ _ _ _ _ (by decide), wrE_o _ _ _ _ _ _ (by decide), wrE_o _ _ _ _ _ _ (by decide), wrE_o _ _ _ _ _ _ (by decide)⟩
theorem YK.w {X X' : am_M} (h : YK X X') (t s : Nat) (a b e : Int32) (w : Int64) : YK X (wrM X' t s a b e w) :=
  h.trans ⟨wrM_o _ _ _ _ _ _ _ (by decide), wrM_o _ _ _ _ _ _ _ (by decide)⟩
theorem XK.k {X X' : am_M} (h : XK X X') (kc p : Nat) : XK X (rnw X' kc p) :=
  h.trans ⟨rnw_o _ _ _ (by decide), rnw_o _ _ _ (by decide), rnw_o _ _ _ (by decide), rnw_o _ _ _ (by decide)⟩
theorem kyM_o (X : am_M) (kc p : Nat) {x : Nat} (h : x ≠ 34 ∧ x ≠ 35) : (kyM X kc p).1 x = X.1 x := by
  unfold kyM; rw [s_ne _ _ h.2, s_ne _ _ h.1]
theorem YK.k {X X' : am_M} (h : YK X X') (kc p : Nat) : YK X (kyM X' kc p) :=
  h.trans ⟨kyM_o _ _ _ (by decide), kyM_o _ _ _ (by decide)⟩
theorem cntC_s (P : Nat → Prop) (n : Nat) : (P n → cntC P 0 (n + 1) = cntC P 0 n + 1) ∧ (¬ P n → cntC P 0 (n + 1) = cntC P 0 n) := by
  unfold cntC
  have := @cnt_s P (fun k => Classical.propDecidable (P k)) n 0
  rw [Nat.zero_add] at this
  constructor
  · intro e; rw [this, @if_pos _ (Classical.propDecidable _) e]
  · intro e; rw [this, @if_neg _ (Classical.propDecidable _) e]; rfl
theorem cntC_le (P : Nat → Prop) (n : Nat) : cntC P 0 n ≤ n := @cnt_le P (fun k => Classical.propDecidable (P k)) n 0
variable (d : Nat) {c kc md rc td : Nat} {lev rk : Nat → Nat}
/-- all children of a place are wrapped anew; the plans stay -/
theorem wchS {J : am_M} {t s : Nat} (h : JB c kc md rc td lev rk t s J) {p : Nat} (hp : p < 21) {ch : Nat} (hch : ch = cnt (fun i => ¬ J.1 16 (4 * p + 1 + i) = nI 0) 0 4) (hs : s + ch ≤ 150) : ∃ J', JB (c - ch) kc md rc td lev rk t (s + ch) J' ∧ FW J J' ∧ (∀ X, EqC J X → ∃ X', am_ex (d + 6) 152 [.ref 0, .int (nI p)] X = rV X' ∧ EqC J' X' ∧ EqM X X' ∧ XK X X') ∧ (∀ Y, EqM J Y → ∃ Y', am_ex (d + 6) 232 [.ref 34, .int (nI p)] Y = rV Y' ∧ EqM J' Y' ∧ Kp Y Y' ∧ YK Y Y') := by
  have key : ∀ i, i ≤ 4 → ∃ J', JB (c - cnt (fun i => ¬ J.1 16 (4 * p + 1 + i) = nI 0) 0 i) kc md rc td lev rk t (s + cnt (fun i => ¬ J.1 16 (4 * p + 1 + i) = nI 0) 0 i) J' ∧ FW J J' ∧ (∀ X, EqC J X → ∃ X', am_go am_X0 (am_ex (d + 5)) M152 7 [.ref 0, .int (nI p), .int (nI (4 * p + 1)), .int (nI (4 * p + 1))] [] X = am_go am_X0 (am_ex (d + 5)) M152 7 [.ref 0, .int (nI p), .int (nI (4 * p + 1)), .int (nI (4 * p + 1 + i))] [] X' ∧ EqC J' X' ∧ EqM X X' ∧ XK X X') ∧ (∀ Y, EqM J Y → ∃ Y', am_go am_X0 (am_ex (d + 5)) M232 6 [.ref 34, .int (nI p), .int (nI (4 * p + 1))] [] Y = am_go am_X0 (am_ex (d + 5)) M232 6 [.ref 34, .int (nI p), .int (nI (4 * p + 1 + i))] [] Y' ∧ EqM J' Y' ∧ Kp Y Y' ∧ YK Y Y') := by
    intro i
    induction i with
    | zero =>
      intro _
      exact ⟨J, by rw [cnt, Nat.sub_zero, Nat.add_zero]; exact h, FW.refl J, fun X hX => ⟨X, rfl, hX, EqM.refl X, XK.refl X⟩, fun Y hY => ⟨Y, rfl, hY, Kp.refl Y, YK.refl Y⟩⟩
    | succ i ih =>
      intro hi
      obtain ⟨J', hB, hF, hX, hY⟩ := ih (by omega)
      have e16 : J'.1 16 = J.1 16 := hF.i 16 (by decide)
      have hpq : par (4 * p + 1 + i) = p := by have := par_ch (p := p) (c := 1 + i) (by omega) (by omega); rw [← Nat.add_assoc] at this; exact this
      rw [cnt_s, Nat.zero_add]
      have hmono : cnt (fun i => ¬ J.1 16 (4 * p + 1 + i) = nI 0) 0 i + (if ¬ J.1 16 (4 * p + 1 + i) = nI 0 then 1 else 0) ≤ ch := by
        have h1 := cnt_s (fun i => ¬ J.1 16 (4 * p + 1 + i) = nI 0) i 0
        rw [Nat.zero_add] at h1
        rw [← h1, hch]
        have : ∀ a b, a ≤ b → cnt (fun i => ¬ J.1 16 (4 * p + 1 + i) = nI 0) 0 a ≤ cnt (fun i => ¬ J.1 16 (4 * p + 1 + i) = nI 0) 0 b := by
          intro a b hab
          induction b with
          | zero => rw [show a = 0 by omega]; exact Nat.le_refl _
          | succ b ihb =>
            by_cases e : a = b + 1
            · rw [e]; exact Nat.le_refl _
            · have := ihb (by omega)
              rw [cnt_s]; omega
        exact this (i + 1) 4 hi
      by_cases hn : J.1 16 (4 * p + 1 + i) = nI 0
      · rw [if_neg (fun z => z hn), Nat.add_zero]
        refine ⟨J', hB, hF, fun X eX => ?_, fun Y eY => ?_⟩
        · obtain ⟨X', k1, k2, k3⟩ := hX X eX
          refine ⟨X', ?_, k2, k3⟩
          rw [k1, q152_7, nI_add, if_neg (by rw [i_le, i_n (by omega), i_n (by omega)]; omega), x78, bI_r]
          simp only [bz_0]
          rw [rd_n (by omega) (by omega), k2.i 16 (by decide) (by decide), e16, if_pos (fun z => z hn), show nI (4 * p + 1 + i) + nI 1 = nI (4 * p + 1 + (i + 1)) from nI_1 _]
        · obtain ⟨Y', k1, k2, k3⟩ := hY Y eY
          refine ⟨Y', ?_, k2, k3⟩
          rw [k1, q232_6, pk_mul, nI_add, if_neg (by rw [i_lt, i_n (by omega), i_n (by omega)]; omega), if_pos (am_k (by omega) (by omega)), i_cl (by omega), k2.i 35 (by decide) (by decide) (by decide), hB.v.e35, e16, if_pos hn, show nI (4 * p + 1 + i) + nI 1 = nI (4 * p + 1 + (i + 1)) from nI_1 _]
      · rw [if_pos hn] at hmono ⊢
        have hn' : ¬ J'.1 16 (4 * p + 1 + i) = nI 0 := by rw [e16]; exact hn
        have hs' : s + cnt (fun i => ¬ J.1 16 (4 * p + 1 + i) = nI 0) 0 i < 150 := by omega
        have hok := wrap_ok hB.v (q := 4 * p + 1 + i) (by omega) (by omega) hn'
        rw [hpq] at hok
        refine ⟨JW J' t (s + cnt (fun i => ¬ J.1 16 (4 * p + 1 + i) = nI 0) 0 i) (nI 0) (J'.1 16 (4 * p + 1 + i)) (J'.1 16 p) (wrp (J'.1 1 1) (J'.1 16 (4 * p + 1 + i)) (J'.1 16 p)).toInt64, ?_, hF.trans (FW.jw _ _ _ _ _ _ _), fun X eX => ?_, fun Y eY => ?_⟩
        · have := hB.jw hs' hok
          rw [Nat.sub_sub, Nat.add_assoc] at this
          exact this
        · obtain ⟨X', k1, k2, k3⟩ := hX X eX
          have hx := x151 d hB.v hB.w hs' k2 (p := 4 * p + 1 + i) (by omega) (by omega)
          rw [hpq] at hx
          refine ⟨_, ?_, JW_C k2 _ _ _ _ _ _, wrE_M k3.1 _ _ _ _ _, k3.2.w _ _ _ _ _⟩
          rw [k1, q152_7, nI_add, if_neg (by rw [i_le, i_n (by omega), i_n (by omega)]; omega), x78, bI_r]
          simp only [bz_0]
          rw [rd_n (by omega) (by omega), k2.i 16 (by decide) (by decide), if_neg (fun z => z hn'), hx, bV_r, show nI (4 * p + 1 + i) + nI 1 = nI (4 * p + 1 + (i + 1)) from nI_1 _]
        · obtain ⟨Y', k1, k2, k3⟩ := hY Y eY
          refine ⟨_, ?_, JW_M k2 _ _ _ _ _ _, k3.1.w _ _ _ _ _ _, k3.2.w _ _ _ _ _ _⟩
          rw [k1, q232_6, pk_mul, nI_add, if_neg (by rw [i_lt, i_n (by omega), i_n (by omega)]; omega), if_pos (am_k (by omega) (by omega)), i_cl (by omega), k2.i 35 (by decide) (by decide) (by decide), hB.v.e35, if_neg hn', if_pos (am_k (by omega) (by omega)), if_pos (am_k (by omega) (by omega)), i_cl (by omega), y189j (d + 2) hB.v hB.w hs' k2, bV_r, show nI (4 * p + 1 + i) + nI 1 = nI (4 * p + 1 + (i + 1)) from nI_1 _]
  obtain ⟨J', hB, hF, hX, hY⟩ := key 4 (Nat.le_refl _)
  rw [← hch] at hB
  refine ⟨J', hB, hF, fun X eX => ?_, fun Y eY => ?_⟩
  · obtain ⟨X', k1, k2, k3⟩ := hX X eX
    refine ⟨X', ?_, k2, k3⟩
    rw [e152, q152_0, x167, bI_r, k1, q152_7, nI_add, if_pos (by rw [i_le]; exact Int.le_refl _)]
  · obtain ⟨Y', k1, k2, k3⟩ := hY Y eY
    refine ⟨Y', ?_, k2, k3⟩
    rw [e232, q232_0, pk_mul, nI_add, k1, q232_6, pk_mul, nI_add, if_pos (by rw [i_lt, i_n (by omega), i_n (by omega)]; omega)]
/-- what the class's plan says of a place -/
abbrev pX (X : am_M) (P : Nat → Prop) : Prop := ∀ p, p < 21 → (X.1 7 4 = nI 0 ∧ ¬ X.1 30 p = nI 0 ∧ ¬ X.1 29 p = nI 0 ↔ P p)
abbrev pY (Y : am_M) (P : Nat → Prop) : Prop := ∀ p, p < 21 → (¬ Y.1 42 p = nI 0 ↔ P p)
theorem pX.k {X X' : am_M} {P : Nat → Prop} (h : pX X P) (e : XK X X') : pX X' P := fun p hp => by rw [e.1, e.2.2.1, e.2.2.2]; exact h p hp
theorem pY.k {Y Y' : am_M} {P : Nat → Prop} (h : pY Y P) (e : YK Y Y') : pY Y' P := fun p hp => by rw [e.1]; exact h p hp
/-- new keys for the places of P below i -/
theorem rnwL (d2 : Nat) {J0 : am_M} (h : Inv0 c kc md rc td lev rk J0) {P : Nat → Prop} (hP : ∀ p, p < 21 → P p → ¬ J0.1 16 p = nI 0) (hc : c + 21 ≤ 600) : ∀ i, i ≤ 21 → ∃ J lev', Inv0 (c + cntC P 0 i) (kc + cntC P 0 i) md rc td lev' rk J ∧ (∀ a, a ≠ 1 → a ≠ 13 → a ≠ 16 → a ≠ 34 → a ≠ 35 → J.1 a = J0.1 a) ∧ J.2 = J0.2 ∧ (∀ p, ¬ (p < i ∧ P p) → J.1 16 p = J0.1 16 p) ∧ (∀ p, p < i → P p → ¬ J.1 16 p = nI 0) ∧ (∀ X (v1 v2 : Int32), EqC J0 X → pX X P → ∃ X', am_go am_X0 (am_ex (d + 3)) M117 65 [.ref 0, .int v1, .int v2, .int (nI 0)] [] X = am_go am_X0 (am_ex (d + 3)) M117 65 [.ref 0, .int v1, .int v2, .int (nI i)] [] X' ∧ EqC J X' ∧ EqM X X' ∧ XK X X') ∧ (∀ Y (v1 v2 v3 : Int32), EqM J0 Y → pY Y P → ∃ Y', am_go am_X0 (am_ex (d2 + 1)) M230 187 [.ref 34, .int v1, .int v2, .int v3, .int (nI 0), .null] [] Y = am_go am_X0 (am_ex (d2 + 1)) M230 187 [.ref 34, .int v1, .int v2, .int v3, .int (nI i), .null] [] Y' ∧ EqM J Y' ∧ Kp Y Y' ∧ YK Y Y') := by
  intro i
  induction i with
  | zero =>
    intro _
    exact ⟨J0, lev, h, fun _ _ _ _ _ _ => rfl, rfl, fun _ _ => rfl, fun p hp => by omega, fun X _ _ e _ => ⟨X, rfl, e, EqM.refl X, XK.refl X⟩, fun Y _ _ _ e _ => ⟨Y, rfl, e, Kp.refl Y, YK.refl Y⟩⟩
  | succ i ih =>
    intro hi
    obtain ⟨J, lev', hI, ho, hj, hn1, hn2, hX, hY⟩ := ih (by omega)
    have hle := cntC_le P i
    have hkl := hI.kl
    have key : ∀ (v : Int32), v = nI i → True := fun _ _ => trivial
    by_cases e : P i
    · rw [(cntC_s P i).1 e]
      have hne : ¬ J.1 16 i = nI 0 := by rw [hn1 i (fun z => by omega)]; exact hP i (by omega) e
      have hk := hI.key (p := i) (by omega) (by
        by_cases z : i = 0
        · exact Or.inl z
        · exact Or.inr (hI.core.pars i (by omega) (by omega) hne)) (by omega)
      have hnk : ¬ nI (kc + cntC P 0 i + 1) = nI 0 := fun z => by have := nI_inj (by omega) (by omega) z; omega
      refine ⟨JK J (kc + cntC P 0 i) i, _, hk, fun a a1 a2 a3 a4 a5 => ?_, ?_, fun p hp => ?_, fun p hp e2 => ?_, fun X v1 v2 eX pX0 => ?_, fun Y v1 v2 v3 eY pY0 => ?_⟩
      · unfold JK; rw [kyM_o _ _ _ ⟨a4, a5⟩, rnw_o _ _ _ ⟨a3, a2, a1⟩]; exact ho a a1 a2 a3 a4 a5
      · unfold JK kyM; exact (rnw_J _ _ _).trans hj
      · rw [JK_16, upd_n (fun z => hp (by rw [z]; exact ⟨by omega, e⟩))]; exact hn1 p (fun z => hp ⟨by omega, z.2⟩)
      · rw [JK_16]
        by_cases z : p = i
        · rw [z, upd_e]; exact hnk
        · rw [upd_n z]; exact hn2 p (by omega) e2
      · obtain ⟨X', k1, k2, k3, k4⟩ := hX X v1 v2 eX pX0
        have hpx := ((pX0.k k4) i (by omega)).mpr e
        refine ⟨rnw X' (kc + cntC P 0 i) i, ?_, JK_C k2 _ _, rnw_M k3 _ _, k4.k _ _⟩
        rw [k1, q117_65, if_neg (by rw [i_le, i_n (by omega), i_n (by omega)]; omega), x16 (d + 1) X' (by omega), bI_r, bz_t hpx, if_neg n10, x91 d X' (by rw [k2.i 1 (by decide) (by decide)]; exact hI.hk) (by omega) (by omega), bV_r, show nI i + nI 1 = nI (i + 1) from nI_1 _]
      · obtain ⟨Y', k1, k2, k3, k4⟩ := hY Y v1 v2 v3 eY pY0
        have hpy := ((pY0.k k4) i (by omega)).mpr e
        refine ⟨kyM Y' (kc + cntC P 0 i) i, ?_, JK_M k2 _ _, k3.k _ _, k4.k _ _⟩
        rw [k1, q230_187, if_neg (by rw [i_le, i_n (by omega), i_n (by omega)]; omega), if_pos (am_k (by omega) (by omega)), i_cl (by omega), if_neg hpy, y177 _ Y' (by rw [k2.f 21 (by decide) (by decide)]; exact hI.hk'), bI_r, if_pos (am_k (by omega) (by omega)), show nI i + nI 1 = nI (i + 1) from nI_1 _]
        unfold kyM
        rw [am_wI_s, s_ne _ _ (show (35 : Nat) ≠ 34 by decide)]
    · rw [(cntC_s P i).2 e]
      refine ⟨J, lev', hI, ho, hj, fun p hp => hn1 p (fun z => hp ⟨by omega, z.2⟩), fun p hp e2 => hn2 p (by
        by_cases z : p = i
        · subst z; exact absurd e2 e
        · omega) e2, fun X v1 v2 eX pX0 => ?_, fun Y v1 v2 v3 eY pY0 => ?_⟩
      · obtain ⟨X', k1, k2, k3, k4⟩ := hX X v1 v2 eX pX0
        refine ⟨X', ?_, k2, k3, k4⟩
        rw [k1, q117_65, if_neg (by rw [i_le, i_n (by omega), i_n (by omega)]; omega), x16 (d + 1) X' (by omega), bI_r, bz_f (fun z => e (((pX0.k k4) i (by omega)).mp z)), if_pos rfl, show nI i + nI 1 = nI (i + 1) from nI_1 _]
      · obtain ⟨Y', k1, k2, k3, k4⟩ := hY Y v1 v2 v3 eY pY0
        refine ⟨Y', ?_, k2, k3, k4⟩
        rw [k1, q230_187, if_neg (by rw [i_le, i_n (by omega), i_n (by omega)]; omega), if_pos (am_k (by omega) (by omega)), i_cl (by omega), if_pos (Classical.not_not.mp (fun z => e (((pY0.k k4) i (by omega)).mp z))), show nI i + nI 1 = nI (i + 1) from nI_1 _]
theorem cstS_ge (kc rc md : Nat) (σ : am_M) (u : Nat → Int32) (i x : Nat) : x ≤ cstS kc rc md σ u i x := by
  by_cases e : rky kc rc md σ u i
  · rw [cstS_t e]; omega
  · rw [cstS_f e]; omega
theorem cst_mono (kc rc md : Nat) (σ : am_M) (u : Nat → Int32) : ∀ n i, fld (cstS kc rc md σ u) 0 i 0 ≤ fld (cstS kc rc md σ u) 0 (i + n) 0 := by
  intro n
  induction n with
  | zero => intro i; exact Nat.le_refl _
  | succ n ih =>
    intro i
    rw [show i + (n + 1) = (i + n) + 1 by omega, fld_s]
    exact Nat.le_trans (ih i) (cstS_ge _ _ _ _ _ _ _)
/-- the children of the places with new keys, below i, are wrapped -/
theorem wrpL {J1 σ : am_M} {u : Nat → Int32} {kc0 : Nat} (h : Inv0 c kc md rc td lev rk J1) {t s : Nat} (hn : ∀ p, p < 21 → rky kc0 rc md σ u p → chN (J1.1 16) p = nC σ u p) (hw : cst kc0 rc md σ u = 0 ∨ (Wr md t s J1 ∧ s + cst kc0 rc md σ u ≤ 150)) : ∀ i, i ≤ 21 → ∃ J, Inv0 (c - fld (cstS kc0 rc md σ u) 0 i 0) kc md rc td lev rk J ∧ (cst kc0 rc md σ u = 0 ∨ Wr md t (s + fld (cstS kc0 rc md σ u) 0 i 0) J) ∧ FW J1 J ∧ (∀ X (v1 v2 : Int32), EqC J1 X → pX X (rky kc0 rc md σ u) → ∃ X', am_go am_X0 (am_ex (d + 6)) M117 98 [.ref 0, .int v1, .int v2, .int (nI 0)] [] X = am_go am_X0 (am_ex (d + 6)) M117 98 [.ref 0, .int v1, .int v2, .int (nI i)] [] X' ∧ EqC J X' ∧ EqM X X' ∧ XK X X') ∧ (∀ Y (v1 v2 v3 : Int32), EqM J1 Y → pY Y (rky kc0 rc md σ u) → ∃ Y', am_go am_X0 (am_ex (d + 6)) M230 224 [.ref 34, .int v1, .int v2, .int v3, .int (nI 0), .null] [] Y = am_go am_X0 (am_ex (d + 6)) M230 224 [.ref 34, .int v1, .int v2, .int v3, .int (nI i), .null] [] Y' ∧ EqM J Y' ∧ Kp Y Y' ∧ YK Y Y') := by
  intro i
  induction i with
  | zero =>
    intro _
    exact ⟨J1, h, hw.imp id (fun z => z.1), FW.refl J1, fun X _ _ e _ => ⟨X, rfl, e, EqM.refl X, XK.refl X⟩, fun Y _ _ _ e _ => ⟨Y, rfl, e, Kp.refl Y, YK.refl Y⟩⟩
  | succ i ih =>
    intro hi
    obtain ⟨J, hI, hwr, hF, hX, hY⟩ := ih (by omega)
    have hm : fld (cstS kc0 rc md σ u) 0 (i + 1) 0 ≤ cst kc0 rc md σ u := by
      have := cst_mono kc0 rc md σ u (20 - i) (i + 1)
      rw [show i + 1 + (20 - i) = 21 by omega] at this
      exact this
    rw [fld_s, Nat.zero_add] at hm ⊢
    have j16 : J.1 16 = J1.1 16 := hF.i 16 (by decide)
    by_cases e : rky kc0 rc md σ u i
    · rw [cstS_t e] at hm ⊢
      have hch := hn i (by omega) e
      by_cases h0 : nC σ u i = 0
      · rw [h0, Nat.add_zero]
        refine ⟨J, hI, hwr, hF, fun X v1 v2 eX pX0 => ?_, fun Y v1 v2 v3 eY pY0 => ?_⟩
        · obtain ⟨X', k1, k2, k3, k4⟩ := hX X v1 v2 eX pX0
          refine ⟨X', ?_, k2, k3, k4⟩
          rw [k1, q117_98, if_neg (by rw [i_le, i_n (by omega), i_n (by omega)]; omega), x16 (d + 4) X' (by omega), bI_r, bz_t (((pX0.k k4) i (by omega)).mpr e), if_neg n10, (wch0 (d + 1) X' (by omega)).1 (by rw [k2.i 16 (by decide) (by decide), j16, hch]; exact h0), bV_r, show nI i + nI 1 = nI (i + 1) from nI_1 _]
        · obtain ⟨Y', k1, k2, k3, k4⟩ := hY Y v1 v2 v3 eY pY0
          refine ⟨Y', ?_, k2, k3, k4⟩
          rw [k1, q230_224, if_neg (by rw [i_le, i_n (by omega), i_n (by omega)]; omega), if_pos (am_k (by omega) (by omega)), i_cl (by omega), if_neg (((pY0.k k4) i (by omega)).mpr e), (wch0 (d + 5) Y' (by omega)).2 (by rw [k2.i 35 (by decide) (by decide) (by decide), hI.e35, j16, hch]; exact h0), bV_r, show nI i + nI 1 = nI (i + 1) from nI_1 _]
      · have hw1 := hwr.resolve_left (by omega)
        have hw2 := (hw.resolve_left (by omega)).2
        obtain ⟨J', hB, hF2, hX2, hY2⟩ := wchS d (JB.mk hI hw1) (p := i) (by omega) (ch := nC σ u i) (by rw [← hch, ← j16]) (by omega)
        have hBv := hB.v
        have hBw := hB.w
        rw [Nat.sub_sub] at hBv
        rw [Nat.add_assoc] at hBw
        refine ⟨J', hBv, Or.inr hBw, hF.trans hF2, fun X v1 v2 eX pX0 => ?_, fun Y v1 v2 v3 eY pY0 => ?_⟩
        · obtain ⟨X', k1, k2, k3, k4⟩ := hX X v1 v2 eX pX0
          obtain ⟨X2, m1, m2, m3, m4⟩ := hX2 X' k2
          refine ⟨X2, ?_, m2, k3.trans m3, k4.trans m4⟩
          rw [k1, q117_98, if_neg (by rw [i_le, i_n (by omega), i_n (by omega)]; omega), x16 (d + 4) X' (by omega), bI_r, bz_t (((pX0.k k4) i (by omega)).mpr e), if_neg n10, m1, bV_r, show nI i + nI 1 = nI (i + 1) from nI_1 _]
        · obtain ⟨Y', k1, k2, k3, k4⟩ := hY Y v1 v2 v3 eY pY0
          obtain ⟨Y2, m1, m2, m3, m4⟩ := hY2 Y' k2
          refine ⟨Y2, ?_, m2, k3.trans m3, k4.trans m4⟩
          rw [k1, q230_224, if_neg (by rw [i_le, i_n (by omega), i_n (by omega)]; omega), if_pos (am_k (by omega) (by omega)), i_cl (by omega), if_neg (((pY0.k k4) i (by omega)).mpr e), m1, bV_r, show nI i + nI 1 = nI (i + 1) from nI_1 _]
    · rw [cstS_f e] at hm ⊢
      refine ⟨J, hI, hwr, hF, fun X v1 v2 eX pX0 => ?_, fun Y v1 v2 v3 eY pY0 => ?_⟩
      · obtain ⟨X', k1, k2, k3, k4⟩ := hX X v1 v2 eX pX0
        refine ⟨X', ?_, k2, k3, k4⟩
        rw [k1, q117_98, if_neg (by rw [i_le, i_n (by omega), i_n (by omega)]; omega), x16 (d + 4) X' (by omega), bI_r, bz_f (fun z => e (((pX0.k k4) i (by omega)).mp z)), if_pos rfl, show nI i + nI 1 = nI (i + 1) from nI_1 _]
      · obtain ⟨Y', k1, k2, k3, k4⟩ := hY Y v1 v2 v3 eY pY0
        refine ⟨Y', ?_, k2, k3, k4⟩
        rw [k1, q230_224, if_neg (by rw [i_le, i_n (by omega), i_n (by omega)]; omega), if_pos (am_k (by omega) (by omega)), i_cl (by omega), if_pos (Classical.not_not.mp (fun z => e (((pY0.k k4) i (by omega)).mp z))), show nI i + nI 1 = nI (i + 1) from nI_1 _]
/-- as many new keys as entries, and one -/
theorem rky_n {σ : am_M} {u : Nat → Int32} : ∀ i, i ≤ 21 → cntC (rky kc rc md σ u) 0 i ≤ fld (cstS kc rc md σ u) 0 i 0 + (if i = 0 then 0 else 1) := by
  intro i
  induction i with
  | zero => intro _; exact Nat.le_refl _
  | succ i ih =>
    intro hi
    have := ih (by omega)
    rw [fld_s, Nat.zero_add, if_neg (Nat.succ_ne_zero i)]
    by_cases e : rky kc rc md σ u i
    · rw [(cntC_s _ i).1 e, cstS_t e]
      by_cases h0 : i = 0
      · rw [if_pos h0] at this; omega
      · rw [if_neg h0] at this
        obtain ⟨j, hj, es⟩ := (sty_in _ _ (by omega) (by omega)).mp e.2
        have h1 : ¬ nC σ u i = 0 := fun z => by
          unfold nC cntC at z
          exact @cnt_0 _ (fun k => Classical.propDecidable _) 4 0 z j (by omega) (by omega) es
        omega
    · rw [(cntC_s _ i).2 e, cstS_f e]
      split at this <;> omega
end ANW
