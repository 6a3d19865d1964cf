/-! custodian: what a kept key opens -/
section CUS
variable (d : Nat) {c kc md rc td : Nat} {lev rk : Nat → Nat} {σ : am_M} {f : Nat → Int32} {n : Nat}
/-- an entry around record r by a key of the set -/
abbrev qE (σ : am_M) (f : Nat → Int32) (n r a : Nat) : Prop := σ.1 22 a = nI 1 ∧ σ.1 23 a = nI r ∧ ext (fun i => f i = σ.1 24 a) 0 n = true
abbrev qM1 (σ : am_M) (f : Nat → Int32) (n r m : Nat) : Prop := ext (fun i => qE σ f n r (m * 150 + i)) 0 (zn (σ.1 21) m) = true
theorem qM_iff (h : Inv0 c kc md rc td lev rk σ) {r lo hi : Nat} (hr : r < rc) (hh : hi ≤ md) : (∃ m, lo ≤ m ∧ m < hi ∧ qM1 σ f n r m) ↔ ∃ k, mS f n k ∧ RcE kc rc σ lo hi r k := by
  constructor
  · rintro ⟨m, h1, h2, h3⟩
    obtain ⟨i, _, hi, q1, q2, q3⟩ := (ext_iff _ _ _).mp h3
    rcases h.core.ent m (by omega) i (by omega) with ⟨a1, _⟩ | ⟨a1, r', y, a2, a3, a4, a5, a6, a7, a8⟩
    · rw [a1] at q1; exact absurd q1.symm n10
    · rw [a6] at q3
      exact ⟨y, q3, m, i, h1, h2, by omega, q1, q2, a6, hr, a3, a4⟩
  · rintro ⟨k, hk, m, i, h1, h2, h3, h4, h5, h6, h7, h8, h9⟩
    refine ⟨m, h1, h2, (ext_iff _ _ _).mpr ⟨i, by omega, by omega, h4, h5, ?_⟩⟩
    rw [h6]; exact hk
theorem y241 (h : Inv0 c kc md rc td lev rk σ) {r : Nat} (hn : n ≤ 2500) : am_ex (d + 2) 241 [.ref 34, .int (nI r)] (R2 σ f n) = rI (bz (ext (qM1 σ f n r) 0 md = true)) (R2 σ f n) := by
  have hmb := h.core.mdb
  have hany : ∀ (m : Nat) (u : Value), (!(u.category == 2)) = true → am_go am_X0 (am_ex (d + 1)) M241 2 [.ref 34, .int (nI r), .int (nI m), u] [] (R2 σ f n) = am_go am_X0 (am_ex (d + 1)) M241 2 [.ref 34, .int (nI r), .int (nI m), .null] [] (R2 σ f n) := fun m u hu => by
    rw [q241_2 _ _ _ _ hu, q241_2 (u3 := .null) _ _ _ _ rfl]
  have inner : ∀ m, m < md → am_go am_X0 (am_ex (d + 1)) M241 16 [.ref 34, .int (nI r), .int (nI m), .int (nI (m * 150))] [] (R2 σ f n) = if qM1 σ f n r m then rI (nI 1) (R2 σ f n) else am_go am_X0 (am_ex (d + 1)) M241 2 [.ref 34, .int (nI r), .int (nI (m + 1)), .null] [] (R2 σ f n) := by
    intro m hm
    obtain ⟨hz1, hz2, _⟩ := h.core.med m hm
    refine lp_ext (fun i => qE σ f n r (m * 150 + i)) 0 (zn (σ.1 21) m) (by omega) (fun i => am_go am_X0 (am_ex (d + 1)) M241 16 [.ref 34, .int (nI r), .int (nI m), .int (nI (m * 150 + i))] [] (R2 σ f n)) (rI (nI 1) (R2 σ f n)) (am_go am_X0 (am_ex (d + 1)) M241 2 [.ref 34, .int (nI r), .int (nI (m + 1)), .null] [] (R2 σ f n)) ?_ ?_
    · show am_go am_X0 (am_ex (d + 1)) M241 16 [.ref 34, .int (nI r), .int (nI m), .int (nI (m * 150 + zn (σ.1 21) m))] [] (R2 σ f n) = _
      rw [q241_16, if_pos (am_k (by omega) (by omega)), i_cl (by omega), if_pos (am_k (by omega) (by omega)), R2_o _ _ _ (show (45 : Nat) ≠ 55 by decide) (by decide), h.s45 hm, mx150, nI_add (m * 150) (zn (σ.1 21) m), if_pos (show nI (m * 150 + zn (σ.1 21) m) ≤ nI (m * 150 + zn (σ.1 21) m) by rw [i_le]; exact Int.le_refl _), show nI m + nI 1 = nI (m + 1) from nI_1 _, ite_self, hany _ _ rfl]
    · intro i _ hi
      have ha : m * 150 + i < 1200 := by omega
      show am_go am_X0 (am_ex (d + 1)) M241 16 [.ref 34, .int (nI r), .int (nI m), .int (nI (m * 150 + i))] [] (R2 σ f n) = if qE σ f n r (m * 150 + i) then rI (nI 1) (R2 σ f n) else am_go am_X0 (am_ex (d + 1)) M241 16 [.ref 34, .int (nI r), .int (nI m), .int (nI (m * 150 + (i + 1)))] [] (R2 σ f n)
      rw [q241_16, if_pos (am_k (by omega) (by omega)), i_cl (by omega), R2_o _ _ _ (by decide) (by decide), if_neg (h.st0 hm (by omega)), if_pos (am_k (by omega) (by omega)), R2_o _ _ _ (by decide) (by decide), h.s45 hm, mx150, nI_add, if_neg (by rw [i_le, i_n (by omega), i_n (by omega)]; omega), if_pos (am_k (by omega) (by omega)), i_cl (by omega), R2_o _ _ _ (by decide) (by decide), h.e46, if_pos (am_k (by omega) (by omega)), R2_o _ _ _ (by decide) (by decide), h.e47, if_pos (am_k (by omega) (by omega)), R2_o _ _ _ (by decide) (by decide), h.e48, show nI (m * 150 + i) + nI 1 = nI (m * 150 + (i + 1)) from nI_1 _, y195 d hn, bI_r]
      by_cases b1 : σ.1 22 (m * 150 + i) = nI 1
      · rw [if_pos b1]
        by_cases b2 : σ.1 23 (m * 150 + i) = nI r
        · rw [if_pos b2]
          by_cases b3 : ext (fun j => f j = σ.1 24 (m * 150 + i)) 0 n = true
          · rw [bz_t b3, if_neg n10, if_pos ⟨b1, b2, b3⟩]
          · rw [bz_f b3, if_pos rfl, if_neg (fun z => b3 z.2.2)]
        · rw [if_neg b2, if_neg (fun z => b2 z.2.1)]
      · rw [if_neg b1, if_neg (fun z => b1 z.1)]
  rw [e241, q241_0]
  have := lp_ext (qM1 σ f n r) 0 md (by omega) (fun m => am_go am_X0 (am_ex (d + 1)) M241 2 [.ref 34, .int (nI r), .int (nI m), .null] [] (R2 σ f n)) (rI (nI 1) (R2 σ f n)) (rI (nI 0) (R2 σ f n)) ?_ ?_
  · refine Eq.trans this ?_
    rw [Nat.sub_zero]
    by_cases e : ext (qM1 σ f n r) 0 md = true
    · rw [if_pos e, bz_t e]
    · rw [if_neg e, bz_f e]
  · show am_go am_X0 (am_ex (d + 1)) M241 2 [.ref 34, .int (nI r), .int (nI md), .null] [] (R2 σ f n) = _
    rw [q241_2 (u3 := .null) _ _ _ _ rfl, R2_f _ _ _ (by decide), h.hm', if_pos (by rw [i_le]; exact Int.le_refl _)]
  · intro m _ hm
    show am_go am_X0 (am_ex (d + 1)) M241 2 [.ref 34, .int (nI r), .int (nI m), .null] [] (R2 σ f n) = if qM1 σ f n r m then rI (nI 1) (R2 σ f n) else am_go am_X0 (am_ex (d + 1)) M241 2 [.ref 34, .int (nI r), .int (nI (m + 1)), .null] [] (R2 σ f n)
    rw [q241_2 (u3 := .null) _ _ _ _ rfl, R2_f _ _ _ (by decide), h.hm', if_neg (by rw [i_le, i_n (by omega), i_n (by omega)]; omega), mx150, inner m hm]
/-- how many records key q opens, in the tree or not -/
noncomputable def opN (kc rc : Nat) (σ : am_M) (lo hi q : Nat) (b : Bool) : Nat := cntC (fun r => ((¬ σ.1 15 r = -1) ↔ b = true) ∧ Op kc rc σ lo hi (fun s => s = r) q) 0 rc
theorem y240 (h : Inv0 c kc md rc td lev rk σ) {q : Nat} (hq : 1 ≤ q ∧ q ≤ kc) (b : Bool) : ∃ f n, am_ex (d + 4) 240 [.ref 34, .int (nI q), .int (bz (b = true))] σ = rI (nI (opN kc rc σ 0 md q b)) (R2 σ f n) := by
  have hkl := h.kl
  have hrb := h.core.rcb
  obtain ⟨f1, n1, e1, s1, _, i1⟩ := y196 (d + 1) (σ := σ) (f := σ.1 55) (n := 0) hkl (ST.nil _) hq.1 hq.2
  obtain ⟨f2, n2, e2, s2, o2, g2, c2⟩ := y198d d (O := Dn kc σ 0 md q) h s1 (fun j k1 k2 z => by
    rcases (i1 j k1 k2).mp z with z | z
    · exact absurd z mS_0
    · exact ⟨0, z⟩) (fun x y e ⟨n, hn⟩ => ⟨n + 1, x, e, hn⟩)
  have hO : ∀ j, 1 ≤ j → j ≤ kc → (mS f2 n2 j ↔ Dn kc σ 0 md q j) := fun j k1 k2 => ⟨o2 j k1 k2, by
    rintro ⟨n, hn⟩
    have : ∀ n j, Cl (fun j => j = q) (EdD kc σ 0 md) n j → mS f2 n2 j := by
      intro n
      induction n with
      | zero =>
        intro j e
        have e : j = q := e
        subst e
        exact g2.2.2 j hq.1 hq.2 ((i1 j hq.1 hq.2).mpr (Or.inr rfl))
      | succ n ih =>
        rintro j ⟨i, e, hi⟩
        exact c2 i j e (ih i hi)
    exact this n j hn⟩
  have hle := s2.le
  refine ⟨f2, n2, ?_⟩
  rw [e240, q240_0, R2_0, e1, bV_r, e2, bV_r]
  generalize hv : bz (b = true) = v
  have := lp_cnt0 (fun r => ((¬ σ.1 15 r = -1) ↔ b = true) ∧ ext (qM1 σ f2 n2 r) 0 md = true) 0 rc (by omega) (fun i n => am_go am_X0 (am_ex (d + 3)) M240 20 [.ref 34, .int (nI q), .int v, .int (nI n), .int (nI i)] [] (R2 σ f2 n2)) (fun n => rI (nI n) (R2 σ f2 n2)) ?_ ?_
  · refine Eq.trans this ?_
    unfold opN
    rw [Nat.sub_zero, cnt_C _ 0 rc (fun r _ hr => ?_)]
    have e3 : ext (qM1 σ f2 n2 r) 0 md = true ↔ Op kc rc σ 0 md (fun s => s = r) q := by
      rw [ext_iff, ← Dn_Op]
      refine Iff.trans ?_ ((qM_iff (f := f2) (n := n2) (lo := 0) (hi := md) h (r := r) (by omega) (Nat.le_refl _)).trans ?_)
      · constructor
        · rintro ⟨m, a, b, e⟩; exact ⟨m, a, by omega, e⟩
        · rintro ⟨m, a, b, e⟩; exact ⟨m, a, by omega, e⟩
      · constructor
        · rintro ⟨k, a, e⟩
          obtain ⟨_, _, _, _, _, _, _, _, _, a1, a2⟩ := id e
          exact ⟨k, (hO k a1 a2).mp a, e⟩
        · rintro ⟨k, a, e⟩
          obtain ⟨_, _, _, _, _, _, _, _, _, a1, a2⟩ := id e
          exact ⟨k, (hO k a1 a2).mpr a, e⟩
    exact and_congr Iff.rfl e3
  · intro n
    show am_go am_X0 (am_ex (d + 3)) M240 20 [.ref 34, .int (nI q), .int v, .int (nI n), .int (nI rc)] [] (R2 σ f2 n2) = _
    rw [q240_20, R2_f _ _ _ (by decide), h.hr', if_pos (by rw [i_le]; exact Int.le_refl _)]
  · intro i n _ hi
    show am_go am_X0 (am_ex (d + 3)) M240 20 [.ref 34, .int (nI q), .int v, .int (nI n), .int (nI i)] [] (R2 σ f2 n2) = am_go am_X0 (am_ex (d + 3)) M240 20 [.ref 34, .int (nI q), .int v, .int (nI (if ((¬ σ.1 15 i = -1) ↔ b = true) ∧ ext (qM1 σ f2 n2 i) 0 md = true then n + 1 else n)), .int (nI (i + 1))] [] (R2 σ f2 n2)
    have e3 : nI i + nI 1 = nI (i + 1) := nI_1 i
    have e4 : nI n + nI 1 = nI (n + 1) := nI_1 n
    have e5 : nI n + nI 0 = nI n := nI_add n 0
    have tst : ∀ s0, am_go am_X0 (am_ex (d + 3)) M240 46 [.ref 34, .int (nI q), .int v, .int (nI n), .int (nI i)] [.int s0, .int (nI n)] (R2 σ f2 n2) = am_go am_X0 (am_ex (d + 3)) M240 20 [.ref 34, .int (nI q), .int v, .int (nI (if s0 = v ∧ ext (qM1 σ f2 n2 i) 0 md = true then n + 1 else n)), .int (nI (i + 1))] [] (R2 σ f2 n2) := by
      intro s0
      rw [q240_46, y241 (d + 1) h (by omega), bI_r, e3, e4, e5]
      by_cases b1 : s0 = v
      · rw [if_pos b1]
        by_cases b2 : ext (qM1 σ f2 n2 i) 0 md = true
        · rw [bz_t b2, if_neg n10, if_pos ⟨b1, b2⟩]
        · rw [bz_f b2, if_pos rfl, if_neg (fun z => b2 z.2)]
      · rw [if_neg b1, if_neg (fun z => b1 z.1)]
    rw [q240_20, R2_f _ _ _ (by decide), h.hr', if_neg (by rw [i_le, i_n (by omega), i_n (by omega)]; omega), if_pos (am_k (by omega) (by omega)), i_cl (by omega), R2_o _ _ _ (by decide) (by decide), h.e51, tst, tst]
    have fin : ∀ s0, (s0 = v ↔ ((¬ σ.1 15 i = -1) ↔ b = true)) → am_go am_X0 (am_ex (d + 3)) M240 20 [.ref 34, .int (nI q), .int v, .int (nI (if s0 = v ∧ ext (qM1 σ f2 n2 i) 0 md = true then n + 1 else n)), .int (nI (i + 1))] [] (R2 σ f2 n2) = am_go am_X0 (am_ex (d + 3)) M240 20 [.ref 34, .int (nI q), .int v, .int (nI (if ((¬ σ.1 15 i = -1) ↔ b = true) ∧ ext (qM1 σ f2 n2 i) 0 md = true then n + 1 else n)), .int (nI (i + 1))] [] (R2 σ f2 n2) := by
      intro s0 hs
      by_cases b1 : s0 = v ∧ ext (qM1 σ f2 n2 i) 0 md = true
      · rw [if_pos b1, if_pos ⟨hs.mp b1.1, b1.2⟩]
      · rw [if_neg b1, if_neg (fun z => b1 ⟨hs.mpr z.1, z.2⟩)]
    by_cases hl : σ.1 15 i = -1
    · rw [if_pos hl]
      refine fin (nI 0) ?_
      rw [← hv]
      cases b with
      | true => exact ⟨fun z => absurd z.symm n10, fun z => absurd hl (z.mpr rfl)⟩
      | false => exact ⟨fun _ => ⟨fun z => absurd hl z, fun z => by cases z⟩, fun _ => rfl⟩
    · rw [if_neg hl]
      refine fin (nI 1) ?_
      rw [← hv]
      cases b with
      | true => exact ⟨fun _ => ⟨fun _ => rfl, fun _ => hl⟩, fun _ => rfl⟩
      | false => exact ⟨fun z => absurd z n10, fun z => by have := z.mp hl; cases this⟩
theorem x71o (h : Inv0 c kc md rc td lev rk σ) {q lo la : Nat} {f g : Nat → Int32} (hg : ∀ r, r < rc → (¬ g r = nI 0 ↔ Op kc rc σ lo (la + 1) (fun s => s = r) q)) (b : Bool) : am_ex (d + 3) 71 [.ref 5, .int (bz (b = true))] (S2 σ f g) = rI (nI (opN kc rc σ lo (la + 1) q b)) (S2 σ f g) := by
  rw [x71 d g h f b]
  unfold opN
  rw [cnt_C _ 0 rc (fun r _ hr => ?_)]
  rw [hg r (by omega)]
  exact ⟨fun z => ⟨z.2, z.1⟩, fun z => ⟨z.2, z.1⟩⟩
theorem opN_sm {τ : am_M} (h : Sm σ τ) (lo hi q : Nat) (b : Bool) : opN kc rc τ lo hi q b = opN kc rc σ lo hi q b := by
  unfold opN
  refine cntC_c 0 rc (fun r _ _ => ?_)
  rw [h.i 15 (by decide) (by decide), Op_sm h.e]
theorem f124 (h : Inv c kc md rc td lev rk σ) (hc : c < 600) (x y : Int32) : Fc (d + 8) 124 242 [.ref 0, .int x, .int y] [.ref 34, .int x, .int y] cdA (c + 1) σ := by
  have hkl := h.kl
  have hmb := h.core.mdb
  by_cases hx : inR x 4
  · obtain ⟨e1, h1⟩ := inR_of hx
    generalize x.toNatClampNeg = q at e1 h1
    subst e1
    by_cases hy : inR y 5
    · obtain ⟨e2, h2⟩ := inR_of hy
      generalize y.toNatClampNeg = w at e2 h2
      subst e2
      have hcl : am_ex (d + 8) 124 [.ref 0, .int (nI q), .int (nI w)] σ = if σ.1 11 q = -1 then rI (σ.1 11 q) σ else if nI w = nI 0 then rI (σ.1 11 q) σ else if nI w = nI 1 then rI (σ.1 12 q) σ else if nI w = nI 2 then am_bI (am_ex (d + 7) 77 [.ref 3, .int (σ.1 12 q)] σ) (fun r5 t5 => if r5 = σ.1 11 q then rI (nI 1) t5 else rI (nI 0) t5) else am_bV (am_ex (d + 7) 70 [.ref 5, .int (σ.1 11 q), .int (nI 0), .int (nI (md - 1))] σ) (fun t4 => if nI w = nI 3 then am_go am_X0 (am_ex (d + 7)) M124 100 [.ref 0, .int (nI q), .int (nI w), .int (σ.1 11 q), .int (σ.1 12 q)] [.int (nI 1), .ref 5] t4 else am_go am_X0 (am_ex (d + 7)) M124 100 [.ref 0, .int (nI q), .int (nI w), .int (σ.1 11 q), .int (σ.1 12 q)] [.int (nI 0), .ref 5] t4) := by
        rw [e124, q124_0, x144 _ _ _ (by omega), if_pos (inR_n h1 (by omega)), bV_r, x145 _ _ _ (by omega), if_pos (inR_n h2 (by omega)), bV_r, if_pos (am_k (by omega) (by omega)), if_pos (am_k (by omega) (by omega)), i_cl (by omega), x32, bI_r, h.hm, nI_sub (by omega) (by omega)]
      have hml : ∀ Z, Sm σ Z → Inv c kc md rc td lev rk Z → am_ex (d + 8) 242 [.ref 34, .int (nI q), .int (nI w)] Z = if σ.1 39 q = nI 0 then rI (-1) (th Z (nI 0)) else am_go am_X0 (am_ex (d + 7)) M242 55 [.ref 34, .int (nI q), .int (nI w), .int (σ.1 39 q)] [.int (nI w)] (th Z (nI 0)) := by
        intro Z hs hI
        have z39 : (th Z (nI 0)).1 39 = σ.1 39 := by rw [th_ne _ _ (by decide), hs.i 39 (by decide) (by decide)]
        rw [e242, q242_0, x208, bI_r, bz_t (inR_n h1 (by omega)), if_neg n10, x173, bI_r, bz_t (by rw [i_64, i_n (by omega), show (0 : Int64).toInt = 0 by decide +kernel, show (4 : Int64).toInt = 4 by decide +kernel]; omega), if_neg n10, q242_29, th_w, th_v, if_pos le00, if_pos (am_k (by omega) (by omega)), i_cl (by omega), z39]
      rcases h.kep q h1 with ⟨b1, b2⟩ | ⟨k, p, b1, b2, bp, b3, b4, b5, b6⟩
      · refine Fc.r h hc (Sm.refl σ) rfl (v := -1) (by rw [hcl, if_pos b2, b2]) (fun Z hs hI => ⟨th Z (nI 0), by rw [hml Z hs hI, if_pos b1], (Sm.refl Z).th _, rfl, th_v _ _⟩)
      · have hk0 : ¬ nI k = nI 0 := fun z => by have := nI_inj (by omega) (by omega) z; omega
        have hml2 : ∀ Z, Sm σ Z → Inv c kc md rc td lev rk Z → am_ex (d + 8) 242 [.ref 34, .int (nI q), .int (nI w)] Z = am_go am_X0 (am_ex (d + 7)) M242 55 [.ref 34, .int (nI q), .int (nI w), .int (nI k)] [.int (nI w)] (th Z (nI 0)) := fun Z hs hI => by
          rw [hml Z hs hI, b3, if_neg hk0]
        rw [b4, if_neg (nI_nm (by omega))] at hcl
        have hw : w = 0 ∨ w = 1 ∨ w = 2 ∨ w = 3 ∨ w = 4 := by omega
        have cnt34 : ∀ b : Bool, (w = 3 ∨ w = 4) → am_ex (d + 8) 124 [.ref 0, .int (nI q), .int (nI w)] σ = am_bV (am_ex (d + 7) 70 [.ref 5, .int (nI k), .int (nI 0), .int (nI (md - 1))] σ) (fun t4 => am_go am_X0 (am_ex (d + 7)) M124 100 [.ref 0, .int (nI q), .int (nI w), .int (nI k), .int (σ.1 12 q)] [.int (bz (b = true)), .ref 5] t4) → (∀ Z, am_go am_X0 (am_ex (d + 7)) M242 55 [.ref 34, .int (nI q), .int (nI w), .int (nI k)] [.int (nI w)] Z = am_go am_X0 (am_ex (d + 7)) M242 122 [.ref 34, .int (nI q), .int (nI w), .int (nI k)] [.int (bz (b = true)), .int (nI k), .ref 34] Z) → Fc (d + 8) 124 242 [.ref 0, .int (nI q), .int (nI w)] [.ref 34, .int (nI q), .int (nI w)] cdA (c + 1) σ := by
          intro b _ hc1 hm1
          have hX := x70 (d + 3) (σ.1 26) h.base (lo := 0) (la := md - 1) (by omega) (by omega) (q := k) ⟨b1, b2⟩ (σ.1 25)
          rw [S2_self, show md - 1 + 1 = md by omega] at hX
          obtain ⟨f, g, e3, hg⟩ := hX
          refine Fc.r h hc (S2_sm σ f g) rfl (v := nI (opN kc rc σ 0 md k b)) ?_ (fun Z hs hI => ?_)
          · have := x71o (d + 4) h.base (q := k) (lo := 0) (la := md - 1) (f := f) (g := g) (by rw [show md - 1 + 1 = md by omega]; exact hg) b
            rw [show md - 1 + 1 = md by omega] at this
            rw [hc1, e3, bV_r, q124_100, this, bI_r]
          · have hT : Sm Z (th Z (nI 0)) := (Sm.refl Z).th _
            obtain ⟨f', n', e4⟩ := y240 (d + 3) (hI.base.sm hT) (q := k) ⟨b1, b2⟩ b
            refine ⟨R2 (th Z (nI 0)) f' n', ?_, hT.trans (R2_sm _ f' n'), rfl, R2_th _ _ _ _⟩
            rw [hml2 Z hs hI, hm1, q242_122, e4, bI_r, opN_sm (hs.trans hT)]
        have ne : ∀ a b : Nat, a < 10 → b < 10 → a ≠ b → ¬ nI a = nI b := fun a b ha hb hab z => hab (nI_inj (by omega) (by omega) z)
        rcases hw with rfl | rfl | rfl | rfl | rfl
        · refine Fc.r h hc (Sm.refl σ) rfl (v := nI k) (by rw [hcl, if_pos rfl]) (fun Z hs hI => ⟨th Z (nI 0), by rw [hml2 Z hs hI, q242_55_0, q242_80], (Sm.refl Z).th _, rfl, th_v _ _⟩)
        · refine Fc.r h hc (Sm.refl σ) rfl (v := nI p) (by rw [hcl, if_neg (ne 1 0 (by omega) (by omega) (by omega)), if_pos rfl, b5]) (fun Z hs hI => ⟨th Z (nI 0), ?_, (Sm.refl Z).th _, rfl, th_v _ _⟩)
          rw [hml2 Z hs hI, q242_55_1, q242_82, if_pos (am_k (by omega) (by omega)), i_cl (by omega), th_ne _ _ (by decide), hs.i 40 (by decide) (by decide), b6]
        · refine Fc.r h hc (Sm.refl σ) rfl (v := if σ.1 16 p = nI k then nI 1 else nI 0) ?_ (fun Z hs hI => ⟨th Z (nI 0), ?_, (Sm.refl Z).th _, rfl, th_v _ _⟩)
          · rw [hcl, if_neg (ne 2 0 (by omega) (by omega) (by omega)), if_neg (ne 2 1 (by omega) (by omega) (by omega)), if_pos rfl, b5, x77, bI_r, rd_n bp (by omega)]
            split <;> rfl
          · rw [hml2 Z hs hI, q242_55_2, q242_89, if_pos (am_k (by omega) (by omega)), i_cl (by omega), th_ne _ _ (show (40 : Nat) ≠ 34 by decide), hs.i 40 (by decide) (by decide), b6, if_pos (am_k bp (by omega)), i_cl (by omega), th_ne _ _ (show (35 : Nat) ≠ 34 by decide), hI.e35, hs.i 16 (by decide) (by decide)]
            split <;> rfl
        · refine cnt34 true (Or.inl rfl) ?_ (fun Z => ?_)
          · rw [hcl, if_neg (ne 3 0 (by omega) (by omega) (by omega)), if_neg (ne 3 1 (by omega) (by omega) (by omega)), if_neg (ne 3 2 (by omega) (by omega) (by omega))]
            rfl
          · rw [q242_55_d _ _ _ _ _ (by rw [i_n (by omega)]; omega), q242_110, if_pos rfl]
            rfl
        · refine cnt34 false (Or.inr rfl) ?_ (fun Z => ?_)
          · rw [hcl, if_neg (ne 4 0 (by omega) (by omega) (by omega)), if_neg (ne 4 1 (by omega) (by omega) (by omega)), if_neg (ne 4 2 (by omega) (by omega) (by omega))]
            simp only [if_neg (ne 4 3 (by omega) (by omega) (by omega))]
            rfl
          · rw [q242_55_d _ _ _ _ _ (by rw [i_n (by omega)]; omega), q242_110, if_neg (ne 4 3 (by omega) (by omega) (by omega))]
            rfl
    · refine Fc.x h hc (E := xIA) (Sm.refl σ) rfl ?_ (fun Z hs hI => ⟨nI 0, ?_⟩)
      · rw [e124, q124_0, x144 _ _ _ (by omega), if_pos (inR_n h1 (by omega)), bV_r, x145 _ _ _ (by omega), if_neg hy, bV_x]
      · rw [e242, q242_0, x208, bI_r, bz_t (inR_n h1 (by omega)), if_neg n10, x173, bI_r, bz_f (by rw [i_64, show (0 : Int64).toInt = 0 by decide +kernel, show (4 : Int64).toInt = 4 by decide +kernel]; unfold inR at hy; omega), if_pos rfl, q242_29, th_w, th_v, if_neg le20]
        rfl
  · refine Fc.x h hc (E := xIO) (Sm.refl σ) rfl ?_ (fun Z hs hI => ⟨nI 0, ?_⟩)
    · rw [e124, q124_0, x144 _ _ _ (by omega), if_neg hx, bV_x]
    · rw [e242, q242_0, x208, bI_r, bz_f hx, if_pos rfl, q242_29, th_w, th_v, if_neg le10]
      rfl
end CUS
