/-! due days, marks, holds, proofs (made by wip/whole/gen62.py) -/
section SFV
variable (d : Nat) {c kc md rc td : Nat} {lev rk : Nat → Nat} {σ τ : am_M}
abbrev cd3 (E : String) : Nat := if E = xIO then 1 else if E = xIA then 2 else if E = xIS then 3 else 0
theorem Inv.okR (h : Inv c kc md rc td lev rk σ) : okR (σ.1 37) := by
  intro k hk
  have hrb := h.core.rcb
  rw [h.e37]
  exact (h.core.rec k hk).imp id (fun ⟨r, h1, h2, _⟩ => by rw [h2]; exact inR_n (by omega) (by omega))
theorem f112 (h : Inv c kc md rc td lev rk σ) (hc : c < 600) (x v : Int32) : Fc (d + 8) 112 216 [.ref 0, .int x, .int v] [.ref 34, .int x, .int v] cd3 (c + 1) σ := by
  have hrb := h.core.rcb
  by_cases hx : inR x 64
  · obtain ⟨e1, h1⟩ := inR_of hx
    generalize x.toNatClampNeg = k at e1 h1
    subst e1
    by_cases hv : -1 ≤ v.toInt ∧ v.toInt ≤ 1000000
    · by_cases hr : σ.1 17 k = -1
      · exact Fc.x h hc (E := xIS) (Sm.refl σ) rfl (by rw [c112 (d + 5) σ h1 v, if_pos hv, if_pos hr]) (fun Z hs hI => ⟨_, by rw [y216 (d + 5) Z hI.okR h1 v, if_pos hv, hI.e37, hs.i 17 (by decide) (by decide), if_pos hr]; rfl⟩)
      · refine Or.inl ⟨σ.1 18 k, am_set σ 18 (upd (σ.1 18) k v), by rw [c112 (d + 5) σ h1 v, if_pos hv, if_neg hr], rfl, fun Z hZ => ?_⟩
        have zi := hZ.1.i
        have zf := hZ.1.f
        have z37 : Z.1 37 = σ.1 17 := by rw [zi 37 (by decide) (by decide), s_ne _ _ (by decide), h.e37]
        have z52 : Z.1 52 = σ.1 52 := by rw [zi 52 (by decide) (by decide), s_ne _ _ (by decide)]
        have hd : σ.1 18 k = σ.1 52 (σ.1 17 k).toNatClampNeg := by rw [h.due k h1]; exact if_neg hr
        refine ⟨am_set (th Z (nI 0)) 52 (upd (σ.1 52) (σ.1 17 k).toNatClampNeg v), by rw [y216 (d + 5) Z (by rw [z37, ← h.e37]; exact h.okR) h1 v, if_pos hv, z37, if_neg hr, z52, hd], rfl, by rw [s_ne _ _ (by decide), th_v], kc, md, rc, td, lev, rk, Inv.up (c := c) ?_ (by omega) (by omega)⟩
        have g2 : ∀ a, ¬ scr a → a ≠ 34 → a ≠ 52 → a ≠ 18 → (am_set (th Z (nI 0)) 52 (upd (σ.1 52) (σ.1 17 k).toNatClampNeg v)).1 a = σ.1 a := fun a h1 h2 h3 h4 => by
          rw [s_ne _ _ h3, th_ne _ _ h2, zi a h1 h2, s_ne _ _ h4]
        have f : ∀ j, j ≠ 25 → j ≠ 27 → (am_set (th Z (nI 0)) 52 (upd (σ.1 52) (σ.1 17 k).toNatClampNeg v)).1 34 j = σ.1 34 j := fun j h1 h2 => by
          rw [s_ne _ _ (by decide), th_f _ _ h1, zf j h1 h2, s_ne _ _ (by decide)]
        apply Inv.soft (td' := td) h
        case g => exact fun a h1 h2 h3 => g2 a h1 h2 (fun e => h3 (by unfold sft; omega)) (fun e => h3 (by unfold sft; omega))
        case f => exact fun j h1 h2 _ => f j h1 h2
        case j => exact fun a ha => hZ.1.j a ha
        case ht => rw [g2 0 (by decide) (by decide) (by decide) (by decide)]; exact h.ht
        case ht' => rw [f 24 (by decide) (by decide)]; exact h.ht'
        case tb => exact h.tb
        case e38 => rw [g2 38 (by decide) (by decide) (by decide) (by decide), g2 10 (by decide) (by decide) (by decide) (by decide)]; exact h.e38
        case e41 => rw [g2 41 (by decide) (by decide) (by decide) (by decide), g2 19 (by decide) (by decide) (by decide) (by decide)]; exact h.e41
        case e53 => rw [g2 53 (by decide) (by decide) (by decide) (by decide), g2 33 (by decide) (by decide) (by decide) (by decide)]; exact h.e53
        case e54 => rw [g2 54 (by decide) (by decide) (by decide) (by decide), g2 32 (by decide) (by decide) (by decide) (by decide)]; exact h.e54
        case kep => rw [g2 39 (by decide) (by decide) (by decide) (by decide), g2 11 (by decide) (by decide) (by decide) (by decide), g2 12 (by decide) (by decide) (by decide) (by decide), g2 40 (by decide) (by decide) (by decide) (by decide)]; exact h.kep
        case okh => rw [g2 10 (by decide) (by decide) (by decide) (by decide)]; exact h.okh
        case due =>
          rw [s_eq, s_ne _ _ (by decide), th_ne _ _ (by decide), zi 18 (by decide) (by decide), s_eq]
          intro k' hk'
          by_cases e : k' = k
          · rw [show upd (σ.1 18) k v k' = v from if_pos e, e]
            unfold dueOf
            rw [if_neg hr]
            exact (if_pos rfl).symm
          · rw [show upd (σ.1 18) k v k' = σ.1 18 k' from if_neg e, h.due k' hk']
            unfold dueOf
            by_cases hr' : σ.1 17 k' = -1
            · rw [if_pos hr', if_pos hr']
            · rw [if_neg hr', if_neg hr']
              refine (if_neg ?_).symm
              rcases h.core.rec k h1 with a | ⟨r, a1, a2, a3⟩
              · exact absurd a hr
              · rcases h.core.rec k' hk' with b | ⟨r', b1, b2, b3⟩
                · exact absurd b hr'
                · rw [a2, b2, i_cl (by omega), i_cl (by omega)]
                  intro z
                  rw [← z, b3] at a3
                  exact e (nI_inj (by omega) (by omega) a3)
        case mrk => rw [g2 19 (by decide) (by decide) (by decide) (by decide)]; exact h.mrk
        case prl => rw [g2 32 (by decide) (by decide) (by decide) (by decide)]; exact h.prl
    · exact Fc.x h hc (E := xIA) (Sm.refl σ) rfl (by rw [c112 (d + 5) σ h1 v, if_neg hv]) (fun Z hs hI => ⟨_, by rw [y216 (d + 5) Z hI.okR h1 v, if_neg hv]; rfl⟩)
  · exact Fc.x h hc (E := xIO) (Sm.refl σ) rfl (by rw [c112x (d + 6) σ x v hx]) (fun Z hs hI => ⟨_, by rw [y216x (d + 5) Z x v hx]; rfl⟩)
/-- a flag, answered as an int -/
theorem f110 (h : Inv c kc md rc td lev rk σ) (hc : c < 600) (x v : Int32) (hv : v = nI 0 ∨ v = nI 1) : Fc (d + 8) 110 225 [.ref 0, .int x, .int v] [.ref 34, .int x, .int v] cdS (c + 1) σ := by
  have hnv : vp_nar .boolean v = v := by
    rcases hv with e | e
    · rw [e]; exact nb_0
    · rw [e]; exact nb_1
  have hz : ∀ Z, Inv c kc md rc td lev rk Z → okH (Z.1 38) := fun Z hI => by rw [hI.e38]; exact hI.okh
  by_cases hx : inR x 64
  · obtain ⟨e1, h1⟩ := inR_of hx
    generalize x.toNatClampNeg = k at e1 h1
    subst e1
    have h01 : ∀ Z, Inv c kc md rc td lev rk Z → (Z.1 41 k = nI 0 ∨ Z.1 41 k = nI 1) := fun Z hI => by rw [hI.e41]; exact (hI.mrk k h1).imp id (fun q => q.1)
    by_cases hr : σ.1 17 k = -1 ∨ (¬ v = nI 0 ∧ ¬ pinF (σ.1 10) k = nI 0)
    · exact Fc.x h hc (E := xIS) (Sm.refl σ) rfl (by rw [c110 (d + 2) σ h.okh h1 v, if_pos hr]) (fun Z hs hI => ⟨_, by rw [y225 (d + 4) Z (hz Z hI) h1 (h01 Z hI) v, hI.e37, hI.e38, hs.i 17 (by decide) (by decide), hs.i 10 (by decide) (by decide), if_pos hr]; rfl⟩)
    · have hbz : bz (¬ σ.1 19 k = nI 0) = σ.1 19 k := by
        rcases h.mrk k h1 with e | e
        · rw [bz_f (fun z => z e), e]
        · rw [bz_t (by rw [e.1]; exact n10), e.1]
      refine Or.inl ⟨σ.1 19 k, am_set σ 19 (upd (σ.1 19) k v), by rw [c110 (d + 2) σ h.okh h1 v, if_neg hr, hnv, hbz], rfl, fun Z hZ => ?_⟩
      have zi := hZ.1.i
      have zf := hZ.1.f
      have z37 : Z.1 37 = σ.1 17 := by rw [zi 37 (by decide) (by decide), s_ne _ _ (by decide), h.e37]
      have z38 : Z.1 38 = σ.1 10 := by rw [zi 38 (by decide) (by decide), s_ne _ _ (by decide), h.e38]
      have z41 : Z.1 41 = σ.1 19 := by rw [zi 41 (by decide) (by decide), s_ne _ _ (by decide), h.e41]
      refine ⟨am_set (th Z (nI 0)) 41 (upd (σ.1 19) k v), by rw [y225 (d + 4) Z (by rw [z38]; exact h.okh) h1 (by rw [z41]; exact (h.mrk k h1).imp id (fun q => q.1)) v, z37, z38, if_neg hr, z41, hnv], rfl, by rw [s_ne _ _ (by decide), th_v], kc, md, rc, td, lev, rk, Inv.up (c := c) ?_ (by omega) (by omega)⟩
      have g2 : ∀ a, ¬ scr a → a ≠ 34 → a ≠ 41 → a ≠ 19 → (am_set (th Z (nI 0)) 41 (upd (σ.1 19) k v)).1 a = σ.1 a := fun a h1 h2 h3 h4 => by
        rw [s_ne _ _ h3, th_ne _ _ h2, zi a h1 h2, s_ne _ _ h4]
      have f : ∀ j, j ≠ 25 → j ≠ 27 → (am_set (th Z (nI 0)) 41 (upd (σ.1 19) k v)).1 34 j = σ.1 34 j := fun j h1 h2 => by
        rw [s_ne _ _ (by decide), th_f _ _ h1, zf j h1 h2, s_ne _ _ (by decide)]
      apply Inv.soft (td' := td) h
      case g => exact fun a h1 h2 h3 => g2 a h1 h2 (fun e => h3 (by unfold sft; omega)) (fun e => h3 (by unfold sft; omega))
      case f => exact fun j h1 h2 _ => f j h1 h2
      case j => exact fun a ha => hZ.1.j a ha
      case ht => rw [g2 0 (by decide) (by decide) (by decide) (by decide)]; exact h.ht
      case ht' => rw [f 24 (by decide) (by decide)]; exact h.ht'
      case tb => exact h.tb
      case e38 => rw [g2 38 (by decide) (by decide) (by decide) (by decide), g2 10 (by decide) (by decide) (by decide) (by decide)]; exact h.e38
      case e41 => rw [s_eq, s_ne _ _ (by decide), th_ne _ _ (by decide), zi 19 (by decide) (by decide), s_eq]
      case e53 => rw [g2 53 (by decide) (by decide) (by decide) (by decide), g2 33 (by decide) (by decide) (by decide) (by decide)]; exact h.e53
      case e54 => rw [g2 54 (by decide) (by decide) (by decide) (by decide), g2 32 (by decide) (by decide) (by decide) (by decide)]; exact h.e54
      case kep => rw [g2 39 (by decide) (by decide) (by decide) (by decide), g2 11 (by decide) (by decide) (by decide) (by decide), g2 12 (by decide) (by decide) (by decide) (by decide), g2 40 (by decide) (by decide) (by decide) (by decide)]; exact h.kep
      case okh => rw [g2 10 (by decide) (by decide) (by decide) (by decide)]; exact h.okh
      case due => rw [g2 18 (by decide) (by decide) (by decide) (by decide), g2 52 (by decide) (by decide) (by decide) (by decide)]; exact h.due
      case mrk =>
        rw [s_ne _ _ (by decide), th_ne _ _ (by decide), zi 19 (by decide) (by decide), s_eq]
        intro k' hk'
        by_cases e : k' = k
        · rw [show upd (σ.1 19) k v k' = v from if_pos e, e]
          exact hv.imp id (fun q => ⟨q, fun z => hr (Or.inl z)⟩)
        · rw [show upd (σ.1 19) k v k' = σ.1 19 k' from if_neg e]; exact h.mrk k' hk'
      case prl => rw [g2 32 (by decide) (by decide) (by decide) (by decide)]; exact h.prl
  · exact Fc.x h hc (E := xIO) (Sm.refl σ) rfl (by rw [c110x (d + 6) σ x v hx]) (fun Z hs hI => ⟨_, by rw [y225x (d + 5) Z x v hx]; rfl⟩)
theorem cnt_a (P : Nat → Prop) [DecidablePred P] : ∀ m i n, cnt P i (m + n) = cnt P i m + cnt P (i + m) n := by
  intro m
  induction m with
  | zero => intro i n; rw [Nat.zero_add, cnt, Nat.zero_add, Nat.add_zero]
  | succ m ih => intro i n; rw [show m + 1 + n = (m + n) + 1 by omega, cnt, cnt, ih (i + 1) n, show i + 1 + m = i + (m + 1) by omega]; omega
theorem cnt_z {P : Nat → Prop} [DecidablePred P] : ∀ n i, (∀ j, i ≤ j → j < i + n → ¬ P j) → cnt P i n = 0 := by
  intro n
  induction n with
  | zero => intro i _; rfl
  | succ n ih => intro i hn; rw [cnt, if_neg (hn i (by omega) (by omega)), ih (i + 1) (fun j h1 h2 => hn j (by omega) (by omega))]
theorem cnt_rng (P : Nat → Prop) [DecidablePred P] {a b n : Nat} (hab : a + b ≤ n) : cnt (fun k => (a ≤ k ∧ k < a + b) ∧ P k) 0 n = cnt P a b := by
  rw [show n = a + (b + (n - (a + b))) by omega, cnt_a, cnt_a, cnt_z a 0 (fun j _ h2 z => by omega), cnt_z (n - (a + b)) (0 + a + b) (fun j h1 _ z => by omega), Nat.zero_add, Nat.zero_add, Nat.add_zero]
  exact cnt_c b a (fun j h1 h2 => ⟨fun z => z.2, fun z => ⟨⟨h1, h2⟩, z⟩⟩)
theorem f107 (h : Inv c kc md rc td lev rk σ) (hc : c < 600) (x y : Int32) : Fc (d + 8) 107 221 [.ref 0, .int x, .int y] [.ref 34, .int x, .int y] cO (c + 1) σ := by
  by_cases hxy : inR x 8 ∧ inR y 85
  · obtain ⟨e1, h1⟩ := inR_of hxy.1
    obtain ⟨e2, h2⟩ := inR_of hxy.2
    generalize x.toNatClampNeg = q at e1 h1
    generalize y.toNatClampNeg = p at e2 h2
    subst e1 e2
    refine Or.inl ⟨nI (cnt (fun k => ¬ σ.1 17 k = -1) (fst p) (lvs p)), am_set (am_set σ 10 (upd (σ.1 10) q (nI p))) 19 (clr (σ.1 19) (fst p) (fst p + lvs p)), by rw [c107 (d + 4) σ h1 h2], rfl, fun Z hZ => ?_⟩
    have zi := hZ.1.i
    have zf := hZ.1.f
    have z37 : Z.1 37 = σ.1 17 := by rw [zi 37 (by decide) (by decide), s_ne _ _ (by decide), s_ne _ _ (by decide), h.e37]
    have z38 : Z.1 38 = σ.1 10 := by rw [zi 38 (by decide) (by decide), s_ne _ _ (by decide), s_ne _ _ (by decide), h.e38]
    have z41 : Z.1 41 = σ.1 19 := by rw [zi 41 (by decide) (by decide), s_ne _ _ (by decide), s_ne _ _ (by decide), h.e41]
    refine ⟨am_set (am_set (th Z (nI 0)) 38 (upd (σ.1 10) q (nI p))) 41 (clr (σ.1 19) (fst p) (fst p + lvs p)), by rw [y221 (d + 5) Z h1 h2, cnt_rng _ (fst_le h2), cnt_c (Q := fun k => ¬ σ.1 17 k = -1) _ _ (fun j _ _ => by rw [z37]), z38, z41], rfl, by rw [s_ne _ _ (by decide), s_ne _ _ (by decide), th_v], kc, md, rc, td, lev, rk, Inv.up (c := c) ?_ (by omega) (by omega)⟩
    have g2 : ∀ a, ¬ scr a → a ≠ 34 → a ≠ 38 ∧ a ≠ 41 → a ≠ 10 ∧ a ≠ 19 → (am_set (am_set (th Z (nI 0)) 38 (upd (σ.1 10) q (nI p))) 41 (clr (σ.1 19) (fst p) (fst p + lvs p))).1 a = σ.1 a := fun a h1 h2 h3 h4 => by
      rw [s_ne _ _ h3.2, s_ne _ _ h3.1, th_ne _ _ h2, zi a h1 h2, s_ne _ _ h4.2, s_ne _ _ h4.1]
    have f : ∀ j, j ≠ 25 → j ≠ 27 → (am_set (am_set (th Z (nI 0)) 38 (upd (σ.1 10) q (nI p))) 41 (clr (σ.1 19) (fst p) (fst p + lvs p))).1 34 j = σ.1 34 j := fun j h1 h2 => by
      rw [s_ne _ _ (by decide), s_ne _ _ (by decide), th_f _ _ h1, zf j h1 h2, s_ne _ _ (by decide), s_ne _ _ (by decide)]
    apply Inv.soft (td' := td) h
    case g => exact fun a h1 h2 h3 => g2 a h1 h2 ⟨fun e => h3 (by unfold sft; omega), fun e => h3 (by unfold sft; omega)⟩ ⟨fun e => h3 (by unfold sft; omega), fun e => h3 (by unfold sft; omega)⟩
    case f => exact fun j h1 h2 _ => f j h1 h2
    case j => exact fun a ha => hZ.1.j a ha
    case ht => rw [g2 0 (by decide) (by decide) (by decide) (by decide)]; exact h.ht
    case ht' => rw [f 24 (by decide) (by decide)]; exact h.ht'
    case tb => exact h.tb
    case e38 => rw [s_ne _ _ (show (38 : Nat) ≠ 41 by decide), s_eq, s_ne _ _ (show (10 : Nat) ≠ 41 by decide), s_ne _ _ (show (10 : Nat) ≠ 38 by decide), th_ne _ _ (by decide), zi 10 (by decide) (by decide), s_ne _ _ (by decide), s_eq]
    case e41 => rw [s_eq, s_ne _ _ (show (19 : Nat) ≠ 41 by decide), s_ne _ _ (show (19 : Nat) ≠ 38 by decide), th_ne _ _ (by decide), zi 19 (by decide) (by decide), s_eq]
    case e53 => rw [g2 53 (by decide) (by decide) (by decide) (by decide), g2 33 (by decide) (by decide) (by decide) (by decide)]; exact h.e53
    case e54 => rw [g2 54 (by decide) (by decide) (by decide) (by decide), g2 32 (by decide) (by decide) (by decide) (by decide)]; exact h.e54
    case kep => rw [g2 39 (by decide) (by decide) (by decide) (by decide), g2 11 (by decide) (by decide) (by decide) (by decide), g2 12 (by decide) (by decide) (by decide) (by decide), g2 40 (by decide) (by decide) (by decide) (by decide)]; exact h.kep
    case okh =>
      rw [s_ne _ _ (show (10 : Nat) ≠ 41 by decide), s_ne _ _ (show (10 : Nat) ≠ 38 by decide), th_ne _ _ (by decide), zi 10 (by decide) (by decide), s_ne _ _ (by decide), s_eq]
      intro q' hq'
      by_cases e : q' = q
      · exact Or.inr ⟨p, h2, if_pos e⟩
      · rw [show upd (σ.1 10) q (nI p) q' = σ.1 10 q' from if_neg e]; exact h.okh q' hq'
    case due => rw [g2 18 (by decide) (by decide) (by decide) (by decide), g2 52 (by decide) (by decide) (by decide) (by decide)]; exact h.due
    case mrk =>
      rw [s_ne _ _ (show (19 : Nat) ≠ 41 by decide), s_ne _ _ (show (19 : Nat) ≠ 38 by decide), th_ne _ _ (by decide), zi 19 (by decide) (by decide), s_eq]
      intro k hk
      unfold clr
      by_cases e : fst p ≤ k ∧ k < fst p + lvs p
      · rw [if_pos e]; exact Or.inl rfl
      · rw [if_neg e]; exact h.mrk k hk
    case prl => rw [g2 32 (by decide) (by decide) (by decide) (by decide)]; exact h.prl
  · exact Fc.x h hc (E := xIO) (Sm.refl σ) rfl (by rw [c107x (d + 4) σ x y hxy]) (fun Z hs hI => ⟨_, by rw [y221x (d + 5) Z x y hxy]; rfl⟩)
theorem f139 (h : Inv c kc md rc td lev rk σ) (hc : c < 600) (x y : Int32) : Fc (d + 8) 139 269 [.ref 0, .int x, .int y] [.ref 34, .int x, .int y] cO (c + 1) σ := by
  by_cases hxy : inR x 4 ∧ inR y 64
  · obtain ⟨e1, h1⟩ := inR_of hxy.1
    obtain ⟨e2, h2⟩ := inR_of hxy.2
    generalize x.toNatClampNeg = q at e1 h1
    generalize y.toNatClampNeg = p at e2 h2
    subst e1 e2
    have hcl := c139 (d + 2) σ h1 h2
    generalize hPr : prfW (σ.1 16) (hs (σ.1 16) (σ.1 17)) q p (σ.1 33) = P at hcl
    generalize hHv : hvA (σ.1 16) (σ.1 17) (σ.1 31) 0 = H at hcl
    refine Or.inl ⟨P (13 * q), am_set (am_set (am_set σ 31 H) 32 (upd (σ.1 32) q (nI p))) 33 P, hcl, rfl, fun Z hZ => ?_⟩
    have zi := hZ.1.i
    have zf := hZ.1.f
    have z35 : Z.1 35 = σ.1 16 := by rw [zi 35 (by decide) (by decide), s_ne _ _ (by decide), s_ne _ _ (by decide), s_ne _ _ (by decide), h.e35]
    have z37 : Z.1 37 = σ.1 17 := by rw [zi 37 (by decide) (by decide), s_ne _ _ (by decide), s_ne _ _ (by decide), s_ne _ _ (by decide), h.e37]
    have z53 : Z.1 53 = σ.1 33 := by rw [zi 53 (by decide) (by decide), s_ne _ _ (by decide), s_ne _ _ (by decide), s_ne _ _ (by decide), h.e53]
    have z54 : Z.1 54 = σ.1 32 := by rw [zi 54 (by decide) (by decide), s_ne _ _ (by decide), s_ne _ _ (by decide), s_ne _ _ (by decide), h.e54]
    refine ⟨am_set (am_set (th Z (nI 0)) 54 (upd (σ.1 32) q (nI p))) 53 P, by rw [y269 (d + 2) Z h1 h2, z35, z37, z53, z54, hPr], rfl, by rw [s_ne _ _ (by decide), s_ne _ _ (by decide), th_v], kc, md, rc, td, lev, rk, Inv.up (c := c) ?_ (by omega) (by omega)⟩
    have g2 : ∀ a, ¬ scr a → a ≠ 34 → a ≠ 54 ∧ a ≠ 53 → a ≠ 31 ∧ a ≠ 32 ∧ a ≠ 33 → (am_set (am_set (th Z (nI 0)) 54 (upd (σ.1 32) q (nI p))) 53 P).1 a = σ.1 a := fun a h1 h2 h3 h4 => by
      rw [s_ne _ _ h3.2, s_ne _ _ h3.1, th_ne _ _ h2, zi a h1 h2, s_ne _ _ h4.2.2, s_ne _ _ h4.2.1, s_ne _ _ h4.1]
    have f : ∀ j, j ≠ 25 → j ≠ 27 → (am_set (am_set (th Z (nI 0)) 54 (upd (σ.1 32) q (nI p))) 53 P).1 34 j = σ.1 34 j := fun j h1 h2 => by
      rw [s_ne _ _ (by decide), s_ne _ _ (by decide), th_f _ _ h1, zf j h1 h2, s_ne _ _ (by decide), s_ne _ _ (by decide), s_ne _ _ (by decide)]
    apply Inv.soft (td' := td) h
    case g => exact fun a h1 h2 h3 => g2 a h1 h2 ⟨fun e => h3 (by unfold sft; omega), fun e => h3 (by unfold sft; omega)⟩ ⟨fun e => h1 (by unfold scr; omega), fun e => h3 (by unfold sft; omega), fun e => h3 (by unfold sft; omega)⟩
    case f => exact fun j h1 h2 _ => f j h1 h2
    case j => exact fun a ha => hZ.1.j a ha
    case ht => rw [g2 0 (by decide) (by decide) (by decide) (by decide)]; exact h.ht
    case ht' => rw [f 24 (by decide) (by decide)]; exact h.ht'
    case tb => exact h.tb
    case e38 => rw [g2 38 (by decide) (by decide) (by decide) (by decide), g2 10 (by decide) (by decide) (by decide) (by decide)]; exact h.e38
    case e41 => rw [g2 41 (by decide) (by decide) (by decide) (by decide), g2 19 (by decide) (by decide) (by decide) (by decide)]; exact h.e41
    case e53 => rw [s_eq, s_ne _ _ (show (33 : Nat) ≠ 53 by decide), s_ne _ _ (show (33 : Nat) ≠ 54 by decide), th_ne _ _ (by decide), zi 33 (by decide) (by decide), s_eq]
    case e54 => rw [s_ne _ _ (show (54 : Nat) ≠ 53 by decide), s_eq, s_ne _ _ (show (32 : Nat) ≠ 53 by decide), s_ne _ _ (show (32 : Nat) ≠ 54 by decide), th_ne _ _ (by decide), zi 32 (by decide) (by decide), s_ne _ _ (by decide), s_eq]
    case kep => rw [g2 39 (by decide) (by decide) (by decide) (by decide), g2 11 (by decide) (by decide) (by decide) (by decide), g2 12 (by decide) (by decide) (by decide) (by decide), g2 40 (by decide) (by decide) (by decide) (by decide)]; exact h.kep
    case okh => rw [g2 10 (by decide) (by decide) (by decide) (by decide)]; exact h.okh
    case due => rw [g2 18 (by decide) (by decide) (by decide) (by decide), g2 52 (by decide) (by decide) (by decide) (by decide)]; exact h.due
    case mrk => rw [g2 19 (by decide) (by decide) (by decide) (by decide)]; exact h.mrk
    case prl =>
      rw [s_ne _ _ (show (32 : Nat) ≠ 53 by decide), s_ne _ _ (show (32 : Nat) ≠ 54 by decide), th_ne _ _ (by decide), zi 32 (by decide) (by decide), s_ne _ _ (by decide), s_eq]
      intro q' hq'
      by_cases e : q' = q
      · exact Or.inr ⟨p, h2, if_pos e⟩
      · rw [show upd (σ.1 32) q (nI p) q' = σ.1 32 q' from if_neg e]; exact h.prl q' hq'
  · exact Fc.x h hc (E := xIO) (Sm.refl σ) rfl (by rw [c139x (d + 6) σ x y hxy]) (fun Z hs hI => ⟨_, by rw [y269x (d + 5) Z x y hxy]; rfl⟩)
end SFV
