/-! a new beginning: the invariant -/
section RST
variable (d : Nat) {c kc md rc td : Nat} {lev rk : Nat → Nat} {σ W : am_M}
theorem fil_c {f g : Nat → Int32} (h : f = g) (n : Nat) (v : Int32) : fil f n v = fil g n v := by rw [h]
theorem fil_i {f : Nat → Int32} {n k : Nat} {v : Int32} (h : k < n) : fil f n v k = v := if_pos h
theorem fil_clr (f : Nat → Int32) (n : Nat) : fil f n (nI 0) = clr f 0 n := by
  funext k
  unfold fil clr
  by_cases h : k < n
  · rw [if_pos h, if_pos ⟨by omega, h⟩]
  · rw [if_neg h, if_neg (fun z => h z.2)]
theorem bg_M (s : Int32) : EqM σ (bgC σ s) := by
  dsimp only [bgC]
  repeat' first | exact EqM.refl _ | refine EqM.setC ?_ (by decide) _ | refine rnw_M ?_ _ _
theorem bg_J (s : Int32) : (bgC σ s).2.1 14 = σ.2.1 14 := by
  simp +decide only [bgC, s_J, rnw_J]
theorem bg_inv (s : Int32) (e46 : W.1 46 = σ.1 22) (e47 : W.1 47 = σ.1 23) (e48 : W.1 48 = σ.1 24) (e51 : W.1 51 = σ.1 15) (e53 : W.1 53 = σ.1 33) (e50 : W.2.1 50 = σ.2.1 14) (e35 : W.1 35 = σ.1 16) (e37 : W.1 37 = σ.1 17) (e38 : W.1 38 = σ.1 10) (e41 : W.1 41 = σ.1 19) (e54 : W.1 54 = σ.1 32) : Inv 0 1 1 0 0 (fun _ => 0) (fun _ => 0) (hy aM (bgC σ s) (bgM W s)) := by
  have c16 : (bgC σ s).1 16 = upd (fil (σ.1 16) 85 (nI 0)) 0 (nI 1) := by simp +decide only [bgC, s_rd, rnw_o, rnw_16, rnw_13, rnw_1, if_true, if_false, ite_true, ite_false]
  have c17 : (bgC σ s).1 17 = fil (σ.1 17) 64 (-1) := by simp +decide only [bgC, s_rd, rnw_o, rnw_16, rnw_13, rnw_1, if_true, if_false, ite_true, ite_false]
  have c18 : (bgC σ s).1 18 = fil (σ.1 18) 64 (-1) := by simp +decide only [bgC, s_rd, rnw_o, rnw_16, rnw_13, rnw_1, if_true, if_false, ite_true, ite_false]
  have c19 : (bgC σ s).1 19 = clr (σ.1 19) 0 64 := by simp +decide only [bgC, s_rd, rnw_o, rnw_16, rnw_13, rnw_1, if_true, if_false, ite_true, ite_false]
  have c20 : (bgC σ s).1 20 = upd (σ.1 20) 0 (nI 0) := by simp +decide only [bgC, s_rd, rnw_o, rnw_16, rnw_13, rnw_1, if_true, if_false, ite_true, ite_false]
  have c21 : (bgC σ s).1 21 = upd (σ.1 21) 0 (nI 0) := by simp +decide only [bgC, s_rd, rnw_o, rnw_16, rnw_13, rnw_1, if_true, if_false, ite_true, ite_false]
  have c22 : (bgC σ s).1 22 = σ.1 22 := by simp +decide only [bgC, s_rd, rnw_o, rnw_16, rnw_13, rnw_1, if_true, if_false, ite_true, ite_false]
  have c23 : (bgC σ s).1 23 = σ.1 23 := by simp +decide only [bgC, s_rd, rnw_o, rnw_16, rnw_13, rnw_1, if_true, if_false, ite_true, ite_false]
  have c24 : (bgC σ s).1 24 = σ.1 24 := by simp +decide only [bgC, s_rd, rnw_o, rnw_16, rnw_13, rnw_1, if_true, if_false, ite_true, ite_false]
  have c33 : (bgC σ s).1 33 = σ.1 33 := by simp +decide only [bgC, s_rd, rnw_o, rnw_16, rnw_13, rnw_1, if_true, if_false, ite_true, ite_false]
  have c15 : (bgC σ s).1 15 = σ.1 15 := by simp +decide only [bgC, s_rd, rnw_o, rnw_16, rnw_13, rnw_1, if_true, if_false, ite_true, ite_false]
  have c10 : (bgC σ s).1 10 = fil (σ.1 10) 8 (-1) := by simp +decide only [bgC, s_rd, rnw_o, rnw_16, rnw_13, rnw_1, if_true, if_false, ite_true, ite_false]
  have c11 : (bgC σ s).1 11 = fil (σ.1 11) 4 (-1) := by simp +decide only [bgC, s_rd, rnw_o, rnw_16, rnw_13, rnw_1, if_true, if_false, ite_true, ite_false]
  have c32 : (bgC σ s).1 32 = fil (σ.1 32) 4 (-1) := by simp +decide only [bgC, s_rd, rnw_o, rnw_16, rnw_13, rnw_1, if_true, if_false, ite_true, ite_false]
  have c1 : (bgC σ s).1 1 = upd (upd (upd (σ.1 1) 1 s) 2 (nI 0)) 2 (nI 1) := by simp +decide only [bgC, s_rd, rnw_o, rnw_16, rnw_13, rnw_1, if_true, if_false, ite_true, ite_false]
  have c2 : (bgC σ s).1 2 2 = nI 0 := by simp +decide only [bgC, s_rd, rnw_o, rnw_16, rnw_13, rnw_1, if_true, if_false, ite_true, ite_false]; rfl
  have c0 : (bgC σ s).1 0 12 = nI 0 := by simp +decide only [bgC, s_rd, rnw_o, rnw_16, rnw_13, rnw_1, if_true, if_false, ite_true, ite_false]; rfl
  have c4 : (bgC σ s).1 4 5 = nI 1 := by simp +decide only [bgC, s_rd, rnw_o, rnw_16, rnw_13, rnw_1, if_true, if_false, ite_true, ite_false]; rfl
  have c13 : (bgC σ s).1 13 1 = nI 0 := by simp +decide only [bgC, s_rd, rnw_o, rnw_16, rnw_13, rnw_1, if_true, if_false, ite_true, ite_false]; exact if_pos rfl
  have cJ : (bgC σ s).2.1 14 = σ.2.1 14 := bg_J s
  have m34 : (bgM W s).1 34 = upd (upd (upd (upd (upd (W.1 34) 20 s) 22 (nI 1)) 24 (nI 0)) 23 (nI 0)) 21 (nI 1) := by simp +decide only [bgM, s_rd, if_true, if_false, ite_true, ite_false]
  have m35 : (bgM W s).1 35 = upd (fil (W.1 35) 85 (nI 0)) 0 (nI 1) := by simp +decide only [bgM, s_rd, if_true, if_false, ite_true, ite_false]
  have m37 : (bgM W s).1 37 = fil (W.1 37) 64 (-1) := by simp +decide only [bgM, s_rd, if_true, if_false, ite_true, ite_false]
  have m38 : (bgM W s).1 38 = fil (W.1 38) 8 (-1) := by simp +decide only [bgM, s_rd, if_true, if_false, ite_true, ite_false]
  have m39 : (bgM W s).1 39 = fil (W.1 39) 4 (nI 0) := by simp +decide only [bgM, s_rd, if_true, if_false, ite_true, ite_false]
  have m41 : (bgM W s).1 41 = fil (W.1 41) 64 (nI 0) := by simp +decide only [bgM, s_rd, if_true, if_false, ite_true, ite_false]
  have m44 : (bgM W s).1 44 = fil (W.1 44) 8 (nI 0) := by simp +decide only [bgM, s_rd, if_true, if_false, ite_true, ite_false]
  have m45 : (bgM W s).1 45 = fil (W.1 45) 8 (nI 0) := by simp +decide only [bgM, s_rd, if_true, if_false, ite_true, ite_false]
  have m46 : (bgM W s).1 46 = W.1 46 := by simp +decide only [bgM, s_rd, if_true, if_false, ite_true, ite_false]
  have m47 : (bgM W s).1 47 = W.1 47 := by simp +decide only [bgM, s_rd, if_true, if_false, ite_true, ite_false]
  have m48 : (bgM W s).1 48 = W.1 48 := by simp +decide only [bgM, s_rd, if_true, if_false, ite_true, ite_false]
  have m51 : (bgM W s).1 51 = W.1 51 := by simp +decide only [bgM, s_rd, if_true, if_false, ite_true, ite_false]
  have m53 : (bgM W s).1 53 = W.1 53 := by simp +decide only [bgM, s_rd, if_true, if_false, ite_true, ite_false]
  have m54 : (bgM W s).1 54 = fil (W.1 54) 4 (-1) := by simp +decide only [bgM, s_rd, if_true, if_false, ite_true, ite_false]
  have z0 : zn (upd (σ.1 21) 0 (nI 0)) 0 = 0 := zn_0 (if_pos rfl)
  have nd : ∀ p, p < 85 → p ≠ 0 → upd (fil (σ.1 16) 85 (nI 0)) 0 (nI 1) p = nI 0 := fun p hp h0 => by
    rw [show upd (fil (σ.1 16) 85 (nI 0)) 0 (nI 1) p = fil (σ.1 16) 85 (nI 0) p from if_neg h0]; exact if_pos hp
  have n0 : upd (fil (σ.1 16) 85 (nI 0)) 0 (nI 1) 0 = nI 1 := if_pos rfl
  refine ⟨?_, ?_⟩
  · apply Inv0.mk
    case core =>
      rw [hm_C 16 (by decide), hm_C 17 (by decide), hm_C 13 (by decide), hm_C 15 (by decide), hm_C 20 (by decide), hm_C 21 (by decide), hm_C 22 (by decide), hm_C 23 (by decide), hm_C 24 (by decide), c16, c17, c20, c21]
      apply Core.mk
      case mdb => exact ⟨by omega, by omega⟩
      case rcb => omega
      case lvb => exact fun _ => by omega
      case node =>
        intro p hp
        by_cases e : p = 0
        · subst e
          exact Or.inr ⟨1, by omega, by omega, n0, c13, rfl⟩
        · exact Or.inl (nd p hp e)
      case root => rw [n0]; exact n10
      case pars => exact fun p h0 hp hn => absurd (nd p hp (by omega)) hn
      case plc =>
        intro k h1 h2
        have : k = 1 := by omega
        subst this
        exact Or.inr ⟨0, by omega, c13, n0⟩
      case rec => exact fun k hk => Or.inl (if_pos hk)
      case lfs => exact fun r hr => by omega
      case med =>
        intro m hm
        have : m = 0 := by omega
        subst this
        exact ⟨by omega, by rw [z0]; exact if_pos rfl, Or.inl (if_pos rfl)⟩
      case ent =>
        intro m hm i hi
        have : m = 0 := by omega
        subst this
        omega
    case cb => omega
    case kb => omega
    case hk => rw [hm_C 1 (by decide), c1]; exact if_pos rfl
    case hm => rw [hm_C 4 (by decide)]; exact c4
    case hr => rw [hm_C 2 (by decide)]; exact c2
    case ht => rw [hm_C 0 (by decide)]; exact c0
    case tb => omega
    case hk' => rw [hm_M 34 (by decide), m34]; exact if_pos rfl
    case hm' => rw [hm_M 34 (by decide), m34]; rfl
    case hr' => rw [hm_M 34 (by decide), m34]; rfl
    case ht' => rw [hm_M 34 (by decide), m34]; rfl
    case sd => rw [hm_M 34 (by decide), m34, hm_C 1 (by decide), c1]; rfl
    case e35 => rw [hm_M 35 (by decide), m35, hm_C 16 (by decide), c16, e35]
    case e37 => rw [hm_M 37 (by decide), m37, hm_C 17 (by decide), c17, e37]
    case e38 => rw [hm_M 38 (by decide), m38, hm_C 10 (by decide), c10, e38]
    case e41 => rw [hm_M 41 (by decide), m41, hm_C 19 (by decide), c19, e41, fil_clr]
    case e46 => rw [hm_M 46 (by decide), m46, hm_C 22 (by decide), c22, e46]
    case e47 => rw [hm_M 47 (by decide), m47, hm_C 23 (by decide), c23, e47]
    case e48 => rw [hm_M 48 (by decide), m48, hm_C 24 (by decide), c24, e48]
    case e51 => rw [hm_M 51 (by decide), m51, hm_C 15 (by decide), c15, e51]
    case e53 => rw [hm_M 53 (by decide), m53, hm_C 33 (by decide), c33, e53]
    case e54 => rw [hm_M 54 (by decide), m54, hm_C 32 (by decide), c32, e54]
    case e50 => exact (hyJ (by decide)).trans (e50.trans (cJ.symm.trans (hyJ' (by decide)).symm))
    case mdm =>
      intro m hm
      have : m = 0 := by omega
      subst this
      rw [hm_M 44 (by decide), m44, hm_C 20 (by decide), c20, hm_M 45 (by decide), m45, hm_C 21 (by decide), c21]
      exact ⟨rfl, rfl⟩
    case kep =>
      intro q hq
      rw [hm_M 39 (by decide), m39, hm_C 11 (by decide), c11]
      exact Or.inl ⟨fil_i hq, fil_i hq⟩
    case okh =>
      intro q hq
      rw [hm_C 10 (by decide), c10]
      exact Or.inl (fil_i hq)
    case due =>
      intro k hk
      rw [hm_C 18 (by decide), c18, hm_C 17 (by decide), c17]
      unfold dueOf
      rw [fil_i hk, fil_i hk, if_pos rfl]
    case mrk =>
      intro k hk
      rw [hm_C 19 (by decide), c19]
      exact Or.inl (if_pos ⟨by omega, hk⟩)
    case con =>
      intro m hm i hi
      rw [hm_C 21 (by decide), c21] at hi
      have : m = 0 := by omega
      subst this
      omega
    case prl =>
      intro q hq
      rw [hm_C 32 (by decide), c32]
      exact Or.inl (fil_i hq)
  · rw [hm_C 16 (by decide), hm_C 17 (by decide), c16, c17]
    refine ⟨fun k hk => ?_, fun k hk r b hr => by omega⟩
    rw [nd (21 + k) (by omega) (by omega), fil_i hk]
    exact ⟨fun _ => rfl, fun _ => rfl⟩
theorem f97 (h : Inv c kc md rc td lev rk σ) (hc : c < 600) (s : Int32) : FV (d + 8) 97 175 [.ref 0, .int s] [.ref 34, .int s] (c + 1) σ := by
  refine FV.ch (c97 (d + 2) σ s) (bg_M s) (by decide) (okM2 s) (fun W hW => ⟨_, y175 (d + 5) W s, by dsimp only [bgM]; rfl, 1, 1, 0, 0, _, _, Inv.up (c := 0) (bg_inv s ?_ ?_ ?_ ?_ ?_ ?_ ?_ ?_ ?_ ?_ ?_) (by omega) (by omega)⟩)
  · rw [th_ne _ _ (by decide), hW.i 46 (by decide) (by decide)]; exact h.e46
  · rw [th_ne _ _ (by decide), hW.i 47 (by decide) (by decide)]; exact h.e47
  · rw [th_ne _ _ (by decide), hW.i 48 (by decide) (by decide)]; exact h.e48
  · rw [th_ne _ _ (by decide), hW.i 51 (by decide) (by decide)]; exact h.e51
  · rw [th_ne _ _ (by decide), hW.i 53 (by decide) (by decide)]; exact h.e53
  · exact (hW.j 50 (by decide)).trans h.e50
  · rw [th_ne _ _ (by decide), hW.i 35 (by decide) (by decide)]; exact h.e35
  · rw [th_ne _ _ (by decide), hW.i 37 (by decide) (by decide)]; exact h.e37
  · rw [th_ne _ _ (by decide), hW.i 38 (by decide) (by decide)]; exact h.e38
  · rw [th_ne _ _ (by decide), hW.i 41 (by decide) (by decide)]; exact h.e41
  · rw [th_ne _ _ (by decide), hW.i 54 (by decide) (by decide)]; exact h.e54
end RST
