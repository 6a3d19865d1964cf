/-! move: the face -/
section MVF
variable (d : Nat) {c kc md rc td : Nat} {lev rk : Nat → Nat} {σ : am_M}
/-- what a place must be to be moved, and where to -/
abbrev mvO (σ : am_M) (a b : Nat) : Prop := ¬ σ.1 16 a = nI 0 ∧ σ.1 16 b = nI 0 ∧ ¬ ext (bnd (σ.1 17) (σ.1 19) (σ.1 10)) (fst a) (lvs a) = true
/-- the class, up to its room -/
theorem c126 (h : Inv c kc md rc td lev rk σ) {a b : Nat} (ha : 1 ≤ a ∧ a < 85) (hb : 1 ≤ b ∧ b < 85) : (¬ lvl a = lvl b → am_ex (d + 8) 126 [.ref 0, .int (nI a), .int (nI b)] σ = rX xIA (am_tick σ)) ∧ (lvl a = lvl b → ¬ mvO σ a b → am_ex (d + 8) 126 [.ref 0, .int (nI a), .int (nI b)] σ = rX xIS (am_tick σ)) ∧ (lvl a = lvl b → mvO σ a b → am_ex (d + 8) 126 [.ref 0, .int (nI a), .int (nI b)] σ = am_bV (am_ex (d + 7) 146 [.ref 0, .int (nI (eW (σ.1 16) (lvl (par b)) (par b) + 1))] σ) (fun t8 => am_bV (am_ex (d + 7) 153 [.ref 0, .int (nI (par b))] t8) (fun t9 => am_bV (am_ex (d + 7) 92 [.ref 3, .int (nI a), .int (nI b)] t9) (fun t10 => am_bV (am_ex (d + 7) 151 [.ref 0, .int (nI b)] t10) (fun t11 => am_bV (am_ex (d + 7) 93 [.ref 3, .int (nI a)] t11) (fun t12 => am_bI (am_ex (d + 7) 170 [.int (nI b)] t12) (fun r13 t13 => am_bI (am_ex (d + 7) 169 [.int (nI b)] t13) (fun r14 t14 => am_bI (am_ex (d + 7) 88 [.ref 3, .int r13, .int (r13 + r14)] t14) (fun r15 t15 => some (.inl (some (.int r15)), t15)))))))))) := by
  have hla := lvl_3 a
  have hlb := lvl_3 b
  have hpb := par_lt (p := b) (by omega)
  have head : am_ex (d + 8) 126 [.ref 0, .int (nI a), .int (nI b)] σ = if nI (lvl a) = nI (lvl b) then (am_bI (am_ex (d + 7) 78 [.ref 3, .int (nI a)] σ) (fun r3 t3 => if r3 = nI 0 then (am_go am_X0 (am_ex (d + 7)) M126 85 [.ref 0, .int (nI a), .int (nI b), .null, .null] [] t3) else (am_bI (am_ex (d + 7) 78 [.ref 3, .int (nI b)] t3) (fun r4 t4 => if r4 = nI 0 then (am_bI (am_ex (d + 7) 155 [.ref 0, .int (nI a)] t4) (fun r5 t5 => if r5 = nI 0 then (am_bI (am_ex (d + 7) 166 [.int (nI b)] t5) (fun r6 t6 => am_bI (am_ex (d + 7) 90 [.ref 3, .int r6] t6) (fun r7 t7 => am_bV (am_ex (d + 7) 146 [.ref 0, .int (r7 + (nI 1))] t7) (fun t8 => am_bV (am_ex (d + 7) 153 [.ref 0, .int r6] t8) (fun t9 => am_bV (am_ex (d + 7) 92 [.ref 3, .int (nI a), .int (nI b)] t9) (fun t10 => am_bV (am_ex (d + 7) 151 [.ref 0, .int (nI b)] t10) (fun t11 => am_bV (am_ex (d + 7) 93 [.ref 3, .int (nI a)] t11) (fun t12 => am_bI (am_ex (d + 7) 170 [.int (nI b)] t12) (fun r13 t13 => am_bI (am_ex (d + 7) 169 [.int (nI b)] t13) (fun r14 t14 => am_bI (am_ex (d + 7) 88 [.ref 3, .int r13, .int (r13 + r14)] t14) (fun r15 t15 => some (.inl (some (.int r15)), t15)))))))))))) else (am_go am_X0 (am_ex (d + 7)) M126 85 [.ref 0, .int (nI a), .int (nI b), .null, .null] [] t5))) else (am_go am_X0 (am_ex (d + 7)) M126 85 [.ref 0, .int (nI a), .int (nI b), .null, .null] [] t4))))) else (some (.inr "java/lang/IllegalArgumentException", am_tick σ)) := by
    rw [e126, q126_0, if_neg (show ¬ nI a < nI 1 by rw [i_lt, i_n (by omega), i_n (by omega)]; omega), if_neg (show ¬ nI 85 ≤ nI a by rw [i_le, i_n (by omega), i_n (by omega)]; omega), if_neg (show ¬ nI b < nI 1 by rw [i_lt, i_n (by omega), i_n (by omega)]; omega), if_pos (show nI b < nI 85 by rw [i_lt, i_n (by omega), i_n (by omega)]; omega), x165 _ _ ha.2, bI_r, x165 _ _ hb.2, bI_r]
  refine ⟨fun hl => ?_, fun hl hm => ?_, fun hl hm => ?_⟩
  · rw [head, if_neg (fun z => hl (nI_inj (by omega) (by omega) z))]
  · rw [head, if_pos (by rw [hl]), x78, bI_r]
    simp only [bz_0]
    rw [rd_n ha.2 (by omega)]
    by_cases e1 : σ.1 16 a = nI 0
    · rw [if_pos (fun z => z e1), q126_85]
    · rw [if_neg (fun z => z e1), x78, bI_r]
      simp only [bz_0]
      rw [rd_n hb.2 (by omega)]
      by_cases e2 : σ.1 16 b = nI 0
      · rw [if_pos (fun z => z e2), x155 (d + 1) h.okh ha.2, bI_r]
        by_cases e3 : ext (bnd (σ.1 17) (σ.1 19) (σ.1 10)) (fst a) (lvs a) = true
        · rw [bz_t e3, if_neg n10, q126_85]
        · exact absurd ⟨e1, e2, e3⟩ hm
      · rw [if_neg (fun z => z e2), q126_85]
  · obtain ⟨e1, e2, e3⟩ := hm
    rw [head, if_pos (by rw [hl]), x78, bI_r]
    simp only [bz_0]
    rw [rd_n ha.2 (by omega), if_neg (fun z => z e1), x78, bI_r]
    simp only [bz_0]
    rw [rd_n hb.2 (by omega), if_pos (fun z => z e2), x155 (d + 1) h.okh ha.2, bI_r, bz_f e3, if_pos rfl, x166 _ _ (by omega) hb.2, bI_r, x90 (d + 3) σ (by omega), bI_r, nI_add]
/-- the reference, up to its room -/
theorem y246h (h : Inv c kc md rc td lev rk σ) {a b : Nat} (ha : 1 ≤ a ∧ a < 85) (hb : 1 ≤ b ∧ b < 85) {Z : am_M} (hs : Sm σ Z) : (¬ lvl a = lvl b → am_ex (d + 8) 246 [.ref 34, .int (nI a), .int (nI b)] Z = rI (nI 0) (th Z (nI 2))) ∧ (lvl a = lvl b → ¬ (mvO σ a b ∧ rmP σ md (eW (σ.1 16) (lvl (par b)) (par b) + 1)) → am_ex (d + 8) 246 [.ref 34, .int (nI a), .int (nI b)] Z = rI (nI 0) (th Z (nI 3))) ∧ (lvl a = lvl b → mvO σ a b → rmP σ md (eW (σ.1 16) (lvl (par b)) (par b) + 1) → am_ex (d + 8) 246 [.ref 34, .int (nI a), .int (nI b)] Z = am_bI (am_ex (d + 7) 179 [.int (nI b)] (th Z (nI 0))) (fun r1 t1 => am_bV (am_ex (d + 7) 201 [.ref 34, .int r1] t1) (fun t2 => am_bI (am_ex (d + 7) 245 [.ref 34, .int (nI a), .int (nI b)] t2) (fun r3 t3 => if am_in (nI b) 85 = true then (am_bI (am_ex (d + 7) 179 [.int (nI b)] t3) (fun r4 t4 => if am_in r4 85 = true then (am_bV (am_ex (d + 7) 189 [.ref 34, .int (t3.1 35 (nI b : Int32).toNatClampNeg), .int (t4.1 35 (r4 : Int32).toNatClampNeg)] t4) (fun t5 => am_bI (am_ex (d + 7) 179 [.int (nI a)] t5) (fun r6 t6 => am_go am_X0 (am_ex (d + 7)) M246 158 [.ref 34, .int (nI a), .int (nI b), .int r3, .int r6] [] t6))) else none)) else none)))) := by
  have hla := lvl_3 a
  have hlb := lvl_3 b
  have hpb := par_lt (p := b) (by omega)
  have hlp := lvl_par (p := b) (by omega) hb.2
  have sT : Sm σ (th Z (nI 0)) := hs.th _
  have e35 : (th Z (nI 0)).1 35 = σ.1 16 := by rw [sT.i 35 (by decide) (by decide), h.e35]
  have e37 : (th Z (nI 0)).1 37 = σ.1 17 := by rw [sT.i 37 (by decide) (by decide), h.e37]
  have e38 : (th Z (nI 0)).1 38 = σ.1 10 := by rw [sT.i 38 (by decide) (by decide), h.e38]
  have e41 : (th Z (nI 0)).1 41 = σ.1 19 := by rw [sT.i 41 (by decide) (by decide), h.e41]
  have hrg : ∀ p, 1 ≤ p → p < 85 → (1 : Int64).toInt ≤ (nI p).toInt64.toInt ∧ (nI p).toInt64.toInt ≤ (84 : Int64).toInt := fun p h1 h2 => by
    rw [i_64, i_n (by omega), show (1 : Int64).toInt = 1 by decide +kernel, show (84 : Int64).toInt = 84 by decide +kernel]; omega
  have hew : ∀ e2 : σ.1 16 b = nI 0, eW (σ.1 16) (lvl b) b = eW (σ.1 16) (lvl (par b)) (par b) + 1 := fun e2 => by
    rw [← hlp, eW, if_pos e2]
  have head : am_ex (d + 8) 246 [.ref 34, .int (nI a), .int (nI b)] Z = if nI (lvl a) = nI (lvl b) then (am_go am_X0 (am_ex (d + 7)) M246 45 [.ref 34, .int (nI a), .int (nI b), .null, .null] [.int (nI 0), .ref 34] Z) else (am_go am_X0 (am_ex (d + 7)) M246 45 [.ref 34, .int (nI a), .int (nI b), .null, .null] [.int (nI 2), .ref 34] Z) := by
    rw [e246, q246_0, x173, bI_r, bz_t (hrg a ha.1 ha.2), if_neg n10, x173, bI_r, bz_t (hrg b hb.1 hb.2), if_neg n10, x180 _ _ ha.2, bI_r, x180 _ _ hb.2, bI_r]
  have h3 : ∀ V, am_go am_X0 (am_ex (d + 7)) M246 101 [.ref 34, .int (nI a), .int (nI b), .null, .null] [.ref 34] V = rI (nI 0) (th V (nI 3)) := fun V => by
    rw [q246_101, q246_106, th_w, th_v, if_neg (by decide)]
  have hex : ext (bnd ((th Z (nI 0)).1 37) ((th Z (nI 0)).1 41) ((th Z (nI 0)).1 38)) (fst a) (lvs a) = ext (bnd (σ.1 17) (σ.1 19) (σ.1 10)) (fst a) (lvs a) := by rw [e37, e41, e38]
  have h244 := y244 (d + 3) (Y := th Z (nI 0)) (by rw [e38]; exact h.okh) ha.2
  have hN : eW (σ.1 16) (lvl (par b)) (par b) + 1 < 1000 := by
    have := eW_le (σ.1 16) (lvl (par b)) (par b)
    have := lvl_3 (par b)
    omega
  refine ⟨fun hl => ?_, fun hl hm => ?_, fun hl hm hr => ?_⟩
  · rw [head, if_neg (fun z => hl (nI_inj (by omega) (by omega) z)), q246_45, th_w, th_v, if_neg (by decide)]
  · rw [head, if_pos (by rw [hl]), q246_45, th_w, th_v, if_pos le00, if_pos (am_k ha.2 (by omega)), i_cl (show a < 2 ^ 31 by omega), i_cl (show b < 2 ^ 31 by omega), e35]
    by_cases e1 : σ.1 16 a = nI 0
    · rw [if_pos e1, h3, th_th]
    · rw [if_neg e1, if_pos (am_k hb.2 (by omega))]
      by_cases e2 : σ.1 16 b = nI 0
      · rw [if_pos e2, h244, bI_r]
        by_cases e3 : ext (bnd (σ.1 17) (σ.1 19) (σ.1 10)) (fst a) (lvs a) = true
        · rw [bz_t (by rw [hex]; exact e3), if_neg n10, h3, th_th]
        · rw [bz_f (by rw [hex]; exact e3), if_pos rfl, y186m (d + 6) h.base sT.em, bI_r, y200 (d + 5) _ hb.2, bI_r, e35, hew e2, y187m (d + 6) h.base sT.em (wrt_o _ h.base (-1)) hN, bI_r]
          by_cases hr : rmP σ md (eW (σ.1 16) (lvl (par b)) (par b) + 1)
          · exact absurd ⟨⟨e1, e2, e3⟩, hr⟩ hm
          · rw [bz_f hr, if_pos rfl, h3, th_th]
      · rw [if_neg e2, h3, th_th]
  · obtain ⟨e1, e2, e3⟩ := hm
    rw [head, if_pos (by rw [hl]), q246_45, th_w, th_v, if_pos le00, if_pos (am_k ha.2 (by omega)), i_cl (show a < 2 ^ 31 by omega), i_cl (show b < 2 ^ 31 by omega), e35, if_neg e1, if_pos (am_k hb.2 (by omega)), if_pos e2, h244, bI_r, bz_f (by rw [hex]; exact e3), if_pos rfl, y186m (d + 6) h.base sT.em, bI_r, y200 (d + 5) _ hb.2, bI_r, e35, hew e2, y187m (d + 6) h.base sT.em (wrt_o _ h.base (-1)) hN, bI_r, bz_t hr, if_neg n10, q246_106, th_w, th_v, if_pos le00, th_th, i_cl (show b < 2 ^ 31 by omega)]
end MVF
