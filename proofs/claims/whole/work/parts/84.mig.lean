/-! migrate -/
section MGR
variable (d : Nat) {c kc md rc td : Nat} {lev rk : Nat → Nat} {σ : am_M}
theorem y252f {J Y : am_M} (h : Inv c kc md rc td lev rk J) (hY : EqM J Y) {m i : Nat} (hm : m < md) (hi : i < zn (J.1 21) m) : am_ex (d + 3) 252 [.ref 34, .int (nI m), .int (nI (m * 150 + i))] Y = rI (bz (ndP J md m (m * 150 + i))) Y := by
  have hs : Sm J (hy aM J Y) := Sm.mix (EqC.refl J |> fun z => ⟨z.i, z.j, rfl⟩) hY
  have hI := h.sm hs
  have hrun := y252 d (hy aM J Y) hI hm (i := i) (by rw [hs.i 21 (by decide) (by decide)]; exact hi)
  rw [bz_c (nd_sm hs md m (m * 150 + i))] at hrun
  exact frM_id (by decide) (okM3 _ _) (hy_hy aM J Y) hrun
theorem ndL_pre (md m i : Nat) : ∀ k, ∃ r, ndL σ md m (i + k) = ndL σ md m i ++ r := by
  intro k
  induction k with
  | zero => exact ⟨[], by rw [List.append_nil]; rfl⟩
  | succ k ih =>
    obtain ⟨r, e⟩ := ih
    show ∃ r, ndL σ md m (i + k + 1) = _
    rw [ndL]
    by_cases h : ndP σ md m (m * 150 + (i + k))
    · rw [if_pos h, e]; exact ⟨r ++ [m * 150 + (i + k)], by rw [List.append_assoc]⟩
    · rw [if_neg h]; exact ⟨r, e⟩
theorem ndL_at {md m i z : Nat} (hi : i < z) (h : ndP σ md m (m * 150 + i)) : (ndL σ md m z).getD (ndL σ md m i).length 0 = m * 150 + i ∧ (ndL σ md m i).length < (ndL σ md m z).length := by
  obtain ⟨r, e⟩ := ndL_pre (σ := σ) md m (i + 1) (z - (i + 1))
  rw [show i + 1 + (z - (i + 1)) = z by omega] at e
  have e2 : ndL σ md m (i + 1) = ndL σ md m i ++ [m * 150 + i] := by rw [ndL, if_pos h]
  have hlen : (ndL σ md m i).length < (ndL σ md m (i + 1)).length := by rw [e2, List.length_append]; simp
  rw [e, gD_l _ _ hlen, e2, gD_r, List.length_append, List.length_append]
  refine ⟨rfl, ?_⟩
  simp only [List.length_cons, List.length_nil]
  omega
/-- where migrating stands -/
abbrev Mp (c kc md rc td : Nat) (lev rk : Nat → Nat) (σ : am_M) (m t s i N : Nat) (J : am_M) : Prop := (Inv0 (c - N) kc md rc td lev rk J) ∧ (FW σ J) ∧ (J.2.2 = σ.2.2) ∧ (zn (J.1 21) t = s + N) ∧ (∀ m', m' < md → m' ≠ t → J.1 21 m' = σ.1 21 m' ∧ ∀ j, j < zn (σ.1 21) m' → J.1 22 (m' * 150 + j) = σ.1 22 (m' * 150 + j) ∧ J.1 23 (m' * 150 + j) = σ.1 23 (m' * 150 + j) ∧ J.1 24 (m' * 150 + j) = σ.1 24 (m' * 150 + j)) ∧ (∀ q, 1 ≤ q → q < 149 → (∀ j, j < i → ¬ isE σ q (m * 150 + j)) → (onP J t q ↔ onP σ t q))
theorem Mp.v {c kc md rc td : Nat} {lev rk : Nat → Nat} {σ : am_M} {m t s i N : Nat} {J : am_M} (h : Mp c kc md rc td lev rk σ m t s i N J) : Inv0 (c - N) kc md rc td lev rk J := h.1
theorem Mp.fw {c kc md rc td : Nat} {lev rk : Nat → Nat} {σ : am_M} {m t s i N : Nat} {J : am_M} (h : Mp c kc md rc td lev rk σ m t s i N J) : FW σ J := h.2.1
theorem Mp.nn {c kc md rc td : Nat} {lev rk : Nat → Nat} {σ : am_M} {m t s i N : Nat} {J : am_M} (h : Mp c kc md rc td lev rk σ m t s i N J) : J.2.2 = σ.2.2 := h.2.2.1
theorem Mp.sz {c kc md rc td : Nat} {lev rk : Nat → Nat} {σ : am_M} {m t s i N : Nat} {J : am_M} (h : Mp c kc md rc td lev rk σ m t s i N J) : zn (J.1 21) t = s + N := h.2.2.2.1
theorem Mp.ot {c kc md rc td : Nat} {lev rk : Nat → Nat} {σ : am_M} {m t s i N : Nat} {J : am_M} (h : Mp c kc md rc td lev rk σ m t s i N J) : ∀ m', m' < md → m' ≠ t → J.1 21 m' = σ.1 21 m' ∧ ∀ j, j < zn (σ.1 21) m' → J.1 22 (m' * 150 + j) = σ.1 22 (m' * 150 + j) ∧ J.1 23 (m' * 150 + j) = σ.1 23 (m' * 150 + j) ∧ J.1 24 (m' * 150 + j) = σ.1 24 (m' * 150 + j) := h.2.2.2.2.1
theorem Mp.on {c kc md rc td : Nat} {lev rk : Nat → Nat} {σ : am_M} {m t s i N : Nat} {J : am_M} (h : Mp c kc md rc td lev rk σ m t s i N J) : ∀ q, 1 ≤ q → q < 149 → (∀ j, j < i → ¬ isE σ q (m * 150 + j)) → (onP J t q ↔ onP σ t q) := h.2.2.2.2.2
theorem Mp.mk {c kc md rc td : Nat} {lev rk : Nat → Nat} {σ : am_M} {m t s i N : Nat} {J : am_M} (v : Inv0 (c - N) kc md rc td lev rk J) (fw : FW σ J) (nn : J.2.2 = σ.2.2) (sz : zn (J.1 21) t = s + N) (ot : ∀ m', m' < md → m' ≠ t → J.1 21 m' = σ.1 21 m' ∧ ∀ j, j < zn (σ.1 21) m' → J.1 22 (m' * 150 + j) = σ.1 22 (m' * 150 + j) ∧ J.1 23 (m' * 150 + j) = σ.1 23 (m' * 150 + j) ∧ J.1 24 (m' * 150 + j) = σ.1 24 (m' * 150 + j)) (on : ∀ q, 1 ≤ q → q < 149 → (∀ j, j < i → ¬ isE σ q (m * 150 + j)) → (onP J t q ↔ onP σ t q)) : Mp c kc md rc td lev rk σ m t s i N J := ⟨v, fw, nn, sz, ot, on⟩
theorem Mp.iE {m t s i N : Nat} {J : am_M} (h : Mp c kc md rc td lev rk σ m t s i N J) {m' j : Nat} (hm : m' < md) (hne : m' ≠ t) (hj : j < zn (σ.1 21) m') (q : Nat) : isE J q (m' * 150 + j) ↔ isE σ q (m' * 150 + j) := by
  obtain ⟨a, b, e⟩ := (h.ot m' hm hne).2 j hj
  unfold isE entP
  rw [a, b, e, h.fw.i 16 (by decide), h.fw.i 17 (by decide)]
theorem Mp.onO {m t s i N : Nat} {J : am_M} (h : Mp c kc md rc td lev rk σ m t s i N J) {m' : Nat} (hm : m' < md) (hne : m' ≠ t) (q : Nat) : onP J m' q ↔ onP σ m' q := by
  have e1 : zn (J.1 21) m' = zn (σ.1 21) m' := by unfold zn; rw [(h.ot m' hm hne).1]
  unfold onP
  rw [e1, ext_c (fun a a1 a2 => by
    obtain ⟨j, rfl⟩ : ∃ j, a = m' * 150 + j := ⟨a - m' * 150, by omega⟩
    exact h.iE hm hne (by omega) q)]
theorem Mp.nd {m t s i N : Nat} {J : am_M} (h : Mp c kc md rc td lev rk σ m t s i N J) (hm : m < md) (hmt : m ≠ t) (hi : i < zn (σ.1 21) m) : ndP J md m (m * 150 + i) ↔ ndP σ md m (m * 150 + i) := by
  rw [ndP_iff, ndP_iff]
  have hext : ∀ q, ext (isE J q) (m * 150) i = true ↔ ext (isE σ q) (m * 150) i = true := fun q => by
    rw [ext_c (fun a a1 a2 => by
      obtain ⟨j, rfl⟩ : ∃ j, a = m * 150 + j := ⟨a - m * 150, by omega⟩
      exact h.iE hm hmt (by omega) q)]
  have hin : ∀ q, 1 ≤ q → q < 149 → ¬ ext (isE σ q) (m * 150) i = true → (inP J md (nI m) q ↔ inP σ md (nI m) q) := fun q q1 q2 hno => by
    have e0 : ext (inB J (nI m) q) 0 md = ext (inB σ (nI m) q) 0 md := ext_c (fun m' _ hm' => by
      unfold inB
      rw [h.fw.i 20 (by decide)]
      by_cases e : m' = t
      · rw [e, h.on q q1 q2 (fun j hj z => hno ((ext_iff _ _ _).mpr ⟨m * 150 + j, by omega, by omega, z⟩))]
      · rw [h.onO (by omega) e q])
    unfold inP
    rw [e0]
  constructor
  · rintro ⟨q, q1, q2, a, b, e⟩
    rw [Nat.add_sub_cancel_left] at e
    rw [hext q] at e
    refine ⟨q, q1, q2, (h.iE hm hmt hi q).mp a, fun z => b ((hin q q1 q2 e).mpr z), ?_⟩
    rw [Nat.add_sub_cancel_left]; exact e
  · rintro ⟨q, q1, q2, a, b, e⟩
    rw [Nat.add_sub_cancel_left] at e
    refine ⟨q, q1, q2, (h.iE hm hmt hi q).mpr a, fun z => b ((hin q q1 q2 e).mp z), ?_⟩
    rw [Nat.add_sub_cancel_left, hext q]; exact e
/-- one entry more -/
theorem Mp.step (h0 : Inv c kc md rc td lev rk σ) {m t s i N : Nat} {J : am_M} (h : Mp c kc md rc td lev rk σ m t s i N J) (hm : m < md) (ht : t < md) (hmt : m ≠ t) (hst : σ.1 20 t = nI 0) (hi : i < zn (σ.1 21) m) (hs : s + N < 150) : Mp c kc md rc td lev rk σ m t s (i + 1) (N + 1) (JW J t (s + N) (σ.1 22 (m * 150 + i)) (σ.1 23 (m * 150 + i)) (σ.1 24 (m * 150 + i)) (J.2.1 49 (m * 150 + i))) := by
  have hmb := h0.core.mdb
  obtain ⟨o1, o2⟩ := h.ot m hm hmt
  obtain ⟨b1, b2, b3⟩ := o2 i hi
  have hzm : zn (J.1 21) m = zn (σ.1 21) m := by unfold zn; rw [o1]
  have hok : okE kc rc lev rk (J.1 1 1) (J.2.1 14) (σ.1 22 (m * 150 + i)) (σ.1 23 (m * 150 + i)) (σ.1 24 (m * 150 + i)) (J.2.1 49 (m * 150 + i)) := by
    have hcon := h.v.con m hm i (by rw [hzm]; exact hi)
    rw [b1, b2, b3] at hcon
    rcases h0.core.ent m hm i hi with ⟨a1, x, y, a2⟩ | ⟨a1, r, y, a2⟩
    · exact Or.inl ⟨a1, by rw [hcon, if_pos a1], x, y, a2⟩
    · exact Or.inr ⟨a1, by rw [hcon, if_neg (by rw [a1]; exact n10)], r, y, a2⟩
  have hv := h.v.wr ht (by rw [h.fw.i 20 (by decide)]; exact hst) h.sz hs hok
  have hF2 := FW.jw J t (s + N) (σ.1 22 (m * 150 + i)) (σ.1 23 (m * 150 + i)) (σ.1 24 (m * 150 + i)) (J.2.1 49 (m * 150 + i))
  generalize hJ' : JW J t (s + N) (σ.1 22 (m * 150 + i)) (σ.1 23 (m * 150 + i)) (σ.1 24 (m * 150 + i)) (J.2.1 49 (m * 150 + i)) = J' at hF2
  have g21 : J'.1 21 = upd (J.1 21) t (nI (s + N + 1)) := by rw [← hJ']; simp +decide only [JW, wrM, wrE, s_rd, sJ_I, if_true, if_false, ite_true, ite_false]
  have g22 : J'.1 22 = upd (J.1 22) (t * 150 + (s + N)) (σ.1 22 (m * 150 + i)) := by rw [← hJ']; simp +decide only [JW, wrM, wrE, s_rd, sJ_I, if_true, if_false, ite_true, ite_false]
  have g23 : J'.1 23 = upd (J.1 23) (t * 150 + (s + N)) (σ.1 23 (m * 150 + i)) := by rw [← hJ']; simp +decide only [JW, wrM, wrE, s_rd, sJ_I, if_true, if_false, ite_true, ite_false]
  have g24 : J'.1 24 = upd (J.1 24) (t * 150 + (s + N)) (σ.1 24 (m * 150 + i)) := by rw [← hJ']; simp +decide only [JW, wrM, wrE, s_rd, sJ_I, if_true, if_false, ite_true, ite_false]
  have hold : ∀ a, a ≠ t * 150 + (s + N) → J'.1 22 a = J.1 22 a ∧ J'.1 23 a = J.1 23 a ∧ J'.1 24 a = J.1 24 a := fun a ha => by
    rw [g22, g23, g24]
    exact ⟨if_neg ha, if_neg ha, if_neg ha⟩
  refine ⟨?_, h.fw.trans hF2, by rw [← hJ']; exact h.nn, ?_, fun m' hm' hne => ?_, fun q q1 q2 hno => ?_⟩
  · have hv2 : Inv0 (c - N - 1) kc md rc td lev rk J' := by rw [← hJ']; exact hv
    rw [Nat.sub_sub] at hv2
    exact hv2
  · unfold zn; rw [g21, show upd (J.1 21) t (nI (s + N + 1)) t = nI (s + N + 1) from if_pos rfl, i_cl (by omega)]; omega
  · obtain ⟨c1, c2⟩ := h.ot m' hm' hne
    have hz := (h0.core.med m' hm').1
    refine ⟨by rw [g21, show upd (J.1 21) t (nI (s + N + 1)) m' = J.1 21 m' from if_neg hne]; exact c1, fun j hj => ?_⟩
    obtain ⟨d1, d2, d3⟩ := hold (m' * 150 + j) (by omega)
    rw [d1, d2, d3]; exact c2 j hj
  · rw [← h.on q q1 q2 (fun j hj => hno j (by omega))]
    have hzn : zn (J'.1 21) t = s + N + 1 := by
      unfold zn; rw [g21, show upd (J.1 21) t (nI (s + N + 1)) t = nI (s + N + 1) from if_pos rfl, i_cl (by omega)]
    have hEq : ∀ a, a ≠ t * 150 + (s + N) → (isE J' q a ↔ isE J q a) := fun a ha => by
      obtain ⟨d1, d2, d3⟩ := hold a ha
      unfold isE entP
      rw [d1, d2, d3, hF2.i 16 (by decide), hF2.i 17 (by decide)]
    unfold onP
    rw [hzn, h.sz, ext_s]
    constructor
    · rintro (z | z)
      · obtain ⟨a, c1, c2, c3⟩ := (ext_iff _ _ _).mp z
        exact (ext_iff _ _ _).mpr ⟨a, c1, c2, (hEq a (by omega)).mp c3⟩
      · exfalso
        refine hno i (by omega) ?_
        obtain ⟨c1, c2, c3⟩ := (isE_iff _ _ _).mp z
        have hsp := sp_fw (h.fw.trans hF2) q
        rw [g22, show upd (J.1 22) (t * 150 + (s + N)) (σ.1 22 (m * 150 + i)) (t * 150 + (s + N)) = σ.1 22 (m * 150 + i) from if_pos rfl] at c1
        rw [g23, show upd (J.1 23) (t * 150 + (s + N)) (σ.1 23 (m * 150 + i)) (t * 150 + (s + N)) = σ.1 23 (m * 150 + i) from if_pos rfl, hsp.1] at c2
        rw [g24, show upd (J.1 24) (t * 150 + (s + N)) (σ.1 24 (m * 150 + i)) (t * 150 + (s + N)) = σ.1 24 (m * 150 + i) from if_pos rfl, hsp.2] at c3
        exact (isE_iff _ _ _).mpr ⟨c1, c2, c3⟩
    · intro z
      obtain ⟨a, c1, c2, c3⟩ := (ext_iff _ _ _).mp z
      exact Or.inl ((ext_iff _ _ _).mpr ⟨a, c1, c2, (hEq a (by omega)).mpr c3⟩)
theorem migJ (d2 : Nat) (h : Inv c kc md rc td lev rk σ) {m t s : Nat} (hm : m < md) (ht : t < md) (hmt : m ≠ t) (hst : σ.1 20 t = nI 0) (hs : zn (σ.1 21) t = s) (hroom : s + (ndL σ md m (zn (σ.1 21) m)).length ≤ 150) {g : Nat → Int32} (hg : ∀ q, q < (ndL σ md m (zn (σ.1 21) m)).length → g q = nI ((ndL σ md m (zn (σ.1 21) m)).getD q 0)) (v3 : Int32) : ∀ i, i ≤ zn (σ.1 21) m → ∃ J, Mp c kc md rc td lev rk σ m t s i (ndL σ md m i).length J ∧ (∀ X, EqC σ X → X.1 28 = g → ∃ X', am_go am_X0 (am_ex (d + 4)) M134 61 [.ref 0, .int (nI m), .int (nI (ndL σ md m (zn (σ.1 21) m)).length), .int (nI t), .int (nI 0)] [] X = am_go am_X0 (am_ex (d + 4)) M134 61 [.ref 0, .int (nI m), .int (nI (ndL σ md m (zn (σ.1 21) m)).length), .int (nI t), .int (nI (ndL σ md m i).length)] [] X' ∧ EqC J X' ∧ EqM X X' ∧ X'.1 28 = g) ∧ (∀ Y, EqM σ Y → ∃ Y', am_go am_X0 (am_ex (d2 + 3)) M259 82 [.ref 34, .int (nI m), .int (nI t), .int v3, .int (nI (m * 150))] [] Y = am_go am_X0 (am_ex (d2 + 3)) M259 82 [.ref 34, .int (nI m), .int (nI t), .int v3, .int (nI (m * 150 + i))] [] Y' ∧ EqM J Y' ∧ Kp Y Y') := by
  have hmb := h.core.mdb
  have hz := (h.core.med m hm).1
  intro i
  induction i with
  | zero =>
    intro _
    refine ⟨σ, ⟨h.base, FW.refl σ, rfl, by rw [hs]; rfl, fun _ _ _ => ⟨rfl, fun _ _ => ⟨rfl, rfl, rfl⟩⟩, fun _ _ _ _ => Iff.rfl⟩, fun X eX e28 => ⟨X, rfl, eX, EqM.refl X, e28⟩, fun Y eY => ⟨Y, rfl, eY, Kp.refl Y⟩⟩
  | succ i ih =>
    intro hi
    obtain ⟨J, hP, hX, hY⟩ := ih (by omega)
    have hzm : zn (J.1 21) m = zn (σ.1 21) m := by unfold zn; rw [(hP.ot m hm hmt).1]
    have hIJ : Inv (c - (ndL σ md m i).length) kc md rc td lev rk J := ⟨hP.v, by rw [hP.fw.i 16 (by decide), hP.fw.i 17 (by decide)]; exact h.lf⟩
    have hnd := hP.nd hm hmt (by omega)
    obtain ⟨b1, b2, b3⟩ := (hP.ot m hm hmt).2 i (by omega)
    -- the reference looks at entry i
    have hml : ∀ Y', EqM J Y' → am_go am_X0 (am_ex (d2 + 3)) M259 82 [.ref 34, .int (nI m), .int (nI t), .int v3, .int (nI (m * 150 + i))] [] Y' = if ndP σ md m (m * 150 + i) then am_bV (am_ex (d2 + 3) 188 [.ref 34, .int (nI t), .int (σ.1 22 (m * 150 + i)), .int (σ.1 23 (m * 150 + i)), .int (σ.1 24 (m * 150 + i)), .long (J.2.1 49 (m * 150 + i))] Y') (fun t2 => am_go am_X0 (am_ex (d2 + 3)) M259 82 [.ref 34, .int (nI m), .int (nI t), .int v3, .int (nI (m * 150 + (i + 1)))] [] t2) else am_go am_X0 (am_ex (d2 + 3)) M259 82 [.ref 34, .int (nI m), .int (nI t), .int v3, .int (nI (m * 150 + (i + 1)))] [] Y' := by
      intro Y' eY'
      have y45 : Y'.1 45 m = nI (zn (σ.1 21) m) := by rw [eY'.i 45 (by decide) (by decide) (by decide), hP.v.s45 hm, hzm]
      have y46 : Y'.1 46 = J.1 22 := by rw [eY'.i 46 (by decide) (by decide) (by decide), hP.v.e46]
      have y47 : Y'.1 47 = J.1 23 := by rw [eY'.i 47 (by decide) (by decide) (by decide), hP.v.e47]
      have y48 : Y'.1 48 = J.1 24 := by rw [eY'.i 48 (by decide) (by decide) (by decide), hP.v.e48]
      rw [q259_82, if_pos (am_k (by omega) (by omega)), i_cl (by omega), y45, mx150, nI_add (m * 150) (zn (σ.1 21) m), if_neg (show ¬ nI (m * 150 + zn (σ.1 21) m) ≤ nI (m * 150 + i) by rw [i_le, i_n (by omega), i_n (by omega)]; omega), y252f d2 hIJ eY' hm (i := i) (by rw [hzm]; omega), bI_r, show nI (m * 150 + i) + nI 1 = nI (m * 150 + (i + 1)) from nI_1 _, if_pos (am_k (by omega) (by omega)), if_pos (am_k (by omega) (by omega)), if_pos (am_k (by omega) (by omega)), if_pos (am_k (by omega) (by omega)), i_cl (by omega), y46, y47, y48, eY'.j]
      by_cases e : ndP σ md m (m * 150 + i)
      · rw [bz_t (hnd.mpr e), if_neg n10, if_pos e, b1, b2, b3]
      · rw [bz_f (fun z => e (hnd.mp z)), if_pos rfl, if_neg e]
    rw [ndL]
    by_cases e : ndP σ md m (m * 150 + i)
    · rw [if_pos e, List.length_append, show [m * 150 + i].length = 1 from rfl]
      obtain ⟨g1, g2⟩ := ndL_at (σ := σ) (z := zn (σ.1 21) m) (by omega) e
      have hstep := hP.step h hm ht hmt hst (by omega) (by omega)
      refine ⟨_, hstep, fun X eX e28 => ?_, fun Y eY => ?_⟩
      · obtain ⟨X', k1, k2, k3, k4⟩ := hX X eX e28
        refine ⟨wrE X' t (s + (ndL σ md m i).length) (σ.1 22 (m * 150 + i)) (σ.1 23 (m * 150 + i)) (σ.1 24 (m * 150 + i)), ?_, JW_C k2 _ _ _ _ _ _, wrE_M k3 _ _ _ _ _, ?_⟩
        · have hlen : (ndL σ md m (zn (σ.1 21) m)).length ≤ 150 := by omega
          have x22 : X'.1 22 = J.1 22 := k2.i 22 (by decide) (by decide)
          have x23 : X'.1 23 = J.1 23 := k2.i 23 (by decide) (by decide)
          have x24 : X'.1 24 = J.1 24 := k2.i 24 (by decide) (by decide)
          have r40 := x40 d X' (by rw [k2.i 4 (by decide) (by decide)]; exact hP.v.hm) hmb.2 ht (by rw [k2.i 20 (by decide) (by decide), hP.fw.i 20 (by decide)]; exact hst) (s := s + (ndL σ md m i).length) (by rw [k2.i 21 (by decide) (by decide), (hP.v.core.med t ht).2.1, hP.sz]) (by omega) (σ.1 22 (m * 150 + i)) (σ.1 23 (m * 150 + i)) (σ.1 24 (m * 150 + i))
          rw [k1, q134_61, if_neg (by rw [i_le, i_n (by omega), i_n (by omega)]; omega), e8, q8_0, if_neg (by rw [i_lt, i_n (by omega), i_n (by omega)]; omega), if_neg (by rw [i_le, i_n (by omega), i_n (by omega)]; omega), if_pos (am_k (by omega) (by omega)), i_cl (by omega), bI_r, k4, hg _ g2, g1, e41, q41_0, x43, bI_r, rd_n (by omega) (by omega), x44, bI_r, rd_n (by omega) (by omega), x45, bI_r, rd_n (by omega) (by omega), x22, x23, x24, b1, b2, b3, r40, bV_r, bV_r, show nI (ndL σ md m i).length + nI 1 = nI ((ndL σ md m i).length + 1) from nI_1 _]
        · rw [← k4]; unfold wrE; rw [s_ne _ _ (by decide), s_ne _ _ (by decide), s_ne _ _ (by decide), s_ne _ _ (by decide)]
      · obtain ⟨Y', k1, k2, k3⟩ := hY Y eY
        refine ⟨_, ?_, JW_M k2 _ _ _ _ _ _, k3.w _ _ _ _ _ _⟩
        have y45t : Y'.1 45 t = nI (s + (ndL σ md m i).length) := by rw [k2.i 45 (by decide) (by decide) (by decide), hP.v.s45 ht, hP.sz]
        rw [k1, hml Y' k2, if_pos e, y188 (d2 + 2) Y' (by omega) y45t (by omega), bV_r]
    · rw [if_neg e]
      refine ⟨J, ⟨hP.v, hP.fw, hP.nn, hP.sz, hP.ot, fun q q1 q2 hno => hP.on q q1 q2 (fun j hj => hno j (by omega))⟩, hX, fun Y eY => ?_⟩
      obtain ⟨Y', k1, k2, k3⟩ := hY Y eY
      exact ⟨Y', by rw [k1, hml Y' k2, if_neg e], k2, k3⟩
end MGR
