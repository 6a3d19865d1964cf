/-! duplicate -/
section DUP
variable (d : Nat) {c kc md rc td : Nat} {lev rk : Nat → Nat} {σ : am_M}
/-- a run of the reference that changes nothing, told from a memory with other cells of the class -/
theorem frM_id {D m : Nat} {bs : List Value} {B Z : am_M} {r : am_R} (hk : qM m = true) (hb : okL aM bs) (hB : hy aM B Z = B) (e : am_ex D m bs B = some (r, B)) : am_ex D m bs Z = some (r, Z) := by
  obtain ⟨Y, e1, h1, h2⟩ := frM_run hk hb hB e
  have : Y = Z := by
    have hI : Y.1 = Z.1 := by
      funext a
      by_cases ea : aM a = true
      · have a1 : Y.1 a = B.1 a := by rw [← h1]; exact (hyI ea).symm
        have a2 : B.1 a = Z.1 a := by rw [← hB]; exact hyI ea
        rw [a1, a2]
      · rw [← h2]; exact hyI' (by simpa using ea)
    have hJ : Y.2.1 = Z.2.1 := by
      funext a
      by_cases ea : aM a = true
      · have a1 : Y.2.1 a = B.2.1 a := by rw [← h1]; exact (hyJ ea).symm
        have a2 : B.2.1 a = Z.2.1 a := by rw [← hB]; exact hyJ ea
        rw [a1, a2]
      · rw [← h2]; exact hyJ' (by simpa using ea)
    have hN : Y.2.2 = Z.2.2 := by
      have a1 : Y.2.2 = B.2.2 := by rw [← h1]; rfl
      have a2 : B.2.2 = Z.2.2 := by rw [← hB]; rfl
      rw [a1, a2]
    exact Prod.ext hI (Prod.ext hJ hN)
  rw [e1, this]
theorem hy_hy (A : Nat → Bool) (σ Z : am_M) : hy A (hy A σ Z) Z = hy A σ Z := by
  unfold hy
  have e1 : (fun a => if A a = true then Z.1 a else (fun a => if A a = true then Z.1 a else σ.1 a) a) = fun a => if A a = true then Z.1 a else σ.1 a := by
    funext a
    by_cases e : A a = true
    · simp [e]
    · simp [e]
  have e2 : (fun a => if A a = true then Z.2.1 a else (fun a => if A a = true then Z.2.1 a else σ.2.1 a) a) = fun a => if A a = true then Z.2.1 a else σ.2.1 a := by
    funext a
    by_cases e : A a = true
    · simp [e]
    · simp [e]
  simp only [e1, e2]
theorem okM5 (a b e f : Int32) : okL aM [.ref 34, .int a, .int b, .int e, .int f] := okL_c.mpr ⟨rfl, okL_c.mpr ⟨rfl, okL_c.mpr ⟨rfl, okL_c.mpr ⟨rfl, okL_c.mpr ⟨rfl, fun v hv => by cases hv⟩⟩⟩⟩⟩
/-- a live entry that medium t lacks -/
abbrev lkP (σ : am_M) (md t s : Nat) : Prop := ¬ onP σ t s ∧ inP σ md (nI t) s
theorem y263 {J Y : am_M} (h : Inv c kc md rc td lev rk J) (hY : EqM J Y) {t : Nat} (ht : t < md) (s : Nat) : am_ex (d + 3) 263 [.ref 34, .int (nI t), .int (sKi s), .int (sIn J s), .int (sOu J s)] Y = rI (bz (lkP J md t s)) Y := by
  have hs : Sm J (hy aM J Y) := Sm.mix (EqC.refl J |> fun z => ⟨z.i, z.j, rfl⟩) hY
  have hI := h.sm hs
  have e16 : (hy aM J Y).1 16 = J.1 16 := hs.i 16 (by decide) (by decide)
  have e17 : (hy aM J Y).1 17 = J.1 17 := hs.i 17 (by decide) (by decide)
  have ei : sIn (hy aM J Y) s = sIn J s := by unfold sIn; rw [e16, e17]
  have eo : sOu (hy aM J Y) s = sOu J s := by unfold sOu; rw [e16]
  have e1 := y191s (d + 1) (hy aM J Y) hI ht s
  have e2 := y192 d (hy aM J Y) hI (nI t) s
  rw [ei, eo] at e1 e2
  have hon : ∀ m s, onP (hy aM J Y) m s ↔ onP J m s := fun m s => by
    unfold onP isE
    rw [e16, e17, hs.i 22 (by decide) (by decide), hs.i 23 (by decide) (by decide), hs.i 24 (by decide) (by decide), hs.i 21 (by decide) (by decide)]
  have hin : inP (hy aM J Y) md (nI t) s ↔ inP J md (nI t) s := by
    unfold inP
    rw [ext_c (fun j _ _ => by unfold inB; rw [hon, hs.i 20 (by decide) (by decide)])]
  have hrun : am_ex (d + 3) 263 [.ref 34, .int (nI t), .int (sKi s), .int (sIn J s), .int (sOu J s)] (hy aM J Y) = rI (bz (lkP J md t s)) (hy aM J Y) := by
    rw [e263, q263_0, e1, bI_r, e2, bI_r]
    by_cases a : onP J t s
    · rw [bz_t ((hon t s).mpr a), if_neg n10, bz_f (fun z => z.1 a)]
    · rw [bz_f (fun z => a ((hon t s).mp z)), if_pos rfl]
      by_cases b : inP J md (nI t) s
      · rw [bz_t (hin.mpr b), if_neg n10, bz_t ⟨a, b⟩]
      · rw [bz_f (fun z => b (hin.mp z)), if_pos rfl, bz_f (fun z => b z.2)]
  exact frM_id (by decide) (okM5 _ _ _ _) (hy_hy aM J Y) hrun
theorem bt_8 : ∀ t, t < 8 → ∀ a, a < 256 → (nI a &&& (nI 1 <<< (nI t &&& 31)) = nI 0 ↔ ¬ a.testBit t = true) := by decide +kernel
/-- missing on medium t: the class's masks -/
theorem ms_lk (h : Inv c kc md rc td lev rk σ) {t : Nat} (ht : t < md) (hst : σ.1 20 t = nI 0) (s : Nat) : (¬ nI (mN σ (-1) s md) = nI 0 ∧ nI (mN σ (-1) s md) &&& (nI 1 <<< (nI t &&& 31)) = nI 0) ↔ lkP σ md t s := by
  have hmb := h.core.mdb
  have h1 := mN_0 (σ := σ) (-1) s hmb.2
  have h2 := bt_8 t (by omega) (mN σ (-1) s md) (mN_256 σ (-1) s hmb.2)
  have h3 := mN_bit (σ := σ) (-1) s md t
  rw [h1, h2, h3, Classical.not_not]
  have hin : inB σ (-1) s t ↔ onP σ t s := ⟨fun z => z.2.2, fun z => ⟨nI_nm (by omega), hst, z⟩⟩
  unfold lkP
  constructor
  · rintro ⟨a, b⟩
    have hno : ¬ onP σ t s := fun z => b ⟨ht, hin.mpr z⟩
    refine ⟨hno, ?_⟩
    obtain ⟨m, m1, m2, m3⟩ := (ext_iff _ _ _).mp a
    refine (ext_iff _ _ _).mpr ⟨m, m1, m2, ?_, m3.2⟩
    intro z
    have : m = t := nI_inj (by omega) (by omega) z
    rw [this] at m3
    exact hno m3.2.2
  · rintro ⟨a, b⟩
    refine ⟨?_, fun z => a (hin.mp z.2)⟩
    obtain ⟨m, m1, m2, m3⟩ := (ext_iff _ _ _).mp b
    exact (ext_iff _ _ _).mpr ⟨m, m1, m2, nI_nm (by omega), m3.2⟩
theorem x4 (h : Inv c kc md rc td lev rk σ) {X : am_M} {t s : Nat} (ht : t < md) (hst : σ.1 20 t = nI 0) (h1 : 1 ≤ s) (h2 : s < 149) (hX : X.1 27 = (gAl σ md).1 27) : am_ex (d + 2) 4 [.ref 6, .int (nI s), .int (nI t)] X = rI (bz (lkP σ md t s)) X := by
  have hmb := h.core.mdb
  have e27 : X.1 27 s = nI (mN σ (-1) s md) := by
    rw [hX]; unfold gAl; rw [s_eq]; exact gB_N σ (-1) h1 h2 _ md hmb.2
  have hm := ms_lk h ht hst s
  rw [e4, q4_0, x11 _ _ h2, bI_r, e27, if_neg (show ¬ nI t < nI 0 by rw [i_lt, i_n (by omega), i_n (by omega)]; omega)]
  by_cases a : nI (mN σ (-1) s md) = nI 0
  · rw [if_pos a, bz_f (fun z => (hm.mpr z).1 a)]
  · rw [if_neg a]
    by_cases b : nI (mN σ (-1) s md) &&& (nI 1 <<< (nI t &&& 31)) = nI 0
    · rw [if_pos b, bz_t (hm.mp ⟨a, b⟩)]
    · rw [if_neg b, bz_f (fun z => b (hm.mpr z).2)]
theorem x5 (h : Inv c kc md rc td lev rk σ) {X : am_M} {t : Nat} (ht : t < md) (hst : σ.1 20 t = nI 0) (hX : X.1 27 = (gAl σ md).1 27) : am_ex (d + 3) 5 [.ref 6, .int (nI t)] X = rI (nI (cnt (lkP σ md t) 1 148)) X := by
  rw [e5, q5_0]
  refine lp_cnt0 (lkP σ md t) 1 149 (by omega) (fun i n => am_go am_X0 (am_ex (d + 2)) M5 4 [.ref 6, .int (nI t), .int (nI n), .int (nI i)] [] X) (fun n => rI (nI n) X) ?_ ?_
  · intro n
    show am_go am_X0 (am_ex (d + 2)) M5 4 [.ref 6, .int (nI t), .int (nI n), .int (nI 149)] [] X = _
    rw [q5_4, if_pos (by decide)]
  · intro i n h1 hi
    show am_go am_X0 (am_ex (d + 2)) M5 4 [.ref 6, .int (nI t), .int (nI n), .int (nI i)] [] X = am_go am_X0 (am_ex (d + 2)) M5 4 [.ref 6, .int (nI t), .int (nI (if lkP σ md t i then n + 1 else n)), .int (nI (i + 1))] [] X
    rw [q5_4, if_neg (by rw [i_le, i_n (by omega), i_n (by omega)]; omega), x4 d h ht hst h1 hi hX, bI_r, show nI i + nI 1 = nI (i + 1) from nI_1 _, show nI n + nI 1 = nI (n + 1) from nI_1 _]
    by_cases e : lkP σ md t i
    · rw [bz_t e, if_neg n10, if_pos e]
    · rw [bz_f e, if_pos rfl, if_neg e]
/-- a live entry's spot is told by it -/
theorem sp_uq (h : Inv c kc md rc td lev rk σ) {q s m a : Nat} (hq1 : 1 ≤ q) (hq : q < 149) (hs1 : 1 ≤ s) (hs : s < 149) (hm : m < md) (ha : a < zn (σ.1 21) m) (he : isE σ q (m * 150 + a)) (e1 : sKi q = sKi s) (e2 : sIn σ q = sIn σ s) : q = s := by
  have hkl := h.kl
  have hrb := h.core.rcb
  obtain ⟨b1, b2, b3⟩ := (isE_iff σ q (m * 150 + a)).mp he
  have hsame : q < 85 ↔ s < 85 := by
    unfold sKi at e1
    by_cases x : q < 85
    · by_cases y : s < 85
      · exact ⟨fun _ => y, fun _ => x⟩
      · rw [if_pos x, if_neg y] at e1; exact absurd e1.symm n10
    · by_cases y : s < 85
      · rw [if_neg x, if_pos y] at e1; exact absurd e1 n10
      · exact ⟨fun z => absurd z x, fun z => absurd z y⟩
  unfold sIn at e2 b2
  unfold sKi at b1
  by_cases x : q < 85
  · rw [if_pos x, if_pos (hsame.mp x)] at e2
    rw [if_pos x] at b1 b2
    rcases h.core.ent m hm a ha with ⟨a1, k, y, a2, a3, a4, a5, a6, _⟩ | ⟨a1, _⟩
    · rw [a6] at b2
      rcases h.core.node q x with z | ⟨k1, c1, c2, c3, c4, _⟩
      · rw [z] at b2; have := nI_inj (by omega) (by omega) b2; omega
      · rcases h.core.node s (hsame.mp x) with z | ⟨k2, d1, d2, d3, d4, _⟩
        · rw [← e2] at z; rw [z] at b2; have := nI_inj (by omega) (by omega) b2; omega
        · rw [c3, d3] at e2
          have := nI_inj (by omega) (by omega) e2
          subst this
          rw [c4] at d4
          exact nI_inj (by omega) (by omega) d4
    · rw [a1] at b1; exact absurd b1 n10
  · rw [if_neg x, if_neg (fun z => x (hsame.mpr z))] at e2
    rw [if_neg x] at b1 b2
    have hs85 : ¬ s < 85 := fun z => x (hsame.mpr z)
    rcases h.core.ent m hm a ha with ⟨a1, _⟩ | ⟨a1, r, y, a2, a3, a4, a5, _⟩
    · rw [a1] at b1; exact absurd b1.symm n10
    · rw [a5] at b2
      rcases h.core.rec (q - 85) (by omega) with z | ⟨r1, c1, c2, c3⟩
      · rw [z] at b2; exact absurd b2 (nI_nm (by omega))
      · rcases h.core.rec (s - 85) (by omega) with z | ⟨r2, d1, d2, d3⟩
        · rw [← e2, ← b2] at z; exact absurd z (nI_nm (by omega))
        · rw [c2, d2] at e2
          have := nI_inj (by omega) (by omega) e2
          subst this
          rw [c3] at d3
          have := nI_inj (by omega) (by omega) d3
          omega
/-- the bits of a live entry's content -/
noncomputable def sCo (σ : am_M) (s : Nat) : Int64 := if s < 85 then (wrp (σ.1 1 1) (sIn σ s) (sOu σ s)).toInt64 else σ.2.1 14 (sIn σ s).toNatClampNeg ^^^ msk (σ.1 1 1) (sOu σ s)
/-- where duplicating stands: N entries written, the spots from i on as before -/
abbrev Dp (σ : am_M) (md t i : Nat) (J : am_M) : Prop := (FW σ J) ∧ (J.2.2 = σ.2.2) ∧ (∀ s, i ≤ s → s < 149 → (onP J t s ↔ onP σ t s)) ∧ (∀ m, m < md → m ≠ t → ∀ s, (onP J m s ↔ onP σ m s))
theorem Dp.fw {σ : am_M} {md t i : Nat} {J : am_M} (h : Dp σ md t i J) : FW σ J := h.1
theorem Dp.n {σ : am_M} {md t i : Nat} {J : am_M} (h : Dp σ md t i J) : J.2.2 = σ.2.2 := h.2.1
theorem Dp.on {σ : am_M} {md t i : Nat} {J : am_M} (h : Dp σ md t i J) : ∀ s, i ≤ s → s < 149 → (onP J t s ↔ onP σ t s) := h.2.2.1
theorem Dp.ot {σ : am_M} {md t i : Nat} {J : am_M} (h : Dp σ md t i J) : ∀ m, m < md → m ≠ t → ∀ s, (onP J m s ↔ onP σ m s) := h.2.2.2
theorem Dp.mk {σ : am_M} {md t i : Nat} {J : am_M} (fw : FW σ J) (n : J.2.2 = σ.2.2) (on : ∀ s, i ≤ s → s < 149 → (onP J t s ↔ onP σ t s)) (ot : ∀ m, m < md → m ≠ t → ∀ s, (onP J m s ↔ onP σ m s)) : Dp σ md t i J := ⟨fw, n, on, ot⟩
theorem sp_fw {J : am_M} (h : FW σ J) (s : Nat) : sIn J s = sIn σ s ∧ sOu J s = sOu σ s := by
  unfold sIn sOu
  rw [h.i 16 (by decide), h.i 17 (by decide)]
  exact ⟨rfl, rfl⟩
theorem Dp.lk {J : am_M} {t i : Nat} (h : Dp σ md t i J) (hmd : md ≤ 8) {s : Nat} (h1 : i ≤ s) (h2 : s < 149) : lkP J md t s ↔ lkP σ md t s := by
  unfold lkP
  rw [h.on s h1 h2]
  have : inP J md (nI t) s ↔ inP σ md (nI t) s := by
    have e0 : ext (inB J (nI t) s) 0 md = ext (inB σ (nI t) s) 0 md := ext_c (fun m _ hm => by
      unfold inB
      rw [h.fw.i 20 (by decide)]
      by_cases e : m = t
      · subst e; exact ⟨fun z => absurd rfl z.1, fun z => absurd rfl z.1⟩
      · rw [h.ot m (by omega) e s])
    unfold inP
    rw [e0]
  rw [this]
/-- one entry more -/
theorem Dp.step (h : Inv c kc md rc td lev rk σ) {J : am_M} {c' t i s : Nat} (hD : Dp σ md t i J) (hB : JB c' kc md rc td lev rk t s J) (hs : s < 150) (h1 : 1 ≤ i) (h2 : i < 149) (hL : lkP σ md t i) : okE kc rc lev rk (J.1 1 1) (J.2.1 14) (sKi i) (sIn σ i) (sOu σ i) (sCo σ i) ∧ Dp σ md t (i + 1) (JW J t s (sKi i) (sIn σ i) (sOu σ i) (sCo σ i)) := by
  have hkl := h.kl
  have hrb := h.core.rcb
  have hmb := h.core.mdb
  obtain ⟨m0, _, hm0, hne0, hst0, hon0⟩ := (ext_iff _ _ _).mp hL.2
  obtain ⟨a0, ha1, ha2, he0⟩ := (ext_iff _ _ _).mp hon0
  obtain ⟨x0, rfl⟩ : ∃ x0, a0 = m0 * 150 + x0 := ⟨a0 - m0 * 150, by omega⟩
  have hm0' : m0 < md := by omega
  have hx0 : x0 < zn (σ.1 21) m0 := by omega
  obtain ⟨b1, b2, b3⟩ := (isE_iff σ i _).mp he0
  have e1 : J.1 1 = σ.1 1 := hD.fw.i 1 (by decide)
  have eJ : J.2.1 14 = σ.2.1 14 := hD.fw.j 14 (by decide)
  constructor
  · rw [e1, eJ, ← b1, ← b2, ← b3]
    rcases h.core.ent m0 hm0' x0 hx0 with ⟨a1, x, y, a2, a3, a4, a5, a6, a7, a8⟩ | ⟨a1, r, y, a2, a3, a4, a5, a6, a7, a8⟩
    · refine Or.inl ⟨a1, ?_, x, y, a2, a3, a4, a5, a6, a7, a8⟩
      have hi85 : i < 85 := by
        by_cases z : i < 85
        · exact z
        · rw [a1] at b1; unfold sKi at b1; rw [if_neg z] at b1; exact absurd b1.symm n10
      unfold sCo
      rw [if_pos hi85, ← b2, ← b3]
    · refine Or.inr ⟨a1, ?_, r, y, a2, a3, a4, a5, a6, a7, a8⟩
      have hi85 : ¬ i < 85 := fun z => by
        rw [a1] at b1; unfold sKi at b1; rw [if_pos z] at b1; exact absurd b1 n10
      unfold sCo
      rw [if_neg hi85, ← b2, ← b3]
  · have hF2 := FW.jw J t s (sKi i) (sIn σ i) (sOu σ i) (sCo σ i)
    have hz : zn (J.1 21) t = s := hB.w.sz
    have hlt := hB.w.lt
    have g21 : (JW J t s (sKi i) (sIn σ i) (sOu σ i) (sCo σ i)).1 21 = upd (J.1 21) t (nI (s + 1)) := by simp +decide only [JW, wrM, wrE, s_rd, sJ_I, if_true, if_false, ite_true, ite_false]
    have g22 : (JW J t s (sKi i) (sIn σ i) (sOu σ i) (sCo σ i)).1 22 = upd (J.1 22) (t * 150 + s) (sKi i) := by simp +decide only [JW, wrM, wrE, s_rd, sJ_I, if_true, if_false, ite_true, ite_false]
    have g23 : (JW J t s (sKi i) (sIn σ i) (sOu σ i) (sCo σ i)).1 23 = upd (J.1 23) (t * 150 + s) (sIn σ i) := by simp +decide only [JW, wrM, wrE, s_rd, sJ_I, if_true, if_false, ite_true, ite_false]
    have g24 : (JW J t s (sKi i) (sIn σ i) (sOu σ i) (sCo σ i)).1 24 = upd (J.1 24) (t * 150 + s) (sOu σ i) := by simp +decide only [JW, wrM, wrE, s_rd, sJ_I, if_true, if_false, ite_true, ite_false]
    have hold : ∀ a s', a ≠ t * 150 + s → (isE (JW J t s (sKi i) (sIn σ i) (sOu σ i) (sCo σ i)) s' a ↔ isE J s' a) := fun a s' ha => by
      unfold isE entP
      rw [g22, g23, g24, show upd (J.1 22) (t * 150 + s) (sKi i) a = J.1 22 a from if_neg ha, show upd (J.1 23) (t * 150 + s) (sIn σ i) a = J.1 23 a from if_neg ha, show upd (J.1 24) (t * 150 + s) (sOu σ i) a = J.1 24 a from if_neg ha, hF2.i 16 (by decide), hF2.i 17 (by decide)]
    refine ⟨hD.fw.trans hF2, hD.n, fun s' q1 q2 => ?_, fun m hm hne s' => ?_⟩
    · have hzn : zn ((JW J t s (sKi i) (sIn σ i) (sOu σ i) (sCo σ i)).1 21) t = s + 1 := by
        unfold zn; rw [g21, show upd (J.1 21) t (nI (s + 1)) t = nI (s + 1) from if_pos rfl, i_cl (by omega)]
      rw [← hD.on s' (by omega) q2]
      unfold onP
      rw [hzn, hz, ext_s]
      constructor
      · rintro (z | z)
        · obtain ⟨a, c1, c2, c3⟩ := (ext_iff _ _ _).mp z
          exact (ext_iff _ _ _).mpr ⟨a, c1, c2, (hold a s' (by omega)).mp c3⟩
        · exfalso
          obtain ⟨c1, c2, c3⟩ := (isE_iff _ _ _).mp z
          rw [g22, show upd (J.1 22) (t * 150 + s) (sKi i) (t * 150 + s) = sKi i from if_pos rfl] at c1
          have hsp := sp_fw (hD.fw.trans hF2) s'
          rw [g23, show upd (J.1 23) (t * 150 + s) (sIn σ i) (t * 150 + s) = sIn σ i from if_pos rfl, hsp.1] at c2
          have := sp_uq h h1 h2 (by omega) q2 hm0' hx0 he0 c1 c2
          omega
      · intro z
        obtain ⟨a, c1, c2, c3⟩ := (ext_iff _ _ _).mp z
        exact Or.inl ((ext_iff _ _ _).mpr ⟨a, c1, c2, (hold a s' (by omega)).mpr c3⟩)
    · rw [← hD.ot m hm hne s']
      have hzm : zn ((JW J t s (sKi i) (sIn σ i) (sOu σ i) (sCo σ i)).1 21) m = zn (J.1 21) m := by
        unfold zn; rw [g21, show upd (J.1 21) t (nI (s + 1)) m = J.1 21 m from if_neg hne]
      have hb := (hB.v.core.med m hm).1
      unfold onP
      rw [hzm, ext_c (fun a c1 c2 => hold a s' (by omega))]
end DUP
