/-! the machine's rules, as equations of am_go: for walking a method by program -/
def am_bI (o : Option (am_R × am_M)) (f : Int32 → am_M → Option (am_R × am_M)) : Option (am_R × am_M) := match o with
  | some (.inl (some (.int v)), σ) => f v σ
  | some (.inr E, σ) => some (.inr E, σ)
  | _ => none
def am_bJ (o : Option (am_R × am_M)) (f : Int64 → am_M → Option (am_R × am_M)) : Option (am_R × am_M) := match o with
  | some (.inl (some (.long v)), σ) => f v σ
  | some (.inr E, σ) => some (.inr E, σ)
  | _ => none
def am_bV (o : Option (am_R × am_M)) (f : am_M → Option (am_R × am_M)) : Option (am_R × am_M) := match o with
  | some (.inl none, σ) => f σ
  | some (.inr E, σ) => some (.inr E, σ)
  | _ => none
/-- a nest mate's static method: it must not throw -/
def am_nI (o : Option (am_R × am_M)) (f : Int32 → am_M → Option (am_R × am_M)) : Option (am_R × am_M) := match o with
  | some (.inl (some (.int v)), σ) => f v σ
  | _ => none
theorem am_bI_c {o : Option (am_R × am_M)} {f g : Int32 → am_M → Option (am_R × am_M)} (h : ∀ v σ, f v σ = g v σ) : am_bI o f = am_bI o g := by rw [show f = g from funext fun v => funext fun σ => h v σ]
theorem am_bJ_c {o : Option (am_R × am_M)} {f g : Int64 → am_M → Option (am_R × am_M)} (h : ∀ v σ, f v σ = g v σ) : am_bJ o f = am_bJ o g := by rw [show f = g from funext fun v => funext fun σ => h v σ]
theorem am_bV_c {o : Option (am_R × am_M)} {f g : am_M → Option (am_R × am_M)} (h : ∀ σ, f σ = g σ) : am_bV o f = am_bV o g := by rw [show f = g from funext fun σ => h σ]
theorem am_nI_c {o : Option (am_R × am_M)} {f g : Int32 → am_M → Option (am_R × am_M)} (h : ∀ v σ, f v σ = g v σ) : am_nI o f = am_nI o g := by rw [show f = g from funext fun v => funext fun σ => h v σ]
theorem am_ite {c : Prop} {i : Decidable c} {a b a' b' : Option (am_R × am_M)} (h1 : a = a') (h2 : b = b') : (if c then a else b) = (if c then a' else b') := by rw [h1, h2]
section AMRU
variable {X : am_X} {C : am_C} {M : am_Mt} {pc pc' len : Nat} {lv lv' st st' r : List Value} {σ σ' : am_M} {i : Instr}
theorem g_A (h : decode M.2.1 pc = .ok (i, len)) (hA : am_fA M.1.cls i len lv st = some (lv', st')) (hp : pc + len = pc') : am_go X C M pc lv st σ = am_go X C M pc' lv' st' σ := by
  rw [am_go_eq]; unfold am_nxt; rw [h]; simp only [hA]; rw [hp]
theorem g_B (h : decode M.2.1 pc = .ok (i, len)) (hA : am_fA M.1.cls i len lv st = none) (hB : am_fB i len st = some st') (hp : pc + len = pc') : am_go X C M pc lv st σ = am_go X C M pc' lv st' σ := by
  rw [am_go_eq]; unfold am_nxt; rw [h]; simp only [hA, hB]; rw [hp]
theorem g_C (h : decode M.2.1 pc = .ok (i, len)) (hA : am_fA M.1.cls i len lv st = none) (hB : am_fB i len st = none) (hC : am_fC i len pc st = some (pc', st')) : am_go X C M pc lv st σ = am_go X C M pc' lv st' σ := by
  rw [am_go_eq]; unfold am_nxt; rw [h]; simp only [hA, hB, hC]
theorem g_D (h : decode M.2.1 pc = .ok (i, len)) (hA : am_fA M.1.cls i len lv st = none) (hB : am_fB i len st = none) (hC : am_fC i len pc st = none) (hD : am_fD X M.1.cls i len st σ = some (st', σ')) (hp : pc + len = pc') : am_go X C M pc lv st σ = am_go X C M pc' lv st' σ' := by
  rw [am_go_eq]; unfold am_nxt; rw [h]; simp only [hA, hB, hC, hD]; rw [hp]
theorem g_D0 (h : decode M.2.1 pc = .ok (i, len)) (hA : am_fA M.1.cls i len lv st = none) (hB : am_fB i len st = none) (hC : am_fC i len pc st = none) (hD : am_fD X M.1.cls i len st σ = none) (hE : am_fE C M i len pc lv st σ = none) : am_go X C M pc lv st σ = none := by
  rw [am_go_eq]; unfold am_nxt; rw [h]; simp only [hA, hB, hC, hD, hE]
theorem g_goto {off : Int} (h : decode M.2.1 pc = .ok (.goto off, 3)) (hp : (pc : Int) + off = (pc' : Int)) : am_go X C M pc lv st σ = am_go X C M pc' lv st σ := by
  have h1 : am_tgok pc off = true := by unfold am_tgok; rw [hp]; simp
  have h2 : am_tg pc off = pc' := by unfold am_tg; rw [hp]; simp
  exact g_C h rfl rfl (by unfold am_fC; simp only [h1, h2, if_true])
theorem g_if {cd : ClassFile.Cond} {off : Int} {x : Int32} {t n : Nat} (h : decode M.2.1 pc = .ok (.ifCond cd off, 3)) (hp : (pc : Int) + off = (t : Int)) (hn : pc + 3 = n) : am_go X C M pc lv (.int x :: r) σ = if am_cmp cd x 0 = true then am_go X C M t lv r σ else am_go X C M n lv r σ := by
  have h1 : am_tgok pc off = true := by unfold am_tgok; rw [hp]; simp
  have h2 : am_tg pc off = t := by unfold am_tg; rw [hp]; simp
  rw [g_C (pc' := if am_cmp cd x 0 then t else n) (st' := r) h rfl rfl (by unfold am_fC; simp only [h1, h2, hn, if_true])]
  split <;> rfl
theorem g_ic {cd : ClassFile.Cond} {off : Int} {x y : Int32} {t n : Nat} (h : decode M.2.1 pc = .ok (.if_icmp cd off, 3)) (hp : (pc : Int) + off = (t : Int)) (hn : pc + 3 = n) : am_go X C M pc lv (.int y :: .int x :: r) σ = if am_cmp cd x y = true then am_go X C M t lv r σ else am_go X C M n lv r σ := by
  have h1 : am_tgok pc off = true := by unfold am_tgok; rw [hp]; simp
  have h2 : am_tg pc off = t := by unfold am_tg; rw [hp]; simp
  rw [g_C (pc' := if am_cmp cd x y then t else n) (st' := r) h rfl rfl (by unfold am_fC; simp only [h1, h2, hn, if_true])]
  split <;> rfl
theorem am_dec {c : Prop} {i : Decidable c} {a b : Option (am_R × am_M)} : (if decide c = true then a else b) = if c then a else b := by
  by_cases h : c
  · rw [if_pos h, if_pos (decide_eq_true h)]
  · rw [if_neg h, if_neg (by simp [h])]
theorem g_ifeq {off : Int} {x : Int32} {t n : Nat} (h : decode M.2.1 pc = .ok (.ifCond .eq off, 3)) (hp : (pc : Int) + off = (t : Int)) (hn : pc + 3 = n) : am_go X C M pc lv (.int x :: r) σ = if x = nI 0 then am_go X C M t lv r σ else am_go X C M n lv r σ := (g_if h hp hn).trans am_dec
theorem g_ifne {off : Int} {x : Int32} {t n : Nat} (h : decode M.2.1 pc = .ok (.ifCond .ne off, 3)) (hp : (pc : Int) + off = (t : Int)) (hn : pc + 3 = n) : am_go X C M pc lv (.int x :: r) σ = if x = nI 0 then am_go X C M n lv r σ else am_go X C M t lv r σ := by
  refine (g_if h hp hn).trans (am_dec.trans ?_)
  by_cases hx : x = nI 0
  · rw [if_pos hx, if_neg (fun z => z hx)]
  · rw [if_neg hx]; exact if_pos hx
theorem g_iflt {off : Int} {x : Int32} {t n : Nat} (h : decode M.2.1 pc = .ok (.ifCond .lt off, 3)) (hp : (pc : Int) + off = (t : Int)) (hn : pc + 3 = n) : am_go X C M pc lv (.int x :: r) σ = if x < nI 0 then am_go X C M t lv r σ else am_go X C M n lv r σ := (g_if h hp hn).trans am_dec
theorem g_ifge {off : Int} {x : Int32} {t n : Nat} (h : decode M.2.1 pc = .ok (.ifCond .ge off, 3)) (hp : (pc : Int) + off = (t : Int)) (hn : pc + 3 = n) : am_go X C M pc lv (.int x :: r) σ = if nI 0 ≤ x then am_go X C M t lv r σ else am_go X C M n lv r σ := (g_if h hp hn).trans am_dec
theorem g_ifgt {off : Int} {x : Int32} {t n : Nat} (h : decode M.2.1 pc = .ok (.ifCond .gt off, 3)) (hp : (pc : Int) + off = (t : Int)) (hn : pc + 3 = n) : am_go X C M pc lv (.int x :: r) σ = if nI 0 < x then am_go X C M t lv r σ else am_go X C M n lv r σ := (g_if h hp hn).trans am_dec
theorem g_ifle {off : Int} {x : Int32} {t n : Nat} (h : decode M.2.1 pc = .ok (.ifCond .le off, 3)) (hp : (pc : Int) + off = (t : Int)) (hn : pc + 3 = n) : am_go X C M pc lv (.int x :: r) σ = if x ≤ nI 0 then am_go X C M t lv r σ else am_go X C M n lv r σ := (g_if h hp hn).trans am_dec
theorem g_iceq {off : Int} {x y : Int32} {t n : Nat} (h : decode M.2.1 pc = .ok (.if_icmp .eq off, 3)) (hp : (pc : Int) + off = (t : Int)) (hn : pc + 3 = n) : am_go X C M pc lv (.int y :: .int x :: r) σ = if x = y then am_go X C M t lv r σ else am_go X C M n lv r σ := (g_ic h hp hn).trans am_dec
theorem g_icne {off : Int} {x y : Int32} {t n : Nat} (h : decode M.2.1 pc = .ok (.if_icmp .ne off, 3)) (hp : (pc : Int) + off = (t : Int)) (hn : pc + 3 = n) : am_go X C M pc lv (.int y :: .int x :: r) σ = if x = y then am_go X C M n lv r σ else am_go X C M t lv r σ := by
  refine (g_ic h hp hn).trans (am_dec.trans ?_)
  by_cases hx : x = y
  · rw [if_pos hx, if_neg (fun z => z hx)]
  · rw [if_neg hx, if_pos hx]
theorem g_iclt {off : Int} {x y : Int32} {t n : Nat} (h : decode M.2.1 pc = .ok (.if_icmp .lt off, 3)) (hp : (pc : Int) + off = (t : Int)) (hn : pc + 3 = n) : am_go X C M pc lv (.int y :: .int x :: r) σ = if x < y then am_go X C M t lv r σ else am_go X C M n lv r σ := (g_ic h hp hn).trans am_dec
theorem g_icge {off : Int} {x y : Int32} {t n : Nat} (h : decode M.2.1 pc = .ok (.if_icmp .ge off, 3)) (hp : (pc : Int) + off = (t : Int)) (hn : pc + 3 = n) : am_go X C M pc lv (.int y :: .int x :: r) σ = if y ≤ x then am_go X C M t lv r σ else am_go X C M n lv r σ := (g_ic h hp hn).trans am_dec
theorem g_icgt {off : Int} {x y : Int32} {t n : Nat} (h : decode M.2.1 pc = .ok (.if_icmp .gt off, 3)) (hp : (pc : Int) + off = (t : Int)) (hn : pc + 3 = n) : am_go X C M pc lv (.int y :: .int x :: r) σ = if y < x then am_go X C M t lv r σ else am_go X C M n lv r σ := (g_ic h hp hn).trans am_dec
theorem g_icle {off : Int} {x y : Int32} {t n : Nat} (h : decode M.2.1 pc = .ok (.if_icmp .le off, 3)) (hp : (pc : Int) + off = (t : Int)) (hn : pc + 3 = n) : am_go X C M pc lv (.int y :: .int x :: r) σ = if x ≤ y then am_go X C M t lv r σ else am_go X C M n lv r σ := (g_ic h hp hn).trans am_dec
/-! fields -/
theorem g_getR {k a ci fk b k' pp : Nat} {w : String} {fs : List (Option Nat)} (h : decode M.2.1 pc = .ok (.getfield k, 3)) (hq : am_fld M.1.cls k = some (w, k', ci, fk, pp)) (hs : am_sh[a]? = some (.inr (ci, fs))) (hf : fs[fk]? = some (some b)) (hp : pc + 3 = pc') : am_go X C M pc lv (.ref a :: r) σ = am_go X C M pc' lv (.ref b :: r) σ := by
  refine g_D h rfl rfl rfl ?_ hp
  simp only [am_fD, am_gf, hq, hs, hf, beq_self_eq_true, if_true]
theorem g_getI {k a ci fk k' pp : Nat} {w : String} {fs : List (Option Nat)} (h : decode M.2.1 pc = .ok (.getfield k, 3)) (hq : am_fld M.1.cls k = some (w, k', ci, fk, pp)) (hs : am_sh[a]? = some (.inr (ci, fs))) (hf : fs[fk]? = some none) (hp : pc + 3 = pc') : am_go X C M pc lv (.ref a :: r) σ = am_go X C M pc' lv (.int (σ.1 a fk) :: r) σ := by
  refine g_D h rfl rfl rfl ?_ hp
  simp only [am_fD, am_gf, hq, hs, hf, beq_self_eq_true, if_true]
theorem g_put {k a ci fk k' pp : Nat} {w : String} {x : Int32} {fs : List (Option Nat)} (h : decode M.2.1 pc = .ok (.putfield k, 3)) (hq : am_fld M.1.cls k = some (w, k', ci, fk, pp)) (hs : am_sh[a]? = some (.inr (ci, fs))) (hz : am_fz ci fk x = true) (hf : fs[fk]? = some none) (hp : pc + 3 = pc') : am_go X C M pc lv (.int x :: .ref a :: r) σ = am_go X C M pc' lv r (am_wI σ a fk x) := by
  refine g_D h rfl rfl rfl ?_ hp
  simp only [am_fD, am_pf, hq, hs, hz, hf, beq_self_eq_true, Bool.and_self, if_true, am_oM]
/-! arrays -/
theorem g_iald {a n : Nat} {j : Int32} (h : decode M.2.1 pc = .ok (.iaload, 1)) (hs : am_sh[a]? = some (.inl (0, n))) (hp : pc + 1 = pc') : am_go X C M pc lv (.int j :: .ref a :: r) σ = if am_in j n = true then am_go X C M pc' lv (.int (σ.1 a j.toNatClampNeg) :: r) σ else none := by
  by_cases hj : am_in j n = true
  · rw [if_pos hj]
    refine g_D h rfl rfl rfl ?_ hp
    simp only [am_fD, am_rd, hs, hj, beq_self_eq_true, Bool.and_self, if_true, am_oI]
  · rw [if_neg hj]
    refine g_D0 h rfl rfl rfl ?_ rfl
    simp only [Bool.not_eq_true] at hj
    simp [am_fD, am_rd, hs, hj, am_oI]
theorem g_bald {a n : Nat} {j : Int32} (h : decode M.2.1 pc = .ok (.baload, 1)) (hs : am_sh[a]? = some (.inl (1, n))) (hp : pc + 1 = pc') : am_go X C M pc lv (.int j :: .ref a :: r) σ = if am_in j n = true then am_go X C M pc' lv (.int (σ.1 a j.toNatClampNeg) :: r) σ else none := by
  by_cases hj : am_in j n = true
  · rw [if_pos hj]
    refine g_D h rfl rfl rfl ?_ hp
    simp only [am_fD, am_rd, hs, hj, beq_self_eq_true, Bool.and_self, if_true, am_oI]
  · rw [if_neg hj]
    refine g_D0 h rfl rfl rfl ?_ rfl
    simp only [Bool.not_eq_true] at hj
    simp [am_fD, am_rd, hs, hj, am_oI]
theorem g_lald {a n : Nat} {j : Int32} (h : decode M.2.1 pc = .ok (.laload, 1)) (hs : am_sh[a]? = some (.inl (2, n))) (hp : pc + 1 = pc') : am_go X C M pc lv (.int j :: .ref a :: r) σ = if am_in j n = true then am_go X C M pc' lv (.long (σ.2.1 a j.toNatClampNeg) :: r) σ else none := by
  by_cases hj : am_in j n = true
  · rw [if_pos hj]
    refine g_D h rfl rfl rfl ?_ hp
    simp only [am_fD, am_rdJ, hs, hj, beq_self_eq_true, Bool.and_self, if_true]
  · rw [if_neg hj]
    refine g_D0 h rfl rfl rfl ?_ rfl
    simp only [Bool.not_eq_true] at hj
    simp [am_fD, am_rdJ, hs, hj]
theorem g_iast {a n : Nat} {j x : Int32} (h : decode M.2.1 pc = .ok (.iastore, 1)) (hs : am_sh[a]? = some (.inl (0, n))) (hp : pc + 1 = pc') : am_go X C M pc lv (.int x :: .int j :: .ref a :: r) σ = if am_in j n = true then am_go X C M pc' lv r (am_wI σ a j.toNatClampNeg x) else none := by
  by_cases hj : am_in j n = true
  · rw [if_pos hj]
    refine g_D h rfl rfl rfl ?_ hp
    simp only [am_fD, am_wr, hs, hj, beq_self_eq_true, Bool.and_self, if_true, am_oM]
  · rw [if_neg hj]
    refine g_D0 h rfl rfl rfl ?_ rfl
    simp only [Bool.not_eq_true] at hj
    simp [am_fD, am_wr, hs, hj, am_oM]
theorem g_bast {a n : Nat} {j x : Int32} (h : decode M.2.1 pc = .ok (.bastore, 1)) (hs : am_sh[a]? = some (.inl (1, n))) (hp : pc + 1 = pc') : am_go X C M pc lv (.int x :: .int j :: .ref a :: r) σ = if am_in j n = true then am_go X C M pc' lv r (am_wI σ a j.toNatClampNeg (vp_nar .boolean x)) else none := by
  by_cases hj : am_in j n = true
  · rw [if_pos hj]
    refine g_D h rfl rfl rfl ?_ hp
    simp only [am_fD, am_wr, hs, hj, beq_self_eq_true, Bool.and_self, if_true, am_oM]
  · rw [if_neg hj]
    refine g_D0 h rfl rfl rfl ?_ rfl
    simp only [Bool.not_eq_true] at hj
    simp [am_fD, am_wr, hs, hj, am_oM]
theorem g_last {a n : Nat} {j : Int32} {x : Int64} (h : decode M.2.1 pc = .ok (.lastore, 1)) (hs : am_sh[a]? = some (.inl (2, n))) (hp : pc + 1 = pc') : am_go X C M pc lv (.long x :: .int j :: .ref a :: r) σ = if am_in j n = true then am_go X C M pc' lv r (am_wJ σ a j.toNatClampNeg x) else none := by
  by_cases hj : am_in j n = true
  · rw [if_pos hj]
    refine g_D h rfl rfl rfl ?_ hp
    simp only [am_fD, am_wrJ, hs, hj, beq_self_eq_true, Bool.and_self, if_true, am_oM]
  · rw [if_neg hj]
    refine g_D0 h rfl rfl rfl ?_ rfl
    simp only [Bool.not_eq_true] at hj
    simp [am_fD, am_wrJ, hs, hj, am_oM]
theorem g_ls {k : Nat} (h : decode M.2.1 pc = .ok (.getstatic k, 3)) (hc : (M.1.cls == "KeyArchive" && k == 273) = true) (hp : pc + 3 = pc') : am_go X C M pc lv st σ = am_go X C M pc' lv (.ref 1000 :: st) σ := by
  refine g_D h rfl rfl rfl ?_ hp
  simp only [am_fD, hc, if_true]
theorem g_lsld {j : Int32} (h : decode M.2.1 pc = .ok (.iaload, 1)) (hp : pc + 1 = pc') : am_go X C M pc lv (.int j :: .ref 1000 :: r) σ = if am_in j 5 = true then am_go X C M pc' lv (.int (am_lst.getD j.toNatClampNeg 0) :: r) σ else none := by
  have hs : am_sh[1000]? = none := by decide
  by_cases hj : am_in j 5 = true
  · rw [if_pos hj]
    refine g_D h rfl rfl rfl ?_ hp
    simp only [am_fD, am_rd, hs, hj, beq_self_eq_true, Bool.and_self, if_true, am_oI]
  · rw [if_neg hj]
    refine g_D0 h rfl rfl rfl ?_ rfl
    simp only [Bool.not_eq_true] at hj
    simp [am_fD, am_rd, hs, hj, am_oI]
theorem g_idiv {x y : Int32} (h : decode M.2.1 pc = .ok (.idiv, 1)) (hy : ¬ y = 0) (hp : pc + 1 = pc') : am_go X C M pc lv (.int y :: .int x :: r) σ = am_go X C M pc' lv (.int (x / y) :: r) σ := by
  refine g_B h rfl ?_ hp
  simp only [am_fB, hy, if_false]
theorem g_min {k : Nat} {x y : Int32} (h : decode M.2.1 pc = .ok (.invokestatic k, 3)) (hc : (M.1.cls == "KeyArchive$Cover" && k == 73) = true) (hcat : am_cat r ≤ 8) (hp : pc + 3 = pc') : am_go X C M pc lv (.int y :: .int x :: r) σ = am_go X C M pc' lv (.int (if y < x then y else x) :: r) σ := by
  refine g_D h rfl rfl rfl ?_ hp
  simp only [am_fD, hc, hcat, if_true]
/-! ends -/
theorem g_iret {v : Int32} (h : decode M.2.1 pc = .ok (.ireturn, 1)) (hr : M.2.2.2.1 = some .int) : am_go X C M pc lv [.int v] σ = some (.inl (some (.int v)), σ) := by
  rw [am_go_eq]; unfold am_nxt; rw [h]
  simp [am_fA, am_fB, am_fC, am_fD, am_fE, hr]
theorem g_zret {v : Int32} (h : decode M.2.1 pc = .ok (.ireturn, 1)) (hr : M.2.2.2.1 = some .boolean) : am_go X C M pc lv [.int v] σ = if v = nI 0 ∨ v = nI 1 then some (.inl (some (.int v)), σ) else none := by
  rw [am_go_eq]; unfold am_nxt; rw [h]
  by_cases hv : v = nI 0 ∨ v = nI 1
  · rw [if_pos hv]
    have : v = 0 ∨ v = 1 := hv
    simp [am_fA, am_fB, am_fC, am_fD, am_fE, hr, this]
  · rw [if_neg hv]
    have : ¬ (v = 0 ∨ v = 1) := hv
    simp [am_fA, am_fB, am_fC, am_fD, am_fE, hr, this]
theorem g_lret {v : Int64} (h : decode M.2.1 pc = .ok (.lreturn, 1)) (hr : M.2.2.2.1 = some .long) : am_go X C M pc lv [.long v] σ = some (.inl (some (.long v)), σ) := by
  rw [am_go_eq]; unfold am_nxt; rw [h]
  simp [am_fA, am_fB, am_fC, am_fD, am_fE, hr]
theorem g_vret (h : decode M.2.1 pc = .ok (.return_, 1)) (hr : M.2.2.2.1 = none) : am_go X C M pc lv [] σ = some (.inl none, σ) := by
  rw [am_go_eq]; unfold am_nxt; rw [h]
  simp [am_fA, am_fB, am_fC, am_fD, am_fE, hr]
theorem g_thr {ik is ic k : Nat} {w E tx : String} {i1 i2 i3 p1 p2 p3 : Nat} (h : decode M.2.1 pc = .ok (.new ik, 3)) (d3 : decode M.2.1 (pc + 3) = .ok (.dup, 1)) (d4 : (decode M.2.1 (pc + 4) = .ok (.ldc is, 2) ∧ k = 2) ∨ (decode M.2.1 (pc + 4) = .ok (.ldc_w is, 3) ∧ k = 3)) (d6 : decode M.2.1 (pc + 4 + k) = .ok (.invokespecial ic, 3)) (d9 : decode M.2.1 (pc + 4 + k + 3) = .ok (.athrow, 1)) (hh : M.2.2.2.2.1 = []) (hq : am_thr M.1.cls ik is ic = some (w, i1, i2, i3, E, tx, p1, p2, p3)) (hcat : am_cat st ≤ 8) : am_go X C M pc lv st σ = some (.inr E, am_tick σ) := by
  rw [am_go_eq]; unfold am_nxt; rw [h]
  have hn : am_new M ik is ic st σ = some (.inl (.inr E, am_tick σ)) := by simp [am_new, hh, hcat, hq]
  rcases d4 with ⟨d4, rfl⟩ | ⟨d4, rfl⟩
  · simp [am_fA, am_fB, am_fC, am_fD, am_fE, d3, d4, d6, d9, hn]
  · simp [am_fA, am_fB, am_fC, am_fD, am_fE, d3, d4, d6, d9, hn]
/-! calls -/
theorem am_inv_go {kd : Bool} {k n : Nat} {q : String × Nat × Nat × Nat × Nat × Nat × Nat × Nat} {N : am_Mt} {as rest : List Value} (hc : am_cal M.1.cls k = some q) (hN : am_ml[q.2.2.2.1]? = some N) (hk : (q.2.2.1 == 0) = kd) (hn : N.2.2.2.2.2 + (if kd then 1 else 0) = n) (hst : st.take n = as.reverse) (hst2 : st.drop n = rest) (hlen : as.length = n) (hcat : am_cat rest ≤ 8) (hrecv : kd = true → ∃ a as', as = .ref a :: as' ∧ am_isO a N.1.cls = true) :
    am_inv kd C M k pc lv st σ = am_aft N.2.2.2.1 (q.2.2.1 == 2) M pc lv rest (C q.2.2.2.1 as σ) := by
  have hl : n ≤ st.length := by
    have h9 := congrArg List.length hst
    rw [List.length_take, List.length_reverse, hlen] at h9
    omega
  unfold am_inv
  simp only [hc, hN, hk, hn, beq_self_eq_true, if_true, hst2, hst, List.reverse_reverse, hl, hcat, decide_true, Bool.and_self]
  cases kd with
  | false => rfl
  | true =>
    obtain ⟨a, as', rfl, hO⟩ := hrecv rfl
    have h2 : (q.2.2.1 == 2) = false := by
      have h7 : q.2.2.1 = 0 := by simpa using hk
      rw [h7]; rfl
    simp only [hO, h2, if_true]
theorem am_aft_I {rt : Option FieldType} {rest : List Value} {o : Option (am_R × am_M)} (hr : (rt == some .int || rt == some .boolean) = true) (hh : M.2.2.2.2.1 = []) : (match am_aft rt false M pc lv rest o with
    | none => none
    | some (.inl r) => some r
    | some (.inr q) => am_go X C M q.1 q.2.1 q.2.2.1 q.2.2.2) = am_bI o (fun v σ => am_go X C M (pc + 3) lv (.int v :: rest) σ) := by
  have hne : rt ≠ none := by rintro rfl; exact absurd hr (by decide)
  have hnl : rt ≠ some .long := by rintro rfl; exact absurd hr (by decide)
  match o with
  | none => rfl
  | some (.inr E, σ) => simp [am_aft, am_exc, hh, am_bI]
  | some (.inl none, σ) => simp [am_aft, am_rok, am_bI, hne]
  | some (.inl (some (.int v)), σ) => simp only [am_aft, am_rok, am_bI, hr, if_true]; rfl
  | some (.inl (some (.long v)), σ) => simp [am_aft, am_rok, am_bI, hnl]
  | some (.inl (some (.float v)), σ) => rfl
  | some (.inl (some (.double v)), σ) => rfl
  | some (.inl (some .null), σ) => rfl
  | some (.inl (some (.ref v)), σ) => rfl
  | some (.inl (some (.retAddr v)), σ) => rfl
theorem am_aft_nI {rt : Option FieldType} {rest : List Value} {o : Option (am_R × am_M)} (hr : (rt == some .int || rt == some .boolean) = true) : (match am_aft rt true M pc lv rest o with
    | none => none
    | some (.inl r) => some r
    | some (.inr q) => am_go X C M q.1 q.2.1 q.2.2.1 q.2.2.2) = am_nI o (fun v σ => am_go X C M (pc + 3) lv (.int v :: rest) σ) := by
  have hne : rt ≠ none := by rintro rfl; exact absurd hr (by decide)
  have hnl : rt ≠ some .long := by rintro rfl; exact absurd hr (by decide)
  match o with
  | none => rfl
  | some (.inr E, σ) => simp [am_aft, am_nI]
  | some (.inl none, σ) => simp [am_aft, am_rok, am_nI, hne]
  | some (.inl (some (.int v)), σ) => simp only [am_aft, am_rok, am_nI, hr, if_true]; rfl
  | some (.inl (some (.long v)), σ) => simp [am_aft, am_rok, am_nI, hnl]
  | some (.inl (some (.float v)), σ) => rfl
  | some (.inl (some (.double v)), σ) => rfl
  | some (.inl (some .null), σ) => rfl
  | some (.inl (some (.ref v)), σ) => rfl
  | some (.inl (some (.retAddr v)), σ) => rfl
theorem am_aft_J {rest : List Value} {o : Option (am_R × am_M)} (hh : M.2.2.2.2.1 = []) : (match am_aft (some .long) false M pc lv rest o with
    | none => none
    | some (.inl r) => some r
    | some (.inr q) => am_go X C M q.1 q.2.1 q.2.2.1 q.2.2.2) = am_bJ o (fun v σ => am_go X C M (pc + 3) lv (.long v :: rest) σ) := by
  match o with
  | none => rfl
  | some (.inr E, σ) => simp [am_aft, am_exc, hh, am_bJ]
  | some (.inl none, σ) => rfl
  | some (.inl (some (.int v)), σ) => rfl
  | some (.inl (some (.long v)), σ) => rfl
  | some (.inl (some (.float v)), σ) => rfl
  | some (.inl (some (.double v)), σ) => rfl
  | some (.inl (some .null), σ) => rfl
  | some (.inl (some (.ref v)), σ) => rfl
  | some (.inl (some (.retAddr v)), σ) => rfl
theorem am_aft_V {rest : List Value} {o : Option (am_R × am_M)} (hh : M.2.2.2.2.1 = []) : (match am_aft none false M pc lv rest o with
    | none => none
    | some (.inl r) => some r
    | some (.inr q) => am_go X C M q.1 q.2.1 q.2.2.1 q.2.2.2) = am_bV o (fun σ => am_go X C M (pc + 3) lv rest σ) := by
  match o with
  | none => rfl
  | some (.inr E, σ) => simp [am_aft, am_exc, hh, am_bV]
  | some (.inl none, σ) => rfl
  | some (.inl (some (.int v)), σ) => rfl
  | some (.inl (some (.long v)), σ) => rfl
  | some (.inl (some (.float v)), σ) => rfl
  | some (.inl (some (.double v)), σ) => rfl
  | some (.inl (some .null), σ) => rfl
  | some (.inl (some (.ref v)), σ) => rfl
  | some (.inl (some (.retAddr v)), σ) => rfl
theorem g_callS {k : Nat} (h : decode M.2.1 pc = .ok (.invokestatic k, 3)) (hm : (M.1.cls == "KeyArchive$Cover" && k == 73) = false) : am_go X C M pc lv st σ = match am_inv false C M k pc lv st σ with
    | none => none
    | some (.inl r) => some r
    | some (.inr q) => am_go X C M q.1 q.2.1 q.2.2.1 q.2.2.2 := by
  rw [am_go_eq]; unfold am_nxt; rw [h]
  simp only [am_fA, am_fB, am_fC, am_fD, am_fE, hm]
  rfl
theorem g_callV {k : Nat} (h : decode M.2.1 pc = .ok (.invokevirtual k, 3)) : am_go X C M pc lv st σ = match am_inv true C M k pc lv st σ with
    | none => none
    | some (.inl r) => some r
    | some (.inr q) => am_go X C M q.1 q.2.1 q.2.2.1 q.2.2.2 := by
  rw [am_go_eq]; unfold am_nxt; rw [h]
  simp only [am_fA, am_fB, am_fC, am_fD, am_fE]
  rfl
end AMRU
section AMRC
variable {X : am_X} {C : am_C} {M N : am_Mt} {pc pc' k n kd kc k' p1 p2 p3 p4 : Nat} {w : String} {lv st as as' rest : List Value} {σ : am_M} {a : Nat}
theorem g_sI (h : decode M.2.1 pc = .ok (.invokestatic k, 3)) (hm : (M.1.cls == "KeyArchive$Cover" && k == 73) = false) (hc : am_cal M.1.cls k = some (w, k', 1, kc, p1, p2, p3, p4)) (hN : am_ml[kc]? = some N) (hn : N.2.2.2.2.2 = n) (hst : st.take n = as.reverse) (hst2 : st.drop n = rest) (hlen : as.length = n) (hcat : am_cat rest ≤ 8) (hr : (N.2.2.2.1 == some .int || N.2.2.2.1 == some .boolean) = true) (hh : M.2.2.2.2.1 = []) (hp : pc + 3 = pc') :
    am_go X C M pc lv st σ = am_bI (C kc as σ) (fun v σ => am_go X C M pc' lv (.int v :: rest) σ) := by
  rw [g_callS h hm, am_inv_go (kd := false) hc hN rfl (by simpa using hn) hst hst2 hlen hcat (fun z => by cases z)]
  subst hp
  exact am_aft_I hr hh
theorem g_sV (h : decode M.2.1 pc = .ok (.invokestatic k, 3)) (hm : (M.1.cls == "KeyArchive$Cover" && k == 73) = false) (hc : am_cal M.1.cls k = some (w, k', 1, kc, p1, p2, p3, p4)) (hN : am_ml[kc]? = some N) (hn : N.2.2.2.2.2 = n) (hst : st.take n = as.reverse) (hst2 : st.drop n = rest) (hlen : as.length = n) (hcat : am_cat rest ≤ 8) (hr : N.2.2.2.1 = none) (hh : M.2.2.2.2.1 = []) (hp : pc + 3 = pc') :
    am_go X C M pc lv st σ = am_bV (C kc as σ) (fun σ => am_go X C M pc' lv rest σ) := by
  rw [g_callS h hm, am_inv_go (kd := false) hc hN rfl (by simpa using hn) hst hst2 hlen hcat (fun z => by cases z), hr]
  subst hp
  exact am_aft_V hh
theorem g_sN (h : decode M.2.1 pc = .ok (.invokestatic k, 3)) (hm : (M.1.cls == "KeyArchive$Cover" && k == 73) = false) (hc : am_cal M.1.cls k = some (w, k', 2, kc, p1, p2, p3, p4)) (hN : am_ml[kc]? = some N) (hn : N.2.2.2.2.2 = n) (hst : st.take n = as.reverse) (hst2 : st.drop n = rest) (hlen : as.length = n) (hcat : am_cat rest ≤ 8) (hr : (N.2.2.2.1 == some .int || N.2.2.2.1 == some .boolean) = true) (hp : pc + 3 = pc') :
    am_go X C M pc lv st σ = am_nI (C kc as σ) (fun v σ => am_go X C M pc' lv (.int v :: rest) σ) := by
  rw [g_callS h hm, am_inv_go (kd := false) hc hN rfl (by simpa using hn) hst hst2 hlen hcat (fun z => by cases z)]
  subst hp
  exact am_aft_nI hr
theorem g_vI (h : decode M.2.1 pc = .ok (.invokevirtual k, 3)) (hc : am_cal M.1.cls k = some (w, k', 0, kc, p1, p2, p3, p4)) (hN : am_ml[kc]? = some N) (hn : N.2.2.2.2.2 + 1 = n) (hst : st.take n = (.ref a :: as).reverse) (hst2 : st.drop n = rest) (hlen : as.length + 1 = n) (hcat : am_cat rest ≤ 8) (hO : am_isO a N.1.cls = true) (hr : (N.2.2.2.1 == some .int || N.2.2.2.1 == some .boolean) = true) (hh : M.2.2.2.2.1 = []) (hp : pc + 3 = pc') :
    am_go X C M pc lv st σ = am_bI (C kc (.ref a :: as) σ) (fun v σ => am_go X C M pc' lv (.int v :: rest) σ) := by
  rw [g_callV h, am_inv_go (kd := true) (as := .ref a :: as) hc hN rfl (by simpa using hn) hst hst2 (by simpa using hlen) hcat (fun _ => ⟨a, as, rfl, hO⟩)]
  subst hp
  exact am_aft_I hr hh
theorem g_vJ (h : decode M.2.1 pc = .ok (.invokevirtual k, 3)) (hc : am_cal M.1.cls k = some (w, k', 0, kc, p1, p2, p3, p4)) (hN : am_ml[kc]? = some N) (hn : N.2.2.2.2.2 + 1 = n) (hst : st.take n = (.ref a :: as).reverse) (hst2 : st.drop n = rest) (hlen : as.length + 1 = n) (hcat : am_cat rest ≤ 8) (hO : am_isO a N.1.cls = true) (hr : N.2.2.2.1 = some .long) (hh : M.2.2.2.2.1 = []) (hp : pc + 3 = pc') :
    am_go X C M pc lv st σ = am_bJ (C kc (.ref a :: as) σ) (fun v σ => am_go X C M pc' lv (.long v :: rest) σ) := by
  rw [g_callV h, am_inv_go (kd := true) (as := .ref a :: as) hc hN rfl (by simpa using hn) hst hst2 (by simpa using hlen) hcat (fun _ => ⟨a, as, rfl, hO⟩), hr]
  subst hp
  exact am_aft_J hh
theorem g_vV (h : decode M.2.1 pc = .ok (.invokevirtual k, 3)) (hc : am_cal M.1.cls k = some (w, k', 0, kc, p1, p2, p3, p4)) (hN : am_ml[kc]? = some N) (hn : N.2.2.2.2.2 + 1 = n) (hst : st.take n = (.ref a :: as).reverse) (hst2 : st.drop n = rest) (hlen : as.length + 1 = n) (hcat : am_cat rest ≤ 8) (hO : am_isO a N.1.cls = true) (hr : N.2.2.2.1 = none) (hh : M.2.2.2.2.1 = []) (hp : pc + 3 = pc') :
    am_go X C M pc lv st σ = am_bV (C kc (.ref a :: as) σ) (fun σ => am_go X C M pc' lv rest σ) := by
  rw [g_callV h, am_inv_go (kd := true) (as := .ref a :: as) hc hN rfl (by simpa using hn) hst hst2 (by simpa using hlen) hcat (fun _ => ⟨a, as, rfl, hO⟩), hr]
  subst hp
  exact am_aft_V hh
end AMRC
theorem am_ex_s {d k : Nat} {M : am_Mt} {as lv : List Value} {σ : am_M} (h : am_ml[k]? = some M) (hl : (am_ls as).length ≤ M.2.2.1) (hlv : am_in0 as M.2.2.1 = lv) : am_ex (d + 1) k as σ = am_go am_X0 (am_ex d) M 0 lv [] σ := by
  subst hlv
  show (match am_ml[k]? with
    | none => none
    | some M => if (am_ls as).length ≤ M.2.2.1 then am_go am_X0 (am_ex d) M 0 (am_in0 as M.2.2.1) [] σ else none) = _
  rw [h]
  exact if_pos hl
section AMRX
variable {X : am_X} {C : am_C} {M : am_Mt} {pc pc' len k : Nat} {lv lv' st r : List Value} {σ : am_M} {i : Instr}
theorem g_K {v : Int32} (h : decode M.2.1 pc = .ok (i, len)) (hA : am_fA M.1.cls i len lv st = some (lv, .int v :: st)) (hp : pc + len = pc') : am_go X C M pc lv st σ = am_go X C M pc' lv (.int v :: st) σ := g_A h hA hp
theorem g_KJ {v : Int64} (h : decode M.2.1 pc = .ok (i, len)) (hA : am_fA M.1.cls i len lv st = some (lv, .long v :: st)) (hp : pc + len = pc') : am_go X C M pc lv st σ = am_go X C M pc' lv (.long v :: st) σ := g_A h hA hp
theorem g_ldc {v : Int32} {w : String} {k' p : Nat} (h : decode M.2.1 pc = .ok (.ldc k, 2)) (hc : am_cI M.1.cls k = some (w, k', v, p)) (hp : pc + 2 = pc') : am_go X C M pc lv st σ = am_go X C M pc' lv (.int v :: st) σ := g_A h (by simp only [am_fA, hc, Option.map_some, am_pI]) hp
theorem g_ldw {v : Int32} {w : String} {k' p : Nat} (h : decode M.2.1 pc = .ok (.ldc_w k, 3)) (hc : am_cI M.1.cls k = some (w, k', v, p)) (hp : pc + 3 = pc') : am_go X C M pc lv st σ = am_go X C M pc' lv (.int v :: st) σ := g_A h (by simp only [am_fA, hc, Option.map_some, am_pI]) hp
theorem g_ld2 {v : Int64} {w : String} {k' p : Nat} (h : decode M.2.1 pc = .ok (.ldc2_w k, 3)) (hc : am_cJ M.1.cls k = some (w, k', v, p)) (hp : pc + 3 = pc') : am_go X C M pc lv st σ = am_go X C M pc' lv (.long v :: st) σ := g_A h (by simp only [am_fA, hc, Option.map_some, am_pJ]) hp
theorem am_st1_go {v : Value} (hl : k < lv.length) (hf : am_free lv k = true) : am_st1 lv k v = some (lv.set k v) := by simp [am_st1, hl, hf]
theorem am_st2_go {v : Value} (hl : k + 1 < lv.length) (hf : am_free lv k = true) : am_st2 lv k v = some ((lv.set k v).set (k + 1) .null) := by simp [am_st2, hl, hf]
theorem g_ist {x : Int32} (h : decode M.2.1 pc = .ok (.istore k, 2)) (hl : k < lv.length) (hf : am_free lv k = true) (hs : lv.set k (.int x) = lv') (hp : pc + 2 = pc') : am_go X C M pc lv (.int x :: r) σ = am_go X C M pc' lv' r σ := g_A h (by simp only [am_fA, am_stI, am_st1_go hl hf, hs]) hp
theorem g_isn {x : Int32} {n : Fin 4} (h : decode M.2.1 pc = .ok (.istore_n n, 1)) (hk : (n : Nat) = k) (hl : k < lv.length) (hf : am_free lv k = true) (hs : lv.set k (.int x) = lv') (hp : pc + 1 = pc') : am_go X C M pc lv (.int x :: r) σ = am_go X C M pc' lv' r σ := g_A h (by simp only [am_fA, am_stI, hk, am_st1_go hl hf, hs]) hp
theorem g_lst {x : Int64} (h : decode M.2.1 pc = .ok (.lstore k, 2)) (hl : k + 1 < lv.length) (hf : am_free lv k = true) (hs : (lv.set k (.long x)).set (k + 1) .null = lv') (hp : pc + 2 = pc') : am_go X C M pc lv (.long x :: r) σ = am_go X C M pc' lv' r σ := g_A h (by simp only [am_fA, am_stJ, am_st2_go hl hf, hs]) hp
theorem g_lsn {x : Int64} {n : Fin 4} (h : decode M.2.1 pc = .ok (.lstore_n n, 1)) (hk : (n : Nat) = k) (hl : k + 1 < lv.length) (hf : am_free lv k = true) (hs : (lv.set k (.long x)).set (k + 1) .null = lv') (hp : pc + 1 = pc') : am_go X C M pc lv (.long x :: r) σ = am_go X C M pc' lv' r σ := g_A h (by simp only [am_fA, am_stJ, hk, am_st2_go hl hf, hs]) hp
theorem g_inc {x v : Int32} {n : Int} (h : decode M.2.1 pc = .ok (.iinc k n, 3)) (hx : am_ld lv k = .int x) (hl : k < lv.length) (hf : am_free lv k = true) (hv : x + Int32.ofInt n = v) (hs : lv.set k (.int v) = lv') (hp : pc + 3 = pc') : am_go X C M pc lv st σ = am_go X C M pc' lv' st σ := g_A h (by simp only [am_fA, am_inc, hx, hv, am_st1_go hl hf, hs]) hp
theorem g_iadd {x y : Int32} (h : decode M.2.1 pc = .ok (.iadd, 1)) (hp : pc + 1 = pc') : am_go X C M pc lv (.int y :: .int x :: r) σ = am_go X C M pc' lv (.int (x + y) :: r) σ := g_B h rfl rfl hp
theorem g_isub {x y : Int32} (h : decode M.2.1 pc = .ok (.isub, 1)) (hp : pc + 1 = pc') : am_go X C M pc lv (.int y :: .int x :: r) σ = am_go X C M pc' lv (.int (x - y) :: r) σ := g_B h rfl rfl hp
theorem g_imul {x y : Int32} (h : decode M.2.1 pc = .ok (.imul, 1)) (hp : pc + 1 = pc') : am_go X C M pc lv (.int y :: .int x :: r) σ = am_go X C M pc' lv (.int (x * y) :: r) σ := g_B h rfl rfl hp
theorem g_iand {x y : Int32} (h : decode M.2.1 pc = .ok (.iand, 1)) (hp : pc + 1 = pc') : am_go X C M pc lv (.int y :: .int x :: r) σ = am_go X C M pc' lv (.int (x &&& y) :: r) σ := g_B h rfl rfl hp
theorem g_ior {x y : Int32} (h : decode M.2.1 pc = .ok (.ior, 1)) (hp : pc + 1 = pc') : am_go X C M pc lv (.int y :: .int x :: r) σ = am_go X C M pc' lv (.int (x ||| y) :: r) σ := g_B h rfl rfl hp
theorem g_ixor {x y : Int32} (h : decode M.2.1 pc = .ok (.ixor, 1)) (hp : pc + 1 = pc') : am_go X C M pc lv (.int y :: .int x :: r) σ = am_go X C M pc' lv (.int (x ^^^ y) :: r) σ := g_B h rfl rfl hp
theorem g_ishl {x y : Int32} (h : decode M.2.1 pc = .ok (.ishl, 1)) (hp : pc + 1 = pc') : am_go X C M pc lv (.int y :: .int x :: r) σ = am_go X C M pc' lv (.int (x <<< (y &&& 31)) :: r) σ := g_B h rfl rfl hp
theorem g_iushr {x y : Int32} (h : decode M.2.1 pc = .ok (.iushr, 1)) (hp : pc + 1 = pc') : am_go X C M pc lv (.int y :: .int x :: r) σ = am_go X C M pc' lv (.int (x.toUInt32 >>> (y.toUInt32 &&& Int32.toUInt32 31)).toInt32 :: r) σ := g_B h rfl rfl hp
theorem g_land {x y : Int64} (h : decode M.2.1 pc = .ok (.land, 1)) (hp : pc + 1 = pc') : am_go X C M pc lv (.long y :: .long x :: r) σ = am_go X C M pc' lv (.long (x &&& y) :: r) σ := g_B h rfl rfl hp
theorem g_lor {x y : Int64} (h : decode M.2.1 pc = .ok (.lor, 1)) (hp : pc + 1 = pc') : am_go X C M pc lv (.long y :: .long x :: r) σ = am_go X C M pc' lv (.long (x ||| y) :: r) σ := g_B h rfl rfl hp
theorem g_lxor {x y : Int64} (h : decode M.2.1 pc = .ok (.lxor, 1)) (hp : pc + 1 = pc') : am_go X C M pc lv (.long y :: .long x :: r) σ = am_go X C M pc' lv (.long (x ^^^ y) :: r) σ := g_B h rfl rfl hp
theorem g_lshl {x : Int64} {y : Int32} (h : decode M.2.1 pc = .ok (.lshl, 1)) (hp : pc + 1 = pc') : am_go X C M pc lv (.int y :: .long x :: r) σ = am_go X C M pc' lv (.long (x <<< (y.toInt64 &&& 63)) :: r) σ := g_B h rfl rfl hp
theorem g_i2l {x : Int32} (h : decode M.2.1 pc = .ok (.i2l, 1)) (hp : pc + 1 = pc') : am_go X C M pc lv (.int x :: r) σ = am_go X C M pc' lv (.long x.toInt64 :: r) σ := g_B h rfl rfl hp
theorem g_lcmp {x y : Int64} (h : decode M.2.1 pc = .ok (.lcmp, 1)) (hp : pc + 1 = pc') : am_go X C M pc lv (.long y :: .long x :: r) σ = am_go X C M pc' lv (.int (lg_cmp x y) :: r) σ := g_B h rfl rfl hp
theorem g_zl {v : Int32} (h : decode M.2.1 pc = .ok (.ireturn, 1)) (hr : M.2.2.2.1 = some .boolean) (hv : v = nI 0 ∨ v = nI 1) : am_go X C M pc lv [.int v] σ = some (.inl (some (.int v)), σ) := (g_zret h hr).trans (if_pos hv)
end AMRX
