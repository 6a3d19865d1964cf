/-! worlds: their order, their addresses -/
section WLD
variable {A : Nat → Prop} {ws ws' : va_W} {D : va_G} {cl : List vw_C} {H : Heap} {nS : Nat} {ad ad' : Nat → Nat} {cA : Nat → ClassId} {σ σ' : am_M}
theorem vD_iff : va_D A ws ↔ (ws.map Prod.fst).Nodup ∧ ∀ q ∈ ws, A q.1 := by
  constructor
  · intro h
    obtain ⟨h1, h2⟩ := h
    refine ⟨?_, fun q hq => ?_⟩
    · unfold List.Nodup
      rw [List.pairwise_iff_getElem]
      intro i j hi hj hij he
      rw [List.length_map] at hi hj
      have := h1 i j ws[i] ws[j] (List.getElem?_eq_getElem hi) (List.getElem?_eq_getElem hj) (by simpa using he)
      omega
    · obtain ⟨k, hk⟩ := List.mem_iff_getElem?.mp hq
      exact h2 k q hk
  · intro h
    obtain ⟨h1, h2⟩ := h
    refine ⟨fun i j p q hp hq he => ?_, fun k q hk => h2 q (List.mem_of_getElem? hk)⟩
    have hi : i < (ws.map Prod.fst).length := by rw [List.length_map]; exact (List.getElem?_eq_some_iff.mp hp).1
    refine (List.getElem?_inj hi h1).mp ?_
    rw [List.getElem?_map, List.getElem?_map, hp, hq]
    exact congrArg some he
theorem vD_perm (h : ws.Perm ws') (hD : va_D A ws) : va_D A ws' := by
  obtain ⟨a, b⟩ := vD_iff.mp hD
  exact vD_iff.mpr ⟨(h.map _).nodup_iff.mp a, fun q hq => b q (h.mem_iff.mpr hq)⟩
theorem vP_perm (h : ws.Perm ws') (hP : va_P D cl ws H) : va_P D cl ws' H := fun k q hk => by
  obtain ⟨j, hj⟩ := List.mem_iff_getElem?.mp (h.mem_iff.mpr (List.mem_of_getElem? hk))
  exact hP j q hj
theorem vD_fst (h : ws.map Prod.fst = ws'.map Prod.fst) (hD : va_D A ws) : va_D A ws' := by
  obtain ⟨a, b⟩ := vD_iff.mp hD
  refine vD_iff.mpr ⟨h ▸ a, fun q hq => ?_⟩
  have h1 : q.1 ∈ ws.map Prod.fst := by rw [h]; exact List.mem_map.mpr ⟨q, hq, rfl⟩
  obtain ⟨q', hq', e⟩ := List.mem_map.mp h1
  rw [← e]
  exact b q' hq'
theorem bm_ws_fst : (bm_ws nS ad cA σ).map Prod.fst = (bm_ws nS ad cA σ').map Prod.fst := by
  unfold bm_ws
  apply List.ext_getElem?
  intro i
  rw [List.getElem?_map, List.getElem?_map, List.getElem?_mapIdx, List.getElem?_mapIdx]
  cases (am_sh.take nS)[i]? <;> rfl
def clS (nS : Nat) : Bool := (am_sh.take nS).all (fun e => match e with
  | .inr (_, fs) => fs.all (fun f => match f with
    | some b => decide (b < nS)
    | none => true)
  | .inl _ => true)
theorem bm_ws_ad (h : ∀ i, i < nS → ad i = ad' i) (hs : clS nS = true) : bm_ws nS ad cA σ = bm_ws nS ad' cA σ := by
  unfold bm_ws
  apply List.ext_getElem?
  intro i
  rw [List.getElem?_mapIdx, List.getElem?_mapIdx]
  cases e : (am_sh.take nS)[i]? with
  | none => rfl
  | some x =>
    have hi : i < nS := by
      have := (List.getElem?_eq_some_iff.mp e).1
      rw [List.length_take] at this
      omega
    have hx := List.all_eq_true.mp hs x (List.mem_of_getElem? e)
    show some (ad i, am_ent ad cA σ i x) = some (ad' i, am_ent ad' cA σ i x)
    rw [h i hi]
    cases x with
    | inl y => rfl
    | inr y =>
      obtain ⟨ci, fs⟩ := y
      have hf : am_fs ad σ i fs = am_fs ad' σ i fs := by
        unfold am_fs
        apply List.ext_getElem?
        intro k
        rw [List.getElem?_mapIdx, List.getElem?_mapIdx]
        cases ef : fs[k]? with
        | none => rfl
        | some f =>
          cases f with
          | none => rfl
          | some b =>
            have hb : b < nS := of_decide_eq_true (List.all_eq_true.mp hx _ (List.mem_of_getElem? ef))
            show some (Value.ref (ad b)) = some (Value.ref (ad' b))
            rw [h b hb]
      show some (ad' i, Sum.inr (ci, am_fs ad σ i fs)) = some (ad' i, Sum.inr (ci, am_fs ad' σ i fs))
      rw [hf]
theorem clS34 : clS 34 = true := by decide +kernel
theorem clS57 : clS 57 = true := by decide +kernel
def fsF (ad : Nat → Nat) (σ : am_M) (i : Nat) : Nat → List (Option Nat) → List Value
  | _, [] => []
  | k, f :: l => am_fv ad σ i k f :: fsF ad σ i (k + 1) l
theorem fsF_eq (i : Nat) : ∀ (l : List (Option Nat)) (k : Nat), l.mapIdx (fun j f => am_fv ad σ i (j + k) f) = fsF ad σ i k l := by
  intro l
  induction l with
  | nil => intro k; rfl
  | cons f l ih =>
    intro k
    rw [List.mapIdx_cons, fsF, ← ih (k + 1), Nat.zero_add]
    have h : (fun j f => am_fv ad σ i (j + 1 + k) f) = (fun j f => am_fv ad σ i (j + (k + 1)) f) := by
      funext j f
      rw [show j + 1 + k = j + (k + 1) by omega]
    rw [h]
def entF (ad : Nat → Nat) (cA : Nat → ClassId) (σ : am_M) (i : Nat) (e : am_E) : va_E := match e with
  | .inl (t, n) => .inl (cA t, n, if t = 2 then .inr (.inl (σ.2.1 i)) else .inl (σ.1 i))
  | .inr (ci, fs) => .inr (ci, fsF ad σ i 0 fs)
theorem entF_eq (i : Nat) (e : am_E) : am_ent ad cA σ i e = entF ad cA σ i e := by
  cases e with
  | inl x => rfl
  | inr x =>
    obtain ⟨ci, fs⟩ := x
    show Sum.inr (ci, am_fs ad σ i fs) = Sum.inr (ci, fsF ad σ i 0 fs)
    rw [← fsF_eq i fs 0]
    rfl
def wsF (ad : Nat → Nat) (cA : Nat → ClassId) (σ : am_M) : Nat → List am_E → va_W
  | _, [] => []
  | i, e :: l => (ad i, entF ad cA σ i e) :: wsF ad cA σ (i + 1) l
theorem wsF_eq : ∀ (l : List am_E) (k : Nat), l.mapIdx (fun j e => (ad (j + k), am_ent ad cA σ (j + k) e)) = wsF ad cA σ k l := by
  intro l
  induction l with
  | nil => intro k; rfl
  | cons f l ih =>
    intro k
    rw [List.mapIdx_cons, wsF, ← ih (k + 1), Nat.zero_add, entF_eq]
    have h : (fun (j : Nat) (e : am_E) => (ad (j + 1 + k), am_ent ad cA σ (j + 1 + k) e)) = (fun j e => (ad (j + (k + 1)), am_ent ad cA σ (j + (k + 1)) e)) := by
      funext j e
      rw [show j + 1 + k = j + (k + 1) by omega]
    rw [h]
theorem wsF_app : ∀ (k l : List am_E) (i : Nat), wsF ad cA σ i (k ++ l) = wsF ad cA σ i k ++ wsF ad cA σ (i + k.length) l := by
  intro k
  induction k with
  | nil => intro l i; rfl
  | cons e k ih =>
    intro l i
    rw [List.cons_append, wsF, wsF, ih, List.cons_append, List.length_cons, show i + 1 + k.length = i + (k.length + 1) by omega]
theorem bm_ws_F (nS : Nat) : bm_ws nS ad cA σ = wsF ad cA σ 0 (am_sh.take nS) := by
  rw [← wsF_eq (am_sh.take nS) 0]
  rfl
theorem am_ws_F : am_ws ad cA σ = wsF ad cA σ 0 am_sh := by
  rw [← wsF_eq am_sh 0]
  rfl
set_option maxHeartbeats 4000000 in
set_option maxRecDepth 100000 in
theorem zsh34 : am_sh.take 34 = [.inr (9, [some 1, some 2, some 3, some 4, some 5, some 6, some 7, some 8, some 9, some 10, some 11, some 12, none]), .inr (3, [some 13, none, none]), .inr (6, [some 14, some 15, none]), .inr (8, [some 1, some 2, some 16, some 17, some 18, some 19]), .inr (4, [some 20, some 21, some 22, some 23, some 24, none]), .inr (7, [some 1, some 2, some 4, some 25, some 26]), .inr (0, [some 1, some 2, some 3, some 4, some 27, some 28]), .inr (1, [some 3, some 5, some 29, some 30, none]), .inr (2, [some 3, some 31]), .inr (5, [some 3, some 8, some 32, some 33]), .inl (0, 8), .inl (0, 4), .inl (0, 4), .inl (0, 2049), .inl (2, 200), .inl (0, 200), .inl (0, 85), .inl (0, 64), .inl (0, 64), .inl (1, 64), .inl (0, 8), .inl (0, 8), .inl (0, 1200), .inl (0, 1200), .inl (0, 1200), .inl (0, 2049), .inl (1, 200), .inl (0, 149), .inl (0, 150), .inl (1, 85), .inl (1, 85), .inl (0, 85), .inl (0, 4), .inl (0, 52)] := by decide +kernel
set_option maxHeartbeats 4000000 in
set_option maxRecDepth 100000 in
theorem zsh57 : am_sh.take 57 = am_sh.take 34 ++ [.inr (10, [some 35, some 36, some 37, some 38, some 39, some 40, some 41, some 42, some 43, some 44, some 45, some 46, some 47, some 48, some 49, some 50, some 51, some 52, some 53, some 54, none, none, none, none, none, none, some 55, none, some 56]), .inl (0, 85), .inl (0, 85), .inl (0, 64), .inl (0, 8), .inl (0, 4), .inl (0, 4), .inl (1, 64), .inl (1, 85), .inl (1, 4), .inl (0, 8), .inl (0, 8), .inl (0, 1200), .inl (0, 1200), .inl (0, 1200), .inl (2, 1200), .inl (2, 200), .inl (0, 200), .inl (0, 200), .inl (0, 52), .inl (0, 4), .inl (0, 2500), .inl (0, 2500)] := by decide +kernel
set_option maxHeartbeats 4000000 in
set_option maxRecDepth 100000 in
theorem zsh58 : am_sh = am_sh.take 57 ++ [.inl (2, 1)] := by decide +kernel
set_option maxHeartbeats 4000000 in
set_option maxRecDepth 100000 in
theorem ws34 (ad : Nat → Nat) (cA : Nat → ClassId) (σ : am_M) : bm_ws 34 ad cA σ = [(ad 0, .inr (9, [.ref (ad 1), .ref (ad 2), .ref (ad 3), .ref (ad 4), .ref (ad 5), .ref (ad 6), .ref (ad 7), .ref (ad 8), .ref (ad 9), .ref (ad 10), .ref (ad 11), .ref (ad 12), .int (σ.1 0 12)])), (ad 1, .inr (3, [.ref (ad 13), .int (σ.1 1 1), .int (σ.1 1 2)])), (ad 2, .inr (6, [.ref (ad 14), .ref (ad 15), .int (σ.1 2 2)])), (ad 3, .inr (8, [.ref (ad 1), .ref (ad 2), .ref (ad 16), .ref (ad 17), .ref (ad 18), .ref (ad 19)])), (ad 4, .inr (4, [.ref (ad 20), .ref (ad 21), .ref (ad 22), .ref (ad 23), .ref (ad 24), .int (σ.1 4 5)])), (ad 5, .inr (7, [.ref (ad 1), .ref (ad 2), .ref (ad 4), .ref (ad 25), .ref (ad 26)])), (ad 6, .inr (0, [.ref (ad 1), .ref (ad 2), .ref (ad 3), .ref (ad 4), .ref (ad 27), .ref (ad 28)])), (ad 7, .inr (1, [.ref (ad 3), .ref (ad 5), .ref (ad 29), .ref (ad 30), .int (σ.1 7 4)])), (ad 8, .inr (2, [.ref (ad 3), .ref (ad 31)])), (ad 9, .inr (5, [.ref (ad 3), .ref (ad 8), .ref (ad 32), .ref (ad 33)])), (ad 10, .inl (cA 0, 8, .inl (σ.1 10))), (ad 11, .inl (cA 0, 4, .inl (σ.1 11))), (ad 12, .inl (cA 0, 4, .inl (σ.1 12))), (ad 13, .inl (cA 0, 2049, .inl (σ.1 13))), (ad 14, .inl (cA 2, 200, .inr (.inl (σ.2.1 14)))), (ad 15, .inl (cA 0, 200, .inl (σ.1 15))), (ad 16, .inl (cA 0, 85, .inl (σ.1 16))), (ad 17, .inl (cA 0, 64, .inl (σ.1 17))), (ad 18, .inl (cA 0, 64, .inl (σ.1 18))), (ad 19, .inl (cA 1, 64, .inl (σ.1 19))), (ad 20, .inl (cA 0, 8, .inl (σ.1 20))), (ad 21, .inl (cA 0, 8, .inl (σ.1 21))), (ad 22, .inl (cA 0, 1200, .inl (σ.1 22))), (ad 23, .inl (cA 0, 1200, .inl (σ.1 23))), (ad 24, .inl (cA 0, 1200, .inl (σ.1 24))), (ad 25, .inl (cA 0, 2049, .inl (σ.1 25))), (ad 26, .inl (cA 1, 200, .inl (σ.1 26))), (ad 27, .inl (cA 0, 149, .inl (σ.1 27))), (ad 28, .inl (cA 0, 150, .inl (σ.1 28))), (ad 29, .inl (cA 1, 85, .inl (σ.1 29))), (ad 30, .inl (cA 1, 85, .inl (σ.1 30))), (ad 31, .inl (cA 0, 85, .inl (σ.1 31))), (ad 32, .inl (cA 0, 4, .inl (σ.1 32))), (ad 33, .inl (cA 0, 52, .inl (σ.1 33)))] := by
  rw [bm_ws_F, zsh34]
  rfl
set_option maxHeartbeats 4000000 in
set_option maxRecDepth 100000 in
theorem ws57 (ad : Nat → Nat) (cA : Nat → ClassId) (σ : am_M) : bm_ws 57 ad cA σ = bm_ws 34 ad cA σ ++ [(ad 34, .inr (10, [.ref (ad 35), .ref (ad 36), .ref (ad 37), .ref (ad 38), .ref (ad 39), .ref (ad 40), .ref (ad 41), .ref (ad 42), .ref (ad 43), .ref (ad 44), .ref (ad 45), .ref (ad 46), .ref (ad 47), .ref (ad 48), .ref (ad 49), .ref (ad 50), .ref (ad 51), .ref (ad 52), .ref (ad 53), .ref (ad 54), .int (σ.1 34 20), .int (σ.1 34 21), .int (σ.1 34 22), .int (σ.1 34 23), .int (σ.1 34 24), .int (σ.1 34 25), .ref (ad 55), .int (σ.1 34 27), .ref (ad 56)])), (ad 35, .inl (cA 0, 85, .inl (σ.1 35))), (ad 36, .inl (cA 0, 85, .inl (σ.1 36))), (ad 37, .inl (cA 0, 64, .inl (σ.1 37))), (ad 38, .inl (cA 0, 8, .inl (σ.1 38))), (ad 39, .inl (cA 0, 4, .inl (σ.1 39))), (ad 40, .inl (cA 0, 4, .inl (σ.1 40))), (ad 41, .inl (cA 1, 64, .inl (σ.1 41))), (ad 42, .inl (cA 1, 85, .inl (σ.1 42))), (ad 43, .inl (cA 1, 4, .inl (σ.1 43))), (ad 44, .inl (cA 0, 8, .inl (σ.1 44))), (ad 45, .inl (cA 0, 8, .inl (σ.1 45))), (ad 46, .inl (cA 0, 1200, .inl (σ.1 46))), (ad 47, .inl (cA 0, 1200, .inl (σ.1 47))), (ad 48, .inl (cA 0, 1200, .inl (σ.1 48))), (ad 49, .inl (cA 2, 1200, .inr (.inl (σ.2.1 49)))), (ad 50, .inl (cA 2, 200, .inr (.inl (σ.2.1 50)))), (ad 51, .inl (cA 0, 200, .inl (σ.1 51))), (ad 52, .inl (cA 0, 200, .inl (σ.1 52))), (ad 53, .inl (cA 0, 52, .inl (σ.1 53))), (ad 54, .inl (cA 0, 4, .inl (σ.1 54))), (ad 55, .inl (cA 0, 2500, .inl (σ.1 55))), (ad 56, .inl (cA 0, 2500, .inl (σ.1 56)))] := by
  rw [bm_ws_F, bm_ws_F, zsh57, wsF_app, show (am_sh.take 34).length = 34 by rw [zsh34]; rfl]
  rfl
set_option maxHeartbeats 4000000 in
set_option maxRecDepth 100000 in
theorem ws58 (ad : Nat → Nat) (cA : Nat → ClassId) (σ : am_M) : am_ws ad cA σ = bm_ws 57 ad cA σ ++ [(ad 57, .inl (cA 2, 1, .inr (.inl (σ.2.1 57))))] := by
  rw [am_ws_F, bm_ws_F, zsh58, wsF_app, ← zsh58, show (am_sh.take 57).length = 57 by decide +kernel]
  rfl
theorem am_ws_fst : (am_ws ad cA σ).map Prod.fst = (am_ws ad cA σ').map Prod.fst := by
  rw [ws58, ws58, List.map_append, List.map_append, bm_ws_fst (σ := σ) (σ' := σ')]
  rfl
/-- nothing has been written yet -/
def am_Z0 : am_M := (fun _ _ => 0, fun _ _ => 0, 0)
/-- the addresses of the first cells by a list -/
def adL (xs : List Nat) (lv sc : Nat) (i : Nat) : Nat := if i < 1000 then xs.getD i 0 else if i = 1000 then lv else sc
def adM (ad : Nat → Nat) (ys : List Nat) (i : Nat) : Nat := if i < 34 then ad i else if i < 1000 then ys.getD (i - 34) 0 else ad i
def adO (ad : Nat → Nat) (q : Nat) (i : Nat) : Nat := if i = 57 then q else ad i
end WLD
