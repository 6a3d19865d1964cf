/-! worlds: their order, their addresses -/
section WLD
variable {A : Nat → Prop} {ws ws' : va_W} {D : va_G} {cl : List vw_C} {H : Heap} {nS : Nat} {ad ad' : Nat → Nat} {cA : Nat → ClassId} {σ σ' : am_M}
theorem vD_iff : va_D A ws ↔ (ws.map Prod.fst).Nodup ∧ ∀ q ∈ ws, A q.1 := by
  constructor
  · intro h
    obtain ⟨h1, h2⟩ := h
    refine ⟨?_, fun q hq => ?_⟩
    · unfold List.Nodup
      rw [List.pairwise_iff_getElem]
      intro i j hi hj hij he
      rw [List.length_map] at hi hj
      have := h1 i j ws[i] ws[j] (List.getElem?_eq_getElem hi) (List.getElem?_eq_getElem hj) (by simpa using he)
      omega
    · obtain ⟨k, hk⟩ := List.mem_iff_getElem?.mp hq
      exact h2 k q hk
  · intro h
    obtain ⟨h1, h2⟩ := h
    refine ⟨fun i j p q hp hq he => ?_, fun k q hk => h2 q (List.mem_of_getElem? hk)⟩
    have hi : i < (ws.map Prod.fst).length := by rw [List.length_map]; exact (List.getElem?_eq_some_iff.mp hp).1
    refine List.getElem?_inj hi h1 ?_
    rw [List.getElem?_map, List.getElem?_map, hp, hq]
    exact congrArg some he
theorem vD_perm (h : ws.Perm ws') (hD : va_D A ws) : va_D A ws' := by
  obtain ⟨a, b⟩ := vD_iff.mp hD
  exact vD_iff.mpr ⟨(h.map _).nodup_iff.mp a, fun q hq => b q (h.mem_iff.mpr hq)⟩
theorem vP_perm (h : ws.Perm ws') (hP : va_P D cl ws H) : va_P D cl ws' H := fun k q hk => by
  obtain ⟨j, hj⟩ := List.mem_iff_getElem?.mp (h.mem_iff.mpr (List.mem_of_getElem? hk))
  exact hP j q hj
theorem vD_fst (h : ws.map Prod.fst = ws'.map Prod.fst) (hD : va_D A ws) : va_D A ws' := by
  obtain ⟨a, b⟩ := vD_iff.mp hD
  refine vD_iff.mpr ⟨h ▸ a, fun q hq => ?_⟩
  have h1 : q.1 ∈ ws.map Prod.fst := by rw [h]; exact List.mem_map.mpr ⟨q, hq, rfl⟩
  obtain ⟨q', hq', e⟩ := List.mem_map.mp h1
  rw [← e]
  exact b q' hq'
theorem bm_ws_fst : (bm_ws nS ad cA σ).map Prod.fst = (bm_ws nS ad cA σ').map Prod.fst := by
  unfold bm_ws
  apply List.ext_getElem?
  intro i
  rw [List.getElem?_map, List.getElem?_map, List.getElem?_mapIdx, List.getElem?_mapIdx]
  cases (am_sh.take nS)[i]? <;> rfl
def clS (nS : Nat) : Bool := (am_sh.take nS).all (fun e => match e with
  | .inr (_, fs) => fs.all (fun f => match f with
    | some b => decide (b < nS)
    | none => true)
  | .inl _ => true)
theorem bm_ws_ad (h : ∀ i, i < nS → ad i = ad' i) (hs : clS nS = true) : bm_ws nS ad cA σ = bm_ws nS ad' cA σ := by
  unfold bm_ws
  apply List.ext_getElem?
  intro i
  rw [List.getElem?_mapIdx, List.getElem?_mapIdx]
  cases e : (am_sh.take nS)[i]? with
  | none => rfl
  | some x =>
    have hi : i < nS := by
      have := (List.getElem?_eq_some_iff.mp e).1
      rw [List.length_take] at this
      omega
    have hx := List.all_eq_true.mp hs x (List.mem_of_getElem? e)
    show some (ad i, am_ent ad cA σ i x) = some (ad' i, am_ent ad' cA σ i x)
    rw [h i hi]
    cases x with
    | inl y => rfl
    | inr y =>
      obtain ⟨ci, fs⟩ := y
      have hf : am_fs ad σ i fs = am_fs ad' σ i fs := by
        unfold am_fs
        apply List.ext_getElem?
        intro k
        rw [List.getElem?_mapIdx, List.getElem?_mapIdx]
        cases ef : fs[k]? with
        | none => rfl
        | some f =>
          cases f with
          | none => rfl
          | some b =>
            have hb : b < nS := of_decide_eq_true (List.all_eq_true.mp hx _ (List.mem_of_getElem? ef))
            show some (Value.ref (ad b)) = some (Value.ref (ad' b))
            rw [h b hb]
      show some (ad' i, Sum.inr (ci, am_fs ad σ i fs)) = some (ad' i, Sum.inr (ci, am_fs ad' σ i fs))
      rw [hf]
theorem clS34 : clS 34 = true := by decide +kernel
theorem clS57 : clS 57 = true := by decide +kernel
theorem ws57 (ad : Nat → Nat) (cA : Nat → ClassId) (σ : am_M) : bm_ws 57 ad cA σ = bm_ws 34 ad cA σ ++ [(ad 34, .inr (10, [.ref (ad 35), .ref (ad 36), .ref (ad 37), .ref (ad 38), .ref (ad 39), .ref (ad 40), .ref (ad 41), .ref (ad 42), .ref (ad 43), .ref (ad 44), .ref (ad 45), .ref (ad 46), .ref (ad 47), .ref (ad 48), .ref (ad 49), .ref (ad 50), .ref (ad 51), .ref (ad 52), .ref (ad 53), .ref (ad 54), .int (σ.1 34 20), .int (σ.1 34 21), .int (σ.1 34 22), .int (σ.1 34 23), .int (σ.1 34 24), .int (σ.1 34 25), .ref (ad 55), .int (σ.1 34 27), .ref (ad 56)])), (ad 35, .inl (cA 0, 85, .inl (σ.1 35))), (ad 36, .inl (cA 0, 85, .inl (σ.1 36))), (ad 37, .inl (cA 0, 64, .inl (σ.1 37))), (ad 38, .inl (cA 0, 8, .inl (σ.1 38))), (ad 39, .inl (cA 0, 4, .inl (σ.1 39))), (ad 40, .inl (cA 0, 4, .inl (σ.1 40))), (ad 41, .inl (cA 1, 64, .inl (σ.1 41))), (ad 42, .inl (cA 1, 85, .inl (σ.1 42))), (ad 43, .inl (cA 1, 4, .inl (σ.1 43))), (ad 44, .inl (cA 0, 8, .inl (σ.1 44))), (ad 45, .inl (cA 0, 8, .inl (σ.1 45))), (ad 46, .inl (cA 0, 1200, .inl (σ.1 46))), (ad 47, .inl (cA 0, 1200, .inl (σ.1 47))), (ad 48, .inl (cA 0, 1200, .inl (σ.1 48))), (ad 49, .inl (cA 2, 1200, .inr (.inl (σ.2.1 49)))), (ad 50, .inl (cA 2, 200, .inr (.inl (σ.2.1 50)))), (ad 51, .inl (cA 0, 200, .inl (σ.1 51))), (ad 52, .inl (cA 0, 200, .inl (σ.1 52))), (ad 53, .inl (cA 0, 52, .inl (σ.1 53))), (ad 54, .inl (cA 0, 4, .inl (σ.1 54))), (ad 55, .inl (cA 0, 2500, .inl (σ.1 55))), (ad 56, .inl (cA 0, 2500, .inl (σ.1 56)))] := rfl
theorem ws58 (ad : Nat → Nat) (cA : Nat → ClassId) (σ : am_M) : am_ws ad cA σ = bm_ws 57 ad cA σ ++ [(ad 57, .inl (cA 2, 1, .inr (.inl (σ.2.1 57))))] := rfl
/-- nothing has been written yet -/
def am_Z0 : am_M := (fun _ _ => 0, fun _ _ => 0, 0)
/-- the addresses of the first cells by a list -/
def adL (xs : List Nat) (lv sc : Nat) (i : Nat) : Nat := if i < 1000 then xs.getD i 0 else if i = 1000 then lv else sc
def adM (ad : Nat → Nat) (ys : List Nat) (i : Nat) : Nat := if i < 34 then ad i else if i < 1000 then ys.getD (i - 34) 0 else ad i
def adO (ad : Nat → Nat) (q : Nat) (i : Nat) : Nat := if i = 57 then q else ad i
end WLD
