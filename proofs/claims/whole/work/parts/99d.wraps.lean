/-! the law's wrappers -/
section WRP
variable {X : am_X} {C : am_C} {M N : am_Mt} {pc pc' k n kc k' p1 p2 p3 p4 : Nat} {w : String} {lv lv' st as rest : List Value} {σ σ' : am_M} {a : Nat} {E : String}
theorem am_aft_ok {rt : Option FieldType} {nx : Bool} {v : Value} (hr : am_rok rt (some v) = true) : am_aft rt nx M pc lv rest (some (.inl (some v), σ)) = some (.inr (pc + 3, lv, v :: rest, σ)) := by
  unfold am_aft
  exact if_pos hr
theorem g_wok {v : Value} (h : decode M.2.1 pc = .ok (.invokevirtual k, 3)) (hc : am_cal M.1.cls k = some (w, k', 0, kc, p1, p2, p3, p4)) (hN : am_ml[kc]? = some N) (hn : N.2.2.2.2.2 + 1 = n) (hst : st.take n = (.ref a :: as).reverse) (hst2 : st.drop n = rest) (hlen : as.length + 1 = n) (hcat : am_cat rest ≤ 8) (hO : am_isO a N.1.cls = true) (hr : am_rok N.2.2.2.1 (some v) = true) (hE : C kc (.ref a :: as) σ = some (.inl (some v), σ')) (hp : pc + 3 = pc') : am_go X C M pc lv st σ = am_go X C M pc' lv (v :: rest) σ' := by
  rw [g_callV h, am_inv_go (kd := true) (as := .ref a :: as) hc hN rfl (by simpa using hn) hst hst2 (by simpa using hlen) hcat (fun _ => ⟨a, as, rfl, hO⟩), hE, am_aft_ok hr]
  subst hp
  rfl
theorem g_wx (h : decode M.2.1 pc = .ok (.invokevirtual k, 3)) (hc : am_cal M.1.cls k = some (w, k', 0, kc, p1, p2, p3, p4)) (hN : am_ml[kc]? = some N) (hn : N.2.2.2.2.2 + 1 = n) (hst : st.take n = (.ref a :: as).reverse) (hst2 : st.drop n = rest) (hlen : as.length + 1 = n) (hcat : am_cat rest ≤ 8) (hO : am_isO a N.1.cls = true) (hE : C kc (.ref a :: as) σ = some (.inr E, σ')) (hx : am_exc M pc lv E σ' = some (.inr (pc', lv', [], σ'))) : am_go X C M pc lv st σ = am_go X C M pc' lv' [] σ' := by
  rw [g_callV h, am_inv_go (kd := true) (as := .ref a :: as) hc hN rfl (by simpa using hn) hst hst2 (by simpa using hlen) hcat (fun _ => ⟨a, as, rfl, hO⟩), hE, show am_aft N.2.2.2.1 ((w, k', 0, kc, p1, p2, p3, p4).2.2.1 == 2) M pc lv rest (some (.inr E, σ')) = am_exc M pc lv E σ' from rfl, hx]
theorem am_exc_1 {q z : Nat × Nat × Nat × Nat} {qs : List (Nat × Nat × Nat × Nat)} {n : Fin 4} (hM : M.2.2.2.2.1 = q :: qs) (hf : (q :: qs).find? (fun z => decide (z.1 ≤ pc) && (decide (pc < z.2.1) && am_cln z.2.2.2 == E)) = some z) (hd : decode M.2.1 z.2.2.1 = .ok (.astore_n n, 1)) (hs : am_st1 lv (n : Nat) .null = some lv') : am_exc M pc lv E σ = some (.inr (z.2.2.1 + 1, lv', [], σ)) := by
  unfold am_exc
  rw [hM]
  simp only [hf, hd, hs]
theorem am_exc_2 {q z : Nat × Nat × Nat × Nat} {qs : List (Nat × Nat × Nat × Nat)} {n : Nat} (hM : M.2.2.2.2.1 = q :: qs) (hf : (q :: qs).find? (fun z => decide (z.1 ≤ pc) && (decide (pc < z.2.1) && am_cln z.2.2.2 == E)) = some z) (hd : decode M.2.1 z.2.2.1 = .ok (.astore n, 2)) (hs : am_st1 lv n .null = some lv') : am_exc M pc lv E σ = some (.inr (z.2.2.1 + 2, lv', [], σ)) := by
  unfold am_exc
  rw [hM]
  simp only [hf, hd, hs]
end WRP
theorem wo277 {d : Nat} {σ X : am_M} {v : Int32} (v1 : Int32) (w2 : Int64) (h : am_ex d 98 [.ref 0, .int v1, .long w2] σ = rI v X) : am_ex (d + 1) 277 [.ref 0, .int v1, .long w2, .ref 57] σ = rI (nI 0) (am_wJ X 57 0 v.toInt64) := by
  refine Eq.trans (am_ex_s m277 (Nat.le_of_ble_eq_true rfl) rfl) ?_
  refine Eq.trans (g_A dL_store_0 rfl rfl) ?_
  refine Eq.trans (g_K (v := nI 0) dL_store_2 rfl rfl) ?_
  refine Eq.trans (g_A dL_store_3 rfl rfl) ?_
  refine Eq.trans (g_A dL_store_4 rfl rfl) ?_
  refine Eq.trans (g_A dL_store_5 rfl rfl) ?_
  refine Eq.trans (g_wok (a := 0) (as := [.int v1, .long w2]) (rest := [.int (nI 0), .ref 57]) dL_store_6 cl263 m98 rfl rfl rfl rfl (Nat.le_of_ble_eq_true rfl) rfl rfl h rfl) ?_
  refine Eq.trans (g_i2l dL_store_9 rfl) ?_
  refine Eq.trans (g_last dL_store_10 sh57 rfl) ?_
  refine Eq.trans (if_pos (by decide)) ?_
  refine Eq.trans (g_goto (pc' := 22) dL_store_11 rfl) ?_
  refine Eq.trans (g_K (v := nI 0) dL_store_22 rfl rfl) ?_
  exact g_iret dL_store_23 rfl
theorem wx277_1 {d : Nat} {σ X : am_M} (v1 : Int32) (w2 : Int64) (h : am_ex d 98 [.ref 0, .int v1, .long w2] σ = rX xIO X) : am_ex (d + 1) 277 [.ref 0, .int v1, .long w2, .ref 57] σ = rI (nI 1) X := by
  refine Eq.trans (am_ex_s m277 (Nat.le_of_ble_eq_true rfl) rfl) ?_
  refine Eq.trans (g_A dL_store_0 rfl rfl) ?_
  refine Eq.trans (g_K (v := nI 0) dL_store_2 rfl rfl) ?_
  refine Eq.trans (g_A dL_store_3 rfl rfl) ?_
  refine Eq.trans (g_A dL_store_4 rfl rfl) ?_
  refine Eq.trans (g_A dL_store_5 rfl rfl) ?_
  refine Eq.trans (g_wx (pc' := 16) (lv' := [.ref 0, .int v1, .long w2, .null, .ref 57, .null]) (a := 0) (as := [.int v1, .long w2]) (rest := [.int (nI 0), .ref 57]) dL_store_6 cl263 m98 rfl rfl rfl rfl (Nat.le_of_ble_eq_true rfl) rfl h (am_exc_2 (z := (0, 11, 14, 13)) rfl (by decide +kernel) dL_store_14 rfl)) ?_
  refine Eq.trans (g_K (v := nI 1) dL_store_16 rfl rfl) ?_
  exact g_iret dL_store_17 rfl
theorem wx277_2 {d : Nat} {σ X : am_M} (v1 : Int32) (w2 : Int64) (h : am_ex d 98 [.ref 0, .int v1, .long w2] σ = rX xIS X) : am_ex (d + 1) 277 [.ref 0, .int v1, .long w2, .ref 57] σ = rI (nI 2) X := by
  refine Eq.trans (am_ex_s m277 (Nat.le_of_ble_eq_true rfl) rfl) ?_
  refine Eq.trans (g_A dL_store_0 rfl rfl) ?_
  refine Eq.trans (g_K (v := nI 0) dL_store_2 rfl rfl) ?_
  refine Eq.trans (g_A dL_store_3 rfl rfl) ?_
  refine Eq.trans (g_A dL_store_4 rfl rfl) ?_
  refine Eq.trans (g_A dL_store_5 rfl rfl) ?_
  refine Eq.trans (g_wx (pc' := 20) (lv' := [.ref 0, .int v1, .long w2, .null, .ref 57, .null]) (a := 0) (as := [.int v1, .long w2]) (rest := [.int (nI 0), .ref 57]) dL_store_6 cl263 m98 rfl rfl rfl rfl (Nat.le_of_ble_eq_true rfl) rfl h (am_exc_2 (z := (0, 11, 18, 15)) rfl (by decide +kernel) dL_store_18 rfl)) ?_
  refine Eq.trans (g_K (v := nI 2) dL_store_20 rfl rfl) ?_
  exact g_iret dL_store_21 rfl
theorem wo278 {d : Nat} {σ X : am_M} {v : Int64} (v1 : Int32) (h : am_ex d 99 [.ref 0, .int v1] σ = rJ v X) : am_ex (d + 1) 278 [.ref 0, .int v1, .ref 57] σ = rI (nI 0) (am_wJ X 57 0 v) := by
  refine Eq.trans (am_ex_s m278 (Nat.le_of_ble_eq_true rfl) rfl) ?_
  refine Eq.trans (g_A dL_read_0 rfl rfl) ?_
  refine Eq.trans (g_K (v := nI 0) dL_read_1 rfl rfl) ?_
  refine Eq.trans (g_A dL_read_2 rfl rfl) ?_
  refine Eq.trans (g_A dL_read_3 rfl rfl) ?_
  refine Eq.trans (g_wok (a := 0) (as := [.int v1]) (rest := [.int (nI 0), .ref 57]) dL_read_4 cl264 m99 rfl rfl rfl rfl (Nat.le_of_ble_eq_true rfl) rfl rfl h rfl) ?_
  refine Eq.trans (g_last dL_read_7 sh57 rfl) ?_
  refine Eq.trans (if_pos (by decide)) ?_
  refine Eq.trans (g_goto (pc' := 17) dL_read_8 rfl) ?_
  refine Eq.trans (g_K (v := nI 0) dL_read_17 rfl rfl) ?_
  exact g_iret dL_read_18 rfl
theorem wx278_1 {d : Nat} {σ X : am_M} (v1 : Int32) (h : am_ex d 99 [.ref 0, .int v1] σ = rX xIO X) : am_ex (d + 1) 278 [.ref 0, .int v1, .ref 57] σ = rI (nI 1) X := by
  refine Eq.trans (am_ex_s m278 (Nat.le_of_ble_eq_true rfl) rfl) ?_
  refine Eq.trans (g_A dL_read_0 rfl rfl) ?_
  refine Eq.trans (g_K (v := nI 0) dL_read_1 rfl rfl) ?_
  refine Eq.trans (g_A dL_read_2 rfl rfl) ?_
  refine Eq.trans (g_A dL_read_3 rfl rfl) ?_
  refine Eq.trans (g_wx (pc' := 12) (lv' := [.ref 0, .int v1, .ref 57, .null]) (a := 0) (as := [.int v1]) (rest := [.int (nI 0), .ref 57]) dL_read_4 cl264 m99 rfl rfl rfl rfl (Nat.le_of_ble_eq_true rfl) rfl h (am_exc_1 (z := (0, 8, 11, 13)) rfl (by decide +kernel) dL_read_11 rfl)) ?_
  refine Eq.trans (g_K (v := nI 1) dL_read_12 rfl rfl) ?_
  exact g_iret dL_read_13 rfl
theorem wx278_2 {d : Nat} {σ X : am_M} (v1 : Int32) (h : am_ex d 99 [.ref 0, .int v1] σ = rX xNS X) : am_ex (d + 1) 278 [.ref 0, .int v1, .ref 57] σ = rI (nI 2) X := by
  refine Eq.trans (am_ex_s m278 (Nat.le_of_ble_eq_true rfl) rfl) ?_
  refine Eq.trans (g_A dL_read_0 rfl rfl) ?_
  refine Eq.trans (g_K (v := nI 0) dL_read_1 rfl rfl) ?_
  refine Eq.trans (g_A dL_read_2 rfl rfl) ?_
  refine Eq.trans (g_A dL_read_3 rfl rfl) ?_
  refine Eq.trans (g_wx (pc' := 15) (lv' := [.ref 0, .int v1, .ref 57, .null]) (a := 0) (as := [.int v1]) (rest := [.int (nI 0), .ref 57]) dL_read_4 cl264 m99 rfl rfl rfl rfl (Nat.le_of_ble_eq_true rfl) rfl h (am_exc_1 (z := (0, 8, 14, 21)) rfl (by decide +kernel) dL_read_14 rfl)) ?_
  refine Eq.trans (g_K (v := nI 2) dL_read_15 rfl rfl) ?_
  exact g_iret dL_read_16 rfl
theorem wo279 {d : Nat} {σ X : am_M} {v : Int32} (v1 : Int32) (h : am_ex d 100 [.ref 0, .int v1] σ = rI v X) : am_ex (d + 1) 279 [.ref 0, .int v1, .ref 57] σ = rI (nI 0) (am_wJ X 57 0 v.toInt64) := by
  refine Eq.trans (am_ex_s m279 (Nat.le_of_ble_eq_true rfl) rfl) ?_
  refine Eq.trans (g_A dL_recordAt_0 rfl rfl) ?_
  refine Eq.trans (g_K (v := nI 0) dL_recordAt_1 rfl rfl) ?_
  refine Eq.trans (g_A dL_recordAt_2 rfl rfl) ?_
  refine Eq.trans (g_A dL_recordAt_3 rfl rfl) ?_
  refine Eq.trans (g_wok (a := 0) (as := [.int v1]) (rest := [.int (nI 0), .ref 57]) dL_recordAt_4 cl265 m100 rfl rfl rfl rfl (Nat.le_of_ble_eq_true rfl) rfl rfl h rfl) ?_
  refine Eq.trans (g_i2l dL_recordAt_7 rfl) ?_
  refine Eq.trans (g_last dL_recordAt_8 sh57 rfl) ?_
  refine Eq.trans (if_pos (by decide)) ?_
  refine Eq.trans (g_goto (pc' := 15) dL_recordAt_9 rfl) ?_
  refine Eq.trans (g_K (v := nI 0) dL_recordAt_15 rfl rfl) ?_
  exact g_iret dL_recordAt_16 rfl
theorem wx279_1 {d : Nat} {σ X : am_M} (v1 : Int32) (h : am_ex d 100 [.ref 0, .int v1] σ = rX xIO X) : am_ex (d + 1) 279 [.ref 0, .int v1, .ref 57] σ = rI (nI 1) X := by
  refine Eq.trans (am_ex_s m279 (Nat.le_of_ble_eq_true rfl) rfl) ?_
  refine Eq.trans (g_A dL_recordAt_0 rfl rfl) ?_
  refine Eq.trans (g_K (v := nI 0) dL_recordAt_1 rfl rfl) ?_
  refine Eq.trans (g_A dL_recordAt_2 rfl rfl) ?_
  refine Eq.trans (g_A dL_recordAt_3 rfl rfl) ?_
  refine Eq.trans (g_wx (pc' := 13) (lv' := [.ref 0, .int v1, .ref 57, .null]) (a := 0) (as := [.int v1]) (rest := [.int (nI 0), .ref 57]) dL_recordAt_4 cl265 m100 rfl rfl rfl rfl (Nat.le_of_ble_eq_true rfl) rfl h (am_exc_1 (z := (0, 9, 12, 13)) rfl (by decide +kernel) dL_recordAt_12 rfl)) ?_
  refine Eq.trans (g_K (v := nI 1) dL_recordAt_13 rfl rfl) ?_
  exact g_iret dL_recordAt_14 rfl
theorem wo280 {d : Nat} {σ X : am_M} {v : Int32} (v1 : Int32) (h : am_ex d 101 [.ref 0, .int v1] σ = rI v X) : am_ex (d + 1) 280 [.ref 0, .int v1, .ref 57] σ = rI (nI 0) (am_wJ X 57 0 v.toInt64) := by
  refine Eq.trans (am_ex_s m280 (Nat.le_of_ble_eq_true rfl) rfl) ?_
  refine Eq.trans (g_A dL_leafOf_0 rfl rfl) ?_
  refine Eq.trans (g_K (v := nI 0) dL_leafOf_1 rfl rfl) ?_
  refine Eq.trans (g_A dL_leafOf_2 rfl rfl) ?_
  refine Eq.trans (g_A dL_leafOf_3 rfl rfl) ?_
  refine Eq.trans (g_wok (a := 0) (as := [.int v1]) (rest := [.int (nI 0), .ref 57]) dL_leafOf_4 cl266 m101 rfl rfl rfl rfl (Nat.le_of_ble_eq_true rfl) rfl rfl h rfl) ?_
  refine Eq.trans (g_i2l dL_leafOf_7 rfl) ?_
  refine Eq.trans (g_last dL_leafOf_8 sh57 rfl) ?_
  refine Eq.trans (if_pos (by decide)) ?_
  refine Eq.trans (g_goto (pc' := 15) dL_leafOf_9 rfl) ?_
  refine Eq.trans (g_K (v := nI 0) dL_leafOf_15 rfl rfl) ?_
  exact g_iret dL_leafOf_16 rfl
theorem wx280_1 {d : Nat} {σ X : am_M} (v1 : Int32) (h : am_ex d 101 [.ref 0, .int v1] σ = rX xIO X) : am_ex (d + 1) 280 [.ref 0, .int v1, .ref 57] σ = rI (nI 1) X := by
  refine Eq.trans (am_ex_s m280 (Nat.le_of_ble_eq_true rfl) rfl) ?_
  refine Eq.trans (g_A dL_leafOf_0 rfl rfl) ?_
  refine Eq.trans (g_K (v := nI 0) dL_leafOf_1 rfl rfl) ?_
  refine Eq.trans (g_A dL_leafOf_2 rfl rfl) ?_
  refine Eq.trans (g_A dL_leafOf_3 rfl rfl) ?_
  refine Eq.trans (g_wx (pc' := 13) (lv' := [.ref 0, .int v1, .ref 57, .null]) (a := 0) (as := [.int v1]) (rest := [.int (nI 0), .ref 57]) dL_leafOf_4 cl266 m101 rfl rfl rfl rfl (Nat.le_of_ble_eq_true rfl) rfl h (am_exc_1 (z := (0, 9, 12, 13)) rfl (by decide +kernel) dL_leafOf_12 rfl)) ?_
  refine Eq.trans (g_K (v := nI 1) dL_leafOf_13 rfl rfl) ?_
  exact g_iret dL_leafOf_14 rfl
theorem wo281 {d : Nat} {σ X : am_M} {v : Int32} (v1 : Int32) (h : am_ex d 102 [.ref 0, .int v1] σ = rI v X) : am_ex (d + 1) 281 [.ref 0, .int v1, .ref 57] σ = rI (nI 0) (am_wJ X 57 0 v.toInt64) := by
  refine Eq.trans (am_ex_s m281 (Nat.le_of_ble_eq_true rfl) rfl) ?_
  refine Eq.trans (g_A dL_recordCount_0 rfl rfl) ?_
  refine Eq.trans (g_K (v := nI 0) dL_recordCount_1 rfl rfl) ?_
  refine Eq.trans (g_A dL_recordCount_2 rfl rfl) ?_
  refine Eq.trans (g_A dL_recordCount_3 rfl rfl) ?_
  refine Eq.trans (g_wok (a := 0) (as := [.int v1]) (rest := [.int (nI 0), .ref 57]) dL_recordCount_4 cl267 m102 rfl rfl rfl rfl (Nat.le_of_ble_eq_true rfl) rfl rfl h rfl) ?_
  refine Eq.trans (g_i2l dL_recordCount_7 rfl) ?_
  refine Eq.trans (g_last dL_recordCount_8 sh57 rfl) ?_
  refine Eq.trans (if_pos (by decide)) ?_
  refine Eq.trans (g_goto (pc' := 15) dL_recordCount_9 rfl) ?_
  refine Eq.trans (g_K (v := nI 0) dL_recordCount_15 rfl rfl) ?_
  exact g_iret dL_recordCount_16 rfl
theorem wx281_1 {d : Nat} {σ X : am_M} (v1 : Int32) (h : am_ex d 102 [.ref 0, .int v1] σ = rX xIA X) : am_ex (d + 1) 281 [.ref 0, .int v1, .ref 57] σ = rI (nI 1) X := by
  refine Eq.trans (am_ex_s m281 (Nat.le_of_ble_eq_true rfl) rfl) ?_
  refine Eq.trans (g_A dL_recordCount_0 rfl rfl) ?_
  refine Eq.trans (g_K (v := nI 0) dL_recordCount_1 rfl rfl) ?_
  refine Eq.trans (g_A dL_recordCount_2 rfl rfl) ?_
  refine Eq.trans (g_A dL_recordCount_3 rfl rfl) ?_
  refine Eq.trans (g_wx (pc' := 13) (lv' := [.ref 0, .int v1, .ref 57, .null]) (a := 0) (as := [.int v1]) (rest := [.int (nI 0), .ref 57]) dL_recordCount_4 cl267 m102 rfl rfl rfl rfl (Nat.le_of_ble_eq_true rfl) rfl h (am_exc_1 (z := (0, 9, 12, 33)) rfl (by decide +kernel) dL_recordCount_12 rfl)) ?_
  refine Eq.trans (g_K (v := nI 1) dL_recordCount_13 rfl rfl) ?_
  exact g_iret dL_recordCount_14 rfl
theorem wo282 {d : Nat} {σ X : am_M} {v : Int32} (v1 : Int32) (h : am_ex d 103 [.ref 0, .int v1] σ = rI v X) : am_ex (d + 1) 282 [.ref 0, .int v1, .ref 57] σ = rI (nI 0) (am_wJ X 57 0 v.toInt64) := by
  refine Eq.trans (am_ex_s m282 (Nat.le_of_ble_eq_true rfl) rfl) ?_
  refine Eq.trans (g_A dL_openers_0 rfl rfl) ?_
  refine Eq.trans (g_K (v := nI 0) dL_openers_1 rfl rfl) ?_
  refine Eq.trans (g_A dL_openers_2 rfl rfl) ?_
  refine Eq.trans (g_A dL_openers_3 rfl rfl) ?_
  refine Eq.trans (g_wok (a := 0) (as := [.int v1]) (rest := [.int (nI 0), .ref 57]) dL_openers_4 cl268 m103 rfl rfl rfl rfl (Nat.le_of_ble_eq_true rfl) rfl rfl h rfl) ?_
  refine Eq.trans (g_i2l dL_openers_7 rfl) ?_
  refine Eq.trans (g_last dL_openers_8 sh57 rfl) ?_
  refine Eq.trans (if_pos (by decide)) ?_
  refine Eq.trans (g_goto (pc' := 15) dL_openers_9 rfl) ?_
  refine Eq.trans (g_K (v := nI 0) dL_openers_15 rfl rfl) ?_
  exact g_iret dL_openers_16 rfl
theorem wx282_1 {d : Nat} {σ X : am_M} (v1 : Int32) (h : am_ex d 103 [.ref 0, .int v1] σ = rX xIO X) : am_ex (d + 1) 282 [.ref 0, .int v1, .ref 57] σ = rI (nI 1) X := by
  refine Eq.trans (am_ex_s m282 (Nat.le_of_ble_eq_true rfl) rfl) ?_
  refine Eq.trans (g_A dL_openers_0 rfl rfl) ?_
  refine Eq.trans (g_K (v := nI 0) dL_openers_1 rfl rfl) ?_
  refine Eq.trans (g_A dL_openers_2 rfl rfl) ?_
  refine Eq.trans (g_A dL_openers_3 rfl rfl) ?_
  refine Eq.trans (g_wx (pc' := 13) (lv' := [.ref 0, .int v1, .ref 57, .null]) (a := 0) (as := [.int v1]) (rest := [.int (nI 0), .ref 57]) dL_openers_4 cl268 m103 rfl rfl rfl rfl (Nat.le_of_ble_eq_true rfl) rfl h (am_exc_1 (z := (0, 9, 12, 13)) rfl (by decide +kernel) dL_openers_12 rfl)) ?_
  refine Eq.trans (g_K (v := nI 1) dL_openers_13 rfl rfl) ?_
  exact g_iret dL_openers_14 rfl
theorem wo283 {d : Nat} {σ X : am_M} {v : Int64} (v1 : Int32) (v2 : Int32) (h : am_ex d 104 [.ref 0, .int v1, .int v2] σ = rJ v X) : am_ex (d + 1) 283 [.ref 0, .int v1, .int v2, .ref 57] σ = rI (nI 0) (am_wJ X 57 0 v) := by
  refine Eq.trans (am_ex_s m283 (Nat.le_of_ble_eq_true rfl) rfl) ?_
  refine Eq.trans (g_A dL_openWith_0 rfl rfl) ?_
  refine Eq.trans (g_K (v := nI 0) dL_openWith_1 rfl rfl) ?_
  refine Eq.trans (g_A dL_openWith_2 rfl rfl) ?_
  refine Eq.trans (g_A dL_openWith_3 rfl rfl) ?_
  refine Eq.trans (g_A dL_openWith_4 rfl rfl) ?_
  refine Eq.trans (g_wok (a := 0) (as := [.int v1, .int v2]) (rest := [.int (nI 0), .ref 57]) dL_openWith_5 cl269 m104 rfl rfl rfl rfl (Nat.le_of_ble_eq_true rfl) rfl rfl h rfl) ?_
  refine Eq.trans (g_last dL_openWith_8 sh57 rfl) ?_
  refine Eq.trans (if_pos (by decide)) ?_
  refine Eq.trans (g_goto (pc' := 20) dL_openWith_9 rfl) ?_
  refine Eq.trans (g_K (v := nI 0) dL_openWith_20 rfl rfl) ?_
  exact g_iret dL_openWith_21 rfl
theorem wx283_1 {d : Nat} {σ X : am_M} (v1 : Int32) (v2 : Int32) (h : am_ex d 104 [.ref 0, .int v1, .int v2] σ = rX xIO X) : am_ex (d + 1) 283 [.ref 0, .int v1, .int v2, .ref 57] σ = rI (nI 1) X := by
  refine Eq.trans (am_ex_s m283 (Nat.le_of_ble_eq_true rfl) rfl) ?_
  refine Eq.trans (g_A dL_openWith_0 rfl rfl) ?_
  refine Eq.trans (g_K (v := nI 0) dL_openWith_1 rfl rfl) ?_
  refine Eq.trans (g_A dL_openWith_2 rfl rfl) ?_
  refine Eq.trans (g_A dL_openWith_3 rfl rfl) ?_
  refine Eq.trans (g_A dL_openWith_4 rfl rfl) ?_
  refine Eq.trans (g_wx (pc' := 14) (lv' := [.ref 0, .int v1, .int v2, .ref 57, .null]) (a := 0) (as := [.int v1, .int v2]) (rest := [.int (nI 0), .ref 57]) dL_openWith_5 cl269 m104 rfl rfl rfl rfl (Nat.le_of_ble_eq_true rfl) rfl h (am_exc_2 (z := (0, 9, 12, 13)) rfl (by decide +kernel) dL_openWith_12 rfl)) ?_
  refine Eq.trans (g_K (v := nI 1) dL_openWith_14 rfl rfl) ?_
  exact g_iret dL_openWith_15 rfl
theorem wx283_2 {d : Nat} {σ X : am_M} (v1 : Int32) (v2 : Int32) (h : am_ex d 104 [.ref 0, .int v1, .int v2] σ = rX xNS X) : am_ex (d + 1) 283 [.ref 0, .int v1, .int v2, .ref 57] σ = rI (nI 2) X := by
  refine Eq.trans (am_ex_s m283 (Nat.le_of_ble_eq_true rfl) rfl) ?_
  refine Eq.trans (g_A dL_openWith_0 rfl rfl) ?_
  refine Eq.trans (g_K (v := nI 0) dL_openWith_1 rfl rfl) ?_
  refine Eq.trans (g_A dL_openWith_2 rfl rfl) ?_
  refine Eq.trans (g_A dL_openWith_3 rfl rfl) ?_
  refine Eq.trans (g_A dL_openWith_4 rfl rfl) ?_
  refine Eq.trans (g_wx (pc' := 18) (lv' := [.ref 0, .int v1, .int v2, .ref 57, .null]) (a := 0) (as := [.int v1, .int v2]) (rest := [.int (nI 0), .ref 57]) dL_openWith_5 cl269 m104 rfl rfl rfl rfl (Nat.le_of_ble_eq_true rfl) rfl h (am_exc_2 (z := (0, 9, 16, 21)) rfl (by decide +kernel) dL_openWith_16 rfl)) ?_
  refine Eq.trans (g_K (v := nI 2) dL_openWith_18 rfl rfl) ?_
  exact g_iret dL_openWith_19 rfl
theorem wo284 {d : Nat} {σ X : am_M} {v : Int32} (v1 : Int32) (v2 : Int32) (h : am_ex d 105 [.ref 0, .int v1, .int v2] σ = rI v X) : am_ex (d + 1) 284 [.ref 0, .int v1, .int v2, .ref 57] σ = rI (nI 0) (am_wJ X 57 0 v.toInt64) := by
  refine Eq.trans (am_ex_s m284 (Nat.le_of_ble_eq_true rfl) rfl) ?_
  refine Eq.trans (g_A dL_openSteps_0 rfl rfl) ?_
  refine Eq.trans (g_K (v := nI 0) dL_openSteps_1 rfl rfl) ?_
  refine Eq.trans (g_A dL_openSteps_2 rfl rfl) ?_
  refine Eq.trans (g_A dL_openSteps_3 rfl rfl) ?_
  refine Eq.trans (g_A dL_openSteps_4 rfl rfl) ?_
  refine Eq.trans (g_wok (a := 0) (as := [.int v1, .int v2]) (rest := [.int (nI 0), .ref 57]) dL_openSteps_5 cl270 m105 rfl rfl rfl rfl (Nat.le_of_ble_eq_true rfl) rfl rfl h rfl) ?_
  refine Eq.trans (g_i2l dL_openSteps_8 rfl) ?_
  refine Eq.trans (g_last dL_openSteps_9 sh57 rfl) ?_
  refine Eq.trans (if_pos (by decide)) ?_
  refine Eq.trans (g_goto (pc' := 21) dL_openSteps_10 rfl) ?_
  refine Eq.trans (g_K (v := nI 0) dL_openSteps_21 rfl rfl) ?_
  exact g_iret dL_openSteps_22 rfl
theorem wx284_1 {d : Nat} {σ X : am_M} (v1 : Int32) (v2 : Int32) (h : am_ex d 105 [.ref 0, .int v1, .int v2] σ = rX xIO X) : am_ex (d + 1) 284 [.ref 0, .int v1, .int v2, .ref 57] σ = rI (nI 1) X := by
  refine Eq.trans (am_ex_s m284 (Nat.le_of_ble_eq_true rfl) rfl) ?_
  refine Eq.trans (g_A dL_openSteps_0 rfl rfl) ?_
  refine Eq.trans (g_K (v := nI 0) dL_openSteps_1 rfl rfl) ?_
  refine Eq.trans (g_A dL_openSteps_2 rfl rfl) ?_
  refine Eq.trans (g_A dL_openSteps_3 rfl rfl) ?_
  refine Eq.trans (g_A dL_openSteps_4 rfl rfl) ?_
  refine Eq.trans (g_wx (pc' := 15) (lv' := [.ref 0, .int v1, .int v2, .ref 57, .null]) (a := 0) (as := [.int v1, .int v2]) (rest := [.int (nI 0), .ref 57]) dL_openSteps_5 cl270 m105 rfl rfl rfl rfl (Nat.le_of_ble_eq_true rfl) rfl h (am_exc_2 (z := (0, 10, 13, 13)) rfl (by decide +kernel) dL_openSteps_13 rfl)) ?_
  refine Eq.trans (g_K (v := nI 1) dL_openSteps_15 rfl rfl) ?_
  exact g_iret dL_openSteps_16 rfl
theorem wx284_2 {d : Nat} {σ X : am_M} (v1 : Int32) (v2 : Int32) (h : am_ex d 105 [.ref 0, .int v1, .int v2] σ = rX xNS X) : am_ex (d + 1) 284 [.ref 0, .int v1, .int v2, .ref 57] σ = rI (nI 2) X := by
  refine Eq.trans (am_ex_s m284 (Nat.le_of_ble_eq_true rfl) rfl) ?_
  refine Eq.trans (g_A dL_openSteps_0 rfl rfl) ?_
  refine Eq.trans (g_K (v := nI 0) dL_openSteps_1 rfl rfl) ?_
  refine Eq.trans (g_A dL_openSteps_2 rfl rfl) ?_
  refine Eq.trans (g_A dL_openSteps_3 rfl rfl) ?_
  refine Eq.trans (g_A dL_openSteps_4 rfl rfl) ?_
  refine Eq.trans (g_wx (pc' := 19) (lv' := [.ref 0, .int v1, .int v2, .ref 57, .null]) (a := 0) (as := [.int v1, .int v2]) (rest := [.int (nI 0), .ref 57]) dL_openSteps_5 cl270 m105 rfl rfl rfl rfl (Nat.le_of_ble_eq_true rfl) rfl h (am_exc_2 (z := (0, 10, 17, 21)) rfl (by decide +kernel) dL_openSteps_17 rfl)) ?_
  refine Eq.trans (g_K (v := nI 2) dL_openSteps_19 rfl rfl) ?_
  exact g_iret dL_openSteps_20 rfl
theorem wo285 {d : Nat} {σ X : am_M} {v : Int32} (v1 : Int32) (v2 : Int32) (h : am_ex d 106 [.ref 0, .int v1, .int v2] σ = rI v X) : am_ex (d + 1) 285 [.ref 0, .int v1, .int v2, .ref 57] σ = rI (nI 0) (am_wJ X 57 0 v.toInt64) := by
  refine Eq.trans (am_ex_s m285 (Nat.le_of_ble_eq_true rfl) rfl) ?_
  refine Eq.trans (g_A dL_exposedBy_0 rfl rfl) ?_
  refine Eq.trans (g_K (v := nI 0) dL_exposedBy_1 rfl rfl) ?_
  refine Eq.trans (g_A dL_exposedBy_2 rfl rfl) ?_
  refine Eq.trans (g_A dL_exposedBy_3 rfl rfl) ?_
  refine Eq.trans (g_A dL_exposedBy_4 rfl rfl) ?_
  refine Eq.trans (g_wok (a := 0) (as := [.int v1, .int v2]) (rest := [.int (nI 0), .ref 57]) dL_exposedBy_5 cl271 m106 rfl rfl rfl rfl (Nat.le_of_ble_eq_true rfl) rfl rfl h rfl) ?_
  refine Eq.trans (g_i2l dL_exposedBy_8 rfl) ?_
  refine Eq.trans (g_last dL_exposedBy_9 sh57 rfl) ?_
  refine Eq.trans (if_pos (by decide)) ?_
  refine Eq.trans (g_goto (pc' := 17) dL_exposedBy_10 rfl) ?_
  refine Eq.trans (g_K (v := nI 0) dL_exposedBy_17 rfl rfl) ?_
  exact g_iret dL_exposedBy_18 rfl
theorem wx285_1 {d : Nat} {σ X : am_M} (v1 : Int32) (v2 : Int32) (h : am_ex d 106 [.ref 0, .int v1, .int v2] σ = rX xIO X) : am_ex (d + 1) 285 [.ref 0, .int v1, .int v2, .ref 57] σ = rI (nI 1) X := by
  refine Eq.trans (am_ex_s m285 (Nat.le_of_ble_eq_true rfl) rfl) ?_
  refine Eq.trans (g_A dL_exposedBy_0 rfl rfl) ?_
  refine Eq.trans (g_K (v := nI 0) dL_exposedBy_1 rfl rfl) ?_
  refine Eq.trans (g_A dL_exposedBy_2 rfl rfl) ?_
  refine Eq.trans (g_A dL_exposedBy_3 rfl rfl) ?_
  refine Eq.trans (g_A dL_exposedBy_4 rfl rfl) ?_
  refine Eq.trans (g_wx (pc' := 15) (lv' := [.ref 0, .int v1, .int v2, .ref 57, .null]) (a := 0) (as := [.int v1, .int v2]) (rest := [.int (nI 0), .ref 57]) dL_exposedBy_5 cl271 m106 rfl rfl rfl rfl (Nat.le_of_ble_eq_true rfl) rfl h (am_exc_2 (z := (0, 10, 13, 13)) rfl (by decide +kernel) dL_exposedBy_13 rfl)) ?_
  refine Eq.trans (g_K (v := nI 1) dL_exposedBy_15 rfl rfl) ?_
  exact g_iret dL_exposedBy_16 rfl
theorem wo286 {d : Nat} {σ X : am_M} {v : Int32} (v1 : Int32) (v2 : Int32) (h : am_ex d 107 [.ref 0, .int v1, .int v2] σ = rI v X) : am_ex (d + 1) 286 [.ref 0, .int v1, .int v2, .ref 57] σ = rI (nI 0) (am_wJ X 57 0 v.toInt64) := by
  refine Eq.trans (am_ex_s m286 (Nat.le_of_ble_eq_true rfl) rfl) ?_
  refine Eq.trans (g_A dL_hold_0 rfl rfl) ?_
  refine Eq.trans (g_K (v := nI 0) dL_hold_1 rfl rfl) ?_
  refine Eq.trans (g_A dL_hold_2 rfl rfl) ?_
  refine Eq.trans (g_A dL_hold_3 rfl rfl) ?_
  refine Eq.trans (g_A dL_hold_4 rfl rfl) ?_
  refine Eq.trans (g_wok (a := 0) (as := [.int v1, .int v2]) (rest := [.int (nI 0), .ref 57]) dL_hold_5 cl272 m107 rfl rfl rfl rfl (Nat.le_of_ble_eq_true rfl) rfl rfl h rfl) ?_
  refine Eq.trans (g_i2l dL_hold_8 rfl) ?_
  refine Eq.trans (g_last dL_hold_9 sh57 rfl) ?_
  refine Eq.trans (if_pos (by decide)) ?_
  refine Eq.trans (g_goto (pc' := 17) dL_hold_10 rfl) ?_
  refine Eq.trans (g_K (v := nI 0) dL_hold_17 rfl rfl) ?_
  exact g_iret dL_hold_18 rfl
theorem wx286_1 {d : Nat} {σ X : am_M} (v1 : Int32) (v2 : Int32) (h : am_ex d 107 [.ref 0, .int v1, .int v2] σ = rX xIO X) : am_ex (d + 1) 286 [.ref 0, .int v1, .int v2, .ref 57] σ = rI (nI 1) X := by
  refine Eq.trans (am_ex_s m286 (Nat.le_of_ble_eq_true rfl) rfl) ?_
  refine Eq.trans (g_A dL_hold_0 rfl rfl) ?_
  refine Eq.trans (g_K (v := nI 0) dL_hold_1 rfl rfl) ?_
  refine Eq.trans (g_A dL_hold_2 rfl rfl) ?_
  refine Eq.trans (g_A dL_hold_3 rfl rfl) ?_
  refine Eq.trans (g_A dL_hold_4 rfl rfl) ?_
  refine Eq.trans (g_wx (pc' := 15) (lv' := [.ref 0, .int v1, .int v2, .ref 57, .null]) (a := 0) (as := [.int v1, .int v2]) (rest := [.int (nI 0), .ref 57]) dL_hold_5 cl272 m107 rfl rfl rfl rfl (Nat.le_of_ble_eq_true rfl) rfl h (am_exc_2 (z := (0, 10, 13, 13)) rfl (by decide +kernel) dL_hold_13 rfl)) ?_
  refine Eq.trans (g_K (v := nI 1) dL_hold_15 rfl rfl) ?_
  exact g_iret dL_hold_16 rfl
theorem wo287 {d : Nat} {σ X : am_M} {v : Int32} (v1 : Int32) (h : am_ex d 108 [.ref 0, .int v1] σ = rI v X) : am_ex (d + 1) 287 [.ref 0, .int v1, .ref 57] σ = rI (nI 0) (am_wJ X 57 0 v.toInt64) := by
  refine Eq.trans (am_ex_s m287 (Nat.le_of_ble_eq_true rfl) rfl) ?_
  refine Eq.trans (g_A dL_release_0 rfl rfl) ?_
  refine Eq.trans (g_K (v := nI 0) dL_release_1 rfl rfl) ?_
  refine Eq.trans (g_A dL_release_2 rfl rfl) ?_
  refine Eq.trans (g_A dL_release_3 rfl rfl) ?_
  refine Eq.trans (g_wok (a := 0) (as := [.int v1]) (rest := [.int (nI 0), .ref 57]) dL_release_4 cl273 m108 rfl rfl rfl rfl (Nat.le_of_ble_eq_true rfl) rfl rfl h rfl) ?_
  refine Eq.trans (g_i2l dL_release_7 rfl) ?_
  refine Eq.trans (g_last dL_release_8 sh57 rfl) ?_
  refine Eq.trans (if_pos (by decide)) ?_
  refine Eq.trans (g_goto (pc' := 15) dL_release_9 rfl) ?_
  refine Eq.trans (g_K (v := nI 0) dL_release_15 rfl rfl) ?_
  exact g_iret dL_release_16 rfl
theorem wx287_1 {d : Nat} {σ X : am_M} (v1 : Int32) (h : am_ex d 108 [.ref 0, .int v1] σ = rX xIO X) : am_ex (d + 1) 287 [.ref 0, .int v1, .ref 57] σ = rI (nI 1) X := by
  refine Eq.trans (am_ex_s m287 (Nat.le_of_ble_eq_true rfl) rfl) ?_
  refine Eq.trans (g_A dL_release_0 rfl rfl) ?_
  refine Eq.trans (g_K (v := nI 0) dL_release_1 rfl rfl) ?_
  refine Eq.trans (g_A dL_release_2 rfl rfl) ?_
  refine Eq.trans (g_A dL_release_3 rfl rfl) ?_
  refine Eq.trans (g_wx (pc' := 13) (lv' := [.ref 0, .int v1, .ref 57, .null]) (a := 0) (as := [.int v1]) (rest := [.int (nI 0), .ref 57]) dL_release_4 cl273 m108 rfl rfl rfl rfl (Nat.le_of_ble_eq_true rfl) rfl h (am_exc_1 (z := (0, 9, 12, 13)) rfl (by decide +kernel) dL_release_12 rfl)) ?_
  refine Eq.trans (g_K (v := nI 1) dL_release_13 rfl rfl) ?_
  exact g_iret dL_release_14 rfl
theorem wo288 {d : Nat} {σ X : am_M} {v : Int32} (v1 : Int32) (h : am_ex d 109 [.ref 0, .int v1] σ = rI v X) : am_ex (d + 1) 288 [.ref 0, .int v1, .ref 57] σ = rI (nI 0) (am_wJ X 57 0 v.toInt64) := by
  refine Eq.trans (am_ex_s m288 (Nat.le_of_ble_eq_true rfl) rfl) ?_
  refine Eq.trans (g_A dL_pins_0 rfl rfl) ?_
  refine Eq.trans (g_K (v := nI 0) dL_pins_1 rfl rfl) ?_
  refine Eq.trans (g_A dL_pins_2 rfl rfl) ?_
  refine Eq.trans (g_A dL_pins_3 rfl rfl) ?_
  refine Eq.trans (g_wok (a := 0) (as := [.int v1]) (rest := [.int (nI 0), .ref 57]) dL_pins_4 cl274 m109 rfl rfl rfl rfl (Nat.le_of_ble_eq_true rfl) rfl rfl h rfl) ?_
  refine Eq.trans (g_i2l dL_pins_7 rfl) ?_
  refine Eq.trans (g_last dL_pins_8 sh57 rfl) ?_
  refine Eq.trans (if_pos (by decide)) ?_
  refine Eq.trans (g_goto (pc' := 15) dL_pins_9 rfl) ?_
  refine Eq.trans (g_K (v := nI 0) dL_pins_15 rfl rfl) ?_
  exact g_iret dL_pins_16 rfl
theorem wx288_1 {d : Nat} {σ X : am_M} (v1 : Int32) (h : am_ex d 109 [.ref 0, .int v1] σ = rX xIO X) : am_ex (d + 1) 288 [.ref 0, .int v1, .ref 57] σ = rI (nI 1) X := by
  refine Eq.trans (am_ex_s m288 (Nat.le_of_ble_eq_true rfl) rfl) ?_
  refine Eq.trans (g_A dL_pins_0 rfl rfl) ?_
  refine Eq.trans (g_K (v := nI 0) dL_pins_1 rfl rfl) ?_
  refine Eq.trans (g_A dL_pins_2 rfl rfl) ?_
  refine Eq.trans (g_A dL_pins_3 rfl rfl) ?_
  refine Eq.trans (g_wx (pc' := 13) (lv' := [.ref 0, .int v1, .ref 57, .null]) (a := 0) (as := [.int v1]) (rest := [.int (nI 0), .ref 57]) dL_pins_4 cl274 m109 rfl rfl rfl rfl (Nat.le_of_ble_eq_true rfl) rfl h (am_exc_1 (z := (0, 9, 12, 13)) rfl (by decide +kernel) dL_pins_12 rfl)) ?_
  refine Eq.trans (g_K (v := nI 1) dL_pins_13 rfl rfl) ?_
  exact g_iret dL_pins_14 rfl
theorem wo289 {d : Nat} {σ X : am_M} {v : Int32} (v1 : Int32) (v2 : Int32) (h : am_ex d 110 [.ref 0, .int v1, .int v2] σ = rI v X) : am_ex (d + 1) 289 [.ref 0, .int v1, .int v2, .ref 57] σ = rI (nI 0) (am_wJ X 57 0 (if v = nI 0 then 0 else 1)) := by
  refine Eq.trans (am_ex_s m289 (Nat.le_of_ble_eq_true rfl) rfl) ?_
  refine Eq.trans (g_A dL_mark_0 rfl rfl) ?_
  refine Eq.trans (g_K (v := nI 0) dL_mark_1 rfl rfl) ?_
  refine Eq.trans (g_A dL_mark_2 rfl rfl) ?_
  refine Eq.trans (g_A dL_mark_3 rfl rfl) ?_
  refine Eq.trans (g_A dL_mark_4 rfl rfl) ?_
  refine Eq.trans (g_wok (a := 0) (as := [.int v1, .int v2]) (rest := [.int (nI 0), .ref 57]) dL_mark_5 cl275 m110 rfl rfl rfl rfl (Nat.le_of_ble_eq_true rfl) rfl rfl h rfl) ?_
  refine Eq.trans (g_ifeq (t := 15) dL_mark_8 rfl rfl) ?_
  by_cases hv : v = nI 0
  · refine Eq.trans (if_pos hv) ?_
    rw [if_pos hv]
    refine Eq.trans (g_KJ (v := (0 : Int64)) dL_mark_15 rfl rfl) ?_
    refine Eq.trans (g_last dL_mark_16 sh57 rfl) ?_
    refine Eq.trans (if_pos (by decide)) ?_
    refine Eq.trans (g_goto (pc' := 28) dL_mark_17 rfl) ?_
    refine Eq.trans (g_K (v := nI 0) dL_mark_28 rfl rfl) ?_
    exact g_iret dL_mark_29 rfl
  · refine Eq.trans (if_neg hv) ?_
    rw [if_neg hv]
    refine Eq.trans (g_KJ (v := (1 : Int64)) dL_mark_11 rfl rfl) ?_
    refine Eq.trans (g_goto (pc' := 16) dL_mark_12 rfl) ?_
    refine Eq.trans (g_last dL_mark_16 sh57 rfl) ?_
    refine Eq.trans (if_pos (by decide)) ?_
    refine Eq.trans (g_goto (pc' := 28) dL_mark_17 rfl) ?_
    refine Eq.trans (g_K (v := nI 0) dL_mark_28 rfl rfl) ?_
    exact g_iret dL_mark_29 rfl
theorem wx289_1 {d : Nat} {σ X : am_M} (v1 : Int32) (v2 : Int32) (h : am_ex d 110 [.ref 0, .int v1, .int v2] σ = rX xIO X) : am_ex (d + 1) 289 [.ref 0, .int v1, .int v2, .ref 57] σ = rI (nI 1) X := by
  refine Eq.trans (am_ex_s m289 (Nat.le_of_ble_eq_true rfl) rfl) ?_
  refine Eq.trans (g_A dL_mark_0 rfl rfl) ?_
  refine Eq.trans (g_K (v := nI 0) dL_mark_1 rfl rfl) ?_
  refine Eq.trans (g_A dL_mark_2 rfl rfl) ?_
  refine Eq.trans (g_A dL_mark_3 rfl rfl) ?_
  refine Eq.trans (g_A dL_mark_4 rfl rfl) ?_
  refine Eq.trans (g_wx (pc' := 22) (lv' := [.ref 0, .int v1, .int v2, .ref 57, .null]) (a := 0) (as := [.int v1, .int v2]) (rest := [.int (nI 0), .ref 57]) dL_mark_5 cl275 m110 rfl rfl rfl rfl (Nat.le_of_ble_eq_true rfl) rfl h (am_exc_2 (z := (0, 17, 20, 13)) rfl (by decide +kernel) dL_mark_20 rfl)) ?_
  refine Eq.trans (g_K (v := nI 1) dL_mark_22 rfl rfl) ?_
  exact g_iret dL_mark_23 rfl
theorem wx289_2 {d : Nat} {σ X : am_M} (v1 : Int32) (v2 : Int32) (h : am_ex d 110 [.ref 0, .int v1, .int v2] σ = rX xIS X) : am_ex (d + 1) 289 [.ref 0, .int v1, .int v2, .ref 57] σ = rI (nI 2) X := by
  refine Eq.trans (am_ex_s m289 (Nat.le_of_ble_eq_true rfl) rfl) ?_
  refine Eq.trans (g_A dL_mark_0 rfl rfl) ?_
  refine Eq.trans (g_K (v := nI 0) dL_mark_1 rfl rfl) ?_
  refine Eq.trans (g_A dL_mark_2 rfl rfl) ?_
  refine Eq.trans (g_A dL_mark_3 rfl rfl) ?_
  refine Eq.trans (g_A dL_mark_4 rfl rfl) ?_
  refine Eq.trans (g_wx (pc' := 26) (lv' := [.ref 0, .int v1, .int v2, .ref 57, .null]) (a := 0) (as := [.int v1, .int v2]) (rest := [.int (nI 0), .ref 57]) dL_mark_5 cl275 m110 rfl rfl rfl rfl (Nat.le_of_ble_eq_true rfl) rfl h (am_exc_2 (z := (0, 17, 24, 15)) rfl (by decide +kernel) dL_mark_24 rfl)) ?_
  refine Eq.trans (g_K (v := nI 2) dL_mark_26 rfl rfl) ?_
  exact g_iret dL_mark_27 rfl
theorem wo290 {d : Nat} {σ X : am_M} {v : Int32} (v1 : Int32) (v2 : Int32) (h : am_ex d 112 [.ref 0, .int v1, .int v2] σ = rI v X) : am_ex (d + 1) 290 [.ref 0, .int v1, .int v2, .ref 57] σ = rI (nI 0) (am_wJ X 57 0 v.toInt64) := by
  refine Eq.trans (am_ex_s m290 (Nat.le_of_ble_eq_true rfl) rfl) ?_
  refine Eq.trans (g_A dL_setDue_0 rfl rfl) ?_
  refine Eq.trans (g_K (v := nI 0) dL_setDue_1 rfl rfl) ?_
  refine Eq.trans (g_A dL_setDue_2 rfl rfl) ?_
  refine Eq.trans (g_A dL_setDue_3 rfl rfl) ?_
  refine Eq.trans (g_A dL_setDue_4 rfl rfl) ?_
  refine Eq.trans (g_wok (a := 0) (as := [.int v1, .int v2]) (rest := [.int (nI 0), .ref 57]) dL_setDue_5 cl276 m112 rfl rfl rfl rfl (Nat.le_of_ble_eq_true rfl) rfl rfl h rfl) ?_
  refine Eq.trans (g_i2l dL_setDue_8 rfl) ?_
  refine Eq.trans (g_last dL_setDue_9 sh57 rfl) ?_
  refine Eq.trans (if_pos (by decide)) ?_
  refine Eq.trans (g_goto (pc' := 25) dL_setDue_10 rfl) ?_
  refine Eq.trans (g_K (v := nI 0) dL_setDue_25 rfl rfl) ?_
  exact g_iret dL_setDue_26 rfl
theorem wx290_1 {d : Nat} {σ X : am_M} (v1 : Int32) (v2 : Int32) (h : am_ex d 112 [.ref 0, .int v1, .int v2] σ = rX xIO X) : am_ex (d + 1) 290 [.ref 0, .int v1, .int v2, .ref 57] σ = rI (nI 1) X := by
  refine Eq.trans (am_ex_s m290 (Nat.le_of_ble_eq_true rfl) rfl) ?_
  refine Eq.trans (g_A dL_setDue_0 rfl rfl) ?_
  refine Eq.trans (g_K (v := nI 0) dL_setDue_1 rfl rfl) ?_
  refine Eq.trans (g_A dL_setDue_2 rfl rfl) ?_
  refine Eq.trans (g_A dL_setDue_3 rfl rfl) ?_
  refine Eq.trans (g_A dL_setDue_4 rfl rfl) ?_
  refine Eq.trans (g_wx (pc' := 15) (lv' := [.ref 0, .int v1, .int v2, .ref 57, .null]) (a := 0) (as := [.int v1, .int v2]) (rest := [.int (nI 0), .ref 57]) dL_setDue_5 cl276 m112 rfl rfl rfl rfl (Nat.le_of_ble_eq_true rfl) rfl h (am_exc_2 (z := (0, 10, 13, 13)) rfl (by decide +kernel) dL_setDue_13 rfl)) ?_
  refine Eq.trans (g_K (v := nI 1) dL_setDue_15 rfl rfl) ?_
  exact g_iret dL_setDue_16 rfl
theorem wx290_2 {d : Nat} {σ X : am_M} (v1 : Int32) (v2 : Int32) (h : am_ex d 112 [.ref 0, .int v1, .int v2] σ = rX xIA X) : am_ex (d + 1) 290 [.ref 0, .int v1, .int v2, .ref 57] σ = rI (nI 2) X := by
  refine Eq.trans (am_ex_s m290 (Nat.le_of_ble_eq_true rfl) rfl) ?_
  refine Eq.trans (g_A dL_setDue_0 rfl rfl) ?_
  refine Eq.trans (g_K (v := nI 0) dL_setDue_1 rfl rfl) ?_
  refine Eq.trans (g_A dL_setDue_2 rfl rfl) ?_
  refine Eq.trans (g_A dL_setDue_3 rfl rfl) ?_
  refine Eq.trans (g_A dL_setDue_4 rfl rfl) ?_
  refine Eq.trans (g_wx (pc' := 19) (lv' := [.ref 0, .int v1, .int v2, .ref 57, .null]) (a := 0) (as := [.int v1, .int v2]) (rest := [.int (nI 0), .ref 57]) dL_setDue_5 cl276 m112 rfl rfl rfl rfl (Nat.le_of_ble_eq_true rfl) rfl h (am_exc_2 (z := (0, 10, 17, 33)) rfl (by decide +kernel) dL_setDue_17 rfl)) ?_
  refine Eq.trans (g_K (v := nI 2) dL_setDue_19 rfl rfl) ?_
  exact g_iret dL_setDue_20 rfl
theorem wx290_3 {d : Nat} {σ X : am_M} (v1 : Int32) (v2 : Int32) (h : am_ex d 112 [.ref 0, .int v1, .int v2] σ = rX xIS X) : am_ex (d + 1) 290 [.ref 0, .int v1, .int v2, .ref 57] σ = rI (nI 3) X := by
  refine Eq.trans (am_ex_s m290 (Nat.le_of_ble_eq_true rfl) rfl) ?_
  refine Eq.trans (g_A dL_setDue_0 rfl rfl) ?_
  refine Eq.trans (g_K (v := nI 0) dL_setDue_1 rfl rfl) ?_
  refine Eq.trans (g_A dL_setDue_2 rfl rfl) ?_
  refine Eq.trans (g_A dL_setDue_3 rfl rfl) ?_
  refine Eq.trans (g_A dL_setDue_4 rfl rfl) ?_
  refine Eq.trans (g_wx (pc' := 23) (lv' := [.ref 0, .int v1, .int v2, .ref 57, .null]) (a := 0) (as := [.int v1, .int v2]) (rest := [.int (nI 0), .ref 57]) dL_setDue_5 cl276 m112 rfl rfl rfl rfl (Nat.le_of_ble_eq_true rfl) rfl h (am_exc_2 (z := (0, 10, 21, 15)) rfl (by decide +kernel) dL_setDue_21 rfl)) ?_
  refine Eq.trans (g_K (v := nI 3) dL_setDue_23 rfl rfl) ?_
  exact g_iret dL_setDue_24 rfl
theorem wo291 {d : Nat} {σ X : am_M} {v : Int32} (v1 : Int32) (h : am_ex d 113 [.ref 0, .int v1] σ = rI v X) : am_ex (d + 1) 291 [.ref 0, .int v1, .ref 57] σ = rI (nI 0) (am_wJ X 57 0 v.toInt64) := by
  refine Eq.trans (am_ex_s m291 (Nat.le_of_ble_eq_true rfl) rfl) ?_
  refine Eq.trans (g_A dL_passDays_0 rfl rfl) ?_
  refine Eq.trans (g_K (v := nI 0) dL_passDays_1 rfl rfl) ?_
  refine Eq.trans (g_A dL_passDays_2 rfl rfl) ?_
  refine Eq.trans (g_A dL_passDays_3 rfl rfl) ?_
  refine Eq.trans (g_wok (a := 0) (as := [.int v1]) (rest := [.int (nI 0), .ref 57]) dL_passDays_4 cl277 m113 rfl rfl rfl rfl (Nat.le_of_ble_eq_true rfl) rfl rfl h rfl) ?_
  refine Eq.trans (g_i2l dL_passDays_7 rfl) ?_
  refine Eq.trans (g_last dL_passDays_8 sh57 rfl) ?_
  refine Eq.trans (if_pos (by decide)) ?_
  refine Eq.trans (g_goto (pc' := 18) dL_passDays_9 rfl) ?_
  refine Eq.trans (g_K (v := nI 0) dL_passDays_18 rfl rfl) ?_
  exact g_iret dL_passDays_19 rfl
theorem wx291_1 {d : Nat} {σ X : am_M} (v1 : Int32) (h : am_ex d 113 [.ref 0, .int v1] σ = rX xIA X) : am_ex (d + 1) 291 [.ref 0, .int v1, .ref 57] σ = rI (nI 1) X := by
  refine Eq.trans (am_ex_s m291 (Nat.le_of_ble_eq_true rfl) rfl) ?_
  refine Eq.trans (g_A dL_passDays_0 rfl rfl) ?_
  refine Eq.trans (g_K (v := nI 0) dL_passDays_1 rfl rfl) ?_
  refine Eq.trans (g_A dL_passDays_2 rfl rfl) ?_
  refine Eq.trans (g_A dL_passDays_3 rfl rfl) ?_
  refine Eq.trans (g_wx (pc' := 13) (lv' := [.ref 0, .int v1, .ref 57, .null]) (a := 0) (as := [.int v1]) (rest := [.int (nI 0), .ref 57]) dL_passDays_4 cl277 m113 rfl rfl rfl rfl (Nat.le_of_ble_eq_true rfl) rfl h (am_exc_1 (z := (0, 9, 12, 33)) rfl (by decide +kernel) dL_passDays_12 rfl)) ?_
  refine Eq.trans (g_K (v := nI 1) dL_passDays_13 rfl rfl) ?_
  exact g_iret dL_passDays_14 rfl
theorem wx291_2 {d : Nat} {σ X : am_M} (v1 : Int32) (h : am_ex d 113 [.ref 0, .int v1] σ = rX xIS X) : am_ex (d + 1) 291 [.ref 0, .int v1, .ref 57] σ = rI (nI 2) X := by
  refine Eq.trans (am_ex_s m291 (Nat.le_of_ble_eq_true rfl) rfl) ?_
  refine Eq.trans (g_A dL_passDays_0 rfl rfl) ?_
  refine Eq.trans (g_K (v := nI 0) dL_passDays_1 rfl rfl) ?_
  refine Eq.trans (g_A dL_passDays_2 rfl rfl) ?_
  refine Eq.trans (g_A dL_passDays_3 rfl rfl) ?_
  refine Eq.trans (g_wx (pc' := 16) (lv' := [.ref 0, .int v1, .ref 57, .null]) (a := 0) (as := [.int v1]) (rest := [.int (nI 0), .ref 57]) dL_passDays_4 cl277 m113 rfl rfl rfl rfl (Nat.le_of_ble_eq_true rfl) rfl h (am_exc_1 (z := (0, 9, 15, 15)) rfl (by decide +kernel) dL_passDays_15 rfl)) ?_
  refine Eq.trans (g_K (v := nI 2) dL_passDays_16 rfl rfl) ?_
  exact g_iret dL_passDays_17 rfl
theorem wo292 {d : Nat} {σ X : am_M} {v : Int32} (v1 : Int32) (h : am_ex d 116 [.ref 0, .int v1] σ = rI v X) : am_ex (d + 1) 292 [.ref 0, .int v1, .ref 57] σ = rI (nI 0) (am_wJ X 57 0 v.toInt64) := by
  refine Eq.trans (am_ex_s m292 (Nat.le_of_ble_eq_true rfl) rfl) ?_
  refine Eq.trans (g_A dL_extraCost_0 rfl rfl) ?_
  refine Eq.trans (g_K (v := nI 0) dL_extraCost_1 rfl rfl) ?_
  refine Eq.trans (g_A dL_extraCost_2 rfl rfl) ?_
  refine Eq.trans (g_A dL_extraCost_3 rfl rfl) ?_
  refine Eq.trans (g_wok (a := 0) (as := [.int v1]) (rest := [.int (nI 0), .ref 57]) dL_extraCost_4 cl278 m116 rfl rfl rfl rfl (Nat.le_of_ble_eq_true rfl) rfl rfl h rfl) ?_
  refine Eq.trans (g_i2l dL_extraCost_7 rfl) ?_
  refine Eq.trans (g_last dL_extraCost_8 sh57 rfl) ?_
  refine Eq.trans (if_pos (by decide)) ?_
  refine Eq.trans (g_goto (pc' := 18) dL_extraCost_9 rfl) ?_
  refine Eq.trans (g_K (v := nI 0) dL_extraCost_18 rfl rfl) ?_
  exact g_iret dL_extraCost_19 rfl
theorem wx292_1 {d : Nat} {σ X : am_M} (v1 : Int32) (h : am_ex d 116 [.ref 0, .int v1] σ = rX xIO X) : am_ex (d + 1) 292 [.ref 0, .int v1, .ref 57] σ = rI (nI 1) X := by
  refine Eq.trans (am_ex_s m292 (Nat.le_of_ble_eq_true rfl) rfl) ?_
  refine Eq.trans (g_A dL_extraCost_0 rfl rfl) ?_
  refine Eq.trans (g_K (v := nI 0) dL_extraCost_1 rfl rfl) ?_
  refine Eq.trans (g_A dL_extraCost_2 rfl rfl) ?_
  refine Eq.trans (g_A dL_extraCost_3 rfl rfl) ?_
  refine Eq.trans (g_wx (pc' := 13) (lv' := [.ref 0, .int v1, .ref 57, .null]) (a := 0) (as := [.int v1]) (rest := [.int (nI 0), .ref 57]) dL_extraCost_4 cl278 m116 rfl rfl rfl rfl (Nat.le_of_ble_eq_true rfl) rfl h (am_exc_1 (z := (0, 9, 12, 13)) rfl (by decide +kernel) dL_extraCost_12 rfl)) ?_
  refine Eq.trans (g_K (v := nI 1) dL_extraCost_13 rfl rfl) ?_
  exact g_iret dL_extraCost_14 rfl
theorem wx292_2 {d : Nat} {σ X : am_M} (v1 : Int32) (h : am_ex d 116 [.ref 0, .int v1] σ = rX xIS X) : am_ex (d + 1) 292 [.ref 0, .int v1, .ref 57] σ = rI (nI 2) X := by
  refine Eq.trans (am_ex_s m292 (Nat.le_of_ble_eq_true rfl) rfl) ?_
  refine Eq.trans (g_A dL_extraCost_0 rfl rfl) ?_
  refine Eq.trans (g_K (v := nI 0) dL_extraCost_1 rfl rfl) ?_
  refine Eq.trans (g_A dL_extraCost_2 rfl rfl) ?_
  refine Eq.trans (g_A dL_extraCost_3 rfl rfl) ?_
  refine Eq.trans (g_wx (pc' := 16) (lv' := [.ref 0, .int v1, .ref 57, .null]) (a := 0) (as := [.int v1]) (rest := [.int (nI 0), .ref 57]) dL_extraCost_4 cl278 m116 rfl rfl rfl rfl (Nat.le_of_ble_eq_true rfl) rfl h (am_exc_1 (z := (0, 9, 15, 15)) rfl (by decide +kernel) dL_extraCost_15 rfl)) ?_
  refine Eq.trans (g_K (v := nI 2) dL_extraCost_16 rfl rfl) ?_
  exact g_iret dL_extraCost_17 rfl
theorem wo293 {d : Nat} {σ X : am_M} {v : Int32} (v1 : Int32) (h : am_ex d 117 [.ref 0, .int v1] σ = rI v X) : am_ex (d + 1) 293 [.ref 0, .int v1, .ref 57] σ = rI (nI 0) (am_wJ X 57 0 v.toInt64) := by
  refine Eq.trans (am_ex_s m293 (Nat.le_of_ble_eq_true rfl) rfl) ?_
  refine Eq.trans (g_A dL_forget_0 rfl rfl) ?_
  refine Eq.trans (g_K (v := nI 0) dL_forget_1 rfl rfl) ?_
  refine Eq.trans (g_A dL_forget_2 rfl rfl) ?_
  refine Eq.trans (g_A dL_forget_3 rfl rfl) ?_
  refine Eq.trans (g_wok (a := 0) (as := [.int v1]) (rest := [.int (nI 0), .ref 57]) dL_forget_4 cl279 m117 rfl rfl rfl rfl (Nat.le_of_ble_eq_true rfl) rfl rfl h rfl) ?_
  refine Eq.trans (g_i2l dL_forget_7 rfl) ?_
  refine Eq.trans (g_last dL_forget_8 sh57 rfl) ?_
  refine Eq.trans (if_pos (by decide)) ?_
  refine Eq.trans (g_goto (pc' := 15) dL_forget_9 rfl) ?_
  refine Eq.trans (g_K (v := nI 0) dL_forget_15 rfl rfl) ?_
  exact g_iret dL_forget_16 rfl
theorem wx293_1 {d : Nat} {σ X : am_M} (v1 : Int32) (h : am_ex d 117 [.ref 0, .int v1] σ = rX xIS X) : am_ex (d + 1) 293 [.ref 0, .int v1, .ref 57] σ = rI (nI 1) X := by
  refine Eq.trans (am_ex_s m293 (Nat.le_of_ble_eq_true rfl) rfl) ?_
  refine Eq.trans (g_A dL_forget_0 rfl rfl) ?_
  refine Eq.trans (g_K (v := nI 0) dL_forget_1 rfl rfl) ?_
  refine Eq.trans (g_A dL_forget_2 rfl rfl) ?_
  refine Eq.trans (g_A dL_forget_3 rfl rfl) ?_
  refine Eq.trans (g_wx (pc' := 13) (lv' := [.ref 0, .int v1, .ref 57, .null]) (a := 0) (as := [.int v1]) (rest := [.int (nI 0), .ref 57]) dL_forget_4 cl279 m117 rfl rfl rfl rfl (Nat.le_of_ble_eq_true rfl) rfl h (am_exc_1 (z := (0, 9, 12, 15)) rfl (by decide +kernel) dL_forget_12 rfl)) ?_
  refine Eq.trans (g_K (v := nI 1) dL_forget_13 rfl rfl) ?_
  exact g_iret dL_forget_14 rfl
theorem wo294 {d : Nat} {σ X : am_M} {v : Int32} (v1 : Int32) (h : am_ex d 119 [.ref 0, .int v1] σ = rI v X) : am_ex (d + 1) 294 [.ref 0, .int v1, .ref 57] σ = rI (nI 0) (am_wJ X 57 0 v.toInt64) := by
  refine Eq.trans (am_ex_s m294 (Nat.le_of_ble_eq_true rfl) rfl) ?_
  refine Eq.trans (g_A dL_rekeyed_0 rfl rfl) ?_
  refine Eq.trans (g_K (v := nI 0) dL_rekeyed_1 rfl rfl) ?_
  refine Eq.trans (g_A dL_rekeyed_2 rfl rfl) ?_
  refine Eq.trans (g_A dL_rekeyed_3 rfl rfl) ?_
  refine Eq.trans (g_wok (a := 0) (as := [.int v1]) (rest := [.int (nI 0), .ref 57]) dL_rekeyed_4 cl280 m119 rfl rfl rfl rfl (Nat.le_of_ble_eq_true rfl) rfl rfl h rfl) ?_
  refine Eq.trans (g_i2l dL_rekeyed_7 rfl) ?_
  refine Eq.trans (g_last dL_rekeyed_8 sh57 rfl) ?_
  refine Eq.trans (if_pos (by decide)) ?_
  refine Eq.trans (g_goto (pc' := 15) dL_rekeyed_9 rfl) ?_
  refine Eq.trans (g_K (v := nI 0) dL_rekeyed_15 rfl rfl) ?_
  exact g_iret dL_rekeyed_16 rfl
theorem wx294_1 {d : Nat} {σ X : am_M} (v1 : Int32) (h : am_ex d 119 [.ref 0, .int v1] σ = rX xIO X) : am_ex (d + 1) 294 [.ref 0, .int v1, .ref 57] σ = rI (nI 1) X := by
  refine Eq.trans (am_ex_s m294 (Nat.le_of_ble_eq_true rfl) rfl) ?_
  refine Eq.trans (g_A dL_rekeyed_0 rfl rfl) ?_
  refine Eq.trans (g_K (v := nI 0) dL_rekeyed_1 rfl rfl) ?_
  refine Eq.trans (g_A dL_rekeyed_2 rfl rfl) ?_
  refine Eq.trans (g_A dL_rekeyed_3 rfl rfl) ?_
  refine Eq.trans (g_wx (pc' := 13) (lv' := [.ref 0, .int v1, .ref 57, .null]) (a := 0) (as := [.int v1]) (rest := [.int (nI 0), .ref 57]) dL_rekeyed_4 cl280 m119 rfl rfl rfl rfl (Nat.le_of_ble_eq_true rfl) rfl h (am_exc_1 (z := (0, 9, 12, 13)) rfl (by decide +kernel) dL_rekeyed_12 rfl)) ?_
  refine Eq.trans (g_K (v := nI 1) dL_rekeyed_13 rfl rfl) ?_
  exact g_iret dL_rekeyed_14 rfl
theorem wo295 {d : Nat} {σ X : am_M} {v : Int32} (v1 : Int32) (h : am_ex d 120 [.ref 0, .int v1] σ = rI v X) : am_ex (d + 1) 295 [.ref 0, .int v1, .ref 57] σ = rI (nI 0) (am_wJ X 57 0 v.toInt64) := by
  refine Eq.trans (am_ex_s m295 (Nat.le_of_ble_eq_true rfl) rfl) ?_
  refine Eq.trans (g_A dL_key_0 rfl rfl) ?_
  refine Eq.trans (g_K (v := nI 0) dL_key_1 rfl rfl) ?_
  refine Eq.trans (g_A dL_key_2 rfl rfl) ?_
  refine Eq.trans (g_A dL_key_3 rfl rfl) ?_
  refine Eq.trans (g_wok (a := 0) (as := [.int v1]) (rest := [.int (nI 0), .ref 57]) dL_key_4 cl281 m120 rfl rfl rfl rfl (Nat.le_of_ble_eq_true rfl) rfl rfl h rfl) ?_
  refine Eq.trans (g_i2l dL_key_7 rfl) ?_
  refine Eq.trans (g_last dL_key_8 sh57 rfl) ?_
  refine Eq.trans (if_pos (by decide)) ?_
  refine Eq.trans (g_goto (pc' := 15) dL_key_9 rfl) ?_
  refine Eq.trans (g_K (v := nI 0) dL_key_15 rfl rfl) ?_
  exact g_iret dL_key_16 rfl
theorem wx295_1 {d : Nat} {σ X : am_M} (v1 : Int32) (h : am_ex d 120 [.ref 0, .int v1] σ = rX xIO X) : am_ex (d + 1) 295 [.ref 0, .int v1, .ref 57] σ = rI (nI 1) X := by
  refine Eq.trans (am_ex_s m295 (Nat.le_of_ble_eq_true rfl) rfl) ?_
  refine Eq.trans (g_A dL_key_0 rfl rfl) ?_
  refine Eq.trans (g_K (v := nI 0) dL_key_1 rfl rfl) ?_
  refine Eq.trans (g_A dL_key_2 rfl rfl) ?_
  refine Eq.trans (g_A dL_key_3 rfl rfl) ?_
  refine Eq.trans (g_wx (pc' := 13) (lv' := [.ref 0, .int v1, .ref 57, .null]) (a := 0) (as := [.int v1]) (rest := [.int (nI 0), .ref 57]) dL_key_4 cl281 m120 rfl rfl rfl rfl (Nat.le_of_ble_eq_true rfl) rfl h (am_exc_1 (z := (0, 9, 12, 13)) rfl (by decide +kernel) dL_key_12 rfl)) ?_
  refine Eq.trans (g_K (v := nI 1) dL_key_13 rfl rfl) ?_
  exact g_iret dL_key_14 rfl
theorem wo296 {d : Nat} {σ X : am_M} {v : Int32} (v1 : Int32) (h : am_ex d 121 [.ref 0, .int v1] σ = rI v X) : am_ex (d + 1) 296 [.ref 0, .int v1, .ref 57] σ = rI (nI 0) (am_wJ X 57 0 v.toInt64) := by
  refine Eq.trans (am_ex_s m296 (Nat.le_of_ble_eq_true rfl) rfl) ?_
  refine Eq.trans (g_A dL_keyValue_0 rfl rfl) ?_
  refine Eq.trans (g_K (v := nI 0) dL_keyValue_1 rfl rfl) ?_
  refine Eq.trans (g_A dL_keyValue_2 rfl rfl) ?_
  refine Eq.trans (g_A dL_keyValue_3 rfl rfl) ?_
  refine Eq.trans (g_wok (a := 0) (as := [.int v1]) (rest := [.int (nI 0), .ref 57]) dL_keyValue_4 cl282 m121 rfl rfl rfl rfl (Nat.le_of_ble_eq_true rfl) rfl rfl h rfl) ?_
  refine Eq.trans (g_i2l dL_keyValue_7 rfl) ?_
  refine Eq.trans (g_last dL_keyValue_8 sh57 rfl) ?_
  refine Eq.trans (if_pos (by decide)) ?_
  refine Eq.trans (g_goto (pc' := 15) dL_keyValue_9 rfl) ?_
  refine Eq.trans (g_K (v := nI 0) dL_keyValue_15 rfl rfl) ?_
  exact g_iret dL_keyValue_16 rfl
theorem wx296_1 {d : Nat} {σ X : am_M} (v1 : Int32) (h : am_ex d 121 [.ref 0, .int v1] σ = rX xIO X) : am_ex (d + 1) 296 [.ref 0, .int v1, .ref 57] σ = rI (nI 1) X := by
  refine Eq.trans (am_ex_s m296 (Nat.le_of_ble_eq_true rfl) rfl) ?_
  refine Eq.trans (g_A dL_keyValue_0 rfl rfl) ?_
  refine Eq.trans (g_K (v := nI 0) dL_keyValue_1 rfl rfl) ?_
  refine Eq.trans (g_A dL_keyValue_2 rfl rfl) ?_
  refine Eq.trans (g_A dL_keyValue_3 rfl rfl) ?_
  refine Eq.trans (g_wx (pc' := 13) (lv' := [.ref 0, .int v1, .ref 57, .null]) (a := 0) (as := [.int v1]) (rest := [.int (nI 0), .ref 57]) dL_keyValue_4 cl282 m121 rfl rfl rfl rfl (Nat.le_of_ble_eq_true rfl) rfl h (am_exc_1 (z := (0, 9, 12, 13)) rfl (by decide +kernel) dL_keyValue_12 rfl)) ?_
  refine Eq.trans (g_K (v := nI 1) dL_keyValue_13 rfl rfl) ?_
  exact g_iret dL_keyValue_14 rfl
theorem wo297 {d : Nat} {σ X : am_M} {v : Int32} (v1 : Int32) (v2 : Int32) (h : am_ex d 122 [.ref 0, .int v1, .int v2] σ = rI v X) : am_ex (d + 1) 297 [.ref 0, .int v1, .int v2, .ref 57] σ = rI (nI 0) (am_wJ X 57 0 v.toInt64) := by
  refine Eq.trans (am_ex_s m297 (Nat.le_of_ble_eq_true rfl) rfl) ?_
  refine Eq.trans (g_A dL_keep_0 rfl rfl) ?_
  refine Eq.trans (g_K (v := nI 0) dL_keep_1 rfl rfl) ?_
  refine Eq.trans (g_A dL_keep_2 rfl rfl) ?_
  refine Eq.trans (g_A dL_keep_3 rfl rfl) ?_
  refine Eq.trans (g_A dL_keep_4 rfl rfl) ?_
  refine Eq.trans (g_wok (a := 0) (as := [.int v1, .int v2]) (rest := [.int (nI 0), .ref 57]) dL_keep_5 cl283 m122 rfl rfl rfl rfl (Nat.le_of_ble_eq_true rfl) rfl rfl h rfl) ?_
  refine Eq.trans (g_i2l dL_keep_8 rfl) ?_
  refine Eq.trans (g_last dL_keep_9 sh57 rfl) ?_
  refine Eq.trans (if_pos (by decide)) ?_
  refine Eq.trans (g_goto (pc' := 21) dL_keep_10 rfl) ?_
  refine Eq.trans (g_K (v := nI 0) dL_keep_21 rfl rfl) ?_
  exact g_iret dL_keep_22 rfl
theorem wx297_1 {d : Nat} {σ X : am_M} (v1 : Int32) (v2 : Int32) (h : am_ex d 122 [.ref 0, .int v1, .int v2] σ = rX xIO X) : am_ex (d + 1) 297 [.ref 0, .int v1, .int v2, .ref 57] σ = rI (nI 1) X := by
  refine Eq.trans (am_ex_s m297 (Nat.le_of_ble_eq_true rfl) rfl) ?_
  refine Eq.trans (g_A dL_keep_0 rfl rfl) ?_
  refine Eq.trans (g_K (v := nI 0) dL_keep_1 rfl rfl) ?_
  refine Eq.trans (g_A dL_keep_2 rfl rfl) ?_
  refine Eq.trans (g_A dL_keep_3 rfl rfl) ?_
  refine Eq.trans (g_A dL_keep_4 rfl rfl) ?_
  refine Eq.trans (g_wx (pc' := 15) (lv' := [.ref 0, .int v1, .int v2, .ref 57, .null]) (a := 0) (as := [.int v1, .int v2]) (rest := [.int (nI 0), .ref 57]) dL_keep_5 cl283 m122 rfl rfl rfl rfl (Nat.le_of_ble_eq_true rfl) rfl h (am_exc_2 (z := (0, 10, 13, 13)) rfl (by decide +kernel) dL_keep_13 rfl)) ?_
  refine Eq.trans (g_K (v := nI 1) dL_keep_15 rfl rfl) ?_
  exact g_iret dL_keep_16 rfl
theorem wx297_2 {d : Nat} {σ X : am_M} (v1 : Int32) (v2 : Int32) (h : am_ex d 122 [.ref 0, .int v1, .int v2] σ = rX xIS X) : am_ex (d + 1) 297 [.ref 0, .int v1, .int v2, .ref 57] σ = rI (nI 2) X := by
  refine Eq.trans (am_ex_s m297 (Nat.le_of_ble_eq_true rfl) rfl) ?_
  refine Eq.trans (g_A dL_keep_0 rfl rfl) ?_
  refine Eq.trans (g_K (v := nI 0) dL_keep_1 rfl rfl) ?_
  refine Eq.trans (g_A dL_keep_2 rfl rfl) ?_
  refine Eq.trans (g_A dL_keep_3 rfl rfl) ?_
  refine Eq.trans (g_A dL_keep_4 rfl rfl) ?_
  refine Eq.trans (g_wx (pc' := 19) (lv' := [.ref 0, .int v1, .int v2, .ref 57, .null]) (a := 0) (as := [.int v1, .int v2]) (rest := [.int (nI 0), .ref 57]) dL_keep_5 cl283 m122 rfl rfl rfl rfl (Nat.le_of_ble_eq_true rfl) rfl h (am_exc_2 (z := (0, 10, 17, 15)) rfl (by decide +kernel) dL_keep_17 rfl)) ?_
  refine Eq.trans (g_K (v := nI 2) dL_keep_19 rfl rfl) ?_
  exact g_iret dL_keep_20 rfl
theorem wo298 {d : Nat} {σ X : am_M} {v : Int32} (v1 : Int32) (h : am_ex d 123 [.ref 0, .int v1] σ = rI v X) : am_ex (d + 1) 298 [.ref 0, .int v1, .ref 57] σ = rI (nI 0) (am_wJ X 57 0 v.toInt64) := by
  refine Eq.trans (am_ex_s m298 (Nat.le_of_ble_eq_true rfl) rfl) ?_
  refine Eq.trans (g_A dL_drop_0 rfl rfl) ?_
  refine Eq.trans (g_K (v := nI 0) dL_drop_1 rfl rfl) ?_
  refine Eq.trans (g_A dL_drop_2 rfl rfl) ?_
  refine Eq.trans (g_A dL_drop_3 rfl rfl) ?_
  refine Eq.trans (g_wok (a := 0) (as := [.int v1]) (rest := [.int (nI 0), .ref 57]) dL_drop_4 cl284 m123 rfl rfl rfl rfl (Nat.le_of_ble_eq_true rfl) rfl rfl h rfl) ?_
  refine Eq.trans (g_i2l dL_drop_7 rfl) ?_
  refine Eq.trans (g_last dL_drop_8 sh57 rfl) ?_
  refine Eq.trans (if_pos (by decide)) ?_
  refine Eq.trans (g_goto (pc' := 15) dL_drop_9 rfl) ?_
  refine Eq.trans (g_K (v := nI 0) dL_drop_15 rfl rfl) ?_
  exact g_iret dL_drop_16 rfl
theorem wx298_1 {d : Nat} {σ X : am_M} (v1 : Int32) (h : am_ex d 123 [.ref 0, .int v1] σ = rX xIO X) : am_ex (d + 1) 298 [.ref 0, .int v1, .ref 57] σ = rI (nI 1) X := by
  refine Eq.trans (am_ex_s m298 (Nat.le_of_ble_eq_true rfl) rfl) ?_
  refine Eq.trans (g_A dL_drop_0 rfl rfl) ?_
  refine Eq.trans (g_K (v := nI 0) dL_drop_1 rfl rfl) ?_
  refine Eq.trans (g_A dL_drop_2 rfl rfl) ?_
  refine Eq.trans (g_A dL_drop_3 rfl rfl) ?_
  refine Eq.trans (g_wx (pc' := 13) (lv' := [.ref 0, .int v1, .ref 57, .null]) (a := 0) (as := [.int v1]) (rest := [.int (nI 0), .ref 57]) dL_drop_4 cl284 m123 rfl rfl rfl rfl (Nat.le_of_ble_eq_true rfl) rfl h (am_exc_1 (z := (0, 9, 12, 13)) rfl (by decide +kernel) dL_drop_12 rfl)) ?_
  refine Eq.trans (g_K (v := nI 1) dL_drop_13 rfl rfl) ?_
  exact g_iret dL_drop_14 rfl
theorem wo299 {d : Nat} {σ X : am_M} {v : Int32} (v1 : Int32) (v2 : Int32) (h : am_ex d 124 [.ref 0, .int v1, .int v2] σ = rI v X) : am_ex (d + 1) 299 [.ref 0, .int v1, .int v2, .ref 57] σ = rI (nI 0) (am_wJ X 57 0 v.toInt64) := by
  refine Eq.trans (am_ex_s m299 (Nat.le_of_ble_eq_true rfl) rfl) ?_
  refine Eq.trans (g_A dL_custodian_0 rfl rfl) ?_
  refine Eq.trans (g_K (v := nI 0) dL_custodian_1 rfl rfl) ?_
  refine Eq.trans (g_A dL_custodian_2 rfl rfl) ?_
  refine Eq.trans (g_A dL_custodian_3 rfl rfl) ?_
  refine Eq.trans (g_A dL_custodian_4 rfl rfl) ?_
  refine Eq.trans (g_wok (a := 0) (as := [.int v1, .int v2]) (rest := [.int (nI 0), .ref 57]) dL_custodian_5 cl285 m124 rfl rfl rfl rfl (Nat.le_of_ble_eq_true rfl) rfl rfl h rfl) ?_
  refine Eq.trans (g_i2l dL_custodian_8 rfl) ?_
  refine Eq.trans (g_last dL_custodian_9 sh57 rfl) ?_
  refine Eq.trans (if_pos (by decide)) ?_
  refine Eq.trans (g_goto (pc' := 21) dL_custodian_10 rfl) ?_
  refine Eq.trans (g_K (v := nI 0) dL_custodian_21 rfl rfl) ?_
  exact g_iret dL_custodian_22 rfl
theorem wx299_1 {d : Nat} {σ X : am_M} (v1 : Int32) (v2 : Int32) (h : am_ex d 124 [.ref 0, .int v1, .int v2] σ = rX xIO X) : am_ex (d + 1) 299 [.ref 0, .int v1, .int v2, .ref 57] σ = rI (nI 1) X := by
  refine Eq.trans (am_ex_s m299 (Nat.le_of_ble_eq_true rfl) rfl) ?_
  refine Eq.trans (g_A dL_custodian_0 rfl rfl) ?_
  refine Eq.trans (g_K (v := nI 0) dL_custodian_1 rfl rfl) ?_
  refine Eq.trans (g_A dL_custodian_2 rfl rfl) ?_
  refine Eq.trans (g_A dL_custodian_3 rfl rfl) ?_
  refine Eq.trans (g_A dL_custodian_4 rfl rfl) ?_
  refine Eq.trans (g_wx (pc' := 15) (lv' := [.ref 0, .int v1, .int v2, .ref 57, .null]) (a := 0) (as := [.int v1, .int v2]) (rest := [.int (nI 0), .ref 57]) dL_custodian_5 cl285 m124 rfl rfl rfl rfl (Nat.le_of_ble_eq_true rfl) rfl h (am_exc_2 (z := (0, 10, 13, 13)) rfl (by decide +kernel) dL_custodian_13 rfl)) ?_
  refine Eq.trans (g_K (v := nI 1) dL_custodian_15 rfl rfl) ?_
  exact g_iret dL_custodian_16 rfl
theorem wx299_2 {d : Nat} {σ X : am_M} (v1 : Int32) (v2 : Int32) (h : am_ex d 124 [.ref 0, .int v1, .int v2] σ = rX xIA X) : am_ex (d + 1) 299 [.ref 0, .int v1, .int v2, .ref 57] σ = rI (nI 2) X := by
  refine Eq.trans (am_ex_s m299 (Nat.le_of_ble_eq_true rfl) rfl) ?_
  refine Eq.trans (g_A dL_custodian_0 rfl rfl) ?_
  refine Eq.trans (g_K (v := nI 0) dL_custodian_1 rfl rfl) ?_
  refine Eq.trans (g_A dL_custodian_2 rfl rfl) ?_
  refine Eq.trans (g_A dL_custodian_3 rfl rfl) ?_
  refine Eq.trans (g_A dL_custodian_4 rfl rfl) ?_
  refine Eq.trans (g_wx (pc' := 19) (lv' := [.ref 0, .int v1, .int v2, .ref 57, .null]) (a := 0) (as := [.int v1, .int v2]) (rest := [.int (nI 0), .ref 57]) dL_custodian_5 cl285 m124 rfl rfl rfl rfl (Nat.le_of_ble_eq_true rfl) rfl h (am_exc_2 (z := (0, 10, 17, 33)) rfl (by decide +kernel) dL_custodian_17 rfl)) ?_
  refine Eq.trans (g_K (v := nI 2) dL_custodian_19 rfl rfl) ?_
  exact g_iret dL_custodian_20 rfl
theorem wo300 {d : Nat} {σ X : am_M} {v : Int32} (v1 : Int32) (h : am_ex d 125 [.ref 0, .int v1] σ = rI v X) : am_ex (d + 1) 300 [.ref 0, .int v1, .ref 57] σ = rI (nI 0) (am_wJ X 57 0 v.toInt64) := by
  refine Eq.trans (am_ex_s m300 (Nat.le_of_ble_eq_true rfl) rfl) ?_
  refine Eq.trans (g_A dL_rekey_0 rfl rfl) ?_
  refine Eq.trans (g_K (v := nI 0) dL_rekey_1 rfl rfl) ?_
  refine Eq.trans (g_A dL_rekey_2 rfl rfl) ?_
  refine Eq.trans (g_A dL_rekey_3 rfl rfl) ?_
  refine Eq.trans (g_wok (a := 0) (as := [.int v1]) (rest := [.int (nI 0), .ref 57]) dL_rekey_4 cl286 m125 rfl rfl rfl rfl (Nat.le_of_ble_eq_true rfl) rfl rfl h rfl) ?_
  refine Eq.trans (g_i2l dL_rekey_7 rfl) ?_
  refine Eq.trans (g_last dL_rekey_8 sh57 rfl) ?_
  refine Eq.trans (if_pos (by decide)) ?_
  refine Eq.trans (g_goto (pc' := 18) dL_rekey_9 rfl) ?_
  refine Eq.trans (g_K (v := nI 0) dL_rekey_18 rfl rfl) ?_
  exact g_iret dL_rekey_19 rfl
theorem wx300_1 {d : Nat} {σ X : am_M} (v1 : Int32) (h : am_ex d 125 [.ref 0, .int v1] σ = rX xIO X) : am_ex (d + 1) 300 [.ref 0, .int v1, .ref 57] σ = rI (nI 1) X := by
  refine Eq.trans (am_ex_s m300 (Nat.le_of_ble_eq_true rfl) rfl) ?_
  refine Eq.trans (g_A dL_rekey_0 rfl rfl) ?_
  refine Eq.trans (g_K (v := nI 0) dL_rekey_1 rfl rfl) ?_
  refine Eq.trans (g_A dL_rekey_2 rfl rfl) ?_
  refine Eq.trans (g_A dL_rekey_3 rfl rfl) ?_
  refine Eq.trans (g_wx (pc' := 13) (lv' := [.ref 0, .int v1, .ref 57, .null]) (a := 0) (as := [.int v1]) (rest := [.int (nI 0), .ref 57]) dL_rekey_4 cl286 m125 rfl rfl rfl rfl (Nat.le_of_ble_eq_true rfl) rfl h (am_exc_1 (z := (0, 9, 12, 13)) rfl (by decide +kernel) dL_rekey_12 rfl)) ?_
  refine Eq.trans (g_K (v := nI 1) dL_rekey_13 rfl rfl) ?_
  exact g_iret dL_rekey_14 rfl
theorem wx300_2 {d : Nat} {σ X : am_M} (v1 : Int32) (h : am_ex d 125 [.ref 0, .int v1] σ = rX xIS X) : am_ex (d + 1) 300 [.ref 0, .int v1, .ref 57] σ = rI (nI 2) X := by
  refine Eq.trans (am_ex_s m300 (Nat.le_of_ble_eq_true rfl) rfl) ?_
  refine Eq.trans (g_A dL_rekey_0 rfl rfl) ?_
  refine Eq.trans (g_K (v := nI 0) dL_rekey_1 rfl rfl) ?_
  refine Eq.trans (g_A dL_rekey_2 rfl rfl) ?_
  refine Eq.trans (g_A dL_rekey_3 rfl rfl) ?_
  refine Eq.trans (g_wx (pc' := 16) (lv' := [.ref 0, .int v1, .ref 57, .null]) (a := 0) (as := [.int v1]) (rest := [.int (nI 0), .ref 57]) dL_rekey_4 cl286 m125 rfl rfl rfl rfl (Nat.le_of_ble_eq_true rfl) rfl h (am_exc_1 (z := (0, 9, 15, 15)) rfl (by decide +kernel) dL_rekey_15 rfl)) ?_
  refine Eq.trans (g_K (v := nI 2) dL_rekey_16 rfl rfl) ?_
  exact g_iret dL_rekey_17 rfl
theorem wo301 {d : Nat} {σ X : am_M} {v : Int32} (v1 : Int32) (v2 : Int32) (h : am_ex d 126 [.ref 0, .int v1, .int v2] σ = rI v X) : am_ex (d + 1) 301 [.ref 0, .int v1, .int v2, .ref 57] σ = rI (nI 0) (am_wJ X 57 0 v.toInt64) := by
  refine Eq.trans (am_ex_s m301 (Nat.le_of_ble_eq_true rfl) rfl) ?_
  refine Eq.trans (g_A dL_move_0 rfl rfl) ?_
  refine Eq.trans (g_K (v := nI 0) dL_move_1 rfl rfl) ?_
  refine Eq.trans (g_A dL_move_2 rfl rfl) ?_
  refine Eq.trans (g_A dL_move_3 rfl rfl) ?_
  refine Eq.trans (g_A dL_move_4 rfl rfl) ?_
  refine Eq.trans (g_wok (a := 0) (as := [.int v1, .int v2]) (rest := [.int (nI 0), .ref 57]) dL_move_5 cl287 m126 rfl rfl rfl rfl (Nat.le_of_ble_eq_true rfl) rfl rfl h rfl) ?_
  refine Eq.trans (g_i2l dL_move_8 rfl) ?_
  refine Eq.trans (g_last dL_move_9 sh57 rfl) ?_
  refine Eq.trans (if_pos (by decide)) ?_
  refine Eq.trans (g_goto (pc' := 25) dL_move_10 rfl) ?_
  refine Eq.trans (g_K (v := nI 0) dL_move_25 rfl rfl) ?_
  exact g_iret dL_move_26 rfl
theorem wx301_1 {d : Nat} {σ X : am_M} (v1 : Int32) (v2 : Int32) (h : am_ex d 126 [.ref 0, .int v1, .int v2] σ = rX xIO X) : am_ex (d + 1) 301 [.ref 0, .int v1, .int v2, .ref 57] σ = rI (nI 1) X := by
  refine Eq.trans (am_ex_s m301 (Nat.le_of_ble_eq_true rfl) rfl) ?_
  refine Eq.trans (g_A dL_move_0 rfl rfl) ?_
  refine Eq.trans (g_K (v := nI 0) dL_move_1 rfl rfl) ?_
  refine Eq.trans (g_A dL_move_2 rfl rfl) ?_
  refine Eq.trans (g_A dL_move_3 rfl rfl) ?_
  refine Eq.trans (g_A dL_move_4 rfl rfl) ?_
  refine Eq.trans (g_wx (pc' := 15) (lv' := [.ref 0, .int v1, .int v2, .ref 57, .null]) (a := 0) (as := [.int v1, .int v2]) (rest := [.int (nI 0), .ref 57]) dL_move_5 cl287 m126 rfl rfl rfl rfl (Nat.le_of_ble_eq_true rfl) rfl h (am_exc_2 (z := (0, 10, 13, 13)) rfl (by decide +kernel) dL_move_13 rfl)) ?_
  refine Eq.trans (g_K (v := nI 1) dL_move_15 rfl rfl) ?_
  exact g_iret dL_move_16 rfl
theorem wx301_2 {d : Nat} {σ X : am_M} (v1 : Int32) (v2 : Int32) (h : am_ex d 126 [.ref 0, .int v1, .int v2] σ = rX xIA X) : am_ex (d + 1) 301 [.ref 0, .int v1, .int v2, .ref 57] σ = rI (nI 2) X := by
  refine Eq.trans (am_ex_s m301 (Nat.le_of_ble_eq_true rfl) rfl) ?_
  refine Eq.trans (g_A dL_move_0 rfl rfl) ?_
  refine Eq.trans (g_K (v := nI 0) dL_move_1 rfl rfl) ?_
  refine Eq.trans (g_A dL_move_2 rfl rfl) ?_
  refine Eq.trans (g_A dL_move_3 rfl rfl) ?_
  refine Eq.trans (g_A dL_move_4 rfl rfl) ?_
  refine Eq.trans (g_wx (pc' := 19) (lv' := [.ref 0, .int v1, .int v2, .ref 57, .null]) (a := 0) (as := [.int v1, .int v2]) (rest := [.int (nI 0), .ref 57]) dL_move_5 cl287 m126 rfl rfl rfl rfl (Nat.le_of_ble_eq_true rfl) rfl h (am_exc_2 (z := (0, 10, 17, 33)) rfl (by decide +kernel) dL_move_17 rfl)) ?_
  refine Eq.trans (g_K (v := nI 2) dL_move_19 rfl rfl) ?_
  exact g_iret dL_move_20 rfl
theorem wx301_3 {d : Nat} {σ X : am_M} (v1 : Int32) (v2 : Int32) (h : am_ex d 126 [.ref 0, .int v1, .int v2] σ = rX xIS X) : am_ex (d + 1) 301 [.ref 0, .int v1, .int v2, .ref 57] σ = rI (nI 3) X := by
  refine Eq.trans (am_ex_s m301 (Nat.le_of_ble_eq_true rfl) rfl) ?_
  refine Eq.trans (g_A dL_move_0 rfl rfl) ?_
  refine Eq.trans (g_K (v := nI 0) dL_move_1 rfl rfl) ?_
  refine Eq.trans (g_A dL_move_2 rfl rfl) ?_
  refine Eq.trans (g_A dL_move_3 rfl rfl) ?_
  refine Eq.trans (g_A dL_move_4 rfl rfl) ?_
  refine Eq.trans (g_wx (pc' := 23) (lv' := [.ref 0, .int v1, .int v2, .ref 57, .null]) (a := 0) (as := [.int v1, .int v2]) (rest := [.int (nI 0), .ref 57]) dL_move_5 cl287 m126 rfl rfl rfl rfl (Nat.le_of_ble_eq_true rfl) rfl h (am_exc_2 (z := (0, 10, 21, 15)) rfl (by decide +kernel) dL_move_21 rfl)) ?_
  refine Eq.trans (g_K (v := nI 3) dL_move_23 rfl rfl) ?_
  exact g_iret dL_move_24 rfl
theorem wo302 {d : Nat} {σ X : am_M} {v : Int32} (v1 : Int32) (h : am_ex d 127 [.ref 0, .int v1] σ = rI v X) : am_ex (d + 1) 302 [.ref 0, .int v1, .ref 57] σ = rI (nI 0) (am_wJ X 57 0 v.toInt64) := by
  refine Eq.trans (am_ex_s m302 (Nat.le_of_ble_eq_true rfl) rfl) ?_
  refine Eq.trans (g_A dL_openingKeys_0 rfl rfl) ?_
  refine Eq.trans (g_K (v := nI 0) dL_openingKeys_1 rfl rfl) ?_
  refine Eq.trans (g_A dL_openingKeys_2 rfl rfl) ?_
  refine Eq.trans (g_A dL_openingKeys_3 rfl rfl) ?_
  refine Eq.trans (g_wok (a := 0) (as := [.int v1]) (rest := [.int (nI 0), .ref 57]) dL_openingKeys_4 cl288 m127 rfl rfl rfl rfl (Nat.le_of_ble_eq_true rfl) rfl rfl h rfl) ?_
  refine Eq.trans (g_i2l dL_openingKeys_7 rfl) ?_
  refine Eq.trans (g_last dL_openingKeys_8 sh57 rfl) ?_
  refine Eq.trans (if_pos (by decide)) ?_
  refine Eq.trans (g_goto (pc' := 15) dL_openingKeys_9 rfl) ?_
  refine Eq.trans (g_K (v := nI 0) dL_openingKeys_15 rfl rfl) ?_
  exact g_iret dL_openingKeys_16 rfl
theorem wx302_1 {d : Nat} {σ X : am_M} (v1 : Int32) (h : am_ex d 127 [.ref 0, .int v1] σ = rX xIO X) : am_ex (d + 1) 302 [.ref 0, .int v1, .ref 57] σ = rI (nI 1) X := by
  refine Eq.trans (am_ex_s m302 (Nat.le_of_ble_eq_true rfl) rfl) ?_
  refine Eq.trans (g_A dL_openingKeys_0 rfl rfl) ?_
  refine Eq.trans (g_K (v := nI 0) dL_openingKeys_1 rfl rfl) ?_
  refine Eq.trans (g_A dL_openingKeys_2 rfl rfl) ?_
  refine Eq.trans (g_A dL_openingKeys_3 rfl rfl) ?_
  refine Eq.trans (g_wx (pc' := 13) (lv' := [.ref 0, .int v1, .ref 57, .null]) (a := 0) (as := [.int v1]) (rest := [.int (nI 0), .ref 57]) dL_openingKeys_4 cl288 m127 rfl rfl rfl rfl (Nat.le_of_ble_eq_true rfl) rfl h (am_exc_1 (z := (0, 9, 12, 13)) rfl (by decide +kernel) dL_openingKeys_12 rfl)) ?_
  refine Eq.trans (g_K (v := nI 1) dL_openingKeys_13 rfl rfl) ?_
  exact g_iret dL_openingKeys_14 rfl
theorem wo303 {d : Nat} {σ X : am_M} {v : Int32}  (h : am_ex d 128 [.ref 0] σ = rI v X) : am_ex (d + 1) 303 [.ref 0, .ref 57] σ = rI (nI 0) (am_wJ X 57 0 v.toInt64) := by
  refine Eq.trans (am_ex_s m303 (Nat.le_of_ble_eq_true rfl) rfl) ?_
  refine Eq.trans (g_A dL_addMedium_0 rfl rfl) ?_
  refine Eq.trans (g_K (v := nI 0) dL_addMedium_1 rfl rfl) ?_
  refine Eq.trans (g_A dL_addMedium_2 rfl rfl) ?_
  refine Eq.trans (g_wok (a := 0) (as := []) (rest := [.int (nI 0), .ref 57]) dL_addMedium_3 cl289 m128 rfl rfl rfl rfl (Nat.le_of_ble_eq_true rfl) rfl rfl h rfl) ?_
  refine Eq.trans (g_i2l dL_addMedium_6 rfl) ?_
  refine Eq.trans (g_last dL_addMedium_7 sh57 rfl) ?_
  refine Eq.trans (if_pos (by decide)) ?_
  refine Eq.trans (g_goto (pc' := 14) dL_addMedium_8 rfl) ?_
  refine Eq.trans (g_K (v := nI 0) dL_addMedium_14 rfl rfl) ?_
  exact g_iret dL_addMedium_15 rfl
theorem wx303_1 {d : Nat} {σ X : am_M}  (h : am_ex d 128 [.ref 0] σ = rX xIS X) : am_ex (d + 1) 303 [.ref 0, .ref 57] σ = rI (nI 1) X := by
  refine Eq.trans (am_ex_s m303 (Nat.le_of_ble_eq_true rfl) rfl) ?_
  refine Eq.trans (g_A dL_addMedium_0 rfl rfl) ?_
  refine Eq.trans (g_K (v := nI 0) dL_addMedium_1 rfl rfl) ?_
  refine Eq.trans (g_A dL_addMedium_2 rfl rfl) ?_
  refine Eq.trans (g_wx (pc' := 12) (lv' := [.ref 0, .ref 57, .null]) (a := 0) (as := []) (rest := [.int (nI 0), .ref 57]) dL_addMedium_3 cl289 m128 rfl rfl rfl rfl (Nat.le_of_ble_eq_true rfl) rfl h (am_exc_1 (z := (0, 8, 11, 15)) rfl (by decide +kernel) dL_addMedium_11 rfl)) ?_
  refine Eq.trans (g_K (v := nI 1) dL_addMedium_12 rfl rfl) ?_
  exact g_iret dL_addMedium_13 rfl
theorem wo304 {d : Nat} {σ X : am_M} {v : Int32} (v1 : Int32) (v2 : Int32) (h : am_ex d 130 [.ref 0, .int v1, .int v2] σ = rI v X) : am_ex (d + 1) 304 [.ref 0, .int v1, .int v2, .ref 57] σ = rI (nI 0) (am_wJ X 57 0 v.toInt64) := by
  refine Eq.trans (am_ex_s m304 (Nat.le_of_ble_eq_true rfl) rfl) ?_
  refine Eq.trans (g_A dL_medium_0 rfl rfl) ?_
  refine Eq.trans (g_K (v := nI 0) dL_medium_1 rfl rfl) ?_
  refine Eq.trans (g_A dL_medium_2 rfl rfl) ?_
  refine Eq.trans (g_A dL_medium_3 rfl rfl) ?_
  refine Eq.trans (g_A dL_medium_4 rfl rfl) ?_
  refine Eq.trans (g_wok (a := 0) (as := [.int v1, .int v2]) (rest := [.int (nI 0), .ref 57]) dL_medium_5 cl290 m130 rfl rfl rfl rfl (Nat.le_of_ble_eq_true rfl) rfl rfl h rfl) ?_
  refine Eq.trans (g_i2l dL_medium_8 rfl) ?_
  refine Eq.trans (g_last dL_medium_9 sh57 rfl) ?_
  refine Eq.trans (if_pos (by decide)) ?_
  refine Eq.trans (g_goto (pc' := 21) dL_medium_10 rfl) ?_
  refine Eq.trans (g_K (v := nI 0) dL_medium_21 rfl rfl) ?_
  exact g_iret dL_medium_22 rfl
theorem wx304_1 {d : Nat} {σ X : am_M} (v1 : Int32) (v2 : Int32) (h : am_ex d 130 [.ref 0, .int v1, .int v2] σ = rX xIO X) : am_ex (d + 1) 304 [.ref 0, .int v1, .int v2, .ref 57] σ = rI (nI 1) X := by
  refine Eq.trans (am_ex_s m304 (Nat.le_of_ble_eq_true rfl) rfl) ?_
  refine Eq.trans (g_A dL_medium_0 rfl rfl) ?_
  refine Eq.trans (g_K (v := nI 0) dL_medium_1 rfl rfl) ?_
  refine Eq.trans (g_A dL_medium_2 rfl rfl) ?_
  refine Eq.trans (g_A dL_medium_3 rfl rfl) ?_
  refine Eq.trans (g_A dL_medium_4 rfl rfl) ?_
  refine Eq.trans (g_wx (pc' := 15) (lv' := [.ref 0, .int v1, .int v2, .ref 57, .null]) (a := 0) (as := [.int v1, .int v2]) (rest := [.int (nI 0), .ref 57]) dL_medium_5 cl290 m130 rfl rfl rfl rfl (Nat.le_of_ble_eq_true rfl) rfl h (am_exc_2 (z := (0, 10, 13, 13)) rfl (by decide +kernel) dL_medium_13 rfl)) ?_
  refine Eq.trans (g_K (v := nI 1) dL_medium_15 rfl rfl) ?_
  exact g_iret dL_medium_16 rfl
theorem wx304_2 {d : Nat} {σ X : am_M} (v1 : Int32) (v2 : Int32) (h : am_ex d 130 [.ref 0, .int v1, .int v2] σ = rX xIA X) : am_ex (d + 1) 304 [.ref 0, .int v1, .int v2, .ref 57] σ = rI (nI 2) X := by
  refine Eq.trans (am_ex_s m304 (Nat.le_of_ble_eq_true rfl) rfl) ?_
  refine Eq.trans (g_A dL_medium_0 rfl rfl) ?_
  refine Eq.trans (g_K (v := nI 0) dL_medium_1 rfl rfl) ?_
  refine Eq.trans (g_A dL_medium_2 rfl rfl) ?_
  refine Eq.trans (g_A dL_medium_3 rfl rfl) ?_
  refine Eq.trans (g_A dL_medium_4 rfl rfl) ?_
  refine Eq.trans (g_wx (pc' := 19) (lv' := [.ref 0, .int v1, .int v2, .ref 57, .null]) (a := 0) (as := [.int v1, .int v2]) (rest := [.int (nI 0), .ref 57]) dL_medium_5 cl290 m130 rfl rfl rfl rfl (Nat.le_of_ble_eq_true rfl) rfl h (am_exc_2 (z := (0, 10, 17, 33)) rfl (by decide +kernel) dL_medium_17 rfl)) ?_
  refine Eq.trans (g_K (v := nI 2) dL_medium_19 rfl rfl) ?_
  exact g_iret dL_medium_20 rfl
theorem wo305 {d : Nat} {σ X : am_M} {v : Int64} (v1 : Int32) (v2 : Int32) (v3 : Int32) (h : am_ex d 131 [.ref 0, .int v1, .int v2, .int v3] σ = rJ v X) : am_ex (d + 1) 305 [.ref 0, .int v1, .int v2, .int v3, .ref 57] σ = rI (nI 0) (am_wJ X 57 0 v) := by
  refine Eq.trans (am_ex_s m305 (Nat.le_of_ble_eq_true rfl) rfl) ?_
  refine Eq.trans (g_A dL_entry_0 rfl rfl) ?_
  refine Eq.trans (g_K (v := nI 0) dL_entry_2 rfl rfl) ?_
  refine Eq.trans (g_A dL_entry_3 rfl rfl) ?_
  refine Eq.trans (g_A dL_entry_4 rfl rfl) ?_
  refine Eq.trans (g_A dL_entry_5 rfl rfl) ?_
  refine Eq.trans (g_A dL_entry_6 rfl rfl) ?_
  refine Eq.trans (g_wok (a := 0) (as := [.int v1, .int v2, .int v3]) (rest := [.int (nI 0), .ref 57]) dL_entry_7 cl291 m131 rfl rfl rfl rfl (Nat.le_of_ble_eq_true rfl) rfl rfl h rfl) ?_
  refine Eq.trans (g_last dL_entry_10 sh57 rfl) ?_
  refine Eq.trans (if_pos (by decide)) ?_
  refine Eq.trans (g_goto (pc' := 22) dL_entry_11 rfl) ?_
  refine Eq.trans (g_K (v := nI 0) dL_entry_22 rfl rfl) ?_
  exact g_iret dL_entry_23 rfl
theorem wx305_1 {d : Nat} {σ X : am_M} (v1 : Int32) (v2 : Int32) (v3 : Int32) (h : am_ex d 131 [.ref 0, .int v1, .int v2, .int v3] σ = rX xIO X) : am_ex (d + 1) 305 [.ref 0, .int v1, .int v2, .int v3, .ref 57] σ = rI (nI 1) X := by
  refine Eq.trans (am_ex_s m305 (Nat.le_of_ble_eq_true rfl) rfl) ?_
  refine Eq.trans (g_A dL_entry_0 rfl rfl) ?_
  refine Eq.trans (g_K (v := nI 0) dL_entry_2 rfl rfl) ?_
  refine Eq.trans (g_A dL_entry_3 rfl rfl) ?_
  refine Eq.trans (g_A dL_entry_4 rfl rfl) ?_
  refine Eq.trans (g_A dL_entry_5 rfl rfl) ?_
  refine Eq.trans (g_A dL_entry_6 rfl rfl) ?_
  refine Eq.trans (g_wx (pc' := 16) (lv' := [.ref 0, .int v1, .int v2, .int v3, .ref 57, .null]) (a := 0) (as := [.int v1, .int v2, .int v3]) (rest := [.int (nI 0), .ref 57]) dL_entry_7 cl291 m131 rfl rfl rfl rfl (Nat.le_of_ble_eq_true rfl) rfl h (am_exc_2 (z := (0, 11, 14, 13)) rfl (by decide +kernel) dL_entry_14 rfl)) ?_
  refine Eq.trans (g_K (v := nI 1) dL_entry_16 rfl rfl) ?_
  exact g_iret dL_entry_17 rfl
theorem wx305_2 {d : Nat} {σ X : am_M} (v1 : Int32) (v2 : Int32) (v3 : Int32) (h : am_ex d 131 [.ref 0, .int v1, .int v2, .int v3] σ = rX xIA X) : am_ex (d + 1) 305 [.ref 0, .int v1, .int v2, .int v3, .ref 57] σ = rI (nI 2) X := by
  refine Eq.trans (am_ex_s m305 (Nat.le_of_ble_eq_true rfl) rfl) ?_
  refine Eq.trans (g_A dL_entry_0 rfl rfl) ?_
  refine Eq.trans (g_K (v := nI 0) dL_entry_2 rfl rfl) ?_
  refine Eq.trans (g_A dL_entry_3 rfl rfl) ?_
  refine Eq.trans (g_A dL_entry_4 rfl rfl) ?_
  refine Eq.trans (g_A dL_entry_5 rfl rfl) ?_
  refine Eq.trans (g_A dL_entry_6 rfl rfl) ?_
  refine Eq.trans (g_wx (pc' := 20) (lv' := [.ref 0, .int v1, .int v2, .int v3, .ref 57, .null]) (a := 0) (as := [.int v1, .int v2, .int v3]) (rest := [.int (nI 0), .ref 57]) dL_entry_7 cl291 m131 rfl rfl rfl rfl (Nat.le_of_ble_eq_true rfl) rfl h (am_exc_2 (z := (0, 11, 18, 33)) rfl (by decide +kernel) dL_entry_18 rfl)) ?_
  refine Eq.trans (g_K (v := nI 2) dL_entry_20 rfl rfl) ?_
  exact g_iret dL_entry_21 rfl
theorem wo306 {d : Nat} {σ X : am_M} {v : Int32} (v1 : Int32) (h : am_ex d 132 [.ref 0, .int v1] σ = rI v X) : am_ex (d + 1) 306 [.ref 0, .int v1, .ref 57] σ = rI (nI 0) (am_wJ X 57 0 v.toInt64) := by
  refine Eq.trans (am_ex_s m306 (Nat.le_of_ble_eq_true rfl) rfl) ?_
  refine Eq.trans (g_A dL_lose_0 rfl rfl) ?_
  refine Eq.trans (g_K (v := nI 0) dL_lose_1 rfl rfl) ?_
  refine Eq.trans (g_A dL_lose_2 rfl rfl) ?_
  refine Eq.trans (g_A dL_lose_3 rfl rfl) ?_
  refine Eq.trans (g_wok (a := 0) (as := [.int v1]) (rest := [.int (nI 0), .ref 57]) dL_lose_4 cl292 m132 rfl rfl rfl rfl (Nat.le_of_ble_eq_true rfl) rfl rfl h rfl) ?_
  refine Eq.trans (g_i2l dL_lose_7 rfl) ?_
  refine Eq.trans (g_last dL_lose_8 sh57 rfl) ?_
  refine Eq.trans (if_pos (by decide)) ?_
  refine Eq.trans (g_goto (pc' := 18) dL_lose_9 rfl) ?_
  refine Eq.trans (g_K (v := nI 0) dL_lose_18 rfl rfl) ?_
  exact g_iret dL_lose_19 rfl
theorem wx306_1 {d : Nat} {σ X : am_M} (v1 : Int32) (h : am_ex d 132 [.ref 0, .int v1] σ = rX xIO X) : am_ex (d + 1) 306 [.ref 0, .int v1, .ref 57] σ = rI (nI 1) X := by
  refine Eq.trans (am_ex_s m306 (Nat.le_of_ble_eq_true rfl) rfl) ?_
  refine Eq.trans (g_A dL_lose_0 rfl rfl) ?_
  refine Eq.trans (g_K (v := nI 0) dL_lose_1 rfl rfl) ?_
  refine Eq.trans (g_A dL_lose_2 rfl rfl) ?_
  refine Eq.trans (g_A dL_lose_3 rfl rfl) ?_
  refine Eq.trans (g_wx (pc' := 13) (lv' := [.ref 0, .int v1, .ref 57, .null]) (a := 0) (as := [.int v1]) (rest := [.int (nI 0), .ref 57]) dL_lose_4 cl292 m132 rfl rfl rfl rfl (Nat.le_of_ble_eq_true rfl) rfl h (am_exc_1 (z := (0, 9, 12, 13)) rfl (by decide +kernel) dL_lose_12 rfl)) ?_
  refine Eq.trans (g_K (v := nI 1) dL_lose_13 rfl rfl) ?_
  exact g_iret dL_lose_14 rfl
theorem wx306_2 {d : Nat} {σ X : am_M} (v1 : Int32) (h : am_ex d 132 [.ref 0, .int v1] σ = rX xIS X) : am_ex (d + 1) 306 [.ref 0, .int v1, .ref 57] σ = rI (nI 2) X := by
  refine Eq.trans (am_ex_s m306 (Nat.le_of_ble_eq_true rfl) rfl) ?_
  refine Eq.trans (g_A dL_lose_0 rfl rfl) ?_
  refine Eq.trans (g_K (v := nI 0) dL_lose_1 rfl rfl) ?_
  refine Eq.trans (g_A dL_lose_2 rfl rfl) ?_
  refine Eq.trans (g_A dL_lose_3 rfl rfl) ?_
  refine Eq.trans (g_wx (pc' := 16) (lv' := [.ref 0, .int v1, .ref 57, .null]) (a := 0) (as := [.int v1]) (rest := [.int (nI 0), .ref 57]) dL_lose_4 cl292 m132 rfl rfl rfl rfl (Nat.le_of_ble_eq_true rfl) rfl h (am_exc_1 (z := (0, 9, 15, 15)) rfl (by decide +kernel) dL_lose_15 rfl)) ?_
  refine Eq.trans (g_K (v := nI 2) dL_lose_16 rfl rfl) ?_
  exact g_iret dL_lose_17 rfl
theorem wo307 {d : Nat} {σ X : am_M} {v : Int32} (v1 : Int32) (h : am_ex d 133 [.ref 0, .int v1] σ = rI v X) : am_ex (d + 1) 307 [.ref 0, .int v1, .ref 57] σ = rI (nI 0) (am_wJ X 57 0 v.toInt64) := by
  refine Eq.trans (am_ex_s m307 (Nat.le_of_ble_eq_true rfl) rfl) ?_
  refine Eq.trans (g_A dL_destroy_0 rfl rfl) ?_
  refine Eq.trans (g_K (v := nI 0) dL_destroy_1 rfl rfl) ?_
  refine Eq.trans (g_A dL_destroy_2 rfl rfl) ?_
  refine Eq.trans (g_A dL_destroy_3 rfl rfl) ?_
  refine Eq.trans (g_wok (a := 0) (as := [.int v1]) (rest := [.int (nI 0), .ref 57]) dL_destroy_4 cl293 m133 rfl rfl rfl rfl (Nat.le_of_ble_eq_true rfl) rfl rfl h rfl) ?_
  refine Eq.trans (g_i2l dL_destroy_7 rfl) ?_
  refine Eq.trans (g_last dL_destroy_8 sh57 rfl) ?_
  refine Eq.trans (if_pos (by decide)) ?_
  refine Eq.trans (g_goto (pc' := 18) dL_destroy_9 rfl) ?_
  refine Eq.trans (g_K (v := nI 0) dL_destroy_18 rfl rfl) ?_
  exact g_iret dL_destroy_19 rfl
theorem wx307_1 {d : Nat} {σ X : am_M} (v1 : Int32) (h : am_ex d 133 [.ref 0, .int v1] σ = rX xIO X) : am_ex (d + 1) 307 [.ref 0, .int v1, .ref 57] σ = rI (nI 1) X := by
  refine Eq.trans (am_ex_s m307 (Nat.le_of_ble_eq_true rfl) rfl) ?_
  refine Eq.trans (g_A dL_destroy_0 rfl rfl) ?_
  refine Eq.trans (g_K (v := nI 0) dL_destroy_1 rfl rfl) ?_
  refine Eq.trans (g_A dL_destroy_2 rfl rfl) ?_
  refine Eq.trans (g_A dL_destroy_3 rfl rfl) ?_
  refine Eq.trans (g_wx (pc' := 13) (lv' := [.ref 0, .int v1, .ref 57, .null]) (a := 0) (as := [.int v1]) (rest := [.int (nI 0), .ref 57]) dL_destroy_4 cl293 m133 rfl rfl rfl rfl (Nat.le_of_ble_eq_true rfl) rfl h (am_exc_1 (z := (0, 9, 12, 13)) rfl (by decide +kernel) dL_destroy_12 rfl)) ?_
  refine Eq.trans (g_K (v := nI 1) dL_destroy_13 rfl rfl) ?_
  exact g_iret dL_destroy_14 rfl
theorem wx307_2 {d : Nat} {σ X : am_M} (v1 : Int32) (h : am_ex d 133 [.ref 0, .int v1] σ = rX xIS X) : am_ex (d + 1) 307 [.ref 0, .int v1, .ref 57] σ = rI (nI 2) X := by
  refine Eq.trans (am_ex_s m307 (Nat.le_of_ble_eq_true rfl) rfl) ?_
  refine Eq.trans (g_A dL_destroy_0 rfl rfl) ?_
  refine Eq.trans (g_K (v := nI 0) dL_destroy_1 rfl rfl) ?_
  refine Eq.trans (g_A dL_destroy_2 rfl rfl) ?_
  refine Eq.trans (g_A dL_destroy_3 rfl rfl) ?_
  refine Eq.trans (g_wx (pc' := 16) (lv' := [.ref 0, .int v1, .ref 57, .null]) (a := 0) (as := [.int v1]) (rest := [.int (nI 0), .ref 57]) dL_destroy_4 cl293 m133 rfl rfl rfl rfl (Nat.le_of_ble_eq_true rfl) rfl h (am_exc_1 (z := (0, 9, 15, 15)) rfl (by decide +kernel) dL_destroy_15 rfl)) ?_
  refine Eq.trans (g_K (v := nI 2) dL_destroy_16 rfl rfl) ?_
  exact g_iret dL_destroy_17 rfl
theorem wo308 {d : Nat} {σ X : am_M} {v : Int32} (v1 : Int32) (h : am_ex d 134 [.ref 0, .int v1] σ = rI v X) : am_ex (d + 1) 308 [.ref 0, .int v1, .ref 57] σ = rI (nI 0) (am_wJ X 57 0 v.toInt64) := by
  refine Eq.trans (am_ex_s m308 (Nat.le_of_ble_eq_true rfl) rfl) ?_
  refine Eq.trans (g_A dL_migrate_0 rfl rfl) ?_
  refine Eq.trans (g_K (v := nI 0) dL_migrate_1 rfl rfl) ?_
  refine Eq.trans (g_A dL_migrate_2 rfl rfl) ?_
  refine Eq.trans (g_A dL_migrate_3 rfl rfl) ?_
  refine Eq.trans (g_wok (a := 0) (as := [.int v1]) (rest := [.int (nI 0), .ref 57]) dL_migrate_4 cl294 m134 rfl rfl rfl rfl (Nat.le_of_ble_eq_true rfl) rfl rfl h rfl) ?_
  refine Eq.trans (g_i2l dL_migrate_7 rfl) ?_
  refine Eq.trans (g_last dL_migrate_8 sh57 rfl) ?_
  refine Eq.trans (if_pos (by decide)) ?_
  refine Eq.trans (g_goto (pc' := 18) dL_migrate_9 rfl) ?_
  refine Eq.trans (g_K (v := nI 0) dL_migrate_18 rfl rfl) ?_
  exact g_iret dL_migrate_19 rfl
theorem wx308_1 {d : Nat} {σ X : am_M} (v1 : Int32) (h : am_ex d 134 [.ref 0, .int v1] σ = rX xIO X) : am_ex (d + 1) 308 [.ref 0, .int v1, .ref 57] σ = rI (nI 1) X := by
  refine Eq.trans (am_ex_s m308 (Nat.le_of_ble_eq_true rfl) rfl) ?_
  refine Eq.trans (g_A dL_migrate_0 rfl rfl) ?_
  refine Eq.trans (g_K (v := nI 0) dL_migrate_1 rfl rfl) ?_
  refine Eq.trans (g_A dL_migrate_2 rfl rfl) ?_
  refine Eq.trans (g_A dL_migrate_3 rfl rfl) ?_
  refine Eq.trans (g_wx (pc' := 13) (lv' := [.ref 0, .int v1, .ref 57, .null]) (a := 0) (as := [.int v1]) (rest := [.int (nI 0), .ref 57]) dL_migrate_4 cl294 m134 rfl rfl rfl rfl (Nat.le_of_ble_eq_true rfl) rfl h (am_exc_1 (z := (0, 9, 12, 13)) rfl (by decide +kernel) dL_migrate_12 rfl)) ?_
  refine Eq.trans (g_K (v := nI 1) dL_migrate_13 rfl rfl) ?_
  exact g_iret dL_migrate_14 rfl
theorem wx308_2 {d : Nat} {σ X : am_M} (v1 : Int32) (h : am_ex d 134 [.ref 0, .int v1] σ = rX xIS X) : am_ex (d + 1) 308 [.ref 0, .int v1, .ref 57] σ = rI (nI 2) X := by
  refine Eq.trans (am_ex_s m308 (Nat.le_of_ble_eq_true rfl) rfl) ?_
  refine Eq.trans (g_A dL_migrate_0 rfl rfl) ?_
  refine Eq.trans (g_K (v := nI 0) dL_migrate_1 rfl rfl) ?_
  refine Eq.trans (g_A dL_migrate_2 rfl rfl) ?_
  refine Eq.trans (g_A dL_migrate_3 rfl rfl) ?_
  refine Eq.trans (g_wx (pc' := 16) (lv' := [.ref 0, .int v1, .ref 57, .null]) (a := 0) (as := [.int v1]) (rest := [.int (nI 0), .ref 57]) dL_migrate_4 cl294 m134 rfl rfl rfl rfl (Nat.le_of_ble_eq_true rfl) rfl h (am_exc_1 (z := (0, 9, 15, 15)) rfl (by decide +kernel) dL_migrate_15 rfl)) ?_
  refine Eq.trans (g_K (v := nI 2) dL_migrate_16 rfl rfl) ?_
  exact g_iret dL_migrate_17 rfl
theorem wo309 {d : Nat} {σ X : am_M} {v : Int32} (v1 : Int32) (h : am_ex d 135 [.ref 0, .int v1] σ = rI v X) : am_ex (d + 1) 309 [.ref 0, .int v1, .ref 57] σ = rI (nI 0) (am_wJ X 57 0 v.toInt64) := by
  refine Eq.trans (am_ex_s m309 (Nat.le_of_ble_eq_true rfl) rfl) ?_
  refine Eq.trans (g_A dL_redundancy_0 rfl rfl) ?_
  refine Eq.trans (g_K (v := nI 0) dL_redundancy_1 rfl rfl) ?_
  refine Eq.trans (g_A dL_redundancy_2 rfl rfl) ?_
  refine Eq.trans (g_A dL_redundancy_3 rfl rfl) ?_
  refine Eq.trans (g_wok (a := 0) (as := [.int v1]) (rest := [.int (nI 0), .ref 57]) dL_redundancy_4 cl295 m135 rfl rfl rfl rfl (Nat.le_of_ble_eq_true rfl) rfl rfl h rfl) ?_
  refine Eq.trans (g_i2l dL_redundancy_7 rfl) ?_
  refine Eq.trans (g_last dL_redundancy_8 sh57 rfl) ?_
  refine Eq.trans (if_pos (by decide)) ?_
  refine Eq.trans (g_goto (pc' := 15) dL_redundancy_9 rfl) ?_
  refine Eq.trans (g_K (v := nI 0) dL_redundancy_15 rfl rfl) ?_
  exact g_iret dL_redundancy_16 rfl
theorem wx309_1 {d : Nat} {σ X : am_M} (v1 : Int32) (h : am_ex d 135 [.ref 0, .int v1] σ = rX xIO X) : am_ex (d + 1) 309 [.ref 0, .int v1, .ref 57] σ = rI (nI 1) X := by
  refine Eq.trans (am_ex_s m309 (Nat.le_of_ble_eq_true rfl) rfl) ?_
  refine Eq.trans (g_A dL_redundancy_0 rfl rfl) ?_
  refine Eq.trans (g_K (v := nI 0) dL_redundancy_1 rfl rfl) ?_
  refine Eq.trans (g_A dL_redundancy_2 rfl rfl) ?_
  refine Eq.trans (g_A dL_redundancy_3 rfl rfl) ?_
  refine Eq.trans (g_wx (pc' := 13) (lv' := [.ref 0, .int v1, .ref 57, .null]) (a := 0) (as := [.int v1]) (rest := [.int (nI 0), .ref 57]) dL_redundancy_4 cl295 m135 rfl rfl rfl rfl (Nat.le_of_ble_eq_true rfl) rfl h (am_exc_1 (z := (0, 9, 12, 13)) rfl (by decide +kernel) dL_redundancy_12 rfl)) ?_
  refine Eq.trans (g_K (v := nI 1) dL_redundancy_13 rfl rfl) ?_
  exact g_iret dL_redundancy_14 rfl
theorem wo310 {d : Nat} {σ X : am_M} {v : Int32}  (h : am_ex d 136 [.ref 0] σ = rI v X) : am_ex (d + 1) 310 [.ref 0, .ref 57] σ = rI (nI 0) (am_wJ X 57 0 v.toInt64) := by
  refine Eq.trans (am_ex_s m310 (Nat.le_of_ble_eq_true rfl) rfl) ?_
  refine Eq.trans (g_A dL_duplicate_0 rfl rfl) ?_
  refine Eq.trans (g_K (v := nI 0) dL_duplicate_1 rfl rfl) ?_
  refine Eq.trans (g_A dL_duplicate_2 rfl rfl) ?_
  refine Eq.trans (g_wok (a := 0) (as := []) (rest := [.int (nI 0), .ref 57]) dL_duplicate_3 cl296 m136 rfl rfl rfl rfl (Nat.le_of_ble_eq_true rfl) rfl rfl h rfl) ?_
  refine Eq.trans (g_i2l dL_duplicate_6 rfl) ?_
  refine Eq.trans (g_last dL_duplicate_7 sh57 rfl) ?_
  refine Eq.trans (if_pos (by decide)) ?_
  refine Eq.trans (g_goto (pc' := 14) dL_duplicate_8 rfl) ?_
  refine Eq.trans (g_K (v := nI 0) dL_duplicate_14 rfl rfl) ?_
  exact g_iret dL_duplicate_15 rfl
theorem wx310_1 {d : Nat} {σ X : am_M}  (h : am_ex d 136 [.ref 0] σ = rX xIS X) : am_ex (d + 1) 310 [.ref 0, .ref 57] σ = rI (nI 1) X := by
  refine Eq.trans (am_ex_s m310 (Nat.le_of_ble_eq_true rfl) rfl) ?_
  refine Eq.trans (g_A dL_duplicate_0 rfl rfl) ?_
  refine Eq.trans (g_K (v := nI 0) dL_duplicate_1 rfl rfl) ?_
  refine Eq.trans (g_A dL_duplicate_2 rfl rfl) ?_
  refine Eq.trans (g_wx (pc' := 12) (lv' := [.ref 0, .ref 57, .null]) (a := 0) (as := []) (rest := [.int (nI 0), .ref 57]) dL_duplicate_3 cl296 m136 rfl rfl rfl rfl (Nat.le_of_ble_eq_true rfl) rfl h (am_exc_1 (z := (0, 8, 11, 15)) rfl (by decide +kernel) dL_duplicate_11 rfl)) ?_
  refine Eq.trans (g_K (v := nI 1) dL_duplicate_12 rfl rfl) ?_
  exact g_iret dL_duplicate_13 rfl
theorem wo311 {d : Nat} {σ X : am_M} {v : Int32} (v1 : Int32) (h : am_ex d 138 [.ref 0, .int v1] σ = rI v X) : am_ex (d + 1) 311 [.ref 0, .int v1, .ref 57] σ = rI (nI 0) (am_wJ X 57 0 v.toInt64) := by
  refine Eq.trans (am_ex_s m311 (Nat.le_of_ble_eq_true rfl) rfl) ?_
  refine Eq.trans (g_A dL_hash_0 rfl rfl) ?_
  refine Eq.trans (g_K (v := nI 0) dL_hash_1 rfl rfl) ?_
  refine Eq.trans (g_A dL_hash_2 rfl rfl) ?_
  refine Eq.trans (g_A dL_hash_3 rfl rfl) ?_
  refine Eq.trans (g_wok (a := 0) (as := [.int v1]) (rest := [.int (nI 0), .ref 57]) dL_hash_4 cl297 m138 rfl rfl rfl rfl (Nat.le_of_ble_eq_true rfl) rfl rfl h rfl) ?_
  refine Eq.trans (g_i2l dL_hash_7 rfl) ?_
  refine Eq.trans (g_last dL_hash_8 sh57 rfl) ?_
  refine Eq.trans (if_pos (by decide)) ?_
  refine Eq.trans (g_goto (pc' := 15) dL_hash_9 rfl) ?_
  refine Eq.trans (g_K (v := nI 0) dL_hash_15 rfl rfl) ?_
  exact g_iret dL_hash_16 rfl
theorem wx311_1 {d : Nat} {σ X : am_M} (v1 : Int32) (h : am_ex d 138 [.ref 0, .int v1] σ = rX xIO X) : am_ex (d + 1) 311 [.ref 0, .int v1, .ref 57] σ = rI (nI 1) X := by
  refine Eq.trans (am_ex_s m311 (Nat.le_of_ble_eq_true rfl) rfl) ?_
  refine Eq.trans (g_A dL_hash_0 rfl rfl) ?_
  refine Eq.trans (g_K (v := nI 0) dL_hash_1 rfl rfl) ?_
  refine Eq.trans (g_A dL_hash_2 rfl rfl) ?_
  refine Eq.trans (g_A dL_hash_3 rfl rfl) ?_
  refine Eq.trans (g_wx (pc' := 13) (lv' := [.ref 0, .int v1, .ref 57, .null]) (a := 0) (as := [.int v1]) (rest := [.int (nI 0), .ref 57]) dL_hash_4 cl297 m138 rfl rfl rfl rfl (Nat.le_of_ble_eq_true rfl) rfl h (am_exc_1 (z := (0, 9, 12, 13)) rfl (by decide +kernel) dL_hash_12 rfl)) ?_
  refine Eq.trans (g_K (v := nI 1) dL_hash_13 rfl rfl) ?_
  exact g_iret dL_hash_14 rfl
theorem wo312 {d : Nat} {σ X : am_M} {v : Int32} (v1 : Int32) (v2 : Int32) (h : am_ex d 139 [.ref 0, .int v1, .int v2] σ = rI v X) : am_ex (d + 1) 312 [.ref 0, .int v1, .int v2, .ref 57] σ = rI (nI 0) (am_wJ X 57 0 v.toInt64) := by
  refine Eq.trans (am_ex_s m312 (Nat.le_of_ble_eq_true rfl) rfl) ?_
  refine Eq.trans (g_A dL_keepProof_0 rfl rfl) ?_
  refine Eq.trans (g_K (v := nI 0) dL_keepProof_1 rfl rfl) ?_
  refine Eq.trans (g_A dL_keepProof_2 rfl rfl) ?_
  refine Eq.trans (g_A dL_keepProof_3 rfl rfl) ?_
  refine Eq.trans (g_A dL_keepProof_4 rfl rfl) ?_
  refine Eq.trans (g_wok (a := 0) (as := [.int v1, .int v2]) (rest := [.int (nI 0), .ref 57]) dL_keepProof_5 cl298 m139 rfl rfl rfl rfl (Nat.le_of_ble_eq_true rfl) rfl rfl h rfl) ?_
  refine Eq.trans (g_i2l dL_keepProof_8 rfl) ?_
  refine Eq.trans (g_last dL_keepProof_9 sh57 rfl) ?_
  refine Eq.trans (if_pos (by decide)) ?_
  refine Eq.trans (g_goto (pc' := 17) dL_keepProof_10 rfl) ?_
  refine Eq.trans (g_K (v := nI 0) dL_keepProof_17 rfl rfl) ?_
  exact g_iret dL_keepProof_18 rfl
theorem wx312_1 {d : Nat} {σ X : am_M} (v1 : Int32) (v2 : Int32) (h : am_ex d 139 [.ref 0, .int v1, .int v2] σ = rX xIO X) : am_ex (d + 1) 312 [.ref 0, .int v1, .int v2, .ref 57] σ = rI (nI 1) X := by
  refine Eq.trans (am_ex_s m312 (Nat.le_of_ble_eq_true rfl) rfl) ?_
  refine Eq.trans (g_A dL_keepProof_0 rfl rfl) ?_
  refine Eq.trans (g_K (v := nI 0) dL_keepProof_1 rfl rfl) ?_
  refine Eq.trans (g_A dL_keepProof_2 rfl rfl) ?_
  refine Eq.trans (g_A dL_keepProof_3 rfl rfl) ?_
  refine Eq.trans (g_A dL_keepProof_4 rfl rfl) ?_
  refine Eq.trans (g_wx (pc' := 15) (lv' := [.ref 0, .int v1, .int v2, .ref 57, .null]) (a := 0) (as := [.int v1, .int v2]) (rest := [.int (nI 0), .ref 57]) dL_keepProof_5 cl298 m139 rfl rfl rfl rfl (Nat.le_of_ble_eq_true rfl) rfl h (am_exc_2 (z := (0, 10, 13, 13)) rfl (by decide +kernel) dL_keepProof_13 rfl)) ?_
  refine Eq.trans (g_K (v := nI 1) dL_keepProof_15 rfl rfl) ?_
  exact g_iret dL_keepProof_16 rfl
theorem wo313 {d : Nat} {σ X : am_M} {v : Int32} (v1 : Int32) (v2 : Int32) (h : am_ex d 140 [.ref 0, .int v1, .int v2] σ = rI v X) : am_ex (d + 1) 313 [.ref 0, .int v1, .int v2, .ref 57] σ = rI (nI 0) (am_wJ X 57 0 v.toInt64) := by
  refine Eq.trans (am_ex_s m313 (Nat.le_of_ble_eq_true rfl) rfl) ?_
  refine Eq.trans (g_A dL_proofNumber_0 rfl rfl) ?_
  refine Eq.trans (g_K (v := nI 0) dL_proofNumber_1 rfl rfl) ?_
  refine Eq.trans (g_A dL_proofNumber_2 rfl rfl) ?_
  refine Eq.trans (g_A dL_proofNumber_3 rfl rfl) ?_
  refine Eq.trans (g_A dL_proofNumber_4 rfl rfl) ?_
  refine Eq.trans (g_wok (a := 0) (as := [.int v1, .int v2]) (rest := [.int (nI 0), .ref 57]) dL_proofNumber_5 cl299 m140 rfl rfl rfl rfl (Nat.le_of_ble_eq_true rfl) rfl rfl h rfl) ?_
  refine Eq.trans (g_i2l dL_proofNumber_8 rfl) ?_
  refine Eq.trans (g_last dL_proofNumber_9 sh57 rfl) ?_
  refine Eq.trans (if_pos (by decide)) ?_
  refine Eq.trans (g_goto (pc' := 21) dL_proofNumber_10 rfl) ?_
  refine Eq.trans (g_K (v := nI 0) dL_proofNumber_21 rfl rfl) ?_
  exact g_iret dL_proofNumber_22 rfl
theorem wx313_1 {d : Nat} {σ X : am_M} (v1 : Int32) (v2 : Int32) (h : am_ex d 140 [.ref 0, .int v1, .int v2] σ = rX xIO X) : am_ex (d + 1) 313 [.ref 0, .int v1, .int v2, .ref 57] σ = rI (nI 1) X := by
  refine Eq.trans (am_ex_s m313 (Nat.le_of_ble_eq_true rfl) rfl) ?_
  refine Eq.trans (g_A dL_proofNumber_0 rfl rfl) ?_
  refine Eq.trans (g_K (v := nI 0) dL_proofNumber_1 rfl rfl) ?_
  refine Eq.trans (g_A dL_proofNumber_2 rfl rfl) ?_
  refine Eq.trans (g_A dL_proofNumber_3 rfl rfl) ?_
  refine Eq.trans (g_A dL_proofNumber_4 rfl rfl) ?_
  refine Eq.trans (g_wx (pc' := 15) (lv' := [.ref 0, .int v1, .int v2, .ref 57, .null]) (a := 0) (as := [.int v1, .int v2]) (rest := [.int (nI 0), .ref 57]) dL_proofNumber_5 cl299 m140 rfl rfl rfl rfl (Nat.le_of_ble_eq_true rfl) rfl h (am_exc_2 (z := (0, 10, 13, 13)) rfl (by decide +kernel) dL_proofNumber_13 rfl)) ?_
  refine Eq.trans (g_K (v := nI 1) dL_proofNumber_15 rfl rfl) ?_
  exact g_iret dL_proofNumber_16 rfl
theorem wx313_2 {d : Nat} {σ X : am_M} (v1 : Int32) (v2 : Int32) (h : am_ex d 140 [.ref 0, .int v1, .int v2] σ = rX xIS X) : am_ex (d + 1) 313 [.ref 0, .int v1, .int v2, .ref 57] σ = rI (nI 2) X := by
  refine Eq.trans (am_ex_s m313 (Nat.le_of_ble_eq_true rfl) rfl) ?_
  refine Eq.trans (g_A dL_proofNumber_0 rfl rfl) ?_
  refine Eq.trans (g_K (v := nI 0) dL_proofNumber_1 rfl rfl) ?_
  refine Eq.trans (g_A dL_proofNumber_2 rfl rfl) ?_
  refine Eq.trans (g_A dL_proofNumber_3 rfl rfl) ?_
  refine Eq.trans (g_A dL_proofNumber_4 rfl rfl) ?_
  refine Eq.trans (g_wx (pc' := 19) (lv' := [.ref 0, .int v1, .int v2, .ref 57, .null]) (a := 0) (as := [.int v1, .int v2]) (rest := [.int (nI 0), .ref 57]) dL_proofNumber_5 cl299 m140 rfl rfl rfl rfl (Nat.le_of_ble_eq_true rfl) rfl h (am_exc_2 (z := (0, 10, 17, 15)) rfl (by decide +kernel) dL_proofNumber_17 rfl)) ?_
  refine Eq.trans (g_K (v := nI 2) dL_proofNumber_19 rfl rfl) ?_
  exact g_iret dL_proofNumber_20 rfl
theorem wo314 {d : Nat} {σ X : am_M} {v : Int32} (v1 : Int32) (h : am_ex d 141 [.ref 0, .int v1] σ = rI v X) : am_ex (d + 1) 314 [.ref 0, .int v1, .ref 57] σ = rI (nI 0) (am_wJ X 57 0 v.toInt64) := by
  refine Eq.trans (am_ex_s m314 (Nat.le_of_ble_eq_true rfl) rfl) ?_
  refine Eq.trans (g_A dL_proofHash_0 rfl rfl) ?_
  refine Eq.trans (g_K (v := nI 0) dL_proofHash_1 rfl rfl) ?_
  refine Eq.trans (g_A dL_proofHash_2 rfl rfl) ?_
  refine Eq.trans (g_A dL_proofHash_3 rfl rfl) ?_
  refine Eq.trans (g_wok (a := 0) (as := [.int v1]) (rest := [.int (nI 0), .ref 57]) dL_proofHash_4 cl300 m141 rfl rfl rfl rfl (Nat.le_of_ble_eq_true rfl) rfl rfl h rfl) ?_
  refine Eq.trans (g_i2l dL_proofHash_7 rfl) ?_
  refine Eq.trans (g_last dL_proofHash_8 sh57 rfl) ?_
  refine Eq.trans (if_pos (by decide)) ?_
  refine Eq.trans (g_goto (pc' := 18) dL_proofHash_9 rfl) ?_
  refine Eq.trans (g_K (v := nI 0) dL_proofHash_18 rfl rfl) ?_
  exact g_iret dL_proofHash_19 rfl
theorem wx314_1 {d : Nat} {σ X : am_M} (v1 : Int32) (h : am_ex d 141 [.ref 0, .int v1] σ = rX xIO X) : am_ex (d + 1) 314 [.ref 0, .int v1, .ref 57] σ = rI (nI 1) X := by
  refine Eq.trans (am_ex_s m314 (Nat.le_of_ble_eq_true rfl) rfl) ?_
  refine Eq.trans (g_A dL_proofHash_0 rfl rfl) ?_
  refine Eq.trans (g_K (v := nI 0) dL_proofHash_1 rfl rfl) ?_
  refine Eq.trans (g_A dL_proofHash_2 rfl rfl) ?_
  refine Eq.trans (g_A dL_proofHash_3 rfl rfl) ?_
  refine Eq.trans (g_wx (pc' := 13) (lv' := [.ref 0, .int v1, .ref 57, .null]) (a := 0) (as := [.int v1]) (rest := [.int (nI 0), .ref 57]) dL_proofHash_4 cl300 m141 rfl rfl rfl rfl (Nat.le_of_ble_eq_true rfl) rfl h (am_exc_1 (z := (0, 9, 12, 13)) rfl (by decide +kernel) dL_proofHash_12 rfl)) ?_
  refine Eq.trans (g_K (v := nI 1) dL_proofHash_13 rfl rfl) ?_
  exact g_iret dL_proofHash_14 rfl
theorem wx314_2 {d : Nat} {σ X : am_M} (v1 : Int32) (h : am_ex d 141 [.ref 0, .int v1] σ = rX xIS X) : am_ex (d + 1) 314 [.ref 0, .int v1, .ref 57] σ = rI (nI 2) X := by
  refine Eq.trans (am_ex_s m314 (Nat.le_of_ble_eq_true rfl) rfl) ?_
  refine Eq.trans (g_A dL_proofHash_0 rfl rfl) ?_
  refine Eq.trans (g_K (v := nI 0) dL_proofHash_1 rfl rfl) ?_
  refine Eq.trans (g_A dL_proofHash_2 rfl rfl) ?_
  refine Eq.trans (g_A dL_proofHash_3 rfl rfl) ?_
  refine Eq.trans (g_wx (pc' := 16) (lv' := [.ref 0, .int v1, .ref 57, .null]) (a := 0) (as := [.int v1]) (rest := [.int (nI 0), .ref 57]) dL_proofHash_4 cl300 m141 rfl rfl rfl rfl (Nat.le_of_ble_eq_true rfl) rfl h (am_exc_1 (z := (0, 9, 15, 15)) rfl (by decide +kernel) dL_proofHash_15 rfl)) ?_
  refine Eq.trans (g_K (v := nI 2) dL_proofHash_16 rfl rfl) ?_
  exact g_iret dL_proofHash_17 rfl
theorem wo315 {d : Nat} {σ X : am_M} {v : Int32} (v1 : Int32) (v2 : Int32) (h : am_ex d 142 [.ref 0, .int v1, .int v2] σ = rI v X) : am_ex (d + 1) 315 [.ref 0, .int v1, .int v2, .ref 57] σ = rI (nI 0) (am_wJ X 57 0 v.toInt64) := by
  refine Eq.trans (am_ex_s m315 (Nat.le_of_ble_eq_true rfl) rfl) ?_
  refine Eq.trans (g_A dL_proofHashWith_0 rfl rfl) ?_
  refine Eq.trans (g_K (v := nI 0) dL_proofHashWith_1 rfl rfl) ?_
  refine Eq.trans (g_A dL_proofHashWith_2 rfl rfl) ?_
  refine Eq.trans (g_A dL_proofHashWith_3 rfl rfl) ?_
  refine Eq.trans (g_A dL_proofHashWith_4 rfl rfl) ?_
  refine Eq.trans (g_wok (a := 0) (as := [.int v1, .int v2]) (rest := [.int (nI 0), .ref 57]) dL_proofHashWith_5 cl301 m142 rfl rfl rfl rfl (Nat.le_of_ble_eq_true rfl) rfl rfl h rfl) ?_
  refine Eq.trans (g_i2l dL_proofHashWith_8 rfl) ?_
  refine Eq.trans (g_last dL_proofHashWith_9 sh57 rfl) ?_
  refine Eq.trans (if_pos (by decide)) ?_
  refine Eq.trans (g_goto (pc' := 21) dL_proofHashWith_10 rfl) ?_
  refine Eq.trans (g_K (v := nI 0) dL_proofHashWith_21 rfl rfl) ?_
  exact g_iret dL_proofHashWith_22 rfl
theorem wx315_1 {d : Nat} {σ X : am_M} (v1 : Int32) (v2 : Int32) (h : am_ex d 142 [.ref 0, .int v1, .int v2] σ = rX xIO X) : am_ex (d + 1) 315 [.ref 0, .int v1, .int v2, .ref 57] σ = rI (nI 1) X := by
  refine Eq.trans (am_ex_s m315 (Nat.le_of_ble_eq_true rfl) rfl) ?_
  refine Eq.trans (g_A dL_proofHashWith_0 rfl rfl) ?_
  refine Eq.trans (g_K (v := nI 0) dL_proofHashWith_1 rfl rfl) ?_
  refine Eq.trans (g_A dL_proofHashWith_2 rfl rfl) ?_
  refine Eq.trans (g_A dL_proofHashWith_3 rfl rfl) ?_
  refine Eq.trans (g_A dL_proofHashWith_4 rfl rfl) ?_
  refine Eq.trans (g_wx (pc' := 15) (lv' := [.ref 0, .int v1, .int v2, .ref 57, .null]) (a := 0) (as := [.int v1, .int v2]) (rest := [.int (nI 0), .ref 57]) dL_proofHashWith_5 cl301 m142 rfl rfl rfl rfl (Nat.le_of_ble_eq_true rfl) rfl h (am_exc_2 (z := (0, 10, 13, 13)) rfl (by decide +kernel) dL_proofHashWith_13 rfl)) ?_
  refine Eq.trans (g_K (v := nI 1) dL_proofHashWith_15 rfl rfl) ?_
  exact g_iret dL_proofHashWith_16 rfl
theorem wx315_2 {d : Nat} {σ X : am_M} (v1 : Int32) (v2 : Int32) (h : am_ex d 142 [.ref 0, .int v1, .int v2] σ = rX xIS X) : am_ex (d + 1) 315 [.ref 0, .int v1, .int v2, .ref 57] σ = rI (nI 2) X := by
  refine Eq.trans (am_ex_s m315 (Nat.le_of_ble_eq_true rfl) rfl) ?_
  refine Eq.trans (g_A dL_proofHashWith_0 rfl rfl) ?_
  refine Eq.trans (g_K (v := nI 0) dL_proofHashWith_1 rfl rfl) ?_
  refine Eq.trans (g_A dL_proofHashWith_2 rfl rfl) ?_
  refine Eq.trans (g_A dL_proofHashWith_3 rfl rfl) ?_
  refine Eq.trans (g_A dL_proofHashWith_4 rfl rfl) ?_
  refine Eq.trans (g_wx (pc' := 19) (lv' := [.ref 0, .int v1, .int v2, .ref 57, .null]) (a := 0) (as := [.int v1, .int v2]) (rest := [.int (nI 0), .ref 57]) dL_proofHashWith_5 cl301 m142 rfl rfl rfl rfl (Nat.le_of_ble_eq_true rfl) rfl h (am_exc_2 (z := (0, 10, 17, 15)) rfl (by decide +kernel) dL_proofHashWith_17 rfl)) ?_
  refine Eq.trans (g_K (v := nI 2) dL_proofHashWith_19 rfl rfl) ?_
  exact g_iret dL_proofHashWith_20 rfl
