/-! the tables' rows are words of the claim's own tables -/
def am_cw (M : am_Mt) : Cond := match M.2.2.2.2.1 with
  | [] => .code M.1 M.2.1 M.2.2.1 M.2.2.2.1
  | q :: qs => .codeWith M.1 M.2.1 M.2.2.1 M.2.2.2.1 (q :: qs)
def am_hok (c : String) (z : Nat × Nat × Nat × Nat) : Bool := decide (Cond.classLink c z.2.2.2 (am_cln z.2.2.2) ∈ lw_tbl) && decide (z.2.2.2 ≠ 0)
set_option maxRecDepth 100000 in
theorem am_mlk_0 : am_mlp_0.all (fun q => am_at q.2 (am_cw q.1)) = true := by decide +kernel
set_option maxRecDepth 100000 in
theorem am_mlk_1 : am_mlp_1.all (fun q => am_at q.2 (am_cw q.1)) = true := by decide +kernel
set_option maxRecDepth 100000 in
theorem am_mlk_2 : am_mlp_2.all (fun q => am_at q.2 (am_cw q.1)) = true := by decide +kernel
set_option maxRecDepth 100000 in
theorem am_mlk_3 : am_mlp_3.all (fun q => am_at q.2 (am_cw q.1)) = true := by decide +kernel
set_option maxRecDepth 100000 in
theorem am_mlk_4 : am_mlp_4.all (fun q => am_at q.2 (am_cw q.1)) = true := by decide +kernel
set_option maxRecDepth 100000 in
theorem am_mlk_5 : am_mlp_5.all (fun q => am_at q.2 (am_cw q.1)) = true := by decide +kernel
set_option maxRecDepth 100000 in
theorem am_mlk_6 : am_mlp_6.all (fun q => am_at q.2 (am_cw q.1)) = true := by decide +kernel
set_option maxRecDepth 100000 in
theorem am_mlk_7 : am_mlp_7.all (fun q => am_at q.2 (am_cw q.1)) = true := by decide +kernel
set_option maxRecDepth 100000 in
theorem am_mlk_8 : am_mlp_8.all (fun q => am_at q.2 (am_cw q.1)) = true := by decide +kernel
set_option maxRecDepth 100000 in
theorem am_mlk_9 : am_mlp_9.all (fun q => am_at q.2 (am_cw q.1)) = true := by decide +kernel
set_option maxRecDepth 100000 in
theorem am_mlk_10 : am_mlp_10.all (fun q => am_at q.2 (am_cw q.1)) = true := by decide +kernel
set_option maxRecDepth 100000 in
theorem am_mlk_11 : am_mlp_11.all (fun q => am_at q.2 (am_cw q.1)) = true := by decide +kernel
set_option maxRecDepth 100000 in
theorem am_mlk_12 : am_mlp_12.all (fun q => am_at q.2 (am_cw q.1)) = true := by decide +kernel
set_option maxRecDepth 100000 in
theorem am_mlk_13 : am_mlp_13.all (fun q => am_at q.2 (am_cw q.1)) = true := by decide +kernel
set_option maxRecDepth 100000 in
theorem am_mlk_14 : am_mlp_14.all (fun q => am_at q.2 (am_cw q.1)) = true := by decide +kernel
set_option maxRecDepth 100000 in
theorem am_mlk_15 : am_mlp_15.all (fun q => am_at q.2 (am_cw q.1)) = true := by decide +kernel
theorem am_ml_ok1 : am_mlp.all (fun q => am_at q.2 (am_cw q.1)) = true := by
  unfold am_mlp
  simp only [List.all_append, Bool.and_eq_true]
  exact ⟨am_mlk_0, ⟨am_mlk_1, ⟨am_mlk_2, ⟨am_mlk_3, ⟨am_mlk_4, ⟨am_mlk_5, ⟨am_mlk_6, ⟨am_mlk_7, ⟨am_mlk_8, ⟨am_mlk_9, ⟨am_mlk_10, ⟨am_mlk_11, ⟨am_mlk_12, ⟨am_mlk_13, ⟨am_mlk_14, am_mlk_15⟩⟩⟩⟩⟩⟩⟩⟩⟩⟩⟩⟩⟩⟩⟩
set_option maxRecDepth 100000 in
theorem am_ml_ok2 : am_ml.all (fun M => goodWord (am_cw M) && (decide (M.1.cls ≠ "java/lang/invoke/MethodHandle") && (decide (M.1.cls ≠ "java/lang/invoke/VarHandle") && (decide ((parseMethodDescriptor M.1.desc).map (fun d => d.parameters.length) = some M.2.2.2.2.2) && (plainName M.1.cls && decide (M.2.2.1 ≤ 41)))))) = true := by decide +kernel
set_option maxRecDepth 100000 in
theorem am_ml_ok3 : am_ml.all (fun M => M.2.2.2.2.1.all (am_hok M.1.cls)) = true := by decide +kernel
def am_cok2 (q : String × Nat × Nat × Nat × Nat × Nat × Nat × Nat) : Bool := match am_ml[q.2.2.2.1]? with
  | none => false
  | some N => if q.2.2.1 == 0 then am_at q.2.2.2.2.1 (.methodLink q.1 q.2.1 N.1) && (am_at q.2.2.2.2.2.1 (.instanceMethod N.1) && (am_at q.2.2.2.2.2.2.1 (.selects N.1.cls N.1 N.1) && (am_at q.2.2.2.2.2.2.2 (.initialized N.1.cls) && N.2.2.2.2.1.isEmpty)))
    else if q.2.2.1 == 1 then am_at q.2.2.2.2.1 (.methodLink q.1 q.2.1 N.1) && (am_at q.2.2.2.2.2.1 (.static N.1) && am_at q.2.2.2.2.2.2.2 (.initialized N.1.cls))
    else q.2.2.1 == 2 && (am_at q.2.2.2.2.1 (.methodLinkNest q.1 q.2.1 N.1 "KeyArchive") && (am_at q.2.2.2.2.2.1 (.static N.1) && (am_at q.2.2.2.2.2.2.2 (.initialized N.1.cls) && N.2.2.2.2.1.isEmpty)))
set_option maxRecDepth 100000 in
theorem am_ctk_0 : am_ct_0.all am_cok2 = true := by decide +kernel
set_option maxRecDepth 100000 in
theorem am_ctk_1 : am_ct_1.all am_cok2 = true := by decide +kernel
set_option maxRecDepth 100000 in
theorem am_ctk_2 : am_ct_2.all am_cok2 = true := by decide +kernel
set_option maxRecDepth 100000 in
theorem am_ctk_3 : am_ct_3.all am_cok2 = true := by decide +kernel
set_option maxRecDepth 100000 in
theorem am_ctk_4 : am_ct_4.all am_cok2 = true := by decide +kernel
set_option maxRecDepth 100000 in
theorem am_ctk_5 : am_ct_5.all am_cok2 = true := by decide +kernel
set_option maxRecDepth 100000 in
theorem am_ctk_6 : am_ct_6.all am_cok2 = true := by decide +kernel
set_option maxRecDepth 100000 in
theorem am_ctk_7 : am_ct_7.all am_cok2 = true := by decide +kernel
set_option maxRecDepth 100000 in
theorem am_ctk_8 : am_ct_8.all am_cok2 = true := by decide +kernel
set_option maxRecDepth 100000 in
theorem am_ctk_9 : am_ct_9.all am_cok2 = true := by decide +kernel
set_option maxRecDepth 100000 in
theorem am_ctk_10 : am_ct_10.all am_cok2 = true := by decide +kernel
set_option maxRecDepth 100000 in
theorem am_ctk_11 : am_ct_11.all am_cok2 = true := by decide +kernel
set_option maxRecDepth 100000 in
theorem am_ctk_12 : am_ct_12.all am_cok2 = true := by decide +kernel
set_option maxRecDepth 100000 in
theorem am_ctk_13 : am_ct_13.all am_cok2 = true := by decide +kernel
set_option maxRecDepth 100000 in
theorem am_ctk_14 : am_ct_14.all am_cok2 = true := by decide +kernel
set_option maxRecDepth 100000 in
theorem am_ctk_15 : am_ct_15.all am_cok2 = true := by decide +kernel
theorem am_ct_ok : am_ct.all am_cok2 = true := by
  unfold am_ct
  simp only [List.all_append, Bool.and_eq_true]
  exact ⟨am_ctk_0, ⟨am_ctk_1, ⟨am_ctk_2, ⟨am_ctk_3, ⟨am_ctk_4, ⟨am_ctk_5, ⟨am_ctk_6, ⟨am_ctk_7, ⟨am_ctk_8, ⟨am_ctk_9, ⟨am_ctk_10, ⟨am_ctk_11, ⟨am_ctk_12, ⟨am_ctk_13, ⟨am_ctk_14, am_ctk_15⟩⟩⟩⟩⟩⟩⟩⟩⟩⟩⟩⟩⟩⟩⟩
def am_nw (w : Cond) : Bool := match w with
  | .methodLinkNest .. => true
  | .declares .. => true
  | .castable .. => true
  | _ => false
def am_NW : List Cond := lw_tbl.filter am_nw
def am_exn : List String := ["java/lang/RuntimeException", "java/lang/Exception"]
def am_xs : List (Nat × String) := [(114, "java/lang/IllegalStateException"), (286, "java/lang/IndexOutOfBoundsException"), (223, "java/lang/IllegalArgumentException")]
def am_xok (ic : Nat) (E : String) : Bool := Bundle.fit E && ((vx_atS "KeyArchive" ic E am_exn).all (fun w => decide (w ∈ lw_tbl) && (goodWord w || am_nw w)))
set_option maxRecDepth 100000 in
theorem am_xs_ok : am_xs.all (fun q => am_xok q.1 q.2) = true := by decide +kernel
set_option maxRecDepth 100000 in
theorem am_xt_ok : am_xt.all (fun q => q.1 == "KeyArchive" && ((decide ((q.2.2.2.1, q.2.2.2.2.1) ∈ am_xs) || (q.2.2.2.1 == 154 && q.2.2.2.2.1 == "java/util/NoSuchElementException")) && (am_at q.2.2.2.2.2.2.1 (.classLink q.1 q.2.1 q.2.2.2.2.1) && am_at q.2.2.2.2.2.2.2.1 (.initialized q.2.2.2.2.1)))) = true := by decide +kernel
theorem am_fit_n : ∀ n ∈ am_exn, Bundle.fit n = true := by decide +kernel
