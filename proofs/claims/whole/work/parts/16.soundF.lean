/-! a step, a run, a method, all methods -/
theorem am_fD_k {X : am_X} {c : String} {i : Instr} {len : Nat} {st st' : List Value} {σ σ' : am_M} (h : am_fD X c i len st σ = some (st', σ')) : σ'.2.2 = σ.2.2 := by
  have oI : ∀ (r : List Value) (v : Option Int32), am_oI r σ v = some (st', σ') → σ'.2.2 = σ.2.2 := by
    intro r v h
    unfold am_oI at h
    split at h
    · cases h; rfl
    · cases h
  have wr : ∀ (z a : Nat) (j x : Int32) (r : List Value), am_oM r (am_wr z σ a j x) = some (st', σ') → σ'.2.2 = σ.2.2 := by
    intro z a j x r h
    unfold am_oM am_wr at h
    split at h
    · rename_i h9
      cases h
      split at h9
      · split at h9
        · cases h9; rfl
        · cases h9
      · cases h9
    · cases h
  unfold am_fD at h
  split at h
  · split at h
    · split at h
      · cases h; rfl
      · cases h
    · cases h
  · split at h
    · unfold am_oM am_pf at h
      split at h
      · rename_i h9
        cases h
        split at h9
        · cases h9
        · split at h9
          · split at h9
            · split at h9
              · cases h9; rfl
              · cases h9
            · cases h9
          · cases h9
      · cases h
    · cases h
  · split at h
    · cases h; rfl
    · cases h
  · split at h
    · exact oI _ _ h
    · cases h
  · split at h
    · exact oI _ _ h
    · cases h
  · split at h
    · split at h
      · cases h; rfl
      · cases h
    · cases h
  · split at h
    · exact wr _ _ _ _ _ h
    · cases h
  · split at h
    · exact wr _ _ _ _ _ h
    · cases h
  · split at h
    · unfold am_oM am_wrJ at h
      split at h
      · rename_i h9
        cases h
        split at h9
        · split at h9
          · cases h9; rfl
          · cases h9
        · cases h9
      · cases h
    · cases h
  · split at h
    · exact oI _ _ h
    · cases h
  · split at h
    · split at h
      · split at h
        · cases h; rfl
        · cases h
      · cases h
    · cases h
  · cases h
theorem am_inv_spec {kd : Bool} {C : am_C} {M : am_Mt} {k pc : Nat} {lv st : List Value} {σ : am_M} {x : (am_R × am_M) ⊕ am_P} (h : am_inv kd C M k pc lv st σ = some x) :
    ∃ (q : String × Nat × Nat × Nat × Nat × Nat × Nat × Nat) (N : am_Mt) (as rest : List Value), am_cal M.1.cls k = some q ∧ am_ml[q.2.2.2.1]? = some N ∧ (q.2.2.1 == 0) = kd ∧ st = as.reverse ++ rest ∧ as.length = N.2.2.2.2.2 + (if kd then 1 else 0) ∧ am_cat rest ≤ 8 ∧ (kd = true → ∃ a as', as = .ref a :: as' ∧ am_isO a N.1.cls = true) ∧ am_aft N.2.2.2.1 (q.2.2.1 == 2) M pc lv rest (C q.2.2.2.1 as σ) = some x := by
  unfold am_inv at h
  split at h
  · cases h
  · rename_i q hq
    split at h
    · cases h
    · rename_i N hN
      obtain ⟨hk, h⟩ := Option.ite_none_right_eq_some.mp h
      simp only [beq_iff_eq] at hk
      obtain ⟨hc, h⟩ := Option.ite_none_right_eq_some.mp h
      simp only [Bool.and_eq_true, decide_eq_true_eq] at hc
      refine ⟨q, N, (st.take (N.2.2.2.2.2 + (if kd then 1 else 0))).reverse, st.drop (N.2.2.2.2.2 + (if kd then 1 else 0)), hq, hN, hk, am_take rfl, ?_, hc.2, ?_, ?_⟩
      · simp only [List.length_reverse, List.length_take]
        omega
      · intro hkd
        subst hkd
        cases hz : (st.take (N.2.2.2.2.2 + (if true = true then 1 else 0))).reverse with
        | nil => rw [hz] at h; cases h
        | cons x0 xs =>
          rw [hz] at h
          cases x0 with
          | ref a =>
            obtain ⟨hO, h⟩ := Option.ite_none_right_eq_some.mp h
            exact ⟨a, xs, rfl, hO⟩
          | _ => cases h
      · cases kd with
        | false => exact h
        | true =>
          have h2 : (q.2.2.1 == 2) = false := by
            have h7 : q.2.2.1 = 0 := by simpa using hk
            rw [h7]; rfl
          rw [h2]
          cases hz : (st.take (N.2.2.2.2.2 + (if true = true then 1 else 0))).reverse with
          | nil => rw [hz] at h; cases h
          | cons x0 xs =>
            rw [hz] at h
            cases x0 with
            | ref a =>
              obtain ⟨hO, h⟩ := Option.ite_none_right_eq_some.mp h
              exact h
            | _ => cases h
def am_xk (x : (am_R × am_M) ⊕ am_P) : Nat := match x with
  | .inl r => r.2.2.2
  | .inr q => q.2.2.2.2.2
section AMG
variable {p : Program} {l : Launch} {e : Env} {R : Room} {s : State} {m : MethodId} {args : Array Value} {below : List Frame} {meth : Method} {c : Code} {H : Heap} {locs : List Loc} {cells slots : Nat} {Q : State → Prop}
variable {ad : Nat → Nat} {cA : Nat → ClassId} {D : va_G} {A : Nat → Prop} {X : am_X} {C : am_C} {M : am_Mt} {d pc : Nat} {ls : Array Slot} {lv st : List Value} {σ σ' : am_M}
/-- the memory's count of exceptions never falls -/
theorem am_nxt_k (hSp : am_Sp l D cA ad A d C) {x : (am_R × am_M) ⊕ am_P} (h : am_nxt X C M pc lv st σ = some x) : σ.2.2 ≤ am_xk x := by
  have aft : ∀ (rt : Option FieldType) (nx : Bool) (q : Nat) (N : am_Mt) (as rest : List Value), am_ml[q]? = some N → am_aft rt nx M pc lv rest (C q as σ) = some x → σ.2.2 ≤ am_xk x := by
    intro rt nx q N as rest hN h
    unfold am_aft at h
    split at h
    · cases h
    · rename_i v σ9 h9
      obtain ⟨-, h⟩ := Option.ite_none_right_eq_some.mp h
      cases h
      exact (hSp _ _ _ _ _ N h9 hN).1
    · rename_i E σ9 h9
      have hm := (hSp _ _ _ _ _ N h9 hN).1
      split at h
      · cases h
      · unfold am_exc at h
        split at h
        · cases h; exact hm
        · split at h
          · cases h
          · split at h
            · split at h
              · cases h; exact hm
              · cases h
            · split at h
              · cases h; exact hm
              · cases h
            · cases h
  unfold am_nxt at h
  split at h
  · cases h
  · split at h
    · cases h; exact Nat.le_refl _
    · split at h
      · cases h; exact Nat.le_refl _
      · split at h
        · cases h; exact Nat.le_refl _
        · split at h
          · rename_i h9; cases h; exact Nat.le_of_eq (am_fD_k h9).symm
          · unfold am_fE at h
            have new : ∀ (ik is ic : Nat), am_new M ik is ic st σ = some x → σ.2.2 ≤ am_xk x := by
              intro ik is ic h
              unfold am_new at h
              split at h
              · split at h
                · split at h
                  · cases h; exact Nat.le_succ _
                  · cases h
                · cases h
              · cases h
            split at h
            · obtain ⟨q, N, as, rest, -, hN, -, -, -, -, -, h9⟩ := am_inv_spec h
              exact aft _ _ _ N _ _ hN h9
            · obtain ⟨q, N, as, rest, -, hN, -, -, -, -, -, h9⟩ := am_inv_spec h
              exact aft _ _ _ N _ _ hN h9
            · split at h
              · obtain ⟨-, h⟩ := Option.ite_none_right_eq_some.mp h
                cases h; exact Nat.le_refl _
              · cases h
            · split at h
              · obtain ⟨-, h⟩ := Option.ite_none_right_eq_some.mp h
                cases h; exact Nat.le_refl _
              · cases h
            · split at h
              · obtain ⟨-, h⟩ := Option.ite_none_right_eq_some.mp h
                cases h; exact Nat.le_refl _
              · cases h
            · obtain ⟨-, h⟩ := Option.ite_none_right_eq_some.mp h
              split at h
              · split at h
                · obtain ⟨-, h⟩ := Option.ite_none_right_eq_some.mp h
                  exact new _ _ _ h
                · cases h
              · split at h
                · obtain ⟨-, h⟩ := Option.ite_none_right_eq_some.mp h
                  exact new _ _ _ h
                · cases h
              · cases h
            · cases h
theorem am_run_k (hSp : am_Sp l D cA ad A d C) : ∀ (n pc : Nat) (lv st : List Value) (σ : am_M) (r : am_R × am_M), am_run X C M n pc lv st σ = some r → σ.2.2 ≤ r.2.2.2 := by
  intro n
  induction n with
  | zero => intro pc lv st σ r h; simp [am_run] at h
  | succ n ih =>
    intro pc lv st σ r h
    unfold am_run at h
    split at h
    · cases h
    · rename_i r9 h9
      cases h
      exact am_nxt_k hSp h9
    · rename_i q h9
      exact Nat.le_trans (am_nxt_k hSp h9) (ih _ _ _ _ _ h)
set_option maxHeartbeats 4000000 in
theorem am_step (hC : am_Cx p l R s m args meth c M D cA ad A d) (hX : am_Xo ad A X s) (hSp : am_Sp l D cA ad A d C) (hl : lv_has ls M.2.2.1 (am_lvl ad lv)) (hn : lv.length = M.2.2.1) (hP : va_P D vwCl (am_ws ad cA σ) H) (hS : va_S A s.heap H locs) {q : am_P} (h : am_nxt X C M pc lv st σ = some (.inr q))
    (hcap : cells + (q.2.2.2.2.2 - σ.2.2) ≤ R.cells ∧ slots + 6 * (q.2.2.2.2.2 - σ.2.2) ≤ R.slots)
    (kk : ∀ (ls' : Array Slot) (H1 : Heap) (locs1 : List Loc), lv_has ls' M.2.2.1 (am_lvl ad q.2.1) → q.2.1.length = M.2.2.1 → va_P D vwCl (am_ws ad cA q.2.2.2) H1 → va_S A s.heap H1 locs1 → W p l e R s m args below meth c H1 locs1 (cells + (q.2.2.2.2.2 - σ.2.2)) (slots + 6 * (q.2.2.2.2.2 - σ.2.2)) Q (F0 m q.1 ls' (q.2.2.1.map (am_cv ad)))) :
    W p l e R s m args below meth c H locs cells slots Q (F0 m pc ls (st.map (am_cv ad))) := by
  obtain ⟨⟨hx, hb, hml, hown, hts⟩, ⟨hlocks, hret, hE1, hE2, hhh⟩, ⟨hK, hZw, hZo, hZt, hA, hD⟩, htr, hRf, hRl⟩ := id hC
  unfold am_nxt at h
  split at h
  · cases h
  · rename_i i len hd
    split at h
    · rename_i lv' st' h9
      cases h
      simp only [Nat.sub_self, Nat.mul_zero, Nat.add_zero] at kk
      exact am_sA hx hb hown hts hd h9 hl hn (fun ls' h1 h2 => kk ls' H locs h1 h2 hP hS)
    · split at h
      · rename_i st' h9
        cases h
        simp only [Nat.sub_self, Nat.mul_zero, Nat.add_zero] at kk
        exact am_sB hx hb hd h9 (kk ls H locs hl hn hP hS)
      · split at h
        · rename_i pc' st' h9
          cases h
          simp only [Nat.sub_self, Nat.mul_zero, Nat.add_zero] at kk
          exact am_sC hx hb hd h9 (kk ls H locs hl hn hP hS)
        · split at h
          · rename_i st' σ9 h9
            cases h
            have hk0 : σ9.2.2 = σ.2.2 := am_fD_k h9
            simp only [hk0, Nat.sub_self, Nat.mul_zero, Nat.add_zero] at kk hcap
            exact am_sD hx hb (by rw [hml]; exact hl.1) ⟨by omega, by omega, hcap.1, hcap.2⟩ hown hts hK hD hZo hX hP hS hd h9 (fun H1 locs1 h1 h2 => kk ls H1 locs1 hl hn h1 h2)
          · have call : ∀ (kd : Bool) (idx : Nat), decode M.2.1 pc = .ok (if kd then .invokevirtual idx else .invokestatic idx, 3) → am_inv kd C M idx pc lv st σ = some (.inr q) → W p l e R s m args below meth c H locs cells slots Q (F0 m pc ls (st.map (am_cv ad))) := by
              intro kd idx hd h
              obtain ⟨z, N, as, rest, hz, hN, hk, hst, hlen, hcat, hrecv, h9⟩ := am_inv_spec h
              unfold am_aft at h9
              split at h9
              · cases h9
              · rename_i v σ9 hc
                obtain ⟨-, h9⟩ := Option.ite_none_right_eq_some.mp h9
                cases h9
                exact am_callR hC hSp hl.1 hP hS hd hz hN hk hst hlen hcat hrecv hc hcap (fun H1 locs1 h1 h2 => kk ls H1 locs1 hl hn h1 h2)
              · rename_i E σ9 hc
                split at h9
                · cases h9
                · rename_i hk2
                  have hk2 : (z.2.2.1 == 2) = false := by simpa using hk2
                  unfold am_exc at h9
                  split at h9
                  · cases h9
                  · rename_i q0 qs hh
                    split at h9
                    · cases h9
                    · rename_i z9 hf
                      have hne : M.2.2.2.2.1 ≠ [] := by rw [hh]; exact fun h => by cases h
                      have htab := hE2 hne
                      obtain ⟨hp9, as9, bs9, hsp, hall⟩ := List.find?_eq_some_iff_append.mp hf
                      simp only [Bool.and_eq_true, decide_eq_true_eq, beq_iff_eq] at hp9
                      obtain ⟨hp1, hp2, hp3⟩ := hp9
                      have hzm : z9 ∈ M.2.2.2.2.1 := by rw [hh, hsp]; simp
                      have hcatch : ∀ (qa : Addr) (ce : Cell) (H1 : Heap) (locs1 : List Loc) (k n : Nat), H1[qa]? = some ce → ce.vm = .none → s.vm.findClass E = some ce.cls → W p l e R s m args below meth c H1 locs1 k n Q (F0 m z9.2.2.1 ls [.ref qa]) → vx_W p l e R s m args below meth c H1 locs1 k n Q (F0 m pc ls (rest.map (am_cv ad))) qa := by
                        intro qa ce H1 locs1 k n g1 g2 g3 g4
                        refine vx_catch (own := M.1.cls) (name := E) hown (tableOf as9) ⟨z9.1, z9.2.1, z9.2.2.1, z9.2.2.2⟩ (tableOf bs9) (by rw [htab, hh, hsp]; simp [tableOf]) ?_ ?_ (hhh z9 hzm).2 ?_ ?_ g1 g2 g3 g4
                        · intro y hy
                          unfold tableOf at hy
                          obtain ⟨y9, hy9, rfl⟩ := List.mem_map.mp hy
                          have hno := hall y9 hy9
                          have hym : y9 ∈ M.2.2.2.2.1 := by rw [hh, hsp]; simp [hy9]
                          by_cases hc1 : y9.1 ≤ pc ∧ pc < y9.2.1
                          · right
                            refine ⟨(hhh y9 hym).2, am_cln y9.2.2.2, hts _ (hhh y9 hym).1, ?_⟩
                            rw [← hp3]
                            refine hZw.2.2 _ _ (fun he => ?_)
                            simp only [Bool.not_eq_true', Bool.and_eq_false_iff, decide_eq_false_iff_not, beq_eq_false_iff_ne] at hno
                            rcases hno with h1 | h1 | h1
                            · exact h1 hc1.1
                            · exact h1 hc1.2
                            · exact h1 (by rw [← he, hp3])
                          · left
                            simp only [covers, Bool.and_eq_false_iff, decide_eq_false_iff_not]
                            omega
                        · simp only [covers, Bool.and_eq_true, decide_eq_true_eq]
                          exact ⟨hp1, hp2⟩
                        · have := hts _ (hhh z9 hzm).1
                          rw [hp3] at this
                          exact this
                        · have hcst : Cond.castable E E ∈ am_NW := by
                            rw [← hp3]
                            exact am_cst z9.2.2.2
                          exact va_Nw.use rfl (hZw.1 _ hcst)
                      split at h9
                      · rename_i k9 hdh
                        split at h9
                        · rename_i lv9 hst9
                          cases h9
                          refine am_callX hC hSp hl.1 hP hS hd hz hN hk hk2 hst hlen hcat hrecv hc hcap (fun qa ce H1 locs1 g1 g2 g3 g4 g5 => hcatch qa ce H1 locs1 _ _ g3 g4 g5 ?_)
                          refine lv_astore_n hx hb hdh rfl hl (hn ▸ (am_st1_spec hst9).1) rfl (fun ls' h' => ?_)
                          obtain ⟨a1, a2⟩ := am_st1_has (ad := ad) hst9 (fun z => absurd rfl z) h'
                          exact kk ls' H1 locs1 a1 (a2.trans hn) g1 g2
                        · cases h9
                      · rename_i k9 hdh
                        split at h9
                        · rename_i lv9 hst9
                          cases h9
                          refine am_callX hC hSp hl.1 hP hS hd hz hN hk hk2 hst hlen hcat hrecv hc hcap (fun qa ce H1 locs1 g1 g2 g3 g4 g5 => hcatch qa ce H1 locs1 _ _ g3 g4 g5 ?_)
                          refine lv_astore hx hb hdh hl (hn ▸ (am_st1_spec hst9).1) rfl (fun ls' h' => ?_)
                          obtain ⟨a1, a2⟩ := am_st1_has (ad := ad) hst9 (fun z => absurd rfl z) h'
                          exact kk ls' H1 locs1 a1 (a2.trans hn) g1 g2
                        · cases h9
                      · cases h9
            have nonew : ∀ (ik is ic : Nat), am_new M ik is ic st σ = some (.inr q) → False := by
              intro ik is ic h
              unfold am_new at h
              split at h
              · split at h
                · split at h
                  · cases h
                  · cases h
                · cases h
              · cases h
            unfold am_fE at h
            split at h
            · exact call true _ hd h
            · exact call false _ hd h
            · split at h
              · split at h <;> cases h
              · cases h
            · split at h
              · split at h <;> cases h
              · cases h
            · split at h
              · split at h <;> cases h
              · cases h
            · split at h
              · split at h
                · split at h
                  · split at h
                    · exact (nonew _ _ _ h).elim
                    · cases h
                  · cases h
                · split at h
                  · split at h
                    · exact (nonew _ _ _ h).elim
                    · cases h
                  · cases h
                · cases h
              · cases h
            · cases h
/-- a run, to its end -/
theorem am_run_sound (hC : am_Cx p l R s m args meth c M D cA ad A d) (hX : am_Xo ad A X s) (hSp : am_Sp l D cA ad A d C) {res : am_R} {σf : am_M} {cf sf : Nat} (hcf : cf ≤ R.cells ∧ sf ≤ R.slots)
    (hterm : ∀ (pc : Nat) (lv st : List Value) (σ : am_M) (ls : Array Slot) (H : Heap) (locs : List Loc) (k n : Nat), am_nxt X C M pc lv st σ = some (.inl (res, σf)) → lv_has ls M.2.2.1 (am_lvl ad lv) → lv.length = M.2.2.1 → va_P D vwCl (am_ws ad cA σ) H → va_S A s.heap H locs → k + (σf.2.2 - σ.2.2) = cf → n + 6 * (σf.2.2 - σ.2.2) = sf → W p l e R s m args below meth c H locs k n Q (F0 m pc ls (st.map (am_cv ad)))) :
    ∀ (n pc : Nat) (lv st : List Value) (σ : am_M) (ls : Array Slot) (H : Heap) (locs : List Loc) (k n9 : Nat), am_run X C M n pc lv st σ = some (res, σf) → lv_has ls M.2.2.1 (am_lvl ad lv) → lv.length = M.2.2.1 → va_P D vwCl (am_ws ad cA σ) H → va_S A s.heap H locs → k + (σf.2.2 - σ.2.2) = cf → n9 + 6 * (σf.2.2 - σ.2.2) = sf → W p l e R s m args below meth c H locs k n9 Q (F0 m pc ls (st.map (am_cv ad))) := by
  intro n
  induction n with
  | zero => intro pc lv st σ ls H locs k n9 h; simp [am_run] at h
  | succ n ih =>
    intro pc lv st σ ls H locs k n9 h hl hn hP hS h1 h2
    unfold am_run at h
    split at h
    · cases h
    · rename_i r9 h9
      cases h
      exact hterm _ _ _ _ _ _ _ _ _ h9 hl hn hP hS h1 h2
    · rename_i q h9
      have m1 := am_nxt_k hSp h9
      have m1 : σ.2.2 ≤ q.2.2.2.2.2 := m1
      have m2 := am_run_k hSp _ _ _ _ _ _ h
      have m2 : q.2.2.2.2.2 ≤ σf.2.2 := m2
      refine am_step hC hX hSp hl hn hP hS h9 ⟨by omega, by omega⟩ (fun ls' H1 locs1 g1 g2 g3 g4 => ?_)
      exact ih _ _ _ _ _ _ _ _ _ h g1 g2 g3 g4 (by omega) (by omega)
end AMG
