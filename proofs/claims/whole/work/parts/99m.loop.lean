/-! the law's loop -/
section LLP
theorem and63 (x : Int32) : ∃ k, k < 64 ∧ x &&& nI 63 = nI k := by
  refine ⟨(x &&& nI 63).toInt.toNat, ?_, ?_⟩
  all_goals
    have h1 : (x &&& nI 63).toBitVec = x.toBitVec &&& 63#32 := rfl
    have h2 : (x &&& nI 63).toBitVec.toNat ≤ 63 := by
      rw [h1, BitVec.toNat_and]
      exact Nat.and_le_right
    have h3 : (x &&& nI 63).toInt = ((x &&& nI 63).toBitVec.toNat : Int) := by
      show (x &&& nI 63).toBitVec.toInt = _
      rw [BitVec.toInt_eq_toNat_of_lt (by omega)]
  · omega
  · rw [i_eq, i_n (by omega)]; omega
theorem law_step (d : Nat) {Xs : am_X} {N n c : Nat} (hN : Xs.1 = N + 1) (hN2 : N ≤ 2048) (hn : 4 * n + 4 ≤ N) {σ : am_M} (h : IvE c σ) (hc : c < 570) {u5 u6 : Value} : ∃ u5' u6' Y, am_go Xs (am_ex (d + 9)) ML 23 [.ref 1001, .ref 0, .ref 34, .ref 57, .int (nI (4 * n)), u5, u6, .null] [] σ = am_go Xs (am_ex (d + 9)) ML 23 [.ref 1001, .ref 0, .ref 34, .ref 57, .int (nI (4 * (n + 1))), u5', u6', .null] [] Y ∧ IvK (c + 1) σ Y := by
  have hX : 0 < Xs.1 := by omega
  have e0 : Xs.1 - 1 = N := by omega
  have ad : ∀ j, j ≤ 4 → nI (4 * n) + nI j = nI (4 * n + j) := fun j hj => nI_add _ _
  have inn : ∀ j, j < 4 → am_in (nI (4 * n) + nI j) (Xs.1 - 1) = true := fun j hj => by
    rw [ad j (by omega), e0, am_in_R]
    exact inR_n (by omega) (by omega)
  have hlt : ¬ (nI (Xs.1 - 1) - nI 4 < nI (4 * n)) := by
    rw [e0, show nI N - nI 4 = nI (N - 4) from nI_sub (by omega) (by omega), i_lt, i_n (by omega), i_n (by omega)]
    omega
  have h0 : am_in (nI (4 * n)) (Xs.1 - 1) = true := by
    rw [e0, am_in_R]
    exact inR_n (by omega) (by omega)
  obtain ⟨k, hk, ek⟩ := and63 (Xs.2 (nI (4 * n)).toNatClampNeg)
  obtain ⟨u5', u6', Y, e, hY⟩ := law_case d hX h hc (nI (4 * n)) (inn 1 (by omega)) (inn 2 (by omega)) (inn 3 (by omega)) (u5 := u5) (u6 := u6) k hk
  refine ⟨u5', u6', Y, ?_, hY⟩
  rw [ql_23 hX, if_neg hlt, if_pos h0, ek, e, ql_2785 hX, ad 4 (by omega)]
  rfl
theorem law_loop (d : Nat) {Xs : am_X} {N : Nat} (hN : Xs.1 = N + 1) (hN2 : N ≤ 2048) : ∀ (m n c : Nat) (σ : am_M) (u5 u6 : Value), N < 4 * n + 4 * (m + 1) → 4 * n ≤ N → c + m < 570 → IvE c σ → ∃ Y, am_go Xs (am_ex (d + 9)) ML 23 [.ref 1001, .ref 0, .ref 34, .ref 57, .int (nI (4 * n)), u5, u6, .null] [] σ = some (.inl (some (.int (nI 1))), Y) ∧ Y.2.2 ≤ σ.2.2 + m := by
  have hX : 0 < Xs.1 := by omega
  have e0 : Xs.1 - 1 = N := by omega
  have fin : ∀ (n : Nat) (σ : am_M) (u5 u6 : Value), N < 4 * n + 4 → 4 * n ≤ N → ∃ Y, am_go Xs (am_ex (d + 9)) ML 23 [.ref 1001, .ref 0, .ref 34, .ref 57, .int (nI (4 * n)), u5, u6, .null] [] σ = some (.inl (some (.int (nI 1))), Y) ∧ Y.2.2 ≤ σ.2.2 + 0 := fun n σ u5 u6 h1 h2 => by
    have hlt : nI (Xs.1 - 1) - nI 4 < nI (4 * n) := by
      rw [e0, i_lt, i_n (show 4 * n < 2 ^ 31 by omega)]
      by_cases h4 : 4 ≤ N
      · rw [show nI N - nI 4 = nI (N - 4) from nI_sub h4 (by omega), i_n (by omega)]
        omega
      · have : N = 0 ∨ N = 1 ∨ N = 2 ∨ N = 3 := by omega
        have q : (nI N - nI 4).toInt < 0 := by
          rcases this with e | e | e | e <;> (subst e; decide +kernel)
        omega
    exact ⟨σ, by rw [ql_23 hX, if_pos hlt], by omega⟩
  intro m
  induction m with
  | zero => intro n c σ u5 u6 h1 h2 h3 h4; exact fin n σ u5 u6 (by omega) h2
  | succ m ih =>
    intro n c σ u5 u6 h1 h2 h3 h4
    by_cases hn : 4 * n + 4 ≤ N
    · obtain ⟨u5', u6', Y, e, hY⟩ := law_step d hN hN2 hn h4 (by omega) (u5 := u5) (u6 := u6)
      obtain ⟨Y', e', hk⟩ := ih (n + 1) (c + 1) Y u5' u6' (by omega) (by omega) (by omega) hY.1
      exact ⟨Y', e.trans e', by have := hY.2; omega⟩
    · obtain ⟨Y', e', hk⟩ := fin n σ u5 u6 (by omega) h2
      exact ⟨Y', e', by omega⟩
theorem law_all (d : Nat) {Xs : am_X} {N : Nat} (hN : Xs.1 = N + 1) (hN2 : N ≤ 2048) {σ : am_M} (h : IvE 0 σ) : ∃ Y, am_go Xs (am_ex (d + 9)) ML 20 [.ref 1001, .ref 0, .ref 34, .ref 57, .null, .null, .null, .null] [] σ = some (.inl (some (.int (nI 1))), Y) ∧ Y.2.2 ≤ σ.2.2 + 512 := by
  rw [ql_20 (show 0 < Xs.1 by omega)]
  exact law_loop d hN hN2 512 0 0 σ _ _ (by omega) (by omega) (by omega) h
end LLP
