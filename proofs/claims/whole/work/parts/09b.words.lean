def am_chunk (j : Nat) : List Cond := match j with
  | 0 => k2_sels lw_privs
  | 1 => tables_1_1
  | 2 => tables_1_2
  | 3 => tables_1_3
  | 4 => tables_1_4
  | 5 => tables_1_5
  | 6 => tables_1_6
  | 7 => tables_1_7
  | 8 => tables_1_8
  | _ => []
theorem am_chunk_mem {j : Nat} {w : Cond} (h : w ∈ am_chunk j) : w ∈ lw_tbl := by
  have e : lw_tbl = k2_sels lw_privs ++ (tables_1_1 ++ (tables_1_2 ++ (tables_1_3 ++ (tables_1_4 ++ (tables_1_5 ++ (tables_1_6 ++ (tables_1_7 ++ tables_1_8))))))) := rfl
  rw [e]
  simp only [List.mem_append]
  match j, h with
  | 0, h => exact Or.inl h
  | 1, h => exact Or.inr (Or.inl h)
  | 2, h => exact Or.inr (Or.inr (Or.inl h))
  | 3, h => exact Or.inr (Or.inr (Or.inr (Or.inl h)))
  | 4, h => exact Or.inr (Or.inr (Or.inr (Or.inr (Or.inl h))))
  | 5, h => exact Or.inr (Or.inr (Or.inr (Or.inr (Or.inr (Or.inl h)))))
  | 6, h => exact Or.inr (Or.inr (Or.inr (Or.inr (Or.inr (Or.inr (Or.inl h))))))
  | 7, h => exact Or.inr (Or.inr (Or.inr (Or.inr (Or.inr (Or.inr (Or.inr (Or.inl h)))))))
  | 8, h => exact Or.inr (Or.inr (Or.inr (Or.inr (Or.inr (Or.inr (Or.inr (Or.inr h)))))))
  | n + 9, h => exact absurd h List.not_mem_nil
def am_at (p : Nat) (w : Cond) : Bool := decide ((am_chunk (p / 1000))[p % 1000]? = some w)
theorem am_at_mem {p : Nat} {w : Cond} (h : am_at p w = true) : w ∈ lw_tbl := am_chunk_mem (List.mem_of_getElem? (of_decide_eq_true h))
def am_G : List Cond := lw_tbl.filter goodWord
theorem am_G_mem {w : Cond} (h : w ∈ lw_tbl) (hg : goodWord w = true) : w ∈ am_G := List.mem_filter.mpr ⟨h, hg⟩
/-- the class that a row of a method's exception table names (all of the law's) -/
def am_cln (k : Nat) : String := if k = 13 then "java/lang/IndexOutOfBoundsException" else if k = 15 then "java/lang/IllegalStateException" else if k = 33 then "java/lang/IllegalArgumentException" else "java/util/NoSuchElementException"
