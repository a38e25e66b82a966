/-! bits counted, decided -/
theorem bc_tab : (List.range 24).all (fun y => (List.range 24).all (fun i => (List.range 24).all (fun j => decide ((f_Jint_bitCount (Sz y i j) ≤ 2) ↔ (i = y ∨ j = y ∨ i = j))))) = true := by decide +kernel
theorem bc_Sz {y i j : Nat} (hy : y < 24) (hi : i < 24) (hj : j < 24) : f_Jint_bitCount (Sz y i j) ≤ 2 ↔ (i = y ∨ j = y ∨ i = j) := by
  have h1 := List.all_eq_true.mp bc_tab y (List.mem_range.mpr hy)
  have h2 := List.all_eq_true.mp h1 i (List.mem_range.mpr hi)
  have h3 := List.all_eq_true.mp h2 j (List.mem_range.mpr hj)
  exact of_decide_eq_true h3
