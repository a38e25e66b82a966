/-! tables that are decided -/
theorem plC_tab : ALLC.map f_Po_placeOf = (List.range 2325).map nI := by decide +kernel
theorem plC_len : ALLC.length = 2325 := by decide +kernel
/-- the mask of a place of the reference -/
def unR (k : Nat) : Int32 := (if k % 25 < 24 then sb (k % 25) else 0) ||| (if k / 25 % 25 < 24 then sb (k / 25 % 25) else 0) ||| (if k / 625 < 24 then sb (k / 625) else 0)
theorem plR_tab : ALLC.all (fun m => match f_Md_placeOf m with | some r => decide (0 ≤ r ∧ r < 15625 ∧ unR r.toNatClampNeg = m) | none => false) = true := by decide +kernel
theorem few_of_all : ∀ m ∈ ALLC, (bl m).length ≤ 3 := by
  have h : ALLC.all (fun m => decide ((bl m).length ≤ 3)) = true := by decide +kernel
  intro m hm
  have := List.all_eq_true.mp h m hm
  simpa using this
