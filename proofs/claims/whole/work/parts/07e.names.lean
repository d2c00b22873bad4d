/-! names of methods -/
theorem xnm_chk : (List.range 430).all (fun m => (!xIn m || decide ((xY m).name = "<init>")) && decide ((xY m).cls = xO m)) = true := by decide +kernel
theorem xnm_lt {m : Nat} (h : xIn m = true) : m < 430 := by
  by_cases hm : m < 430
  · exact hm
  · have e : xIn m = false := by
      unfold xIn
      rw [List.getD_eq_getElem?_getD, List.getElem?_eq_none (Nat.le_trans (show xNl.length ≤ 430 by decide +kernel) (by omega))]
      rfl
    rw [e] at h
    cases h
theorem xIn_name {m : Nat} (h : xIn m = true) : (xY m).name = "<init>" := by
  have h1 := List.all_eq_true.mp xnm_chk m (List.mem_range.mpr (xnm_lt h))
  rw [h] at h1
  simp only [Bool.and_eq_true, Bool.or_eq_true, Bool.not_true, Bool.false_eq_true, false_or, decide_eq_true_eq] at h1
  exact h1.1
theorem xO_cls {m : Nat} (h : m < 430) : (xY m).cls = xO m := by
  have h1 := List.all_eq_true.mp xnm_chk m (List.mem_range.mpr h)
  simp only [Bool.and_eq_true, decide_eq_true_eq] at h1
  exact h1.2
