/-! the check of the code, 240 instructions a row (by wip/whole/chk.py) -/
theorem am_ck_of {a n M : Nat} (h : am_cks (List.range' a n) = true) (h1 : a ≤ M) (h2 : M < a + n) : am_chk M (PG.1 M).1 = true := List.all_eq_true.mp h M (List.mem_range'_1.mpr ⟨h1, h2⟩)
theorem am_cs_len : am_cs.length = 246 := by decide +kernel
theorem am_ck_0 : am_cks (List.range' 0 7) = true := by decide +kernel
theorem am_ck_7 : am_cks (List.range' 7 12) = true := by decide +kernel
theorem am_ck_19 : am_cks (List.range' 19 10) = true := by decide +kernel
theorem am_ck_29 : am_cks (List.range' 29 5) = true := by decide +kernel
theorem am_ck_34 : am_cks (List.range' 34 8) = true := by decide +kernel
theorem am_ck_42 : am_cks (List.range' 42 6) = true := by decide +kernel
theorem am_ck_48 : am_cks (List.range' 48 6) = true := by decide +kernel
theorem am_ck_54 : am_cks (List.range' 54 5) = true := by decide +kernel
theorem am_ck_59 : am_cks (List.range' 59 9) = true := by decide +kernel
theorem am_ck_68 : am_cks (List.range' 68 6) = true := by decide +kernel
theorem am_ck_74 : am_cks (List.range' 74 8) = true := by decide +kernel
theorem am_ck_82 : am_cks (List.range' 82 7) = true := by decide +kernel
theorem am_ck_89 : am_cks (List.range' 89 8) = true := by decide +kernel
theorem am_ck_97 : am_cks (List.range' 97 6) = true := by decide +kernel
theorem am_ck_103 : am_cks (List.range' 103 7) = true := by decide +kernel
theorem am_ck_110 : am_cks (List.range' 110 5) = true := by decide +kernel
