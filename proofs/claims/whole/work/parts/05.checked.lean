theorem am_ck_all (M : Nat) : am_chk M (PG.1 M).1 = true := by
  sorry
