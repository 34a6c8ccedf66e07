/-! the check of the whole code, some 260 instructions a row (by wip/whole/gen.py's tables) -/
theorem am_ck_0 : am_cks (List.range' 0 8) = true := by decide +kernel
theorem am_ck_8 : am_cks (List.range' 8 11) = true := by decide +kernel
theorem am_ck_19 : am_cks (List.range' 19 10) = true := by decide +kernel
theorem am_ck_29 : am_cks (List.range' 29 6) = true := by decide +kernel
theorem am_ck_35 : am_cks (List.range' 35 9) = true := by decide +kernel
theorem am_ck_44 : am_cks (List.range' 44 7) = true := by decide +kernel
theorem am_ck_51 : am_cks (List.range' 51 6) = true := by decide +kernel
theorem am_ck_57 : am_cks (List.range' 57 9) = true := by decide +kernel
theorem am_ck_66 : am_cks (List.range' 66 7) = true := by decide +kernel
theorem am_ck_73 : am_cks (List.range' 73 7) = true := by decide +kernel
theorem am_ck_80 : am_cks (List.range' 80 8) = true := by decide +kernel
theorem am_ck_88 : am_cks (List.range' 88 8) = true := by decide +kernel
theorem am_ck_96 : am_cks (List.range' 96 6) = true := by decide +kernel
theorem am_ck_102 : am_cks (List.range' 102 5) = true := by decide +kernel
theorem am_ck_107 : am_cks (List.range' 107 6) = true := by decide +kernel
theorem am_ck_113 : am_cks (List.range' 113 7) = true := by decide +kernel
theorem am_ck_120 : am_cks (List.range' 120 7) = true := by decide +kernel
theorem am_ck_127 : am_cks (List.range' 127 6) = true := by decide +kernel
theorem am_ck_133 : am_cks (List.range' 133 4) = true := by decide +kernel
theorem am_ck_137 : am_cks (List.range' 137 7) = true := by decide +kernel
theorem am_ck_144 : am_cks (List.range' 144 6) = true := by decide +kernel
theorem am_ck_150 : am_cks (List.range' 150 3) = true := by decide +kernel
theorem am_ck_153 : am_cks (List.range' 153 4) = true := by decide +kernel
theorem am_ck_157 : am_cks (List.range' 157 6) = true := by decide +kernel
theorem am_ck_163 : am_cks (List.range' 163 7) = true := by decide +kernel
theorem am_ck_170 : am_cks (List.range' 170 4) = true := by decide +kernel
theorem am_ck_174 : am_cks (List.range' 174 4) = true := by decide +kernel
theorem am_ck_178 : am_cks (List.range' 178 7) = true := by decide +kernel
theorem am_ck_185 : am_cks (List.range' 185 4) = true := by decide +kernel
theorem am_ck_189 : am_cks (List.range' 189 8) = true := by decide +kernel
theorem am_ck_197 : am_cks (List.range' 197 8) = true := by decide +kernel
theorem am_ck_205 : am_cks (List.range' 205 6) = true := by decide +kernel
theorem am_ck_211 : am_cks (List.range' 211 2) = true := by decide +kernel
theorem am_ck_213 : am_cks (List.range' 213 3) = true := by decide +kernel
theorem am_ck_216 : am_cks (List.range' 216 4) = true := by decide +kernel
theorem am_ck_220 : am_cks (List.range' 220 5) = true := by decide +kernel
theorem am_ck_225 : am_cks (List.range' 225 4) = true := by decide +kernel
theorem am_ck_229 : am_cks (List.range' 229 4) = true := by decide +kernel
theorem am_ck_233 : am_cks (List.range' 233 2) = true := by decide +kernel
theorem am_ck_235 : am_cks (List.range' 235 2) = true := by decide +kernel
theorem am_ck_237 : am_cks (List.range' 237 3) = true := by decide +kernel
theorem am_ck_240 : am_cks (List.range' 240 5) = true := by decide +kernel
theorem am_ck_245 : am_cks (List.range' 245 1) = true := by decide +kernel
theorem am_ck_of {a n M : Nat} (h : am_cks (List.range' a n) = true) (h1 : a ≤ M) (h2 : M < a + n) : am_chk M (PG.1 M).1 = true := List.all_eq_true.mp h M (List.mem_range'_1.mpr ⟨h1, h2⟩)
theorem am_cs_len : am_cs.length = 246 := by decide +kernel
theorem am_ck_all (M : Nat) : am_chk M (PG.1 M).1 = true := by
  rcases Nat.lt_or_ge M 8 with h0 | h0
  · exact am_ck_of am_ck_0 (Nat.zero_le M) (by omega)
  rcases Nat.lt_or_ge M 19 with h8 | h8
  · exact am_ck_of am_ck_8 h0 (by omega)
  rcases Nat.lt_or_ge M 29 with h19 | h19
  · exact am_ck_of am_ck_19 h8 (by omega)
  rcases Nat.lt_or_ge M 35 with h29 | h29
  · exact am_ck_of am_ck_29 h19 (by omega)
  rcases Nat.lt_or_ge M 44 with h35 | h35
  · exact am_ck_of am_ck_35 h29 (by omega)
  rcases Nat.lt_or_ge M 51 with h44 | h44
  · exact am_ck_of am_ck_44 h35 (by omega)
  rcases Nat.lt_or_ge M 57 with h51 | h51
  · exact am_ck_of am_ck_51 h44 (by omega)
  rcases Nat.lt_or_ge M 66 with h57 | h57
  · exact am_ck_of am_ck_57 h51 (by omega)
  rcases Nat.lt_or_ge M 73 with h66 | h66
  · exact am_ck_of am_ck_66 h57 (by omega)
  rcases Nat.lt_or_ge M 80 with h73 | h73
  · exact am_ck_of am_ck_73 h66 (by omega)
  rcases Nat.lt_or_ge M 88 with h80 | h80
  · exact am_ck_of am_ck_80 h73 (by omega)
  rcases Nat.lt_or_ge M 96 with h88 | h88
  · exact am_ck_of am_ck_88 h80 (by omega)
  rcases Nat.lt_or_ge M 102 with h96 | h96
  · exact am_ck_of am_ck_96 h88 (by omega)
  rcases Nat.lt_or_ge M 107 with h102 | h102
  · exact am_ck_of am_ck_102 h96 (by omega)
  rcases Nat.lt_or_ge M 113 with h107 | h107
  · exact am_ck_of am_ck_107 h102 (by omega)
  rcases Nat.lt_or_ge M 120 with h113 | h113
  · exact am_ck_of am_ck_113 h107 (by omega)
  rcases Nat.lt_or_ge M 127 with h120 | h120
  · exact am_ck_of am_ck_120 h113 (by omega)
  rcases Nat.lt_or_ge M 133 with h127 | h127
  · exact am_ck_of am_ck_127 h120 (by omega)
  rcases Nat.lt_or_ge M 137 with h133 | h133
  · exact am_ck_of am_ck_133 h127 (by omega)
  rcases Nat.lt_or_ge M 144 with h137 | h137
  · exact am_ck_of am_ck_137 h133 (by omega)
  rcases Nat.lt_or_ge M 150 with h144 | h144
  · exact am_ck_of am_ck_144 h137 (by omega)
  rcases Nat.lt_or_ge M 153 with h150 | h150
  · exact am_ck_of am_ck_150 h144 (by omega)
  rcases Nat.lt_or_ge M 157 with h153 | h153
  · exact am_ck_of am_ck_153 h150 (by omega)
  rcases Nat.lt_or_ge M 163 with h157 | h157
  · exact am_ck_of am_ck_157 h153 (by omega)
  rcases Nat.lt_or_ge M 170 with h163 | h163
  · exact am_ck_of am_ck_163 h157 (by omega)
  rcases Nat.lt_or_ge M 174 with h170 | h170
  · exact am_ck_of am_ck_170 h163 (by omega)
  rcases Nat.lt_or_ge M 178 with h174 | h174
  · exact am_ck_of am_ck_174 h170 (by omega)
  rcases Nat.lt_or_ge M 185 with h178 | h178
  · exact am_ck_of am_ck_178 h174 (by omega)
  rcases Nat.lt_or_ge M 189 with h185 | h185
  · exact am_ck_of am_ck_185 h178 (by omega)
  rcases Nat.lt_or_ge M 197 with h189 | h189
  · exact am_ck_of am_ck_189 h185 (by omega)
  rcases Nat.lt_or_ge M 205 with h197 | h197
  · exact am_ck_of am_ck_197 h189 (by omega)
  rcases Nat.lt_or_ge M 211 with h205 | h205
  · exact am_ck_of am_ck_205 h197 (by omega)
  rcases Nat.lt_or_ge M 213 with h211 | h211
  · exact am_ck_of am_ck_211 h205 (by omega)
  rcases Nat.lt_or_ge M 216 with h213 | h213
  · exact am_ck_of am_ck_213 h211 (by omega)
  rcases Nat.lt_or_ge M 220 with h216 | h216
  · exact am_ck_of am_ck_216 h213 (by omega)
  rcases Nat.lt_or_ge M 225 with h220 | h220
  · exact am_ck_of am_ck_220 h216 (by omega)
  rcases Nat.lt_or_ge M 229 with h225 | h225
  · exact am_ck_of am_ck_225 h220 (by omega)
  rcases Nat.lt_or_ge M 233 with h229 | h229
  · exact am_ck_of am_ck_229 h225 (by omega)
  rcases Nat.lt_or_ge M 235 with h233 | h233
  · exact am_ck_of am_ck_233 h229 (by omega)
  rcases Nat.lt_or_ge M 237 with h235 | h235
  · exact am_ck_of am_ck_235 h233 (by omega)
  rcases Nat.lt_or_ge M 240 with h237 | h237
  · exact am_ck_of am_ck_237 h235 (by omega)
  rcases Nat.lt_or_ge M 245 with h240 | h240
  · exact am_ck_of am_ck_240 h237 (by omega)
  rcases Nat.lt_or_ge M 246 with h245 | h245
  · exact am_ck_of am_ck_245 h240 (by omega)
  have e : PG.1 M = ([], 0) := by
    show am_cs.getD M ([], 0) = ([], 0)
    rw [List.getD_eq_getElem?_getD, List.getElem?_eq_none (by rw [am_cs_len]; omega)]
    rfl
  rw [e]; rfl
