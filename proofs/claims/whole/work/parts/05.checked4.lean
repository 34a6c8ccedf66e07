/-! the check of the code, 240 instructions a row (by wip/whole/chk.py) -/
theorem am_ck_245_0 : am_chn 245 50 ((PG.1 245).1.drop 0) = true := by decide +kernel
theorem am_ck_245_50 : am_chn 245 50 ((PG.1 245).1.drop 50) = true := by decide +kernel
theorem am_ck_245_100 : am_chn 245 50 ((PG.1 245).1.drop 100) = true := by decide +kernel
theorem am_ck_245_150 : am_chn 245 50 ((PG.1 245).1.drop 150) = true := by decide +kernel
theorem am_ck_245_200 : am_chn 245 50 ((PG.1 245).1.drop 200) = true := by decide +kernel
theorem am_ck_245_250 : am_chn 245 50 ((PG.1 245).1.drop 250) = true := by decide +kernel
theorem am_ck_245_300 : am_chn 245 50 ((PG.1 245).1.drop 300) = true := by decide +kernel
theorem am_ck_245_350 : am_chn 245 50 ((PG.1 245).1.drop 350) = true := by decide +kernel
theorem am_ck_245_400 : am_chn 245 50 ((PG.1 245).1.drop 400) = true := by decide +kernel
theorem am_ck_245_450 : am_chn 245 50 ((PG.1 245).1.drop 450) = true := by decide +kernel
theorem am_ck_245_500 : am_chn 245 39 ((PG.1 245).1.drop 500) = true := by decide +kernel
theorem am_ck_245_end : am_chk 245 ((PG.1 245).1.drop 539) = true := by decide +kernel
theorem am_ck_245_from_500 : am_chk 245 ((PG.1 245).1.drop 500) = true := am_chk_app 245 39 _ am_ck_245_500 (by rw [List.drop_drop]; exact am_ck_245_end)
theorem am_ck_245_from_450 : am_chk 245 ((PG.1 245).1.drop 450) = true := am_chk_app 245 50 _ am_ck_245_450 (by rw [List.drop_drop]; exact am_ck_245_from_500)
theorem am_ck_245_from_400 : am_chk 245 ((PG.1 245).1.drop 400) = true := am_chk_app 245 50 _ am_ck_245_400 (by rw [List.drop_drop]; exact am_ck_245_from_450)
theorem am_ck_245_from_350 : am_chk 245 ((PG.1 245).1.drop 350) = true := am_chk_app 245 50 _ am_ck_245_350 (by rw [List.drop_drop]; exact am_ck_245_from_400)
theorem am_ck_245_from_300 : am_chk 245 ((PG.1 245).1.drop 300) = true := am_chk_app 245 50 _ am_ck_245_300 (by rw [List.drop_drop]; exact am_ck_245_from_350)
theorem am_ck_245_from_250 : am_chk 245 ((PG.1 245).1.drop 250) = true := am_chk_app 245 50 _ am_ck_245_250 (by rw [List.drop_drop]; exact am_ck_245_from_300)
theorem am_ck_245_from_200 : am_chk 245 ((PG.1 245).1.drop 200) = true := am_chk_app 245 50 _ am_ck_245_200 (by rw [List.drop_drop]; exact am_ck_245_from_250)
theorem am_ck_245_from_150 : am_chk 245 ((PG.1 245).1.drop 150) = true := am_chk_app 245 50 _ am_ck_245_150 (by rw [List.drop_drop]; exact am_ck_245_from_200)
theorem am_ck_245_from_100 : am_chk 245 ((PG.1 245).1.drop 100) = true := am_chk_app 245 50 _ am_ck_245_100 (by rw [List.drop_drop]; exact am_ck_245_from_150)
theorem am_ck_245_from_50 : am_chk 245 ((PG.1 245).1.drop 50) = true := am_chk_app 245 50 _ am_ck_245_50 (by rw [List.drop_drop]; exact am_ck_245_from_100)
theorem am_ck_245_from_0 : am_chk 245 ((PG.1 245).1.drop 0) = true := am_chk_app 245 50 _ am_ck_245_0 (by rw [List.drop_drop]; exact am_ck_245_from_50)
theorem am_ck_245 : am_cks (List.range' 245 1) = true := by show (am_chk 245 (PG.1 245).1 && true) = true; rw [Bool.and_true]; exact am_ck_245_from_0
theorem am_ck_all (M : Nat) : am_chk M (PG.1 M).1 = true := by
  rcases Nat.lt_or_ge M 7 with h0 | h0
  · exact am_ck_of am_ck_0 (Nat.zero_le M) (by omega)
  rcases Nat.lt_or_ge M 19 with h7 | h7
  · exact am_ck_of am_ck_7 h0 (by omega)
  rcases Nat.lt_or_ge M 29 with h19 | h19
  · exact am_ck_of am_ck_19 h7 (by omega)
  rcases Nat.lt_or_ge M 34 with h29 | h29
  · exact am_ck_of am_ck_29 h19 (by omega)
  rcases Nat.lt_or_ge M 42 with h34 | h34
  · exact am_ck_of am_ck_34 h29 (by omega)
  rcases Nat.lt_or_ge M 48 with h42 | h42
  · exact am_ck_of am_ck_42 h34 (by omega)
  rcases Nat.lt_or_ge M 54 with h48 | h48
  · exact am_ck_of am_ck_48 h42 (by omega)
  rcases Nat.lt_or_ge M 59 with h54 | h54
  · exact am_ck_of am_ck_54 h48 (by omega)
  rcases Nat.lt_or_ge M 68 with h59 | h59
  · exact am_ck_of am_ck_59 h54 (by omega)
  rcases Nat.lt_or_ge M 74 with h68 | h68
  · exact am_ck_of am_ck_68 h59 (by omega)
  rcases Nat.lt_or_ge M 82 with h74 | h74
  · exact am_ck_of am_ck_74 h68 (by omega)
  rcases Nat.lt_or_ge M 89 with h82 | h82
  · exact am_ck_of am_ck_82 h74 (by omega)
  rcases Nat.lt_or_ge M 97 with h89 | h89
  · exact am_ck_of am_ck_89 h82 (by omega)
  rcases Nat.lt_or_ge M 103 with h97 | h97
  · exact am_ck_of am_ck_97 h89 (by omega)
  rcases Nat.lt_or_ge M 110 with h103 | h103
  · exact am_ck_of am_ck_103 h97 (by omega)
  rcases Nat.lt_or_ge M 115 with h110 | h110
  · exact am_ck_of am_ck_110 h103 (by omega)
  rcases Nat.lt_or_ge M 124 with h115 | h115
  · exact am_ck_of am_ck_115 h110 (by omega)
  rcases Nat.lt_or_ge M 129 with h124 | h124
  · exact am_ck_of am_ck_124 h115 (by omega)
  rcases Nat.lt_or_ge M 134 with h129 | h129
  · exact am_ck_of am_ck_129 h124 (by omega)
  rcases Nat.lt_or_ge M 139 with h134 | h134
  · exact am_ck_of am_ck_134 h129 (by omega)
  rcases Nat.lt_or_ge M 144 with h139 | h139
  · exact am_ck_of am_ck_139 h134 (by omega)
  rcases Nat.lt_or_ge M 149 with h144 | h144
  · exact am_ck_of am_ck_144 h139 (by omega)
  rcases Nat.lt_or_ge M 153 with h149 | h149
  · exact am_ck_of am_ck_149 h144 (by omega)
  rcases Nat.lt_or_ge M 156 with h153 | h153
  · exact am_ck_of am_ck_153 h149 (by omega)
  rcases Nat.lt_or_ge M 163 with h156 | h156
  · exact am_ck_of am_ck_156 h153 (by omega)
  rcases Nat.lt_or_ge M 169 with h163 | h163
  · exact am_ck_of am_ck_163 h156 (by omega)
  rcases Nat.lt_or_ge M 173 with h169 | h169
  · exact am_ck_of am_ck_169 h163 (by omega)
  rcases Nat.lt_or_ge M 175 with h173 | h173
  · exact am_ck_of am_ck_173 h169 (by omega)
  rcases Nat.lt_or_ge M 178 with h175 | h175
  · exact am_ck_of am_ck_175 h173 (by omega)
  rcases Nat.lt_or_ge M 184 with h178 | h178
  · exact am_ck_of am_ck_178 h175 (by omega)
  rcases Nat.lt_or_ge M 188 with h184 | h184
  · exact am_ck_of am_ck_184 h178 (by omega)
  rcases Nat.lt_or_ge M 191 with h188 | h188
  · exact am_ck_of am_ck_188 h184 (by omega)
  rcases Nat.lt_or_ge M 199 with h191 | h191
  · exact am_ck_of am_ck_191 h188 (by omega)
  rcases Nat.lt_or_ge M 206 with h199 | h199
  · exact am_ck_of am_ck_199 h191 (by omega)
  rcases Nat.lt_or_ge M 212 with h206 | h206
  · exact am_ck_of am_ck_206 h199 (by omega)
  rcases Nat.lt_or_ge M 214 with h212 | h212
  · exact am_ck_of am_ck_212 h206 (by omega)
  rcases Nat.lt_or_ge M 217 with h214 | h214
  · exact am_ck_of am_ck_214 h212 (by omega)
  rcases Nat.lt_or_ge M 220 with h217 | h217
  · exact am_ck_of am_ck_217 h214 (by omega)
  rcases Nat.lt_or_ge M 225 with h220 | h220
  · exact am_ck_of am_ck_220 h217 (by omega)
  rcases Nat.lt_or_ge M 229 with h225 | h225
  · exact am_ck_of am_ck_225 h220 (by omega)
  rcases Nat.lt_or_ge M 232 with h229 | h229
  · exact am_ck_of am_ck_229 h225 (by omega)
  rcases Nat.lt_or_ge M 234 with h232 | h232
  · exact am_ck_of am_ck_232 h229 (by omega)
  rcases Nat.lt_or_ge M 235 with h234 | h234
  · exact am_ck_of am_ck_234 h232 (by omega)
  rcases Nat.lt_or_ge M 237 with h235 | h235
  · exact am_ck_of am_ck_235 h234 (by omega)
  rcases Nat.lt_or_ge M 240 with h237 | h237
  · exact am_ck_of am_ck_237 h235 (by omega)
  rcases Nat.lt_or_ge M 245 with h240 | h240
  · exact am_ck_of am_ck_240 h237 (by omega)
  rcases Nat.lt_or_ge M 246 with h245 | h245
  · exact am_ck_of am_ck_245 h240 (by omega)
  have e : PG.1 M = ([], 0) := by
    show am_cs.getD M ([], 0) = ([], 0)
    rw [List.getD_eq_getElem?_getD, List.getElem?_eq_none (by rw [am_cs_len]; omega)]
    rfl
  rw [e]; rfl
