/-! the model's cells: one function of field and place (by wip/whole/lay_md.py) -/
def mdO (m : Nat) (S : Nat → Nat → Int) : am_E := .inr (10, [.inr (.inr (some (m + 1))), .inl (S 1 0), .inr (.inr (some (m + 2))), .inr (.inr (some (m + 3))), .inl (S 4 0), .inr (.inr (some (m + 4))), .inr (.inr (some (m + 5))), .inr (.inr (some (m + 6))), .inl (S 8 0), .inl (S 9 0), .inl (S 10 0), .inr (.inr (some (m + 7))), .inr (.inr (some (m + 8))), .inl (S 13 0), .inr (.inr (some (m + 9))), .inr (.inr (some (m + 10))), .inr (.inr (some (m + 11))), .inr (.inr (some (m + 12))), .inr (.inr (some (m + 13))), .inr (.inr (some (m + 14))), .inr (.inr (some (m + 15))), .inl (S 21 0), .inr (.inr (some (m + 16))), .inl (S 23 0), .inr (.inr (some (m + 17))), .inr (.inr (some (m + 18))), .inl (S 26 0), .inr (.inr (some (m + 19))), .inr (.inr (some (m + 20))), .inr (.inr (some (m + 21))), .inr (.inr (some (m + 22))), .inr (.inr (some (m + 23))), .inl (S 32 0), .inl (S 33 0), .inl (S 34 0), .inl (S 35 0), .inl (S 36 0), .inr (.inr (some (m + 24))), .inr (.inr (some (m + 25))), .inr (.inr (some (m + 26))), .inr (.inr (some (m + 27))), .inr (.inr (some (m + 28))), .inr (.inr (some (m + 29))), .inr (.inr (some (m + 30))), .inr (.inr (some (m + 31))), .inr (.inr (some (m + 32))), .inr (.inr (some (m + 33))), .inr (.inr (some (m + 34)))])
def mdC : List (Nat × (Nat × Nat)) := [(0, 2, 400), (2, 0, 2402), (3, 0, 28824), (5, 0, 3603), (6, 3, 3), (7, 0, 400), (11, 0, 1213), (12, 0, 2402), (14, 0, 1101), (15, 0, 1101), (16, 0, 1101), (17, 0, 1101), (18, 0, 1101), (19, 0, 1101), (20, 0, 1101), (22, 0, 1101), (24, 0, 11), (25, 0, 400), (27, 3, 11), (28, 0, 61), (29, 0, 61), (30, 0, 61), (31, 2, 400), (37, 0, 1001), (38, 0, 1001), (39, 0, 1001), (40, 0, 400), (41, 0, 400), (42, 0, 400), (43, 3, 12012), (44, 0, 12012), (45, 0, 12), (46, 0, 12), (47, 0, 1201)]
def mdE (C : List (Nat × (Nat × Nat))) (S : Nat → Nat → Int) (i : Nat) : am_E := .inl ((C.getD i (0, 0, 0)).2.1, (C.getD i (0, 0, 0)).2.2, .inl (S (C.getD i (0, 0, 0)).1))
def MH (m : Nat) (g : am_H) (S : Nat → Nat → Int) : am_H := (g.1, fun q => if q = m then mdO m S else if m < q ∧ q < m + 35 then mdE mdC S (q - m - 1) else g.2 q)
theorem MH_m {m : Nat} {g : am_H} {S : Nat → Nat → Int} : (MH m g S).2 m = mdO m S := if_pos rfl
theorem MH_c {m : Nat} {g : am_H} {S : Nat → Nat → Int} {i : Nat} (h : i < 34) : (MH m g S).2 (m + (i + 1)) = mdE mdC S i := by
  show (if m + (i + 1) = m then _ else if m < m + (i + 1) ∧ m + (i + 1) < m + 35 then mdE mdC S (m + (i + 1) - m - 1) else _) = _
  rw [if_neg (by omega), if_pos (by omega)]
  congr 1
  omega
theorem MH_out {m : Nat} {g : am_H} {S : Nat → Nat → Int} {q : Nat} (h : q < m ∨ m + 35 ≤ q) : (MH m g S).2 q = g.2 q := by
  show (if q = m then _ else if m < q ∧ q < m + 35 then _ else _) = _
  rw [if_neg (by omega), if_neg (by omega)]
theorem MH_1 {m : Nat} {g : am_H} {S : Nat → Nat → Int} : (MH m g S).1 = g.1 := rfl
theorem fu_self {α : Type} {f : Nat → α} {k : Nat} {x : α} : am_fu f k x k = x := if_pos rfl
theorem fu_ne {α : Type} {f : Nat → α} {k j : Nat} {x : α} (h : j ≠ k) : am_fu f k x j = f j := if_neg h
theorem fu_if {α : Type} {f : Nat → α} {k j : Nat} {x : α} : am_fu f k x j = if j = k then x else f j := rfl
theorem MH_up0 {m j : Nat} {g : am_H} {S : Nat → Nat → Int} {x : Int} {e : am_E} (he : e = mdO m (am_fu S j (fun _ => x))) (hj : mdC.all (fun c => !(c.1 == j)) = true) : am_up (MH m g S) m e = MH m g (am_fu S j (fun _ => x)) := by
  refine Prod.ext rfl (funext fun q => ?_)
  show (if q = m then e else if q = m then mdO m S else if m < q ∧ q < m + 35 then mdE mdC S (q - m - 1) else g.2 q) = (if q = m then mdO m _ else if m < q ∧ q < m + 35 then mdE mdC _ (q - m - 1) else g.2 q)
  by_cases c : q = m
  · rw [if_pos c, if_pos c, he]
  · rw [if_neg c, if_neg c, if_neg c]
    by_cases c2 : m < q ∧ q < m + 35
    · rw [if_pos c2, if_pos c2]
      have hl : q - m - 1 < mdC.length := by
        have : mdC.length = 34 := rfl
        omega
      unfold mdE
      rw [List.getD_eq_getElem?_getD, List.getElem?_eq_getElem hl, Option.getD_some]
      have h2 := List.all_eq_true.mp hj _ (List.getElem_mem hl)
      rw [fu_ne]
      intro h3
      rw [h3] at h2
      simp at h2
    · rw [if_neg c2, if_neg c2]
theorem MH_up1 {m j t n i : Nat} {g : am_H} {S : Nat → Nat → Int} {f : Nat → Int} (hi : mdC[i]? = some (j, t, n)) (hO : mdO m (am_fu S j f) = mdO m S) (hd : (mdC.map (fun c => c.1)).Nodup) : am_up (MH m g S) (m + (i + 1)) (.inl (t, n, .inl f)) = MH m g (am_fu S j f) := by
  have hl : i < mdC.length := (List.getElem?_eq_some_iff.mp hi).1
  have h34 : mdC.length = 34 := rfl
  refine Prod.ext rfl (funext fun q => ?_)
  show (if q = m + (i + 1) then _ else if q = m then mdO m S else if m < q ∧ q < m + 35 then mdE mdC S (q - m - 1) else g.2 q) = (if q = m then mdO m _ else if m < q ∧ q < m + 35 then mdE mdC _ (q - m - 1) else g.2 q)
  by_cases c : q = m
  · rw [if_neg (by omega), if_pos c, if_pos c, hO]
  · by_cases c2 : m < q ∧ q < m + 35
    · rw [if_neg c, if_neg c, if_pos c2, if_pos c2]
      by_cases c3 : q = m + (i + 1)
      · rw [if_pos c3, show q - m - 1 = i by omega]
        unfold mdE
        rw [List.getD_eq_getElem?_getD, hi, Option.getD_some]
        dsimp only
        rw [fu_self]
      · rw [if_neg c3]
        have hl2 : q - m - 1 < mdC.length := by omega
        unfold mdE
        rw [List.getD_eq_getElem?_getD, List.getElem?_eq_getElem hl2, Option.getD_some, fu_ne]
        intro h3
        have h4 := (List.getElem?_eq_some_iff.mp hi).2
        have h5 : (mdC.map (fun c => c.1))[q - m - 1]'(by rw [List.length_map]; exact hl2) = (mdC.map (fun c => c.1))[i]'(by rw [List.length_map]; exact hl) := by
          rw [List.getElem_map, List.getElem_map, h3, h4]
        have h6 := List.pairwise_iff_getElem.mp hd
        rcases Nat.lt_trichotomy (q - m - 1) i with h7 | h7 | h7
        · exact h6 _ _ _ _ h7 h5
        · omega
        · exact h6 _ _ _ _ h7 h5.symm
    · rw [if_neg (by omega), if_neg c, if_neg c, if_neg c2, if_neg c2]
theorem mdC_nd : (mdC.map (fun c => c.1)).Nodup := by decide
theorem m_O {m : Nat} {g : am_H} {S : Nat → Nat → Int} : am_isO (MH m g S) m 10 = true := rd_O MH_m
theorem m_gI_1 {m : Nat} {g : am_H} {S : Nat → Nat → Int} : am_gI (MH m g S) m 10 1 = some (S 1 0) := rd_gI MH_m rfl
theorem m_p_1 {m : Nat} {g : am_H} {S : Nat → Nat → Int} {x : Int} : am_p (MH m g S) m 10 1 (.inl x) = some (MH m g (am_fu S 1 (fun _ => x))) := (rd_p MH_m (Nat.le_of_ble_eq_true rfl)).trans (congrArg some (MH_up0 rfl rfl))
theorem m_gI_4 {m : Nat} {g : am_H} {S : Nat → Nat → Int} : am_gI (MH m g S) m 10 4 = some (S 4 0) := rd_gI MH_m rfl
theorem m_p_4 {m : Nat} {g : am_H} {S : Nat → Nat → Int} {x : Int} : am_p (MH m g S) m 10 4 (.inl x) = some (MH m g (am_fu S 4 (fun _ => x))) := (rd_p MH_m (Nat.le_of_ble_eq_true rfl)).trans (congrArg some (MH_up0 rfl rfl))
theorem m_gI_8 {m : Nat} {g : am_H} {S : Nat → Nat → Int} : am_gI (MH m g S) m 10 8 = some (S 8 0) := rd_gI MH_m rfl
theorem m_p_8 {m : Nat} {g : am_H} {S : Nat → Nat → Int} {x : Int} : am_p (MH m g S) m 10 8 (.inl x) = some (MH m g (am_fu S 8 (fun _ => x))) := (rd_p MH_m (Nat.le_of_ble_eq_true rfl)).trans (congrArg some (MH_up0 rfl rfl))
theorem m_gI_9 {m : Nat} {g : am_H} {S : Nat → Nat → Int} : am_gI (MH m g S) m 10 9 = some (S 9 0) := rd_gI MH_m rfl
theorem m_p_9 {m : Nat} {g : am_H} {S : Nat → Nat → Int} {x : Int} : am_p (MH m g S) m 10 9 (.inl x) = some (MH m g (am_fu S 9 (fun _ => x))) := (rd_p MH_m (Nat.le_of_ble_eq_true rfl)).trans (congrArg some (MH_up0 rfl rfl))
theorem m_gI_10 {m : Nat} {g : am_H} {S : Nat → Nat → Int} : am_gI (MH m g S) m 10 10 = some (S 10 0) := rd_gI MH_m rfl
theorem m_p_10 {m : Nat} {g : am_H} {S : Nat → Nat → Int} {x : Int} : am_p (MH m g S) m 10 10 (.inl x) = some (MH m g (am_fu S 10 (fun _ => x))) := (rd_p MH_m (Nat.le_of_ble_eq_true rfl)).trans (congrArg some (MH_up0 rfl rfl))
theorem m_gI_13 {m : Nat} {g : am_H} {S : Nat → Nat → Int} : am_gI (MH m g S) m 10 13 = some (S 13 0) := rd_gI MH_m rfl
theorem m_p_13 {m : Nat} {g : am_H} {S : Nat → Nat → Int} {x : Int} : am_p (MH m g S) m 10 13 (.inl x) = some (MH m g (am_fu S 13 (fun _ => x))) := (rd_p MH_m (Nat.le_of_ble_eq_true rfl)).trans (congrArg some (MH_up0 rfl rfl))
theorem m_gI_21 {m : Nat} {g : am_H} {S : Nat → Nat → Int} : am_gI (MH m g S) m 10 21 = some (S 21 0) := rd_gI MH_m rfl
theorem m_p_21 {m : Nat} {g : am_H} {S : Nat → Nat → Int} {x : Int} : am_p (MH m g S) m 10 21 (.inl x) = some (MH m g (am_fu S 21 (fun _ => x))) := (rd_p MH_m (Nat.le_of_ble_eq_true rfl)).trans (congrArg some (MH_up0 rfl rfl))
theorem m_gI_23 {m : Nat} {g : am_H} {S : Nat → Nat → Int} : am_gI (MH m g S) m 10 23 = some (S 23 0) := rd_gI MH_m rfl
theorem m_p_23 {m : Nat} {g : am_H} {S : Nat → Nat → Int} {x : Int} : am_p (MH m g S) m 10 23 (.inl x) = some (MH m g (am_fu S 23 (fun _ => x))) := (rd_p MH_m (Nat.le_of_ble_eq_true rfl)).trans (congrArg some (MH_up0 rfl rfl))
theorem m_gI_26 {m : Nat} {g : am_H} {S : Nat → Nat → Int} : am_gI (MH m g S) m 10 26 = some (S 26 0) := rd_gI MH_m rfl
theorem m_p_26 {m : Nat} {g : am_H} {S : Nat → Nat → Int} {x : Int} : am_p (MH m g S) m 10 26 (.inl x) = some (MH m g (am_fu S 26 (fun _ => x))) := (rd_p MH_m (Nat.le_of_ble_eq_true rfl)).trans (congrArg some (MH_up0 rfl rfl))
theorem m_gI_32 {m : Nat} {g : am_H} {S : Nat → Nat → Int} : am_gI (MH m g S) m 10 32 = some (S 32 0) := rd_gI MH_m rfl
theorem m_p_32 {m : Nat} {g : am_H} {S : Nat → Nat → Int} {x : Int} : am_p (MH m g S) m 10 32 (.inl x) = some (MH m g (am_fu S 32 (fun _ => x))) := (rd_p MH_m (Nat.le_of_ble_eq_true rfl)).trans (congrArg some (MH_up0 rfl rfl))
theorem m_gI_33 {m : Nat} {g : am_H} {S : Nat → Nat → Int} : am_gI (MH m g S) m 10 33 = some (S 33 0) := rd_gI MH_m rfl
theorem m_p_33 {m : Nat} {g : am_H} {S : Nat → Nat → Int} {x : Int} : am_p (MH m g S) m 10 33 (.inl x) = some (MH m g (am_fu S 33 (fun _ => x))) := (rd_p MH_m (Nat.le_of_ble_eq_true rfl)).trans (congrArg some (MH_up0 rfl rfl))
theorem m_gI_34 {m : Nat} {g : am_H} {S : Nat → Nat → Int} : am_gI (MH m g S) m 10 34 = some (S 34 0) := rd_gI MH_m rfl
theorem m_p_34 {m : Nat} {g : am_H} {S : Nat → Nat → Int} {x : Int} : am_p (MH m g S) m 10 34 (.inl x) = some (MH m g (am_fu S 34 (fun _ => x))) := (rd_p MH_m (Nat.le_of_ble_eq_true rfl)).trans (congrArg some (MH_up0 rfl rfl))
theorem m_gI_35 {m : Nat} {g : am_H} {S : Nat → Nat → Int} : am_gI (MH m g S) m 10 35 = some (S 35 0) := rd_gI MH_m rfl
theorem m_p_35 {m : Nat} {g : am_H} {S : Nat → Nat → Int} {x : Int} : am_p (MH m g S) m 10 35 (.inl x) = some (MH m g (am_fu S 35 (fun _ => x))) := (rd_p MH_m (Nat.le_of_ble_eq_true rfl)).trans (congrArg some (MH_up0 rfl rfl))
theorem m_gI_36 {m : Nat} {g : am_H} {S : Nat → Nat → Int} : am_gI (MH m g S) m 10 36 = some (S 36 0) := rd_gI MH_m rfl
theorem m_p_36 {m : Nat} {g : am_H} {S : Nat → Nat → Int} {x : Int} : am_p (MH m g S) m 10 36 (.inl x) = some (MH m g (am_fu S 36 (fun _ => x))) := (rd_p MH_m (Nat.le_of_ble_eq_true rfl)).trans (congrArg some (MH_up0 rfl rfl))
theorem m_gR_0 {m : Nat} {g : am_H} {S : Nat → Nat → Int} : am_gR (MH m g S) m 10 0 = some (m + 1) := rd_gR MH_m rfl
theorem m_l_0 {m : Nat} {g : am_H} {S : Nat → Nat → Int} {i : Int} (h1 : 0 ≤ i) (h2 : i < 400) : am_lB (MH m g S) (m + 1) i = some (S 0 i.toNat) := rd_lB (MH_c (i := 0) (Nat.le_of_ble_eq_true rfl)) (by decide) h1 h2
theorem m_s_0 {m : Nat} {g : am_H} {S : Nat → Nat → Int} {i x : Int} (h1 : 0 ≤ i) (h2 : i < 400) (h3 : -128 ≤ x) (h4 : x < 128) : am_sB (MH m g S) (m + 1) i x = some (MH m g (am_fu S 0 (am_fu (S 0) i.toNat x))) := (rd_sB2 (MH_c (i := 0) (Nat.le_of_ble_eq_true rfl)) h1 h2 h3 h4).trans (congrArg some (MH_up1 (i := 0) rfl rfl mdC_nd))
theorem m_gR_2 {m : Nat} {g : am_H} {S : Nat → Nat → Int} : am_gR (MH m g S) m 10 2 = some (m + 2) := rd_gR MH_m rfl
theorem m_l_2 {m : Nat} {g : am_H} {S : Nat → Nat → Int} {i : Int} (h1 : 0 ≤ i) (h2 : i < 2402) : am_lI (MH m g S) (m + 2) i = some (S 2 i.toNat) := rd_lI (MH_c (i := 1) (Nat.le_of_ble_eq_true rfl)) h1 h2
theorem m_s_2 {m : Nat} {g : am_H} {S : Nat → Nat → Int} {i x : Int} (h1 : 0 ≤ i) (h2 : i < 2402) : am_sI (MH m g S) (m + 2) i x = some (MH m g (am_fu S 2 (am_fu (S 2) i.toNat x))) := (rd_sI (MH_c (i := 1) (Nat.le_of_ble_eq_true rfl)) h1 h2).trans (congrArg some (MH_up1 (i := 1) rfl rfl mdC_nd))
theorem m_gR_3 {m : Nat} {g : am_H} {S : Nat → Nat → Int} : am_gR (MH m g S) m 10 3 = some (m + 3) := rd_gR MH_m rfl
theorem m_l_3 {m : Nat} {g : am_H} {S : Nat → Nat → Int} {i : Int} (h1 : 0 ≤ i) (h2 : i < 28824) : am_lI (MH m g S) (m + 3) i = some (S 3 i.toNat) := rd_lI (MH_c (i := 2) (Nat.le_of_ble_eq_true rfl)) h1 h2
theorem m_s_3 {m : Nat} {g : am_H} {S : Nat → Nat → Int} {i x : Int} (h1 : 0 ≤ i) (h2 : i < 28824) : am_sI (MH m g S) (m + 3) i x = some (MH m g (am_fu S 3 (am_fu (S 3) i.toNat x))) := (rd_sI (MH_c (i := 2) (Nat.le_of_ble_eq_true rfl)) h1 h2).trans (congrArg some (MH_up1 (i := 2) rfl rfl mdC_nd))
theorem m_gR_5 {m : Nat} {g : am_H} {S : Nat → Nat → Int} : am_gR (MH m g S) m 10 5 = some (m + 4) := rd_gR MH_m rfl
theorem m_l_5 {m : Nat} {g : am_H} {S : Nat → Nat → Int} {i : Int} (h1 : 0 ≤ i) (h2 : i < 3603) : am_lI (MH m g S) (m + 4) i = some (S 5 i.toNat) := rd_lI (MH_c (i := 3) (Nat.le_of_ble_eq_true rfl)) h1 h2
theorem m_s_5 {m : Nat} {g : am_H} {S : Nat → Nat → Int} {i x : Int} (h1 : 0 ≤ i) (h2 : i < 3603) : am_sI (MH m g S) (m + 4) i x = some (MH m g (am_fu S 5 (am_fu (S 5) i.toNat x))) := (rd_sI (MH_c (i := 3) (Nat.le_of_ble_eq_true rfl)) h1 h2).trans (congrArg some (MH_up1 (i := 3) rfl rfl mdC_nd))
theorem m_gR_6 {m : Nat} {g : am_H} {S : Nat → Nat → Int} : am_gR (MH m g S) m 10 6 = some (m + 5) := rd_gR MH_m rfl
theorem m_l_6 {m : Nat} {g : am_H} {S : Nat → Nat → Int} {i : Int} (h1 : 0 ≤ i) (h2 : i < 3) : am_lB (MH m g S) (m + 5) i = some (S 6 i.toNat) := rd_lB (MH_c (i := 4) (Nat.le_of_ble_eq_true rfl)) (by decide) h1 h2
theorem m_s_6 {m : Nat} {g : am_H} {S : Nat → Nat → Int} {i x : Int} (h1 : 0 ≤ i) (h2 : i < 3) (h3 : 0 ≤ x) (h4 : x < 2) : am_sB (MH m g S) (m + 5) i x = some (MH m g (am_fu S 6 (am_fu (S 6) i.toNat x))) := (rd_sB3 (MH_c (i := 4) (Nat.le_of_ble_eq_true rfl)) h1 h2 h3 h4).trans (congrArg some (MH_up1 (i := 4) rfl rfl mdC_nd))
theorem m_gR_7 {m : Nat} {g : am_H} {S : Nat → Nat → Int} : am_gR (MH m g S) m 10 7 = some (m + 6) := rd_gR MH_m rfl
theorem m_l_7 {m : Nat} {g : am_H} {S : Nat → Nat → Int} {i : Int} (h1 : 0 ≤ i) (h2 : i < 400) : am_lI (MH m g S) (m + 6) i = some (S 7 i.toNat) := rd_lI (MH_c (i := 5) (Nat.le_of_ble_eq_true rfl)) h1 h2
theorem m_s_7 {m : Nat} {g : am_H} {S : Nat → Nat → Int} {i x : Int} (h1 : 0 ≤ i) (h2 : i < 400) : am_sI (MH m g S) (m + 6) i x = some (MH m g (am_fu S 7 (am_fu (S 7) i.toNat x))) := (rd_sI (MH_c (i := 5) (Nat.le_of_ble_eq_true rfl)) h1 h2).trans (congrArg some (MH_up1 (i := 5) rfl rfl mdC_nd))
theorem m_gR_11 {m : Nat} {g : am_H} {S : Nat → Nat → Int} : am_gR (MH m g S) m 10 11 = some (m + 7) := rd_gR MH_m rfl
theorem m_l_11 {m : Nat} {g : am_H} {S : Nat → Nat → Int} {i : Int} (h1 : 0 ≤ i) (h2 : i < 1213) : am_lI (MH m g S) (m + 7) i = some (S 11 i.toNat) := rd_lI (MH_c (i := 6) (Nat.le_of_ble_eq_true rfl)) h1 h2
theorem m_s_11 {m : Nat} {g : am_H} {S : Nat → Nat → Int} {i x : Int} (h1 : 0 ≤ i) (h2 : i < 1213) : am_sI (MH m g S) (m + 7) i x = some (MH m g (am_fu S 11 (am_fu (S 11) i.toNat x))) := (rd_sI (MH_c (i := 6) (Nat.le_of_ble_eq_true rfl)) h1 h2).trans (congrArg some (MH_up1 (i := 6) rfl rfl mdC_nd))
theorem m_gR_12 {m : Nat} {g : am_H} {S : Nat → Nat → Int} : am_gR (MH m g S) m 10 12 = some (m + 8) := rd_gR MH_m rfl
theorem m_l_12 {m : Nat} {g : am_H} {S : Nat → Nat → Int} {i : Int} (h1 : 0 ≤ i) (h2 : i < 2402) : am_lI (MH m g S) (m + 8) i = some (S 12 i.toNat) := rd_lI (MH_c (i := 7) (Nat.le_of_ble_eq_true rfl)) h1 h2
theorem m_s_12 {m : Nat} {g : am_H} {S : Nat → Nat → Int} {i x : Int} (h1 : 0 ≤ i) (h2 : i < 2402) : am_sI (MH m g S) (m + 8) i x = some (MH m g (am_fu S 12 (am_fu (S 12) i.toNat x))) := (rd_sI (MH_c (i := 7) (Nat.le_of_ble_eq_true rfl)) h1 h2).trans (congrArg some (MH_up1 (i := 7) rfl rfl mdC_nd))
theorem m_gR_14 {m : Nat} {g : am_H} {S : Nat → Nat → Int} : am_gR (MH m g S) m 10 14 = some (m + 9) := rd_gR MH_m rfl
theorem m_l_14 {m : Nat} {g : am_H} {S : Nat → Nat → Int} {i : Int} (h1 : 0 ≤ i) (h2 : i < 1101) : am_lI (MH m g S) (m + 9) i = some (S 14 i.toNat) := rd_lI (MH_c (i := 8) (Nat.le_of_ble_eq_true rfl)) h1 h2
theorem m_s_14 {m : Nat} {g : am_H} {S : Nat → Nat → Int} {i x : Int} (h1 : 0 ≤ i) (h2 : i < 1101) : am_sI (MH m g S) (m + 9) i x = some (MH m g (am_fu S 14 (am_fu (S 14) i.toNat x))) := (rd_sI (MH_c (i := 8) (Nat.le_of_ble_eq_true rfl)) h1 h2).trans (congrArg some (MH_up1 (i := 8) rfl rfl mdC_nd))
theorem m_gR_15 {m : Nat} {g : am_H} {S : Nat → Nat → Int} : am_gR (MH m g S) m 10 15 = some (m + 10) := rd_gR MH_m rfl
theorem m_l_15 {m : Nat} {g : am_H} {S : Nat → Nat → Int} {i : Int} (h1 : 0 ≤ i) (h2 : i < 1101) : am_lI (MH m g S) (m + 10) i = some (S 15 i.toNat) := rd_lI (MH_c (i := 9) (Nat.le_of_ble_eq_true rfl)) h1 h2
theorem m_s_15 {m : Nat} {g : am_H} {S : Nat → Nat → Int} {i x : Int} (h1 : 0 ≤ i) (h2 : i < 1101) : am_sI (MH m g S) (m + 10) i x = some (MH m g (am_fu S 15 (am_fu (S 15) i.toNat x))) := (rd_sI (MH_c (i := 9) (Nat.le_of_ble_eq_true rfl)) h1 h2).trans (congrArg some (MH_up1 (i := 9) rfl rfl mdC_nd))
theorem m_gR_16 {m : Nat} {g : am_H} {S : Nat → Nat → Int} : am_gR (MH m g S) m 10 16 = some (m + 11) := rd_gR MH_m rfl
theorem m_l_16 {m : Nat} {g : am_H} {S : Nat → Nat → Int} {i : Int} (h1 : 0 ≤ i) (h2 : i < 1101) : am_lI (MH m g S) (m + 11) i = some (S 16 i.toNat) := rd_lI (MH_c (i := 10) (Nat.le_of_ble_eq_true rfl)) h1 h2
theorem m_s_16 {m : Nat} {g : am_H} {S : Nat → Nat → Int} {i x : Int} (h1 : 0 ≤ i) (h2 : i < 1101) : am_sI (MH m g S) (m + 11) i x = some (MH m g (am_fu S 16 (am_fu (S 16) i.toNat x))) := (rd_sI (MH_c (i := 10) (Nat.le_of_ble_eq_true rfl)) h1 h2).trans (congrArg some (MH_up1 (i := 10) rfl rfl mdC_nd))
theorem m_gR_17 {m : Nat} {g : am_H} {S : Nat → Nat → Int} : am_gR (MH m g S) m 10 17 = some (m + 12) := rd_gR MH_m rfl
theorem m_l_17 {m : Nat} {g : am_H} {S : Nat → Nat → Int} {i : Int} (h1 : 0 ≤ i) (h2 : i < 1101) : am_lI (MH m g S) (m + 12) i = some (S 17 i.toNat) := rd_lI (MH_c (i := 11) (Nat.le_of_ble_eq_true rfl)) h1 h2
theorem m_s_17 {m : Nat} {g : am_H} {S : Nat → Nat → Int} {i x : Int} (h1 : 0 ≤ i) (h2 : i < 1101) : am_sI (MH m g S) (m + 12) i x = some (MH m g (am_fu S 17 (am_fu (S 17) i.toNat x))) := (rd_sI (MH_c (i := 11) (Nat.le_of_ble_eq_true rfl)) h1 h2).trans (congrArg some (MH_up1 (i := 11) rfl rfl mdC_nd))
theorem m_gR_18 {m : Nat} {g : am_H} {S : Nat → Nat → Int} : am_gR (MH m g S) m 10 18 = some (m + 13) := rd_gR MH_m rfl
theorem m_l_18 {m : Nat} {g : am_H} {S : Nat → Nat → Int} {i : Int} (h1 : 0 ≤ i) (h2 : i < 1101) : am_lI (MH m g S) (m + 13) i = some (S 18 i.toNat) := rd_lI (MH_c (i := 12) (Nat.le_of_ble_eq_true rfl)) h1 h2
theorem m_s_18 {m : Nat} {g : am_H} {S : Nat → Nat → Int} {i x : Int} (h1 : 0 ≤ i) (h2 : i < 1101) : am_sI (MH m g S) (m + 13) i x = some (MH m g (am_fu S 18 (am_fu (S 18) i.toNat x))) := (rd_sI (MH_c (i := 12) (Nat.le_of_ble_eq_true rfl)) h1 h2).trans (congrArg some (MH_up1 (i := 12) rfl rfl mdC_nd))
theorem m_gR_19 {m : Nat} {g : am_H} {S : Nat → Nat → Int} : am_gR (MH m g S) m 10 19 = some (m + 14) := rd_gR MH_m rfl
theorem m_l_19 {m : Nat} {g : am_H} {S : Nat → Nat → Int} {i : Int} (h1 : 0 ≤ i) (h2 : i < 1101) : am_lI (MH m g S) (m + 14) i = some (S 19 i.toNat) := rd_lI (MH_c (i := 13) (Nat.le_of_ble_eq_true rfl)) h1 h2
theorem m_s_19 {m : Nat} {g : am_H} {S : Nat → Nat → Int} {i x : Int} (h1 : 0 ≤ i) (h2 : i < 1101) : am_sI (MH m g S) (m + 14) i x = some (MH m g (am_fu S 19 (am_fu (S 19) i.toNat x))) := (rd_sI (MH_c (i := 13) (Nat.le_of_ble_eq_true rfl)) h1 h2).trans (congrArg some (MH_up1 (i := 13) rfl rfl mdC_nd))
theorem m_gR_20 {m : Nat} {g : am_H} {S : Nat → Nat → Int} : am_gR (MH m g S) m 10 20 = some (m + 15) := rd_gR MH_m rfl
theorem m_l_20 {m : Nat} {g : am_H} {S : Nat → Nat → Int} {i : Int} (h1 : 0 ≤ i) (h2 : i < 1101) : am_lI (MH m g S) (m + 15) i = some (S 20 i.toNat) := rd_lI (MH_c (i := 14) (Nat.le_of_ble_eq_true rfl)) h1 h2
theorem m_s_20 {m : Nat} {g : am_H} {S : Nat → Nat → Int} {i x : Int} (h1 : 0 ≤ i) (h2 : i < 1101) : am_sI (MH m g S) (m + 15) i x = some (MH m g (am_fu S 20 (am_fu (S 20) i.toNat x))) := (rd_sI (MH_c (i := 14) (Nat.le_of_ble_eq_true rfl)) h1 h2).trans (congrArg some (MH_up1 (i := 14) rfl rfl mdC_nd))
theorem m_gR_22 {m : Nat} {g : am_H} {S : Nat → Nat → Int} : am_gR (MH m g S) m 10 22 = some (m + 16) := rd_gR MH_m rfl
theorem m_l_22 {m : Nat} {g : am_H} {S : Nat → Nat → Int} {i : Int} (h1 : 0 ≤ i) (h2 : i < 1101) : am_lI (MH m g S) (m + 16) i = some (S 22 i.toNat) := rd_lI (MH_c (i := 15) (Nat.le_of_ble_eq_true rfl)) h1 h2
theorem m_s_22 {m : Nat} {g : am_H} {S : Nat → Nat → Int} {i x : Int} (h1 : 0 ≤ i) (h2 : i < 1101) : am_sI (MH m g S) (m + 16) i x = some (MH m g (am_fu S 22 (am_fu (S 22) i.toNat x))) := (rd_sI (MH_c (i := 15) (Nat.le_of_ble_eq_true rfl)) h1 h2).trans (congrArg some (MH_up1 (i := 15) rfl rfl mdC_nd))
theorem m_gR_24 {m : Nat} {g : am_H} {S : Nat → Nat → Int} : am_gR (MH m g S) m 10 24 = some (m + 17) := rd_gR MH_m rfl
theorem m_l_24 {m : Nat} {g : am_H} {S : Nat → Nat → Int} {i : Int} (h1 : 0 ≤ i) (h2 : i < 11) : am_lI (MH m g S) (m + 17) i = some (S 24 i.toNat) := rd_lI (MH_c (i := 16) (Nat.le_of_ble_eq_true rfl)) h1 h2
theorem m_s_24 {m : Nat} {g : am_H} {S : Nat → Nat → Int} {i x : Int} (h1 : 0 ≤ i) (h2 : i < 11) : am_sI (MH m g S) (m + 17) i x = some (MH m g (am_fu S 24 (am_fu (S 24) i.toNat x))) := (rd_sI (MH_c (i := 16) (Nat.le_of_ble_eq_true rfl)) h1 h2).trans (congrArg some (MH_up1 (i := 16) rfl rfl mdC_nd))
theorem m_gR_25 {m : Nat} {g : am_H} {S : Nat → Nat → Int} : am_gR (MH m g S) m 10 25 = some (m + 18) := rd_gR MH_m rfl
theorem m_l_25 {m : Nat} {g : am_H} {S : Nat → Nat → Int} {i : Int} (h1 : 0 ≤ i) (h2 : i < 400) : am_lI (MH m g S) (m + 18) i = some (S 25 i.toNat) := rd_lI (MH_c (i := 17) (Nat.le_of_ble_eq_true rfl)) h1 h2
theorem m_s_25 {m : Nat} {g : am_H} {S : Nat → Nat → Int} {i x : Int} (h1 : 0 ≤ i) (h2 : i < 400) : am_sI (MH m g S) (m + 18) i x = some (MH m g (am_fu S 25 (am_fu (S 25) i.toNat x))) := (rd_sI (MH_c (i := 17) (Nat.le_of_ble_eq_true rfl)) h1 h2).trans (congrArg some (MH_up1 (i := 17) rfl rfl mdC_nd))
theorem m_gR_27 {m : Nat} {g : am_H} {S : Nat → Nat → Int} : am_gR (MH m g S) m 10 27 = some (m + 19) := rd_gR MH_m rfl
theorem m_l_27 {m : Nat} {g : am_H} {S : Nat → Nat → Int} {i : Int} (h1 : 0 ≤ i) (h2 : i < 11) : am_lB (MH m g S) (m + 19) i = some (S 27 i.toNat) := rd_lB (MH_c (i := 18) (Nat.le_of_ble_eq_true rfl)) (by decide) h1 h2
theorem m_s_27 {m : Nat} {g : am_H} {S : Nat → Nat → Int} {i x : Int} (h1 : 0 ≤ i) (h2 : i < 11) (h3 : 0 ≤ x) (h4 : x < 2) : am_sB (MH m g S) (m + 19) i x = some (MH m g (am_fu S 27 (am_fu (S 27) i.toNat x))) := (rd_sB3 (MH_c (i := 18) (Nat.le_of_ble_eq_true rfl)) h1 h2 h3 h4).trans (congrArg some (MH_up1 (i := 18) rfl rfl mdC_nd))
theorem m_gR_28 {m : Nat} {g : am_H} {S : Nat → Nat → Int} : am_gR (MH m g S) m 10 28 = some (m + 20) := rd_gR MH_m rfl
theorem m_l_28 {m : Nat} {g : am_H} {S : Nat → Nat → Int} {i : Int} (h1 : 0 ≤ i) (h2 : i < 61) : am_lI (MH m g S) (m + 20) i = some (S 28 i.toNat) := rd_lI (MH_c (i := 19) (Nat.le_of_ble_eq_true rfl)) h1 h2
theorem m_s_28 {m : Nat} {g : am_H} {S : Nat → Nat → Int} {i x : Int} (h1 : 0 ≤ i) (h2 : i < 61) : am_sI (MH m g S) (m + 20) i x = some (MH m g (am_fu S 28 (am_fu (S 28) i.toNat x))) := (rd_sI (MH_c (i := 19) (Nat.le_of_ble_eq_true rfl)) h1 h2).trans (congrArg some (MH_up1 (i := 19) rfl rfl mdC_nd))
theorem m_gR_29 {m : Nat} {g : am_H} {S : Nat → Nat → Int} : am_gR (MH m g S) m 10 29 = some (m + 21) := rd_gR MH_m rfl
theorem m_l_29 {m : Nat} {g : am_H} {S : Nat → Nat → Int} {i : Int} (h1 : 0 ≤ i) (h2 : i < 61) : am_lI (MH m g S) (m + 21) i = some (S 29 i.toNat) := rd_lI (MH_c (i := 20) (Nat.le_of_ble_eq_true rfl)) h1 h2
theorem m_s_29 {m : Nat} {g : am_H} {S : Nat → Nat → Int} {i x : Int} (h1 : 0 ≤ i) (h2 : i < 61) : am_sI (MH m g S) (m + 21) i x = some (MH m g (am_fu S 29 (am_fu (S 29) i.toNat x))) := (rd_sI (MH_c (i := 20) (Nat.le_of_ble_eq_true rfl)) h1 h2).trans (congrArg some (MH_up1 (i := 20) rfl rfl mdC_nd))
theorem m_gR_30 {m : Nat} {g : am_H} {S : Nat → Nat → Int} : am_gR (MH m g S) m 10 30 = some (m + 22) := rd_gR MH_m rfl
theorem m_l_30 {m : Nat} {g : am_H} {S : Nat → Nat → Int} {i : Int} (h1 : 0 ≤ i) (h2 : i < 61) : am_lI (MH m g S) (m + 22) i = some (S 30 i.toNat) := rd_lI (MH_c (i := 21) (Nat.le_of_ble_eq_true rfl)) h1 h2
theorem m_s_30 {m : Nat} {g : am_H} {S : Nat → Nat → Int} {i x : Int} (h1 : 0 ≤ i) (h2 : i < 61) : am_sI (MH m g S) (m + 22) i x = some (MH m g (am_fu S 30 (am_fu (S 30) i.toNat x))) := (rd_sI (MH_c (i := 21) (Nat.le_of_ble_eq_true rfl)) h1 h2).trans (congrArg some (MH_up1 (i := 21) rfl rfl mdC_nd))
theorem m_gR_31 {m : Nat} {g : am_H} {S : Nat → Nat → Int} : am_gR (MH m g S) m 10 31 = some (m + 23) := rd_gR MH_m rfl
theorem m_l_31 {m : Nat} {g : am_H} {S : Nat → Nat → Int} {i : Int} (h1 : 0 ≤ i) (h2 : i < 400) : am_lB (MH m g S) (m + 23) i = some (S 31 i.toNat) := rd_lB (MH_c (i := 22) (Nat.le_of_ble_eq_true rfl)) (by decide) h1 h2
theorem m_s_31 {m : Nat} {g : am_H} {S : Nat → Nat → Int} {i x : Int} (h1 : 0 ≤ i) (h2 : i < 400) (h3 : -128 ≤ x) (h4 : x < 128) : am_sB (MH m g S) (m + 23) i x = some (MH m g (am_fu S 31 (am_fu (S 31) i.toNat x))) := (rd_sB2 (MH_c (i := 22) (Nat.le_of_ble_eq_true rfl)) h1 h2 h3 h4).trans (congrArg some (MH_up1 (i := 22) rfl rfl mdC_nd))
theorem m_gR_37 {m : Nat} {g : am_H} {S : Nat → Nat → Int} : am_gR (MH m g S) m 10 37 = some (m + 24) := rd_gR MH_m rfl
theorem m_l_37 {m : Nat} {g : am_H} {S : Nat → Nat → Int} {i : Int} (h1 : 0 ≤ i) (h2 : i < 1001) : am_lI (MH m g S) (m + 24) i = some (S 37 i.toNat) := rd_lI (MH_c (i := 23) (Nat.le_of_ble_eq_true rfl)) h1 h2
theorem m_s_37 {m : Nat} {g : am_H} {S : Nat → Nat → Int} {i x : Int} (h1 : 0 ≤ i) (h2 : i < 1001) : am_sI (MH m g S) (m + 24) i x = some (MH m g (am_fu S 37 (am_fu (S 37) i.toNat x))) := (rd_sI (MH_c (i := 23) (Nat.le_of_ble_eq_true rfl)) h1 h2).trans (congrArg some (MH_up1 (i := 23) rfl rfl mdC_nd))
theorem m_gR_38 {m : Nat} {g : am_H} {S : Nat → Nat → Int} : am_gR (MH m g S) m 10 38 = some (m + 25) := rd_gR MH_m rfl
theorem m_l_38 {m : Nat} {g : am_H} {S : Nat → Nat → Int} {i : Int} (h1 : 0 ≤ i) (h2 : i < 1001) : am_lI (MH m g S) (m + 25) i = some (S 38 i.toNat) := rd_lI (MH_c (i := 24) (Nat.le_of_ble_eq_true rfl)) h1 h2
theorem m_s_38 {m : Nat} {g : am_H} {S : Nat → Nat → Int} {i x : Int} (h1 : 0 ≤ i) (h2 : i < 1001) : am_sI (MH m g S) (m + 25) i x = some (MH m g (am_fu S 38 (am_fu (S 38) i.toNat x))) := (rd_sI (MH_c (i := 24) (Nat.le_of_ble_eq_true rfl)) h1 h2).trans (congrArg some (MH_up1 (i := 24) rfl rfl mdC_nd))
theorem m_gR_39 {m : Nat} {g : am_H} {S : Nat → Nat → Int} : am_gR (MH m g S) m 10 39 = some (m + 26) := rd_gR MH_m rfl
theorem m_l_39 {m : Nat} {g : am_H} {S : Nat → Nat → Int} {i : Int} (h1 : 0 ≤ i) (h2 : i < 1001) : am_lI (MH m g S) (m + 26) i = some (S 39 i.toNat) := rd_lI (MH_c (i := 25) (Nat.le_of_ble_eq_true rfl)) h1 h2
theorem m_s_39 {m : Nat} {g : am_H} {S : Nat → Nat → Int} {i x : Int} (h1 : 0 ≤ i) (h2 : i < 1001) : am_sI (MH m g S) (m + 26) i x = some (MH m g (am_fu S 39 (am_fu (S 39) i.toNat x))) := (rd_sI (MH_c (i := 25) (Nat.le_of_ble_eq_true rfl)) h1 h2).trans (congrArg some (MH_up1 (i := 25) rfl rfl mdC_nd))
theorem m_gR_40 {m : Nat} {g : am_H} {S : Nat → Nat → Int} : am_gR (MH m g S) m 10 40 = some (m + 27) := rd_gR MH_m rfl
theorem m_l_40 {m : Nat} {g : am_H} {S : Nat → Nat → Int} {i : Int} (h1 : 0 ≤ i) (h2 : i < 400) : am_lI (MH m g S) (m + 27) i = some (S 40 i.toNat) := rd_lI (MH_c (i := 26) (Nat.le_of_ble_eq_true rfl)) h1 h2
theorem m_s_40 {m : Nat} {g : am_H} {S : Nat → Nat → Int} {i x : Int} (h1 : 0 ≤ i) (h2 : i < 400) : am_sI (MH m g S) (m + 27) i x = some (MH m g (am_fu S 40 (am_fu (S 40) i.toNat x))) := (rd_sI (MH_c (i := 26) (Nat.le_of_ble_eq_true rfl)) h1 h2).trans (congrArg some (MH_up1 (i := 26) rfl rfl mdC_nd))
theorem m_gR_41 {m : Nat} {g : am_H} {S : Nat → Nat → Int} : am_gR (MH m g S) m 10 41 = some (m + 28) := rd_gR MH_m rfl
theorem m_l_41 {m : Nat} {g : am_H} {S : Nat → Nat → Int} {i : Int} (h1 : 0 ≤ i) (h2 : i < 400) : am_lI (MH m g S) (m + 28) i = some (S 41 i.toNat) := rd_lI (MH_c (i := 27) (Nat.le_of_ble_eq_true rfl)) h1 h2
theorem m_s_41 {m : Nat} {g : am_H} {S : Nat → Nat → Int} {i x : Int} (h1 : 0 ≤ i) (h2 : i < 400) : am_sI (MH m g S) (m + 28) i x = some (MH m g (am_fu S 41 (am_fu (S 41) i.toNat x))) := (rd_sI (MH_c (i := 27) (Nat.le_of_ble_eq_true rfl)) h1 h2).trans (congrArg some (MH_up1 (i := 27) rfl rfl mdC_nd))
theorem m_gR_42 {m : Nat} {g : am_H} {S : Nat → Nat → Int} : am_gR (MH m g S) m 10 42 = some (m + 29) := rd_gR MH_m rfl
theorem m_l_42 {m : Nat} {g : am_H} {S : Nat → Nat → Int} {i : Int} (h1 : 0 ≤ i) (h2 : i < 400) : am_lI (MH m g S) (m + 29) i = some (S 42 i.toNat) := rd_lI (MH_c (i := 28) (Nat.le_of_ble_eq_true rfl)) h1 h2
theorem m_s_42 {m : Nat} {g : am_H} {S : Nat → Nat → Int} {i x : Int} (h1 : 0 ≤ i) (h2 : i < 400) : am_sI (MH m g S) (m + 29) i x = some (MH m g (am_fu S 42 (am_fu (S 42) i.toNat x))) := (rd_sI (MH_c (i := 28) (Nat.le_of_ble_eq_true rfl)) h1 h2).trans (congrArg some (MH_up1 (i := 28) rfl rfl mdC_nd))
theorem m_gR_43 {m : Nat} {g : am_H} {S : Nat → Nat → Int} : am_gR (MH m g S) m 10 43 = some (m + 30) := rd_gR MH_m rfl
theorem m_l_43 {m : Nat} {g : am_H} {S : Nat → Nat → Int} {i : Int} (h1 : 0 ≤ i) (h2 : i < 12012) : am_lB (MH m g S) (m + 30) i = some (S 43 i.toNat) := rd_lB (MH_c (i := 29) (Nat.le_of_ble_eq_true rfl)) (by decide) h1 h2
theorem m_s_43 {m : Nat} {g : am_H} {S : Nat → Nat → Int} {i x : Int} (h1 : 0 ≤ i) (h2 : i < 12012) (h3 : 0 ≤ x) (h4 : x < 2) : am_sB (MH m g S) (m + 30) i x = some (MH m g (am_fu S 43 (am_fu (S 43) i.toNat x))) := (rd_sB3 (MH_c (i := 29) (Nat.le_of_ble_eq_true rfl)) h1 h2 h3 h4).trans (congrArg some (MH_up1 (i := 29) rfl rfl mdC_nd))
theorem m_gR_44 {m : Nat} {g : am_H} {S : Nat → Nat → Int} : am_gR (MH m g S) m 10 44 = some (m + 31) := rd_gR MH_m rfl
theorem m_l_44 {m : Nat} {g : am_H} {S : Nat → Nat → Int} {i : Int} (h1 : 0 ≤ i) (h2 : i < 12012) : am_lI (MH m g S) (m + 31) i = some (S 44 i.toNat) := rd_lI (MH_c (i := 30) (Nat.le_of_ble_eq_true rfl)) h1 h2
theorem m_s_44 {m : Nat} {g : am_H} {S : Nat → Nat → Int} {i x : Int} (h1 : 0 ≤ i) (h2 : i < 12012) : am_sI (MH m g S) (m + 31) i x = some (MH m g (am_fu S 44 (am_fu (S 44) i.toNat x))) := (rd_sI (MH_c (i := 30) (Nat.le_of_ble_eq_true rfl)) h1 h2).trans (congrArg some (MH_up1 (i := 30) rfl rfl mdC_nd))
theorem m_gR_45 {m : Nat} {g : am_H} {S : Nat → Nat → Int} : am_gR (MH m g S) m 10 45 = some (m + 32) := rd_gR MH_m rfl
theorem m_l_45 {m : Nat} {g : am_H} {S : Nat → Nat → Int} {i : Int} (h1 : 0 ≤ i) (h2 : i < 12) : am_lI (MH m g S) (m + 32) i = some (S 45 i.toNat) := rd_lI (MH_c (i := 31) (Nat.le_of_ble_eq_true rfl)) h1 h2
theorem m_s_45 {m : Nat} {g : am_H} {S : Nat → Nat → Int} {i x : Int} (h1 : 0 ≤ i) (h2 : i < 12) : am_sI (MH m g S) (m + 32) i x = some (MH m g (am_fu S 45 (am_fu (S 45) i.toNat x))) := (rd_sI (MH_c (i := 31) (Nat.le_of_ble_eq_true rfl)) h1 h2).trans (congrArg some (MH_up1 (i := 31) rfl rfl mdC_nd))
theorem m_gR_46 {m : Nat} {g : am_H} {S : Nat → Nat → Int} : am_gR (MH m g S) m 10 46 = some (m + 33) := rd_gR MH_m rfl
theorem m_l_46 {m : Nat} {g : am_H} {S : Nat → Nat → Int} {i : Int} (h1 : 0 ≤ i) (h2 : i < 12) : am_lI (MH m g S) (m + 33) i = some (S 46 i.toNat) := rd_lI (MH_c (i := 32) (Nat.le_of_ble_eq_true rfl)) h1 h2
theorem m_s_46 {m : Nat} {g : am_H} {S : Nat → Nat → Int} {i x : Int} (h1 : 0 ≤ i) (h2 : i < 12) : am_sI (MH m g S) (m + 33) i x = some (MH m g (am_fu S 46 (am_fu (S 46) i.toNat x))) := (rd_sI (MH_c (i := 32) (Nat.le_of_ble_eq_true rfl)) h1 h2).trans (congrArg some (MH_up1 (i := 32) rfl rfl mdC_nd))
theorem m_gR_47 {m : Nat} {g : am_H} {S : Nat → Nat → Int} : am_gR (MH m g S) m 10 47 = some (m + 34) := rd_gR MH_m rfl
theorem m_l_47 {m : Nat} {g : am_H} {S : Nat → Nat → Int} {i : Int} (h1 : 0 ≤ i) (h2 : i < 1201) : am_lI (MH m g S) (m + 34) i = some (S 47 i.toNat) := rd_lI (MH_c (i := 33) (Nat.le_of_ble_eq_true rfl)) h1 h2
theorem m_s_47 {m : Nat} {g : am_H} {S : Nat → Nat → Int} {i x : Int} (h1 : 0 ≤ i) (h2 : i < 1201) : am_sI (MH m g S) (m + 34) i x = some (MH m g (am_fu S 47 (am_fu (S 47) i.toNat x))) := (rd_sI (MH_c (i := 33) (Nat.le_of_ble_eq_true rfl)) h1 h2).trans (congrArg some (MH_up1 (i := 33) rfl rfl mdC_nd))
/-- a row of the model's, by its cell: reads and writes of it -/
def isRow (m q j n : Nat) : Prop := ∀ (g : am_H) (S : Nat → Nat → Int) (i : Int), 0 ≤ i → i < n → am_lI (MH m g S) q i = some (S j i.toNat) ∧ ∀ x, am_sI (MH m g S) q i x = some (MH m g (am_fu S j (am_fu (S j) i.toNat x)))
theorem m_row_2 {m : Nat} : isRow m (m + 2) 2 2402 := fun g S i h1 h2 => ⟨m_l_2 h1 h2, fun x => m_s_2 h1 h2⟩
theorem m_row_5 {m : Nat} : isRow m (m + 4) 5 3603 := fun g S i h1 h2 => ⟨m_l_5 h1 h2, fun x => m_s_5 h1 h2⟩
theorem m_row_11 {m : Nat} : isRow m (m + 7) 11 1213 := fun g S i h1 h2 => ⟨m_l_11 h1 h2, fun x => m_s_11 h1 h2⟩
theorem m_row_12 {m : Nat} : isRow m (m + 8) 12 2402 := fun g S i h1 h2 => ⟨m_l_12 h1 h2, fun x => m_s_12 h1 h2⟩
theorem fu_eta {f : Nat → Nat → Int} {k : Nat} : am_fu f k (f k) = f := funext fun j => by
  unfold am_fu
  split
  · rename_i h; rw [h]
  · rfl
theorem fu_fu {α : Type} {f : Nat → α} {k : Nat} {x y : α} : am_fu (am_fu f k x) k y = am_fu f k y := funext fun j => by
  unfold am_fu
  split <;> rfl
