/-! objects with their rows in the cells behind them: one function of field and place (by wip/whole/lay_cls.py) -/
def xH (O : (Nat → Nat → Int) → am_E) (C : List (Nat × (Nat × Nat))) (q : Nat) (g : am_H) (S : Nat → Nat → Int) : am_H := (g.1, fun c => if c = q then O S else if q < c ∧ c < q + (C.length + 1) then mdE C S (c - q - 1) else g.2 c)
section OV
variable {O : (Nat → Nat → Int) → am_E} {C : List (Nat × (Nat × Nat))} {q : Nat} {g h h' : am_H} {S S' : Nat → Nat → Int}
theorem xH_m : (xH O C q g S).2 q = O S := if_pos rfl
theorem xH_c {i : Nat} (h : i < C.length) : (xH O C q g S).2 (q + (i + 1)) = mdE C S i := by
  show (if q + (i + 1) = q then _ else if q < q + (i + 1) ∧ q + (i + 1) < q + (C.length + 1) then mdE C S (q + (i + 1) - q - 1) else _) = _
  rw [if_neg (by omega), if_pos (by omega)]
  congr 1
  omega
theorem xH_out {c : Nat} (h : c < q ∨ q + (C.length + 1) ≤ c) : (xH O C q g S).2 c = g.2 c := by
  show (if c = q then _ else if q < c ∧ c < q + (C.length + 1) then _ else _) = _
  rw [if_neg (by omega), if_neg (by omega)]
theorem xH_up0 {j : Nat} {x : Int} {e : am_E} (he : e = O (am_fu S j (fun _ => x))) (hj : C.all (fun c => !(c.1 == j)) = true) : am_up (xH O C q g S) q e = xH O C q g (am_fu S j (fun _ => x)) := by
  refine Prod.ext rfl (funext fun c => ?_)
  show (if c = q then e else if c = q then O S else if q < c ∧ c < q + (C.length + 1) then mdE C S (c - q - 1) else g.2 c) = (if c = q then O _ else if q < c ∧ c < q + (C.length + 1) then mdE C _ (c - q - 1) else g.2 c)
  by_cases c1 : c = q
  · rw [if_pos c1, if_pos c1, he]
  · rw [if_neg c1, if_neg c1, if_neg c1]
    by_cases c2 : q < c ∧ c < q + (C.length + 1)
    · rw [if_pos c2, if_pos c2]
      have hl : c - q - 1 < C.length := by omega
      unfold mdE
      rw [List.getD_eq_getElem?_getD, List.getElem?_eq_getElem hl, Option.getD_some]
      have h2 := List.all_eq_true.mp hj _ (List.getElem_mem hl)
      rw [fu_ne]
      intro h3
      rw [h3] at h2
      simp at h2
    · rw [if_neg c2, if_neg c2]
theorem xH_up1 {j t n i : Nat} {f : Nat → Int} (hi : C[i]? = some (j, t, n)) (hO : O (am_fu S j f) = O S) (hd : (C.map (fun c => c.1)).Nodup) : am_up (xH O C q g S) (q + (i + 1)) (.inl (t, n, .inl f)) = xH O C q g (am_fu S j f) := by
  have hl : i < C.length := (List.getElem?_eq_some_iff.mp hi).1
  refine Prod.ext rfl (funext fun c => ?_)
  show (if c = q + (i + 1) then _ else if c = q then O S else if q < c ∧ c < q + (C.length + 1) then mdE C S (c - q - 1) else g.2 c) = (if c = q then O _ else if q < c ∧ c < q + (C.length + 1) then mdE C _ (c - q - 1) else g.2 c)
  by_cases c1 : c = q
  · rw [if_neg (by omega), if_pos c1, if_pos c1, hO]
  · by_cases c2 : q < c ∧ c < q + (C.length + 1)
    · rw [if_neg c1, if_neg c1, if_pos c2, if_pos c2]
      by_cases c3 : c = q + (i + 1)
      · rw [if_pos c3, show c - q - 1 = i by omega]
        unfold mdE
        rw [List.getD_eq_getElem?_getD, hi, Option.getD_some]
        dsimp only
        rw [fu_self]
      · rw [if_neg c3]
        have hl2 : c - q - 1 < C.length := by omega
        unfold mdE
        rw [List.getD_eq_getElem?_getD, List.getElem?_eq_getElem hl2, Option.getD_some, fu_ne]
        intro h3
        have h4 := (List.getElem?_eq_some_iff.mp hi).2
        have h5 : (C.map (fun c => c.1))[c - q - 1]'(by rw [List.length_map]; exact hl2) = (C.map (fun c => c.1))[i]'(by rw [List.length_map]; exact hl) := by
          rw [List.getElem_map, List.getElem_map, h3, h4]
        have h6 := List.pairwise_iff_getElem.mp hd
        rcases Nat.lt_trichotomy (c - q - 1) i with h7 | h7 | h7
        · exact h6 _ _ _ _ h7 h5
        · omega
        · exact h6 _ _ _ _ h7 h5.symm
    · rw [if_neg (by omega), if_neg c1, if_neg c1, if_neg c2, if_neg c2]
theorem xH_xH : xH O C q (xH O C q g S) S' = xH O C q g S' := by
  refine Prod.ext rfl (funext fun c => ?_)
  show (if c = q then O S' else if q < c ∧ c < q + (C.length + 1) then mdE C S' (c - q - 1) else if c = q then O S else if q < c ∧ c < q + (C.length + 1) then mdE C S (c - q - 1) else g.2 c) = (if c = q then O S' else if q < c ∧ c < q + (C.length + 1) then mdE C S' (c - q - 1) else g.2 c)
  by_cases c1 : c = q
  · rw [if_pos c1, if_pos c1]
  · rw [if_neg c1, if_neg c1, if_neg c1]
    by_cases c2 : q < c ∧ c < q + (C.length + 1)
    · rw [if_pos c2, if_pos c2]
    · rw [if_neg c2, if_neg c2, if_neg c2]
theorem xH_fr : am_fr q (q + (C.length + 1)) g (xH O C q g S) := ⟨rfl, fun c hc => xH_out hc⟩
theorem xH_keep {lo hi : Nat} (H : xH O C q h S = h) (F : am_fr lo hi h h') (hd : q + (C.length + 1) ≤ lo ∨ hi ≤ q) : xH O C q h' S = h' := by
  refine Prod.ext rfl (funext fun c => ?_)
  show (if c = q then O S else if q < c ∧ c < q + (C.length + 1) then mdE C S (c - q - 1) else h'.2 c) = h'.2 c
  have hh : ∀ c, (if c = q then O S else if q < c ∧ c < q + (C.length + 1) then mdE C S (c - q - 1) else h.2 c) = h.2 c := fun c => congrFun (congrArg Prod.snd H) c
  by_cases c1 : c = q
  · have := hh c
    rw [if_pos c1] at this
    rw [if_pos c1, this]
    exact (F.2 c (by omega)).symm
  · by_cases c2 : q < c ∧ c < q + (C.length + 1)
    · have := hh c
      rw [if_neg c1, if_pos c2] at this
      rw [if_neg c1, if_pos c2, this]
      exact (F.2 c (by omega)).symm
    · rw [if_neg c1, if_neg c2]
theorem xH_mk (h1 : h.2 q = O S) (h2 : ∀ i, i < C.length → h.2 (q + (i + 1)) = mdE C S i) : xH O C q h S = h := by
  refine Prod.ext rfl (funext fun c => ?_)
  show (if c = q then O S else if q < c ∧ c < q + (C.length + 1) then mdE C S (c - q - 1) else h.2 c) = h.2 c
  by_cases c1 : c = q
  · rw [if_pos c1, c1, h1]
  · by_cases c2 : q < c ∧ c < q + (C.length + 1)
    · have e : q + (c - q - 1 + 1) = c := by omega
      have h3 := h2 (c - q - 1) (by omega)
      rw [e] at h3
      rw [if_neg c1, if_pos c2, h3]
    · rw [if_neg c1, if_neg c2]
end OV
def maO (q : Nat) (S : Nat → Nat → Int) : am_E := .inr (5, [.inr (.inr (some (q + 1))), .inr (.inr (some (q + 2))), .inr (.inr (some (q + 3))), .inr (.inr (some (q + 4))), .inr (.inr (some (q + 5))), .inr (.inr (some (q + 6))), .inr (.inr (some (q + 7))), .inr (.inr (some (q + 8))), .inr (.inr (some (q + 9))), .inr (.inr (some (q + 10))), .inr (.inr (some (q + 11))), .inr (.inr (some (q + 12))), .inr (.inr (some (q + 13))), .inr (.inr (some (q + 14))), .inl (S 14 0), .inl (S 15 0), .inl (S 16 0)])
def maC : List (Nat × (Nat × Nat)) := [(0, 0, 1001), (1, 0, 1001), (2, 0, 1001), (3, 0, 1001), (4, 0, 1001), (5, 0, 1001), (6, 0, 1001), (7, 0, 1001), (8, 0, 1001), (9, 0, 1024), (10, 0, 1001), (11, 0, 11), (12, 0, 1002), (13, 0, 1001)]
def maH (q : Nat) (g : am_H) (S : Nat → Nat → Int) : am_H := xH (maO q) maC q g S
theorem maC_nd : (maC.map (fun c => c.1)).Nodup := by decide
theorem maH_m {q : Nat} {g : am_H} {S : Nat → Nat → Int} : (maH q g S).2 q = maO q S := xH_m
theorem maH_out {q : Nat} {g : am_H} {S : Nat → Nat → Int} {c : Nat} (hc : c < q ∨ q + 15 ≤ c) : (maH q g S).2 c = g.2 c := xH_out hc
theorem maH_fr {q : Nat} {g : am_H} {S : Nat → Nat → Int} : am_fr q (q + 15) g (maH q g S) := xH_fr
theorem maH_H {q : Nat} {g : am_H} {S : Nat → Nat → Int} {S' : Nat → Nat → Int} : maH q (maH q g S) S' = maH q g S' := xH_xH
theorem maH_1 {q : Nat} {g : am_H} {S : Nat → Nat → Int} : (maH q g S).1 = g.1 := rfl
theorem maH_keep {q : Nat} {S : Nat → Nat → Int} {h h' : am_H} {lo hi : Nat} (H : maH q h S = h) (F : am_fr lo hi h h') (hd : q + 15 ≤ lo ∨ hi ≤ q) : maH q h' S = h' := xH_keep H F hd
theorem ma_O {q : Nat} {g : am_H} {S : Nat → Nat → Int} : am_isO (maH q g S) q 5 = true := rd_O maH_m
theorem ma_gI_14 {q : Nat} {g : am_H} {S : Nat → Nat → Int} : am_gI (maH q g S) q 5 14 = some (S 14 0) := rd_gI maH_m rfl
theorem ma_p_14 {q : Nat} {g : am_H} {S : Nat → Nat → Int} {x : Int} : am_p (maH q g S) q 5 14 (.inl x) = some (maH q g (am_fu S 14 (fun _ => x))) := (rd_p maH_m (Nat.le_of_ble_eq_true rfl)).trans (congrArg some (xH_up0 rfl rfl))
theorem ma_gI_15 {q : Nat} {g : am_H} {S : Nat → Nat → Int} : am_gI (maH q g S) q 5 15 = some (S 15 0) := rd_gI maH_m rfl
theorem ma_p_15 {q : Nat} {g : am_H} {S : Nat → Nat → Int} {x : Int} : am_p (maH q g S) q 5 15 (.inl x) = some (maH q g (am_fu S 15 (fun _ => x))) := (rd_p maH_m (Nat.le_of_ble_eq_true rfl)).trans (congrArg some (xH_up0 rfl rfl))
theorem ma_gI_16 {q : Nat} {g : am_H} {S : Nat → Nat → Int} : am_gI (maH q g S) q 5 16 = some (S 16 0) := rd_gI maH_m rfl
theorem ma_p_16 {q : Nat} {g : am_H} {S : Nat → Nat → Int} {x : Int} : am_p (maH q g S) q 5 16 (.inl x) = some (maH q g (am_fu S 16 (fun _ => x))) := (rd_p maH_m (Nat.le_of_ble_eq_true rfl)).trans (congrArg some (xH_up0 rfl rfl))
theorem ma_gR_0 {q : Nat} {g : am_H} {S : Nat → Nat → Int} : am_gR (maH q g S) q 5 0 = some (q + 1) := rd_gR maH_m rfl
theorem ma_c_0 {q : Nat} {g : am_H} {S : Nat → Nat → Int} : (maH q g S).2 (q + 1) = .inl (0, 1001, .inl (S 0)) := xH_c (i := 0) (Nat.le_of_ble_eq_true rfl)
theorem ma_l_0 {q : Nat} {g : am_H} {S : Nat → Nat → Int} {i : Int} (h1 : 0 ≤ i) (h2 : i < 1001) : am_lI (maH q g S) (q + 1) i = some (S 0 i.toNat) := rd_lI ma_c_0 h1 h2
theorem ma_s_0 {q : Nat} {g : am_H} {S : Nat → Nat → Int} {i x : Int} (h1 : 0 ≤ i) (h2 : i < 1001) : am_sI (maH q g S) (q + 1) i x = some (maH q g (am_fu S 0 (am_fu (S 0) i.toNat x))) := (rd_sI ma_c_0 h1 h2).trans (congrArg some (xH_up1 (i := 0) rfl rfl maC_nd))
theorem ma_gR_1 {q : Nat} {g : am_H} {S : Nat → Nat → Int} : am_gR (maH q g S) q 5 1 = some (q + 2) := rd_gR maH_m rfl
theorem ma_c_1 {q : Nat} {g : am_H} {S : Nat → Nat → Int} : (maH q g S).2 (q + 2) = .inl (0, 1001, .inl (S 1)) := xH_c (i := 1) (Nat.le_of_ble_eq_true rfl)
theorem ma_l_1 {q : Nat} {g : am_H} {S : Nat → Nat → Int} {i : Int} (h1 : 0 ≤ i) (h2 : i < 1001) : am_lI (maH q g S) (q + 2) i = some (S 1 i.toNat) := rd_lI ma_c_1 h1 h2
theorem ma_s_1 {q : Nat} {g : am_H} {S : Nat → Nat → Int} {i x : Int} (h1 : 0 ≤ i) (h2 : i < 1001) : am_sI (maH q g S) (q + 2) i x = some (maH q g (am_fu S 1 (am_fu (S 1) i.toNat x))) := (rd_sI ma_c_1 h1 h2).trans (congrArg some (xH_up1 (i := 1) rfl rfl maC_nd))
theorem ma_gR_2 {q : Nat} {g : am_H} {S : Nat → Nat → Int} : am_gR (maH q g S) q 5 2 = some (q + 3) := rd_gR maH_m rfl
theorem ma_c_2 {q : Nat} {g : am_H} {S : Nat → Nat → Int} : (maH q g S).2 (q + 3) = .inl (0, 1001, .inl (S 2)) := xH_c (i := 2) (Nat.le_of_ble_eq_true rfl)
theorem ma_l_2 {q : Nat} {g : am_H} {S : Nat → Nat → Int} {i : Int} (h1 : 0 ≤ i) (h2 : i < 1001) : am_lI (maH q g S) (q + 3) i = some (S 2 i.toNat) := rd_lI ma_c_2 h1 h2
theorem ma_s_2 {q : Nat} {g : am_H} {S : Nat → Nat → Int} {i x : Int} (h1 : 0 ≤ i) (h2 : i < 1001) : am_sI (maH q g S) (q + 3) i x = some (maH q g (am_fu S 2 (am_fu (S 2) i.toNat x))) := (rd_sI ma_c_2 h1 h2).trans (congrArg some (xH_up1 (i := 2) rfl rfl maC_nd))
theorem ma_gR_3 {q : Nat} {g : am_H} {S : Nat → Nat → Int} : am_gR (maH q g S) q 5 3 = some (q + 4) := rd_gR maH_m rfl
theorem ma_c_3 {q : Nat} {g : am_H} {S : Nat → Nat → Int} : (maH q g S).2 (q + 4) = .inl (0, 1001, .inl (S 3)) := xH_c (i := 3) (Nat.le_of_ble_eq_true rfl)
theorem ma_l_3 {q : Nat} {g : am_H} {S : Nat → Nat → Int} {i : Int} (h1 : 0 ≤ i) (h2 : i < 1001) : am_lI (maH q g S) (q + 4) i = some (S 3 i.toNat) := rd_lI ma_c_3 h1 h2
theorem ma_s_3 {q : Nat} {g : am_H} {S : Nat → Nat → Int} {i x : Int} (h1 : 0 ≤ i) (h2 : i < 1001) : am_sI (maH q g S) (q + 4) i x = some (maH q g (am_fu S 3 (am_fu (S 3) i.toNat x))) := (rd_sI ma_c_3 h1 h2).trans (congrArg some (xH_up1 (i := 3) rfl rfl maC_nd))
theorem ma_gR_4 {q : Nat} {g : am_H} {S : Nat → Nat → Int} : am_gR (maH q g S) q 5 4 = some (q + 5) := rd_gR maH_m rfl
theorem ma_c_4 {q : Nat} {g : am_H} {S : Nat → Nat → Int} : (maH q g S).2 (q + 5) = .inl (0, 1001, .inl (S 4)) := xH_c (i := 4) (Nat.le_of_ble_eq_true rfl)
theorem ma_l_4 {q : Nat} {g : am_H} {S : Nat → Nat → Int} {i : Int} (h1 : 0 ≤ i) (h2 : i < 1001) : am_lI (maH q g S) (q + 5) i = some (S 4 i.toNat) := rd_lI ma_c_4 h1 h2
theorem ma_s_4 {q : Nat} {g : am_H} {S : Nat → Nat → Int} {i x : Int} (h1 : 0 ≤ i) (h2 : i < 1001) : am_sI (maH q g S) (q + 5) i x = some (maH q g (am_fu S 4 (am_fu (S 4) i.toNat x))) := (rd_sI ma_c_4 h1 h2).trans (congrArg some (xH_up1 (i := 4) rfl rfl maC_nd))
theorem ma_gR_5 {q : Nat} {g : am_H} {S : Nat → Nat → Int} : am_gR (maH q g S) q 5 5 = some (q + 6) := rd_gR maH_m rfl
theorem ma_c_5 {q : Nat} {g : am_H} {S : Nat → Nat → Int} : (maH q g S).2 (q + 6) = .inl (0, 1001, .inl (S 5)) := xH_c (i := 5) (Nat.le_of_ble_eq_true rfl)
theorem ma_l_5 {q : Nat} {g : am_H} {S : Nat → Nat → Int} {i : Int} (h1 : 0 ≤ i) (h2 : i < 1001) : am_lI (maH q g S) (q + 6) i = some (S 5 i.toNat) := rd_lI ma_c_5 h1 h2
theorem ma_s_5 {q : Nat} {g : am_H} {S : Nat → Nat → Int} {i x : Int} (h1 : 0 ≤ i) (h2 : i < 1001) : am_sI (maH q g S) (q + 6) i x = some (maH q g (am_fu S 5 (am_fu (S 5) i.toNat x))) := (rd_sI ma_c_5 h1 h2).trans (congrArg some (xH_up1 (i := 5) rfl rfl maC_nd))
theorem ma_gR_6 {q : Nat} {g : am_H} {S : Nat → Nat → Int} : am_gR (maH q g S) q 5 6 = some (q + 7) := rd_gR maH_m rfl
theorem ma_c_6 {q : Nat} {g : am_H} {S : Nat → Nat → Int} : (maH q g S).2 (q + 7) = .inl (0, 1001, .inl (S 6)) := xH_c (i := 6) (Nat.le_of_ble_eq_true rfl)
theorem ma_l_6 {q : Nat} {g : am_H} {S : Nat → Nat → Int} {i : Int} (h1 : 0 ≤ i) (h2 : i < 1001) : am_lI (maH q g S) (q + 7) i = some (S 6 i.toNat) := rd_lI ma_c_6 h1 h2
theorem ma_s_6 {q : Nat} {g : am_H} {S : Nat → Nat → Int} {i x : Int} (h1 : 0 ≤ i) (h2 : i < 1001) : am_sI (maH q g S) (q + 7) i x = some (maH q g (am_fu S 6 (am_fu (S 6) i.toNat x))) := (rd_sI ma_c_6 h1 h2).trans (congrArg some (xH_up1 (i := 6) rfl rfl maC_nd))
theorem ma_gR_7 {q : Nat} {g : am_H} {S : Nat → Nat → Int} : am_gR (maH q g S) q 5 7 = some (q + 8) := rd_gR maH_m rfl
theorem ma_c_7 {q : Nat} {g : am_H} {S : Nat → Nat → Int} : (maH q g S).2 (q + 8) = .inl (0, 1001, .inl (S 7)) := xH_c (i := 7) (Nat.le_of_ble_eq_true rfl)
theorem ma_l_7 {q : Nat} {g : am_H} {S : Nat → Nat → Int} {i : Int} (h1 : 0 ≤ i) (h2 : i < 1001) : am_lI (maH q g S) (q + 8) i = some (S 7 i.toNat) := rd_lI ma_c_7 h1 h2
theorem ma_s_7 {q : Nat} {g : am_H} {S : Nat → Nat → Int} {i x : Int} (h1 : 0 ≤ i) (h2 : i < 1001) : am_sI (maH q g S) (q + 8) i x = some (maH q g (am_fu S 7 (am_fu (S 7) i.toNat x))) := (rd_sI ma_c_7 h1 h2).trans (congrArg some (xH_up1 (i := 7) rfl rfl maC_nd))
theorem ma_gR_8 {q : Nat} {g : am_H} {S : Nat → Nat → Int} : am_gR (maH q g S) q 5 8 = some (q + 9) := rd_gR maH_m rfl
theorem ma_c_8 {q : Nat} {g : am_H} {S : Nat → Nat → Int} : (maH q g S).2 (q + 9) = .inl (0, 1001, .inl (S 8)) := xH_c (i := 8) (Nat.le_of_ble_eq_true rfl)
theorem ma_l_8 {q : Nat} {g : am_H} {S : Nat → Nat → Int} {i : Int} (h1 : 0 ≤ i) (h2 : i < 1001) : am_lI (maH q g S) (q + 9) i = some (S 8 i.toNat) := rd_lI ma_c_8 h1 h2
theorem ma_s_8 {q : Nat} {g : am_H} {S : Nat → Nat → Int} {i x : Int} (h1 : 0 ≤ i) (h2 : i < 1001) : am_sI (maH q g S) (q + 9) i x = some (maH q g (am_fu S 8 (am_fu (S 8) i.toNat x))) := (rd_sI ma_c_8 h1 h2).trans (congrArg some (xH_up1 (i := 8) rfl rfl maC_nd))
theorem ma_gR_9 {q : Nat} {g : am_H} {S : Nat → Nat → Int} : am_gR (maH q g S) q 5 9 = some (q + 10) := rd_gR maH_m rfl
theorem ma_c_9 {q : Nat} {g : am_H} {S : Nat → Nat → Int} : (maH q g S).2 (q + 10) = .inl (0, 1024, .inl (S 9)) := xH_c (i := 9) (Nat.le_of_ble_eq_true rfl)
theorem ma_l_9 {q : Nat} {g : am_H} {S : Nat → Nat → Int} {i : Int} (h1 : 0 ≤ i) (h2 : i < 1024) : am_lI (maH q g S) (q + 10) i = some (S 9 i.toNat) := rd_lI ma_c_9 h1 h2
theorem ma_s_9 {q : Nat} {g : am_H} {S : Nat → Nat → Int} {i x : Int} (h1 : 0 ≤ i) (h2 : i < 1024) : am_sI (maH q g S) (q + 10) i x = some (maH q g (am_fu S 9 (am_fu (S 9) i.toNat x))) := (rd_sI ma_c_9 h1 h2).trans (congrArg some (xH_up1 (i := 9) rfl rfl maC_nd))
theorem ma_gR_10 {q : Nat} {g : am_H} {S : Nat → Nat → Int} : am_gR (maH q g S) q 5 10 = some (q + 11) := rd_gR maH_m rfl
theorem ma_c_10 {q : Nat} {g : am_H} {S : Nat → Nat → Int} : (maH q g S).2 (q + 11) = .inl (0, 1001, .inl (S 10)) := xH_c (i := 10) (Nat.le_of_ble_eq_true rfl)
theorem ma_l_10 {q : Nat} {g : am_H} {S : Nat → Nat → Int} {i : Int} (h1 : 0 ≤ i) (h2 : i < 1001) : am_lI (maH q g S) (q + 11) i = some (S 10 i.toNat) := rd_lI ma_c_10 h1 h2
theorem ma_s_10 {q : Nat} {g : am_H} {S : Nat → Nat → Int} {i x : Int} (h1 : 0 ≤ i) (h2 : i < 1001) : am_sI (maH q g S) (q + 11) i x = some (maH q g (am_fu S 10 (am_fu (S 10) i.toNat x))) := (rd_sI ma_c_10 h1 h2).trans (congrArg some (xH_up1 (i := 10) rfl rfl maC_nd))
theorem ma_gR_11 {q : Nat} {g : am_H} {S : Nat → Nat → Int} : am_gR (maH q g S) q 5 11 = some (q + 12) := rd_gR maH_m rfl
theorem ma_c_11 {q : Nat} {g : am_H} {S : Nat → Nat → Int} : (maH q g S).2 (q + 12) = .inl (0, 11, .inl (S 11)) := xH_c (i := 11) (Nat.le_of_ble_eq_true rfl)
theorem ma_l_11 {q : Nat} {g : am_H} {S : Nat → Nat → Int} {i : Int} (h1 : 0 ≤ i) (h2 : i < 11) : am_lI (maH q g S) (q + 12) i = some (S 11 i.toNat) := rd_lI ma_c_11 h1 h2
theorem ma_s_11 {q : Nat} {g : am_H} {S : Nat → Nat → Int} {i x : Int} (h1 : 0 ≤ i) (h2 : i < 11) : am_sI (maH q g S) (q + 12) i x = some (maH q g (am_fu S 11 (am_fu (S 11) i.toNat x))) := (rd_sI ma_c_11 h1 h2).trans (congrArg some (xH_up1 (i := 11) rfl rfl maC_nd))
theorem ma_gR_12 {q : Nat} {g : am_H} {S : Nat → Nat → Int} : am_gR (maH q g S) q 5 12 = some (q + 13) := rd_gR maH_m rfl
theorem ma_c_12 {q : Nat} {g : am_H} {S : Nat → Nat → Int} : (maH q g S).2 (q + 13) = .inl (0, 1002, .inl (S 12)) := xH_c (i := 12) (Nat.le_of_ble_eq_true rfl)
theorem ma_l_12 {q : Nat} {g : am_H} {S : Nat → Nat → Int} {i : Int} (h1 : 0 ≤ i) (h2 : i < 1002) : am_lI (maH q g S) (q + 13) i = some (S 12 i.toNat) := rd_lI ma_c_12 h1 h2
theorem ma_s_12 {q : Nat} {g : am_H} {S : Nat → Nat → Int} {i x : Int} (h1 : 0 ≤ i) (h2 : i < 1002) : am_sI (maH q g S) (q + 13) i x = some (maH q g (am_fu S 12 (am_fu (S 12) i.toNat x))) := (rd_sI ma_c_12 h1 h2).trans (congrArg some (xH_up1 (i := 12) rfl rfl maC_nd))
theorem ma_gR_13 {q : Nat} {g : am_H} {S : Nat → Nat → Int} : am_gR (maH q g S) q 5 13 = some (q + 14) := rd_gR maH_m rfl
theorem ma_c_13 {q : Nat} {g : am_H} {S : Nat → Nat → Int} : (maH q g S).2 (q + 14) = .inl (0, 1001, .inl (S 13)) := xH_c (i := 13) (Nat.le_of_ble_eq_true rfl)
theorem ma_l_13 {q : Nat} {g : am_H} {S : Nat → Nat → Int} {i : Int} (h1 : 0 ≤ i) (h2 : i < 1001) : am_lI (maH q g S) (q + 14) i = some (S 13 i.toNat) := rd_lI ma_c_13 h1 h2
theorem ma_s_13 {q : Nat} {g : am_H} {S : Nat → Nat → Int} {i x : Int} (h1 : 0 ≤ i) (h2 : i < 1001) : am_sI (maH q g S) (q + 14) i x = some (maH q g (am_fu S 13 (am_fu (S 13) i.toNat x))) := (rd_sI ma_c_13 h1 h2).trans (congrArg some (xH_up1 (i := 13) rfl rfl maC_nd))
def paO (q : Nat) (S : Nat → Nat → Int) : am_E := .inr (6, [.inr (.inr (some (q + 1))), .inl (S 1 0), .inl (S 2 0)])
def paC : List (Nat × (Nat × Nat)) := [(0, 0, 400)]
def paH (q : Nat) (g : am_H) (S : Nat → Nat → Int) : am_H := xH (paO q) paC q g S
theorem paC_nd : (paC.map (fun c => c.1)).Nodup := by decide
theorem paH_m {q : Nat} {g : am_H} {S : Nat → Nat → Int} : (paH q g S).2 q = paO q S := xH_m
theorem paH_out {q : Nat} {g : am_H} {S : Nat → Nat → Int} {c : Nat} (hc : c < q ∨ q + 2 ≤ c) : (paH q g S).2 c = g.2 c := xH_out hc
theorem paH_fr {q : Nat} {g : am_H} {S : Nat → Nat → Int} : am_fr q (q + 2) g (paH q g S) := xH_fr
theorem paH_H {q : Nat} {g : am_H} {S : Nat → Nat → Int} {S' : Nat → Nat → Int} : paH q (paH q g S) S' = paH q g S' := xH_xH
theorem paH_1 {q : Nat} {g : am_H} {S : Nat → Nat → Int} : (paH q g S).1 = g.1 := rfl
theorem paH_keep {q : Nat} {S : Nat → Nat → Int} {h h' : am_H} {lo hi : Nat} (H : paH q h S = h) (F : am_fr lo hi h h') (hd : q + 2 ≤ lo ∨ hi ≤ q) : paH q h' S = h' := xH_keep H F hd
theorem pa_O {q : Nat} {g : am_H} {S : Nat → Nat → Int} : am_isO (paH q g S) q 6 = true := rd_O paH_m
theorem pa_gI_1 {q : Nat} {g : am_H} {S : Nat → Nat → Int} : am_gI (paH q g S) q 6 1 = some (S 1 0) := rd_gI paH_m rfl
theorem pa_p_1 {q : Nat} {g : am_H} {S : Nat → Nat → Int} {x : Int} : am_p (paH q g S) q 6 1 (.inl x) = some (paH q g (am_fu S 1 (fun _ => x))) := (rd_p paH_m (Nat.le_of_ble_eq_true rfl)).trans (congrArg some (xH_up0 rfl rfl))
theorem pa_gI_2 {q : Nat} {g : am_H} {S : Nat → Nat → Int} : am_gI (paH q g S) q 6 2 = some (S 2 0) := rd_gI paH_m rfl
theorem pa_p_2 {q : Nat} {g : am_H} {S : Nat → Nat → Int} {x : Int} : am_p (paH q g S) q 6 2 (.inl x) = some (paH q g (am_fu S 2 (fun _ => x))) := (rd_p paH_m (Nat.le_of_ble_eq_true rfl)).trans (congrArg some (xH_up0 rfl rfl))
theorem pa_gR_0 {q : Nat} {g : am_H} {S : Nat → Nat → Int} : am_gR (paH q g S) q 6 0 = some (q + 1) := rd_gR paH_m rfl
theorem pa_c_0 {q : Nat} {g : am_H} {S : Nat → Nat → Int} : (paH q g S).2 (q + 1) = .inl (0, 400, .inl (S 0)) := xH_c (i := 0) (Nat.le_of_ble_eq_true rfl)
theorem pa_l_0 {q : Nat} {g : am_H} {S : Nat → Nat → Int} {i : Int} (h1 : 0 ≤ i) (h2 : i < 400) : am_lI (paH q g S) (q + 1) i = some (S 0 i.toNat) := rd_lI pa_c_0 h1 h2
theorem pa_s_0 {q : Nat} {g : am_H} {S : Nat → Nat → Int} {i x : Int} (h1 : 0 ≤ i) (h2 : i < 400) : am_sI (paH q g S) (q + 1) i x = some (paH q g (am_fu S 0 (am_fu (S 0) i.toNat x))) := (rd_sI pa_c_0 h1 h2).trans (congrArg some (xH_up1 (i := 0) rfl rfl paC_nd))
def unO (ta : Nat) (q : Nat) (S : Nat → Nat → Int) : am_E := .inr (8, [.inr (.inr (some ta)), .inr (.inr (some (q + 1))), .inr (.inr (some (q + 2))), .inr (.inr (some (q + 3))), .inr (.inr (some (q + 4))), .inr (.inr (some (q + 5))), .inl (S 6 0), .inl (S 7 0), .inl (S 8 0), .inl (S 9 0), .inl (S 10 0), .inl (S 11 0)])
def unC : List (Nat × (Nat × Nat)) := [(1, 0, 1001), (2, 0, 1002), (3, 0, 400), (4, 0, 400), (5, 0, 400)]
def unH (ta : Nat) (q : Nat) (g : am_H) (S : Nat → Nat → Int) : am_H := xH (unO ta q) unC q g S
theorem unC_nd : (unC.map (fun c => c.1)).Nodup := by decide
theorem unH_m {ta : Nat} {q : Nat} {g : am_H} {S : Nat → Nat → Int} : (unH ta q g S).2 q = unO ta q S := xH_m
theorem unH_out {ta : Nat} {q : Nat} {g : am_H} {S : Nat → Nat → Int} {c : Nat} (hc : c < q ∨ q + 6 ≤ c) : (unH ta q g S).2 c = g.2 c := xH_out hc
theorem unH_fr {ta : Nat} {q : Nat} {g : am_H} {S : Nat → Nat → Int} : am_fr q (q + 6) g (unH ta q g S) := xH_fr
theorem unH_H {ta : Nat} {q : Nat} {g : am_H} {S : Nat → Nat → Int} {S' : Nat → Nat → Int} : unH ta q (unH ta q g S) S' = unH ta q g S' := xH_xH
theorem unH_1 {ta : Nat} {q : Nat} {g : am_H} {S : Nat → Nat → Int} : (unH ta q g S).1 = g.1 := rfl
theorem unH_keep {ta : Nat} {q : Nat} {S : Nat → Nat → Int} {h h' : am_H} {lo hi : Nat} (H : unH ta q h S = h) (F : am_fr lo hi h h') (hd : q + 6 ≤ lo ∨ hi ≤ q) : unH ta q h' S = h' := xH_keep H F hd
theorem un_O {ta : Nat} {q : Nat} {g : am_H} {S : Nat → Nat → Int} : am_isO (unH ta q g S) q 8 = true := rd_O unH_m
theorem un_gI_6 {ta : Nat} {q : Nat} {g : am_H} {S : Nat → Nat → Int} : am_gI (unH ta q g S) q 8 6 = some (S 6 0) := rd_gI unH_m rfl
theorem un_p_6 {ta : Nat} {q : Nat} {g : am_H} {S : Nat → Nat → Int} {x : Int} : am_p (unH ta q g S) q 8 6 (.inl x) = some (unH ta q g (am_fu S 6 (fun _ => x))) := (rd_p unH_m (Nat.le_of_ble_eq_true rfl)).trans (congrArg some (xH_up0 rfl rfl))
theorem un_gI_7 {ta : Nat} {q : Nat} {g : am_H} {S : Nat → Nat → Int} : am_gI (unH ta q g S) q 8 7 = some (S 7 0) := rd_gI unH_m rfl
theorem un_p_7 {ta : Nat} {q : Nat} {g : am_H} {S : Nat → Nat → Int} {x : Int} : am_p (unH ta q g S) q 8 7 (.inl x) = some (unH ta q g (am_fu S 7 (fun _ => x))) := (rd_p unH_m (Nat.le_of_ble_eq_true rfl)).trans (congrArg some (xH_up0 rfl rfl))
theorem un_gI_8 {ta : Nat} {q : Nat} {g : am_H} {S : Nat → Nat → Int} : am_gI (unH ta q g S) q 8 8 = some (S 8 0) := rd_gI unH_m rfl
theorem un_p_8 {ta : Nat} {q : Nat} {g : am_H} {S : Nat → Nat → Int} {x : Int} : am_p (unH ta q g S) q 8 8 (.inl x) = some (unH ta q g (am_fu S 8 (fun _ => x))) := (rd_p unH_m (Nat.le_of_ble_eq_true rfl)).trans (congrArg some (xH_up0 rfl rfl))
theorem un_gI_9 {ta : Nat} {q : Nat} {g : am_H} {S : Nat → Nat → Int} : am_gI (unH ta q g S) q 8 9 = some (S 9 0) := rd_gI unH_m rfl
theorem un_p_9 {ta : Nat} {q : Nat} {g : am_H} {S : Nat → Nat → Int} {x : Int} : am_p (unH ta q g S) q 8 9 (.inl x) = some (unH ta q g (am_fu S 9 (fun _ => x))) := (rd_p unH_m (Nat.le_of_ble_eq_true rfl)).trans (congrArg some (xH_up0 rfl rfl))
theorem un_gI_10 {ta : Nat} {q : Nat} {g : am_H} {S : Nat → Nat → Int} : am_gI (unH ta q g S) q 8 10 = some (S 10 0) := rd_gI unH_m rfl
theorem un_p_10 {ta : Nat} {q : Nat} {g : am_H} {S : Nat → Nat → Int} {x : Int} : am_p (unH ta q g S) q 8 10 (.inl x) = some (unH ta q g (am_fu S 10 (fun _ => x))) := (rd_p unH_m (Nat.le_of_ble_eq_true rfl)).trans (congrArg some (xH_up0 rfl rfl))
theorem un_gI_11 {ta : Nat} {q : Nat} {g : am_H} {S : Nat → Nat → Int} : am_gI (unH ta q g S) q 8 11 = some (S 11 0) := rd_gI unH_m rfl
theorem un_p_11 {ta : Nat} {q : Nat} {g : am_H} {S : Nat → Nat → Int} {x : Int} : am_p (unH ta q g S) q 8 11 (.inl x) = some (unH ta q g (am_fu S 11 (fun _ => x))) := (rd_p unH_m (Nat.le_of_ble_eq_true rfl)).trans (congrArg some (xH_up0 rfl rfl))
theorem un_gR_0 {ta : Nat} {q : Nat} {g : am_H} {S : Nat → Nat → Int} : am_gR (unH ta q g S) q 8 0 = some ta := rd_gR unH_m rfl
theorem un_gR_1 {ta : Nat} {q : Nat} {g : am_H} {S : Nat → Nat → Int} : am_gR (unH ta q g S) q 8 1 = some (q + 1) := rd_gR unH_m rfl
theorem un_c_1 {ta : Nat} {q : Nat} {g : am_H} {S : Nat → Nat → Int} : (unH ta q g S).2 (q + 1) = .inl (0, 1001, .inl (S 1)) := xH_c (i := 0) (Nat.le_of_ble_eq_true rfl)
theorem un_l_1 {ta : Nat} {q : Nat} {g : am_H} {S : Nat → Nat → Int} {i : Int} (h1 : 0 ≤ i) (h2 : i < 1001) : am_lI (unH ta q g S) (q + 1) i = some (S 1 i.toNat) := rd_lI un_c_1 h1 h2
theorem un_s_1 {ta : Nat} {q : Nat} {g : am_H} {S : Nat → Nat → Int} {i x : Int} (h1 : 0 ≤ i) (h2 : i < 1001) : am_sI (unH ta q g S) (q + 1) i x = some (unH ta q g (am_fu S 1 (am_fu (S 1) i.toNat x))) := (rd_sI un_c_1 h1 h2).trans (congrArg some (xH_up1 (i := 0) rfl rfl unC_nd))
theorem un_gR_2 {ta : Nat} {q : Nat} {g : am_H} {S : Nat → Nat → Int} : am_gR (unH ta q g S) q 8 2 = some (q + 2) := rd_gR unH_m rfl
theorem un_c_2 {ta : Nat} {q : Nat} {g : am_H} {S : Nat → Nat → Int} : (unH ta q g S).2 (q + 2) = .inl (0, 1002, .inl (S 2)) := xH_c (i := 1) (Nat.le_of_ble_eq_true rfl)
theorem un_l_2 {ta : Nat} {q : Nat} {g : am_H} {S : Nat → Nat → Int} {i : Int} (h1 : 0 ≤ i) (h2 : i < 1002) : am_lI (unH ta q g S) (q + 2) i = some (S 2 i.toNat) := rd_lI un_c_2 h1 h2
theorem un_s_2 {ta : Nat} {q : Nat} {g : am_H} {S : Nat → Nat → Int} {i x : Int} (h1 : 0 ≤ i) (h2 : i < 1002) : am_sI (unH ta q g S) (q + 2) i x = some (unH ta q g (am_fu S 2 (am_fu (S 2) i.toNat x))) := (rd_sI un_c_2 h1 h2).trans (congrArg some (xH_up1 (i := 1) rfl rfl unC_nd))
theorem un_gR_3 {ta : Nat} {q : Nat} {g : am_H} {S : Nat → Nat → Int} : am_gR (unH ta q g S) q 8 3 = some (q + 3) := rd_gR unH_m rfl
theorem un_c_3 {ta : Nat} {q : Nat} {g : am_H} {S : Nat → Nat → Int} : (unH ta q g S).2 (q + 3) = .inl (0, 400, .inl (S 3)) := xH_c (i := 2) (Nat.le_of_ble_eq_true rfl)
theorem un_l_3 {ta : Nat} {q : Nat} {g : am_H} {S : Nat → Nat → Int} {i : Int} (h1 : 0 ≤ i) (h2 : i < 400) : am_lI (unH ta q g S) (q + 3) i = some (S 3 i.toNat) := rd_lI un_c_3 h1 h2
theorem un_s_3 {ta : Nat} {q : Nat} {g : am_H} {S : Nat → Nat → Int} {i x : Int} (h1 : 0 ≤ i) (h2 : i < 400) : am_sI (unH ta q g S) (q + 3) i x = some (unH ta q g (am_fu S 3 (am_fu (S 3) i.toNat x))) := (rd_sI un_c_3 h1 h2).trans (congrArg some (xH_up1 (i := 2) rfl rfl unC_nd))
theorem un_gR_4 {ta : Nat} {q : Nat} {g : am_H} {S : Nat → Nat → Int} : am_gR (unH ta q g S) q 8 4 = some (q + 4) := rd_gR unH_m rfl
theorem un_c_4 {ta : Nat} {q : Nat} {g : am_H} {S : Nat → Nat → Int} : (unH ta q g S).2 (q + 4) = .inl (0, 400, .inl (S 4)) := xH_c (i := 3) (Nat.le_of_ble_eq_true rfl)
theorem un_l_4 {ta : Nat} {q : Nat} {g : am_H} {S : Nat → Nat → Int} {i : Int} (h1 : 0 ≤ i) (h2 : i < 400) : am_lI (unH ta q g S) (q + 4) i = some (S 4 i.toNat) := rd_lI un_c_4 h1 h2
theorem un_s_4 {ta : Nat} {q : Nat} {g : am_H} {S : Nat → Nat → Int} {i x : Int} (h1 : 0 ≤ i) (h2 : i < 400) : am_sI (unH ta q g S) (q + 4) i x = some (unH ta q g (am_fu S 4 (am_fu (S 4) i.toNat x))) := (rd_sI un_c_4 h1 h2).trans (congrArg some (xH_up1 (i := 3) rfl rfl unC_nd))
theorem un_gR_5 {ta : Nat} {q : Nat} {g : am_H} {S : Nat → Nat → Int} : am_gR (unH ta q g S) q 8 5 = some (q + 5) := rd_gR unH_m rfl
theorem un_c_5 {ta : Nat} {q : Nat} {g : am_H} {S : Nat → Nat → Int} : (unH ta q g S).2 (q + 5) = .inl (0, 400, .inl (S 5)) := xH_c (i := 4) (Nat.le_of_ble_eq_true rfl)
theorem un_l_5 {ta : Nat} {q : Nat} {g : am_H} {S : Nat → Nat → Int} {i : Int} (h1 : 0 ≤ i) (h2 : i < 400) : am_lI (unH ta q g S) (q + 5) i = some (S 5 i.toNat) := rd_lI un_c_5 h1 h2
theorem un_s_5 {ta : Nat} {q : Nat} {g : am_H} {S : Nat → Nat → Int} {i x : Int} (h1 : 0 ≤ i) (h2 : i < 400) : am_sI (unH ta q g S) (q + 5) i x = some (unH ta q g (am_fu S 5 (am_fu (S 5) i.toNat x))) := (rd_sI un_c_5 h1 h2).trans (congrArg some (xH_up1 (i := 4) rfl rfl unC_nd))
def cuO (ta bk : Nat) (q : Nat) (S : Nat → Nat → Int) : am_E := .inr (1, [.inr (.inr (some ta)), .inr (.inr (some bk)), .inr (.inr (some (q + 1)))])
def cuC : List (Nat × (Nat × Nat)) := [(2, 0, 61)]
def cuH (ta bk : Nat) (q : Nat) (g : am_H) (S : Nat → Nat → Int) : am_H := xH (cuO ta bk q) cuC q g S
theorem cuC_nd : (cuC.map (fun c => c.1)).Nodup := by decide
theorem cuH_m {ta bk : Nat} {q : Nat} {g : am_H} {S : Nat → Nat → Int} : (cuH ta bk q g S).2 q = cuO ta bk q S := xH_m
theorem cuH_out {ta bk : Nat} {q : Nat} {g : am_H} {S : Nat → Nat → Int} {c : Nat} (hc : c < q ∨ q + 2 ≤ c) : (cuH ta bk q g S).2 c = g.2 c := xH_out hc
theorem cuH_fr {ta bk : Nat} {q : Nat} {g : am_H} {S : Nat → Nat → Int} : am_fr q (q + 2) g (cuH ta bk q g S) := xH_fr
theorem cuH_H {ta bk : Nat} {q : Nat} {g : am_H} {S : Nat → Nat → Int} {S' : Nat → Nat → Int} : cuH ta bk q (cuH ta bk q g S) S' = cuH ta bk q g S' := xH_xH
theorem cuH_1 {ta bk : Nat} {q : Nat} {g : am_H} {S : Nat → Nat → Int} : (cuH ta bk q g S).1 = g.1 := rfl
theorem cuH_keep {ta bk : Nat} {q : Nat} {S : Nat → Nat → Int} {h h' : am_H} {lo hi : Nat} (H : cuH ta bk q h S = h) (F : am_fr lo hi h h') (hd : q + 2 ≤ lo ∨ hi ≤ q) : cuH ta bk q h' S = h' := xH_keep H F hd
theorem cu_O {ta bk : Nat} {q : Nat} {g : am_H} {S : Nat → Nat → Int} : am_isO (cuH ta bk q g S) q 1 = true := rd_O cuH_m
theorem cu_gR_0 {ta bk : Nat} {q : Nat} {g : am_H} {S : Nat → Nat → Int} : am_gR (cuH ta bk q g S) q 1 0 = some ta := rd_gR cuH_m rfl
theorem cu_gR_1 {ta bk : Nat} {q : Nat} {g : am_H} {S : Nat → Nat → Int} : am_gR (cuH ta bk q g S) q 1 1 = some bk := rd_gR cuH_m rfl
theorem cu_gR_2 {ta bk : Nat} {q : Nat} {g : am_H} {S : Nat → Nat → Int} : am_gR (cuH ta bk q g S) q 1 2 = some (q + 1) := rd_gR cuH_m rfl
theorem cu_c_2 {ta bk : Nat} {q : Nat} {g : am_H} {S : Nat → Nat → Int} : (cuH ta bk q g S).2 (q + 1) = .inl (0, 61, .inl (S 2)) := xH_c (i := 0) (Nat.le_of_ble_eq_true rfl)
theorem cu_l_2 {ta bk : Nat} {q : Nat} {g : am_H} {S : Nat → Nat → Int} {i : Int} (h1 : 0 ≤ i) (h2 : i < 61) : am_lI (cuH ta bk q g S) (q + 1) i = some (S 2 i.toNat) := rd_lI cu_c_2 h1 h2
theorem cu_s_2 {ta bk : Nat} {q : Nat} {g : am_H} {S : Nat → Nat → Int} {i x : Int} (h1 : 0 ≤ i) (h2 : i < 61) : am_sI (cuH ta bk q g S) (q + 1) i x = some (cuH ta bk q g (am_fu S 2 (am_fu (S 2) i.toNat x))) := (rd_sI cu_c_2 h1 h2).trans (congrArg some (xH_up1 (i := 0) rfl rfl cuC_nd))
def liO (ta : Nat) (q : Nat) (S : Nat → Nat → Int) : am_E := .inr (3, [.inr (.inr (some ta)), .inr (.inr (some (q + 1))), .inr (.inr (some (q + 2)))])
def liC : List (Nat × (Nat × Nat)) := [(1, 3, 100), (2, 0, 11)]
def liH (ta : Nat) (q : Nat) (g : am_H) (S : Nat → Nat → Int) : am_H := xH (liO ta q) liC q g S
theorem liC_nd : (liC.map (fun c => c.1)).Nodup := by decide
theorem liH_m {ta : Nat} {q : Nat} {g : am_H} {S : Nat → Nat → Int} : (liH ta q g S).2 q = liO ta q S := xH_m
theorem liH_out {ta : Nat} {q : Nat} {g : am_H} {S : Nat → Nat → Int} {c : Nat} (hc : c < q ∨ q + 3 ≤ c) : (liH ta q g S).2 c = g.2 c := xH_out hc
theorem liH_fr {ta : Nat} {q : Nat} {g : am_H} {S : Nat → Nat → Int} : am_fr q (q + 3) g (liH ta q g S) := xH_fr
theorem liH_H {ta : Nat} {q : Nat} {g : am_H} {S : Nat → Nat → Int} {S' : Nat → Nat → Int} : liH ta q (liH ta q g S) S' = liH ta q g S' := xH_xH
theorem liH_1 {ta : Nat} {q : Nat} {g : am_H} {S : Nat → Nat → Int} : (liH ta q g S).1 = g.1 := rfl
theorem liH_keep {ta : Nat} {q : Nat} {S : Nat → Nat → Int} {h h' : am_H} {lo hi : Nat} (H : liH ta q h S = h) (F : am_fr lo hi h h') (hd : q + 3 ≤ lo ∨ hi ≤ q) : liH ta q h' S = h' := xH_keep H F hd
theorem li_O {ta : Nat} {q : Nat} {g : am_H} {S : Nat → Nat → Int} : am_isO (liH ta q g S) q 3 = true := rd_O liH_m
theorem li_gR_0 {ta : Nat} {q : Nat} {g : am_H} {S : Nat → Nat → Int} : am_gR (liH ta q g S) q 3 0 = some ta := rd_gR liH_m rfl
theorem li_gR_1 {ta : Nat} {q : Nat} {g : am_H} {S : Nat → Nat → Int} : am_gR (liH ta q g S) q 3 1 = some (q + 1) := rd_gR liH_m rfl
theorem li_c_1 {ta : Nat} {q : Nat} {g : am_H} {S : Nat → Nat → Int} : (liH ta q g S).2 (q + 1) = .inl (3, 100, .inl (S 1)) := xH_c (i := 0) (Nat.le_of_ble_eq_true rfl)
theorem li_l_1 {ta : Nat} {q : Nat} {g : am_H} {S : Nat → Nat → Int} {i : Int} (h1 : 0 ≤ i) (h2 : i < 100) : am_lB (liH ta q g S) (q + 1) i = some (S 1 i.toNat) := rd_lB li_c_1 (by decide) h1 h2
theorem li_s_1 {ta : Nat} {q : Nat} {g : am_H} {S : Nat → Nat → Int} {i x : Int} (h1 : 0 ≤ i) (h2 : i < 100) (h3 : 0 ≤ x) (h4 : x < 2) : am_sB (liH ta q g S) (q + 1) i x = some (liH ta q g (am_fu S 1 (am_fu (S 1) i.toNat x))) := (rd_sB3 li_c_1 h1 h2 h3 h4).trans (congrArg some (xH_up1 (i := 0) rfl rfl liC_nd))
theorem li_gR_2 {ta : Nat} {q : Nat} {g : am_H} {S : Nat → Nat → Int} : am_gR (liH ta q g S) q 3 2 = some (q + 2) := rd_gR liH_m rfl
theorem li_c_2 {ta : Nat} {q : Nat} {g : am_H} {S : Nat → Nat → Int} : (liH ta q g S).2 (q + 2) = .inl (0, 11, .inl (S 2)) := xH_c (i := 1) (Nat.le_of_ble_eq_true rfl)
theorem li_l_2 {ta : Nat} {q : Nat} {g : am_H} {S : Nat → Nat → Int} {i : Int} (h1 : 0 ≤ i) (h2 : i < 11) : am_lI (liH ta q g S) (q + 2) i = some (S 2 i.toNat) := rd_lI li_c_2 h1 h2
theorem li_s_2 {ta : Nat} {q : Nat} {g : am_H} {S : Nat → Nat → Int} {i x : Int} (h1 : 0 ≤ i) (h2 : i < 11) : am_sI (liH ta q g S) (q + 2) i x = some (liH ta q g (am_fu S 2 (am_fu (S 2) i.toNat x))) := (rd_sI li_c_2 h1 h2).trans (congrArg some (xH_up1 (i := 1) rfl rfl liC_nd))
def lrO (ta to : Nat) (q : Nat) (S : Nat → Nat → Int) : am_E := .inr (4, [.inr (.inr (some ta)), .inr (.inr (some to)), .inl (S 2 0), .inl (S 3 0)])
def lrC : List (Nat × (Nat × Nat)) := []
def lrH (ta to : Nat) (q : Nat) (g : am_H) (S : Nat → Nat → Int) : am_H := xH (lrO ta to q) lrC q g S
theorem lrC_nd : (lrC.map (fun c => c.1)).Nodup := by decide
theorem lrH_m {ta to : Nat} {q : Nat} {g : am_H} {S : Nat → Nat → Int} : (lrH ta to q g S).2 q = lrO ta to q S := xH_m
theorem lrH_out {ta to : Nat} {q : Nat} {g : am_H} {S : Nat → Nat → Int} {c : Nat} (hc : c < q ∨ q + 1 ≤ c) : (lrH ta to q g S).2 c = g.2 c := xH_out hc
theorem lrH_fr {ta to : Nat} {q : Nat} {g : am_H} {S : Nat → Nat → Int} : am_fr q (q + 1) g (lrH ta to q g S) := xH_fr
theorem lrH_H {ta to : Nat} {q : Nat} {g : am_H} {S : Nat → Nat → Int} {S' : Nat → Nat → Int} : lrH ta to q (lrH ta to q g S) S' = lrH ta to q g S' := xH_xH
theorem lrH_1 {ta to : Nat} {q : Nat} {g : am_H} {S : Nat → Nat → Int} : (lrH ta to q g S).1 = g.1 := rfl
theorem lrH_keep {ta to : Nat} {q : Nat} {S : Nat → Nat → Int} {h h' : am_H} {lo hi : Nat} (H : lrH ta to q h S = h) (F : am_fr lo hi h h') (hd : q + 1 ≤ lo ∨ hi ≤ q) : lrH ta to q h' S = h' := xH_keep H F hd
theorem lr_O {ta to : Nat} {q : Nat} {g : am_H} {S : Nat → Nat → Int} : am_isO (lrH ta to q g S) q 4 = true := rd_O lrH_m
theorem lr_gI_2 {ta to : Nat} {q : Nat} {g : am_H} {S : Nat → Nat → Int} : am_gI (lrH ta to q g S) q 4 2 = some (S 2 0) := rd_gI lrH_m rfl
theorem lr_p_2 {ta to : Nat} {q : Nat} {g : am_H} {S : Nat → Nat → Int} {x : Int} : am_p (lrH ta to q g S) q 4 2 (.inl x) = some (lrH ta to q g (am_fu S 2 (fun _ => x))) := (rd_p lrH_m (Nat.le_of_ble_eq_true rfl)).trans (congrArg some (xH_up0 rfl rfl))
theorem lr_gI_3 {ta to : Nat} {q : Nat} {g : am_H} {S : Nat → Nat → Int} : am_gI (lrH ta to q g S) q 4 3 = some (S 3 0) := rd_gI lrH_m rfl
theorem lr_p_3 {ta to : Nat} {q : Nat} {g : am_H} {S : Nat → Nat → Int} {x : Int} : am_p (lrH ta to q g S) q 4 3 (.inl x) = some (lrH ta to q g (am_fu S 3 (fun _ => x))) := (rd_p lrH_m (Nat.le_of_ble_eq_true rfl)).trans (congrArg some (xH_up0 rfl rfl))
theorem lr_gR_0 {ta to : Nat} {q : Nat} {g : am_H} {S : Nat → Nat → Int} : am_gR (lrH ta to q g S) q 4 0 = some ta := rd_gR lrH_m rfl
theorem lr_gR_1 {ta to : Nat} {q : Nat} {g : am_H} {S : Nat → Nat → Int} : am_gR (lrH ta to q g S) q 4 1 = some to := rd_gR lrH_m rfl
