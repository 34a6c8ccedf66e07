/-! loops that count -/
theorem am_for {F : Nat → Option am_R} {k n : Nat} (hk : k ≤ n) (st : ∀ i, k ≤ i → i < n → F i = F (i + 1)) : F k = F n := by
  obtain ⟨c, rfl⟩ : ∃ c, n = k + c := ⟨n - k, by omega⟩
  clear hk
  induction c with
  | zero => rfl
  | succ c ih => exact (ih (fun i h1 h2 => st i h1 (by omega))).trans (st (k + c) (by omega) (by omega))
theorem am_ford {F : Nat → Option am_R} {k n : Nat} (hk : k ≤ n) (st : ∀ i, k ≤ i → i < n → F (i + 1) = F i) : F n = F k := by
  obtain ⟨c, rfl⟩ : ∃ c, n = k + c := ⟨n - k, by omega⟩
  clear hk
  induction c with
  | zero => rfl
  | succ c ih => exact (st (k + c) (by omega) (by omega)).trans (ih (fun i h1 h2 => st i h1 (by omega)))
theorem gd_l {t u : List Int} {i : Nat} (h : i < t.length) : (t ++ u).getD i 0 = t.getD i 0 := by
  rw [List.getD_eq_getElem?_getD, List.getD_eq_getElem?_getD, List.getElem?_append_left h]
theorem gd_r {t u : List Int} {i : Nat} (h : t.length ≤ i) : (t ++ u).getD i 0 = u.getD (i - t.length) 0 := by
  rw [List.getD_eq_getElem?_getD, List.getD_eq_getElem?_getD, List.getElem?_append_right h]
theorem gd_n {t : List Int} {i : Nat} (h : t.length ≤ i) : t.getD i 0 = 0 := by
  rw [List.getD_eq_getElem?_getD, List.getElem?_eq_none h]; rfl
theorem gd_s {t : List Int} {i : Nat} (h : i < t.length) : t.getD i 0 = t[i] := by
  rw [List.getD_eq_getElem?_getD, List.getElem?_eq_getElem h]; rfl
/-- a row whose first k are told by another -/
def prf (f v : Nat → Int) (k : Nat) : Nat → Int := fun i => if i < k then v i else f i
theorem prf0 {f v : Nat → Int} : prf f v 0 = f := by funext i; unfold prf; rw [if_neg (by omega)]
theorem prf_s {f v : Nat → Int} {k : Nat} {x : Int} (h : x = v k) : am_fu (prf f v k) k x = prf f v (k + 1) := by
  funext i
  unfold am_fu prf
  by_cases c : i = k
  · rw [if_pos c, if_pos (by omega), h, c]
  · rw [if_neg c]
    by_cases c2 : i < k
    · rw [if_pos c2, if_pos (by omega)]
    · rw [if_neg c2, if_neg (by omega)]
theorem prf_lt {f v : Nat → Int} {k i : Nat} (h : i < k) : prf f v k i = v i := if_pos h
theorem prf_ge {f v : Nat → Int} {k i : Nat} (h : k ≤ i) : prf f v k i = f i := if_neg (by omega)
/-- a row of which k from a on are told by another's from 0 on -/
def sgf (f v : Nat → Int) (a k : Nat) : Nat → Int := fun i => if a ≤ i ∧ i < a + k then v (i - a) else f i
theorem sgf0 {f v : Nat → Int} {a : Nat} : sgf f v a 0 = f := by funext i; unfold sgf; rw [if_neg (by omega)]
theorem sgf_s {f v : Nat → Int} {a k : Nat} {x : Int} (h : x = v k) : am_fu (sgf f v a k) (a + k) x = sgf f v a (k + 1) := by
  funext i
  unfold am_fu sgf
  by_cases c : i = a + k
  · rw [if_pos c, if_pos (by omega), h, c]; congr 1; omega
  · rw [if_neg c]
    by_cases c2 : a ≤ i ∧ i < a + k
    · rw [if_pos c2, if_pos (by omega)]
    · rw [if_neg c2, if_neg (by omega)]
theorem sgf_in {f v : Nat → Int} {a k i : Nat} (h : i < k) : sgf f v a k (a + i) = v i := by unfold sgf; rw [if_pos (by omega)]; congr 1; omega
theorem sgf_out {f v : Nat → Int} {a k i : Nat} (h : i < a ∨ a + k ≤ i) : sgf f v a k i = f i := if_neg (by omega)
