/-! the Tape: four bytes more, letters alone, letters spelled -/
theorem shr_in {x : Int} (hx : am_inI x) (s : Nat) : am_inI (x / 2 ^ s) := by
  have hp : (0 : Int) < 2 ^ s := Int.pow_pos (by decide)
  unfold am_inI at hx ⊢
  constructor
  · have h1 : (-2147483648 : Int) * 2 ^ s ≤ x := by
      have : (-2147483648 : Int) * 2 ^ s ≤ (-2147483648) * 1 := Int.mul_le_mul_of_nonpos_left (by omega) (by omega)
      omega
    exact (Int.le_ediv_iff_mul_le hp).mpr h1
  · have h1 : x < 2147483648 * 2 ^ s := by
      have : (2147483648 : Int) * 1 ≤ 2147483648 * 2 ^ s := Int.mul_le_mul_of_nonneg_left (by omega) (by omega)
      omega
    exact Int.ediv_lt_of_lt_mul hp h1
/-- the byte of x that stands s bits high -/
def byt (x : Int) (s : Nat) : Int := x / 2 ^ s % 256
theorem byt_bd (x : Int) (s : Nat) : 0 ≤ byt x s ∧ byt x s < 256 := by unfold byt; omega
theorem byt_eq {x : Int} (hx : am_inI x) {s : Nat} (hs : s < 31) : am_and (am_shr x s) 255 = byt x s := by
  rw [bt_shr hx (by omega) (by omega), Int.toNat_natCast]
  have h := bt_mask (shr_in hx s) 8 (by omega)
  have e : (2 : Int) ^ 8 - 1 = 255 := by decide
  have e2 : (2 : Int) ^ 8 = 256 := by decide
  rw [e, e2] at h
  exact h
theorem tp_push {h : am_H} {a : Nat} {t : List Int} {B : Nat → Int} {b : Int} (H1 : h.2 a = .inr (7, [.inr (.inr (some (a + 1))), .inl (t.length : Int)])) (hl : t.length < 400) (hb : ∀ x ∈ t, 0 ≤ x ∧ x < 256) (hB : ∀ i, i < t.length → B i = t.getD i 0) (hb0 : 0 ≤ b) (hb1 : b < 256) :
    tp_at (am_up (am_up h (a + 1) (.inl (0, 400, .inl (am_fu B t.length b)))) a (.inr (7, [.inr (.inr (some (a + 1))), .inl (t.length : Int)].set 1 (.inl (((t.length + 1 : Nat)) : Int))))) a (t ++ [b]) := by
  refine ⟨?_, by simp; omega, fun x hx => ?_, am_fu B t.length b, ?_, fun i hi => ?_⟩
  · rw [up_self, List.length_append]
    rfl
  · rcases List.mem_append.mp hx with g | g
    · exact hb x g
    · rw [List.mem_singleton.mp g]; exact ⟨hb0, hb1⟩
  · rw [up_ne (by omega), up_self]
  · unfold am_fu
    rw [List.length_append] at hi
    by_cases e : i = t.length
    · subst e
      rw [if_pos rfl, List.getD_eq_getElem?_getD, List.getElem?_append_right (Nat.le_refl _)]
      simp
    · rw [if_neg e, hB i (by simp at hi; omega), List.getD_eq_getElem?_getD, List.getD_eq_getElem?_getD, List.getElem?_append_left (by simp at hi; omega)]
theorem tp_step {h : am_H} {a : Nat} {t : List Int} (H : tp_at h a t) (hl : t.length < 400) (d : Nat) {x : Int} (hx : am_inI x) {s : Nat} (hs : s < 31) :
    ∃ h', EV d N_tp_addFour T_tp_addFour_3 [.inr (.inr (some a)), .inl x, .inl (s : Int)] [] h = EV d N_tp_addFour T_tp_addFour_3 [.inr (.inr (some a)), .inl x, .inl ((s : Int) - 8)] [] h' ∧ tp_at h' a (t ++ [byt x s]) ∧ am_fr a (a + 2) h h' := by
  obtain ⟨h1, h2, h3, B, h4, h5⟩ := H
  have en : am_w ((t.length : Int) + 1) = ((t.length + 1 : Nat) : Int) := by rw [am_w_id (by omega) (by omega)]; omega
  have es : am_w ((s : Int) + (-8)) = (s : Int) - 8 := by rw [am_w_id (by omega) (by omega)]; omega
  obtain ⟨q1, q2⟩ := byt_bd x s
  refine ⟨_, ?_, tp_push (B := B) h1 hl h3 h5 q1 q2, (am_fr.up (by omega) (by omega)).tr (am_fr.up (by omega) (by omega))⟩
  rw [B_tp_addFour_3, if_neg (by omega), B_tp_addFour_7, rd_gI h1 rfl, Option.bind_some, if_neg (by omega), B_tp_addFour_17, rd_gR h1 rfl, Option.bind_some, rd_gI h1 rfl, Option.bind_some, byt_eq hx hs, rd_sI h4 (by omega) (by omega), Option.bind_some, Int.toNat_natCast]
  rw [rd_gI (a := a) (ci := 7) (fs := [.inr (.inr (some (a + 1))), .inl (t.length : Int)]) (by rw [up_ne (by omega)]; exact h1) rfl, Option.bind_some]
  rw [rd_p (a := a) (ci := 7) (fs := [.inr (.inr (some (a + 1))), .inl (t.length : Int)]) (by rw [up_ne (by omega)]; exact h1) (Nat.le_of_ble_eq_true rfl), Option.bind_some, en, es]
/-- a number's four bytes, the highest first -/
def by4 (x : Int) : List Int := [byt x 24, byt x 16, byt x 8, byt x 0]
theorem c_addFour {h : am_H} {a : Nat} {t : List Int} (H : tp_at h a t) (hl : t.length + 4 ≤ 400) (d : Nat) {x : Int} (hx : am_inI x) :
    ∃ h', am_cV d N_tp_addFour [.inr (.inr (some a)), .inl x] h = some h' ∧ tp_at h' a (t ++ by4 x) ∧ am_fr a (a + 2) h h' := by
  obtain ⟨h1, e1, T1, F1⟩ := tp_step H (by omega) d hx (s := 24) (by omega)
  obtain ⟨h2, e2, T2, F2⟩ := tp_step T1 (by rw [List.length_append]; simp; omega) d hx (s := 16) (by omega)
  obtain ⟨h3, e3, T3, F3⟩ := tp_step T2 (by rw [List.length_append, List.length_append]; simp; omega) d hx (s := 8) (by omega)
  obtain ⟨h4, e4, T4, F4⟩ := tp_step T3 (by rw [List.length_append, List.length_append, List.length_append]; simp; omega) d hx (s := 0) (by omega)
  refine ⟨h4, am_cV_of ?_, ?_, ((F1.tr F2).tr F3).tr F4⟩
  · rw [en_tp_addFour, B_tp_addFour_0]
    refine e1.trans (e2.trans (e3.trans (e4.trans ?_)))
    rw [B_tp_addFour_3, if_pos (by decide), B_tp_addFour_49]
  · rw [List.append_assoc, List.append_assoc, List.append_assoc] at T4
    exact T4
theorem tw_len {p : Int → Bool} : ∀ (t : List Int), (t.takeWhile p).length = t.length ↔ ∀ x ∈ t, p x = true
  | [] => by simp
  | x :: t => by
    have ih := tw_len (p := p) t
    rw [List.takeWhile_cons]
    by_cases h : p x = true
    · rw [if_pos h, List.length_cons, List.length_cons, List.forall_mem_cons, ← ih]
      constructor
      · intro q; exact ⟨h, by omega⟩
      · intro q; omega
    · rw [if_neg h]
      constructor
      · intro q; simp at q
      · intro q; exact absurd (q x List.mem_cons_self) h
theorem le_all {t : List Int} : le t 0 = t.length ↔ ∀ x ∈ t, isL x = true := by
  unfold le
  rw [List.drop_zero, Nat.zero_add]
  exact tw_len t
theorem c_isLetters {h : am_H} {a : Nat} {t : List Int} (H : tp_at h a t) (d : Nat) (k : Int) : am_cI (d + 2) N_tp_isLetters [.inr (.inr (some a)), .inl k] h = some (if (t.length : Int) ≤ k ∧ ∀ x ∈ t, isL x = true then 1 else 0, h) := by
  have h1 := H.1
  apply am_cI_of
  rw [en_tp_isLetters, B_tp_isLetters_0, rd_gI h1 rfl, Option.bind_some]
  by_cases c1 : k < t.length
  · rw [if_pos c1, B_tp_isLetters_24, B_tp_isLetters_25, if_pos (by decide), if_neg (by omega)]
  · have hle := c_lettersEnd H d (n := 0) (by omega)
    have hle' : am_cI (d + 1) N_tp_lettersEnd [.inr (.inr (some a)), .inl 0] h = some (((le t 0 : Nat) : Int), h) := hle
    rw [if_neg c1, B_tp_isLetters_8, if_pos (rd_O h1), hle', Option.bind_some]
    dsimp only
    rw [rd_gI h1 rfl, Option.bind_some]
    by_cases c2 : le t 0 = t.length
    · rw [if_neg (fun g => g (by omega)), B_tp_isLetters_20, B_tp_isLetters_25, if_pos (by decide), if_pos ⟨by omega, le_all.mp c2⟩]
    · rw [if_pos (by omega), B_tp_isLetters_24, B_tp_isLetters_25, if_pos (by decide), if_neg (fun g => c2 (le_all.mpr g.2))]
/-- the letters (1 for a) of k bytes from a place on -/
def spl (t : List Int) (n k : Nat) : List Int := ((t.drop n).take k).map (fun x => x - 96)
theorem spl_len {t : List Int} {n k : Nat} (h : n + k ≤ t.length) : (spl t n k).length = k := by
  unfold spl
  rw [List.length_map, List.length_take, List.length_drop]
  omega
theorem spl_succ {t : List Int} {n k : Nat} (h : n + k < t.length) : spl t n (k + 1) = spl t n k ++ [t.getD (n + k) 0 - 96] := by
  unfold spl
  rw [List.take_succ, List.map_append]
  congr 1
  rw [List.getElem?_drop, List.getD_eq_getElem?_getD, List.getElem?_eq_getElem h]
  rfl
theorem spl_wl {t : List Int} {n k : Nat} (h : ∀ i, n ≤ i → i < n + k → i < t.length → isL (t.getD i 0) = true) : wl (spl t n k) := by
  intro x hx
  obtain ⟨y, hy, rfl⟩ := List.mem_map.mp hx
  obtain ⟨i, hi⟩ := List.getElem?_of_mem hy
  have hik : i < k := by
    have := (List.getElem?_eq_some_iff.mp hi).1
    rw [List.length_take] at this
    omega
  rw [List.getElem?_take_of_lt hik, List.getElem?_drop] at hi
  have hlt := (List.getElem?_eq_some_iff.mp hi).1
  have h1 := h (n + i) (by omega) (by omega) hlt
  rw [List.getD_eq_getElem?_getD, hi] at h1
  have h2 : 97 ≤ y ∧ y ≤ 122 := of_decide_eq_true h1
  omega
theorem c_spelled {h : am_H} {a : Nat} {t : List Int} (H : tp_at h a t) (d : Nat) {n m : Nat} (hnm : n ≤ m) (hm : m ≤ t.length) (hL : ∀ i, n ≤ i → i < m → isL (t.getD i 0) = true) :
    am_cL (d + 2) N_tp_spelled [.inr (.inr (some a)), .inl (n : Int), .inl (m : Int)] h = some (ec 10 (spl t n (min (m - n) 10)), h) := by
  have h1 := H.1
  have h2 := H.2.1
  have hw : ∀ k, n + k ≤ m → wl (spl t n k) := fun k hk => spl_wl (fun i q1 q2 _ => hL i q1 (by omega))
  apply am_cL_of
  have emin : am_min (m : Int) (am_w ((n : Int) + 10)) = ((n + min (m - n) 10 : Nat) : Int) := by
    rw [am_w_id (by omega) (by omega)]
    unfold am_min
    split <;> omega
  rw [en_tp_spelled, B_tp_spelled_0, emin]
  have e0 : (0 : Int) = ec 10 (spl t n 0) := by unfold spl; rw [List.take_zero]; rfl
  refine am_loop (S := Nat) (F := fun j => EV (d + 2) N_tp_spelled T_tp_spelled_15 [.inr (.inr (some a)), .inl (n : Int), .inl (m : Int), .inr (.inl (ec 10 (spl t n j))), am_nul, .inl ((n + min (m - n) 10 : Nat) : Int), .inl ((n + j : Nat) : Int)] [] h) (I := fun j => j ≤ min (m - n) 10)
    (R := fun p => p = some (some (.inr (.inl (ec 10 (spl t n (min (m - n) 10))))), h)) (fun j => 10 - j) ?_ 0 (Nat.zero_le _)
  intro j hj
  rw [B_tp_spelled_15]
  by_cases c : ((n + min (m - n) 10 : Nat) : Int) ≤ ((n + j : Nat) : Int)
  · left
    rw [if_pos c, B_tp_spelled_48, show j = min (m - n) 10 by omega]
  · right
    have hlt : n + j < t.length := by omega
    have hb := c_byteAt H (d + 1) ((n + j : Nat) : Int)
    have htb : tb t ((n + j : Nat) : Int) = t.getD (n + j) 0 := by unfold tb; rw [if_pos (by omega), Int.toNat_natCast]
    rw [htb] at hb
    have hl := hL (n + j) (by omega) (by omega)
    have hl2 : 97 ≤ t.getD (n + j) 0 ∧ t.getD (n + j) 0 ≤ 122 := of_decide_eq_true hl
    have hlen := spl_len (t := t) (n := n) (k := j) (by omega)
    have hww := hw (j + 1) (by omega)
    rw [spl_succ hlt] at hww
    have hwl := c_withLetter d h hww (by omega)
    rw [← spl_succ hlt, hlen] at hwl
    rw [if_neg c, B_tp_spelled_22, if_pos (rd_O h1), hb, Option.bind_some]
    dsimp only
    have ex : am_w (am_w (t.getD (n + j) 0 - 97) + 1) = t.getD (n + j) 0 - 96 := by
      rw [am_w_id (x := t.getD (n + j) 0 - 97) (by omega) (by omega), am_w_id (by omega) (by omega)]
      omega
    have ej : am_w (((n + j : Nat) : Int) - n) = (j : Int) := by rw [am_w_id (by omega) (by omega)]; omega
    have ek : am_w (((n + j : Nat) : Int) + 1) = ((n + (j + 1) : Nat) : Int) := by rw [am_w_id (by omega) (by omega)]; omega
    rw [ex, ej, ek, hwl, Option.bind_some]
    exact ⟨j + 1, by omega, by omega, rfl⟩
