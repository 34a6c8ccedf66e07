/-! letters in longs (NumberWords' own), and the Tape -/
theorem l2i_w {x : Int} (h : am_inL x) : am_l2i x = am_w x := by
  unfold am_l2i am_w
  rw [Int64.toInt_toInt32, am_oL_to h]
theorem w_mod32 (x : Int) : am_w x % 32 = x % 32 := by
  unfold am_w
  rw [Int.bmod_def]
  split <;> omega
/-- the letter in a long, as the class reads it -/
def lt (y i : Int) : Int := if 0 ≤ i ∧ i < 10 then y / 32 ^ (9 - i).toNat % 32 else 0
theorem p5 (k : Nat) : (2 : Int) ^ (5 * k) = 32 ^ k := by rw [Int.pow_mul]; rfl
theorem c_shiftOf (d : Nat) (h : am_H) {i : Int} (h0 : 0 ≤ i) (h1 : i < 10) : am_cI d N_nw_shiftOf [.inl i] h = some (5 * (9 - i), h) := by
  apply am_cI_of
  rw [en_nw_shiftOf, B_nw_shiftOf_0]
  simp (disch := omega) only [am_w_id]
theorem c_letterOf (d : Nat) (h : am_H) {y i : Int} (h0 : 0 ≤ y) (h1 : y < 1125899906842624) : am_cI (d + 1) N_nw_letterOf [.inr (.inl y), .inl i] h = some (lt y i, h) := by
  apply am_cI_of
  rw [en_nw_letterOf, B_nw_letterOf_0]
  unfold lt
  by_cases c1 : i < 0
  · rw [if_pos c1, B_nw_letterOf_10, B_nw_letterOf_24, if_neg (by omega)]
  · rw [if_neg c1, B_nw_letterOf_4]
    by_cases c2 : i < 10
    · rw [if_pos c2, B_nw_letterOf_14, c_shiftOf d h (by omega) c2, Option.bind_some, B_nw_letterOf_24, if_pos ⟨by omega, c2⟩]
      obtain ⟨n, rfl⟩ := Int.eq_ofNat_of_zero_le (show 0 ≤ i by omega)
      have e : (5 * (9 - (n : Int))).toNat = 5 * (9 - n) := by omega
      have e2 : (9 - (n : Int)).toNat = 9 - n := by omega
      rw [bt_lshr h0 (by omega) (by omega) (by omega), e, e2, p5]
      have hp := p32 (9 - n)
      have hb : 0 ≤ y / 32 ^ (9 - n) := Int.ediv_nonneg h0 (by omega)
      have hb2 : y / 32 ^ (9 - n) ≤ y := Int.ediv_le_self _ h0
      rw [l2i_w ⟨by omega, by omega⟩]
      have hm := bt_mask (am_w_in (y / 32 ^ (9 - n))) 5 (by omega)
      rw [show (31 : Int) = 2 ^ 5 - 1 by decide, hm]
      rw [show (2 : Int) ^ 5 = 32 by decide, w_mod32]
    · rw [if_neg c2, B_nw_letterOf_10, B_nw_letterOf_24, if_neg (by omega)]
theorem lt_ec {w : List Int} (hw : wl w) {i : Nat} (hi : i < 10) : lt (ec 10 w) i = w.getD i 0 := by
  unfold lt
  rw [if_pos ⟨by omega, by omega⟩, ← ec_at 10 w i hw hi]
  congr 3
  omega
theorem ec10 {w : List Int} (hw : wl w) : 0 ≤ ec 10 w ∧ ec 10 w < 1125899906842624 := by
  have := ec_bd 10 w hw
  have e : (32 : Int) ^ 10 = 1125899906842624 := by decide
  omega
theorem c_letter (d : Nat) (h : am_H) {w : List Int} (hw : wl w) {i : Nat} (hi : i < 10) : am_cI (d + 1) N_nw_letterOf [.inr (.inl (ec 10 w)), .inl i] h = some (w.getD i 0, h) := by
  rw [c_letterOf d h (ec10 hw).1 (ec10 hw).2, lt_ec hw hi]
theorem wl_getD {w : List Int} (hw : wl w) {i : Nat} (hi : i < w.length) : 1 ≤ w.getD i 0 ∧ w.getD i 0 ≤ 26 := by
  rw [List.getD_eq_getElem?_getD, List.getElem?_eq_getElem hi]
  exact hw _ (List.getElem_mem hi)
theorem c_lettersIn (d : Nat) (h : am_H) {w : List Int} (hw : wl w) (hl : w.length ≤ 10) : am_cI (d + 2) N_nw_lettersIn [.inr (.inl (ec 10 w))] h = some ((w.length : Int), h) := by
  apply am_cI_of
  rw [en_nw_lettersIn, B_nw_lettersIn_0]
  refine am_loop (S := Nat) (F := fun n => EV (d + 2) N_nw_lettersIn T_nw_lettersIn_2 [.inr (.inl (ec 10 w)), am_nul, .inl (n : Int)] [] h) (I := fun n => n ≤ w.length) (R := fun o => o = some (some (.inl (w.length : Int)), h)) (fun n => w.length - n) ?_ 0 (Nat.zero_le _)
  intro n hn
  rw [B_nw_lettersIn_2]
  by_cases c1 : (10 : Int) ≤ n
  · rw [if_pos c1, B_nw_lettersIn_22]
    left
    rw [show n = w.length by omega]
  · rw [if_neg c1, B_nw_lettersIn_8, c_letter (d := d) h hw (by omega), Option.bind_some]
    dsimp only
    by_cases c2 : n = w.length
    · left
      have : w.getD n 0 = 0 := by rw [List.getD_eq_getElem?_getD, List.getElem?_eq_none (by omega)]; rfl
      rw [if_pos this, B_nw_lettersIn_22, c2]
    · right
      have := wl_getD hw (show n < w.length by omega)
      rw [if_neg (by omega), B_nw_lettersIn_16]
      refine ⟨n + 1, by omega, by omega, ?_⟩
      simp (disch := omega) only [am_w_id]
      rfl
theorem or_add {a b : Nat} {k : Nat} (ha : a % 2 ^ k = 0) (hb : b < 2 ^ k) : a ||| b = a + b := by
  have e : a = 2 ^ k * (a / 2 ^ k) := by have := Nat.div_add_mod a (2 ^ k); omega
  rw [e, ← Nat.two_pow_add_eq_or_of_lt hb]
/-- one letter more -/
theorem c_withLetter (d : Nat) (h : am_H) {w : List Int} {x : Int} (hw : wl (w ++ [x])) (hl : w.length < 10) : am_cL (d + 1) N_nw_withLetter [.inr (.inl (ec 10 w)), .inl (w.length : Int), .inl x] h = some (ec 10 (w ++ [x]), h) := by
  have hww : wl w := fun y hy => hw y (List.mem_append_left _ hy)
  obtain ⟨hx1, hx2⟩ := hw x (by simp)
  obtain ⟨b1, b2⟩ := ec10 hww
  apply am_cL_of
  rw [en_nw_withLetter, B_nw_withLetter_0, if_neg (by omega), B_nw_withLetter_4, if_pos (by omega), B_nw_withLetter_14, c_shiftOf d h (by omega) (by omega), Option.bind_some, B_nw_withLetter_23]
  have e : (5 * (9 - (w.length : Int))).toNat = 5 * (9 - w.length) := by omega
  have hp := p32 (9 - w.length)
  have hp9 : (32 : Int) ^ (9 - w.length) ≤ 32 ^ 9 := by
    have : (32 : Nat) ^ (9 - w.length) ≤ 32 ^ 9 := Nat.pow_le_pow_right (by omega) (by omega)
    have h2 : ((32 ^ (9 - w.length) : Nat) : Int) ≤ ((32 ^ 9 : Nat) : Int) := by omega
    simpa using h2
  have e9 : (32 : Int) ^ 9 = 35184372088832 := by decide
  have hxp : x * 32 ^ (9 - w.length) ≤ 26 * 32 ^ (9 - w.length) := Int.mul_le_mul_of_nonneg_right hx2 (by omega)
  have hx0 : 0 ≤ x * 32 ^ (9 - w.length) := Int.mul_nonneg (by omega) (by omega)
  dsimp only
  rw [bt_lshl (by omega) (by omega) (by omega) (by rw [e, p5]; omega), e, p5, bt_lor b1 (by omega) hx0 (by omega), ec_app 10 w x hl]
  have hmul := ec_mul 10 w (by omega)
  -- the two have no bit in common
  have e10 : (32 : Nat) ^ (10 - w.length) = 2 ^ (5 * (10 - w.length)) := by rw [Nat.pow_mul]
  have hor : (ec 10 w).toNat ||| (x * 32 ^ (9 - w.length)).toNat = (ec 10 w).toNat + (x * 32 ^ (9 - w.length)).toNat := by
    refine or_add (k := 5 * (10 - w.length)) ?_ ?_
    · rw [← e10]
      have h3 : ((ec 10 w).toNat : Int) = ec 10 w := Int.toNat_of_nonneg b1
      have h4 : (((ec 10 w).toNat % 32 ^ (10 - w.length) : Nat) : Int) = 0 := by
        rw [Int.natCast_emod, h3]
        have : ((32 ^ (10 - w.length) : Nat) : Int) = 32 ^ (10 - w.length) := by simp
        rw [this]
        exact hmul
      omega
    · rw [← e10]
      have h3 : ((x * 32 ^ (9 - w.length)).toNat : Int) = x * 32 ^ (9 - w.length) := Int.toNat_of_nonneg hx0
      have h4 : ((32 ^ (10 - w.length) : Nat) : Int) = 32 * 32 ^ (9 - w.length) := by
        rw [show 10 - w.length = (9 - w.length) + 1 by omega, Nat.pow_succ]
        push_cast
        omega
      omega
  rw [hor, show 10 - 1 - w.length = 9 - w.length by omega]
  have h3 : ((ec 10 w).toNat : Int) = ec 10 w := Int.toNat_of_nonneg b1
  have h4 : ((x * 32 ^ (9 - w.length)).toNat : Int) = x * 32 ^ (9 - w.length) := Int.toNat_of_nonneg hx0
  rw [Int.natCast_add, h3, h4]
-- the tape
def tp_at (h : am_H) (a : Nat) (t : List Int) : Prop := h.2 a = .inr (7, [.inr (.inr (some (a + 1))), .inl (t.length : Int)]) ∧ t.length ≤ 400 ∧ (∀ x ∈ t, 0 ≤ x ∧ x < 256) ∧ ∃ B : Nat → Int, h.2 (a + 1) = .inl (0, 400, .inl B) ∧ ∀ i, i < t.length → B i = t.getD i 0
/-- a byte of the tape, -1 for none -/
def tb (t : List Int) (k : Int) : Int := if 0 ≤ k ∧ k < t.length then t.getD k.toNat 0 else -1
theorem c_byteAt {h : am_H} {a : Nat} {t : List Int} (H : tp_at h a t) (d : Nat) (k : Int) : am_cI d N_tp_byteAt [.inr (.inr (some a)), .inl k] h = some (tb t k, h) := by
  obtain ⟨h1, h2, h3, B, h4, h5⟩ := H
  apply am_cI_of
  unfold tb
  rw [en_tp_byteAt, B_tp_byteAt_0]
  by_cases c1 : k < 0
  · rw [if_pos c1, B_tp_byteAt_21, B_tp_byteAt_22, if_neg (by omega)]
  · rw [if_neg c1, B_tp_byteAt_4, rd_gI h1 rfl, Option.bind_some]
    by_cases c2 : (t.length : Int) ≤ k
    · rw [if_pos c2, B_tp_byteAt_21, B_tp_byteAt_22, if_neg (by omega)]
    · rw [if_neg c2, B_tp_byteAt_12, rd_gR h1 rfl, Option.bind_some, rd_lI h4 (by omega) (by omega), Option.bind_some, B_tp_byteAt_22, if_pos (by omega), h5 _ (by omega)]
theorem c_isLetter (d : Nat) (h : am_H) (x : Int) : am_cI d N_tp_isLetter [.inl x] h = some (if 97 ≤ x ∧ x ≤ 122 then 1 else 0, h) := by
  apply am_cI_of
  rw [en_tp_isLetter, B_tp_isLetter_0]
  by_cases c1 : x < 97
  · rw [if_pos c1, B_tp_isLetter_16, B_tp_isLetter_17, if_pos (by decide), if_neg (by omega)]
  · rw [if_neg c1, B_tp_isLetter_6]
    by_cases c2 : 122 < x
    · rw [if_pos c2, B_tp_isLetter_16, B_tp_isLetter_17, if_pos (by decide), if_neg (by omega)]
    · rw [if_neg c2, B_tp_isLetter_12, B_tp_isLetter_17, if_pos (by decide), if_pos (by omega)]
def isL (x : Int) : Bool := decide (97 ≤ x ∧ x ≤ 122)
/-- the place behind the letters that stand from a place on -/
def le (t : List Int) (n : Nat) : Nat := n + ((t.drop n).takeWhile isL).length
theorem le_step {t : List Int} {n : Nat} (h : n < t.length) : le t n = if isL (t.getD n 0) = true then le t (n + 1) else n := by
  unfold le
  rw [List.drop_eq_getElem_cons h, List.takeWhile_cons, List.getD_eq_getElem?_getD, List.getElem?_eq_getElem h, Option.getD_some]
  split
  · rw [List.length_cons]; omega
  · rfl
theorem le_end {t : List Int} {n : Nat} (h : t.length ≤ n) : le t n = n := by
  unfold le
  rw [List.drop_eq_nil_of_le h]
  rfl
theorem c_lettersEnd {h : am_H} {a : Nat} {t : List Int} (H : tp_at h a t) (d : Nat) {n : Nat} (hn : n ≤ 400) : am_cI (d + 1) N_tp_lettersEnd [.inr (.inr (some a)), .inl (n : Int)] h = some (((le t n : Nat) : Int), h) := by
  apply am_cI_of
  rw [en_tp_lettersEnd, B_tp_lettersEnd_0]
  have h1 := H.1
  have h2 := H.2.1
  refine am_loop (S := Nat) (F := fun k => EV (d + 1) N_tp_lettersEnd T_tp_lettersEnd_2 [.inr (.inr (some a)), .inl (n : Int), .inl (k : Int)] [] h) (I := fun k => le t k = le t n ∧ k ≤ 400) (R := fun o => o = some (some (.inl ((le t n : Nat) : Int)), h)) (fun k => 400 - k) ?_ n ⟨rfl, hn⟩
  rintro k ⟨hk, hk4⟩
  rw [B_tp_lettersEnd_2, rd_gI h1 rfl, Option.bind_some]
  by_cases c1 : (t.length : Int) ≤ k
  · left
    rw [if_pos c1, B_tp_lettersEnd_27, ← hk, le_end (by omega)]
  · rw [if_neg c1, B_tp_lettersEnd_10, if_pos (rd_O h1), c_byteAt H, Option.bind_some, c_isLetter, Option.bind_some]
    have htb : tb t k = t.getD k 0 := by unfold tb; rw [if_pos (by omega)]; rfl
    rw [htb]
    have hs := le_step (t := t) (n := k) (by omega)
    by_cases c2 : 97 ≤ t.getD k 0 ∧ t.getD k 0 ≤ 122
    · right
      rw [if_pos c2] 
      rw [show isL (t.getD k 0) = true from decide_eq_true c2, if_pos rfl] at hs
      dsimp only
      rw [if_neg (by decide), B_tp_lettersEnd_21]
      refine ⟨k + 1, ⟨by omega, by omega⟩, by omega, ?_⟩
      simp (disch := omega) only [am_w_id]
      rfl
    · left
      rw [if_neg c2]
      rw [if_neg (show ¬ isL (t.getD k 0) = true from fun q => c2 (of_decide_eq_true q))] at hs
      dsimp only
      rw [if_pos rfl, B_tp_lettersEnd_27, ← hk, hs]
