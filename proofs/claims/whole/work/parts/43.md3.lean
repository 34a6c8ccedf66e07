/-! the model: taking out, telling, the tape -/
theorem bt_ne {y : Int} (h0 : 0 < y) (h1 : y < 2147483648) : Int32.ofInt y ≠ -1 := by
  intro e
  have h2 := congrArg Int32.toInt e
  rw [am_oI_to ⟨by omega, by omega⟩] at h2
  have : (-1 : Int32).toInt = -1 := by decide
  omega
theorem bt_div {x y : Int} (hx : 0 ≤ x) (hx1 : x < 2147483648) (h0 : 0 < y) (h1 : y < 2147483648) : am_div x y = x / y := by
  unfold am_div
  rw [Int32.toInt_div_of_ne_right _ _ (bt_ne h0 h1), am_oI_to ⟨by omega, by omega⟩, am_oI_to ⟨by omega, by omega⟩, Int.tdiv_eq_ediv_of_nonneg hx]
theorem bt_rem {x y : Int} (hx : 0 ≤ x) (hx1 : x < 2147483648) (h0 : 0 < y) (h1 : y < 2147483648) : am_rem x y = x % y := by
  have hd := bt_div hx hx1 h0 h1
  unfold am_div at hd
  have h2 : x / y ≤ x := Int.ediv_le_self _ hx
  have h3 : 0 ≤ x / y := Int.ediv_nonneg hx (by omega)
  have h4 := Int.emod_add_mul_ediv x y
  have h5 := Int.emod_nonneg x (show y ≠ 0 by omega)
  have h6 : 0 ≤ y * (x / y) := Int.mul_nonneg (by omega) h3
  unfold am_rem
  rw [Int32.toInt_sub, Int32.toInt_mul, hd, am_oI_to ⟨by omega, by omega⟩, am_oI_to ⟨by omega, by omega⟩]
  have e1 : (x / y * y).bmod (2 ^ 32) = x / y * y := am_w_id (by rw [Int.mul_comm]; omega) (by rw [Int.mul_comm]; omega)
  rw [e1]
  have e2 : (x - x / y * y).bmod (2 ^ 32) = x - x / y * y := am_w_id (by rw [Int.mul_comm]; omega) (by rw [Int.mul_comm]; omega)
  rw [e2, Int.mul_comm]
  omega
/-- a byte as the model's tape has it -/
def sby (x : Int) : Int := if x < 128 then x else x - 256
theorem bt_i2b {x : Int} (hx : am_inI x) : am_i2b x = sby (x % 256) := by
  unfold am_i2b sby
  rw [Int8.toInt_toInt32, Int32.toInt_toInt8, am_oI_to hx, Int.bmod_def]
  have : ((2 ^ 8 : Nat) : Int) = 256 := by decide
  rw [this]
  split <;> split <;> omega
theorem sby_and {x : Int} (h0 : 0 ≤ x) (h1 : x < 256) : am_and (sby x) 255 = x := by
  have h := bt_mask (x := sby x) (by unfold sby am_inI; split <;> omega) 8 (by omega)
  have e : (2 : Int) ^ 8 - 1 = 255 := by decide
  have e2 : (2 : Int) ^ 8 = 256 := by decide
  rw [e, e2] at h
  rw [h]
  unfold sby
  split <;> omega
theorem sby_bd {x : Int} (h0 : 0 ≤ x) (h1 : x < 256) : -128 ≤ sby x ∧ sby x < 128 := by unfold sby; split <;> omega
/-- the model's tape -/
def taR (S : Nat → Nat → Int) (t : List Int) : Prop := S 1 0 = t.length ∧ t.length ≤ 400 ∧ (∀ x ∈ t, 0 ≤ x ∧ x < 256) ∧ ∀ i, i < t.length → S 0 i = sby (t.getD i 0)
/-- only these fields may differ -/
def fd (l : List Nat) (S S' : Nat → Nat → Int) : Prop := ∀ k, ¬ k ∈ l → S' k = S k
theorem fd.rf {l : List Nat} {S : Nat → Nat → Int} : fd l S S := fun _ _ => rfl
theorem fd.tr {l : List Nat} {S S' S2 : Nat → Nat → Int} (a : fd l S S') (b : fd l S' S2) : fd l S S2 := fun k hk => (b k hk).trans (a k hk)
theorem fd.up {l : List Nat} {S S' : Nat → Nat → Int} (a : fd l S S') {j : Nat} (hj : j ∈ l) (f : Nat → Int) : fd l S (am_fu S' j f) := fun k hk => (fu_ne (fun (e : k = j) => hk (e.symm ▸ hj))).trans (a k hk)
theorem fd.wide {l l' : List Nat} {S S' : Nat → Nat → Int} (a : fd l S S') (h : ∀ k ∈ l, k ∈ l') : fd l' S S' := fun k hk => a k (fun e => hk (h k e))
theorem by_get {t : List Int} (h : ∀ x ∈ t, 0 ≤ x ∧ x < 256) {i : Nat} (hi : i < t.length) : 0 ≤ t.getD i 0 ∧ t.getD i 0 < 256 := by
  rw [List.getD_eq_getElem?_getD, List.getElem?_eq_getElem hi]
  exact h _ (List.getElem_mem hi)
section MD
variable {m : Nat} {g : am_H} {S : Nat → Nat → Int} {q j n o : Nat} {ws : List wd} {t : List Int}
theorem md_byteAt (T : taR S t) {k : Int} (hk : 0 ≤ k) (d : Nat) : am_cI d N_md_byteAt [.inr (.inr (some (m))), .inl (k)] (MH m g S) = some (tb t k, MH m g S) := by
  obtain ⟨T1, T2, T3, T4⟩ := T
  apply am_cI_of
  unfold tb
  by_cases c : k < t.length
  · have hb := by_get T3 (show k.toNat < t.length by omega)
    simp (disch := omega) only [en_md_byteAt, B_md_byteAt_0, B_md_byteAt_8, B_md_byteAt_22, Option.bind_some, if_true, if_false, eq_self, not_true_eq_false, not_false_eq_true, am_w_id, if_pos, if_neg, fu_self, fu_ne, Int.toNat_natCast, m_gI_1, m_p_1, m_gR_0, m_l_0, m_s_0, T1, T4, sby_and hb.1 hb.2]
  · simp (disch := omega) only [en_md_byteAt, B_md_byteAt_0, B_md_byteAt_21, B_md_byteAt_22, Option.bind_some, if_true, if_false, eq_self, not_true_eq_false, not_false_eq_true, am_w_id, if_pos, if_neg, fu_self, fu_ne, Int.toNat_natCast, m_gI_1, m_p_1, T1]
theorem md_octet (T : taR S t) (k : Int) (d : Nat) : am_cI (d + 1) N_md_octet [.inr (.inr (some (m))), .inl (k)] (MH m g S) = some (tb t k, MH m g S) := by
  apply am_cI_of
  by_cases c : 0 ≤ k
  · simp (disch := omega) only [en_md_octet, B_md_octet_0, B_md_octet_8, B_md_octet_13, Option.bind_some, if_true, if_false, eq_self, not_true_eq_false, not_false_eq_true, am_w_id, if_pos, if_neg, fu_self, fu_ne, Int.toNat_natCast, m_O, md_byteAt T c]
  · have e : tb t k = -1 := by unfold tb; rw [if_neg (by omega)]
    simp (disch := omega) only [en_md_octet, B_md_octet_0, B_md_octet_4, B_md_octet_13, Option.bind_some, if_true, if_false, eq_self, not_true_eq_false, not_false_eq_true, am_w_id, if_pos, if_neg, fu_self, fu_ne, Int.toNat_natCast, e]
theorem md_end (T : taR S t) (k : Int) (d : Nat) : am_cI (d + 1) N_md_end [.inr (.inr (some (m))), .inl (k)] (MH m g S) = (if 0 ≤ k ∧ k ≤ t.length then some (k, MH m g (am_fu S 1 (fun _ => k))) else some (-1, MH m g S)) := by
  obtain ⟨T1, T2, T3, T4⟩ := T
  by_cases c : 0 ≤ k ∧ k ≤ t.length
  · rw [if_pos c]
    apply am_cI_of
    simp (disch := omega) only [en_md_end, B_md_end_0, B_md_end_16, Option.bind_some, if_true, if_false, eq_self, not_true_eq_false, not_false_eq_true, am_w_id, if_pos, if_neg, fu_self, fu_ne, Int.toNat_natCast, m_gI_1, m_p_1, md_isIn, T1]
  · rw [if_neg c]
    apply am_cI_of
    simp (disch := omega) only [en_md_end, B_md_end_0, B_md_end_14, Option.bind_some, if_true, if_false, eq_self, not_true_eq_false, not_false_eq_true, am_w_id, if_pos, if_neg, fu_self, fu_ne, Int.toNat_natCast, m_gI_1, m_p_1, md_isIn, T1]
theorem taR_end (T : taR S t) {k : Int} (hk : 0 ≤ k ∧ k ≤ t.length) : taR (am_fu S 1 (fun _ => k)) (t.take k.toNat) := by
  obtain ⟨T1, T2, T3, T4⟩ := T
  have hl : (t.take k.toNat).length = k.toNat := by rw [List.length_take]; omega
  refine ⟨?_, by omega, fun x hx => T3 x (List.mem_of_mem_take hx), fun i hi => ?_⟩
  · rw [fu_self, hl]; omega
  · rw [fu_ne (by decide), T4 i (by omega), List.getD_eq_getElem?_getD, List.getD_eq_getElem?_getD, List.getElem?_take_of_lt (by omega)]
/-- twenty bytes of five ints -/
def by20 (a b c d e : Int) : List Int := by4 a ++ (by4 b ++ (by4 c ++ (by4 d ++ by4 e)))
theorem by20_get (a b c d e : Int) {k : Nat} (hk : k < 20) : (by20 a b c d e).getD k 0 = byt (if k < 4 then a else if k < 8 then b else if k < 12 then c else if k < 16 then d else e) (24 - 8 * (k % 4)) := by
  have h : k = 0 ∨ k = 1 ∨ k = 2 ∨ k = 3 ∨ k = 4 ∨ k = 5 ∨ k = 6 ∨ k = 7 ∨ k = 8 ∨ k = 9 ∨ k = 10 ∨ k = 11 ∨ k = 12 ∨ k = 13 ∨ k = 14 ∨ k = 15 ∨ k = 16 ∨ k = 17 ∨ k = 18 ∨ k = 19 := by omega
  rcases h with h | h | h | h | h | h | h | h | h | h | h | h | h | h | h | h | h | h | h | h <;> subst h <;> rfl
theorem by20_bd {a b c d e : Int} : ∀ x ∈ by20 a b c d e, 0 ≤ x ∧ x < 256 := by
  intro x hx
  simp only [by20, by4, List.mem_append, List.mem_cons, List.not_mem_nil, or_false] at hx
  rcases hx with (h | h | h | h) | (h | h | h | h) | (h | h | h | h) | (h | h | h | h) | h | h | h | h <;> rw [h] <;> exact byt_bd _ _
def fdt (f : Nat → Int) (n : Nat) (bs : List Int) (k : Nat) : Nat → Int := fun i => if n ≤ i ∧ i < n + k then sby (bs.getD (i - n) 0) else f i
theorem md_feed0 (T : taR S t) (a b c e f : Int) (d : Nat) (hl : 380 < t.length) : am_cI d N_md_feed [.inr (.inr (some (m))), .inl (a), .inl (b), .inl (c), .inl (e), .inl (f)] (MH m g S) = some (-1, MH m g S) := by
  obtain ⟨T1, T2, T3, T4⟩ := T
  apply am_cI_of
  simp (disch := omega) only [en_md_feed, B_md_feed_0, B_md_feed_10, Option.bind_some, if_true, if_false, eq_self, not_true_eq_false, not_false_eq_true, am_w_id, if_pos, if_neg, fu_self, fu_ne, Int.toNat_natCast, m_gI_1, m_p_1, T1]
theorem md_feed (T : taR S t) {a b c e f : Int} (ha : am_inI a) (hb' : am_inI b) (hc : am_inI c) (he : am_inI e) (hf : am_inI f) (d : Nat) (hl : t.length ≤ 380) : ∃ S', am_cI d N_md_feed [.inr (.inr (some (m))), .inl (a), .inl (b), .inl (c), .inl (e), .inl (f)] (MH m g S) = some ((t.length : Int) + 20, MH m g S') ∧ taR S' (t ++ by20 a b c e f) ∧ fd [0, 1] S S' := by
  have T' := T
  obtain ⟨T1, T2, T3, T4⟩ := T
  refine ⟨am_fu (am_fu S 0 (fdt (S 0) t.length (by20 a b c e f) 20)) 1 (fun _ => (t.length : Int) + 20), am_cI_of ?_, ?_, ?_⟩
  · rw [en_md_feed]
    simp (disch := omega) only [B_md_feed_0, B_md_feed_12, Option.bind_some, if_true, if_false, eq_self, not_true_eq_false, not_false_eq_true, am_w_id, if_pos, if_neg, fu_self, fu_ne, Int.toNat_natCast, m_gI_1, m_p_1, T1]
    have e0 : fdt (S 0) t.length (by20 a b c e f) 0 = S 0 := by
      funext i
      unfold fdt
      rw [if_neg (by omega)]
    have loop : ∀ x7 : am_V, EV d N_md_feed T_md_feed_15 [.inr (.inr (some (m))), .inl (a), .inl (b), .inl (c), .inl (e), .inl (f), .inl (0), x7] [] (MH m g S) = some (some (.inl ((t.length : Int) + 20)), MH m g (am_fu (am_fu S 0 (fdt (S 0) t.length (by20 a b c e f) 20)) 1 (fun _ => (t.length : Int) + 20))) := by
      intro x7
      refine am_loop (S := Nat × am_V) (F := fun s => EV d N_md_feed T_md_feed_15 [.inr (.inr (some (m))), .inl (a), .inl (b), .inl (c), .inl (e), .inl (f), .inl ((s.1 : Int)), s.2] [] (MH m g (am_fu S 0 (fdt (S 0) t.length (by20 a b c e f) s.1)))) (I := fun s => s.1 ≤ 20) (R := fun o => o = some (some (.inl ((t.length : Int) + 20)), MH m g (am_fu (am_fu S 0 (fdt (S 0) t.length (by20 a b c e f) 20)) 1 (fun _ => (t.length : Int) + 20)))) (fun s => 20 - s.1) ?_ (0, x7) (Nat.zero_le _) |> (fun h => by dsimp only at h; rw [e0, fu_eta] at h; exact h)
      rintro ⟨k, x⟩ hk
      dsimp only at hk ⊢
      by_cases c1 : k = 20
      · left
        subst c1
        simp (disch := omega) only [B_md_feed_15, B_md_feed_102, Option.bind_some, if_true, if_false, eq_self, not_true_eq_false, not_false_eq_true, am_w_id, if_pos, if_neg, fu_self, fu_ne, Int.toNat_natCast, m_gI_1, m_p_1, T1]
      · right
        have hb := by20_bd (a := a) (b := b) (c := c) (d := e) (e := f)
        have hlen : (by20 a b c e f).length = 20 := rfl
        have hbk := by_get hb (show k < (by20 a b c e f).length by omega)
        have hsb := sby_bd hbk.1 hbk.2
        have hget := by20_get a b c e f (show k < 20 by omega)
        have step : ∀ v, v = (if k < 4 then a else if k < 8 then b else if k < 12 then c else if k < 16 then e else f) → am_inI v → EV d N_md_feed T_md_feed_68 [.inr (.inr (some (m))), .inl (a), .inl (b), .inl (c), .inl (e), .inl (f), .inl ((k : Int)), x] [.inl (v)] (MH m g (am_fu S 0 (fdt (S 0) t.length (by20 a b c e f) k))) = EV d N_md_feed T_md_feed_15 [.inr (.inr (some (m))), .inl (a), .inl (b), .inl (c), .inl (e), .inl (f), .inl (((k + 1 : Nat) : Int)), .inl (v)] [] (MH m g (am_fu S 0 (fdt (S 0) t.length (by20 a b c e f) (k + 1)))) := by
          intro v hv hvI
          rw [← hv] at hget
          have er : am_rem (k : Int) 4 = ((k % 4 : Nat) : Int) := by rw [bt_rem (by omega) (by omega) (by omega) (by omega)]; omega
          have es : (24 - 8 * ((k % 4 : Nat) : Int)) = ((24 - 8 * (k % 4) : Nat) : Int) := by omega
          have ev : am_i2b (am_shr v ((24 - 8 * (k % 4) : Nat) : Int)) = sby ((by20 a b c e f).getD k 0) := by
            have hsh := bt_shr hvI (y := ((24 - 8 * (k % 4) : Nat) : Int)) (by omega) (by omega)
            rw [Int.toNat_natCast] at hsh
            rw [hsh, bt_i2b (shr_in hvI _), hget]
            rfl
          have et : ((t.length : Int) + (k : Int)).toNat = t.length + k := by omega
          have ef : am_fu (fdt (S 0) t.length (by20 a b c e f) k) (t.length + k) (sby ((by20 a b c e f).getD k 0)) = fdt (S 0) t.length (by20 a b c e f) (k + 1) := by
            funext i
            unfold am_fu fdt
            by_cases c : i = t.length + k
            · rw [if_pos c, if_pos (by omega), c]; congr 2; omega
            · rw [if_neg c]
              by_cases c2 : t.length ≤ i ∧ i < t.length + k
              · rw [if_pos c2, if_pos (by omega)]
              · rw [if_neg c2, if_neg (by omega)]
          have e24 : am_w (24 - am_w (8 * ((k % 4 : Nat) : Int))) = ((24 - 8 * (k % 4) : Nat) : Int) := by
            rw [am_w_id (x := 8 * ((k % 4 : Nat) : Int)) (by omega) (by omega), am_w_id (by omega) (by omega), es]
          rw [B_md_feed_68, er, e24, ev]
          simp (disch := omega) only [Option.bind_some, if_true, if_false, eq_self, not_true_eq_false, not_false_eq_true, am_w_id, if_pos, if_neg, fu_self, fu_ne, Int.toNat_natCast, m_gR_0, m_gI_1, m_s_0, T1, et, ef, fu_fu]
          rfl
        by_cases c4 : k < 4
        · refine ⟨(k + 1, .inl a), by dsimp only; omega, by dsimp only; omega, ?_⟩
          refine Eq.trans ?_ (step a (by rw [if_pos c4]) ha)
          simp (disch := omega) only [B_md_feed_15, B_md_feed_22, B_md_feed_28, Option.bind_some, if_true, if_false, eq_self, not_true_eq_false, not_false_eq_true, am_w_id, if_pos, if_neg, fu_self, fu_ne, Int.toNat_natCast]
        by_cases c8 : k < 8
        · refine ⟨(k + 1, .inl b), by dsimp only; omega, by dsimp only; omega, ?_⟩
          refine Eq.trans ?_ (step b (by rw [if_neg c4, if_pos c8]) hb')
          simp (disch := omega) only [B_md_feed_15, B_md_feed_22, B_md_feed_32, B_md_feed_39, Option.bind_some, if_true, if_false, eq_self, not_true_eq_false, not_false_eq_true, am_w_id, if_pos, if_neg, fu_self, fu_ne, Int.toNat_natCast]
        by_cases c12 : k < 12
        · refine ⟨(k + 1, .inl c), by dsimp only; omega, by dsimp only; omega, ?_⟩
          refine Eq.trans ?_ (step c (by rw [if_neg c4, if_neg c8, if_pos c12]) hc)
          simp (disch := omega) only [B_md_feed_15, B_md_feed_22, B_md_feed_32, B_md_feed_43, B_md_feed_50, Option.bind_some, if_true, if_false, eq_self, not_true_eq_false, not_false_eq_true, am_w_id, if_pos, if_neg, fu_self, fu_ne, Int.toNat_natCast]
        by_cases c16 : k < 16
        · refine ⟨(k + 1, .inl e), by dsimp only; omega, by dsimp only; omega, ?_⟩
          refine Eq.trans ?_ (step e (by rw [if_neg c4, if_neg c8, if_neg c12, if_pos c16]) he)
          simp (disch := omega) only [B_md_feed_15, B_md_feed_22, B_md_feed_32, B_md_feed_43, B_md_feed_54, B_md_feed_61, Option.bind_some, if_true, if_false, eq_self, not_true_eq_false, not_false_eq_true, am_w_id, if_pos, if_neg, fu_self, fu_ne, Int.toNat_natCast]
        · refine ⟨(k + 1, .inl f), by dsimp only; omega, by dsimp only; omega, ?_⟩
          refine Eq.trans ?_ (step f (by rw [if_neg c4, if_neg c8, if_neg c12, if_neg c16]) hf)
          simp (disch := omega) only [B_md_feed_15, B_md_feed_22, B_md_feed_32, B_md_feed_43, B_md_feed_54, B_md_feed_66, Option.bind_some, if_true, if_false, eq_self, not_true_eq_false, not_false_eq_true, am_w_id, if_pos, if_neg, fu_self, fu_ne, Int.toNat_natCast]
    exact loop am_nul
  · have hlen : (t ++ by20 a b c e f).length = t.length + 20 := by rw [List.length_append]; rfl
    refine ⟨?_, by omega, fun x hx => ?_, fun i hi => ?_⟩
    · rw [fu_self, hlen]; omega
    · rcases List.mem_append.mp hx with h | h
      · exact T3 x h
      · exact by20_bd x h
    · rw [fu_ne (by decide), fu_self]
      unfold fdt
      by_cases c : i < t.length
      · rw [if_neg (by omega), T4 i c, gd_l c]
      · rw [if_pos (by omega), gd_r (by omega)]
  · exact (fd.rf.up (by decide) _).up (by decide) _
end MD
