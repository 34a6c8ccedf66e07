/-! the model: its lists of words, and what is told -/
theorem fu_id {f : Nat → Nat → Int} {k j : Nat} {x y : Nat → Int} (h : y = am_fu f k x j) : am_fu (am_fu f k x) j y = am_fu f k x := by rw [h, fu_eta]
/-- a word with its number, as it lies in a row -/
def wrow (f : Nat → Int) (b : Nat) (p : wd) : Prop := f b = p.1.length ∧ f (b + 1) = p.2 ∧ ∀ i, i < 10 → f (b + 2 + i) = p.1.getD i 0
/-- a list of words that lies in a row (of n ints) from a place on -/
def ml (n : Nat) (f : Nat → Int) (o : Nat) (ws : List wd) : Prop := f o = ws.length ∧ o + 1 + 12 * ws.length ≤ n ∧ ∀ w p, ws[w]? = some p → wrow f (o + 1 + 12 * w) p
def toldR (S : Nat → Nat → Int) (t : List Int) : Prop := S 8 0 = t.length ∧ t.length ≤ 400 ∧ ∀ i, i < t.length → S 7 i = t.getD i 0
section MD
variable {m : Nat} {g : am_H} {S : Nat → Nat → Int}
theorem md_isIn (d : Nat) (h : am_H) (v a b : Int) : am_cI d N_md_isIn [.inr (.inl (v)), .inr (.inl (a)), .inr (.inl (b))] h = some (if a ≤ v ∧ v ≤ b then 1 else 0, h) := by
  apply am_cI_of
  by_cases c1 : a ≤ v
  · by_cases c2 : v ≤ b
    · simp (disch := omega) only [en_md_isIn, B_md_isIn_0, B_md_isIn_6, B_md_isIn_13, B_md_isIn_17, B_md_isIn_18, Option.bind_some, if_true, if_false, eq_self, not_true_eq_false, not_false_eq_true, am_w_id, if_pos, if_neg, fu_self, fu_ne, Int.toNat_natCast, lc_lt, lc_gt]
    · simp (disch := omega) only [en_md_isIn, B_md_isIn_0, B_md_isIn_6, B_md_isIn_13, B_md_isIn_17, B_md_isIn_18, Option.bind_some, if_true, if_false, eq_self, not_true_eq_false, not_false_eq_true, am_w_id, if_pos, if_neg, fu_self, fu_ne, Int.toNat_natCast, lc_lt, lc_gt]
  · simp (disch := omega) only [en_md_isIn, B_md_isIn_0, B_md_isIn_6, B_md_isIn_13, B_md_isIn_17, B_md_isIn_18, Option.bind_some, if_true, if_false, eq_self, not_true_eq_false, not_false_eq_true, am_w_id, if_pos, if_neg, fu_self, fu_ne, Int.toNat_natCast, lc_lt, lc_gt]
variable {q j n o : Nat} {ws : List wd} {p : wd} {w : Nat}
theorem ml_len (H : ml n (S j) o ws) (hw : ws[w]? = some p) : w < ws.length := (List.getElem?_eq_some_iff.mp hw).1
theorem md_lengthOf (hq : isRow m q j n) (hn : n < 100000) (H : ml n (S j) o ws) (hw : ws[w]? = some p) (d : Nat) : am_cI d N_md_lengthOf [.inr (.inr (some (q))), .inl ((o : Int)), .inl ((w : Int))] (MH m g S) = some ((p.1.length : Int), MH m g S) := by
  have hl := ml_len H hw
  have h2 := H.2.1
  have h3 := (H.2.2 w p hw).1
  have e : ((o : Int) + 1 + 12 * w).toNat = o + 1 + 12 * w := by omega
  apply am_cI_of
  simp (disch := omega) only [en_md_lengthOf, B_md_lengthOf_0, Option.bind_some, if_true, if_false, eq_self, not_true_eq_false, not_false_eq_true, am_w_id, if_pos, if_neg, fu_self, fu_ne, Int.toNat_natCast, (hq g S ((o : Int) + 1 + 12 * w) (by omega) (by omega)).1, e, h3]
theorem md_numberOf (hq : isRow m q j n) (hn : n < 100000) (H : ml n (S j) o ws) (hw : ws[w]? = some p) (d : Nat) : am_cI d N_md_numberOf [.inr (.inr (some (q))), .inl ((o : Int)), .inl ((w : Int))] (MH m g S) = some (p.2, MH m g S) := by
  have hl := ml_len H hw
  have h2 := H.2.1
  have h3 := (H.2.2 w p hw).2.1
  have e : ((o : Int) + 2 + 12 * w).toNat = o + 1 + 12 * w + 1 := by omega
  apply am_cI_of
  simp (disch := omega) only [en_md_numberOf, B_md_numberOf_0, Option.bind_some, if_true, if_false, eq_self, not_true_eq_false, not_false_eq_true, am_w_id, if_pos, if_neg, fu_self, fu_ne, Int.toNat_natCast, (hq g S ((o : Int) + 2 + 12 * w) (by omega) (by omega)).1, e, h3]
theorem md_letterOf (hq : isRow m q j n) (hn : n < 100000) (H : ml n (S j) o ws) (hw : ws[w]? = some p) {i : Nat} (hi : i < 10) (d : Nat) : am_cI d N_md_letterOf [.inr (.inr (some (q))), .inl ((o : Int)), .inl ((w : Int)), .inl ((i : Int))] (MH m g S) = some (p.1.getD i 0, MH m g S) := by
  have hl := ml_len H hw
  have h2 := H.2.1
  have h3 := (H.2.2 w p hw).2.2 i hi
  have e : ((o : Int) + 3 + 12 * w + i).toNat = o + 1 + 12 * w + 2 + i := by omega
  apply am_cI_of
  simp (disch := omega) only [en_md_letterOf, B_md_letterOf_0, Option.bind_some, if_true, if_false, eq_self, not_true_eq_false, not_false_eq_true, am_w_id, if_pos, if_neg, fu_self, fu_ne, Int.toNat_natCast, (hq g S ((o : Int) + 3 + 12 * w + i) (by omega) (by omega)).1, e, h3]
theorem md_against (hq : isRow m q j n) (hn : n < 100000) (H : ml n (S j) o ws) (hw : ws[w]? = some p) (hk : wk p) {t : List Int} (T : toldR S t) (ht : wl t) (d : Nat) : am_cI (d + 1) N_md_against [.inr (.inr (some (m))), .inr (.inr (some (q))), .inl ((o : Int)), .inl ((w : Int))] (MH m g S) = some (cw t p.1, MH m g S) := by
  obtain ⟨T1, T2, T3⟩ := T
  have hk1 := hk.2.2.1
  apply am_cI_of
  simp (disch := omega) only [en_md_against, B_md_against_0, Option.bind_some, if_true, if_false, eq_self, not_true_eq_false, not_false_eq_true, am_w_id, if_pos, if_neg, fu_self, fu_ne, Int.toNat_natCast, md_lengthOf hq hn H hw]
  refine am_loop (S := Nat × am_V) (F := fun s => EV (d + 1) N_md_against T_md_against_11 [.inr (.inr (some (m))), .inr (.inr (some (q))), .inl ((o : Int)), .inl ((w : Int)), .inl ((p.1.length : Int)), .inl ((s.1 : Int)), s.2] [] (MH m g S)) (I := fun s => s.1 ≤ t.length ∧ s.1 ≤ p.1.length ∧ cw (t.drop s.1) (p.1.drop s.1) = cw t p.1) (R := fun o => o = some (some (.inl (cw t p.1)), MH m g S)) (fun s => t.length - s.1) ?_ (0, am_nul) ⟨Nat.zero_le _, Nat.zero_le _, rfl⟩
  rintro ⟨k, x⟩ ⟨h1, h2, h3⟩
  dsimp only at h1 h2 h3 ⊢
  by_cases c1 : k = t.length
  · left
    rw [c1, List.drop_length] at h3
    have e : cw [] (p.1.drop t.length) = (t.length : Int) - p.1.length := by simp only [cw, List.length_drop]; omega
    simp (disch := omega) only [B_md_against_11, B_md_against_59, Option.bind_some, if_true, if_false, eq_self, not_true_eq_false, not_false_eq_true, am_w_id, if_pos, if_neg, fu_self, fu_ne, Int.toNat_natCast, m_gI_8, m_p_8, T1]
    rw [← h3, e]
  · by_cases c2 : k = p.1.length
    · left
      rw [c2, List.drop_length] at h3
      have e : cw (t.drop p.1.length) [] = (t.length : Int) - p.1.length := by
        rw [dr_cons (by omega)]
        simp only [cw, List.length_drop]; omega
      simp (disch := omega) only [B_md_against_11, B_md_against_20, B_md_against_59, Option.bind_some, if_true, if_false, eq_self, not_true_eq_false, not_false_eq_true, am_w_id, if_pos, if_neg, fu_self, fu_ne, Int.toNat_natCast, m_gI_8, m_p_8, T1]
      rw [← h3, e]
    · rw [dr_cons (show k < t.length by omega), dr_cons (show k < p.1.length by omega)] at h3
      have ht1 := wl_getD ht (show k < t.length by omega)
      have ht2 := wl_getD hk.1 (show k < p.1.length by omega)
      simp only [cw] at h3
      have hs : EV (d + 1) N_md_against T_md_against_11 [.inr (.inr (some (m))), .inr (.inr (some (q))), .inl ((o : Int)), .inl ((w : Int)), .inl ((p.1.length : Int)), .inl ((k : Int)), x] [] (MH m g S) = if t.getD k 0 - p.1.getD k 0 = 0 then EV (d + 1) N_md_against T_md_against_53 [.inr (.inr (some (m))), .inr (.inr (some (q))), .inl ((o : Int)), .inl ((w : Int)), .inl ((p.1.length : Int)), .inl ((k : Int)), .inl (t.getD k 0 - p.1.getD k 0)] [] (MH m g S) else EV (d + 1) N_md_against T_md_against_50 [.inr (.inr (some (m))), .inr (.inr (some (q))), .inl ((o : Int)), .inl ((w : Int)), .inl ((p.1.length : Int)), .inl ((k : Int)), .inl (t.getD k 0 - p.1.getD k 0)] [] (MH m g S) := by
        simp (disch := omega) only [B_md_against_11, B_md_against_20, B_md_against_27, Option.bind_some, if_true, if_false, eq_self, not_true_eq_false, not_false_eq_true, am_w_id, if_pos, if_neg, fu_self, fu_ne, Int.toNat_natCast, m_gI_8, m_p_8, m_gR_7, m_l_7, m_s_7, T1, md_letterOf hq hn H hw (show k < 10 by omega), T3 k (by omega)]
      rw [hs]
      by_cases c3 : t.getD k 0 - p.1.getD k 0 = 0
      · right
        rw [if_pos c3] at h3 ⊢
        refine ⟨(k + 1, .inl (t.getD k 0 - p.1.getD k 0)), ⟨by dsimp only; omega, by dsimp only; omega, h3⟩, by dsimp only; omega, ?_⟩
        simp (disch := omega) only [B_md_against_53, Option.bind_some, if_true, if_false, eq_self, not_true_eq_false, not_false_eq_true, am_w_id, if_pos, if_neg, fu_self, fu_ne, Int.toNat_natCast]
        rfl
      · left
        rw [if_neg c3] at h3 ⊢
        simp (disch := omega) only [B_md_against_50, Option.bind_some, if_true, if_false, eq_self, not_true_eq_false, not_false_eq_true, am_w_id, if_pos, if_neg, fu_self, fu_ne, Int.toNat_natCast, h3]
end MD
