/-! the Book, by its three cells: how many, the words' numbers (W), the NUMBERS (N) -/
def rf (q : Nat) : am_V := .inr (.inr (some q))
def bkr (h : am_H) (a n : Nat) (W N : Nat → Int) : Prop := h.2 a = .inr (0, [.inr (.inr (some (a + 1))), .inr (.inr (some (a + 2))), .inl (n : Int)]) ∧ h.2 (a + 1) = .inl (1, 100, .inr (.inl W)) ∧ h.2 (a + 2) = .inl (0, 100, .inl N) ∧ n ≤ 100
theorem bkr.fr {h h' : am_H} {a n lo hi : Nat} {W N : Nat → Int} (H : bkr h a n W N) (F : am_fr lo hi h h') (ha : a + 3 ≤ lo ∨ hi ≤ a) : bkr h' a n W N := by
  obtain ⟨h1, h2, h3, h4⟩ := H
  exact ⟨(F.2 a (by omega)).trans h1, (F.2 (a + 1) (by omega)).trans h2, (F.2 (a + 2) (by omega)).trans h3, h4⟩
/-- strictly rising as far as n -/
def srt (n : Nat) (W : Nat → Int) : Prop := ∀ i j, i < j → j < n → W i < W j
/-- how many of the first n are below y, of a rising row -/
def isAh (n : Nat) (W : Nat → Int) (y : Int) (r : Nat) : Prop := r ≤ n ∧ (∀ i, i < r → W i < y) ∧ ∀ i, r ≤ i → i < n → y ≤ W i
theorem isAh.uniq {n : Nat} {W : Nat → Int} {y : Int} {r q : Nat} (hr : isAh n W y r) (hq : isAh n W y q) : r = q := by
  rcases Nat.lt_trichotomy r q with h | h | h
  · have h1 := hr.2.2 r (Nat.le_refl _) (Nat.lt_of_lt_of_le h hq.1)
    have h2 := hq.2.1 r h
    omega
  · exact h
  · have h1 := hq.2.2 q (Nat.le_refl _) (Nat.lt_of_lt_of_le h hr.1)
    have h2 := hr.2.1 q h
    omega
theorem b_ahead {h : am_H} {a n : Nat} {W N : Nat → Int} (H : bkr h a n W N) (hs : srt n W) (d : Nat) (y : Int) : ∃ r : Nat, am_cI d N_bk_ahead [.inr (.inr (some a)), .inr (.inl y)] h = some ((r : Int), h) ∧ isAh n W y r := by
  obtain ⟨h1, h2, h3, h4⟩ := H
  have key : ∃ r : Nat, am_call d N_bk_ahead [.inr (.inr (some a)), .inr (.inl y)] h = some (some (.inl (r : Int)), h) ∧ isAh n W y r := by
    rw [en_bk_ahead, B_bk_ahead_0, rd_gI h1 rfl, Option.bind_some]
    refine am_loop (S := (Nat × Nat) × am_V) (F := fun s => EV d N_bk_ahead T_bk_ahead_8 [.inr (.inr (some a)), .inr (.inl y), am_nul, .inl (s.1.1 : Int), .inl (s.1.2 : Int), s.2] [] h)
      (I := fun s => s.1.1 ≤ s.1.2 ∧ s.1.2 ≤ n ∧ (∀ i, i < s.1.1 → W i < y) ∧ ∀ i, s.1.2 ≤ i → i < n → y ≤ W i) (R := fun o => ∃ r : Nat, o = some (some (.inl (r : Int)), h) ∧ isAh n W y r) (fun s => s.1.2 - s.1.1) ?_ ((0, n), am_nul) ⟨Nat.zero_le _, Nat.le_refl _, fun i hi => by simp at hi, fun i h1 h2 => by have h5 : n ≤ i := h1; omega⟩
    rintro ⟨⟨lo, hi⟩, j⟩ ⟨p1, p2, p3, p4⟩
    dsimp only at p1 p2 p3 p4 ⊢
    rw [B_bk_ahead_8]
    by_cases c1 : (hi : Int) ≤ lo
    · left
      rw [if_pos c1, B_bk_ahead_49]
      exact ⟨lo, rfl, by omega, p3, fun i q1 q2 => p4 i (by omega) q2⟩
    · right
      have hw : am_w ((lo : Int) + hi) = (lo : Int) + hi := am_w_id (by omega) (by omega)
      have hdiv : am_div ((lo : Int) + hi) 2 = (((lo + hi) / 2 : Nat) : Int) := by
        unfold am_div
        rw [Int32.toInt_div_of_ne_right _ _ (by decide), am_oI_to ⟨by omega, by omega⟩, am_oI_to ⟨by omega, by omega⟩, Int.tdiv_eq_ediv_of_nonneg (by omega)]
        omega
      rw [if_neg c1, B_bk_ahead_14, rd_gR h1 rfl, Option.bind_some, hw, hdiv, rd_lL h2 (by omega) (by omega), Option.bind_some, Int.toNat_natCast]
      by_cases c2 : y ≤ W ((lo + hi) / 2)
      · rw [if_pos (lc_ge.mpr c2), B_bk_ahead_42, B_bk_ahead_46]
        refine ⟨((lo, (lo + hi) / 2), _), ⟨by dsimp only; omega, by dsimp only; omega, p3, fun i q1 q2 => ?_⟩, by dsimp only; omega, rfl⟩
        dsimp only at q1
        by_cases e : i = (lo + hi) / 2
        · rw [e]; exact c2
        · have := hs ((lo + hi) / 2) i (by omega) q2
          omega
      · rw [if_neg (fun q => c2 (lc_ge.mp q)), B_bk_ahead_34, B_bk_ahead_46]
        refine ⟨(((lo + hi) / 2 + 1, hi), .inl (((lo + hi) / 2 : Nat) : Int)), ⟨by dsimp only; omega, p2, fun i q1 => ?_, p4⟩, by dsimp only; omega, ?_⟩
        · dsimp only at q1
          by_cases e : i = (lo + hi) / 2
          · rw [e]; omega
          · have := hs i ((lo + hi) / 2) (by omega) (by omega)
            omega
        · rw [am_w_id (by omega) (by omega)]
          rfl
  obtain ⟨r, e, hr⟩ := key
  exact ⟨r, am_cI_of e, hr⟩
/-- the place of a word, -1 if it isn't there -/
def isPl (n : Nat) (W : Nat → Int) (y r : Int) : Prop := (∃ i : Nat, i < n ∧ W i = y ∧ r = i) ∨ (r = -1 ∧ ∀ i, i < n → W i ≠ y)
theorem b_placeOf {h : am_H} {a n : Nat} {W N : Nat → Int} (H : bkr h a n W N) (hs : srt n W) (d : Nat) (y : Int) : ∃ r : Int, am_cI (d + 1) N_bk_placeOf [.inr (.inr (some a)), .inr (.inl y)] h = some (r, h) ∧ isPl n W y r := by
  obtain ⟨q, e1, e2, e3, e4⟩ := b_ahead H hs d y
  obtain ⟨h1, h2, h3, h4⟩ := H
  have key : ∃ r : Int, am_call (d + 1) N_bk_placeOf [.inr (.inr (some a)), .inr (.inl y)] h = some (some (.inl r), h) ∧ isPl n W y r := by
    rw [en_bk_placeOf, B_bk_placeOf_0, if_pos (rd_O h1), e1, Option.bind_some]
    dsimp only
    rw [rd_gI h1 rfl, Option.bind_some]
    by_cases c1 : (n : Int) ≤ q
    · rw [if_pos c1, B_bk_placeOf_29, B_bk_placeOf_30]
      refine ⟨-1, rfl, Or.inr ⟨rfl, fun i hi => ?_⟩⟩
      have := e3 i (by omega)
      omega
    · rw [if_neg c1, B_bk_placeOf_14, rd_gR h1 rfl, Option.bind_some, rd_lL h2 (by omega) (by omega), Option.bind_some, Int.toNat_natCast]
      by_cases c2 : W q = y
      · rw [if_neg (fun g => g (lc_eq.mpr c2)), B_bk_placeOf_25, B_bk_placeOf_30]
        exact ⟨q, rfl, Or.inl ⟨q, by omega, c2, rfl⟩⟩
      · rw [if_pos (fun g => c2 (lc_eq.mp g)), B_bk_placeOf_29, B_bk_placeOf_30]
        refine ⟨-1, rfl, Or.inr ⟨rfl, fun i hi g => ?_⟩⟩
        rcases Nat.lt_trichotomy i q with w | w | w
        · have := e3 i w; omega
        · exact c2 (w ▸ g)
        · have := e4 q (Nat.le_refl _) (by omega)
          have := hs q i w hi
          omega
  obtain ⟨r, e, hr⟩ := key
  exact ⟨r, am_cI_of e, hr⟩
theorem b_clear {h : am_H} {a n : Nat} {W N : Nat → Int} (H : bkr h a n W N) (d : Nat) : ∃ h', am_cV d N_bk_clear [.inr (.inr (some a))] h = some h' ∧ bkr h' a 0 W N ∧ am_fr a (a + 3) h h' := by
  obtain ⟨h1, h2, h3, h4⟩ := H
  refine ⟨_, am_cV_of (by rw [en_bk_clear, B_bk_clear_0, rd_p h1 (Nat.le_of_ble_eq_true rfl), Option.bind_some]), ⟨?_, ?_, ?_, Nat.zero_le _⟩, am_fr.up (Nat.le_refl _) (by omega)⟩
  · rw [up_self]; rfl
  · rw [up_ne (by omega)]; exact h2
  · rw [up_ne (by omega)]; exact h3
theorem b_has {h : am_H} {a n : Nat} {W N : Nat → Int} (H : bkr h a n W N) (d : Nat) (x : Int) : am_cI d N_bk_has [.inr (.inr (some a)), .inl x] h = some (if 0 ≤ x ∧ x < n then 1 else 0, h) := by
  obtain ⟨h1, h2, h3, h4⟩ := H
  apply am_cI_of
  rw [en_bk_has, B_bk_has_0]
  by_cases c1 : x < 0
  · rw [if_pos c1, B_bk_has_16, B_bk_has_17, if_pos (by decide), if_neg (by omega)]
  · rw [if_neg c1, B_bk_has_4, rd_gI h1 rfl, Option.bind_some]
    by_cases c2 : (n : Int) ≤ x
    · rw [if_pos c2, B_bk_has_16, B_bk_has_17, if_pos (by decide), if_neg (by omega)]
    · rw [if_neg c2, B_bk_has_12, B_bk_has_17, if_pos (by decide), if_pos (by omega)]
theorem b_lastWord {h : am_H} {a n : Nat} {W N : Nat → Int} (H : bkr h a n W N) (d : Nat) : am_cL d N_bk_lastWord [.inr (.inr (some a))] h = some (if n = 0 then 0 else W (n - 1), h) := by
  obtain ⟨h1, h2, h3, h4⟩ := H
  apply am_cL_of
  rw [en_bk_lastWord, B_bk_lastWord_0, rd_gI h1 rfl, Option.bind_some]
  by_cases c1 : (n : Int) ≤ 0
  · rw [if_pos c1, B_bk_lastWord_21, B_bk_lastWord_22, if_pos (by omega)]
  · rw [if_neg c1, B_bk_lastWord_7, rd_gR h1 rfl, Option.bind_some, rd_gI h1 rfl, Option.bind_some, am_w_id (by omega) (by omega), rd_lL h2 (by omega) (by omega), Option.bind_some, B_bk_lastWord_22, if_neg (by omega)]
    rw [show ((n : Int) - 1).toNat = n - 1 by omega]
theorem b_addLast {h : am_H} {a n : Nat} {W N : Nat → Int} (H : bkr h a n W N) (d : Nat) (y x : Int) (hn : n < 100) : ∃ h', am_cI d N_bk_addLast [.inr (.inr (some a)), .inr (.inl y), .inl x] h = some (1, h') ∧ bkr h' a (n + 1) (am_fu W n y) (am_fu N n x) ∧ am_fr a (a + 3) h h' := by
  obtain ⟨h1, h2, h3, h4⟩ := H
  have e1 : am_cI d N_bk_addLast [.inr (.inr (some a)), .inr (.inl y), .inl x] h = some (1, _) := am_cI_of (by
    rw [en_bk_addLast, B_bk_addLast_0, rd_gI h1 rfl, Option.bind_some, if_pos (by omega), B_bk_addLast_11, rd_gR h1 rfl, Option.bind_some, rd_gI h1 rfl, Option.bind_some, rd_sL h2 (by omega) (by omega), Option.bind_some]
    rw [rd_gR (a := a) (fs := [.inr (.inr (some (a + 1))), .inr (.inr (some (a + 2))), .inl (n : Int)]) (by rw [up_ne (by omega)]; exact h1) rfl, Option.bind_some]
    rw [rd_gI (a := a) (fs := [.inr (.inr (some (a + 1))), .inr (.inr (some (a + 2))), .inl (n : Int)]) (by rw [up_ne (by omega)]; exact h1) rfl, Option.bind_some]
    rw [rd_sI (a := a + 2) (n := 100) (f := N) (by rw [up_ne (by omega)]; exact h3) (by omega) (by omega), Option.bind_some]
    rw [rd_gI (a := a) (fs := [.inr (.inr (some (a + 1))), .inr (.inr (some (a + 2))), .inl (n : Int)]) (by rw [up_ne (by omega), up_ne (by omega)]; exact h1) rfl, Option.bind_some]
    rw [rd_p (a := a) (fs := [.inr (.inr (some (a + 1))), .inr (.inr (some (a + 2))), .inl (n : Int)]) (by rw [up_ne (by omega), up_ne (by omega)]; exact h1) (Nat.le_of_ble_eq_true rfl), Option.bind_some])
  refine ⟨_, e1, ⟨?_, ?_, ?_, by omega⟩, (am_fr.up (by omega) (by omega)).tr ((am_fr.up (by omega) (by omega)).tr (am_fr.up (by omega) (by omega)))⟩
  · rw [up_self, am_w_id (by omega) (by omega)]; rfl
  · rw [up_ne (by omega), up_ne (by omega), up_self, Int.toNat_natCast]
  · rw [up_ne (by omega), up_self, Int.toNat_natCast]
theorem b_addLast0 {h : am_H} {a n : Nat} {W N : Nat → Int} (H : bkr h a n W N) (d : Nat) (y x : Int) (hn : 100 ≤ n) : am_cI d N_bk_addLast [.inr (.inr (some a)), .inr (.inl y), .inl x] h = some (0, h) := by
  apply am_cI_of
  rw [en_bk_addLast, B_bk_addLast_0, rd_gI H.1 rfl, Option.bind_some, if_neg (by omega), B_bk_addLast_9]
