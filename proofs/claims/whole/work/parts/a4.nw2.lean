/-! the class: shelves, all NUMBERS raised, words and ranks -/
theorem kp_or : ∀ a, a < 8 → ∀ k, k < 3 → (a ||| 2 ^ k) < 8 ∧ ∀ j, j < 3 → (a ||| 2 ^ k) / 2 ^ j % 2 = if j = k then 1 else a / 2 ^ j % 2 := by decide
theorem kp_sh {j : Nat} (hj : j < 3) : am_shl 1 (j : Int) = ((2 ^ j : Nat) : Int) ∧ 2 ^ j < 8 := by
  rcases (show j = 0 ∨ j = 1 ∨ j = 2 by omega) with rfl | rfl | rfl
  · exact ⟨bt_shl (x := 1) (y := 0) (by decide) (by decide) (by decide) (by decide), by decide⟩
  · exact ⟨bt_shl (x := 1) (y := 1) (by decide) (by decide) (by decide) (by decide), by decide⟩
  · exact ⟨bt_shl (x := 1) (y := 2) (by decide) (by decide) (by decide) (by decide), by decide⟩
theorem kp_bit {K j : Nat} (hK : K < 8) (hj : j < 3) : am_and (am_shr (K : Int) (j : Int)) 1 = ((K / 2 ^ j % 2 : Nat) : Int) := by
  have h1 : am_shr (K : Int) (j : Int) = ((K / 2 ^ j : Nat) : Int) := by
    rw [bt_shr (by unfold am_inI; omega) (by omega) (by omega), Int.toNat_natCast, show (2 : Int) ^ j = ((2 ^ j : Nat) : Int) from (Int.natCast_pow 2 j).symm]
    rfl
  have h4 : K / 2 ^ j ≤ K := Nat.div_le_self _ _
  rw [h1]
  clear h1
  generalize K / 2 ^ j = Q at *
  have h5 := bt_mask (x := (Q : Int)) (by unfold am_inI; omega) 1 (by decide)
  have h2 : (2 : Int) ^ 1 - 1 = 1 := by decide
  have h3 : (2 : Int) ^ 1 = 2 := by decide
  rw [h2, h3] at h5
  rw [h5]
  omega
/-- a word is ahead of a longer text when it is ahead of its beginning -/
theorem lx_more : ∀ (p h r : List Int), lx p h = true → lx p (h ++ r) = true
  | [], [], r, e => by simp [lx] at e
  | [], y :: h, r, e => rfl
  | x :: p, [], r, e => by simp [lx] at e
  | x :: p, y :: h, r, e => by
    simp only [lx, List.cons_append, Bool.or_eq_true, Bool.and_eq_true, decide_eq_true_eq] at e ⊢
    rcases e with e | e
    · exact Or.inl e
    · exact Or.inr ⟨e.1, lx_more p h r e.2⟩
theorem lx_less : ∀ (h p r : List Int), lx h p = true → p.length ≤ h.length → lx (h ++ r) p = true
  | [], [], r, e, _ => by simp [lx] at e
  | [], y :: p, r, e, l => by simp at l
  | x :: h, [], r, e, _ => by simp [lx] at e
  | x :: h, y :: p, r, e, l => by
    simp only [lx, List.cons_append, Bool.or_eq_true, Bool.and_eq_true, decide_eq_true_eq] at e ⊢
    rcases e with e | e
    · exact Or.inl e
    · exact Or.inr ⟨e.1, lx_less h p r e.2 (by simp only [List.length_cons] at l; omega)⟩
theorem rk_long {ws : List wd} (hok : ok ws) {w : List Int} (hw : 10 < w.length) : ah ws w = ah ws (w.take 10) + if nu ws (w.take 10) = none then 0 else 1 := by
  have hs := hok.2.1
  have hl : (w.take 10).length = 10 := by rw [List.length_take]; omega
  have hsp : w = w.take 10 ++ w.drop 10 := (List.take_append_drop 10 w).symm
  have hr : w.drop 10 ≠ [] := fun e => by
    have := congrArg List.length e
    rw [List.length_drop, List.length_nil] at this
    omega
  have h1 : ∀ p, lx p (w.take 10) = true → lx p w = true := fun p e => by rw [hsp]; exact lx_more _ _ _ e
  have h2 : lx (w.take 10) w = true := by
    rw [hsp, List.take_append_drop]
    have := lx_app (w.take 10) [] (w.drop 10)
    rw [List.append_nil, List.take_append_drop] at this
    rw [this]
    cases e : w.drop 10 with
    | nil => exact absurd e hr
    | cons x l => rfl
  have h3 : ∀ p : List Int, p.length ≤ 10 → lx (w.take 10) p = true → lx p w = false := fun p hp e => by
    have := lx_less (w.take 10) p (w.drop 10) e (by omega)
    rw [List.take_append_drop] at this
    exact lx_asy this
  have hle := ah_le ws (w.take 10)
  by_cases c : nu ws (w.take 10) = none
  · rw [if_pos c]
    refine ah_uniq (by omega) (fun i p hi hp => h1 _ (ah_lt ws _ i p (by omega) hp)) (fun p hp => ?_)
    rw [Nat.add_zero] at hp
    have e1 := ah_at ws _ p hp
    have e2 := nu_none hs c hp
    refine h3 _ (hok.1 _ (List.mem_of_getElem? hp)).2.2.1 ?_
    rcases lx_tri p.1 (w.take 10) with e | e | e
    · rw [e] at e1; exact Bool.noConfusion e1
    · exact absurd e e2
    · exact e
  · rw [if_neg c]
    obtain ⟨x, hx⟩ := Option.ne_none_iff_exists'.mp c
    have hg := nu_some hx
    have hlt := (List.getElem?_eq_some_iff.mp hg).1
    refine ah_uniq (by omega) (fun i p hi hp => ?_) (fun p hp => ?_)
    · by_cases ci : i = ah ws (w.take 10)
      · rw [ci, hg] at hp
        injection hp with hp
        rw [← hp]
        exact h2
      · exact h1 _ (ah_lt ws _ i p (by omega) hp)
    · exact h3 _ (hok.1 _ (List.mem_of_getElem? hp)).2.2.1 (so_get hs (by omega) hg hp)
/-- a NUMBER raised out of the ints is none -/
theorem rs_num {v x : Int} (hv : 0 ≤ v ∧ v ≤ 999999) (hx : am_inI x) : (0 ≤ am_w (v + x) ∧ am_w (v + x) ≤ 999999) ↔ (0 ≤ v + x ∧ v + x ≤ 999999) := by
  unfold am_inI at hx
  by_cases c : v + x < 2147483648
  · rw [am_w_id (by omega) c]
  · have e : am_w (v + x) = v + x - 4294967296 := by
      unfold am_w
      rw [Int.bmod_def]
      have : (v + x) % 4294967296 = v + x := Int.emod_eq_of_lt (by omega) (by omega)
      rw [show ((4294967296 : Nat) : Int) = 4294967296 from rfl, this, if_neg (by omega)]
    rw [e]
    omega
section NW
variable {n : am_H} {h : am_H} {A : Nat} {t : List Int} {ws bs : List wd} {hs : List (List wd × List wd)} {sh : Nat → Option (List wd)} {kp mo bo : Int}
theorem nw_isKept (L : loR h A t ws bs hs kp mo bo) (C : hiC h A ws bs sh kp mo bo) (k : Int) (d : Nat) : am_cI (d + 1) N_nw_isKept [.inr (.inr (some (A))), .inl (k)] h = some (if 0 ≤ k ∧ k ≤ 2 then (if sh k.toNat = none then 0 else 1) else 0, h) := by
  apply am_cI_of
  rw [en_nw_isKept, B_nw_isKept_0, c_isShelf, Option.bind_some]
  dsimp only
  by_cases c : 0 ≤ k ∧ k ≤ 2
  · rw [if_pos c, if_pos c, if_neg (by decide), B_nw_isKept_7, lo_kp L, Option.bind_some]
    obtain ⟨j, rfl⟩ := Int.eq_ofNat_of_zero_le c.1
    obtain ⟨⟨K, ⟨rfl, hK⟩, hs3⟩, _⟩ := C
    have hj : j < 3 := by omega
    rw [kp_bit hK hj, Int.toNat_natCast, (hs3 j hj).2.1]
    by_cases c2 : sh j = none
    · rw [if_pos c2, if_pos c2, if_pos (by decide), B_nw_isKept_22, B_nw_isKept_23, if_pos (by decide)]
    · rw [if_neg c2, if_neg c2, if_neg (by decide), B_nw_isKept_18, B_nw_isKept_23, if_pos (by decide)]
  · rw [if_neg c, if_neg c, if_pos rfl, B_nw_isKept_22, B_nw_isKept_23, if_pos (by decide)]
theorem no_keep (H : CR n h A (t, ws, bs, hs, sh)) (k : Int) (d : Nat) : ∃ h', am_cI (d + 20) N_nw_keep [.inr (.inr (some (A))), .inl (k)] h = some ((sp_keep k (t, ws, bs, hs, sh)).1, h') ∧ CR n h' A (sp_keep k (t, ws, bs, hs, sh)).2 := by
  obtain ⟨hn, kp, mo, bo, L, C⟩ := H
  dsimp only at L C
  unfold sp_keep
  dsimp only
  by_cases c : 0 ≤ k ∧ k ≤ 2
  · rw [if_pos c]
    obtain ⟨j, rfl⟩ := Int.eq_ofNat_of_zero_le c.1
    obtain ⟨⟨K, ⟨rfl, hK⟩, hs3⟩, Cr⟩ := C
    have hj : j < 3 := by omega
    obtain ⟨e3, hj8⟩ := kp_sh hj
    have e4' : ∀ P : Nat, P < 8 → am_or (K : Int) (P : Int) = ((K ||| P : Nat) : Int) := fun P hP => by rw [bt_or (by omega) (by omega) (by omega) (by omega), Int.toNat_natCast, Int.toNat_natCast]
    have e4 := e4' _ hj8
    obtain ⟨h1, e1, F1, k1⟩ := bk_take (hs3 j hj).1 (lo_W L) (by omega) (d + 19)
    have L1 := L.fr F1 (by omega)
    obtain ⟨h2, e2, F2, L2⟩ := lo_pk L1 ((K ||| 2 ^ j : Nat) : Int)
    have O1 := (hs3 j hj).1.O
    rw [Int.toNat_natCast]
    refine ⟨h2, am_cI_of ?_, fz_w F2 (fz_w F1 hn), _, mo, bo, L2, ⟨_, ⟨rfl, (kp_or K hK j hj).1⟩, fun i hi => ?_⟩, (Cr.fr F1 (by omega)).fr F2 (by omega)⟩
    · rw [en_nw_keep, B_nw_keep_0, c_isShelf, Option.bind_some]
      dsimp only
      rw [if_pos c, if_pos (by decide), B_nw_keep_9, lo_4 L, Option.bind_some, lo_sh L hj, Option.bind_some, lo_1 L, Option.bind_some, if_pos O1, e1, Option.bind_some, lo_kp L1, Option.bind_some, e3, e4, e2, Option.bind_some, lo_1 L2, Option.bind_some, (lo_W L2).sz, Option.bind_some]
    · show bkW h2 (A + 135 + 3 * i) ∧ ((K ||| 2 ^ j) / 2 ^ i % 2 = if shp sh j ws i = none then 0 else 1) ∧ ∀ v, shp sh j ws i = some v → bkR h2 (A + 135 + 3 * i) v
      rw [(kp_or K hK j hj).2 i hi]
      by_cases ci : i = j
      · have es : shp sh j ws i = some ws := if_pos ci
        rw [es, if_pos ci, ci]
        have k2 := k1.fr F2 (by omega)
        refine ⟨k2.w, by simp, fun v hv => ?_⟩
        injection hv with hv
        rw [← hv]
        exact k2
      · have es : shp sh j ws i = sh i := if_neg ci
        rw [es, if_neg ci]
        exact ⟨((hs3 i hi).1.fr F1 (by omega)).fr F2 (by omega), (hs3 i hi).2.1, fun v hv => (((hs3 i hi).2.2 v hv).fr F1 (by omega)).fr F2 (by omega)⟩
  · rw [if_neg c]
    refine ⟨h, am_cI_of ?_, hn, kp, mo, bo, L, C⟩
    rw [en_nw_keep, B_nw_keep_0, c_isShelf, Option.bind_some]
    dsimp only
    rw [if_neg c, if_neg (by decide), B_nw_keep_7]
theorem no_same (H : CR n h A (t, ws, bs, hs, sh)) (O : okS t ws bs hs sh) (k : Int) (d : Nat) : ∃ h', am_cI (d + 20) N_nw_same [.inr (.inr (some (A))), .inl (k)] h = some ((sp_same k (t, ws, bs, hs, sh)).1, h') ∧ CR n h' A (sp_same k (t, ws, bs, hs, sh)).2 := by
  obtain ⟨hn, kp, mo, bo, L, C⟩ := H
  dsimp only at L C
  have e0 := nw_isKept L C k (d + 18)
  have R0 : CR n h A (t, ws, bs, hs, sh) := ⟨hn, kp, mo, bo, L, C⟩
  unfold sp_same
  dsimp only
  by_cases c : 0 ≤ k ∧ k ≤ 2
  · rw [if_pos c] at e0 ⊢
    obtain ⟨j, rfl⟩ := Int.eq_ofNat_of_zero_le c.1
    obtain ⟨⟨K, ⟨rfl, hK⟩, hs3⟩, Cr⟩ := C
    have hj : j < 3 := by omega
    rw [Int.toNat_natCast] at e0 ⊢
    have st : am_call (d + 20) N_nw_same [.inr (.inr (some (A))), .inl ((j : Int))] h = EV (d + 20) N_nw_same T_nw_same_9 [.inr (.inr (some (A))), .inl ((j : Int))] [] h := by
      rw [en_nw_same, B_nw_same_0, c_isShelf, Option.bind_some]
      dsimp only
      rw [if_pos c, if_pos (by decide)]
    rw [B_nw_same_9, if_pos (lo_O L), e0, Option.bind_some] at st
    dsimp only at st
    cases cs : sh j with
    | none =>
      rw [if_pos cs, if_neg (by decide), B_nw_same_17] at st
      exact ⟨h, am_cI_of st, R0⟩
    | some v =>
      rw [if_neg (show ¬ sh j = none by rw [cs]; simp), if_pos (by decide), B_nw_same_20, lo_1 L, Option.bind_some, lo_4 L, Option.bind_some, lo_sh L hj, Option.bind_some, if_pos (lo_W L).O, bk_isLike O.2.1.b (O.2.2.2.2 j v cs).b (lo_W L) ((hs3 j hj).2.2 v cs), Option.bind_some] at st
      dsimp only at st ⊢
      refine ⟨h, am_cI_of (st.trans ?_), R0⟩
      by_cases cv : ws = v
      · rw [if_pos cv, if_neg (by decide), B_nw_same_36, B_nw_same_41]
      · rw [if_neg cv, if_pos rfl, B_nw_same_40, B_nw_same_41]
  · rw [if_neg c]
    refine ⟨h, am_cI_of ?_, R0⟩
    rw [en_nw_same, B_nw_same_0, c_isShelf, Option.bind_some]
    dsimp only
    rw [if_neg c, if_neg (by decide), B_nw_same_7]
theorem no_number (H : CR n h A (t, ws, bs, hs, sh)) (O : okS t ws bs hs sh) (d : Nat) : ∃ h', am_cI (d + 20) N_nw_number [.inr (.inr (some (A)))] h = some ((sp_number (t, ws, bs, hs, sh)).1, h') ∧ CR n h' A (sp_number (t, ws, bs, hs, sh)).2 := by
  obtain ⟨hn, kp, mo, bo, L, C⟩ := H
  dsimp only at L C
  obtain ⟨h1, e1, F1, L1⟩ := nw_takeLetters L (d + 16)
  replace e1 : am_cL (d + 19) N_nw_takeLetters [.inr (.inr (some (A)))] h = some (tkw t, h1) := e1
  have R1 : CR n h1 A ([], ws, bs, hs, sh) := ⟨fz_w F1 hn, kp, mo, bo, L1, C.fr F1 (by omega)⟩
  have i1 := fun d h => c_isWord (tkw t) d h
  unfold sp_number
  dsimp only [noT]
  by_cases c1 : isW t
  · simp only [if_pos (tkw_pos.mpr c1)] at i1
    rw [tkw_w c1] at e1 i1
    rw [if_pos c1]
    have hl10 : (lw t).length ≤ 10 := by rw [lw_len]; exact c1.1.2
    have e2 := bk_placeOf O.2.1.b (lo_W L1) (isW_wl c1) hl10 (d + 18)
    have st : am_call (d + 20) N_nw_number [.inr (.inr (some (A)))] h = EV (d + 20) N_nw_number T_nw_number_14 [.inr (.inr (some (A))), .inr (.inl (ec 10 (lw t))), am_nul, am_nul] [] h1 := by
      rw [en_nw_number, B_nw_number_0, if_pos (lo_O L), e1, Option.bind_some]
      dsimp only
      rw [i1, Option.bind_some]
      dsimp only
      rw [if_pos (by decide)]
    rw [B_nw_number_14, lo_1 L1, Option.bind_some, if_pos (lo_W L1).O, e2, Option.bind_some] at st
    dsimp only at st
    refine ⟨h1, am_cI_of (st.trans ?_), R1⟩
    cases c3 : nu ws (lw t) with
    | none => rw [if_pos rfl, if_neg (by decide), B_nw_number_28, B_nw_number_42, Option.getD_none]
    | some y =>
      rw [if_neg (show ¬ (some y = none) by simp), if_pos (show ¬ ((ah ws (lw t) : Int) = -1) by omega), B_nw_number_33, lo_1 L1, Option.bind_some, (lo_W L1).gN, Option.bind_some, (lo_W L1).lN (nu_some c3), Option.bind_some, B_nw_number_42, Option.getD_some]
  · simp only [if_neg (fun g => c1 (tkw_pos.mp g))] at i1
    rw [if_neg c1]
    refine ⟨h1, am_cI_of ?_, R1⟩
    rw [en_nw_number, B_nw_number_0, if_pos (lo_O L), e1, Option.bind_some]
    dsimp only
    rw [i1, Option.bind_some]
    dsimp only
    rw [if_neg (by decide), B_nw_number_12]
theorem no_rank (H : CR n h A (t, ws, bs, hs, sh)) (O : okS t ws bs hs sh) (d : Nat) : ∃ h', am_cI (d + 20) N_nw_rank [.inr (.inr (some (A)))] h = some ((sp_rank (t, ws, bs, hs, sh)).1, h') ∧ CR n h' A (sp_rank (t, ws, bs, hs, sh)).2 := by
  obtain ⟨hn, kp, mo, bo, L, C⟩ := H
  dsimp only at L C
  obtain ⟨h1, e1, F1, L1⟩ := lo_tclr L
  have R1 : CR n h1 A ([], ws, bs, hs, sh) := ⟨fz_w F1 hn, kp, mo, bo, L1, C.fr F1 (by omega)⟩
  have e66 : ∀ (r : Int) (j2 j3 : am_V), EV (d + 20) N_nw_rank T_nw_rank_66 [.inr (.inr (some (A))), .inl (r), j2, j3] [] h = some (some (.inl (r)), h1) := fun r j2 j3 => by
    rw [B_nw_rank_66, lo_0 L, Option.bind_some, e1, Option.bind_some]
  have st : am_call (d + 20) N_nw_rank [.inr (.inr (some (A)))] h = (if (if (t.length : Int) ≤ 60 ∧ ∀ x ∈ t, isL x = true then (1 : Int) else 0) = 0 then EV (d + 20) N_nw_rank T_nw_rank_66 [.inr (.inr (some (A))), .inl (-1), am_nul, am_nul] [] h else EV (d + 20) N_nw_rank T_nw_rank_14 [.inr (.inr (some (A))), .inl (-1), am_nul, am_nul] [] h) := by
    rw [en_nw_rank, B_nw_rank_0, lo_0 L, Option.bind_some, if_pos (lo_tO L), c_isLetters (lo_T L) (d + 17) 60, Option.bind_some]
  unfold sp_rank
  dsimp only [noT]
  by_cases c : t.length ≤ 60 ∧ allL t
  · rw [if_pos c]
    rw [if_pos (⟨by omega, c.2⟩ : (t.length : Int) ≤ 60 ∧ ∀ x ∈ t, isL x = true), if_neg (by decide)] at st
    have hsp := c_spelled (lo_T L) (d + 17) (n := 0) (m := t.length) (Nat.zero_le _) (Nat.le_refl _) (fun i _ hi => c.2 _ (gd_mem hi))
    have hhd : spl t 0 (min (t.length - 0) 10) = (lw t).take 10 := by
      unfold spl lw
      rw [List.drop_zero, ← List.map_take, Nat.sub_zero]
      by_cases cl : t.length ≤ 10
      · rw [show min t.length 10 = t.length by omega, List.take_length, List.take_of_length_le cl]
      · rw [show min t.length 10 = 10 by omega]
    rw [hhd, show ((0 : Nat) : Int) = 0 from rfl] at hsp
    have hwl : wl ((lw t).take 10) := fun x hx => lw_wl c.2 x (List.mem_of_mem_take hx)
    have hl10 : ((lw t).take 10).length ≤ 10 := by rw [List.length_take]; omega
    have e2 := fun d => bk_ahead O.2.1.b (lo_W L) hwl hl10 d
    have e3 := bk_placeOf O.2.1.b (lo_W L) hwl hl10 (d + 18)
    have hle := ah_le ws ((lw t).take 10)
    have hws := O.2.1.2.2
    rw [B_nw_rank_14, lo_0 L, Option.bind_some, Option.bind_some, lo_tn L, Option.bind_some, if_pos (lo_tO L), hsp, Option.bind_some] at st
    dsimp only at st
    rw [lo_1 L, Option.bind_some, if_pos (lo_W L).O, e2, Option.bind_some] at st
    dsimp only at st
    rw [lo_0 L, Option.bind_some, lo_tn L, Option.bind_some] at st
    refine ⟨h1, am_cI_of (st.trans ?_), R1⟩
    by_cases cl : t.length ≤ 10
    · rw [if_pos (by omega), e66, List.take_of_length_le (by rw [lw_len]; exact cl)]
    · rw [if_neg (by omega), B_nw_rank_51, lo_1 L, Option.bind_some, if_pos (lo_W L).O, e3, Option.bind_some]
      dsimp only
      rw [rk_long (w := lw t) O.2.1 (by rw [lw_len]; omega)]
      by_cases c3 : nu ws ((lw t).take 10) = none
      · rw [if_pos c3, if_pos rfl, e66, if_pos c3]
        rfl
      · rw [if_neg c3, if_neg (by omega), B_nw_rank_63, am_w_id (by omega) (by omega), e66, if_neg c3]
        rfl
  · rw [if_neg c]
    rw [if_neg (fun g : (t.length : Int) ≤ 60 ∧ ∀ x ∈ t, isL x = true => c ⟨by omega, g.2⟩), if_pos rfl, e66] at st
    exact ⟨h1, am_cI_of st, R1⟩
theorem no_word (H : CR n h A (t, ws, bs, hs, sh)) (O : okS t ws bs hs sh) (r i : Int) (d : Nat) : ∃ h', am_cI (d + 20) N_nw_word [.inr (.inr (some (A))), .inl (r), .inl (i)] h = some ((sp_word r i (t, ws, bs, hs, sh)).1, h') ∧ CR n h' A (sp_word r i (t, ws, bs, hs, sh)).2 := by
  obtain ⟨hn, kp, mo, bo, L, C⟩ := H
  dsimp only at L C
  have R0 : CR n h A (t, ws, bs, hs, sh) := ⟨hn, kp, mo, bo, L, C⟩
  have e0 := fun d => bk_has (lo_W L) r d
  unfold sp_word
  dsimp only
  by_cases c : 0 ≤ r ∧ r < ws.length
  · simp only [if_pos c] at e0 ⊢
    obtain ⟨k, rfl⟩ := Int.eq_ofNat_of_zero_le c.1
    have hk : k < ws.length := by omega
    have hget := gt_some hk
    have hw : wat ws (k : Int) = ws.getD k ([], 0) := by unfold wat; rw [Int.toNat_natCast]
    rw [hw]
    have hp := O.2.1.1 _ (List.mem_of_getElem? hget)
    generalize ws.getD k ([], 0) = p at *
    have e3 := c_lettersIn (d + 17) h hp.1 hp.2.2.1
    have st : am_call (d + 20) N_nw_word [.inr (.inr (some (A))), .inl ((k : Int)), .inl (i)] h = EV (d + 20) N_nw_word T_nw_word_11 [.inr (.inr (some (A))), .inl ((k : Int)), .inl (i), am_nul] [] h := by
      rw [en_nw_word, B_nw_word_0, lo_1 L, Option.bind_some, if_pos (lo_W L).O, e0, Option.bind_some]
      dsimp only
      rw [if_neg (by decide)]
    have st2 : EV (d + 20) N_nw_word T_nw_word_18 [.inr (.inr (some (A))), .inl ((k : Int)), .inl (i), am_nul] [] h = (if ¬ i = -1 then EV (d + 20) N_nw_word T_nw_word_38 [.inr (.inr (some (A))), .inl ((k : Int)), .inl (i), .inl ((p.1.length : Int))] [] h else EV (d + 20) N_nw_word T_nw_word_36 [.inr (.inr (some (A))), .inl ((k : Int)), .inl (i), .inl ((p.1.length : Int))] [] h) := by
      rw [B_nw_word_18, lo_1 L, Option.bind_some, (lo_W L).gW, Option.bind_some, (lo_W L).lW hget, Option.bind_some, e3, Option.bind_some]
    refine ⟨h, am_cI_of (st.trans ?_), R0⟩
    rw [B_nw_word_11]
    by_cases c2 : i = -1
    · rw [if_pos (by omega), st2, if_neg (by omega), B_nw_word_36, if_pos c2]
    · rw [if_neg c2]
      by_cases c3 : 0 ≤ i ∧ i < (p.1.length : Int)
      · obtain ⟨j, rfl⟩ := Int.eq_ofNat_of_zero_le c3.1
        have hl := hp.2.2.1
        have e4 := c_letter (d + 18) h hp.1 (show j < 10 by omega)
        rw [if_pos (by omega), st2, if_pos c2, B_nw_word_38, if_neg (by omega), B_nw_word_43, lo_1 L, Option.bind_some, (lo_W L).gW, Option.bind_some, (lo_W L).lW hget, Option.bind_some, e4, Option.bind_some]
        dsimp only
        rw [B_nw_word_60, if_pos c3, Int.toNat_natCast]
      · rw [if_neg c3]
        by_cases c4 : -1 ≤ i
        · rw [if_pos c4, st2, if_pos c2, B_nw_word_38, if_pos (by omega), B_nw_word_59, B_nw_word_60]
        · rw [if_neg c4, B_nw_word_16]
  · simp only [if_neg c] at e0 ⊢
    refine ⟨h, am_cI_of ?_, R0⟩
    rw [en_nw_word, B_nw_word_0, lo_1 L, Option.bind_some, if_pos (lo_W L).O, e0, Option.bind_some]
    dsimp only
    rw [if_pos rfl, B_nw_word_16]
theorem no_value (H : CR n h A (t, ws, bs, hs, sh)) (r : Int) (d : Nat) : ∃ h', am_cI (d + 20) N_nw_value [.inr (.inr (some (A))), .inl (r)] h = some ((sp_value r (t, ws, bs, hs, sh)).1, h') ∧ CR n h' A (sp_value r (t, ws, bs, hs, sh)).2 := by
  obtain ⟨hn, kp, mo, bo, L, C⟩ := H
  dsimp only at L C
  have R0 : CR n h A (t, ws, bs, hs, sh) := ⟨hn, kp, mo, bo, L, C⟩
  have e0 := fun d => bk_has (lo_W L) r d
  unfold sp_value
  dsimp only
  by_cases c : 0 ≤ r ∧ r < ws.length
  · simp only [if_pos c] at e0 ⊢
    obtain ⟨k, rfl⟩ := Int.eq_ofNat_of_zero_le c.1
    have hk : k < ws.length := by omega
    have hw : wat ws (k : Int) = ws.getD k ([], 0) := by unfold wat; rw [Int.toNat_natCast]
    rw [hw]
    refine ⟨h, am_cI_of ?_, R0⟩
    rw [en_nw_value, B_nw_value_0, lo_1 L, Option.bind_some, if_pos (lo_W L).O, e0, Option.bind_some]
    dsimp only
    rw [if_neg (by decide), B_nw_value_11, lo_1 L, Option.bind_some, (lo_W L).gN, Option.bind_some, (lo_W L).lN (gt_some hk), Option.bind_some, B_nw_value_24]
  · simp only [if_neg c] at e0 ⊢
    refine ⟨h, am_cI_of ?_, R0⟩
    rw [en_nw_value, B_nw_value_0, lo_1 L, Option.bind_some, if_pos (lo_W L).O, e0, Option.bind_some]
    dsimp only
    rw [if_pos rfl, B_nw_value_23, B_nw_value_24]
theorem no_first (H : CR n h A (t, ws, bs, hs, sh)) (O : okS t ws bs hs sh) (x : Int) (d : Nat) : ∃ h', am_cI (d + 20) N_nw_first [.inr (.inr (some (A))), .inl (x)] h = some ((sp_first x (t, ws, bs, hs, sh)).1, h') ∧ CR n h' A (sp_first x (t, ws, bs, hs, sh)).2 := by
  obtain ⟨hn, kp, mo, bo, L, C⟩ := H
  dsimp only at L C
  have R0 : CR n h A (t, ws, bs, hs, sh) := ⟨hn, kp, mo, bo, L, C⟩
  have hl := O.2.1.2.2
  have i2 := fun d h => c_isNumber d h x
  unfold sp_first
  dsimp only
  by_cases c : 0 ≤ x ∧ x ≤ 999999
  · simp only [if_pos c] at i2 ⊢
    have start : am_call (d + 20) N_nw_first [.inr (.inr (some (A))), .inl (x)] h = EV (d + 20) N_nw_first T_nw_first_11 [.inr (.inr (some (A))), .inl (x), .inl (((0 : Nat) : Int))] [] h := by
      rw [en_nw_first, B_nw_first_0, i2, Option.bind_some]
      dsimp only
      rw [if_pos (by decide), B_nw_first_9]
      rfl
    have key : EV (d + 20) N_nw_first T_nw_first_11 [.inr (.inr (some (A))), .inl (x), .inl (((0 : Nat) : Int))] [] h = some (some (.inl (se (fun i => decide ((ws.getD i ([], 0)).2 = x)) 0 ws.length)), h) := by
      refine am_loop (S := Nat) (F := fun k => EV (d + 20) N_nw_first T_nw_first_11 [.inr (.inr (some (A))), .inl (x), .inl ((k : Int))] [] h) (I := fun k => k ≤ ws.length ∧ se (fun i => decide ((ws.getD i ([], 0)).2 = x)) k (ws.length - k) = se (fun i => decide ((ws.getD i ([], 0)).2 = x)) 0 ws.length) (R := fun o => o = some (some (.inl (se (fun i => decide ((ws.getD i ([], 0)).2 = x)) 0 ws.length)), h)) (fun k => ws.length - k) ?_ 0 ⟨Nat.zero_le _, rfl⟩
      rintro k ⟨p1, p2⟩
      rw [B_nw_first_11, lo_1 L, Option.bind_some, (lo_W L).sz, Option.bind_some]
      by_cases ck : k = ws.length
      · left
        rw [se_end (by omega)] at p2
        rw [← p2, if_pos (by omega), B_nw_first_43]
      · have hk : k < ws.length := by omega
        rw [se_step hk] at p2
        rw [if_neg (by omega), B_nw_first_22, lo_1 L, Option.bind_some, (lo_W L).gN, Option.bind_some, (lo_W L).lN (gt_some hk), Option.bind_some]
        by_cases cx : (ws.getD k ([], 0)).2 = x
        · left
          rw [if_pos (decide_eq_true cx)] at p2
          rw [← p2, if_neg (fun g => g cx), B_nw_first_35]
        · right
          rw [if_neg (fun g => cx (of_decide_eq_true g))] at p2
          refine ⟨k + 1, ⟨by omega, p2⟩, by omega, ?_⟩
          rw [if_pos cx, B_nw_first_37, am_w_id (by omega) (by omega)]
          rfl
    exact ⟨h, am_cI_of (start.trans key), R0⟩
  · simp only [if_neg c] at i2 ⊢
    refine ⟨h, am_cI_of ?_, R0⟩
    rw [en_nw_first, B_nw_first_0, i2, Option.bind_some]
    dsimp only
    rw [if_neg (by decide), B_nw_first_7]
theorem no_raise (H : CR n h A (t, ws, bs, hs, sh)) (O : okS t ws bs hs sh) {x : Int} (hx : am_inI x) (d : Nat) : ∃ h', am_cI (d + 20) N_nw_raise [.inr (.inr (some (A))), .inl (x)] h = some ((sp_raise x (t, ws, bs, hs, sh)).1, h') ∧ CR n h' A (sp_raise x (t, ws, bs, hs, sh)).2 := by
  obtain ⟨hn, kp, mo, bo, L, C⟩ := H
  dsimp only at L C
  have R0 : CR n h A (t, ws, bs, hs, sh) := ⟨hn, kp, mo, bo, L, C⟩
  have hl := O.2.1.2.2
  unfold sp_raise
  dsimp only [act]
  by_cases c1 : ws = []
  · rw [if_neg (fun g => g.1 c1)]
    refine ⟨h, am_cI_of ?_, R0⟩
    rw [en_nw_raise, B_nw_raise_0, lo_1 L, Option.bind_some, (lo_W L).sz, Option.bind_some, if_pos (by rw [c1]; rfl), B_nw_raise_14]
  have hlp := List.length_pos_iff.mpr c1
  by_cases c2 : x = 0
  · rw [if_neg (fun g => g.2.1 c2)]
    refine ⟨h, am_cI_of ?_, R0⟩
    rw [en_nw_raise, B_nw_raise_0, lo_1 L, Option.bind_some, (lo_W L).sz, Option.bind_some, if_neg (by omega), B_nw_raise_10, if_neg (fun g => g c2), B_nw_raise_14]
  obtain ⟨h1, e1, F1, k1⟩ := bk_clear (lo_D L) (d + 19)
  have L1 := lo_dr L F1 k1.w
  have st : am_call (d + 20) N_nw_raise [.inr (.inr (some (A))), .inl (x)] h = EV (d + 20) N_nw_raise T_nw_raise_25 [.inr (.inr (some (A))), .inl (x), .inl (((0 : Nat) : Int)), am_nul] [] h1 := by
    rw [en_nw_raise, B_nw_raise_0, lo_1 L, Option.bind_some, (lo_W L).sz, Option.bind_some, if_neg (by omega), B_nw_raise_10, if_pos c2, B_nw_raise_16, lo_3 L, Option.bind_some, if_pos (lo_D L).O, e1, Option.bind_some]
    rfl
  have key : ∀ (m i : Nat) (g : am_H) (j : am_V), i + m = ws.length → am_fr A (A + 144) n g → loR g A t ws bs hs kp mo bo → hiC g A ws bs sh kp mo bo → bkR g (A + 9) (rsd x (ws.take i)) →
      ∃ g', am_fr A (A + 144) n g' ∧ loR g' A t ws bs hs kp mo bo ∧ hiC g' A ws bs sh kp mo bo ∧ (((∀ p ∈ ws.drop i, 0 ≤ p.2 + x ∧ p.2 + x ≤ 999999) ∧ bkR g' (A + 9) (rsd x ws) ∧ ∃ j', EV (d + 20) N_nw_raise T_nw_raise_25 [.inr (.inr (some (A))), .inl (x), .inl ((i : Int)), j] [] g = EV (d + 20) N_nw_raise T_nw_raise_81 [.inr (.inr (some (A))), .inl (x), .inl ((ws.length : Int)), j'] [] g') ∨
        ((¬ ∀ p ∈ ws.drop i, 0 ≤ p.2 + x ∧ p.2 + x ≤ 999999) ∧ EV (d + 20) N_nw_raise T_nw_raise_25 [.inr (.inr (some (A))), .inl (x), .inl ((i : Int)), j] [] g = some (some (.inl (-1)), g'))) := by
    intro m
    induction m with
    | zero =>
      intro i g j hi gn Lg Cg Kg
      have ei : i = ws.length := by omega
      subst ei
      rw [List.take_length] at Kg
      refine ⟨g, gn, Lg, Cg, Or.inl ⟨fun p hp => by rw [List.drop_length] at hp; simp at hp, Kg, j, ?_⟩⟩
      rw [B_nw_raise_25, lo_1 Lg, Option.bind_some, (lo_W Lg).sz, Option.bind_some, if_pos (by omega)]
    | succ m ih =>
      intro i g j hi gn Lg Cg Kg
      have hi' : i < ws.length := by omega
      have hget := gt_some hi'
      have hpk := (O.2.1.1 _ (List.mem_of_getElem? hget)).2.2.2
      have hdrop : ws.drop i = ws.getD i ([], 0) :: ws.drop (i + 1) := by
        rw [List.drop_eq_getElem_cons hi', List.getD_eq_getElem?_getD, List.getElem?_eq_getElem hi']
        rfl
      have htake : ws.take (i + 1) = ws.take i ++ [ws.getD i ([], 0)] := by
        rw [List.take_succ, hget]
        rfl
      have i2 := fun d h => c_isNumber d h (am_w ((ws.getD i ([], 0)).2 + x))
      have hrs := rs_num hpk hx
      have lW := (lo_W Lg).lW hget
      have lN := (lo_W Lg).lN hget
      generalize ws.getD i ([], 0) = p at *
      by_cases cp : 0 ≤ p.2 + x ∧ p.2 + x ≤ 999999
      · simp only [if_pos (hrs.mpr cp)] at i2
        have hw0 : am_w (p.2 + x) = p.2 + x := am_w_id (by omega) (by omega)
        obtain ⟨g2, e2, k2, F2⟩ := bkR.add Kg p.1 (p.2 + x) (by unfold rsd; rw [List.length_map, List.length_take]; omega) (d + 19)
        have L2 := lo_dr Lg F2 k2.w
        have hrt : rsd x (ws.take i) ++ [(p.1, p.2 + x)] = rsd x (ws.take (i + 1)) := by rw [htake]; unfold rsd; rw [List.map_append]; rfl
        rw [hrt] at k2
        obtain ⟨g', gn', L', C', r⟩ := ih (i + 1) g2 (.inl (p.2 + x)) (by omega) (fz_w F2 gn) L2 (Cg.fr F2 (by omega)) k2
        have hstep : EV (d + 20) N_nw_raise T_nw_raise_25 [.inr (.inr (some (A))), .inl (x), .inl ((i : Int)), j] [] g = EV (d + 20) N_nw_raise T_nw_raise_25 [.inr (.inr (some (A))), .inl (x), .inl (((i + 1 : Nat) : Int)), .inl (p.2 + x)] [] g2 := by
          rw [B_nw_raise_25, lo_1 Lg, Option.bind_some, (lo_W Lg).sz, Option.bind_some, if_neg (by omega), B_nw_raise_36, lo_1 Lg, Option.bind_some, (lo_W Lg).gN, Option.bind_some, lN, Option.bind_some, i2, Option.bind_some]
          dsimp only
          rw [if_pos (by decide), B_nw_raise_57, lo_3 Lg, Option.bind_some, lo_1 Lg, Option.bind_some, (lo_W Lg).gW, Option.bind_some, lW, Option.bind_some, if_pos Kg.O, hw0, e2, Option.bind_some]
          dsimp only
          rw [am_w_id (by omega) (by omega)]
          rfl
        refine ⟨g', gn', L', C', ?_⟩
        rw [hstep, hdrop]
        rcases r with ⟨r1, r2, r3⟩ | ⟨r1, r2⟩
        · exact Or.inl ⟨fun q hq => (List.mem_cons.mp hq).elim (fun e => by rw [e]; exact cp) (fun e => r1 q e), r2, r3⟩
        · exact Or.inr ⟨fun q => r1 (fun p hp => q p (List.mem_cons_of_mem _ hp)), r2⟩
      · simp only [if_neg (fun q => cp (hrs.mp q))] at i2
        refine ⟨g, gn, Lg, Cg, Or.inr ⟨fun q => cp (q p (by rw [hdrop]; exact List.mem_cons_self)), ?_⟩⟩
        rw [B_nw_raise_25, lo_1 Lg, Option.bind_some, (lo_W Lg).sz, Option.bind_some, if_neg (by omega), B_nw_raise_36, lo_1 Lg, Option.bind_some, (lo_W Lg).gN, Option.bind_some, lN, Option.bind_some, i2, Option.bind_some]
        dsimp only
        rw [if_neg (by decide), B_nw_raise_55]
  obtain ⟨g', gn, Lg, Cg, r⟩ := key ws.length 0 h1 am_nul (by omega) (fz_w F1 hn) L1 (C.fr F1 (by omega)) (by rw [List.take_zero]; exact k1)
  rw [List.drop_zero] at r
  rcases r with ⟨r1, r2, j', r3⟩ | ⟨r1, r2⟩
  · rw [if_pos ⟨c1, c2, r1⟩]
    obtain ⟨h4, e4, F4, L4⟩ := nw_becomeDraft Lg r2 (d + 17)
    have C4 : hiC h4 A (rsd x ws) bs sh kp 1 bo := (Cg.fr F4 (by omega)).fl (fun e => absurd e (by decide)) (fun e => ⟨e, rfl⟩)
    refine ⟨h4, am_cI_of ((st.trans r3).trans ?_), fz_w F4 gn, kp, 1, bo, L4, C4⟩
    rw [B_nw_raise_81, if_pos (lo_O Lg), e4, Option.bind_some, lo_1 L4, Option.bind_some, if_pos (lo_W L4).O, bk_leastNumber (lo_W L4) (d + 18), Option.bind_some]
  · rw [if_neg (fun q => r1 q.2.2)]
    exact ⟨g', am_cI_of (st.trans r2), gn, kp, mo, bo, Lg, Cg⟩
end NW
