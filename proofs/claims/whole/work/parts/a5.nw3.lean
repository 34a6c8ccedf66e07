/-! the class: states, arcs, counts -/
section NW
variable {n : am_H} {h : am_H} {A : Nat} {t : List Int} {ws bs : List wd} {hs : List (List wd × List wd)} {sh : Nat → Option (List wd)} {kp mo bo : Int}
theorem bd_last {bs : List wd} (hok : ok bs) (c : bs ≠ []) : wk (bs.getLastD ([], 0)) := by
  have hm : bs[bs.length - 1]? = some (bs.getLastD ([], 0)) := by
    rw [← List.getLast?_eq_getElem?, List.getLastD_eq_getLast?]
    cases e : bs.getLast? with
    | none => rw [List.getLast?_eq_none_iff] at e; exact absurd e c
    | some x => rfl
  exact hok.1 _ (List.mem_of_getElem? hm)
theorem nw_open (L : loR h A t ws bs hs kp mo bo) (hok : ok bs) (d : Nat) : am_cI (d + 3) N_nw_openStates [.inr (.inr (some (A)))] h = some ((nO bs : Int), h) := by
  apply am_cI_of
  unfold nO
  by_cases c : bs = []
  · rw [if_pos c, en_nw_openStates, B_nw_openStates_0, lo_2 L, Option.bind_some, (lo_B L).sz, Option.bind_some, if_neg (by rw [c]; simp), B_nw_openStates_10, B_nw_openStates_26]
    rfl
  · have hp := List.length_pos_iff.mpr c
    have hk := bd_last hok c
    have hl := hk.2.2.1
    have e1 := bk_lastWord (lo_B L) (d + 2)
    unfold lastw at e1
    rw [if_neg c, en_nw_openStates, B_nw_openStates_0, lo_2 L, Option.bind_some, (lo_B L).sz, Option.bind_some, if_pos (by omega), B_nw_openStates_14, lo_2 L, Option.bind_some, if_pos (lo_B L).O, e1, Option.bind_some]
    dsimp only
    rw [c_lettersIn d h hk.1 hl, Option.bind_some]
    dsimp only
    rw [am_w_id (by omega) (by omega), B_nw_openStates_26]
    rfl
theorem kp_bit3 {K : Nat} (hK : K < 8) (hs3 : ∀ k, k < 3 → K / 2 ^ k % 2 = if sh k = none then 0 else 1) : (K : Int) = bit3 sh := by
  have a0 := hs3 0 (by decide)
  have a1 := hs3 1 (by decide)
  have a2 := hs3 2 (by decide)
  rw [show K / 2 ^ 0 % 2 = K % 2 by simp] at a0
  rw [show (2 : Nat) ^ 1 = 2 from rfl] at a1
  rw [show (2 : Nat) ^ 2 = 4 from rfl] at a2
  unfold bit3
  by_cases c0 : sh 0 = none
  · rw [if_pos c0] at a0
    rw [if_pos c0]
    by_cases c1 : sh 1 = none
    · rw [if_pos c1] at a1
      rw [if_pos c1]
      by_cases c2 : sh 2 = none
      · rw [if_pos c2] at a2
        rw [if_pos c2]
        omega
      · rw [if_neg c2] at a2
        rw [if_neg c2]
        omega
    · rw [if_neg c1] at a1
      rw [if_neg c1]
      by_cases c2 : sh 2 = none
      · rw [if_pos c2] at a2
        rw [if_pos c2]
        omega
      · rw [if_neg c2] at a2
        rw [if_neg c2]
        omega
  · rw [if_neg c0] at a0
    rw [if_neg c0]
    by_cases c1 : sh 1 = none
    · rw [if_pos c1] at a1
      rw [if_pos c1]
      by_cases c2 : sh 2 = none
      · rw [if_pos c2] at a2
        rw [if_pos c2]
        omega
      · rw [if_neg c2] at a2
        rw [if_neg c2]
        omega
    · rw [if_neg c1] at a1
      rw [if_neg c1]
      by_cases c2 : sh 2 = none
      · rw [if_pos c2] at a2
        rw [if_pos c2]
        omega
      · rw [if_neg c2] at a2
        rw [if_neg c2]
        omega
theorem no_state (H : CR n h A (t, ws, bs, hs, sh)) (O : okS t ws bs hs sh) (d : Nat) : ∃ h', am_cI (d + 20) N_nw_state [.inr (.inr (some (A)))] h = some ((sp_state (t, ws, bs, hs, sh)).1, h') ∧ CR n h' A (sp_state (t, ws, bs, hs, sh)).2 := by
  obtain ⟨hn, kp, mo, bo, L, C⟩ := H
  dsimp only at L C
  have hok := O.2.1
  have ht := O.1.1
  have e66 : ∀ {h : am_H} {mo bo : Int}, am_fr A (A + 144) n h → loR h A t ws bs hs kp mo bo → hiC h A ws bs sh kp mo bo → ∃ h1, (∀ (r : Int) (j2 : am_V), EV (d + 20) N_nw_state T_nw_state_66 [.inr (.inr (some (A))), .inl (r), j2] [] h = some (some (.inl (r)), h1)) ∧ CR n h1 A ([], ws, bs, hs, sh) := by
    intro h mo bo hn L C
    obtain ⟨h1, e1, F1, L1⟩ := lo_tclr L
    refine ⟨h1, fun r j2 => ?_, fz_w F1 hn, kp, mo, bo, L1, C.fr F1 (by omega)⟩
    rw [B_nw_state_66, lo_0 L, Option.bind_some, e1, Option.bind_some]
  have st : am_call (d + 20) N_nw_state [.inr (.inr (some (A)))] h = (if (if (t.length : Int) ≤ 400 ∧ ∀ x ∈ t, isL x = true then (1 : Int) else 0) = 0 then EV (d + 20) N_nw_state T_nw_state_66 [.inr (.inr (some (A))), .inl (-1), am_nul] [] h else EV (d + 20) N_nw_state T_nw_state_15 [.inr (.inr (some (A))), .inl (-1), am_nul] [] h) := by
    rw [en_nw_state, B_nw_state_0, lo_0 L, Option.bind_some, if_pos (lo_tO L), c_isLetters (lo_T L) (d + 17) 400, Option.bind_some]
  have t53 : ∀ (g : am_H) (v : Int) (j2 : am_V), EV (d + 20) N_nw_state T_nw_state_53 [.inr (.inr (some (A))), .inl (-1), j2] [.inl (v)] g = EV (d + 20) N_nw_state T_nw_state_66 [.inr (.inr (some (A))), .inl (if v = -1 then -2 else v), .inl (v)] [] g := by
    intro g v j2
    rw [B_nw_state_53]
    by_cases cv : v = -1
    · rw [if_neg (fun q => q cv), if_pos cv, B_nw_state_59, B_nw_state_65]
    · rw [if_pos cv, if_neg cv, B_nw_state_64, B_nw_state_65]
  unfold sp_state
  dsimp only [noT]
  by_cases c : allL t
  · rw [if_pos c]
    rw [if_pos (⟨by omega, c⟩ : (t.length : Int) ≤ 400 ∧ ∀ x ∈ t, isL x = true), if_neg (by decide), B_nw_state_15, lo_0 L, Option.bind_some, lo_tn L, Option.bind_some] at st
    by_cases cl : t.length ≤ 10
    · rw [if_pos (by omega)] at st
      obtain ⟨h', S, e5, n5, L', C', m5, f5⟩ := nw_fresh L C hok (d + 14)
      obtain ⟨h1, e1, r1⟩ := e66 (am_fr.tr hn n5) L' C'
      have hO : am_isO (maH (A + 92) h' S) (A + 92) 5 = true := ma_O
      rw [m5] at hO
      have hsp := c_spelled (lo_T L') (d + 17) (n := 0) (m := t.length) (Nat.zero_le _) (Nat.le_refl _) (fun i _ hi => c _ (gd_mem hi))
      rw [show min (t.length - 0) 10 = t.length by omega, spl_lw, show ((0 : Nat) : Int) = 0 from rfl] at hsp
      obtain ⟨v, ev, hv⟩ := ma_stateBehind (q := A + 92) (g := h') (S := S) hok f5 (lw_wl c) (by rw [lw_len]; exact cl) (d + 16)
      rw [m5] at ev
      have hst : am_call (d + 20) N_nw_state [.inr (.inr (some (A)))] h = EV (d + 20) N_nw_state T_nw_state_66 [.inr (.inr (some (A))), .inl (if v = -1 then -2 else v), .inl (v)] [] h' := by
        rw [st, B_nw_state_31, if_pos (lo_O L), e5, Option.bind_some]
        dsimp only
        rw [lo_0 L', Option.bind_some, Option.bind_some, lo_tn L', Option.bind_some, if_pos (lo_tO L'), hsp, Option.bind_some]
        dsimp only
        rw [if_pos hO, ev, Option.bind_some]
        dsimp only
        exact t53 _ _ _
      rw [e1] at hst
      rcases hv with ⟨b1, b2⟩ | ⟨b1, b2⟩
      · rw [if_pos b1]
        rw [b2, if_neg (by omega)] at hst
        exact ⟨h1, am_cI_of hst, r1⟩
      · rw [if_neg b1]
        rw [b2, if_pos rfl] at hst
        exact ⟨h1, am_cI_of hst, r1⟩
    · obtain ⟨h1, e1, r1⟩ := e66 hn L C
      rw [if_neg (by omega), B_nw_state_27, t53, if_pos rfl, e1] at st
      rw [if_neg (fun g => by have := bg_len hok g; rw [lw_len] at this; omega)]
      exact ⟨h1, am_cI_of st, r1⟩
  · rw [if_neg c]
    obtain ⟨h1, e1, r1⟩ := e66 hn L C
    rw [if_neg (fun g : (t.length : Int) ≤ 400 ∧ ∀ x ∈ t, isL x = true => c g.2), if_pos rfl, e1] at st
    exact ⟨h1, am_cI_of st, r1⟩
theorem no_about (H : CR n h A (t, ws, bs, hs, sh)) (O : okS t ws bs hs sh) (x w : Int) (d : Nat) : ∃ h', am_cI (d + 20) N_nw_about [.inr (.inr (some (A))), .inl (x), .inl (w)] h = some ((sp_about x w (t, ws, bs, hs, sh)).1, h') ∧ CR n h' A (sp_about x w (t, ws, bs, hs, sh)).2 := by
  obtain ⟨hn, kp, mo, bo, L, C⟩ := H
  dsimp only at L C
  have hok := O.2.1
  obtain ⟨h', S, e5, n5, L', C', m5, f5⟩ := nw_fresh L C hok (d + 14)
  have R' : CR n h' A (t, ws, bs, hs, sh) := ⟨am_fr.tr hn n5, kp, 0, bo, L', C'⟩
  have hO : am_isO (maH (A + 92) h' S) (A + 92) 5 = true := ma_O
  have eh := ma_hasState (q := A + 92) (g := h') (S := S) f5.2.1.1 x (d + 19)
  rw [m5] at hO eh
  unfold sp_about
  dsimp only
  by_cases c : 0 ≤ x ∧ x < nS ws
  · rw [if_pos c] at eh ⊢
    obtain ⟨s, rfl⟩ := Int.eq_ofNat_of_zero_le c.1
    have hn2 := nS_le hok
    obtain ⟨fl, fg⟩ := fst_lt (show s < nS ws by omega)
    have g8 : am_gR (maH (A + 92) h' S) (A + 92) 5 8 = some (A + 92 + 9) := ma_gR_8
    have l8 : am_lI (maH (A + 92) h' S) (A + 92 + 9) (s : Int) = some (S 8 s) := by rw [ma_l_8 (by omega) (by omega), Int.toNat_natCast]
    rw [m5] at g8 l8
    rw [f5.2.1.2.1 s (by omega)] at l8
    refine ⟨h', am_cI_of ?_, R'⟩
    rw [en_nw_about, B_nw_about_0, if_pos (lo_O L), e5, Option.bind_some]
    dsimp only
    rw [if_pos hO, eh, Option.bind_some]
    dsimp only
    rw [if_pos (by decide), B_nw_about_13, lo_7 L', Option.bind_some, g8, Option.bind_some, l8, Option.bind_some, Int.toNat_natCast]
    rcases (show w = 0 ∨ w = 1 ∨ w = 2 ∨ w = 3 ∨ w = 4 ∨ w = 5 ∨ w = 6 ∨ w = 7 ∨ (w < 0 ∨ 7 < w) by omega) with rfl | rfl | rfl | rfl | rfl | rfl | rfl | rfl | cw
    · have a := ma_endsWith (q := A + 92) (g := h') (S := S) hok f5.1 fl (d + 19)
      rw [m5] at a
      have hv : abA ws (s : Int) 0 (fn ws s) = en ws (pn ws (fn ws s)) := by simp [abA]
      rw [hv, C_nw_about_24_0, B_nw_about_72, lo_7 L', Option.bind_some, if_pos hO, a, Option.bind_some]
    · have a := ma_wordsBehind (q := A + 92) (g := h') (S := S) hok f5.1 fl (d + 19)
      rw [m5] at a
      have hv : abA ws (s : Int) 1 (fn ws s) = ((sb ws (pn ws (fn ws s))).length : Int) := by simp [abA]
      rw [hv, C_nw_about_24_1, B_nw_about_81, lo_7 L', Option.bind_some, if_pos hO, a, Option.bind_some]
    · have a := ma_longestBehind (q := A + 92) (g := h') (S := S) hok f5.1 fl (d + 19)
      rw [m5] at a
      have hv : abA ws (s : Int) 2 (fn ws s) = lgt ws (pn ws (fn ws s)) := by simp [abA]
      rw [hv, C_nw_about_24_2, B_nw_about_90, lo_7 L', Option.bind_some, if_pos hO, a, Option.bind_some]
    · have a := ma_shortestBehind (q := A + 92) (g := h') (S := S) hok f5.1 fl (d + 19)
      rw [m5] at a
      have hv : abA ws (s : Int) 3 (fn ws s) = sht ws (pn ws (fn ws s)) := by simp [abA]
      rw [hv, C_nw_about_24_3, B_nw_about_99, lo_7 L', Option.bind_some, if_pos hO, a, Option.bind_some]
    · have a := ma_arcsTo (q := A + 92) (g := h') (S := S) hok f5 (s : Int) (d + 19)
      rw [m5] at a
      have hv : abA ws (s : Int) 4 (fn ws s) = aTo ws (s : Int) := by simp [abA]
      rw [hv, C_nw_about_24_4, B_nw_about_108, lo_7 L', Option.bind_some, if_pos hO, a, Option.bind_some]
    · have a := ma_shortestBeginning (q := A + 92) (g := h') (S := S) hok f5 (s : Int) (d + 19)
      rw [m5] at a
      have hv : abA ws (s : Int) 5 (fn ws s) = sBg ws (s : Int) := by simp [abA]
      rw [hv, C_nw_about_24_5, B_nw_about_117, lo_7 L', Option.bind_some, if_pos hO, a, Option.bind_some]
    · have a := ma_greatestBehind (q := A + 92) (g := h') (S := S) hok f5.1 fl (d + 19)
      rw [m5] at a
      have hv : abA ws (s : Int) 6 (fn ws s) = grt ws (pn ws (fn ws s)) := by simp [abA]
      rw [hv, C_nw_about_24_6, B_nw_about_126, lo_7 L', Option.bind_some, if_pos hO, a, Option.bind_some]
    · have a := ma_beginningsOf (q := A + 92) (g := h') (S := S) hok f5 (s : Int) (d + 19)
      rw [m5] at a
      have hv : abA ws (s : Int) 7 (fn ws s) = nBg ws (s : Int) := by simp [abA]
      rw [hv, C_nw_about_24_7, B_nw_about_135, lo_7 L', Option.bind_some, if_pos hO, a, Option.bind_some]
    · have hv : abA ws (s : Int) w (fn ws s) = -1 := by
        unfold abA
        rw [if_neg (by omega), if_neg (by omega), if_neg (by omega), if_neg (by omega), if_neg (by omega), if_neg (by omega), if_neg (by omega), if_neg (by omega)]
      rw [hv, C_nw_about_24_d _ _ _ _ cw, B_nw_about_144]
  · rw [if_neg c] at eh ⊢
    refine ⟨h', am_cI_of ?_, R'⟩
    rw [en_nw_about, B_nw_about_0, if_pos (lo_O L), e5, Option.bind_some]
    dsimp only
    rw [if_pos hO, eh, Option.bind_some]
    dsimp only
    rw [if_neg (by decide), B_nw_about_11]
theorem no_arc (H : CR n h A (t, ws, bs, hs, sh)) (O : okS t ws bs hs sh) (x k w : Int) (d : Nat) : ∃ h', am_cI (d + 20) N_nw_arc [.inr (.inr (some (A))), .inl (x), .inl (k), .inl (w)] h = some ((sp_arc x k w (t, ws, bs, hs, sh)).1, h') ∧ CR n h' A (sp_arc x k w (t, ws, bs, hs, sh)).2 := by
  obtain ⟨hn, kp, mo, bo, L, C⟩ := H
  dsimp only at L C
  have hok := O.2.1
  obtain ⟨h', S, e5, n5, L', C', m5, f5⟩ := nw_fresh L C hok (d + 14)
  have R' : CR n h' A (t, ws, bs, hs, sh) := ⟨am_fr.tr hn n5, kp, 0, bo, L', C'⟩
  have hO : am_isO (maH (A + 92) h' S) (A + 92) 5 = true := ma_O
  have eh := ma_hasState (q := A + 92) (g := h') (S := S) f5.2.1.1 x (d + 19)
  rw [m5] at hO eh
  unfold sp_arc
  dsimp only
  by_cases c : 0 ≤ x ∧ x < nS ws
  · rw [if_pos c] at eh ⊢
    obtain ⟨s, rfl⟩ := Int.eq_ofNat_of_zero_le c.1
    have hs' : s < nS ws := by omega
    have hn2 := nS_le hok
    have hN' : nN ws ≤ 1001 := ND_len hok
    obtain ⟨fl, fg⟩ := fst_lt hs'
    have ea := fun d => ma_arcsFrom (q := A + 92) (g := h') (S := S) hok f5 hs' d
    rw [m5] at ea
    refine ⟨h', am_cI_of ?_, R'⟩
    rw [en_nw_arc, B_nw_arc_0, if_pos (lo_O L), e5, Option.bind_some]
    dsimp only
    rw [if_pos hO, eh, Option.bind_some]
    dsimp only
    rw [if_pos (by decide), B_nw_arc_13, Int.toNat_natCast]
    unfold arcA
    by_cases c2 : k = -1
    · rw [if_neg (fun q => q c2), if_pos c2, B_nw_arc_18, lo_7 L', Option.bind_some, if_pos hO, ea, Option.bind_some]
    · rw [if_pos c2, if_neg c2, B_nw_arc_27]
      by_cases c3 : 0 ≤ k ∧ k < (kd ws (fn ws s)).length
      · obtain ⟨i, rfl⟩ := Int.eq_ofNat_of_zero_le c3.1
        have hi : i < (kd ws (fn ws s)).length := by omega
        have en := ma_arcNode (q := A + 92) (g := h') (S := S) hok f5 hs' hi (d + 19)
        rw [m5] at en
        have hg : (kd ws (fn ws s))[i]? = some ((kd ws (fn ws s)).getD i 0) := by rw [List.getD_eq_getElem?_getD, List.getElem?_eq_getElem hi]; rfl
        have hin := List.mem_of_getElem? hg
        rw [if_neg (by omega), if_pos c3, Int.toNat_natCast, B_nw_arc_31, lo_7 L', Option.bind_some, if_pos hO, ea, Option.bind_some]
        dsimp only
        rw [if_pos (by omega), B_nw_arc_45, lo_7 L', Option.bind_some, if_pos hO, en, Option.bind_some]
        dsimp only
        generalize (kd ws (fn ws s)).getD i 0 = z at *
        have hz := kd_lt hin
        rcases (show w = 0 ∨ w = 1 ∨ w = 2 ∨ (w < 0 ∨ 2 < w) by omega) with rfl | rfl | rfl | cw
        · have g0 : am_gR (maH (A + 92) h' S) (A + 92) 5 0 = some (A + 92 + 1) := ma_gR_0
          have l0 : am_lI (maH (A + 92) h' S) (A + 92 + 1) (z : Int) = some (S 0 z) := by rw [ma_l_0 (by omega) (by omega), Int.toNat_natCast]
          rw [m5] at g0 l0
          rw [(f5.1.2.1 z hz).1] at l0
          rw [if_pos rfl, C_nw_arc_57_0, B_nw_arc_84, lo_7 L', Option.bind_some, g0, Option.bind_some, l0, Option.bind_some]
        · have a := ma_outputTo (q := A + 92) (g := h') (S := S) hok f5.1 hz (d + 19)
          rw [m5] at a
          rw [if_neg (by decide), if_pos rfl, C_nw_arc_57_1, B_nw_arc_95, lo_7 L', Option.bind_some, if_pos hO, a, Option.bind_some, out_kd hin]
        · have g0 : am_gR (maH (A + 92) h' S) (A + 92) 5 7 = some (A + 92 + 8) := ma_gR_7
          have l0 : am_lI (maH (A + 92) h' S) (A + 92 + 8) (z : Int) = some (S 7 z) := by rw [ma_l_7 (by omega) (by omega), Int.toNat_natCast]
          rw [m5] at g0 l0
          rw [f5.2.1.2.2 z hz] at l0
          rw [if_neg (by decide), if_neg (by decide), if_pos rfl, C_nw_arc_57_2, B_nw_arc_105, lo_7 L', Option.bind_some, g0, Option.bind_some, l0, Option.bind_some]
        · rw [if_neg (by omega), if_neg (by omega), if_neg (by omega), C_nw_arc_57_d _ _ _ _ cw, B_nw_arc_116]
      · rw [if_neg c3]
        by_cases c4 : k < 0
        · rw [if_pos c4, B_nw_arc_43]
        · rw [if_neg c4, B_nw_arc_31, lo_7 L', Option.bind_some, if_pos hO, ea, Option.bind_some]
          dsimp only
          rw [if_neg (by omega), B_nw_arc_43]
  · rw [if_neg c] at eh ⊢
    refine ⟨h', am_cI_of ?_, R'⟩
    rw [en_nw_arc, B_nw_arc_0, if_pos (lo_O L), e5, Option.bind_some]
    dsimp only
    rw [if_pos hO, eh, Option.bind_some]
    dsimp only
    rw [if_neg (by decide), B_nw_arc_11]
theorem no_count (H : CR n h A (t, ws, bs, hs, sh)) (O : okS t ws bs hs sh) (w : Int) (d : Nat) : ∃ h', am_cI (d + 20) N_nw_count [.inr (.inr (some (A))), .inl (w)] h = some ((sp_count w (t, ws, bs, hs, sh)).1, h') ∧ CR n h' A (sp_count w (t, ws, bs, hs, sh)).2 := by
  obtain ⟨hn, kp, mo, bo, L, C⟩ := H
  dsimp only at L C
  have hok := O.2.1
  have R0 : CR n h A (t, ws, bs, hs, sh) := ⟨hn, kp, mo, bo, L, C⟩
  obtain ⟨h', S, e5, n5, L', C', m5, f5⟩ := nw_fresh L C hok (d + 14)
  have R' : CR n h' A (t, ws, bs, hs, sh) := ⟨am_fr.tr hn n5, kp, 0, bo, L', C'⟩
  have b1 : nC bs ≤ 1001 := by
    have h1 := rl_len (e := eR bs) (P := clo bs) (nN bs)
    have h9 : nN bs ≤ 1001 := ND_len O.2.2.1
    unfold nC
    split <;> omega
  have b2 : nO bs ≤ 11 := by
    unfold nO
    split
    · omega
    · next cb => have := (bd_last O.2.2.1 cb).2.2.1; omega
  unfold sp_count
  dsimp only
  rcases (show w = 0 ∨ w = 1 ∨ w = 2 ∨ w = 3 ∨ w = 4 ∨ w = 5 ∨ w = 6 ∨ w = 7 ∨ w = 8 ∨ w = 9 ∨ w = 10 ∨ w = 11 ∨ (w < 0 ∨ 11 < w) by omega) with rfl | rfl | rfl | rfl | rfl | rfl | rfl | rfl | rfl | rfl | rfl | rfl | cw
  · refine ⟨h, am_cI_of ?_, R0⟩
    have hv : coA 0 (t, ws, bs, hs, sh) = (ws.length : Int) := by simp [coA]
    rw [hv, en_nw_count, B_nw_count_0, C_nw_count_1_0, B_nw_count_64, lo_1 L, Option.bind_some, (lo_W L).sz, Option.bind_some]
  · refine ⟨h', am_cI_of ?_, R'⟩
    have hv : coA 1 (t, ws, bs, hs, sh) = (nS ws : Int) := by simp [coA]
    rw [hv, en_nw_count, B_nw_count_0, C_nw_count_1_1, B_nw_count_72, if_pos (lo_O L), e5, Option.bind_some]
    dsimp only
    rw [fr_n m5 f5, Option.bind_some]
  · refine ⟨h', am_cI_of ?_, R'⟩
    have hv : coA 2 (t, ws, bs, hs, sh) = ((al ws).length : Int) := by simp [coA]
    have g : am_gI (maH (A + 92) h' S) (A + 92) 5 16 = some (S 16 0) := ma_gI_16
    rw [m5, f5.2.2.1] at g
    rw [hv, en_nw_count, B_nw_count_0, C_nw_count_1_2, B_nw_count_80, if_pos (lo_O L), e5, Option.bind_some]
    dsimp only
    rw [g, Option.bind_some]
  · refine ⟨h, am_cI_of ?_, R0⟩
    have hv : coA 3 (t, ws, bs, hs, sh) = lst ws [] := by simp [coA]
    rw [hv, en_nw_count, B_nw_count_0, C_nw_count_1_3, B_nw_count_88, lo_1 L, Option.bind_some, if_pos (lo_W L).O, bk_leastNumber (lo_W L) (d + 18), Option.bind_some]
  · refine ⟨h, am_cI_of ?_, R0⟩
    have hv : coA 4 (t, ws, bs, hs, sh) = sumN ws := by simp [coA]
    rw [hv, en_nw_count, B_nw_count_0, C_nw_count_1_4, B_nw_count_96, lo_1 L, Option.bind_some, Option.bind_some, (lo_W L).sz, Option.bind_some, if_pos (lo_W L).O, bk_totalAll hok.1 (lo_W L) (d + 19), Option.bind_some]
  · refine ⟨h, am_cI_of ?_, R0⟩
    have hv : coA 5 (t, ws, bs, hs, sh) = (bs.length : Int) := by simp [coA]
    rw [hv, en_nw_count, B_nw_count_0, C_nw_count_1_5, B_nw_count_112, lo_2 L, Option.bind_some, (lo_B L).sz, Option.bind_some]
  · refine ⟨h, am_cI_of ?_, R0⟩
    have hv : coA 6 (t, ws, bs, hs, sh) = (nO bs : Int) := by simp [coA]
    rw [hv, en_nw_count, B_nw_count_0, C_nw_count_1_6, B_nw_count_120, if_pos (lo_O L), nw_open L O.2.2.1 (d + 16), Option.bind_some]
  · have hv : coA 7 (t, ws, bs, hs, sh) = (nC bs : Int) := by simp [coA]
    obtain ⟨g', bo', e6, n6, L6, C6⟩ := nw_bstates L C O.2.2.1 (d + 14)
    refine ⟨g', am_cI_of ?_, am_fr.tr hn n6, kp, mo, bo', L6, C6⟩
    rw [hv, en_nw_count, B_nw_count_0, C_nw_count_1_7, B_nw_count_125, if_pos (lo_O L), e6, Option.bind_some]
    dsimp only
    rw [if_pos (lo_O L6), nw_open L6 O.2.2.1 (d + 16), Option.bind_some]
    dsimp only
    have hw : am_w ((if bs = [] then 0 else ((nO bs + nC bs : Nat) : Int)) - (nO bs : Int)) = (nC bs : Int) := by
      by_cases cb : bs = []
      · rw [if_pos cb, am_w_id (by omega) (by omega)]
        unfold nO nC
        rw [if_pos cb, if_pos cb]
        rfl
      · rw [if_neg cb, am_w_id (by omega) (by omega)]
        omega
    rw [hw]
  · refine ⟨h, am_cI_of ?_, R0⟩
    have hv : coA 8 (t, ws, bs, hs, sh) = (hs.length : Int) := by simp [coA]
    rw [hv, en_nw_count, B_nw_count_0, C_nw_count_1_8, B_nw_count_135, lo_5 L, Option.bind_some, lo_hn L, Option.bind_some]
  · refine ⟨h, am_cI_of ?_, R0⟩
    have hv : coA 9 (t, ws, bs, hs, sh) = bit3 sh := by simp [coA]
    obtain ⟨⟨K, ⟨k1, k2⟩, k3⟩, _⟩ := C
    rw [hv, en_nw_count, B_nw_count_0, C_nw_count_1_9, B_nw_count_143, lo_kp L, Option.bind_some, k1, kp_bit3 k2 (fun k hk => (k3 k hk).2.1)]
  · refine ⟨h, am_cI_of ?_, R0⟩
    have hv : coA 10 (t, ws, bs, hs, sh) = (t.length : Int) := by simp [coA]
    rw [hv, en_nw_count, B_nw_count_0, C_nw_count_1_10, B_nw_count_148, lo_0 L, Option.bind_some, lo_tn L, Option.bind_some]
  · refine ⟨h', am_cI_of ?_, R'⟩
    have hv : coA 11 (t, ws, bs, hs, sh) = (nN ws : Int) := by simp [coA]
    have g : am_gI (maH (A + 92) h' S) (A + 92) 5 14 = some (S 14 0) := ma_gI_14
    rw [m5, f5.1.1] at g
    rw [hv, en_nw_count, B_nw_count_0, C_nw_count_1_11, B_nw_count_156, if_pos (lo_O L), e5, Option.bind_some]
    dsimp only
    rw [g, Option.bind_some]
  · refine ⟨h, am_cI_of ?_, R0⟩
    have hv : coA w (t, ws, bs, hs, sh) = -1 := by
      unfold coA
      rw [if_neg (by omega), if_neg (by omega), if_neg (by omega), if_neg (by omega), if_neg (by omega), if_neg (by omega), if_neg (by omega), if_neg (by omega), if_neg (by omega), if_neg (by omega), if_neg (by omega), if_neg (by omega)]
    rw [hv, en_nw_count, B_nw_count_0, C_nw_count_1_d _ _ _ _ cw, B_nw_count_164]
end NW
