/-! the class: pack, list, near, like -/
theorem kd_len26 {ws : List wd} (hok : ok ws) {j : Nat} (hj : j < nN ws) : (kd ws j).length ≤ 1001 := by
  have h4 : nN ws ≤ 1001 := ND_len hok
  have h5 : (kd ws j).length ≤ nN ws := by
    unfold kd
    exact Nat.le_trans (List.length_filter_le _ _) (by rw [List.length_range]; exact Nat.le_refl _)
  omega
theorem pkE_bd {ws : List wd} (hok : ok ws) : ∀ x ∈ pkE ws, 0 ≤ x ∧ x < 256 := by
  have hS := nS_le hok
  intro x hx
  unfold pkE at hx
  rcases List.mem_append.mp hx with g | g
  · exact enc_bd (by omega) (by omega) x g
  rcases List.mem_append.mp g with g | g
  · have := lst_bd hok.1 []
    exact enc_bd (by omega) (by omega) x g
  obtain ⟨j, hj, hx⟩ := List.mem_flatMap.mp g
  have hjN : j < nN ws := by
    obtain ⟨s, hs⟩ := List.mem_iff_getElem?.mp hj
    have hlt : s < nS ws := (List.getElem?_eq_some_iff.mp hs).1
    obtain ⟨f1, f2⟩ := fst_lt hlt
    rw [hs] at f2
    injection f2 with f2
    rw [f2]
    exact f1
  have hk := kd_len26 hok hjN
  unfold stN at hx
  rcases List.mem_append.mp hx with g | g
  · unfold stH at g
    by_cases c : en ws (pn ws j) = -2
    · rw [if_pos c, if_pos c, List.append_nil] at g
      exact enc_bd (by omega) (by omega) x g
    · rw [if_neg c, if_neg c] at g
      rcases List.mem_append.mp g with g | g
      · exact enc_bd (by omega) (by omega) x g
      · have := en_bd hok c
        exact enc_bd (by omega) (by omega) x g
  · obtain ⟨c, hc, hx⟩ := List.mem_flatMap.mp g
    have h1 := ll_bd hok hjN hc
    have h2 := lst_kd hok hjN hc
    have h3 := lst_bd hok.1 (pn ws c)
    have h4 := lst_bd hok.1 (pn ws j)
    have h5 := stt_lt (kd_lt hc)
    unfold kN at hx
    rcases List.mem_append.mp hx with g | g
    · exact enc_bd (by omega) (by omega) x g
    rcases List.mem_append.mp g with g | g
    · exact enc_bd (by omega) (by omega) x g
    · exact enc_bd (by omega) (by omega) x g
theorem ok_pack {s : Sta} (h : okT s) : okT (sp_pack s).2 := by
  unfold sp_pack
  split
  · next c => exact ⟨⟨c, pkE_bd h.2.1⟩, h.2⟩
  · exact h
theorem lsi_bd {t : List Int} (ht : t.length ≤ 400) : ∀ (n a : Nat) (rd cu : List wd) (f : Int), a ≤ t.length → rdI rd cu → lsi t n a rd cu = .inl f → 0 ≤ f ∧ f ≤ 8 * 400 + 4 := by
  intro n
  induction n with
  | zero => intro a rd cu f _ _ h; rw [lsi] at h; injection h with h; omega
  | succ n ih =>
    intro a rd cu f ha hI h
    rw [lsi] at h
    cases e : itm t a rd cu with
    | inl f' =>
      rw [e] at h
      dsimp only at h
      injection h with h
      subst h
      have r1 := rn_le isS t ha
      unfold itm at e
      split at e; · injection e with e; omega
      next c1 =>
      have r2 := rn_le isL t r1
      have r2' : le t (rn isS t a) = rn isL t (rn isS t a) := rfl
      split at e; · injection e with e; omega
      split at e; · injection e with e; omega
      split at e; · injection e with e; omega
      split at e; · simp at e
      next c5 =>
      have c5' := Decidable.not_not.mp c5
      have r3 := rn_le isS t (n := le t (rn isS t a)) (by omega)
      have r5 : rn isS t (le t (rn isS t a)) < t.length := by
        rcases Nat.lt_or_ge (rn isS t (le t (rn isS t a))) t.length with g | g
        · exact g
        · unfold tb at c5'; rw [if_neg (by omega)] at c5'; omega
      have r4 := rn_le isS t (n := rn isS t (le t (rn isS t a)) + 1) (by omega)
      split at e; · injection e with e; omega
      split at e; · injection e with e; omega
      simp at e
    | inr q =>
      obtain ⟨b, rd', cu'⟩ := q
      rw [e] at h
      dsimp only at h
      obtain ⟨h1, h2, h3⟩ := itm_ok ha hI e
      have r1 := rn_le isS t h3
      split at h
      · next c =>
        have : rn isS t b < t.length := by
          rcases Nat.lt_or_ge (rn isS t b) t.length with g | g
          · exact g
          · unfold tb at c; rw [if_neg (by omega)] at c; omega
        exact ih _ rd' cu' f (by omega) h1 h
      · split at h
        · injection h with h; omega
        · simp at h
theorem rdL_bd {t : List Int} {ws : List wd} {f : Int} (ht : t.length ≤ 400) (hok : ok ws) (h : rdL t ws = .inl f) : 0 ≤ f ∧ f ≤ 3204 := lsi_bd ht _ _ _ _ _ (Nat.zero_le _) (rdI_0 hok) h
section NW
variable {n : am_H} {h h' : am_H} {A : Nat} {t : List Int} {ws bs : List wd} {hs : List (List wd × List wd)} {sh : Nat → Option (List wd)} {kp mo bo : Int}
theorem am_fr.sy {lo hi : Nat} (F : am_fr lo hi h h') : am_fr lo hi h' h := ⟨F.1.symm, fun q hq => (F.2 q hq).symm⟩
theorem hr_lr (H : hrC h A ws bs mo bo) (F : am_fr (A + 88) (A + 92) h h') (K : ∃ S, lrH (A + 1) (A + 89) (A + 88) h' S = h') (K2 : bkW h' (A + 89)) : hrC h' A ws bs mo bo := by
  obtain ⟨_, ⟨S4, h4, k4⟩, ⟨S5, h5, k5⟩, ⟨S6, h6⟩, ⟨S7, h7, k7⟩, ⟨S8, h8⟩, S9, h9⟩ := H
  exact ⟨⟨K, K2⟩, ⟨S4, maH_keep h4 F (by omega), k4⟩, ⟨S5, maH_keep h5 F (by omega), k5⟩, ⟨S6, paH_keep h6 F (by omega)⟩, ⟨S7, unH_keep h7 F (by omega), k7⟩, ⟨S8, cuH_keep h8 F (by omega)⟩, S9, liH_keep h9 F (by omega)⟩
theorem hr_ma {S : Nat → Nat → Int} {mo' : Int} {ws' : List wd} (H : hrC h A ws bs mo bo) (F : am_fr (A + 92) (A + 107) h h') (K : maH (A + 92) h' S = h') (K2 : mo' = 0 → maF S ws') : hrC h' A ws' bs mo' bo := by
  obtain ⟨⟨⟨S2, h2⟩, h3⟩, _, ⟨S5, h5, k5⟩, ⟨S6, h6⟩, ⟨S7, h7, k7⟩, ⟨S8, h8⟩, S9, h9⟩ := H
  exact ⟨⟨⟨S2, lrH_keep h2 F (by omega)⟩, h3.fr F (by omega)⟩, ⟨S, K, K2⟩, ⟨S5, maH_keep h5 F (by omega), k5⟩, ⟨S6, paH_keep h6 F (by omega)⟩, ⟨S7, unH_keep h7 F (by omega), k7⟩, ⟨S8, cuH_keep h8 F (by omega)⟩, S9, liH_keep h9 F (by omega)⟩
theorem hr_pa {S : Nat → Nat → Int} (H : hrC h A ws bs mo bo) (F : am_fr (A + 122) (A + 124) h h') (K : paH (A + 122) h' S = h') : hrC h' A ws bs mo bo := by
  obtain ⟨⟨⟨S2, h2⟩, h3⟩, ⟨S4, h4, k4⟩, ⟨S5, h5, k5⟩, _, ⟨S7, h7, k7⟩, ⟨S8, h8⟩, S9, h9⟩ := H
  exact ⟨⟨⟨S2, lrH_keep h2 F (by omega)⟩, h3.fr F (by omega)⟩, ⟨S4, maH_keep h4 F (by omega), k4⟩, ⟨S5, maH_keep h5 F (by omega), k5⟩, ⟨S, K⟩, ⟨S7, unH_keep h7 F (by omega), k7⟩, ⟨S8, cuH_keep h8 F (by omega)⟩, S9, liH_keep h9 F (by omega)⟩
theorem hr_un {S : Nat → Nat → Int} (H : hrC h A ws bs mo bo) (F : am_fr (A + 124) (A + 130) h h') (K : unH (A + 1) (A + 124) h' S = h') (K2 : S 2 0 = 0) : hrC h' A ws bs mo bo := by
  obtain ⟨⟨⟨S2, h2⟩, h3⟩, ⟨S4, h4, k4⟩, ⟨S5, h5, k5⟩, ⟨S6, h6⟩, _, ⟨S8, h8⟩, S9, h9⟩ := H
  exact ⟨⟨⟨S2, lrH_keep h2 F (by omega)⟩, h3.fr F (by omega)⟩, ⟨S4, maH_keep h4 F (by omega), k4⟩, ⟨S5, maH_keep h5 F (by omega), k5⟩, ⟨S6, paH_keep h6 F (by omega)⟩, ⟨S, K, K2⟩, ⟨S8, cuH_keep h8 F (by omega)⟩, S9, liH_keep h9 F (by omega)⟩
theorem hr_cu {S : Nat → Nat → Int} (H : hrC h A ws bs mo bo) (F : am_fr (A + 130) (A + 132) h h') (K : cuH (A + 1) (A + 3) (A + 130) h' S = h') : hrC h' A ws bs mo bo := by
  obtain ⟨⟨⟨S2, h2⟩, h3⟩, ⟨S4, h4, k4⟩, ⟨S5, h5, k5⟩, ⟨S6, h6⟩, ⟨S7, h7, k7⟩, _, S9, h9⟩ := H
  exact ⟨⟨⟨S2, lrH_keep h2 F (by omega)⟩, h3.fr F (by omega)⟩, ⟨S4, maH_keep h4 F (by omega), k4⟩, ⟨S5, maH_keep h5 F (by omega), k5⟩, ⟨S6, paH_keep h6 F (by omega)⟩, ⟨S7, unH_keep h7 F (by omega), k7⟩, ⟨S, K⟩, S9, liH_keep h9 F (by omega)⟩
theorem hr_li {S : Nat → Nat → Int} (H : hrC h A ws bs mo bo) (F : am_fr (A + 132) (A + 135) h h') (K : liH (A + 1) (A + 132) h' S = h') : hrC h' A ws bs mo bo := by
  obtain ⟨⟨⟨S2, h2⟩, h3⟩, ⟨S4, h4, k4⟩, ⟨S5, h5, k5⟩, ⟨S6, h6⟩, ⟨S7, h7, k7⟩, ⟨S8, h8⟩, _⟩ := H
  exact ⟨⟨⟨S2, lrH_keep h2 F (by omega)⟩, h3.fr F (by omega)⟩, ⟨S4, maH_keep h4 F (by omega), k4⟩, ⟨S5, maH_keep h5 F (by omega), k5⟩, ⟨S6, paH_keep h6 F (by omega)⟩, ⟨S7, unH_keep h7 F (by omega), k7⟩, ⟨S8, cuH_keep h8 F (by omega)⟩, S, K⟩
theorem tkw_no {t : List Int} : am_lcmp (tkw t) (-1) = 0 ↔ ¬ (t.length ≤ 10 ∧ allL t) := by
  rw [lc_eq]
  unfold tkw
  by_cases c : t.length ≤ 10 ∧ allL t
  · rw [if_pos c]
    have := (ec10 (lw_wl c.2)).1
    exact ⟨fun e => by omega, fun e => absurd c e⟩
  · rw [if_neg c]
    exact ⟨fun _ => c, fun _ => rfl⟩
theorem no_near (H : CR n h A (t, ws, bs, hs, sh)) (O : okS t ws bs hs sh) (x k : Int) (d : Nat) : ∃ h', am_cI (d + 20) N_nw_near [.inr (.inr (some (A))), .inl (x), .inl (k)] h = some ((sp_near x k (t, ws, bs, hs, sh)).1, h') ∧ CR n h' A (sp_near x k (t, ws, bs, hs, sh)).2 := by
  obtain ⟨hn, kp, mo, bo, L, C⟩ := H
  dsimp only at L C
  obtain ⟨h1, e1, F1, L1⟩ := nw_takeLetters L (d + 16)
  replace e1 : am_cL (d + 19) N_nw_takeLetters [.inr (.inr (some (A)))] h = some (tkw t, h1) := e1
  have C1 := C.fr F1 (by omega)
  have n1 := fz_w F1 hn
  have R1 : CR n h1 A ([], ws, bs, hs, sh) := ⟨n1, kp, mo, bo, L1, C1⟩
  unfold sp_near
  dsimp only [noT]
  by_cases c : t.length ≤ 10 ∧ allL t
  · have st : am_call (d + 20) N_nw_near [.inr (.inr (some (A))), .inl (x), .inl (k)] h = EV (d + 20) N_nw_near T_nw_near_13 [.inr (.inr (some (A))), .inl (x), .inl (k), .inr (.inl (ec 10 (lw t))), am_nul] [] h1 := by
      rw [en_nw_near, B_nw_near_0, if_pos (lo_O L), e1, Option.bind_some]
      dsimp only
      rw [if_neg (fun q => tkw_no.mp q c), show tkw t = ec 10 (lw t) from if_pos c]
    by_cases c2 : (0 ≤ x ∧ x ≤ 3) ∧ -1 ≤ k
    · rw [if_pos ⟨c, c2⟩]
      obtain ⟨Cs, Cr⟩ := C1
      obtain ⟨S, hS⟩ := Cr.2.2.2.2.2.2
      obtain ⟨S', e2, m2⟩ := li_markNear (q := A + 132) (ta := A + 1) (g := h1) (S := S) O.2.1 (lo_W L1) (by omega) (lw_wl c.2) (by rw [lw_len]; exact c.1) x (d + 15)
      have hO : am_isO (liH (A + 1) (A + 132) h1 S) (A + 132) 3 = true := li_O
      have hO2 : am_isO (liH (A + 1) (A + 132) h1 S') (A + 132) 3 = true := li_O
      rw [hS] at e2 hO
      have F2 : am_fr (A + 132) (A + 135) h1 (liH (A + 1) (A + 132) h1 S') := liH_fr
      have K2 : liH (A + 1) (A + 132) (liH (A + 1) (A + 132) h1 S') S' = liH (A + 1) (A + 132) h1 S' := liH_H
      have e3 := li_pick (q := A + 132) (ta := A + 1) (g := h1) m2 O.2.1.2.2 c2.2 (d + 19)
      generalize liH (A + 1) (A + 132) h1 S' = h2 at *
      have L2 := L1.fr F2 (by omega)
      refine ⟨h2, am_cI_of (st.trans ?_), fz_w F2 n1, kp, mo, bo, L2, Cs.fr F2 (by omega), hr_li Cr F2 K2⟩
      rw [B_nw_near_13, if_neg (by omega), B_nw_near_17, if_neg (by omega), B_nw_near_22, if_pos c2.2, B_nw_near_29, lo_12 L1, Option.bind_some, lo_1 L1, Option.bind_some, if_pos hO, e2, Option.bind_some, lo_12 L2, Option.bind_some, lo_1 L2, Option.bind_some, (lo_W L2).sz, Option.bind_some, if_pos hO2, e3, Option.bind_some]
    · rw [if_neg (fun q => c2 q.2)]
      refine ⟨h1, am_cI_of (st.trans ?_), R1⟩
      rw [B_nw_near_13]
      by_cases c3 : x < 0
      · rw [if_pos c3, B_nw_near_27]
      · rw [if_neg c3, B_nw_near_17]
        by_cases c4 : 3 < x
        · rw [if_pos c4, B_nw_near_27]
        · rw [if_neg c4, B_nw_near_22, if_neg (fun q => c2 ⟨by omega, q⟩), B_nw_near_27]
  · rw [if_neg (fun q => c q.1)]
    refine ⟨h1, am_cI_of ?_, R1⟩
    rw [en_nw_near, B_nw_near_0, if_pos (lo_O L), e1, Option.bind_some]
    dsimp only
    rw [if_pos (tkw_no.mpr c), B_nw_near_27]
theorem no_like (H : CR n h A (t, ws, bs, hs, sh)) (O : okS t ws bs hs sh) (k : Int) (d : Nat) : ∃ h', am_cI (d + 20) N_nw_like [.inr (.inr (some (A))), .inl (k)] h = some ((sp_like k (t, ws, bs, hs, sh)).1, h') ∧ CR n h' A (sp_like k (t, ws, bs, hs, sh)).2 := by
  obtain ⟨hn, kp, mo, bo, L, C⟩ := H
  dsimp only at L C
  have e44 : ∀ {h : am_H}, am_fr A (A + 144) n h → loR h A t ws bs hs kp mo bo → hiC h A ws bs sh kp mo bo → ∃ h1, (∀ r : Int, EV (d + 20) N_nw_like T_nw_like_44 [.inr (.inr (some (A))), .inl (k), .inl (r)] [] h = some (some (.inl (r)), h1)) ∧ CR n h1 A ([], ws, bs, hs, sh) := by
    intro h hn L C
    obtain ⟨h1, e1, F1, L1⟩ := lo_tclr L
    refine ⟨h1, fun r => ?_, fz_w F1 hn, kp, mo, bo, L1, C.fr F1 (by omega)⟩
    rw [B_nw_like_44, lo_0 L, Option.bind_some, e1, Option.bind_some]
  obtain ⟨Cs, Cr⟩ := id C
  obtain ⟨S, hS⟩ := Cr.2.2.2.2.2.2
  obtain ⟨x, ex, hx⟩ := li_isPattern (q := A + 132) (ta := A + 1) (g := h) (S := S) (lo_T L) (by omega) (d + 18)
  have hO : am_isO (liH (A + 1) (A + 132) h S) (A + 132) 3 = true := li_O
  rw [hS] at ex hO
  have st : am_call (d + 20) N_nw_like [.inr (.inr (some (A))), .inl (k)] h = if x = 0 then EV (d + 20) N_nw_like T_nw_like_44 [.inr (.inr (some (A))), .inl (k), .inl (-1)] [] h else EV (d + 20) N_nw_like T_nw_like_12 [.inr (.inr (some (A))), .inl (k), .inl (-1)] [] h := by
    rw [en_nw_like, B_nw_like_0, lo_12 L, Option.bind_some, if_pos hO, ex, Option.bind_some]
  unfold sp_like
  dsimp only [noT]
  rcases hx with ⟨rfl, hp⟩ | ⟨rfl, hp⟩
  · rw [if_neg (by decide), B_nw_like_12] at st
    by_cases c : -1 ≤ k
    · rw [if_pos ⟨hp, c⟩]
      obtain ⟨S', e2, m2⟩ := li_markLike (q := A + 132) (ta := A + 1) (g := h) (S := S) O.2.1 (lo_T L) (by omega) hp (lo_W L) (by omega) (d + 15)
      have hO2 : am_isO (liH (A + 1) (A + 132) h S') (A + 132) 3 = true := li_O
      rw [hS] at e2
      have F2 : am_fr (A + 132) (A + 135) h (liH (A + 1) (A + 132) h S') := liH_fr
      have K2 : liH (A + 1) (A + 132) (liH (A + 1) (A + 132) h S') S' = liH (A + 1) (A + 132) h S' := liH_H
      have e3 := li_pick (q := A + 132) (ta := A + 1) (g := h) m2 O.2.1.2.2 c (d + 19)
      generalize liH (A + 1) (A + 132) h S' = h2 at *
      have L2 := L.fr F2 (by omega)
      obtain ⟨h3, e4, r4⟩ := e44 (fz_w F2 hn) L2 ⟨Cs.fr F2 (by omega), hr_li Cr F2 K2⟩
      refine ⟨h3, am_cI_of (st.trans ?_), r4⟩
      rw [if_neg (by omega), B_nw_like_17, lo_12 L, Option.bind_some, lo_1 L, Option.bind_some, if_pos hO, e2, Option.bind_some, lo_12 L2, Option.bind_some, lo_1 L2, Option.bind_some, (lo_W L2).sz, Option.bind_some, if_pos hO2, e3, Option.bind_some]
      dsimp only
      rw [e4]
    · rw [if_neg (fun q => c q.2)]
      obtain ⟨h3, e4, r4⟩ := e44 hn L C
      rw [if_pos (by omega), e4] at st
      exact ⟨h3, am_cI_of st, r4⟩
  · rw [if_neg (fun q => hp q.1)]
    obtain ⟨h3, e4, r4⟩ := e44 hn L C
    rw [if_pos rfl, e4] at st
    exact ⟨h3, am_cI_of st, r4⟩
theorem no_list (H : CR n h A (t, ws, bs, hs, sh)) (O : okS t ws bs hs sh) (d : Nat) : ∃ h', am_cI (d + 20) N_nw_list [.inr (.inr (some (A)))] h = some ((sp_list (t, ws, bs, hs, sh)).1, h') ∧ CR n h' A (sp_list (t, ws, bs, hs, sh)).2 := by
  obtain ⟨hn, kp, mo, bo, L, C⟩ := H
  dsimp only at L C
  obtain ⟨h1, e1, F1, k1⟩ := bk_take (lo_D L) (lo_W L) (by omega) (d + 19)
  have L1 := lo_dr L F1 k1.w
  obtain ⟨Cs, Cr⟩ := C.fr F1 (by omega)
  obtain ⟨⟨⟨S, hS⟩, hT⟩, _⟩ := id Cr
  have hO : am_isO (lrH (A + 1) (A + 89) (A + 88) h1 S) (A + 88) 4 = true := lr_O
  rw [hS] at hO
  obtain ⟨x, h2, S2, e2, K2, F2, T2, r2⟩ := lr_read (q := A + 88) (ta := A + 1) (to := A + 89) (b := A + 9) (by unfold lrD; omega) hS (lo_T L1) O.2.1 hT k1 (d + 15)
  -- the draft first, then the reader
  obtain ⟨hm, ehm⟩ : ∃ hm : am_H, hm = (h1.1, fun c => if A + 9 ≤ c ∧ c < A + 12 then h2.2 c else h1.2 c) := ⟨_, rfl⟩
  have G1 : am_fr (A + 9) (A + 12) h1 hm := by rw [ehm]; exact ⟨rfl, fun c hc => if_neg (by omega)⟩
  have G2 : am_fr (A + 88) (A + 92) hm h2 := by
    refine ⟨by rw [ehm]; exact F2.1, fun c hc => ?_⟩
    rw [ehm]
    dsimp only
    by_cases cc : A + 9 ≤ c ∧ c < A + 12
    · rw [if_pos cc]
    · rw [if_neg cc]
      exact F2.2 c (by omega) (by omega) (by omega)
  have D2 : bkW h2 (A + 9) := by
    cases e : rdL t ws with
    | inl f => rw [e] at r2; exact r2.2.2
    | inr w' => rw [e] at r2; exact r2.2.w
  have L2 : loR h2 A t ws bs hs kp mo bo := (lo_dr L1 G1 (D2.fr G2.sy (by omega))).fr G2 (by omega)
  have C2 : hiC h2 A ws bs sh kp mo bo := ⟨(Cs.fr G1 (by omega)).fr G2 (by omega), hr_lr (Cr.fr G1 (by omega)) G2 ⟨S2, K2⟩ T2⟩
  obtain ⟨h3, e3, F3, L3⟩ := lo_tclr L2
  have C3 := C2.fr F3 (by omega)
  have n3 : am_fr A (A + 144) n h3 := fz_w F3 (fz_w G2 (fz_w G1 (fz_w F1 hn)))
  have st : am_call (d + 20) N_nw_list [.inr (.inr (some (A)))] h = if x = 0 then EV (d + 20) N_nw_list T_nw_list_40 [.inr (.inr (some (A))), .inl (x)] [] h3 else EV (d + 20) N_nw_list T_nw_list_35 [.inr (.inr (some (A))), .inl (x)] [] h3 := by
    rw [en_nw_list, B_nw_list_0, lo_3 L, Option.bind_some, lo_1 L, Option.bind_some, if_pos (lo_D L).O, e1, Option.bind_some, lo_6 L1, Option.bind_some, lo_3 L1, Option.bind_some, if_pos hO, e2, Option.bind_some]
    dsimp only
    rw [lo_0 L2, Option.bind_some, e3, Option.bind_some]
  unfold sp_list
  dsimp only [noT, act]
  cases e : rdL t ws with
  | inl f =>
    rw [e] at r2
    obtain ⟨r3, r4, _⟩ := r2
    have hf := rdL_bd O.1.1 O.2.1 e
    subst r3
    rw [if_neg (by omega), B_nw_list_35, am_w_id (by omega) (by omega)] at st
    exact ⟨h3, am_cI_of st, n3, kp, mo, bo, L3, C3⟩
  | inr w' =>
    rw [e] at r2
    obtain ⟨r3, r4⟩ := r2
    subst r3
    obtain ⟨h4, e4, F4, L4⟩ := nw_becomeDraft L3 (r4.fr F3 (by omega)) (d + 17)
    have C4 : hiC h4 A w' bs sh kp 1 bo := (C3.fr F4 (by omega)).fl (fun e => absurd e (by decide)) (fun e => ⟨e, rfl⟩)
    rw [if_pos rfl, B_nw_list_40, if_pos (lo_O L3), e4, Option.bind_some, lo_1 L4, Option.bind_some, (lo_W L4).sz, Option.bind_some] at st
    exact ⟨h4, am_cI_of st, fz_w F4 n3, kp, 1, bo, L4, C4⟩
theorem no_pack (H : CR n h A (t, ws, bs, hs, sh)) (O : okS t ws bs hs sh) (d : Nat) : ∃ h', am_cI (d + 20) N_nw_pack [.inr (.inr (some (A)))] h = some ((sp_pack (t, ws, bs, hs, sh)).1, h') ∧ CR n h' A (sp_pack (t, ws, bs, hs, sh)).2 := by
  obtain ⟨hn, kp, mo, bo, L, C⟩ := H
  dsimp only at L C
  have hok := O.2.1
  have Ok := ok_pack (s := (t, ws, bs, hs, sh)) O
  obtain ⟨h1, S, e1, n1, L1, C1, m1, f1⟩ := nw_fresh L C hok (d + 14)
  obtain ⟨Cs, Cr⟩ := C1
  obtain ⟨S6, h6⟩ := Cr.2.2.2.1
  obtain ⟨S', e2, r2⟩ := pa_write (p := A + 122) (q := A + 92) (g := h1) (S := S6) hok f1 m1 (by omega) (d + 16)
  have hO : am_isO (paH (A + 122) h1 S6) (A + 122) 6 = true := pa_O
  rw [h6] at e2 hO
  have F2 : am_fr (A + 122) (A + 124) h1 (paH (A + 122) h1 S') := paH_fr
  have K2 : paH (A + 122) (paH (A + 122) h1 S') S' = paH (A + 122) h1 S' := paH_H
  have g0 : am_gR (paH (A + 122) h1 S') (A + 122) 6 0 = some (A + 122 + 1) := pa_gR_0
  have g1 : am_gI (paH (A + 122) h1 S') (A + 122) 6 1 = some (S' 1 0) := pa_gI_1
  have c0 : (paH (A + 122) h1 S').2 (A + 122 + 1) = .inl (0, 400, .inl (S' 0)) := pa_c_0
  generalize paH (A + 122) h1 S' = h2 at *
  have L2 := L1.fr F2 (by omega)
  have C2 : hiC h2 A ws bs sh kp 0 bo := ⟨Cs.fr F2 (by omega), hr_pa Cr F2 K2⟩
  have n2 : am_fr A (A + 144) n h2 := fz_w F2 (am_fr.tr hn n1)
  have st : am_call (d + 20) N_nw_pack [.inr (.inr (some (A)))] h = if ¬ (if (pkE ws).length ≤ 400 then (1 : Int) else 0) = 0 then EV (d + 20) N_nw_pack T_nw_pack_17 [.inr (.inr (some (A)))] [] h2 else EV (d + 20) N_nw_pack T_nw_pack_14 [.inr (.inr (some (A)))] [] h2 := by
    rw [en_nw_pack, B_nw_pack_0, lo_9 L, Option.bind_some, if_pos (lo_O L), e1, Option.bind_some]
    dsimp only
    rw [if_pos hO, e2, Option.bind_some]
  unfold sp_pack at Ok ⊢
  dsimp only at Ok ⊢
  by_cases c : (pkE ws).length ≤ 400
  · rw [if_pos c] at Ok ⊢
    replace Ok : okS (pkE ws) ws bs hs sh := Ok
    obtain ⟨p1, p2, p3⟩ := r2 c
    rw [show min (pkE ws).length 400 = (pkE ws).length by omega] at p1
    generalize pkE ws = B at *
    obtain ⟨t1, t2, t3, B0, t4, t5⟩ := lo_T L2
    have e3 := rd_cpI (h := h2) (sp := 0) (dp := 0) (n := (B.length : Int)) c0 t4 (by decide) (by decide) (by omega) (by omega) (by omega)
    obtain ⟨h3, eh3⟩ : ∃ h3, h3 = am_up h2 (A + 1 + 1) (.inl (0, 400, .inl (va_cpy (S' 0) B0 (0 : Int).toNat (0 : Int).toNat (B.length : Int).toNat))) := ⟨_, rfl⟩
    rw [← eh3] at e3
    have F3 : am_fr (A + 1) (A + 3) h2 h3 := by rw [eh3]; exact am_fr.up (by omega) (by omega)
    have t1' : h3.2 (A + 1) = .inr (7, [.inr (.inr (some (A + 1 + 1))), .inl ((t.length : Int))]) := by rw [eh3]; exact (up_ne (by omega)).trans t1
    have hA3 : h3.2 A = nwO A kp 0 bo := (F3.2 _ (by omega)).trans L2.1
    have q0 : am_gR h3 A 9 0 = some (A + 1) := rd_gR hA3 rfl
    have q9 : am_gR h3 A 9 9 = some (A + 122) := rd_gR hA3 rfl
    have g1' : am_gI h3 (A + 122) 6 1 = some (S' 1 0) := by
      have := paH_keep K2 F3 (by omega)
      have g : am_gI (paH (A + 122) h3 S') (A + 122) 6 1 = some (S' 1 0) := pa_gI_1
      rwa [this] at g
    obtain ⟨h4, eh4⟩ : ∃ h4, h4 = am_up h3 (A + 1) (.inr (7, [.inr (.inr (some (A + 1 + 1))), .inl ((B.length : Int))])) := ⟨_, rfl⟩
    have e4 : am_p h3 (A + 1) 7 1 (.inl ((B.length : Int))) = some h4 := by rw [eh4]; exact rd_p t1' (show 1 < 2 by decide)
    have F4 : am_fr (A + 1) (A + 3) h3 h4 := by rw [eh4]; exact am_fr.up (by omega) (by omega)
    have T4 : tp_at h4 (A + 1) B := by
      refine ⟨by rw [eh4]; exact up_self, Ok.1.1, Ok.1.2, va_cpy (S' 0) B0 0 0 B.length, by rw [eh4, up_ne (by omega), eh3]; exact up_self, fun i hi => ?_⟩
      rw [cpy0, if_pos hi]
      exact p3 i hi (by omega)
    have L4 := lo_tp L2 (F3.tr F4) T4
    have tn : am_gI h4 (A + 1) 7 1 = some (B.length : Int) := lo_tn L4
    refine ⟨h4, am_cI_of (st.trans ?_), fz_w F4 (fz_w F3 n2), kp, 0, bo, L4, (C2.fr F3 (by omega)).fr F4 (by omega)⟩
    have gt0 : am_gR h2 (A + 1) 7 0 = some (A + 1 + 1) := rd_gR t1 rfl
    rw [if_pos c, if_pos (by decide), B_nw_pack_17, lo_9 L2, Option.bind_some, g0, Option.bind_some, lo_0 L2, Option.bind_some, gt0, Option.bind_some, Option.bind_some, g1, Option.bind_some, p1, e3, Option.bind_some, q0, Option.bind_some, q9, Option.bind_some, g1', Option.bind_some, p1, e4, Option.bind_some, lo_0 L4, Option.bind_some, tn, Option.bind_some]
  · rw [if_neg c]
    rw [if_neg c, if_neg (by decide), B_nw_pack_14] at st
    exact ⟨h2, am_cI_of st, n2, kp, 0, bo, L2, C2⟩
end NW
