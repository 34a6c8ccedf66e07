/-! the class: a text cut into words -/
section CU
variable {q ta bk : Nat} {g : am_H} {S : Nat → Nat → Int} {t : List Int} {ws : List wd}
theorem spl_lw2 (t : List Int) (i L : Nat) : spl t i L = ((lw t).drop i).take L := by
  unfold spl lw
  rw [← List.map_drop, ← List.map_take]
/-- where things lie, and what they are -/
def cuP (g : am_H) (q ta bk : Nat) (t : List Int) (ws : List wd) : Prop := (tp_at g ta t ∧ bkR g bk ws) ∧ (ok ws ∧ allL t ∧ t.length ≤ 60) ∧ (ta + 2 ≤ q ∨ q + 2 ≤ ta) ∧ (bk + 3 ≤ q ∨ q + 2 ≤ bk)
theorem cu_pieceAt (H : cuP g q ta bk t ws) {i L : Nat} (hi : i ≤ 60) (hL : L ≤ 10) (d : Nat) : am_cI (d + 3) N_cu_pieceAt [.inr (.inr (some (q))), .inl ((i : Int)), .inl ((L : Int))] (cuH ta bk q g S) = some (if pcw ws (lw t) i L = none then -1 else (ah ws (((lw t).drop i).take L) : Int), cuH ta bk q g S) := by
  obtain ⟨⟨T, B⟩, ⟨hok, hA, ht⟩, D1, D2⟩ := H
  have Tu : tp_at (cuH ta bk q g S) ta t := T.fr cuH_fr D1
  have Bu : bkR (cuH ta bk q g S) bk ws := B.fr cuH_fr D2
  have gT := rd_gI Tu.1 (k := 1) rfl
  have oT := rd_O Tu.1
  have e1 : am_w ((i : Int) + (L : Int)) = ((i + L : Nat) : Int) := by rw [am_w_id (by omega) (by omega)]; omega
  have hlen : (lw t).length = t.length := lw_len
  apply am_cI_of
  rw [en_cu_pieceAt, B_cu_pieceAt_0, cu_gR_0, Option.bind_some, gT, Option.bind_some, e1]
  by_cases c : i + L ≤ t.length
  · have hsp := c_spelled Tu d (n := i) (m := i + L) (by omega) c (fun j h1 h2 => by
      have hj : j < t.length := by omega
      rw [gd_s hj]
      exact hA _ (List.getElem_mem hj))
    rw [show min (i + L - i) 10 = L by omega, spl_lw2] at hsp
    have hwl : wl (((lw t).drop i).take L) := fun x hx => lw_wl hA x (List.mem_of_mem_drop (List.mem_of_mem_take hx))
    have hl10 : (((lw t).drop i).take L).length ≤ 10 := by rw [List.length_take]; omega
    have hpl := bk_placeOf hok.b Bu hwl hl10 (d + 1)
    have hpc : pcw ws (lw t) i L = nu ws (((lw t).drop i).take L) := by unfold pcw; rw [if_pos (by omega)]
    have hiL : (i : Int) + (L : Int) = ((i + L : Nat) : Int) := by omega
    rw [if_pos (by omega), B_cu_pieceAt_17, cu_gR_1, Option.bind_some, cu_gR_0, Option.bind_some, if_pos oT, am_w_id (x := (i : Int) + (L : Int)) (by omega) (by omega), hiL, hsp, Option.bind_some]
    dsimp only
    rw [if_pos Bu.O, hpl, Option.bind_some, B_cu_pieceAt_35, hpc]
  · have hpc : pcw ws (lw t) i L = none := by unfold pcw; rw [if_neg (by omega)]
    rw [if_neg (by omega), B_cu_pieceAt_13, B_cu_pieceAt_35, hpc, if_pos rfl]
theorem cu_longestAt (H : cuP g q ta bk t ws) {i : Nat} (hi : i ≤ 60) (d : Nat) : am_cI (d + 4) N_cu_longestAt [.inr (.inr (some (q))), .inl ((i : Int))] (cuH ta bk q g S) = some (la ws (lw t) i, cuH ta bk q g S) := by
  have hok := H.2.1.1
  have hsp := la_spec (u := lw t) hok i
  have lp : ∀ L : Nat, L ≤ 10 → (∀ L', L < L' → pcw ws (lw t) i L' = none) → EV (d + 4) N_cu_longestAt T_cu_longestAt_3 [.inr (.inr (some (q))), .inl ((i : Int)), .inl ((L : Int))] [] (cuH ta bk q g S) = some (some (.inl (la ws (lw t) i)), cuH ta bk q g S) := by
    intro L
    induction L with
    | zero =>
      intro _ hn
      have h0 : la ws (lw t) i = 0 := by
        rcases hsp with ⟨h, _⟩ | ⟨L, h1, h2, _⟩
        · exact h
        · by_cases c : 0 < L
          · exact absurd (hn L c) h2
          · rw [h1]; omega
      rw [h0]
      (try dsimp only); rw [B_cu_longestAt_3]; (try simp (disch := omega) only [Option.bind_some, if_true, if_false, eq_self, not_true_eq_false, not_false_eq_true, am_w_id, if_pos, if_neg, fu_self, fu_ne, Int.toNat_natCast]); rw [B_cu_longestAt_25]; (try simp (disch := omega) only [Option.bind_some, if_true, if_false, eq_self, not_true_eq_false, not_false_eq_true, am_w_id, if_pos, if_neg, fu_self, fu_ne, Int.toNat_natCast])
    | succ L ih =>
      intro hL hn
      have hp := fun d => cu_pieceAt (q := q) (S := S) H hi hL d
      have c0 : ¬ ((L + 1 : Nat) : Int) ≤ 0 := by omega
      by_cases c : pcw ws (lw t) i (L + 1) = none
      · rw [if_pos c] at hp
        have e9 : ((L + 1 : Nat) : Int) + (-1) = (L : Int) := by omega
        refine Eq.trans ?_ (ih (by omega) (fun L' hL' => ?_))
        · (try dsimp only); rw [B_cu_longestAt_3]; (try simp (disch := omega) only [Option.bind_some, if_true, if_false, eq_self, not_true_eq_false, not_false_eq_true, am_w_id, if_pos, if_neg, fu_self, fu_ne, Int.toNat_natCast, c0, hp, e9]); rw [B_cu_longestAt_7]; (try simp (disch := omega) only [Option.bind_some, if_true, if_false, eq_self, not_true_eq_false, not_false_eq_true, am_w_id, if_pos, if_neg, fu_self, fu_ne, Int.toNat_natCast, cu_O, c0, hp, e9]); rw [B_cu_longestAt_19]; (try simp (disch := omega) only [Option.bind_some, if_true, if_false, eq_self, not_true_eq_false, not_false_eq_true, am_w_id, if_pos, if_neg, fu_self, fu_ne, Int.toNat_natCast, c0, hp, e9])
        · by_cases cl : L' = L + 1
          · rw [cl]; exact c
          · exact hn L' (by omega)
      · rw [if_neg c] at hp
        have h0 : la ws (lw t) i = ((L + 1 : Nat) : Int) := by
          rcases hsp with ⟨_, h⟩ | ⟨L', h1, h2, h3⟩
          · exact absurd (h (L + 1)) c
          · rw [h1]
            rcases Nat.lt_trichotomy L' (L + 1) with g | g | g
            · exact absurd (h3 _ g) c
            · rw [g]
            · exact absurd (hn _ g) h2
        have cn : ¬ (ah ws (((lw t).drop i).take (L + 1)) : Int) = -1 := by omega
        rw [h0]
        (try dsimp only); rw [B_cu_longestAt_3]; (try simp (disch := omega) only [Option.bind_some, if_true, if_false, eq_self, not_true_eq_false, not_false_eq_true, am_w_id, if_pos, if_neg, fu_self, fu_ne, Int.toNat_natCast, c0, hp, cn]); rw [B_cu_longestAt_7]; (try simp (disch := omega) only [Option.bind_some, if_true, if_false, eq_self, not_true_eq_false, not_false_eq_true, am_w_id, if_pos, if_neg, fu_self, fu_ne, Int.toNat_natCast, cu_O, c0, hp, cn]); rw [B_cu_longestAt_17]; (try simp (disch := omega) only [Option.bind_some, if_true, if_false, eq_self, not_true_eq_false, not_false_eq_true, am_w_id, if_pos, if_neg, fu_self, fu_ne, Int.toNat_natCast, c0, hp, cn])
  apply am_cI_of
  rw [en_cu_longestAt, B_cu_longestAt_0]
  exact lp 10 (Nat.le_refl _) (fun L' hL' => by
    cases e : pcw ws (lw t) i L' with
    | none => rfl
    | some n => have := (pcw_len hok e).1; omega)
theorem cu_longest (H : cuP g q ta bk t ws) {x : Int} (hx : x = 0 ∨ x = 1) (d : Nat) : am_cI (d + 5) N_cu_longest [.inr (.inr (some (q))), .inl (x)] (cuH ta bk q g S) = some (if x = 0 then (gr ws (lw t) ((lw t).length + 1) 0 0).1 else (gr ws (lw t) ((lw t).length + 1) 0 0).2, cuH ta bk q g S) := by
  obtain ⟨⟨T, B⟩, ⟨hok, hA, ht⟩, D1, D2⟩ := id H
  have Tu : tp_at (cuH ta bk q g S) ta t := T.fr cuH_fr D1
  have gT := rd_gI Tu.1 (k := 1) rfl
  have hlen : (lw t).length = t.length := lw_len
  have hla := fun i hi d => cu_longestAt (q := q) (S := S) (i := i) H hi d
  have fin : ∀ (p : Nat) (c x4 : Int), EV (d + 5) N_cu_longest T_cu_longest_45 [.inr (.inr (some (q))), .inl (x), .inl ((p : Int)), .inl (c), .inl (x4)] [] (cuH ta bk q g S) = some (some (.inl (if x = 0 then (c, (p : Int)).1 else (c, (p : Int)).2)), cuH ta bk q g S) := by
    intro p c x4
    rcases hx with rfl | rfl
    · rw [B_cu_longest_45, if_pos rfl, B_cu_longest_53, B_cu_longest_54, if_pos rfl]
    · rw [B_cu_longest_45, if_neg (by decide), B_cu_longest_49, B_cu_longest_54, if_neg (by decide)]
  have lp : ∀ (n p : Nat) (c : Int), p ≤ t.length → t.length + 1 ≤ p + n → 0 ≤ c → c ≤ p → EV (d + 5) N_cu_longest T_cu_longest_11 [.inr (.inr (some (q))), .inl (x), .inl ((p : Int)), .inl (c), .inl (la ws (lw t) p)] [] (cuH ta bk q g S) = some (some (.inl (if x = 0 then (gr ws (lw t) n p c).1 else (gr ws (lw t) n p c).2)), cuH ta bk q g S) := by
    intro n
    induction n with
    | zero => intro p c h1 h2; omega
    | succ n ih =>
      intro p c h1 h2 h3 h4
      have hb := la_bd hok.1 (lw t) p
      rw [gr]
      by_cases cl : t.length ≤ p
      · have h0 : la ws (lw t) p ≤ 0 := by
          have := hb.2.2
          omega
        have cl' : (t.length : Int) ≤ (p : Int) := by omega
        rw [if_pos h0, B_cu_longest_11, cu_gR_0, Option.bind_some, gT, Option.bind_some, if_pos cl', fin]
      · have cl' : ¬ (t.length : Int) ≤ (p : Int) := by omega
        by_cases c0 : la ws (lw t) p ≤ 0
        · rw [if_pos c0, B_cu_longest_11, cu_gR_0, Option.bind_some, gT, Option.bind_some, if_neg cl', B_cu_longest_22, if_pos c0, fin]
        · have h5 := hb.2.2 (by omega)
          obtain ⟨L, hL⟩ : ∃ L : Nat, la ws (lw t) p = (L : Int) := ⟨(la ws (lw t) p).toNat, by omega⟩
          have e1 : am_w ((p : Int) + la ws (lw t) p) = ((p + L : Nat) : Int) := by rw [am_w_id (by omega) (by omega)]; omega
          have e2 : am_w (c + 1) = c + 1 := am_w_id (by omega) (by omega)
          have hl2 := hla (p + L) (by omega) d
          have ih2 := ih (p + L) (c + 1) (by omega) (by omega) (by omega) (by omega)
          rw [if_neg c0, show (la ws (lw t) p).toNat = L by omega]
          rw [B_cu_longest_11, cu_gR_0, Option.bind_some, gT, Option.bind_some, if_neg cl', B_cu_longest_22, if_neg c0, B_cu_longest_27, if_pos cu_O, e1, hl2, Option.bind_some, e2]
          exact ih2
  have h0 := hla 0 (by omega) d
  have h0' : am_cI (d + 4) N_cu_longestAt [.inr (.inr (some (q))), .inl (0)] (cuH ta bk q g S) = some (la ws (lw t) 0, cuH ta bk q g S) := h0
  apply am_cI_of
  rw [en_cu_longest, B_cu_longest_0, if_pos cu_O, h0', Option.bind_some, hlen]
  exact lp (t.length + 1) 0 0 (Nat.zero_le _) (by omega) (by omega) (by omega)
/-- the table before it is filled -/
theorem cu_fill (x : Int) (d : Nat) : ∃ S', am_cV d N_ar_fill [.inr (.inr (some (q + 1))), .inl (x)] (cuH ta bk q g S) = some (cuH ta bk q g S') ∧ ∀ i, i < 61 → S' 2 i = x := by
  obtain ⟨f', e1, hf⟩ := ar_fill (h := cuH ta bk q g S) (a := q + 1) (n := 61) (f := S 2) x cu_c_2 (by decide) d
  have e2 : am_up (cuH ta bk q g S) (q + 1) (.inl (0, 61, .inl f')) = cuH ta bk q g (am_fu S 2 f') := xH_up1 (i := 0) rfl rfl cuC_nd
  rw [e2] at e1
  exact ⟨_, e1, fun i hi => by rw [fu_self]; exact hf i hi⟩
theorem cu_spread (H : cuP g q ta bk t ws) {x : Int} {by_ : Bool} (hx : (x = 0 ∧ by_ = false) ∨ (x = 1 ∧ by_ = true)) (d : Nat) : ∃ S', am_cI (d + 4) N_cu_spread [.inr (.inr (some (q))), .inl (x)] (cuH ta bk q g S) = some (if by_ = true then (PV ws (lw t) 0).2.1 else (PV ws (lw t) 0).1, cuH ta bk q g S') := by
  obtain ⟨⟨T, B⟩, ⟨hok, hA, ht⟩, D1, D2⟩ := id H
  have Tu : ∀ S, tp_at (cuH ta bk q g S) ta t := fun S => T.fr cuH_fr D1
  have Bu : ∀ S, bkR (cuH ta bk q g S) bk ws := fun S => B.fr cuH_fr D2
  have gT := fun S => rd_gI (Tu S).1 (k := 1) rfl
  have hlen : (lw t).length = t.length := lw_len
  have hM : MIN = -61 := rfl
  obtain ⟨S1, e1, f1⟩ := cu_fill (q := q) (ta := ta) (bk := bk) (g := g) (S := S) (-61) (d + 3)
  obtain ⟨S2, hS2⟩ : ∃ U, U = am_fu S1 2 (am_fu (S1 2) 0 0) := ⟨_, rfl⟩
  have emin : am_min (t.length : Int) 60 = (t.length : Int) := by unfold am_min; split <;> omega
  have st : am_call (d + 4) N_cu_spread [.inr (.inr (some (q))), .inl (x)] (cuH ta bk q g S) = EV (d + 4) N_cu_spread T_cu_spread_31 [.inr (.inr (some (q))), .inl (x), .inl ((t.length : Int)), .inl (((0 : Nat) : Int)), am_nul, am_nul, am_nul] [] (cuH ta bk q g S2) := by
    (try dsimp only); rw [en_cu_spread]; (try simp (disch := omega) only [Option.bind_some, if_true, if_false, eq_self, not_true_eq_false, not_false_eq_true, am_w_id, if_pos, if_neg, fu_self, fu_ne, Int.toNat_natCast, gT, e1, Int.toNat_zero, hS2.symm, emin]); rw [B_cu_spread_0]; (try simp (disch := omega) only [Option.bind_some, if_true, if_false, eq_self, not_true_eq_false, not_false_eq_true, am_w_id, if_pos, if_neg, fu_self, fu_ne, Int.toNat_natCast, cu_gR_0, cu_gR_2, cu_l_2, cu_s_2, gT, e1, Int.toNat_zero, hS2.symm, emin])
    rfl
  -- the pieces from one place
  have inner : ∀ (m L i : Nat) (U : Nat → Nat → Int) (j5 j6 : am_V), L + m = 11 → 1 ≤ L → i < t.length → fOK (U 2) → mxI ws (lw t) by_ (cnd2 ws (lw t) by_ (U 2) i L) → ∃ U' x4 j5' j6', EV (d + 4) N_cu_spread T_cu_spread_39 [.inr (.inr (some (q))), .inl (x), .inl ((t.length : Int)), .inl ((i : Int)), .inl ((L : Int)), j5, j6] [] (cuH ta bk q g U) = EV (d + 4) N_cu_spread T_cu_spread_137 [.inr (.inr (some (q))), .inl (x), .inl ((t.length : Int)), .inl ((i : Int)), .inl (x4), j5', j6'] [] (cuH ta bk q g U') ∧ fOK (U' 2) ∧ mxI ws (lw t) by_ (cnd1 ws (lw t) by_ (U' 2) (i + 1)) := by
    intro m
    induction m with
    | zero =>
      intro L i U j5 j6 hL _ hi hf h
      refine ⟨U, (L : Int), j5, j6, ?_, hf, mx_out hok (Or.inl (by omega)) h⟩
      have c : (10 : Int) < (L : Int) := by omega
      rw [B_cu_spread_39, if_pos c]
    | succ m ih =>
      intro L i U j5 j6 hL hL1 hi hf h
      have c : ¬ (10 : Int) < (L : Int) := by omega
      have e9 : (L : Int) + 1 = ((L + 1 : Nat) : Int) := by omega
      by_cases cm : U 2 i = MIN
      · refine ⟨U, (L : Int), j5, j6, ?_, hf, mx_out hok (Or.inr cm) h⟩
        rw [hM] at cm
        (try dsimp only); rw [B_cu_spread_39]; (try simp (disch := omega) only [Option.bind_some, if_true, if_false, eq_self, not_true_eq_false, not_false_eq_true, am_w_id, if_pos, if_neg, fu_self, fu_ne, Int.toNat_natCast, c, cm]); rw [B_cu_spread_46]; (try simp (disch := omega) only [Option.bind_some, if_true, if_false, eq_self, not_true_eq_false, not_false_eq_true, am_w_id, if_pos, if_neg, fu_self, fu_ne, Int.toNat_natCast, cu_gR_2, cu_l_2, cu_s_2, c, cm])
      · have cm' : ¬ U 2 i = -61 := cm
        have hp := fun d => cu_pieceAt (q := q) (S := U) H (i := i) (L := L) (by omega) (by omega) d
        cases e : pcw ws (lw t) i L with
        | none =>
          rw [if_pos e] at hp
          obtain ⟨U', x4, j5', j6', e2, r⟩ := ih (L + 1) i U (.inl (-1)) j6 (by omega) (by omega) hi hf (mx_skip e h)
          refine ⟨U', x4, j5', j6', Eq.trans ?_ e2, r⟩
          (try dsimp only); rw [B_cu_spread_39]; (try simp (disch := omega) only [Option.bind_some, if_true, if_false, eq_self, not_true_eq_false, not_false_eq_true, am_w_id, if_pos, if_neg, fu_self, fu_ne, Int.toNat_natCast, c, cm', hp, e9]); rw [B_cu_spread_46]; (try simp (disch := omega) only [Option.bind_some, if_true, if_false, eq_self, not_true_eq_false, not_false_eq_true, am_w_id, if_pos, if_neg, fu_self, fu_ne, Int.toNat_natCast, cu_gR_2, cu_l_2, cu_s_2, c, cm', hp, e9]); rw [B_cu_spread_57]; (try simp (disch := omega) only [Option.bind_some, if_true, if_false, eq_self, not_true_eq_false, not_false_eq_true, am_w_id, if_pos, if_neg, fu_self, fu_ne, Int.toNat_natCast, cu_O, c, cm', hp, e9]); rw [B_cu_spread_131]; (try simp (disch := omega) only [Option.bind_some, if_true, if_false, eq_self, not_true_eq_false, not_false_eq_true, am_w_id, if_pos, if_neg, fu_self, fu_ne, Int.toNat_natCast, c, cm', hp, e9])
        | some n =>
          have hpl := pcw_len hok e
          rw [hlen] at hpl
          rw [if_neg (by rw [e]; simp)] at hp
          have hnu : nu ws (((lw t).drop i).take L) = some n := by
            have := e
            unfold pcw at this
            rw [if_pos (by omega)] at this
            exact this
          have hws := nu_some hnu
          obtain ⟨g1, g2⟩ := mx_put hok (by omega) hf cm e h
          have bi := (hf i (by omega)).resolve_left cm
          have hv : -1 ≤ val by_ n ∧ val by_ n ≤ 999999 := by unfold val; split <;> omega
          have hah : ah ws (((lw t).drop i).take L) < ws.length := (List.getElem?_eq_some_iff.mp hws).1
          have hl100 := hok.2.2
          generalize hK : ah ws (((lw t).drop i).take L) = K at *
          have cn : ¬ (K : Int) = -1 := by omega
          have e8 : (i : Int) + (L : Int) = ((i + L : Nat) : Int) := by omega
          have c60 : ¬ (60 : Int) < ((i + L : Nat) : Int) := by omega
          obtain ⟨V, hV⟩ : ∃ V, V = am_fu U 2 (am_fu (U 2) (i + L) (am_max (U 2 (i + L)) (U 2 i + val by_ n))) := ⟨_, rfl⟩
          have v2 : V 2 = am_fu (U 2) (i + L) (am_max (U 2 (i + L)) (U 2 i + val by_ n)) := by rw [hV, fu_self]
          obtain ⟨U', x4, j5', j6', e2, r⟩ := ih (L + 1) i V (.inl ((K : Int))) (.inl (U 2 i + val by_ n)) (by omega) (by omega) hi (by rw [v2]; exact g2) (by rw [v2]; exact g1)
          refine ⟨U', x4, j5', j6', Eq.trans ?_ e2, r⟩
          have to81 : EV (d + 4) N_cu_spread T_cu_spread_39 [.inr (.inr (some (q))), .inl (x), .inl ((t.length : Int)), .inl ((i : Int)), .inl ((L : Int)), j5, j6] [] (cuH ta bk q g U) = EV (d + 4) N_cu_spread T_cu_spread_105 [.inr (.inr (some (q))), .inl (x), .inl ((t.length : Int)), .inl ((i : Int)), .inl ((L : Int)), .inl ((K : Int)), j6] [.inl (val by_ n), .inl (U 2 i)] (cuH ta bk q g U) := by
            have s1 : EV (d + 4) N_cu_spread T_cu_spread_39 [.inr (.inr (some (q))), .inl (x), .inl ((t.length : Int)), .inl ((i : Int)), .inl ((L : Int)), j5, j6] [] (cuH ta bk q g U) = EV (d + 4) N_cu_spread T_cu_spread_81 [.inr (.inr (some (q))), .inl (x), .inl ((t.length : Int)), .inl ((i : Int)), .inl ((L : Int)), .inl ((K : Int)), j6] [] (cuH ta bk q g U) := by
              (try dsimp only); rw [B_cu_spread_39]; (try simp (disch := omega) only [Option.bind_some, if_true, if_false, eq_self, not_true_eq_false, not_false_eq_true, am_w_id, if_pos, if_neg, fu_self, fu_ne, Int.toNat_natCast, c, cm', hp, cn]); rw [B_cu_spread_46]; (try simp (disch := omega) only [Option.bind_some, if_true, if_false, eq_self, not_true_eq_false, not_false_eq_true, am_w_id, if_pos, if_neg, fu_self, fu_ne, Int.toNat_natCast, cu_gR_2, cu_l_2, cu_s_2, c, cm', hp, cn]); rw [B_cu_spread_57]; (try simp (disch := omega) only [Option.bind_some, if_true, if_false, eq_self, not_true_eq_false, not_false_eq_true, am_w_id, if_pos, if_neg, fu_self, fu_ne, Int.toNat_natCast, cu_O, c, cm', hp, cn])
              rw [B_cu_spread_72, am_w_id (by omega) (by omega), e8, if_neg c60]
            refine s1.trans ?_
            rcases hx with ⟨rfl, rfl⟩ | ⟨rfl, rfl⟩
            · rw [B_cu_spread_81, cu_gR_2, Option.bind_some, cu_l_2 (by omega) (by omega), Option.bind_some, Int.toNat_natCast, if_pos rfl, B_cu_spread_104]
              rfl
            · rw [B_cu_spread_81, cu_gR_2, Option.bind_some, cu_l_2 (by omega) (by omega), Option.bind_some, Int.toNat_natCast, if_neg (by decide), B_cu_spread_91, cu_gR_1, Option.bind_some, (Bu U).gN, Option.bind_some, (Bu U).lN hws, Option.bind_some]
              rfl
          refine to81.trans ?_
          have p1 : (0 : Int) ≤ ((i + L : Nat) : Int) := by omega
          have p2 : ((i + L : Nat) : Int) < 61 := by omega
          have p3 : -2147483648 ≤ (L : Int) + 1 := by omega
          have p4 : (L : Int) + 1 < 2147483648 := by omega
          have w1 : am_w (U 2 i + val by_ n) = U 2 i + val by_ n := am_w_id (by omega) (by omega)
          have w2 : am_w ((i : Int) + (L : Int)) = ((i + L : Nat) : Int) := by rw [am_w_id (by omega) (by omega)]; omega
          rw [B_cu_spread_105, cu_gR_2, Option.bind_some, Option.bind_some, w2, cu_l_2 p1 p2, Option.bind_some, Int.toNat_natCast, w1, cu_s_2 p1 p2, Option.bind_some, Int.toNat_natCast, ← hV, B_cu_spread_131, am_w_id p3 p4, e9]
  have lp : ∀ (m i : Nat) (U : Nat → Nat → Int) (j4 j5 j6 : am_V), i + m = t.length → fOK (U 2) → mxI ws (lw t) by_ (cnd1 ws (lw t) by_ (U 2) i) → ∃ U' j4' j5' j6', EV (d + 4) N_cu_spread T_cu_spread_31 [.inr (.inr (some (q))), .inl (x), .inl ((t.length : Int)), .inl ((i : Int)), j4, j5, j6] [] (cuH ta bk q g U) = EV (d + 4) N_cu_spread T_cu_spread_143 [.inr (.inr (some (q))), .inl (x), .inl ((t.length : Int)), .inl ((t.length : Int)), j4', j5', j6'] [] (cuH ta bk q g U') ∧ fOK (U' 2) ∧ mxI ws (lw t) by_ (cnd1 ws (lw t) by_ (U' 2) t.length) := by
    intro m
    induction m with
    | zero =>
      intro i U j4 j5 j6 hi hf h
      obtain rfl : i = t.length := by omega
      refine ⟨U, j4, j5, j6, ?_, hf, h⟩
      rw [B_cu_spread_31, if_pos (Int.le_refl _)]
    | succ m ih =>
      intro i U j4 j5 j6 hi hf h
      obtain ⟨U1, x4, k5, k6, e2, r1, r2⟩ := inner 10 1 i U j5 j6 (by omega) (by omega) (by omega) hf (mx_in hok (by omega) h)
      obtain ⟨U', j4', j5', j6', e3, r3⟩ := ih (i + 1) U1 (.inl (x4)) k5 k6 (by omega) r1 r2
      refine ⟨U', j4', j5', j6', ?_, r3⟩
      have cl : ¬ (t.length : Int) ≤ (i : Int) := by omega
      have e9 : am_w ((i : Int) + 1) = ((i + 1 : Nat) : Int) := by rw [am_w_id (by omega) (by omega)]; omega
      rw [B_cu_spread_31, if_neg cl, B_cu_spread_36]
      refine e2.trans ?_
      rw [B_cu_spread_137, e9]
      exact e3
  have f2 : S2 2 = am_fu (S1 2) 0 0 := by rw [hS2, fu_self]
  obtain ⟨U, j4, j5, j6, e3, hf, h⟩ := lp t.length 0 S2 am_nul am_nul am_nul (by omega) (by
    intro j hj
    rw [f2]
    by_cases c0 : j = 0
    · subst c0
      rw [fu_self]
      right
      omega
    · rw [fu_ne c0, f1 j (by omega)]
      exact Or.inl rfl) (by
    refine mx_start by_ ?_ (fun j h1 h2 => ?_)
    · rw [f2, fu_self]
    · rw [hlen] at h2
      rw [f2, fu_ne h1, f1 j (by omega)]
      rfl)
  have hend := mx_end (u := lw t) (by_ := by_) (f := U 2) (by rw [hlen]; exact h)
  rw [hlen] at hend
  have hbw : ∀ T, bw ws (lw t) by_ 0 = some T → (PV ws (lw t) 0).1 ≠ -2 ∧ T = (if by_ = true then (PV ws (lw t) 0).2.1 else - (PV ws (lw t) 0).1) := by
    intro T hT
    unfold bw at hT
    split at hT
    · simp at hT
    · next c => injection hT with hT; exact ⟨c, hT.symm⟩
  have hno : bw ws (lw t) by_ 0 = none → (PV ws (lw t) 0).1 = -2 ∧ (PV ws (lw t) 0).2.1 = -2 := by
    intro hT
    unfold bw at hT
    split at hT
    · next c => exact ⟨c, (PV_tb hok (Nat.zero_le (lw t).length)).2.2.2.2.1 c⟩
    · simp at hT
  refine ⟨U, am_cI_of (st.trans (e3.trans ?_))⟩
  rcases hend with ⟨c, hb⟩ | ⟨c, hb⟩
  · obtain ⟨n1, n2⟩ := hno hb
    have c' : U 2 t.length = -61 := c
    have ea : (if by_ = true then (PV ws (lw t) 0).2.1 else (PV ws (lw t) 0).1) = -2 := by cases by_ <;> simp [n1, n2]
    rw [ea]
    (try dsimp only); rw [B_cu_spread_143]; (try simp (disch := omega) only [Option.bind_some, if_true, if_false, eq_self, not_true_eq_false, not_false_eq_true, am_w_id, if_pos, if_neg, fu_self, fu_ne, Int.toNat_natCast, cu_gR_2, cu_l_2, cu_s_2, c']); rw [B_cu_spread_154]; (try simp (disch := omega) only [Option.bind_some, if_true, if_false, eq_self, not_true_eq_false, not_false_eq_true, am_w_id, if_pos, if_neg, fu_self, fu_ne, Int.toNat_natCast, c'])
  · obtain ⟨n1, n2⟩ := hbw _ hb
    have c' : ¬ U 2 t.length = -61 := c
    have bU := (hf t.length (by omega)).resolve_left c
    rcases hx with ⟨rfl, rfl⟩ | ⟨rfl, rfl⟩
    · have n2' : U 2 t.length = - (PV ws (lw t) 0).1 := n2
      have ea : (PV ws (lw t) 0).1 = - U 2 t.length := by omega
      show _ = some (some (Sum.inl ((PV ws (lw t) 0).1)), _)
      rw [ea]
      (try dsimp only); rw [B_cu_spread_143]; (try simp (disch := omega) only [Option.bind_some, if_true, if_false, eq_self, not_true_eq_false, not_false_eq_true, am_w_id, if_pos, if_neg, fu_self, fu_ne, Int.toNat_natCast, cu_gR_2, cu_l_2, cu_s_2, c']); rw [B_cu_spread_157]; (try simp (disch := omega) only [Option.bind_some, if_true, if_false, eq_self, not_true_eq_false, not_false_eq_true, am_w_id, if_pos, if_neg, fu_self, fu_ne, Int.toNat_natCast, c']); rw [B_cu_spread_170]; (try simp (disch := omega) only [Option.bind_some, if_true, if_false, eq_self, not_true_eq_false, not_false_eq_true, am_w_id, if_pos, if_neg, fu_self, fu_ne, Int.toNat_natCast, cu_gR_2, cu_l_2, cu_s_2, c']); rw [B_cu_spread_177]; (try simp (disch := omega) only [Option.bind_some, if_true, if_false, eq_self, not_true_eq_false, not_false_eq_true, am_w_id, if_pos, if_neg, fu_self, fu_ne, Int.toNat_natCast, c'])
    · have n2' : U 2 t.length = (PV ws (lw t) 0).2.1 := n2
      show _ = some (some (Sum.inl ((PV ws (lw t) 0).2.1)), _)
      rw [← n2']
      (try dsimp only); rw [B_cu_spread_143]; (try simp (disch := omega) only [Option.bind_some, if_true, if_false, eq_self, not_true_eq_false, not_false_eq_true, am_w_id, if_pos, if_neg, fu_self, fu_ne, Int.toNat_natCast, cu_gR_2, cu_l_2, cu_s_2, c', show ¬ (1 : Int) = 0 by decide]); rw [B_cu_spread_157]; (try simp (disch := omega) only [Option.bind_some, if_true, if_false, eq_self, not_true_eq_false, not_false_eq_true, am_w_id, if_pos, if_neg, fu_self, fu_ne, Int.toNat_natCast, c', show ¬ (1 : Int) = 0 by decide]); rw [B_cu_spread_161]; (try simp (disch := omega) only [Option.bind_some, if_true, if_false, eq_self, not_true_eq_false, not_false_eq_true, am_w_id, if_pos, if_neg, fu_self, fu_ne, Int.toNat_natCast, cu_gR_2, cu_l_2, cu_s_2, c', show ¬ (1 : Int) = 0 by decide]); rw [B_cu_spread_177]; (try simp (disch := omega) only [Option.bind_some, if_true, if_false, eq_self, not_true_eq_false, not_false_eq_true, am_w_id, if_pos, if_neg, fu_self, fu_ne, Int.toNat_natCast, c', show ¬ (1 : Int) = 0 by decide])
theorem cu_ways (H : cuP g q ta bk t ws) (d : Nat) : ∃ S', am_cI (d + 4) N_cu_ways [.inr (.inr (some (q)))] (cuH ta bk q g S) = some ((PV ws (lw t) 0).2.2, cuH ta bk q g S') := by
  obtain ⟨⟨T, B⟩, ⟨hok, hA, ht⟩, D1, D2⟩ := id H
  have Tu : ∀ S, tp_at (cuH ta bk q g S) ta t := fun S => T.fr cuH_fr D1
  have gT := fun S => rd_gI (Tu S).1 (k := 1) rfl
  have hlen : (lw t).length = t.length := lw_len
  obtain ⟨S1, e1, f1⟩ := cu_fill (q := q) (ta := ta) (bk := bk) (g := g) (S := S) 0 (d + 3)
  obtain ⟨S2, hS2⟩ : ∃ U, U = am_fu S1 2 (am_fu (S1 2) 0 1) := ⟨_, rfl⟩
  have emin : am_min (t.length : Int) 60 = (t.length : Int) := by unfold am_min; split <;> omega
  have st : am_call (d + 4) N_cu_ways [.inr (.inr (some (q)))] (cuH ta bk q g S) = EV (d + 4) N_cu_ways T_cu_ways_30 [.inr (.inr (some (q))), .inl ((t.length : Int)), .inl (((0 : Nat) : Int)), am_nul] [] (cuH ta bk q g S2) := by
    (try dsimp only); rw [en_cu_ways]; (try simp (disch := omega) only [Option.bind_some, if_true, if_false, eq_self, not_true_eq_false, not_false_eq_true, am_w_id, if_pos, if_neg, fu_self, fu_ne, Int.toNat_natCast, gT, e1, Int.toNat_zero, hS2.symm, emin]); rw [B_cu_ways_0]; (try simp (disch := omega) only [Option.bind_some, if_true, if_false, eq_self, not_true_eq_false, not_false_eq_true, am_w_id, if_pos, if_neg, fu_self, fu_ne, Int.toNat_natCast, cu_gR_0, cu_gR_2, cu_l_2, cu_s_2, gT, e1, Int.toNat_zero, hS2.symm, emin])
    rfl
  have inner : ∀ (m L i : Nat) (U : Nat → Nat → Int), L + m = 11 → 1 ≤ L → i < t.length → (∀ j, j ≤ 60 → 0 ≤ U 2 j ∧ U 2 j < 1000003) → wyJ ws (lw t) (U 2) i L → ∃ U' x3, EV (d + 4) N_cu_ways T_cu_ways_37 [.inr (.inr (some (q))), .inl ((t.length : Int)), .inl ((i : Int)), .inl ((L : Int))] [] (cuH ta bk q g U) = EV (d + 4) N_cu_ways T_cu_ways_102 [.inr (.inr (some (q))), .inl ((t.length : Int)), .inl ((i : Int)), .inl (x3)] [] (cuH ta bk q g U') ∧ (∀ j, j ≤ 60 → 0 ≤ U' 2 j ∧ U' 2 j < 1000003) ∧ wyI ws (lw t) (U' 2) (i + 1) := by
    intro m
    induction m with
    | zero =>
      intro L i U hL _ hi hf h
      refine ⟨U, (L : Int), ?_, hf, wy_out (Or.inl (by omega)) (by omega) h⟩
      have c : (10 : Int) < (L : Int) := by omega
      rw [B_cu_ways_37, if_pos c]
    | succ m ih =>
      intro L i U hL hL1 hi hf h
      have c : ¬ (10 : Int) < (L : Int) := by omega
      have e9 : (L : Int) + 1 = ((L + 1 : Nat) : Int) := by omega
      by_cases cm : U 2 i = 0
      · refine ⟨U, (L : Int), ?_, hf, wy_out (Or.inr cm) (by omega) h⟩
        (try dsimp only); rw [B_cu_ways_37]; (try simp (disch := omega) only [Option.bind_some, if_true, if_false, eq_self, not_true_eq_false, not_false_eq_true, am_w_id, if_pos, if_neg, fu_self, fu_ne, Int.toNat_natCast, c, cm]); rw [B_cu_ways_43]; (try simp (disch := omega) only [Option.bind_some, if_true, if_false, eq_self, not_true_eq_false, not_false_eq_true, am_w_id, if_pos, if_neg, fu_self, fu_ne, Int.toNat_natCast, cu_gR_2, cu_l_2, cu_s_2, c, cm])
      · have hp := fun d => cu_pieceAt (q := q) (S := U) H (i := i) (L := L) (by omega) (by omega) d
        cases e : pcw ws (lw t) i L with
        | none =>
          rw [if_pos e] at hp
          obtain ⟨U', x3, e2, r⟩ := ih (L + 1) i U (by omega) (by omega) hi hf (wy_skip (by omega) e h)
          refine ⟨U', x3, Eq.trans ?_ e2, r⟩
          (try dsimp only); rw [B_cu_ways_37]; (try simp (disch := omega) only [Option.bind_some, if_true, if_false, eq_self, not_true_eq_false, not_false_eq_true, am_w_id, if_pos, if_neg, fu_self, fu_ne, Int.toNat_natCast, c, cm, hp, e9]); rw [B_cu_ways_43]; (try simp (disch := omega) only [Option.bind_some, if_true, if_false, eq_self, not_true_eq_false, not_false_eq_true, am_w_id, if_pos, if_neg, fu_self, fu_ne, Int.toNat_natCast, cu_gR_2, cu_l_2, cu_s_2, c, cm, hp, e9]); rw [B_cu_ways_52]; (try simp (disch := omega) only [Option.bind_some, if_true, if_false, eq_self, not_true_eq_false, not_false_eq_true, am_w_id, if_pos, if_neg, fu_self, fu_ne, Int.toNat_natCast, cu_O, c, cm, hp, e9]); rw [B_cu_ways_96]; (try simp (disch := omega) only [Option.bind_some, if_true, if_false, eq_self, not_true_eq_false, not_false_eq_true, am_w_id, if_pos, if_neg, fu_self, fu_ne, Int.toNat_natCast, c, cm, hp, e9])
        | some n =>
          have hpl := pcw_len hok e
          rw [hlen] at hpl
          rw [if_neg (by rw [e]; simp)] at hp
          have b1 := hf i (by omega)
          have b2 := hf (i + L) (by omega)
          have hrem : am_rem (U 2 (i + L) + U 2 i) 1000003 = (U 2 (i + L) + U 2 i) % 1000003 := bt_rem (by omega) (by omega) (by omega) (by omega)
          have g1 := wy_put (f := U 2) (by omega) (by omega) (by rw [e]; simp) h
          generalize hK : ah ws (((lw t).drop i).take L) = K at *
          have cn : ¬ (K : Int) = -1 := by omega
          have c60 : ¬ (60 : Int) < ((i + L : Nat) : Int) := by omega
          obtain ⟨V, hV⟩ : ∃ V, V = am_fu U 2 (am_fu (U 2) (i + L) ((U 2 (i + L) + U 2 i) % 1000003)) := ⟨_, rfl⟩
          have v2 : V 2 = am_fu (U 2) (i + L) ((U 2 (i + L) + U 2 i) % 1000003) := by rw [hV, fu_self]
          obtain ⟨U', x3, e2, r⟩ := ih (L + 1) i V (by omega) (by omega) hi (by
            intro j hj
            rw [v2]
            by_cases cj : j = i + L
            · rw [cj, fu_self]; omega
            · rw [fu_ne cj]; exact hf j hj) (by rw [v2]; exact g1)
          refine ⟨U', x3, Eq.trans ?_ e2, r⟩
          have p1 : (0 : Int) ≤ ((i + L : Nat) : Int) := by omega
          have p2 : ((i + L : Nat) : Int) < 61 := by omega
          have p3 : -2147483648 ≤ (L : Int) + 1 := by omega
          have p4 : (L : Int) + 1 < 2147483648 := by omega
          have p5 : (0 : Int) ≤ (i : Int) := by omega
          have p6 : (i : Int) < 61 := by omega
          have p7 : -2147483648 ≤ U 2 (i + L) + U 2 i := by omega
          have p8 : U 2 (i + L) + U 2 i < 2147483648 := by omega
          (try dsimp only); rw [B_cu_ways_37]; (try simp (disch := omega) only [Option.bind_some, if_true, if_false, eq_self, not_true_eq_false, not_false_eq_true, am_w_id, if_pos, if_neg, fu_self, fu_ne, Int.toNat_natCast, c, cm, hp, cn]); rw [B_cu_ways_43]; (try simp (disch := omega) only [Option.bind_some, if_true, if_false, eq_self, not_true_eq_false, not_false_eq_true, am_w_id, if_pos, if_neg, fu_self, fu_ne, Int.toNat_natCast, cu_gR_2, cu_l_2, cu_s_2, c, cm, hp, cn]); rw [B_cu_ways_52]; (try simp (disch := omega) only [Option.bind_some, if_true, if_false, eq_self, not_true_eq_false, not_false_eq_true, am_w_id, if_pos, if_neg, fu_self, fu_ne, Int.toNat_natCast, cu_O, c, cm, hp, cn])
          have w2 : am_w ((i : Int) + (L : Int)) = ((i + L : Nat) : Int) := by rw [am_w_id (by omega) (by omega)]; omega
          rw [B_cu_ways_62, w2, if_neg c60, B_cu_ways_70, cu_gR_2, Option.bind_some, Option.bind_some, w2, cu_l_2 p1 p2, Option.bind_some, Option.bind_some, cu_l_2 p5 p6, Option.bind_some, Int.toNat_natCast, Int.toNat_natCast, am_w_id p7 p8, hrem, cu_s_2 p1 p2, Option.bind_some, Int.toNat_natCast, ← hV, B_cu_ways_96, am_w_id p3 p4, e9]
  have lp : ∀ (m i : Nat) (U : Nat → Nat → Int) (j3 : am_V), i + m = t.length → (∀ j, j ≤ 60 → 0 ≤ U 2 j ∧ U 2 j < 1000003) → wyI ws (lw t) (U 2) i → ∃ U' j3', EV (d + 4) N_cu_ways T_cu_ways_30 [.inr (.inr (some (q))), .inl ((t.length : Int)), .inl ((i : Int)), j3] [] (cuH ta bk q g U) = EV (d + 4) N_cu_ways T_cu_ways_108 [.inr (.inr (some (q))), .inl ((t.length : Int)), .inl ((t.length : Int)), j3'] [] (cuH ta bk q g U') ∧ (∀ j, j ≤ 60 → 0 ≤ U' 2 j ∧ U' 2 j < 1000003) ∧ wyI ws (lw t) (U' 2) t.length := by
    intro m
    induction m with
    | zero =>
      intro i U j3 hi hf h
      obtain rfl : i = t.length := by omega
      refine ⟨U, j3, ?_, hf, h⟩
      rw [B_cu_ways_30, if_pos (Int.le_refl _)]
    | succ m ih =>
      intro i U j3 hi hf h
      obtain ⟨U1, x3, e2, r1, r2⟩ := inner 10 1 i U (by omega) (by omega) (by omega) hf (wy_in hok (by omega) h)
      obtain ⟨U', j3', e3, r3⟩ := ih (i + 1) U1 (.inl (x3)) (by omega) r1 r2
      refine ⟨U', j3', ?_, r3⟩
      have cl : ¬ (t.length : Int) ≤ (i : Int) := by omega
      have e9 : am_w ((i : Int) + 1) = ((i + 1 : Nat) : Int) := by rw [am_w_id (by omega) (by omega)]; omega
      rw [B_cu_ways_30, if_neg cl, B_cu_ways_35]
      refine e2.trans ?_
      rw [B_cu_ways_102, e9]
      exact e3
  have f2 : S2 2 = am_fu (S1 2) 0 1 := by rw [hS2, fu_self]
  obtain ⟨U, j3, e3, hf, h⟩ := lp t.length 0 S2 am_nul (by omega) (by
    intro j hj
    rw [f2]
    by_cases c0 : j = 0
    · subst c0
      rw [fu_self]
      decide
    · rw [fu_ne c0, f1 j (by omega)]
      decide) (by
    refine wy_start ?_ (fun j h1 h2 => ?_)
    · rw [f2, fu_self]
    · rw [hlen] at h2
      rw [f2, fu_ne h1, f1 j (by omega)])
  have hend := wy_end (u := lw t) (f := U 2) hok (by rw [hlen]; exact hf t.length (by omega)) (by rw [hlen]; exact h)
  rw [hlen] at hend
  refine ⟨U, am_cI_of (st.trans (e3.trans ?_))⟩
  show _ = some (some (Sum.inl (wy2 ws (lw t) 0)), _)
  rw [← hend]
  (try dsimp only); rw [B_cu_ways_108]; (try simp (disch := omega) only [Option.bind_some, if_true, if_false, eq_self, not_true_eq_false, not_false_eq_true, am_w_id, if_pos, if_neg, fu_self, fu_ne, Int.toNat_natCast, cu_gR_2, cu_l_2, cu_s_2])
end CU
