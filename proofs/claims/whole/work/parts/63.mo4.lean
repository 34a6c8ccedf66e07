/-! the model's calls: state, arc, about, count -/
section MO
variable {m : Nat} {g : am_H} {S : Nat → Nat → Int} {t u : List Int} {ws bs ws' bs' : List wd} {hs : List (List wd × List wd)} {sh : Nat → Option (List wd)}
theorem md_isBeginning (hok : ok ws) (H : ml 2402 (S 2) 0 ws) (N : stR S ws) (T : toldR S u) {k : Nat} (hk : k < nN ws) (d : Nat) : am_cI (d + 1) N_md_isBeginning [.inr (.inr (some (m))), .inl ((k : Int))] (MH m g S) = some (if pn ws k = u then 1 else 0, MH m g S) := by
  have hN' : nN ws ≤ 1001 := ND_len hok
  obtain ⟨n1, n2, n3, n4⟩ := N.1
  obtain ⟨a14, a15, a16, a17⟩ := n3 k hk
  have n2' : S 23 0 = 0 := n2
  obtain ⟨T1, T2, T3⟩ := T
  apply am_cI_of
  by_cases c0 : (pn ws k).length = u.length
  · have key : ∃ r : Int, EV (d + 1) N_md_isBeginning T_md_isBeginning_17 [.inr (.inr (some (m))), .inl ((k : Int)), .inl (((0 : Nat) : Int))] [] (MH m g S) = some (some (.inl r), MH m g S) ∧ ((r = 1 ∧ pn ws k = u) ∨ (r = 0 ∧ ¬ pn ws k = u)) := by
      refine am_loop (S := Nat) (F := fun i => EV (d + 1) N_md_isBeginning T_md_isBeginning_17 [.inr (.inr (some (m))), .inl ((k : Int)), .inl ((i : Int))] [] (MH m g S)) (I := fun i => i ≤ u.length ∧ ∀ j, j < i → (pn ws k).getD j 0 = u.getD j 0) (R := fun o => ∃ r : Int, o = some (some (.inl r), MH m g S) ∧ ((r = 1 ∧ pn ws k = u) ∨ (r = 0 ∧ ¬ pn ws k = u))) (fun i => u.length - i) ?_ 0 ⟨Nat.zero_le _, fun j hj => by simp at hj⟩
      rintro i ⟨p1, p2⟩
      by_cases c1 : i = u.length
      · left
        subst c1
        refine ⟨1, ?_, Or.inl ⟨rfl, getD_ext c0 (fun j hj => p2 j (by omega))⟩⟩
        (try dsimp only); rw [B_md_isBeginning_17]; (try simp (disch := omega) only [Option.bind_some, if_true, if_false, eq_self, not_true_eq_false, not_false_eq_true, am_w_id, if_pos, if_neg, fu_self, fu_ne, Int.toNat_natCast, m_gI_8, m_p_8, T1]); rw [B_md_isBeginning_60]; (try simp (disch := omega) only [Option.bind_some, if_true, if_false, eq_self, not_true_eq_false, not_false_eq_true, am_w_id, if_pos, if_neg, fu_self, fu_ne, Int.toNat_natCast, T1])
      · have hne : pn ws k ≠ [] := fun e => by rw [e] at c0; simp at c0; omega
        obtain ⟨q, q1, q2⟩ := lo_get hok.2.1 (bg_ne (pn_bg hk) hne)
        have hq := (ok_get hok q1).2.2.1
        have hle := q2.length_le
        have a1 := fun d => md_letterOf (g := g) (o := 0) (m_row_2 (m := m)) (by decide) H q1 (show i < 10 by omega) d
        rw [pf_getD q2 (by omega)] at a1
        have a1' : ∀ d, am_cI d N_md_letterOf [.inr (.inr (some (m + 2))), .inl (0), .inl ((ah ws (pn ws k) : Int)), .inl ((i : Int))] (MH m g S) = some ((pn ws k).getD i 0, MH m g S) := a1
        have t3 := T3 i (by omega)
        by_cases c2 : (pn ws k).getD i 0 = u.getD i 0
        · right
          refine ⟨i + 1, ⟨by omega, fun j hj => ?_⟩, by omega, ?_⟩
          · by_cases cj : j = i
            · subst cj; exact c2
            · exact p2 j (by omega)
          · (try dsimp only); rw [B_md_isBeginning_17]; (try simp (disch := omega) only [Option.bind_some, if_true, if_false, eq_self, not_true_eq_false, not_false_eq_true, am_w_id, if_pos, if_neg, fu_self, fu_ne, Int.toNat_natCast, m_gI_8, m_p_8, T1, n2', a14, a1', t3, c2]); rw [B_md_isBeginning_25]; (try simp (disch := omega) only [Option.bind_some, if_true, if_false, eq_self, not_true_eq_false, not_false_eq_true, am_w_id, if_pos, if_neg, fu_self, fu_ne, Int.toNat_natCast, m_gR_2, m_l_2, m_s_2, m_gI_23, m_p_23, m_gR_14, m_l_14, m_s_14, m_gR_7, m_l_7, m_s_7, T1, n2', a14, a1', t3, c2]); rw [B_md_isBeginning_54]; (try simp (disch := omega) only [Option.bind_some, if_true, if_false, eq_self, not_true_eq_false, not_false_eq_true, am_w_id, if_pos, if_neg, fu_self, fu_ne, Int.toNat_natCast, T1, n2', a14, a1', t3, c2])
            rfl
        · left
          refine ⟨0, ?_, Or.inr ⟨rfl, fun e => c2 (by rw [e])⟩⟩
          (try dsimp only); rw [B_md_isBeginning_17]; (try simp (disch := omega) only [Option.bind_some, if_true, if_false, eq_self, not_true_eq_false, not_false_eq_true, am_w_id, if_pos, if_neg, fu_self, fu_ne, Int.toNat_natCast, m_gI_8, m_p_8, T1, n2', a14, a1', t3, c2]); rw [B_md_isBeginning_25]; (try simp (disch := omega) only [Option.bind_some, if_true, if_false, eq_self, not_true_eq_false, not_false_eq_true, am_w_id, if_pos, if_neg, fu_self, fu_ne, Int.toNat_natCast, m_gR_2, m_l_2, m_s_2, m_gI_23, m_p_23, m_gR_14, m_l_14, m_s_14, m_gR_7, m_l_7, m_s_7, T1, n2', a14, a1', t3, c2]); rw [B_md_isBeginning_52]; (try simp (disch := omega) only [Option.bind_some, if_true, if_false, eq_self, not_true_eq_false, not_false_eq_true, am_w_id, if_pos, if_neg, fu_self, fu_ne, Int.toNat_natCast, T1, n2', a14, a1', t3, c2])
    obtain ⟨r, e, hr⟩ := key
    have c0' : ((pn ws k).length : Int) = (u.length : Int) := by omega
    (try dsimp only); rw [en_md_isBeginning]; (try simp (disch := omega) only [Option.bind_some, if_true, if_false, eq_self, not_true_eq_false, not_false_eq_true, am_w_id, if_pos, if_neg, fu_self, fu_ne, Int.toNat_natCast, a16, T1, c0']); rw [B_md_isBeginning_0]; (try simp (disch := omega) only [Option.bind_some, if_true, if_false, eq_self, not_true_eq_false, not_false_eq_true, am_w_id, if_pos, if_neg, fu_self, fu_ne, Int.toNat_natCast, m_gR_16, m_l_16, m_s_16, m_gI_8, m_p_8, a16, T1, c0']); rw [B_md_isBeginning_15]; (try simp (disch := omega) only [Option.bind_some, if_true, if_false, eq_self, not_true_eq_false, not_false_eq_true, am_w_id, if_pos, if_neg, fu_self, fu_ne, Int.toNat_natCast, a16, T1, c0'])
    refine e.trans ?_
    rcases hr with ⟨h1, h2⟩ | ⟨h1, h2⟩
    · rw [if_pos h2, h1]
    · rw [if_neg h2, h1]
  · have c0' : ¬ ((pn ws k).length : Int) = (u.length : Int) := by omega
    rw [if_neg (fun e => c0 (by rw [e]))]
    (try dsimp only); rw [en_md_isBeginning]; (try simp (disch := omega) only [Option.bind_some, if_true, if_false, eq_self, not_true_eq_false, not_false_eq_true, am_w_id, if_pos, if_neg, fu_self, fu_ne, Int.toNat_natCast, a16, T1, c0']); rw [B_md_isBeginning_0]; (try simp (disch := omega) only [Option.bind_some, if_true, if_false, eq_self, not_true_eq_false, not_false_eq_true, am_w_id, if_pos, if_neg, fu_self, fu_ne, Int.toNat_natCast, m_gR_16, m_l_16, m_s_16, m_gI_8, m_p_8, a16, T1, c0']); rw [B_md_isBeginning_13]; (try simp (disch := omega) only [Option.bind_some, if_true, if_false, eq_self, not_true_eq_false, not_false_eq_true, am_w_id, if_pos, if_neg, fu_self, fu_ne, Int.toNat_natCast, a16, T1, c0'])
theorem mo_state (H : MR S t ws bs hs sh) (O : okS t ws bs hs sh) (d : Nat) : ∃ S', am_cI (d + 5) N_md_state [.inr (.inr (some (m)))] (MH m g S) = some ((sp_state (t, ws, bs, hs, sh)).1, MH m g S') ∧ MS S' (sp_state (t, ws, bs, hs, sh)).2 := by
  obtain ⟨S1, e1, T1, H1⟩ := mo_isLetters (m := m) (g := g) H 0 400 (d + 3)
  have O1 := okS_t O
  have hN' : nN ws ≤ 1001 := ND_len O.2.1
  have ht := O.1.1
  unfold sp_state
  dsimp only [noT, MS]
  by_cases c : allL t
  · rw [if_pos ⟨⟨by omega, by omega⟩, c⟩] at e1
    rw [if_pos c]
    obtain ⟨S2, e2, s2, F2⟩ := md_laysStates (m := m) (g := g) O.2.1 H1.2.1 d
    have H2 := H1.frd F2 (by decide)
    have T2 := T1.fd F2 (by decide)
    obtain ⟨n1, n2, n3, n4⟩ := s2.1
    refine ⟨S2, am_cI_of ?_, H2⟩
    have a1 := fun k (hk : k < nN ws) d => md_isBeginning (m := m) (g := g) O.2.1 H2.2.1 s2 T2 hk d
    have start : am_call (d + 5) N_md_state [.inr (.inr (some (m)))] (MH m g S) = EV (d + 5) N_md_state T_md_state_19 [.inr (.inr (some (m))), .inl (((0 : Nat) : Int))] [] (MH m g S2) := by
      (try dsimp only); rw [en_md_state]; (try simp (disch := omega) only [Option.bind_some, if_true, if_false, eq_self, not_true_eq_false, not_false_eq_true, am_w_id, if_pos, if_neg, fu_self, fu_ne, Int.toNat_natCast, e1, e2, show ¬ (1 : Int) = 0 by decide]); rw [B_md_state_0]; (try simp (disch := omega) only [Option.bind_some, if_true, if_false, eq_self, not_true_eq_false, not_false_eq_true, am_w_id, if_pos, if_neg, fu_self, fu_ne, Int.toNat_natCast, m_O, e1, e2, show ¬ (1 : Int) = 0 by decide]); rw [B_md_state_13]; (try simp (disch := omega) only [Option.bind_some, if_true, if_false, eq_self, not_true_eq_false, not_false_eq_true, am_w_id, if_pos, if_neg, fu_self, fu_ne, Int.toNat_natCast, m_O, e1, e2, show ¬ (1 : Int) = 0 by decide])
      rfl
    rw [start]
    have no : ∀ k, k < nN ws → ¬ pn ws k = lw t → EV (d + 5) N_md_state T_md_state_19 [.inr (.inr (some (m))), .inl ((k : Int))] [] (MH m g S2) = EV (d + 5) N_md_state T_md_state_19 [.inr (.inr (some (m))), .inl (((k + 1 : Nat) : Int))] [] (MH m g S2) := by
      intro k hk hne
      have a2 := fun d => a1 k hk d
      simp only [if_neg hne] at a2
      (try dsimp only); rw [B_md_state_19]; (try simp (disch := omega) only [Option.bind_some, if_true, if_false, eq_self, not_true_eq_false, not_false_eq_true, am_w_id, if_pos, if_neg, fu_self, fu_ne, Int.toNat_natCast, m_gI_13, m_p_13, n1, a2]); rw [B_md_state_27]; (try simp (disch := omega) only [Option.bind_some, if_true, if_false, eq_self, not_true_eq_false, not_false_eq_true, am_w_id, if_pos, if_neg, fu_self, fu_ne, Int.toNat_natCast, m_O, n1, a2]); rw [B_md_state_42]; (try simp (disch := omega) only [Option.bind_some, if_true, if_false, eq_self, not_true_eq_false, not_false_eq_true, am_w_id, if_pos, if_neg, fu_self, fu_ne, Int.toNat_natCast, n1, a2])
      rfl
    by_cases cb : bg ws (lw t)
    · rw [if_pos cb]
      have hix := ix_lt O.2.1.2.1 cb
      have loop := am_for (F := fun k => EV (d + 5) N_md_state T_md_state_19 [.inr (.inr (some (m))), .inl ((k : Int))] [] (MH m g S2)) (k := 0) (n := ix ws (lw t)) (Nat.zero_le _) (fun k _ hk => no k (by omega) (fun e => by
        have := ix_pn O.2.1.2.1 (show k < nN ws by omega)
        rw [e] at this
        omega))
      refine loop.trans ?_
      have a2 := fun d => a1 _ hix d
      simp only [if_pos (pn_ix O.2.1.2.1 cb)] at a2
      have g1 : S2 20 (ix ws (lw t)) = (stt ws (ix ws (lw t)) : Int) := s2.2.2.2 _ hix rfl
      (try dsimp only); rw [B_md_state_19]; (try simp (disch := omega) only [Option.bind_some, if_true, if_false, eq_self, not_true_eq_false, not_false_eq_true, am_w_id, if_pos, if_neg, fu_self, fu_ne, Int.toNat_natCast, m_gI_13, m_p_13, n1, a2, g1, show ¬ (1 : Int) = 0 by decide]); rw [B_md_state_27]; (try simp (disch := omega) only [Option.bind_some, if_true, if_false, eq_self, not_true_eq_false, not_false_eq_true, am_w_id, if_pos, if_neg, fu_self, fu_ne, Int.toNat_natCast, m_O, n1, a2, g1, show ¬ (1 : Int) = 0 by decide]); rw [B_md_state_35]; (try simp (disch := omega) only [Option.bind_some, if_true, if_false, eq_self, not_true_eq_false, not_false_eq_true, am_w_id, if_pos, if_neg, fu_self, fu_ne, Int.toNat_natCast, m_gR_20, m_l_20, m_s_20, n1, a2, g1, show ¬ (1 : Int) = 0 by decide])
    · rw [if_neg cb]
      have loop := am_for (F := fun k => EV (d + 5) N_md_state T_md_state_19 [.inr (.inr (some (m))), .inl ((k : Int))] [] (MH m g S2)) (k := 0) (n := nN ws) (Nat.zero_le _) (fun k _ hk => no k hk (fun e => cb (by rw [← e]; exact pn_bg hk)))
      refine loop.trans ?_
      (try dsimp only); rw [B_md_state_19]; (try simp (disch := omega) only [Option.bind_some, if_true, if_false, eq_self, not_true_eq_false, not_false_eq_true, am_w_id, if_pos, if_neg, fu_self, fu_ne, Int.toNat_natCast, m_gI_13, m_p_13, n1]); rw [B_md_state_48]; (try simp (disch := omega) only [Option.bind_some, if_true, if_false, eq_self, not_true_eq_false, not_false_eq_true, am_w_id, if_pos, if_neg, fu_self, fu_ne, Int.toNat_natCast, n1])
  · rw [if_neg (fun h => c h.2)] at e1
    rw [if_neg c]
    refine ⟨S1, am_cI_of ?_, H1⟩
    (try dsimp only); rw [en_md_state]; (try simp (disch := omega) only [Option.bind_some, if_true, if_false, eq_self, not_true_eq_false, not_false_eq_true, am_w_id, if_pos, if_neg, fu_self, fu_ne, Int.toNat_natCast, e1]); rw [B_md_state_0]; (try simp (disch := omega) only [Option.bind_some, if_true, if_false, eq_self, not_true_eq_false, not_false_eq_true, am_w_id, if_pos, if_neg, fu_self, fu_ne, Int.toNat_natCast, m_O, e1]); rw [B_md_state_11]; (try simp (disch := omega) only [Option.bind_some, if_true, if_false, eq_self, not_true_eq_false, not_false_eq_true, am_w_id, if_pos, if_neg, fu_self, fu_ne, Int.toNat_natCast, e1])
theorem mo_arc (H : MR S t ws bs hs sh) (O : okS t ws bs hs sh) {x k w : Int} (hk : am_inI k) (d : Nat) : ∃ S', am_cI (d + 6) N_md_arc [.inr (.inr (some (m))), .inl (x), .inl (k), .inl (w)] (MH m g S) = some ((sp_arc x k w (t, ws, bs, hs, sh)).1, MH m g S') ∧ MS S' (sp_arc x k w (t, ws, bs, hs, sh)).2 := by
  obtain ⟨S1, e1, H1, N1⟩ := mo_isState (m := m) (g := g) H O x d
  have hN' : nN ws ≤ 1001 := ND_len O.2.1
  unfold am_inI at hk
  unfold sp_arc
  dsimp only [MS]
  by_cases c : 0 ≤ x ∧ x < nS ws
  · rw [if_pos c] at e1 ⊢
    obtain ⟨n, rfl⟩ := Int.eq_ofNat_of_zero_le c.1
    have hn : n < nS ws := by omega
    have hn2 := nS_le O.2.1
    obtain ⟨fl, fg⟩ := fst_lt hn
    have g3 : S1 22 n = (fn ws n : Int) := N1.2.2.1 _ _ fg
    obtain ⟨⟨n1, n2, n3, n4⟩, f1, f2, f3⟩ := id N1
    refine ⟨S1, am_cI_of ?_, H1⟩
    rw [Int.toNat_natCast]
    unfold arcA
    by_cases c2 : k = -1
    · rw [if_pos c2]
      have a1 := fun d => md_childrenOf (m := m) (g := g) O.2.1 N1 fl d
      (try dsimp only); rw [en_md_arc]; (try simp (disch := omega) only [Option.bind_some, if_true, if_false, eq_self, not_true_eq_false, not_false_eq_true, am_w_id, if_pos, if_neg, fu_self, fu_ne, Int.toNat_natCast, e1, g3, c2, a1, show ¬ (1 : Int) = 0 by decide]); rw [B_md_arc_0]; (try simp (disch := omega) only [Option.bind_some, if_true, if_false, eq_self, not_true_eq_false, not_false_eq_true, am_w_id, if_pos, if_neg, fu_self, fu_ne, Int.toNat_natCast, m_O, e1, g3, c2, a1, show ¬ (1 : Int) = 0 by decide]); rw [B_md_arc_10]; (try simp (disch := omega) only [Option.bind_some, if_true, if_false, eq_self, not_true_eq_false, not_false_eq_true, am_w_id, if_pos, if_neg, fu_self, fu_ne, Int.toNat_natCast, m_gR_22, m_l_22, m_s_22, e1, g3, c2, a1, show ¬ (1 : Int) = 0 by decide]); rw [B_md_arc_23]; (try simp (disch := omega) only [Option.bind_some, if_true, if_false, eq_self, not_true_eq_false, not_false_eq_true, am_w_id, if_pos, if_neg, fu_self, fu_ne, Int.toNat_natCast, m_O, e1, g3, c2, a1, show ¬ (1 : Int) = 0 by decide])
    · rw [if_neg c2]
      by_cases c3 : 0 ≤ k
      · have a1 := fun d => md_childOf (m := m) (g := g) O.2.1 N1 fl c3 hk.2 d
        by_cases c4 : k < (kd ws (fn ws n)).length
        · rw [if_pos ⟨c3, c4⟩]
          have hkn : k.toNat < (kd ws (fn ws n)).length := by omega
          have hg : (kd ws (fn ws n))[k.toNat]? = some ((kd ws (fn ws n))[k.toNat]'hkn) := List.getElem?_eq_getElem hkn
          have hgd : (kd ws (fn ws n)).getD k.toNat 0 = (kd ws (fn ws n))[k.toNat]'hkn := by rw [List.getD_eq_getElem?_getD, hg]; rfl
          have hin : (kd ws (fn ws n))[k.toNat]'hkn ∈ kd ws (fn ws n) := List.getElem_mem hkn
          rw [hgd]
          simp only [hg, oc] at a1
          generalize (kd ws (fn ws n))[k.toNat]'hkn = z at *
          have hz := kd_lt hin
          have hz0 := (kd_pr hin).2
          have b1 := fun d => md_lastLetter (m := m) (g := g) O.2.1 H1.2.1 N1 hz hz0 d
          have l1 := (n4 _ hz).1
          have l2 := (n4 _ fl).1
          have g20 : S1 20 z = (stt ws z : Int) := f3 z hz rfl
          have lb : ∀ p, 0 ≤ lst ws p ∧ lst ws p ≤ 999999 := by
            intro p
            unfold lst
            split
            · omega
            · obtain ⟨g1, g2, g3⟩ := mf_spec (sb ws p) 999999
              rcases g3 with g3 | ⟨r, g4, g5⟩
              · omega
              · have := (O.2.1.1 r (sb_mem.mp g4).1).2.2.2
                omega
          have lb1 := lb (pn ws z)
          have lb2 := lb (pn ws (fn ws n))
          have hz8 : (0 : Int) ≤ (z : Int) := by omega
          by_cases w0 : w = 0
          · rw [if_pos w0]
            subst w0
            (try dsimp only); rw [en_md_arc]; (try simp (disch := omega) only [Option.bind_some, if_true, if_false, eq_self, not_true_eq_false, not_false_eq_true, am_w_id, if_pos, if_neg, fu_self, fu_ne, Int.toNat_natCast, e1, g3, c2, a1, b1, show ¬ (1 : Int) = 0 by decide]); rw [B_md_arc_0]; (try simp (disch := omega) only [Option.bind_some, if_true, if_false, eq_self, not_true_eq_false, not_false_eq_true, am_w_id, if_pos, if_neg, fu_self, fu_ne, Int.toNat_natCast, m_O, e1, g3, c2, a1, b1, show ¬ (1 : Int) = 0 by decide]); rw [B_md_arc_10]; (try simp (disch := omega) only [Option.bind_some, if_true, if_false, eq_self, not_true_eq_false, not_false_eq_true, am_w_id, if_pos, if_neg, fu_self, fu_ne, Int.toNat_natCast, m_gR_22, m_l_22, m_s_22, e1, g3, c2, a1, b1, show ¬ (1 : Int) = 0 by decide]); rw [B_md_arc_30]; (try simp (disch := omega) only [Option.bind_some, if_true, if_false, eq_self, not_true_eq_false, not_false_eq_true, am_w_id, if_pos, if_neg, fu_self, fu_ne, Int.toNat_natCast, e1, g3, c2, a1, b1, show ¬ (1 : Int) = 0 by decide]); rw [B_md_arc_38]; (try simp (disch := omega) only [Option.bind_some, if_true, if_false, eq_self, not_true_eq_false, not_false_eq_true, am_w_id, if_pos, if_neg, fu_self, fu_ne, Int.toNat_natCast, m_O, e1, g3, c2, a1, b1, show ¬ (1 : Int) = 0 by decide]); rw [B_md_arc_45]; (try simp (disch := omega) only [Option.bind_some, if_true, if_false, eq_self, not_true_eq_false, not_false_eq_true, am_w_id, if_pos, if_neg, fu_self, fu_ne, Int.toNat_natCast, e1, g3, c2, a1, b1, show ¬ (1 : Int) = 0 by decide]); rw [B_md_arc_54]; (try simp (disch := omega) only [Option.bind_some, if_true, if_false, eq_self, not_true_eq_false, not_false_eq_true, am_w_id, if_pos, if_neg, fu_self, fu_ne, Int.toNat_natCast, e1, g3, c2, a1, b1, show ¬ (1 : Int) = 0 by decide]); simp (disch := omega) only [C_md_arc_55_0]; (try simp (disch := omega) only [Option.bind_some, if_true, if_false, eq_self, not_true_eq_false, not_false_eq_true, am_w_id, if_pos, if_neg, fu_self, fu_ne, Int.toNat_natCast, e1, g3, c2, a1, b1, show ¬ (1 : Int) = 0 by decide]); rw [B_md_arc_80]; (try simp (disch := omega) only [Option.bind_some, if_true, if_false, eq_self, not_true_eq_false, not_false_eq_true, am_w_id, if_pos, if_neg, fu_self, fu_ne, Int.toNat_natCast, m_O, e1, g3, c2, a1, b1, show ¬ (1 : Int) = 0 by decide])
          · rw [if_neg w0]
            by_cases w1 : w = 1
            · rw [if_pos w1]
              subst w1
              (try dsimp only); rw [en_md_arc]; (try simp (disch := omega) only [Option.bind_some, if_true, if_false, eq_self, not_true_eq_false, not_false_eq_true, am_w_id, if_pos, if_neg, fu_self, fu_ne, Int.toNat_natCast, e1, g3, c2, a1, l1, l2, show ¬ (1 : Int) = 0 by decide]); rw [B_md_arc_0]; (try simp (disch := omega) only [Option.bind_some, if_true, if_false, eq_self, not_true_eq_false, not_false_eq_true, am_w_id, if_pos, if_neg, fu_self, fu_ne, Int.toNat_natCast, m_O, e1, g3, c2, a1, l1, l2, show ¬ (1 : Int) = 0 by decide]); rw [B_md_arc_10]; (try simp (disch := omega) only [Option.bind_some, if_true, if_false, eq_self, not_true_eq_false, not_false_eq_true, am_w_id, if_pos, if_neg, fu_self, fu_ne, Int.toNat_natCast, m_gR_22, m_l_22, m_s_22, e1, g3, c2, a1, l1, l2, show ¬ (1 : Int) = 0 by decide]); rw [B_md_arc_30]; (try simp (disch := omega) only [Option.bind_some, if_true, if_false, eq_self, not_true_eq_false, not_false_eq_true, am_w_id, if_pos, if_neg, fu_self, fu_ne, Int.toNat_natCast, e1, g3, c2, a1, l1, l2, show ¬ (1 : Int) = 0 by decide]); rw [B_md_arc_38]; (try simp (disch := omega) only [Option.bind_some, if_true, if_false, eq_self, not_true_eq_false, not_false_eq_true, am_w_id, if_pos, if_neg, fu_self, fu_ne, Int.toNat_natCast, m_O, e1, g3, c2, a1, l1, l2, show ¬ (1 : Int) = 0 by decide]); rw [B_md_arc_45]; (try simp (disch := omega) only [Option.bind_some, if_true, if_false, eq_self, not_true_eq_false, not_false_eq_true, am_w_id, if_pos, if_neg, fu_self, fu_ne, Int.toNat_natCast, e1, g3, c2, a1, l1, l2, show ¬ (1 : Int) = 0 by decide]); rw [B_md_arc_54]; (try simp (disch := omega) only [Option.bind_some, if_true, if_false, eq_self, not_true_eq_false, not_false_eq_true, am_w_id, if_pos, if_neg, fu_self, fu_ne, Int.toNat_natCast, e1, g3, c2, a1, l1, l2, show ¬ (1 : Int) = 0 by decide]); simp (disch := omega) only [C_md_arc_55_1]; (try simp (disch := omega) only [Option.bind_some, if_true, if_false, eq_self, not_true_eq_false, not_false_eq_true, am_w_id, if_pos, if_neg, fu_self, fu_ne, Int.toNat_natCast, e1, g3, c2, a1, l1, l2, show ¬ (1 : Int) = 0 by decide]); rw [B_md_arc_87]; (try simp (disch := omega) only [Option.bind_some, if_true, if_false, eq_self, not_true_eq_false, not_false_eq_true, am_w_id, if_pos, if_neg, fu_self, fu_ne, Int.toNat_natCast, m_gR_18, m_l_18, m_s_18, e1, g3, c2, a1, l1, l2, show ¬ (1 : Int) = 0 by decide])
            · rw [if_neg w1]
              by_cases w2 : w = 2
              · rw [if_pos w2]
                subst w2
                (try dsimp only); rw [en_md_arc]; (try simp (disch := omega) only [Option.bind_some, if_true, if_false, eq_self, not_true_eq_false, not_false_eq_true, am_w_id, if_pos, if_neg, fu_self, fu_ne, Int.toNat_natCast, e1, g3, c2, a1, g20, show ¬ (1 : Int) = 0 by decide]); rw [B_md_arc_0]; (try simp (disch := omega) only [Option.bind_some, if_true, if_false, eq_self, not_true_eq_false, not_false_eq_true, am_w_id, if_pos, if_neg, fu_self, fu_ne, Int.toNat_natCast, m_O, e1, g3, c2, a1, g20, show ¬ (1 : Int) = 0 by decide]); rw [B_md_arc_10]; (try simp (disch := omega) only [Option.bind_some, if_true, if_false, eq_self, not_true_eq_false, not_false_eq_true, am_w_id, if_pos, if_neg, fu_self, fu_ne, Int.toNat_natCast, m_gR_22, m_l_22, m_s_22, e1, g3, c2, a1, g20, show ¬ (1 : Int) = 0 by decide]); rw [B_md_arc_30]; (try simp (disch := omega) only [Option.bind_some, if_true, if_false, eq_self, not_true_eq_false, not_false_eq_true, am_w_id, if_pos, if_neg, fu_self, fu_ne, Int.toNat_natCast, e1, g3, c2, a1, g20, show ¬ (1 : Int) = 0 by decide]); rw [B_md_arc_38]; (try simp (disch := omega) only [Option.bind_some, if_true, if_false, eq_self, not_true_eq_false, not_false_eq_true, am_w_id, if_pos, if_neg, fu_self, fu_ne, Int.toNat_natCast, m_O, e1, g3, c2, a1, g20, show ¬ (1 : Int) = 0 by decide]); rw [B_md_arc_45]; (try simp (disch := omega) only [Option.bind_some, if_true, if_false, eq_self, not_true_eq_false, not_false_eq_true, am_w_id, if_pos, if_neg, fu_self, fu_ne, Int.toNat_natCast, e1, g3, c2, a1, g20, show ¬ (1 : Int) = 0 by decide]); rw [B_md_arc_54]; (try simp (disch := omega) only [Option.bind_some, if_true, if_false, eq_self, not_true_eq_false, not_false_eq_true, am_w_id, if_pos, if_neg, fu_self, fu_ne, Int.toNat_natCast, e1, g3, c2, a1, g20, show ¬ (1 : Int) = 0 by decide]); simp (disch := omega) only [C_md_arc_55_2]; (try simp (disch := omega) only [Option.bind_some, if_true, if_false, eq_self, not_true_eq_false, not_false_eq_true, am_w_id, if_pos, if_neg, fu_self, fu_ne, Int.toNat_natCast, e1, g3, c2, a1, g20, show ¬ (1 : Int) = 0 by decide]); rw [B_md_arc_103]; (try simp (disch := omega) only [Option.bind_some, if_true, if_false, eq_self, not_true_eq_false, not_false_eq_true, am_w_id, if_pos, if_neg, fu_self, fu_ne, Int.toNat_natCast, m_gR_20, m_l_20, m_s_20, e1, g3, c2, a1, g20, show ¬ (1 : Int) = 0 by decide])
              · rw [if_neg w2]
                (try dsimp only); rw [en_md_arc]; (try simp (disch := omega) only [Option.bind_some, if_true, if_false, eq_self, not_true_eq_false, not_false_eq_true, am_w_id, if_pos, if_neg, fu_self, fu_ne, Int.toNat_natCast, e1, g3, c2, a1, show ¬ (1 : Int) = 0 by decide]); rw [B_md_arc_0]; (try simp (disch := omega) only [Option.bind_some, if_true, if_false, eq_self, not_true_eq_false, not_false_eq_true, am_w_id, if_pos, if_neg, fu_self, fu_ne, Int.toNat_natCast, m_O, e1, g3, c2, a1, show ¬ (1 : Int) = 0 by decide]); rw [B_md_arc_10]; (try simp (disch := omega) only [Option.bind_some, if_true, if_false, eq_self, not_true_eq_false, not_false_eq_true, am_w_id, if_pos, if_neg, fu_self, fu_ne, Int.toNat_natCast, m_gR_22, m_l_22, m_s_22, e1, g3, c2, a1, show ¬ (1 : Int) = 0 by decide]); rw [B_md_arc_30]; (try simp (disch := omega) only [Option.bind_some, if_true, if_false, eq_self, not_true_eq_false, not_false_eq_true, am_w_id, if_pos, if_neg, fu_self, fu_ne, Int.toNat_natCast, e1, g3, c2, a1, show ¬ (1 : Int) = 0 by decide]); rw [B_md_arc_38]; (try simp (disch := omega) only [Option.bind_some, if_true, if_false, eq_self, not_true_eq_false, not_false_eq_true, am_w_id, if_pos, if_neg, fu_self, fu_ne, Int.toNat_natCast, m_O, e1, g3, c2, a1, show ¬ (1 : Int) = 0 by decide]); rw [B_md_arc_45]; (try simp (disch := omega) only [Option.bind_some, if_true, if_false, eq_self, not_true_eq_false, not_false_eq_true, am_w_id, if_pos, if_neg, fu_self, fu_ne, Int.toNat_natCast, e1, g3, c2, a1, show ¬ (1 : Int) = 0 by decide]); rw [B_md_arc_54]; (try simp (disch := omega) only [Option.bind_some, if_true, if_false, eq_self, not_true_eq_false, not_false_eq_true, am_w_id, if_pos, if_neg, fu_self, fu_ne, Int.toNat_natCast, e1, g3, c2, a1, show ¬ (1 : Int) = 0 by decide]); simp (disch := omega) only [C_md_arc_55_d]; (try simp (disch := omega) only [Option.bind_some, if_true, if_false, eq_self, not_true_eq_false, not_false_eq_true, am_w_id, if_pos, if_neg, fu_self, fu_ne, Int.toNat_natCast, e1, g3, c2, a1, show ¬ (1 : Int) = 0 by decide]); rw [B_md_arc_111]; (try simp (disch := omega) only [Option.bind_some, if_true, if_false, eq_self, not_true_eq_false, not_false_eq_true, am_w_id, if_pos, if_neg, fu_self, fu_ne, Int.toNat_natCast, e1, g3, c2, a1, show ¬ (1 : Int) = 0 by decide])
        · rw [if_neg (fun h => c4 h.2)]
          rw [List.getElem?_eq_none (by omega)] at a1
          simp only [oc] at a1
          (try dsimp only); rw [en_md_arc]; (try simp (disch := omega) only [Option.bind_some, if_true, if_false, eq_self, not_true_eq_false, not_false_eq_true, am_w_id, if_pos, if_neg, fu_self, fu_ne, Int.toNat_natCast, e1, g3, c2, a1, show ¬ (1 : Int) = 0 by decide]); rw [B_md_arc_0]; (try simp (disch := omega) only [Option.bind_some, if_true, if_false, eq_self, not_true_eq_false, not_false_eq_true, am_w_id, if_pos, if_neg, fu_self, fu_ne, Int.toNat_natCast, m_O, e1, g3, c2, a1, show ¬ (1 : Int) = 0 by decide]); rw [B_md_arc_10]; (try simp (disch := omega) only [Option.bind_some, if_true, if_false, eq_self, not_true_eq_false, not_false_eq_true, am_w_id, if_pos, if_neg, fu_self, fu_ne, Int.toNat_natCast, m_gR_22, m_l_22, m_s_22, e1, g3, c2, a1, show ¬ (1 : Int) = 0 by decide]); rw [B_md_arc_30]; (try simp (disch := omega) only [Option.bind_some, if_true, if_false, eq_self, not_true_eq_false, not_false_eq_true, am_w_id, if_pos, if_neg, fu_self, fu_ne, Int.toNat_natCast, e1, g3, c2, a1, show ¬ (1 : Int) = 0 by decide]); rw [B_md_arc_38]; (try simp (disch := omega) only [Option.bind_some, if_true, if_false, eq_self, not_true_eq_false, not_false_eq_true, am_w_id, if_pos, if_neg, fu_self, fu_ne, Int.toNat_natCast, m_O, e1, g3, c2, a1, show ¬ (1 : Int) = 0 by decide]); rw [B_md_arc_45]; (try simp (disch := omega) only [Option.bind_some, if_true, if_false, eq_self, not_true_eq_false, not_false_eq_true, am_w_id, if_pos, if_neg, fu_self, fu_ne, Int.toNat_natCast, e1, g3, c2, a1, show ¬ (1 : Int) = 0 by decide]); rw [B_md_arc_52]; (try simp (disch := omega) only [Option.bind_some, if_true, if_false, eq_self, not_true_eq_false, not_false_eq_true, am_w_id, if_pos, if_neg, fu_self, fu_ne, Int.toNat_natCast, e1, g3, c2, a1, show ¬ (1 : Int) = 0 by decide])
      · rw [if_neg (fun h => c3 h.1)]
        (try dsimp only); rw [en_md_arc]; (try simp (disch := omega) only [Option.bind_some, if_true, if_false, eq_self, not_true_eq_false, not_false_eq_true, am_w_id, if_pos, if_neg, fu_self, fu_ne, Int.toNat_natCast, e1, g3, c2, show ¬ (1 : Int) = 0 by decide]); rw [B_md_arc_0]; (try simp (disch := omega) only [Option.bind_some, if_true, if_false, eq_self, not_true_eq_false, not_false_eq_true, am_w_id, if_pos, if_neg, fu_self, fu_ne, Int.toNat_natCast, m_O, e1, g3, c2, show ¬ (1 : Int) = 0 by decide]); rw [B_md_arc_10]; (try simp (disch := omega) only [Option.bind_some, if_true, if_false, eq_self, not_true_eq_false, not_false_eq_true, am_w_id, if_pos, if_neg, fu_self, fu_ne, Int.toNat_natCast, m_gR_22, m_l_22, m_s_22, e1, g3, c2, show ¬ (1 : Int) = 0 by decide]); rw [B_md_arc_30]; (try simp (disch := omega) only [Option.bind_some, if_true, if_false, eq_self, not_true_eq_false, not_false_eq_true, am_w_id, if_pos, if_neg, fu_self, fu_ne, Int.toNat_natCast, e1, g3, c2, show ¬ (1 : Int) = 0 by decide]); rw [B_md_arc_34]; (try simp (disch := omega) only [Option.bind_some, if_true, if_false, eq_self, not_true_eq_false, not_false_eq_true, am_w_id, if_pos, if_neg, fu_self, fu_ne, Int.toNat_natCast, e1, g3, c2, show ¬ (1 : Int) = 0 by decide]); rw [B_md_arc_45]; (try simp (disch := omega) only [Option.bind_some, if_true, if_false, eq_self, not_true_eq_false, not_false_eq_true, am_w_id, if_pos, if_neg, fu_self, fu_ne, Int.toNat_natCast, e1, g3, c2, show ¬ (1 : Int) = 0 by decide]); rw [B_md_arc_52]; (try simp (disch := omega) only [Option.bind_some, if_true, if_false, eq_self, not_true_eq_false, not_false_eq_true, am_w_id, if_pos, if_neg, fu_self, fu_ne, Int.toNat_natCast, e1, g3, c2, show ¬ (1 : Int) = 0 by decide])
  · rw [if_neg c] at e1 ⊢
    refine ⟨S1, am_cI_of ?_, H1⟩
    (try dsimp only); rw [en_md_arc]; (try simp (disch := omega) only [Option.bind_some, if_true, if_false, eq_self, not_true_eq_false, not_false_eq_true, am_w_id, if_pos, if_neg, fu_self, fu_ne, Int.toNat_natCast, e1]); rw [B_md_arc_0]; (try simp (disch := omega) only [Option.bind_some, if_true, if_false, eq_self, not_true_eq_false, not_false_eq_true, am_w_id, if_pos, if_neg, fu_self, fu_ne, Int.toNat_natCast, m_O, e1]); rw [B_md_arc_8]; (try simp (disch := omega) only [Option.bind_some, if_true, if_false, eq_self, not_true_eq_false, not_false_eq_true, am_w_id, if_pos, if_neg, fu_self, fu_ne, Int.toNat_natCast, e1])
theorem mo_about (H : MR S t ws bs hs sh) (O : okS t ws bs hs sh) (x w : Int) (d : Nat) : ∃ S', am_cI (d + 6) N_md_about [.inr (.inr (some (m))), .inl (x), .inl (w)] (MH m g S) = some ((sp_about x w (t, ws, bs, hs, sh)).1, MH m g S') ∧ MS S' (sp_about x w (t, ws, bs, hs, sh)).2 := by
  obtain ⟨S1, e1, H1, N1⟩ := mo_isState (m := m) (g := g) H O x d
  have hN' : nN ws ≤ 1001 := ND_len O.2.1
  unfold sp_about
  dsimp only [MS]
  by_cases c : 0 ≤ x ∧ x < nS ws
  · rw [if_pos c] at e1 ⊢
    obtain ⟨n, rfl⟩ := Int.eq_ofNat_of_zero_le c.1
    have hn : n < nS ws := by omega
    have hn2 := nS_le O.2.1
    obtain ⟨fl, fg⟩ := fst_lt hn
    have g3 : S1 22 n = (fn ws n : Int) := N1.2.2.1 _ _ fg
    obtain ⟨⟨n1, n2, n3, n4⟩, f1, f2, f3⟩ := id N1
    obtain ⟨a14, a15, a16, a17⟩ := n3 _ fl
    unfold hi at a15
    have hle := sb_le O.2.1.2.1 (pn ws (fn ws n))
    have hl100 := O.2.1.2.2
    refine ⟨S1, am_cI_of ?_, H1⟩
    rw [Int.toNat_natCast]
    have b0 := fun d => md_endsWith (m := m) (g := g) O.2.1 H1.2.1 N1 fl d
    have b2 := fun d => md_lettersLeft (m := m) (g := g) O.2.1 H1.2.1 N1 fl (Or.inr rfl) d
    have b3 := fun d => md_lettersLeft (m := m) (g := g) O.2.1 H1.2.1 N1 fl (Or.inl rfl) d
    have b4 := fun d => md_arcsTo (m := m) (g := g) O.2.1 N1 (n : Int) d
    have b5 := fun d => md_shortest (m := m) (g := g) O.2.1 N1 (n : Int) d
    have b6 := fun d => md_greatestRest (m := m) (g := g) O.2.1 H1.2.1 N1 fl d
    have b7 := fun d => md_beginningsOf (m := m) (g := g) O.2.1 N1 (n : Int) d
    simp only [show ¬ (1 : Int) = 0 by decide, if_false] at b2
    simp only [if_true] at b3
    have e8 : ((ah ws (pn ws (fn ws n)) + (sb ws (pn ws (fn ws n))).length : Nat) : Int) - (ah ws (pn ws (fn ws n)) : Int) = ((sb ws (pn ws (fn ws n))).length : Int) := by omega
    unfold abA
    by_cases w0 : w = 0
    · rw [if_pos w0]; subst w0
      (try dsimp only); rw [en_md_about]; (try simp (disch := omega) only [Option.bind_some, if_true, if_false, eq_self, not_true_eq_false, not_false_eq_true, am_w_id, if_pos, if_neg, fu_self, fu_ne, Int.toNat_natCast, e1, g3, b0, show ¬ (1 : Int) = 0 by decide]); rw [B_md_about_0]; (try simp (disch := omega) only [Option.bind_some, if_true, if_false, eq_self, not_true_eq_false, not_false_eq_true, am_w_id, if_pos, if_neg, fu_self, fu_ne, Int.toNat_natCast, m_O, e1, g3, b0, show ¬ (1 : Int) = 0 by decide]); rw [B_md_about_10]; (try simp (disch := omega) only [Option.bind_some, if_true, if_false, eq_self, not_true_eq_false, not_false_eq_true, am_w_id, if_pos, if_neg, fu_self, fu_ne, Int.toNat_natCast, m_gR_22, m_l_22, m_s_22, e1, g3, b0, show ¬ (1 : Int) = 0 by decide]); simp (disch := omega) only [C_md_about_18_0]; (try simp (disch := omega) only [Option.bind_some, if_true, if_false, eq_self, not_true_eq_false, not_false_eq_true, am_w_id, if_pos, if_neg, fu_self, fu_ne, Int.toNat_natCast, e1, g3, b0, show ¬ (1 : Int) = 0 by decide]); rw [B_md_about_64]; (try simp (disch := omega) only [Option.bind_some, if_true, if_false, eq_self, not_true_eq_false, not_false_eq_true, am_w_id, if_pos, if_neg, fu_self, fu_ne, Int.toNat_natCast, m_O, e1, g3, b0, show ¬ (1 : Int) = 0 by decide])
    rw [if_neg w0]
    by_cases w1 : w = 1
    · rw [if_pos w1]; subst w1
      (try dsimp only); rw [en_md_about]; (try simp (disch := omega) only [Option.bind_some, if_true, if_false, eq_self, not_true_eq_false, not_false_eq_true, am_w_id, if_pos, if_neg, fu_self, fu_ne, Int.toNat_natCast, e1, g3, a14, a15, e8, show ¬ (1 : Int) = 0 by decide]); rw [B_md_about_0]; (try simp (disch := omega) only [Option.bind_some, if_true, if_false, eq_self, not_true_eq_false, not_false_eq_true, am_w_id, if_pos, if_neg, fu_self, fu_ne, Int.toNat_natCast, m_O, e1, g3, a14, a15, e8, show ¬ (1 : Int) = 0 by decide]); rw [B_md_about_10]; (try simp (disch := omega) only [Option.bind_some, if_true, if_false, eq_self, not_true_eq_false, not_false_eq_true, am_w_id, if_pos, if_neg, fu_self, fu_ne, Int.toNat_natCast, m_gR_22, m_l_22, m_s_22, e1, g3, a14, a15, e8, show ¬ (1 : Int) = 0 by decide]); simp (disch := omega) only [C_md_about_18_1]; (try simp (disch := omega) only [Option.bind_some, if_true, if_false, eq_self, not_true_eq_false, not_false_eq_true, am_w_id, if_pos, if_neg, fu_self, fu_ne, Int.toNat_natCast, e1, g3, a14, a15, e8, show ¬ (1 : Int) = 0 by decide]); rw [B_md_about_70]; (try simp (disch := omega) only [Option.bind_some, if_true, if_false, eq_self, not_true_eq_false, not_false_eq_true, am_w_id, if_pos, if_neg, fu_self, fu_ne, Int.toNat_natCast, m_gR_15, m_l_15, m_s_15, m_gR_14, m_l_14, m_s_14, e1, g3, a14, a15, e8, show ¬ (1 : Int) = 0 by decide])
    rw [if_neg w1]
    by_cases w2 : w = 2
    · rw [if_pos w2]; subst w2
      (try dsimp only); rw [en_md_about]; (try simp (disch := omega) only [Option.bind_some, if_true, if_false, eq_self, not_true_eq_false, not_false_eq_true, am_w_id, if_pos, if_neg, fu_self, fu_ne, Int.toNat_natCast, e1, g3, b2, show ¬ (1 : Int) = 0 by decide]); rw [B_md_about_0]; (try simp (disch := omega) only [Option.bind_some, if_true, if_false, eq_self, not_true_eq_false, not_false_eq_true, am_w_id, if_pos, if_neg, fu_self, fu_ne, Int.toNat_natCast, m_O, e1, g3, b2, show ¬ (1 : Int) = 0 by decide]); rw [B_md_about_10]; (try simp (disch := omega) only [Option.bind_some, if_true, if_false, eq_self, not_true_eq_false, not_false_eq_true, am_w_id, if_pos, if_neg, fu_self, fu_ne, Int.toNat_natCast, m_gR_22, m_l_22, m_s_22, e1, g3, b2, show ¬ (1 : Int) = 0 by decide]); simp (disch := omega) only [C_md_about_18_2]; (try simp (disch := omega) only [Option.bind_some, if_true, if_false, eq_self, not_true_eq_false, not_false_eq_true, am_w_id, if_pos, if_neg, fu_self, fu_ne, Int.toNat_natCast, e1, g3, b2, show ¬ (1 : Int) = 0 by decide]); rw [B_md_about_84]; (try simp (disch := omega) only [Option.bind_some, if_true, if_false, eq_self, not_true_eq_false, not_false_eq_true, am_w_id, if_pos, if_neg, fu_self, fu_ne, Int.toNat_natCast, m_O, e1, g3, b2, show ¬ (1 : Int) = 0 by decide])
    rw [if_neg w2]
    by_cases w3 : w = 3
    · rw [if_pos w3]; subst w3
      (try dsimp only); rw [en_md_about]; (try simp (disch := omega) only [Option.bind_some, if_true, if_false, eq_self, not_true_eq_false, not_false_eq_true, am_w_id, if_pos, if_neg, fu_self, fu_ne, Int.toNat_natCast, e1, g3, b3, show ¬ (1 : Int) = 0 by decide]); rw [B_md_about_0]; (try simp (disch := omega) only [Option.bind_some, if_true, if_false, eq_self, not_true_eq_false, not_false_eq_true, am_w_id, if_pos, if_neg, fu_self, fu_ne, Int.toNat_natCast, m_O, e1, g3, b3, show ¬ (1 : Int) = 0 by decide]); rw [B_md_about_10]; (try simp (disch := omega) only [Option.bind_some, if_true, if_false, eq_self, not_true_eq_false, not_false_eq_true, am_w_id, if_pos, if_neg, fu_self, fu_ne, Int.toNat_natCast, m_gR_22, m_l_22, m_s_22, e1, g3, b3, show ¬ (1 : Int) = 0 by decide]); simp (disch := omega) only [C_md_about_18_3]; (try simp (disch := omega) only [Option.bind_some, if_true, if_false, eq_self, not_true_eq_false, not_false_eq_true, am_w_id, if_pos, if_neg, fu_self, fu_ne, Int.toNat_natCast, e1, g3, b3, show ¬ (1 : Int) = 0 by decide]); rw [B_md_about_91]; (try simp (disch := omega) only [Option.bind_some, if_true, if_false, eq_self, not_true_eq_false, not_false_eq_true, am_w_id, if_pos, if_neg, fu_self, fu_ne, Int.toNat_natCast, m_O, e1, g3, b3, show ¬ (1 : Int) = 0 by decide])
    rw [if_neg w3]
    by_cases w4 : w = 4
    · rw [if_pos w4]; subst w4
      (try dsimp only); rw [en_md_about]; (try simp (disch := omega) only [Option.bind_some, if_true, if_false, eq_self, not_true_eq_false, not_false_eq_true, am_w_id, if_pos, if_neg, fu_self, fu_ne, Int.toNat_natCast, e1, g3, b4, show ¬ (1 : Int) = 0 by decide]); rw [B_md_about_0]; (try simp (disch := omega) only [Option.bind_some, if_true, if_false, eq_self, not_true_eq_false, not_false_eq_true, am_w_id, if_pos, if_neg, fu_self, fu_ne, Int.toNat_natCast, m_O, e1, g3, b4, show ¬ (1 : Int) = 0 by decide]); rw [B_md_about_10]; (try simp (disch := omega) only [Option.bind_some, if_true, if_false, eq_self, not_true_eq_false, not_false_eq_true, am_w_id, if_pos, if_neg, fu_self, fu_ne, Int.toNat_natCast, m_gR_22, m_l_22, m_s_22, e1, g3, b4, show ¬ (1 : Int) = 0 by decide]); simp (disch := omega) only [C_md_about_18_4]; (try simp (disch := omega) only [Option.bind_some, if_true, if_false, eq_self, not_true_eq_false, not_false_eq_true, am_w_id, if_pos, if_neg, fu_self, fu_ne, Int.toNat_natCast, e1, g3, b4, show ¬ (1 : Int) = 0 by decide]); rw [B_md_about_98]; (try simp (disch := omega) only [Option.bind_some, if_true, if_false, eq_self, not_true_eq_false, not_false_eq_true, am_w_id, if_pos, if_neg, fu_self, fu_ne, Int.toNat_natCast, m_O, e1, g3, b4, show ¬ (1 : Int) = 0 by decide])
    rw [if_neg w4]
    by_cases w5 : w = 5
    · rw [if_pos w5]; subst w5
      (try dsimp only); rw [en_md_about]; (try simp (disch := omega) only [Option.bind_some, if_true, if_false, eq_self, not_true_eq_false, not_false_eq_true, am_w_id, if_pos, if_neg, fu_self, fu_ne, Int.toNat_natCast, e1, g3, b5, show ¬ (1 : Int) = 0 by decide]); rw [B_md_about_0]; (try simp (disch := omega) only [Option.bind_some, if_true, if_false, eq_self, not_true_eq_false, not_false_eq_true, am_w_id, if_pos, if_neg, fu_self, fu_ne, Int.toNat_natCast, m_O, e1, g3, b5, show ¬ (1 : Int) = 0 by decide]); rw [B_md_about_10]; (try simp (disch := omega) only [Option.bind_some, if_true, if_false, eq_self, not_true_eq_false, not_false_eq_true, am_w_id, if_pos, if_neg, fu_self, fu_ne, Int.toNat_natCast, m_gR_22, m_l_22, m_s_22, e1, g3, b5, show ¬ (1 : Int) = 0 by decide]); simp (disch := omega) only [C_md_about_18_5]; (try simp (disch := omega) only [Option.bind_some, if_true, if_false, eq_self, not_true_eq_false, not_false_eq_true, am_w_id, if_pos, if_neg, fu_self, fu_ne, Int.toNat_natCast, e1, g3, b5, show ¬ (1 : Int) = 0 by decide]); rw [B_md_about_104]; (try simp (disch := omega) only [Option.bind_some, if_true, if_false, eq_self, not_true_eq_false, not_false_eq_true, am_w_id, if_pos, if_neg, fu_self, fu_ne, Int.toNat_natCast, m_O, e1, g3, b5, show ¬ (1 : Int) = 0 by decide])
    rw [if_neg w5]
    by_cases w6 : w = 6
    · rw [if_pos w6]; subst w6
      (try dsimp only); rw [en_md_about]; (try simp (disch := omega) only [Option.bind_some, if_true, if_false, eq_self, not_true_eq_false, not_false_eq_true, am_w_id, if_pos, if_neg, fu_self, fu_ne, Int.toNat_natCast, e1, g3, b6, show ¬ (1 : Int) = 0 by decide]); rw [B_md_about_0]; (try simp (disch := omega) only [Option.bind_some, if_true, if_false, eq_self, not_true_eq_false, not_false_eq_true, am_w_id, if_pos, if_neg, fu_self, fu_ne, Int.toNat_natCast, m_O, e1, g3, b6, show ¬ (1 : Int) = 0 by decide]); rw [B_md_about_10]; (try simp (disch := omega) only [Option.bind_some, if_true, if_false, eq_self, not_true_eq_false, not_false_eq_true, am_w_id, if_pos, if_neg, fu_self, fu_ne, Int.toNat_natCast, m_gR_22, m_l_22, m_s_22, e1, g3, b6, show ¬ (1 : Int) = 0 by decide]); simp (disch := omega) only [C_md_about_18_6]; (try simp (disch := omega) only [Option.bind_some, if_true, if_false, eq_self, not_true_eq_false, not_false_eq_true, am_w_id, if_pos, if_neg, fu_self, fu_ne, Int.toNat_natCast, e1, g3, b6, show ¬ (1 : Int) = 0 by decide]); rw [B_md_about_110]; (try simp (disch := omega) only [Option.bind_some, if_true, if_false, eq_self, not_true_eq_false, not_false_eq_true, am_w_id, if_pos, if_neg, fu_self, fu_ne, Int.toNat_natCast, m_O, e1, g3, b6, show ¬ (1 : Int) = 0 by decide])
    rw [if_neg w6]
    by_cases w7 : w = 7
    · rw [if_pos w7]; subst w7
      (try dsimp only); rw [en_md_about]; (try simp (disch := omega) only [Option.bind_some, if_true, if_false, eq_self, not_true_eq_false, not_false_eq_true, am_w_id, if_pos, if_neg, fu_self, fu_ne, Int.toNat_natCast, e1, g3, b7, show ¬ (1 : Int) = 0 by decide]); rw [B_md_about_0]; (try simp (disch := omega) only [Option.bind_some, if_true, if_false, eq_self, not_true_eq_false, not_false_eq_true, am_w_id, if_pos, if_neg, fu_self, fu_ne, Int.toNat_natCast, m_O, e1, g3, b7, show ¬ (1 : Int) = 0 by decide]); rw [B_md_about_10]; (try simp (disch := omega) only [Option.bind_some, if_true, if_false, eq_self, not_true_eq_false, not_false_eq_true, am_w_id, if_pos, if_neg, fu_self, fu_ne, Int.toNat_natCast, m_gR_22, m_l_22, m_s_22, e1, g3, b7, show ¬ (1 : Int) = 0 by decide]); simp (disch := omega) only [C_md_about_18_7]; (try simp (disch := omega) only [Option.bind_some, if_true, if_false, eq_self, not_true_eq_false, not_false_eq_true, am_w_id, if_pos, if_neg, fu_self, fu_ne, Int.toNat_natCast, e1, g3, b7, show ¬ (1 : Int) = 0 by decide]); rw [B_md_about_116]; (try simp (disch := omega) only [Option.bind_some, if_true, if_false, eq_self, not_true_eq_false, not_false_eq_true, am_w_id, if_pos, if_neg, fu_self, fu_ne, Int.toNat_natCast, m_O, e1, g3, b7, show ¬ (1 : Int) = 0 by decide])
    rw [if_neg w7]
    (try dsimp only); rw [en_md_about]; (try simp (disch := omega) only [Option.bind_some, if_true, if_false, eq_self, not_true_eq_false, not_false_eq_true, am_w_id, if_pos, if_neg, fu_self, fu_ne, Int.toNat_natCast, e1, g3, show ¬ (1 : Int) = 0 by decide]); rw [B_md_about_0]; (try simp (disch := omega) only [Option.bind_some, if_true, if_false, eq_self, not_true_eq_false, not_false_eq_true, am_w_id, if_pos, if_neg, fu_self, fu_ne, Int.toNat_natCast, m_O, e1, g3, show ¬ (1 : Int) = 0 by decide]); rw [B_md_about_10]; (try simp (disch := omega) only [Option.bind_some, if_true, if_false, eq_self, not_true_eq_false, not_false_eq_true, am_w_id, if_pos, if_neg, fu_self, fu_ne, Int.toNat_natCast, m_gR_22, m_l_22, m_s_22, e1, g3, show ¬ (1 : Int) = 0 by decide]); simp (disch := omega) only [C_md_about_18_d]; (try simp (disch := omega) only [Option.bind_some, if_true, if_false, eq_self, not_true_eq_false, not_false_eq_true, am_w_id, if_pos, if_neg, fu_self, fu_ne, Int.toNat_natCast, e1, g3, show ¬ (1 : Int) = 0 by decide]); rw [B_md_about_122]; (try simp (disch := omega) only [Option.bind_some, if_true, if_false, eq_self, not_true_eq_false, not_false_eq_true, am_w_id, if_pos, if_neg, fu_self, fu_ne, Int.toNat_natCast, e1, g3, show ¬ (1 : Int) = 0 by decide])
  · rw [if_neg c] at e1 ⊢
    refine ⟨S1, am_cI_of ?_, H1⟩
    (try dsimp only); rw [en_md_about]; (try simp (disch := omega) only [Option.bind_some, if_true, if_false, eq_self, not_true_eq_false, not_false_eq_true, am_w_id, if_pos, if_neg, fu_self, fu_ne, Int.toNat_natCast, e1]); rw [B_md_about_0]; (try simp (disch := omega) only [Option.bind_some, if_true, if_false, eq_self, not_true_eq_false, not_false_eq_true, am_w_id, if_pos, if_neg, fu_self, fu_ne, Int.toNat_natCast, m_O, e1]); rw [B_md_about_8]; (try simp (disch := omega) only [Option.bind_some, if_true, if_false, eq_self, not_true_eq_false, not_false_eq_true, am_w_id, if_pos, if_neg, fu_self, fu_ne, Int.toNat_natCast, e1])
theorem md_arcs (H : MR S t ws bs hs sh) (O : okS t ws bs hs sh) (d : Nat) : ∃ S', am_cI (d + 5) N_md_arcs [.inr (.inr (some (m)))] (MH m g S) = some (((al ws).length : Int), MH m g S') ∧ MR S' t ws bs hs sh := by
  obtain ⟨T, e, t1, t2⟩ := md_laysStates (m := m) (g := g) O.2.1 H.2.1 d
  have h21 := t1.2.1
  have hS : ((rl (eR ws) tt (nN ws)).length : Int) = (nS ws : Int) := rfl
  rw [hS] at h21
  have hn2 := nS_le O.2.1
  have hN' : nN ws ≤ 1001 := ND_len O.2.1
  refine ⟨T, am_cI_of ?_, H.frd t2 (by decide)⟩
  have start : am_call (d + 5) N_md_arcs [.inr (.inr (some (m)))] (MH m g S) = EV (d + 5) N_md_arcs T_md_arcs_8 [.inr (.inr (some (m))), .inl (((((fst ws).take 0).flatMap (kd ws)).length : Int)), .inl (((0 : Nat) : Int))] [] (MH m g T) := by
    (try dsimp only); rw [en_md_arcs]; (try simp (disch := omega) only [Option.bind_some, if_true, if_false, eq_self, not_true_eq_false, not_false_eq_true, am_w_id, if_pos, if_neg, fu_self, fu_ne, Int.toNat_natCast, e]); rw [B_md_arcs_0]; (try simp (disch := omega) only [Option.bind_some, if_true, if_false, eq_self, not_true_eq_false, not_false_eq_true, am_w_id, if_pos, if_neg, fu_self, fu_ne, Int.toNat_natCast, m_O, e])
    rfl
  rw [start]
  have bd : ∀ s, s ≤ nS ws → (((fst ws).take s).flatMap (kd ws)).length ≤ 1001 * s := by
    intro s
    induction s with
    | zero => intro _; simp
    | succ s ih =>
      intro hs
      obtain ⟨fl, fg⟩ := fst_lt (show s < nS ws by omega)
      rw [tk_s fg, List.flatMap_append, List.length_append]
      have h1 := ih (by omega)
      have h2 : (kd ws (fn ws s)).length ≤ nN ws := by
        unfold kd
        exact Nat.le_trans (List.length_filter_le _ _) (by rw [List.length_range]; exact Nat.le_refl _)
      have h3 : ([fn ws s].flatMap (kd ws)).length = (kd ws (fn ws s)).length := by simp
      omega
  have loop := am_for (F := fun s => EV (d + 5) N_md_arcs T_md_arcs_8 [.inr (.inr (some (m))), .inl (((((fst ws).take s).flatMap (kd ws)).length : Int)), .inl ((s : Int))] [] (MH m g T)) (k := 0) (n := nS ws) (Nat.zero_le _) (fun s _ hs => by
    obtain ⟨fl, fg⟩ := fst_lt hs
    have g3 : T 22 s = (fn ws s : Int) := t1.2.2.1 _ _ fg
    have a1 := fun d => md_childrenOf (m := m) (g := g) O.2.1 t1 fl d
    have hb := bd (s + 1) (by omega)
    have hb0 := bd s (by omega)
    rw [tk_s fg, List.flatMap_append, List.length_append] at hb ⊢
    have h3 : ([fn ws s].flatMap (kd ws)).length = (kd ws (fn ws s)).length := by simp
    rw [h3] at hb ⊢
    have e9 : (s : Int) + 1 = ((s + 1 : Nat) : Int) := by omega
    have e8 : ((((fst ws).take s).flatMap (kd ws)).length : Int) + ((kd ws (fn ws s)).length : Int) = (((((fst ws).take s).flatMap (kd ws)).length + (kd ws (fn ws s)).length : Nat) : Int) := by omega
    (try dsimp only); rw [B_md_arcs_8]; (try simp (disch := omega) only [Option.bind_some, if_true, if_false, eq_self, not_true_eq_false, not_false_eq_true, am_w_id, if_pos, if_neg, fu_self, fu_ne, Int.toNat_natCast, m_gI_21, m_p_21, h21, g3, a1, e9, e8]); rw [B_md_arcs_16]; (try simp (disch := omega) only [Option.bind_some, if_true, if_false, eq_self, not_true_eq_false, not_false_eq_true, am_w_id, if_pos, if_neg, fu_self, fu_ne, Int.toNat_natCast, m_gR_22, m_l_22, m_s_22, m_O, h21, g3, a1, e9, e8]))
  refine loop.trans ?_
  rw [show (fst ws).take (nS ws) = fst ws from List.take_length]
  (try dsimp only); rw [B_md_arcs_8]; (try simp (disch := omega) only [Option.bind_some, if_true, if_false, eq_self, not_true_eq_false, not_false_eq_true, am_w_id, if_pos, if_neg, fu_self, fu_ne, Int.toNat_natCast, m_gI_21, m_p_21, h21]); rw [B_md_arcs_35]; (try simp (disch := omega) only [Option.bind_some, if_true, if_false, eq_self, not_true_eq_false, not_false_eq_true, am_w_id, if_pos, if_neg, fu_self, fu_ne, Int.toNat_natCast, h21])
  rfl
theorem md_beginnings (H : MR S t ws bs hs sh) (O : okS t ws bs hs sh) (d : Nat) : ∃ S', am_cI (d + 4) N_md_beginnings [.inr (.inr (some (m)))] (MH m g S) = some ((nN ws : Int), MH m g S') ∧ MR S' t ws bs hs sh := by
  obtain ⟨T, e, t1, t2⟩ := md_laysNodes (m := m) (g := g) O.2.1 H.2.1 d
  have e' : am_cV (d + 3) N_md_laysNodes [.inr (.inr (some (m))), .inl (0)] (MH m g S) = some (MH m g T) := e
  have n1 := t1.1
  refine ⟨T, am_cI_of ?_, H.frd t2 (by decide)⟩
  (try dsimp only); rw [en_md_beginnings]; (try simp (disch := omega) only [Option.bind_some, if_true, if_false, eq_self, not_true_eq_false, not_false_eq_true, am_w_id, if_pos, if_neg, fu_self, fu_ne, Int.toNat_natCast, e', n1]); rw [B_md_beginnings_0]; (try simp (disch := omega) only [Option.bind_some, if_true, if_false, eq_self, not_true_eq_false, not_false_eq_true, am_w_id, if_pos, if_neg, fu_self, fu_ne, Int.toNat_natCast, m_gI_13, m_p_13, m_O, e', n1])
theorem md_keptSet (H : MR S t ws bs hs sh) (d : Nat) : am_cI d N_md_keptSet [.inr (.inr (some (m)))] (MH m g S) = some (bit3 sh, MH m g S) := by
  have k0 := (H.2.2.2.2 0 (by omega)).1
  have k1 := (H.2.2.2.2 1 (by omega)).1
  have k2 := (H.2.2.2.2 2 (by omega)).1
  have o1 : ∀ x y : Nat, x < 8 → y < 8 → am_or (x : Int) (y : Int) = ((x ||| y : Nat) : Int) := fun x y hx hy => by
    rw [bt_or (by omega) (by omega) (by omega) (by omega), Int.toNat_natCast, Int.toNat_natCast]
  have s0 : am_shl 1 0 = 1 := by decide +kernel
  have s1 : am_shl 1 1 = 2 := by decide +kernel
  have s2 : am_shl 1 2 = 4 := by decide +kernel
  apply am_cI_of
  unfold bit3
  have orr : ∀ x y : Int, (x = 0 ∨ x = 1 ∨ x = 2 ∨ x = 3) → (y = 0 ∨ y = 1 ∨ y = 2 ∨ y = 4) → am_or x y = ((x.toNat ||| y.toNat : Nat) : Int) := fun x y hx hy => bt_or (by omega) (by omega) (by omega) (by omega)
  cases c0 : sh 0 <;> cases c1 : sh 1 <;> cases c2 : sh 2 <;> simp only [c0, c1, c2, if_true, reduceCtorEq, if_false] at k0 k1 k2 ⊢ <;>
  · ((try dsimp only); rw [en_md_keptSet]; (try simp (disch := omega) only [Option.bind_some, if_true, if_false, eq_self, not_true_eq_false, not_false_eq_true, am_w_id, if_pos, if_neg, fu_self, fu_ne, Int.toNat_natCast]); rw [B_md_keptSet_0]; (try simp (disch := omega) only [Option.bind_some, if_true, if_false, eq_self, not_true_eq_false, not_false_eq_true, am_w_id, if_pos, if_neg, fu_self, fu_ne, Int.toNat_natCast]))
    rw [B_md_keptSet_4, if_neg (by decide), B_md_keptSet_9]
    simp only [m_gR_6, Option.bind_some, m_l_6 (show (0 : Int) ≤ 0 by decide) (show (0 : Int) < 3 by decide), Int.toNat_zero, k0, if_true, show ¬ (1 : Int) = 0 by decide, if_false]
    (first | rw [B_md_keptSet_25] | rw [B_md_keptSet_19])
    rw [B_md_keptSet_26, B_md_keptSet_4, am_w_id (by decide) (by decide), if_neg (by decide), B_md_keptSet_9]
    simp only [m_gR_6, Option.bind_some, m_l_6 (show (0 : Int) ≤ 0 + 1 by decide) (show (0 : Int) + 1 < 3 by decide), show ((0 : Int) + 1).toNat = 1 from rfl, k1, if_true, show ¬ (1 : Int) = 0 by decide, if_false]
    (first | rw [B_md_keptSet_25] | rw [B_md_keptSet_19])
    rw [B_md_keptSet_26, B_md_keptSet_4, am_w_id (by decide) (by decide), if_neg (by decide), B_md_keptSet_9]
    simp only [m_gR_6, Option.bind_some, m_l_6 (show (0 : Int) ≤ 0 + 1 + 1 by decide) (show (0 : Int) + 1 + 1 < 3 by decide), show ((0 : Int) + 1 + 1).toNat = 2 from rfl, k2, if_true, show ¬ (1 : Int) = 0 by decide, if_false]
    (first | rw [B_md_keptSet_25] | rw [B_md_keptSet_19])
    rw [B_md_keptSet_26, B_md_keptSet_4, am_w_id (by decide) (by decide), if_pos (by decide), B_md_keptSet_34]
    refine congrArg (fun x : Int => some (some (Sum.inl x), MH m g S)) ?_
    decide +kernel
theorem md_numbersTogether (H : MR S t ws bs hs sh) (O : okS t ws bs hs sh) (d : Nat) : am_cI (d + 1) N_md_numbersTogether [.inr (.inr (some (m)))] (MH m g S) = some (sumN ws, MH m g S) := by
  have h1 := H.2.1.1
  have hl := O.2.1.2.2
  apply am_cI_of
  rw [en_md_numbersTogether, B_md_numbersTogether_0]
  have bd : ∀ k, k ≤ ws.length → 0 ≤ (ws.take k).foldl (fun (s : Int) (q : wd) => s + q.2) 0 ∧ (ws.take k).foldl (fun (s : Int) (q : wd) => s + q.2) 0 ≤ 999999 * k := by
    intro k
    induction k with
    | zero => intro _; simp
    | succ k ih =>
      intro hk
      have hget : ws[k]? = some (ws[k]'(by omega)) := List.getElem?_eq_getElem (by omega)
      have h2 := ih (by omega)
      have h3 := (ok_get O.2.1 hget).2.2.2
      rw [tk_s hget, List.foldl_append, List.foldl_cons, List.foldl_nil]
      omega
  have loop := am_for (F := fun k => EV (d + 1) N_md_numbersTogether T_md_numbersTogether_4 [.inr (.inr (some (m))), .inl ((ws.take k).foldl (fun (s : Int) (q : wd) => s + q.2) 0), .inl ((k : Int))] [] (MH m g S)) (k := 0) (n := ws.length) (Nat.zero_le _) (fun k _ hk => by
    have hget : ws[k]? = some ws[k] := List.getElem?_eq_getElem hk
    have a1 := fun d => md_numberOf0 (m := m) (g := g) H hget d
    have b1 := bd (k + 1) (by omega)
    have b0 := bd k (by omega)
    rw [tk_s hget, List.foldl_append, List.foldl_cons, List.foldl_nil] at b1 ⊢
    generalize (ws.take k).foldl (fun (s : Int) (q : wd) => s + q.2) 0 = z at *
    have e9 : (k : Int) + 1 = ((k + 1 : Nat) : Int) := by omega
    (try dsimp only); rw [B_md_numbersTogether_4]; (try simp (disch := omega) only [Option.bind_some, if_true, if_false, eq_self, not_true_eq_false, not_false_eq_true, am_w_id, if_pos, if_neg, fu_self, fu_ne, Int.toNat_natCast, m_gR_2, m_l_2, m_s_2, h1, a1, e9, Int.reduceToNat]); rw [B_md_numbersTogether_14]; (try simp (disch := omega) only [Option.bind_some, if_true, if_false, eq_self, not_true_eq_false, not_false_eq_true, am_w_id, if_pos, if_neg, fu_self, fu_ne, Int.toNat_natCast, m_gR_2, m_l_2, m_s_2, h1, a1, e9, Int.reduceToNat]))
  refine loop.trans ?_
  rw [List.take_length]
  (try dsimp only); rw [B_md_numbersTogether_4]; (try simp (disch := omega) only [Option.bind_some, if_true, if_false, eq_self, not_true_eq_false, not_false_eq_true, am_w_id, if_pos, if_neg, fu_self, fu_ne, Int.toNat_natCast, m_gR_2, m_l_2, m_s_2, h1, Int.reduceToNat]); rw [B_md_numbersTogether_32]; (try simp (disch := omega) only [Option.bind_some, if_true, if_false, eq_self, not_true_eq_false, not_false_eq_true, am_w_id, if_pos, if_neg, fu_self, fu_ne, Int.toNat_natCast, h1, Int.reduceToNat])
  rfl
theorem mo_count (H : MR S t ws bs hs sh) (O : okS t ws bs hs sh) (w : Int) (d : Nat) : ∃ S', am_cI (d + 6) N_md_count [.inr (.inr (some (m))), .inl (w)] (MH m g S) = some ((sp_count w (t, ws, bs, hs, sh)).1, MH m g S') ∧ MS S' (sp_count w (t, ws, bs, hs, sh)).2 := by
  unfold sp_count coA
  dsimp only [MS]
  have h1 := H.2.1.1
  have h2 := H.2.2.1.1
  have h3 := H.2.2.2.1.1
  have h4 := H.1.1
  by_cases w0 : w = 0
  · rw [if_pos w0]; subst w0
    exact ⟨S, am_cI_of (by (try dsimp only); rw [en_md_count]; (try simp (disch := omega) only [Option.bind_some, if_true, if_false, eq_self, not_true_eq_false, not_false_eq_true, am_w_id, if_pos, if_neg, fu_self, fu_ne, Int.toNat_natCast, h1, Int.reduceToNat]); rw [B_md_count_0]; (try simp (disch := omega) only [Option.bind_some, if_true, if_false, eq_self, not_true_eq_false, not_false_eq_true, am_w_id, if_pos, if_neg, fu_self, fu_ne, Int.toNat_natCast, h1, Int.reduceToNat]); simp (disch := omega) only [C_md_count_1_0]; (try simp (disch := omega) only [Option.bind_some, if_true, if_false, eq_self, not_true_eq_false, not_false_eq_true, am_w_id, if_pos, if_neg, fu_self, fu_ne, Int.toNat_natCast, h1, Int.reduceToNat]); rw [B_md_count_64]; (try simp (disch := omega) only [Option.bind_some, if_true, if_false, eq_self, not_true_eq_false, not_false_eq_true, am_w_id, if_pos, if_neg, fu_self, fu_ne, Int.toNat_natCast, m_gR_2, m_l_2, m_s_2, h1, Int.reduceToNat])), H⟩
  rw [if_neg w0]
  by_cases w1 : w = 1
  · rw [if_pos w1]; subst w1
    obtain ⟨T, e, t1, t2⟩ := md_statesOf (m := m) (g := g) O.2.1 H.2.1 d 0
    exact ⟨T, am_cI_of (by (try dsimp only); rw [en_md_count]; (try simp (disch := omega) only [Option.bind_some, if_true, if_false, eq_self, not_true_eq_false, not_false_eq_true, am_w_id, if_pos, if_neg, fu_self, fu_ne, Int.toNat_natCast, e]); rw [B_md_count_0]; (try simp (disch := omega) only [Option.bind_some, if_true, if_false, eq_self, not_true_eq_false, not_false_eq_true, am_w_id, if_pos, if_neg, fu_self, fu_ne, Int.toNat_natCast, e]); simp (disch := omega) only [C_md_count_1_1]; (try simp (disch := omega) only [Option.bind_some, if_true, if_false, eq_self, not_true_eq_false, not_false_eq_true, am_w_id, if_pos, if_neg, fu_self, fu_ne, Int.toNat_natCast, e]); rw [B_md_count_71]; (try simp (disch := omega) only [Option.bind_some, if_true, if_false, eq_self, not_true_eq_false, not_false_eq_true, am_w_id, if_pos, if_neg, fu_self, fu_ne, Int.toNat_natCast, m_O, e])), H.frd t2 (by decide)⟩
  rw [if_neg w1]
  by_cases w2 : w = 2
  · rw [if_pos w2]; subst w2
    obtain ⟨T, e, t1⟩ := md_arcs (m := m) (g := g) H O d
    exact ⟨T, am_cI_of (by (try dsimp only); rw [en_md_count]; (try simp (disch := omega) only [Option.bind_some, if_true, if_false, eq_self, not_true_eq_false, not_false_eq_true, am_w_id, if_pos, if_neg, fu_self, fu_ne, Int.toNat_natCast, e]); rw [B_md_count_0]; (try simp (disch := omega) only [Option.bind_some, if_true, if_false, eq_self, not_true_eq_false, not_false_eq_true, am_w_id, if_pos, if_neg, fu_self, fu_ne, Int.toNat_natCast, e]); simp (disch := omega) only [C_md_count_1_2]; (try simp (disch := omega) only [Option.bind_some, if_true, if_false, eq_self, not_true_eq_false, not_false_eq_true, am_w_id, if_pos, if_neg, fu_self, fu_ne, Int.toNat_natCast, e]); rw [B_md_count_77]; (try simp (disch := omega) only [Option.bind_some, if_true, if_false, eq_self, not_true_eq_false, not_false_eq_true, am_w_id, if_pos, if_neg, fu_self, fu_ne, Int.toNat_natCast, m_O, e])), t1⟩
  rw [if_neg w2]
  by_cases w3 : w = 3
  · rw [if_pos w3]; subst w3
    have e := fun d => md_leastNumber (m := m) (g := g) H O d
    exact ⟨S, am_cI_of (by (try dsimp only); rw [en_md_count]; (try simp (disch := omega) only [Option.bind_some, if_true, if_false, eq_self, not_true_eq_false, not_false_eq_true, am_w_id, if_pos, if_neg, fu_self, fu_ne, Int.toNat_natCast, e]); rw [B_md_count_0]; (try simp (disch := omega) only [Option.bind_some, if_true, if_false, eq_self, not_true_eq_false, not_false_eq_true, am_w_id, if_pos, if_neg, fu_self, fu_ne, Int.toNat_natCast, e]); simp (disch := omega) only [C_md_count_1_3]; (try simp (disch := omega) only [Option.bind_some, if_true, if_false, eq_self, not_true_eq_false, not_false_eq_true, am_w_id, if_pos, if_neg, fu_self, fu_ne, Int.toNat_natCast, e]); rw [B_md_count_82]; (try simp (disch := omega) only [Option.bind_some, if_true, if_false, eq_self, not_true_eq_false, not_false_eq_true, am_w_id, if_pos, if_neg, fu_self, fu_ne, Int.toNat_natCast, m_O, e])), H⟩
  rw [if_neg w3]
  by_cases w4 : w = 4
  · rw [if_pos w4]; subst w4
    have e := fun d => md_numbersTogether (m := m) (g := g) H O d
    exact ⟨S, am_cI_of (by (try dsimp only); rw [en_md_count]; (try simp (disch := omega) only [Option.bind_some, if_true, if_false, eq_self, not_true_eq_false, not_false_eq_true, am_w_id, if_pos, if_neg, fu_self, fu_ne, Int.toNat_natCast, e]); rw [B_md_count_0]; (try simp (disch := omega) only [Option.bind_some, if_true, if_false, eq_self, not_true_eq_false, not_false_eq_true, am_w_id, if_pos, if_neg, fu_self, fu_ne, Int.toNat_natCast, e]); simp (disch := omega) only [C_md_count_1_4]; (try simp (disch := omega) only [Option.bind_some, if_true, if_false, eq_self, not_true_eq_false, not_false_eq_true, am_w_id, if_pos, if_neg, fu_self, fu_ne, Int.toNat_natCast, e]); rw [B_md_count_87]; (try simp (disch := omega) only [Option.bind_some, if_true, if_false, eq_self, not_true_eq_false, not_false_eq_true, am_w_id, if_pos, if_neg, fu_self, fu_ne, Int.toNat_natCast, m_O, e])), H⟩
  rw [if_neg w4]
  by_cases w5 : w = 5
  · rw [if_pos w5]; subst w5
    exact ⟨S, am_cI_of (by (try dsimp only); rw [en_md_count]; (try simp (disch := omega) only [Option.bind_some, if_true, if_false, eq_self, not_true_eq_false, not_false_eq_true, am_w_id, if_pos, if_neg, fu_self, fu_ne, Int.toNat_natCast, h2, Int.reduceToNat]); rw [B_md_count_0]; (try simp (disch := omega) only [Option.bind_some, if_true, if_false, eq_self, not_true_eq_false, not_false_eq_true, am_w_id, if_pos, if_neg, fu_self, fu_ne, Int.toNat_natCast, h2, Int.reduceToNat]); simp (disch := omega) only [C_md_count_1_5]; (try simp (disch := omega) only [Option.bind_some, if_true, if_false, eq_self, not_true_eq_false, not_false_eq_true, am_w_id, if_pos, if_neg, fu_self, fu_ne, Int.toNat_natCast, h2, Int.reduceToNat]); rw [B_md_count_92]; (try simp (disch := omega) only [Option.bind_some, if_true, if_false, eq_self, not_true_eq_false, not_false_eq_true, am_w_id, if_pos, if_neg, fu_self, fu_ne, Int.toNat_natCast, m_gR_2, m_l_2, m_s_2, h2, Int.reduceToNat])), H⟩
  rw [if_neg w5]
  by_cases w6 : w = 6
  · rw [if_pos w6]; subst w6
    have e := fun d => md_open (m := m) (g := g) O.2.2.1 H.2.2.1 d
    exact ⟨S, am_cI_of (by (try dsimp only); rw [en_md_count]; (try simp (disch := omega) only [Option.bind_some, if_true, if_false, eq_self, not_true_eq_false, not_false_eq_true, am_w_id, if_pos, if_neg, fu_self, fu_ne, Int.toNat_natCast, e]); rw [B_md_count_0]; (try simp (disch := omega) only [Option.bind_some, if_true, if_false, eq_self, not_true_eq_false, not_false_eq_true, am_w_id, if_pos, if_neg, fu_self, fu_ne, Int.toNat_natCast, e]); simp (disch := omega) only [C_md_count_1_6]; (try simp (disch := omega) only [Option.bind_some, if_true, if_false, eq_self, not_true_eq_false, not_false_eq_true, am_w_id, if_pos, if_neg, fu_self, fu_ne, Int.toNat_natCast, e]); rw [B_md_count_101]; (try simp (disch := omega) only [Option.bind_some, if_true, if_false, eq_self, not_true_eq_false, not_false_eq_true, am_w_id, if_pos, if_neg, fu_self, fu_ne, Int.toNat_natCast, m_O, e])), H⟩
  rw [if_neg w6]
  by_cases w7 : w = 7
  · rw [if_pos w7]; subst w7
    obtain ⟨T, e, t2⟩ := md_closed (m := m) (g := g) O.2.2.1 H.2.2.1 (d + 1)
    exact ⟨T, am_cI_of (by (try dsimp only); rw [en_md_count]; (try simp (disch := omega) only [Option.bind_some, if_true, if_false, eq_self, not_true_eq_false, not_false_eq_true, am_w_id, if_pos, if_neg, fu_self, fu_ne, Int.toNat_natCast, e]); rw [B_md_count_0]; (try simp (disch := omega) only [Option.bind_some, if_true, if_false, eq_self, not_true_eq_false, not_false_eq_true, am_w_id, if_pos, if_neg, fu_self, fu_ne, Int.toNat_natCast, e]); simp (disch := omega) only [C_md_count_1_7]; (try simp (disch := omega) only [Option.bind_some, if_true, if_false, eq_self, not_true_eq_false, not_false_eq_true, am_w_id, if_pos, if_neg, fu_self, fu_ne, Int.toNat_natCast, e]); rw [B_md_count_106]; (try simp (disch := omega) only [Option.bind_some, if_true, if_false, eq_self, not_true_eq_false, not_false_eq_true, am_w_id, if_pos, if_neg, fu_self, fu_ne, Int.toNat_natCast, m_O, e])), H.frd t2 (by decide)⟩
  rw [if_neg w7]
  by_cases w8 : w = 8
  · rw [if_pos w8]; subst w8
    exact ⟨S, am_cI_of (by (try dsimp only); rw [en_md_count]; (try simp (disch := omega) only [Option.bind_some, if_true, if_false, eq_self, not_true_eq_false, not_false_eq_true, am_w_id, if_pos, if_neg, fu_self, fu_ne, Int.toNat_natCast, h3]); rw [B_md_count_0]; (try simp (disch := omega) only [Option.bind_some, if_true, if_false, eq_self, not_true_eq_false, not_false_eq_true, am_w_id, if_pos, if_neg, fu_self, fu_ne, Int.toNat_natCast, h3]); simp (disch := omega) only [C_md_count_1_8]; (try simp (disch := omega) only [Option.bind_some, if_true, if_false, eq_self, not_true_eq_false, not_false_eq_true, am_w_id, if_pos, if_neg, fu_self, fu_ne, Int.toNat_natCast, h3]); rw [B_md_count_111]; (try simp (disch := omega) only [Option.bind_some, if_true, if_false, eq_self, not_true_eq_false, not_false_eq_true, am_w_id, if_pos, if_neg, fu_self, fu_ne, Int.toNat_natCast, m_gI_4, m_p_4, h3])), H⟩
  rw [if_neg w8]
  by_cases w9 : w = 9
  · rw [if_pos w9]; subst w9
    have e := fun d => md_keptSet (m := m) (g := g) H d
    exact ⟨S, am_cI_of (by (try dsimp only); rw [en_md_count]; (try simp (disch := omega) only [Option.bind_some, if_true, if_false, eq_self, not_true_eq_false, not_false_eq_true, am_w_id, if_pos, if_neg, fu_self, fu_ne, Int.toNat_natCast, e]); rw [B_md_count_0]; (try simp (disch := omega) only [Option.bind_some, if_true, if_false, eq_self, not_true_eq_false, not_false_eq_true, am_w_id, if_pos, if_neg, fu_self, fu_ne, Int.toNat_natCast, e]); simp (disch := omega) only [C_md_count_1_9]; (try simp (disch := omega) only [Option.bind_some, if_true, if_false, eq_self, not_true_eq_false, not_false_eq_true, am_w_id, if_pos, if_neg, fu_self, fu_ne, Int.toNat_natCast, e]); rw [B_md_count_116]; (try simp (disch := omega) only [Option.bind_some, if_true, if_false, eq_self, not_true_eq_false, not_false_eq_true, am_w_id, if_pos, if_neg, fu_self, fu_ne, Int.toNat_natCast, m_O, e])), H⟩
  rw [if_neg w9]
  by_cases w10 : w = 10
  · rw [if_pos w10]; subst w10
    exact ⟨S, am_cI_of (by (try dsimp only); rw [en_md_count]; (try simp (disch := omega) only [Option.bind_some, if_true, if_false, eq_self, not_true_eq_false, not_false_eq_true, am_w_id, if_pos, if_neg, fu_self, fu_ne, Int.toNat_natCast, h4]); rw [B_md_count_0]; (try simp (disch := omega) only [Option.bind_some, if_true, if_false, eq_self, not_true_eq_false, not_false_eq_true, am_w_id, if_pos, if_neg, fu_self, fu_ne, Int.toNat_natCast, h4]); simp (disch := omega) only [C_md_count_1_10]; (try simp (disch := omega) only [Option.bind_some, if_true, if_false, eq_self, not_true_eq_false, not_false_eq_true, am_w_id, if_pos, if_neg, fu_self, fu_ne, Int.toNat_natCast, h4]); rw [B_md_count_121]; (try simp (disch := omega) only [Option.bind_some, if_true, if_false, eq_self, not_true_eq_false, not_false_eq_true, am_w_id, if_pos, if_neg, fu_self, fu_ne, Int.toNat_natCast, m_gI_1, m_p_1, h4])), H⟩
  rw [if_neg w10]
  by_cases w11 : w = 11
  · rw [if_pos w11]; subst w11
    obtain ⟨T, e, t1⟩ := md_beginnings (m := m) (g := g) H O (d + 1)
    exact ⟨T, am_cI_of (by (try dsimp only); rw [en_md_count]; (try simp (disch := omega) only [Option.bind_some, if_true, if_false, eq_self, not_true_eq_false, not_false_eq_true, am_w_id, if_pos, if_neg, fu_self, fu_ne, Int.toNat_natCast, e]); rw [B_md_count_0]; (try simp (disch := omega) only [Option.bind_some, if_true, if_false, eq_self, not_true_eq_false, not_false_eq_true, am_w_id, if_pos, if_neg, fu_self, fu_ne, Int.toNat_natCast, e]); simp (disch := omega) only [C_md_count_1_11]; (try simp (disch := omega) only [Option.bind_some, if_true, if_false, eq_self, not_true_eq_false, not_false_eq_true, am_w_id, if_pos, if_neg, fu_self, fu_ne, Int.toNat_natCast, e]); rw [B_md_count_126]; (try simp (disch := omega) only [Option.bind_some, if_true, if_false, eq_self, not_true_eq_false, not_false_eq_true, am_w_id, if_pos, if_neg, fu_self, fu_ne, Int.toNat_natCast, m_O, e])), t1⟩
  rw [if_neg w11]
  exact ⟨S, am_cI_of (by (try dsimp only); rw [en_md_count]; (try simp (disch := omega) only [Option.bind_some, if_true, if_false, eq_self, not_true_eq_false, not_false_eq_true, am_w_id, if_pos, if_neg, fu_self, fu_ne, Int.toNat_natCast]); rw [B_md_count_0]; (try simp (disch := omega) only [Option.bind_some, if_true, if_false, eq_self, not_true_eq_false, not_false_eq_true, am_w_id, if_pos, if_neg, fu_self, fu_ne, Int.toNat_natCast]); simp (disch := omega) only [C_md_count_1_d]; (try simp (disch := omega) only [Option.bind_some, if_true, if_false, eq_self, not_true_eq_false, not_false_eq_true, am_w_id, if_pos, if_neg, fu_self, fu_ne, Int.toNat_natCast]); rw [B_md_count_131]; (try simp (disch := omega) only [Option.bind_some, if_true, if_false, eq_self, not_true_eq_false, not_false_eq_true, am_w_id, if_pos, if_neg, fu_self, fu_ne, Int.toNat_natCast])), H⟩
end MO
