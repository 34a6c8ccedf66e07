/-! the model's calls: the tape, words put and cut, numbers, ranks -/
section MO
variable {m : Nat} {g : am_H} {S : Nat → Nat → Int} {t u : List Int} {ws bs ws' bs' : List wd} {hs : List (List wd × List wd)} {sh : Nat → Option (List wd)}
theorem md_placeOf0 (H : MR S t ws bs hs sh) (O : okS t ws bs hs sh) (T : toldR S u) (hu : wl u) (d : Nat) : am_cI (d + 2) N_md_placeOf [.inr (.inr (some (m))), .inr (.inr (some (m + 2))), .inl (0)] (MH m g S) = some ((ah ws u : Int), MH m g S) := md_placeOf (o := 0) m_row_2 (by decide) H.2.1 O.2.1.1 T hu d
theorem md_isThere0 (H : MR S t ws bs hs sh) (O : okS t ws bs hs sh) (T : toldR S u) (hu : wl u) (d : Nat) : am_cI (d + 2) N_md_isThere [.inr (.inr (some (m))), .inr (.inr (some (m + 2))), .inl (0), .inl ((ah ws u : Int))] (MH m g S) = some (if nu ws u = none then 0 else 1, MH m g S) := md_isThere (o := 0) m_row_2 (by decide) H.2.1 O.2.1.1 T hu d
theorem md_numberOf0 (H : MR S t ws bs hs sh) {w : Nat} {p : wd} (hw : ws[w]? = some p) (d : Nat) : am_cI d N_md_numberOf [.inr (.inr (some (m + 2))), .inl (0), .inl ((w : Int))] (MH m g S) = some (p.2, MH m g S) := md_numberOf (o := 0) m_row_2 (by decide) H.2.1 hw d
theorem md_lengthOf0 (H : MR S t ws bs hs sh) {w : Nat} {p : wd} (hw : ws[w]? = some p) (d : Nat) : am_cI d N_md_lengthOf [.inr (.inr (some (m + 2))), .inl (0), .inl ((w : Int))] (MH m g S) = some ((p.1.length : Int), MH m g S) := md_lengthOf (o := 0) m_row_2 (by decide) H.2.1 hw d
theorem md_letterOf0 (H : MR S t ws bs hs sh) {w i : Nat} {p : wd} (hw : ws[w]? = some p) (hi : i < 10) (d : Nat) : am_cI d N_md_letterOf [.inr (.inr (some (m + 2))), .inl (0), .inl ((w : Int)), .inl ((i : Int))] (MH m g S) = some (p.1.getD i 0, MH m g S) := md_letterOf (o := 0) m_row_2 (by decide) H.2.1 hw hi d
theorem MR_now (H : MR S t ws bs hs sh) {f : Nat → Int} (h1 : ml 2402 f 0 ws') (h2 : ∀ i, 1201 ≤ i → f i = S 2 i) (hb : bs.length ≤ 100) : MR (am_fu S 2 f) t ws' bs hs sh := by
  refine ⟨H.1, ?_, ?_, H.2.2.2.1, H.2.2.2.2⟩
  · rw [fu_self]; exact h1
  · rw [fu_self]; exact ml_cp H.2.2.1 (fun i hi => h2 _ (by omega)) (by omega)
theorem MR_bld (H : MR S t ws bs hs sh) {f : Nat → Int} (h1 : ml 2402 f 1201 bs') (h2 : ∀ i, i < 1201 → f i = S 2 i) (hw : ws.length ≤ 100) : MR (am_fu S 2 f) t ws bs' hs sh := by
  refine ⟨H.1, ?_, ?_, H.2.2.2.1, H.2.2.2.2⟩
  · rw [fu_self]; exact ml_cp H.2.1 (fun i hi => h2 _ (by omega)) (by omega)
  · rw [fu_self]; exact h1
theorem okS_t (O : okS t ws bs hs sh) : okS [] ws bs hs sh := ⟨⟨by simp, fun x hx => by simp at hx⟩, O.2⟩
theorem toldR.fd {S' : Nat → Nat → Int} (T : toldR S u) {l : List Nat} (F : fd l S S') (hl : l.all (fun k => decide (k ≠ 7 ∧ k ≠ 8)) = true) : toldR S' u := by
  have e : ∀ k, k = 7 ∨ k = 8 → S' k = S k := fun k hk => F k (fun h => by
    have := List.all_eq_true.mp hl k h
    simp at this
    omega)
  obtain ⟨a, b, c⟩ := T
  exact ⟨by rw [e 8 (Or.inr rfl)]; exact a, b, by rw [e 7 (Or.inl rfl)]; exact c⟩
theorem mo_isWord (H : MR S t ws bs hs sh) (d : Nat) : ∃ S', am_cI (d + 2) N_md_isWord [.inr (.inr (some (m)))] (MH m g S) = some (if (1 ≤ t.length ∧ t.length ≤ 10) ∧ allL t then 1 else 0, MH m g S') ∧ toldR S' (lw t) ∧ MR S' [] ws bs hs sh := by
  obtain ⟨S', e, h1, h2, h3⟩ := md_isWord (m := m) (g := g) H.1 d
  exact ⟨S', e, h1, H.frt h3 (by decide) h2⟩
theorem mo_isLetters (H : MR S t ws bs hs sh) (lo hi : Int) (d : Nat) : ∃ S', am_cI (d + 1) N_md_isLetters [.inr (.inr (some (m))), .inl (lo), .inl (hi)] (MH m g S) = some (if (lo ≤ t.length ∧ t.length ≤ hi) ∧ allL t then 1 else 0, MH m g S') ∧ toldR S' (lw t) ∧ MR S' [] ws bs hs sh := by
  obtain ⟨S', e, h1, h2, h3⟩ := md_isLetters (m := m) (g := g) H.1 lo hi d
  exact ⟨S', e, h1, H.frt h3 (by decide) h2⟩
theorem mo_feed (H : MR S t ws bs hs sh) {a b c e f : Int} (ha : am_inI a) (hb : am_inI b) (hc : am_inI c) (he : am_inI e) (hf : am_inI f) (d : Nat) : ∃ S', am_cI d N_md_feed [.inr (.inr (some (m))), .inl (a), .inl (b), .inl (c), .inl (e), .inl (f)] (MH m g S) = some ((sp_feed a b c e f (t, ws, bs, hs, sh)).1, MH m g S') ∧ MS S' (sp_feed a b c e f (t, ws, bs, hs, sh)).2 := by
  unfold sp_feed
  dsimp only
  by_cases c1 : t.length ≤ 380
  · rw [if_pos c1]
    obtain ⟨S', e1, h1, h2⟩ := md_feed (m := m) (g := g) H.1 ha hb hc he hf d c1
    exact ⟨S', e1, H.frt h2 (by decide) h1⟩
  · rw [if_neg c1]
    exact ⟨S, md_feed0 H.1 a b c e f d (by omega), H⟩
theorem mo_end (H : MR S t ws bs hs sh) (n : Int) (d : Nat) : ∃ S', am_cI (d + 1) N_md_end [.inr (.inr (some (m))), .inl (n)] (MH m g S) = some ((sp_end n (t, ws, bs, hs, sh)).1, MH m g S') ∧ MS S' (sp_end n (t, ws, bs, hs, sh)).2 := by
  have e := md_end (m := m) (g := g) H.1 n d
  unfold sp_end
  dsimp only
  by_cases c : 0 ≤ n ∧ n ≤ t.length
  · rw [if_pos c] at e ⊢
    exact ⟨_, e, H.frt (l := [1]) (fd.rf.up (by decide) _) (by decide) (taR_end H.1 c)⟩
  · rw [if_neg c] at e ⊢
    exact ⟨S, e, H⟩
theorem mo_octet (H : MR S t ws bs hs sh) (k : Int) (d : Nat) : ∃ S', am_cI (d + 1) N_md_octet [.inr (.inr (some (m))), .inl (k)] (MH m g S) = some ((sp_octet k (t, ws, bs, hs, sh)).1, MH m g S') ∧ MS S' (sp_octet k (t, ws, bs, hs, sh)).2 := ⟨S, md_octet H.1 k d, H⟩
theorem mo_put (H : MR S t ws bs hs sh) (O : okS t ws bs hs sh) (x : Int) (d : Nat) : ∃ S', am_cI (d + 6) N_md_put [.inr (.inr (some (m))), .inl (x)] (MH m g S) = some ((sp_put x (t, ws, bs, hs, sh)).1, MH m g S') ∧ MS S' (sp_put x (t, ws, bs, hs, sh)).2 := by
  obtain ⟨S1, e1, T1, H1⟩ := mo_isWord (m := m) (g := g) H (d + 3)
  have O1 := okS_t O
  have hl := O.2.1.2.2
  have hb := O.2.2.1.2.2
  have H1l := H1.2.1.1
  unfold sp_put
  dsimp only [noT, act, MS]
  by_cases c1 : isW t
  · have c1' := c1
    unfold isW at c1'
    rw [if_pos c1'] at e1
    by_cases c2 : 0 ≤ x ∧ x ≤ 999999
    · rw [if_pos ⟨c1, c2⟩]
      have i1 : ∀ d h, am_cI d N_md_isIn [.inr (.inl (x)), .inr (.inl (0)), .inr (.inl (999999))] h = some (1, h) := fun d h => by rw [md_isIn, if_pos c2]
      have hw := isW_wl c1
      have hl10 : (lw t).length ≤ 10 := by rw [lw_len]; exact c1.1.2
      have a1 := fun d => md_placeOf0 (m := m) (g := g) H1 O1 T1 hw d
      have a2 := fun d => md_isThere0 (m := m) (g := g) H1 O1 T1 hw d
      cases c3 : nu ws (lw t) with
      | none =>
        rw [if_neg (by simp)]
        simp only [c3, if_true] at a2
        by_cases c4 : ws.length = 100
        · rw [if_pos ⟨rfl, c4⟩]
          refine ⟨S1, am_cI_of ?_, H1⟩
          have c4' : S1 2 0 = 100 := by rw [H1l, c4]; rfl
          (try dsimp only); rw [en_md_put]; (try simp (disch := omega) only [Option.bind_some, if_true, if_false, eq_self, not_true_eq_false, not_false_eq_true, am_w_id, if_pos, if_neg, fu_self, fu_ne, Int.toNat_natCast, e1, i1, a1, a2, c4', Int.reduceToNat]); rw [B_md_put_0]; (try simp (disch := omega) only [Option.bind_some, if_true, if_false, eq_self, not_true_eq_false, not_false_eq_true, am_w_id, if_pos, if_neg, fu_self, fu_ne, Int.toNat_natCast, m_O, e1, i1, a1, a2, c4', Int.reduceToNat]); rw [B_md_put_7]; (try simp (disch := omega) only [Option.bind_some, if_true, if_false, eq_self, not_true_eq_false, not_false_eq_true, am_w_id, if_pos, if_neg, fu_self, fu_ne, Int.toNat_natCast, e1, i1, a1, a2, c4', Int.reduceToNat]); rw [B_md_put_21]; (try simp (disch := omega) only [Option.bind_some, if_true, if_false, eq_self, not_true_eq_false, not_false_eq_true, am_w_id, if_pos, if_neg, fu_self, fu_ne, Int.toNat_natCast, m_gR_2, m_l_2, m_s_2, m_O, e1, i1, a1, a2, c4', Int.reduceToNat]); rw [B_md_put_46]; (try simp (disch := omega) only [Option.bind_some, if_true, if_false, eq_self, not_true_eq_false, not_false_eq_true, am_w_id, if_pos, if_neg, fu_self, fu_ne, Int.toNat_natCast, m_gR_2, m_l_2, m_s_2, e1, i1, a1, a2, c4', Int.reduceToNat]); rw [B_md_put_57]; (try simp (disch := omega) only [Option.bind_some, if_true, if_false, eq_self, not_true_eq_false, not_false_eq_true, am_w_id, if_pos, if_neg, fu_self, fu_ne, Int.toNat_natCast, e1, i1, a1, a2, c4', Int.reduceToNat])
        · rw [if_neg (fun h => c4 h.2)]
          obtain ⟨S2, e2, H2, F2⟩ := md_keepsAct (m := m) (g := g) H1 O1 (d + 5)
          have T2 := T1.fd F2 (by decide)
          obtain ⟨f, e3, h3, h4⟩ := md_puts (m := m) (g := g) (o := 0) (m_row_2 (m := m)) (by decide) H2.2.1 O.2.1.1 T2 hw hl10 (by decide) (by decide) (by omega) (d + 2) x
          have e3' : am_cV (d + 5) N_md_puts [.inr (.inr (some (m))), .inr (.inr (some (m + 2))), .inl (0), .inl (x)] (MH m g S2) = some (MH m g (am_fu S2 2 f)) := e3
          have hpo := put_ok O.2.1 (wk_of c1 c2) (fun _ => by omega)
          have hpl := hpo.2.2
          have H3 := MR_now H2 h3 (fun i hi => h4 i (by omega)) hb
          obtain ⟨S4, e4, s4, F4⟩ := md_statesOf (m := m) (g := g) hpo H3.2.1 d 0
          refine ⟨S4, am_cI_of ?_, H3.frd F4 (by decide)⟩
          have c4' : ¬ S1 2 0 = 100 := by rw [H1l]; omega
          (try dsimp only); rw [en_md_put]; (try simp (disch := omega) only [Option.bind_some, if_true, if_false, eq_self, not_true_eq_false, not_false_eq_true, am_w_id, if_pos, if_neg, fu_self, fu_ne, Int.toNat_natCast, e1, i1, a1, a2, c4', e2, e3', e4, Int.reduceToNat]); rw [B_md_put_0]; (try simp (disch := omega) only [Option.bind_some, if_true, if_false, eq_self, not_true_eq_false, not_false_eq_true, am_w_id, if_pos, if_neg, fu_self, fu_ne, Int.toNat_natCast, m_O, e1, i1, a1, a2, c4', e2, e3', e4, Int.reduceToNat]); rw [B_md_put_7]; (try simp (disch := omega) only [Option.bind_some, if_true, if_false, eq_self, not_true_eq_false, not_false_eq_true, am_w_id, if_pos, if_neg, fu_self, fu_ne, Int.toNat_natCast, e1, i1, a1, a2, c4', e2, e3', e4, Int.reduceToNat]); rw [B_md_put_21]; (try simp (disch := omega) only [Option.bind_some, if_true, if_false, eq_self, not_true_eq_false, not_false_eq_true, am_w_id, if_pos, if_neg, fu_self, fu_ne, Int.toNat_natCast, m_gR_2, m_l_2, m_s_2, m_O, e1, i1, a1, a2, c4', e2, e3', e4, Int.reduceToNat]); rw [B_md_put_46]; (try simp (disch := omega) only [Option.bind_some, if_true, if_false, eq_self, not_true_eq_false, not_false_eq_true, am_w_id, if_pos, if_neg, fu_self, fu_ne, Int.toNat_natCast, m_gR_2, m_l_2, m_s_2, e1, i1, a1, a2, c4', e2, e3', e4, Int.reduceToNat]); rw [B_md_put_59]; (try simp (disch := omega) only [Option.bind_some, if_true, if_false, eq_self, not_true_eq_false, not_false_eq_true, am_w_id, if_pos, if_neg, fu_self, fu_ne, Int.toNat_natCast, e1, i1, a1, a2, c4', e2, e3', e4, Int.reduceToNat]); rw [B_md_put_79]; (try simp (disch := omega) only [Option.bind_some, if_true, if_false, eq_self, not_true_eq_false, not_false_eq_true, am_w_id, if_pos, if_neg, fu_self, fu_ne, Int.toNat_natCast, m_gR_2, m_l_2, m_s_2, m_O, e1, i1, a1, a2, c4', e2, e3', e4, Int.reduceToNat])
      | some y =>
        simp only [c3, Option.some.injEq, reduceCtorEq, if_false] at a2
        have hget := nu_some c3
        have a3 := fun d => md_numberOf0 (m := m) (g := g) H1 hget d
        by_cases c4 : y = x
        · rw [if_pos (by rw [c4])]
          refine ⟨S1, am_cI_of ?_, H1⟩
          subst c4
          (try dsimp only); rw [en_md_put]; (try simp (disch := omega) only [Option.bind_some, if_true, if_false, eq_self, not_true_eq_false, not_false_eq_true, am_w_id, if_pos, if_neg, fu_self, fu_ne, Int.toNat_natCast, e1, i1, a1, a2, a3, show ¬ (1 : Int) = 0 by decide]); rw [B_md_put_0]; (try simp (disch := omega) only [Option.bind_some, if_true, if_false, eq_self, not_true_eq_false, not_false_eq_true, am_w_id, if_pos, if_neg, fu_self, fu_ne, Int.toNat_natCast, m_O, e1, i1, a1, a2, a3, show ¬ (1 : Int) = 0 by decide]); rw [B_md_put_7]; (try simp (disch := omega) only [Option.bind_some, if_true, if_false, eq_self, not_true_eq_false, not_false_eq_true, am_w_id, if_pos, if_neg, fu_self, fu_ne, Int.toNat_natCast, e1, i1, a1, a2, a3, show ¬ (1 : Int) = 0 by decide]); rw [B_md_put_21]; (try simp (disch := omega) only [Option.bind_some, if_true, if_false, eq_self, not_true_eq_false, not_false_eq_true, am_w_id, if_pos, if_neg, fu_self, fu_ne, Int.toNat_natCast, m_gR_2, m_l_2, m_s_2, m_O, e1, i1, a1, a2, a3, show ¬ (1 : Int) = 0 by decide]); rw [B_md_put_59]; (try simp (disch := omega) only [Option.bind_some, if_true, if_false, eq_self, not_true_eq_false, not_false_eq_true, am_w_id, if_pos, if_neg, fu_self, fu_ne, Int.toNat_natCast, e1, i1, a1, a2, a3, show ¬ (1 : Int) = 0 by decide]); rw [B_md_put_63]; (try simp (disch := omega) only [Option.bind_some, if_true, if_false, eq_self, not_true_eq_false, not_false_eq_true, am_w_id, if_pos, if_neg, fu_self, fu_ne, Int.toNat_natCast, m_gR_2, m_l_2, m_s_2, e1, i1, a1, a2, a3, show ¬ (1 : Int) = 0 by decide]); rw [B_md_put_76]; (try simp (disch := omega) only [Option.bind_some, if_true, if_false, eq_self, not_true_eq_false, not_false_eq_true, am_w_id, if_pos, if_neg, fu_self, fu_ne, Int.toNat_natCast, e1, i1, a1, a2, a3, show ¬ (1 : Int) = 0 by decide])
        · rw [if_neg (fun h => c4 (by injection h)), if_neg (fun h => by simp at h)]
          obtain ⟨S2, e2, H2, F2⟩ := md_keepsAct (m := m) (g := g) H1 O1 (d + 5)
          have T2 := T1.fd F2 (by decide)
          obtain ⟨f, e3, h3, h4⟩ := md_puts (m := m) (g := g) (o := 0) (m_row_2 (m := m)) (by decide) H2.2.1 O.2.1.1 T2 hw hl10 (by decide) (by decide) (by omega) (d + 2) x
          have e3' : am_cV (d + 5) N_md_puts [.inr (.inr (some (m))), .inr (.inr (some (m + 2))), .inl (0), .inl (x)] (MH m g S2) = some (MH m g (am_fu S2 2 f)) := e3
          have hpo := put_ok O.2.1 (wk_of c1 c2) (fun g => by rw [c3] at g; simp at g)
          have hpl := hpo.2.2
          have H3 := MR_now H2 h3 (fun i hi => h4 i (by omega)) hb
          obtain ⟨S4, e4, s4, F4⟩ := md_statesOf (m := m) (g := g) hpo H3.2.1 d 0
          refine ⟨S4, am_cI_of ?_, H3.frd F4 (by decide)⟩
          (try dsimp only); rw [en_md_put]; (try simp (disch := omega) only [Option.bind_some, if_true, if_false, eq_self, not_true_eq_false, not_false_eq_true, am_w_id, if_pos, if_neg, fu_self, fu_ne, Int.toNat_natCast, e1, i1, a1, a2, a3, c4, e2, e3', e4, show ¬ (1 : Int) = 0 by decide]); rw [B_md_put_0]; (try simp (disch := omega) only [Option.bind_some, if_true, if_false, eq_self, not_true_eq_false, not_false_eq_true, am_w_id, if_pos, if_neg, fu_self, fu_ne, Int.toNat_natCast, m_O, e1, i1, a1, a2, a3, c4, e2, e3', e4, show ¬ (1 : Int) = 0 by decide]); rw [B_md_put_7]; (try simp (disch := omega) only [Option.bind_some, if_true, if_false, eq_self, not_true_eq_false, not_false_eq_true, am_w_id, if_pos, if_neg, fu_self, fu_ne, Int.toNat_natCast, e1, i1, a1, a2, a3, c4, e2, e3', e4, show ¬ (1 : Int) = 0 by decide]); rw [B_md_put_21]; (try simp (disch := omega) only [Option.bind_some, if_true, if_false, eq_self, not_true_eq_false, not_false_eq_true, am_w_id, if_pos, if_neg, fu_self, fu_ne, Int.toNat_natCast, m_gR_2, m_l_2, m_s_2, m_O, e1, i1, a1, a2, a3, c4, e2, e3', e4, show ¬ (1 : Int) = 0 by decide]); rw [B_md_put_59]; (try simp (disch := omega) only [Option.bind_some, if_true, if_false, eq_self, not_true_eq_false, not_false_eq_true, am_w_id, if_pos, if_neg, fu_self, fu_ne, Int.toNat_natCast, e1, i1, a1, a2, a3, c4, e2, e3', e4, show ¬ (1 : Int) = 0 by decide]); rw [B_md_put_63]; (try simp (disch := omega) only [Option.bind_some, if_true, if_false, eq_self, not_true_eq_false, not_false_eq_true, am_w_id, if_pos, if_neg, fu_self, fu_ne, Int.toNat_natCast, m_gR_2, m_l_2, m_s_2, e1, i1, a1, a2, a3, c4, e2, e3', e4, show ¬ (1 : Int) = 0 by decide]); rw [B_md_put_79]; (try simp (disch := omega) only [Option.bind_some, if_true, if_false, eq_self, not_true_eq_false, not_false_eq_true, am_w_id, if_pos, if_neg, fu_self, fu_ne, Int.toNat_natCast, m_gR_2, m_l_2, m_s_2, m_O, e1, i1, a1, a2, a3, c4, e2, e3', e4, show ¬ (1 : Int) = 0 by decide])
    · rw [if_neg (fun h => c2 h.2)]
      have i1 : ∀ d h, am_cI d N_md_isIn [.inr (.inl (x)), .inr (.inl (0)), .inr (.inl (999999))] h = some (0, h) := fun d h => by rw [md_isIn, if_neg c2]
      refine ⟨S1, am_cI_of ?_, H1⟩
      (try dsimp only); rw [en_md_put]; (try simp (disch := omega) only [Option.bind_some, if_true, if_false, eq_self, not_true_eq_false, not_false_eq_true, am_w_id, if_pos, if_neg, fu_self, fu_ne, Int.toNat_natCast, e1, i1, show ¬ (1 : Int) = 0 by decide]); rw [B_md_put_0]; (try simp (disch := omega) only [Option.bind_some, if_true, if_false, eq_self, not_true_eq_false, not_false_eq_true, am_w_id, if_pos, if_neg, fu_self, fu_ne, Int.toNat_natCast, m_O, e1, i1, show ¬ (1 : Int) = 0 by decide]); rw [B_md_put_7]; (try simp (disch := omega) only [Option.bind_some, if_true, if_false, eq_self, not_true_eq_false, not_false_eq_true, am_w_id, if_pos, if_neg, fu_self, fu_ne, Int.toNat_natCast, e1, i1, show ¬ (1 : Int) = 0 by decide]); rw [B_md_put_19]; (try simp (disch := omega) only [Option.bind_some, if_true, if_false, eq_self, not_true_eq_false, not_false_eq_true, am_w_id, if_pos, if_neg, fu_self, fu_ne, Int.toNat_natCast, e1, i1, show ¬ (1 : Int) = 0 by decide])
  · rw [if_neg (fun h => c1 h.1)]
    unfold isW at c1
    rw [if_neg c1] at e1
    refine ⟨S1, am_cI_of ?_, H1⟩
    (try dsimp only); rw [en_md_put]; (try simp (disch := omega) only [Option.bind_some, if_true, if_false, eq_self, not_true_eq_false, not_false_eq_true, am_w_id, if_pos, if_neg, fu_self, fu_ne, Int.toNat_natCast, e1]); rw [B_md_put_0]; (try simp (disch := omega) only [Option.bind_some, if_true, if_false, eq_self, not_true_eq_false, not_false_eq_true, am_w_id, if_pos, if_neg, fu_self, fu_ne, Int.toNat_natCast, m_O, e1]); rw [B_md_put_19]; (try simp (disch := omega) only [Option.bind_some, if_true, if_false, eq_self, not_true_eq_false, not_false_eq_true, am_w_id, if_pos, if_neg, fu_self, fu_ne, Int.toNat_natCast, e1])
theorem mo_cut (H : MR S t ws bs hs sh) (O : okS t ws bs hs sh) (d : Nat) : ∃ S', am_cI (d + 6) N_md_cut [.inr (.inr (some (m)))] (MH m g S) = some ((sp_cut (t, ws, bs, hs, sh)).1, MH m g S') ∧ MS S' (sp_cut (t, ws, bs, hs, sh)).2 := by
  obtain ⟨S1, e1, T1, H1⟩ := mo_isWord (m := m) (g := g) H (d + 3)
  have O1 := okS_t O
  have hl := O.2.1.2.2
  have hb := O.2.2.1.2.2
  unfold sp_cut
  dsimp only [noT, act, MS]
  by_cases c1 : isW t
  · have c1' := c1
    unfold isW at c1'
    rw [if_pos c1'] at e1
    rw [if_pos c1]
    have hw := isW_wl c1
    have a1 := fun d => md_placeOf0 (m := m) (g := g) H1 O1 T1 hw d
    have a2 := fun d => md_isThere0 (m := m) (g := g) H1 O1 T1 hw d
    by_cases c3 : nu ws (lw t) = none
    · rw [if_pos c3]
      simp only [c3, if_true] at a2
      refine ⟨S1, am_cI_of ?_, H1⟩
      simp (disch := omega) only [en_md_cut, B_md_cut_0, B_md_cut_7, B_md_cut_9, B_md_cut_32, B_md_cut_34, Option.bind_some, if_true, if_false, eq_self, not_true_eq_false, not_false_eq_true, am_w_id, if_pos, if_neg, fu_self, fu_ne, Int.toNat_natCast, m_O, m_gR_2, m_l_2, m_s_2, e1, a1, a2, show ¬ (1 : Int) = 0 by decide]
    · rw [if_neg c3]
      simp only [c3, if_false] at a2
      have hx : ah ws (lw t) < ws.length := by
        obtain ⟨y, hy⟩ := Option.ne_none_iff_exists'.mp c3
        exact (List.getElem?_eq_some_iff.mp (nu_some hy)).1
      obtain ⟨S2, e2, H2, F2⟩ := md_keepsAct (m := m) (g := g) H1 O1 (d + 5)
      obtain ⟨f, e3, h3, h4⟩ := md_takes (m := m) (g := g) (o := 0) (m_row_2 (m := m)) (by decide) H2.2.1 hx (d + 5)
      have e3' : am_cV (d + 5) N_md_takes [.inr (.inr (some (m))), .inr (.inr (some (m + 2))), .inl (0), .inl ((ah ws (lw t) : Int))] (MH m g S2) = some (MH m g (am_fu S2 2 f)) := e3
      have hpo := er_ok O.2.1 (ah ws (lw t))
      have H3 := MR_now H2 h3 (fun i hi => h4 i (by omega)) hb
      obtain ⟨S4, e4, s4, F4⟩ := md_statesOf (m := m) (g := g) hpo H3.2.1 d 0
      refine ⟨S4, am_cI_of ?_, H3.frd F4 (by decide)⟩
      simp (disch := omega) only [en_md_cut, B_md_cut_0, B_md_cut_7, B_md_cut_9, B_md_cut_32, B_md_cut_34, Option.bind_some, if_true, if_false, eq_self, not_true_eq_false, not_false_eq_true, am_w_id, if_pos, if_neg, fu_self, fu_ne, Int.toNat_natCast, m_O, m_gR_2, m_l_2, m_s_2, e1, a1, a2, e2, e3', e4, show ¬ (1 : Int) = 0 by decide]
  · rw [if_neg c1]
    unfold isW at c1
    rw [if_neg c1] at e1
    refine ⟨S1, am_cI_of ?_, H1⟩
    simp (disch := omega) only [en_md_cut, B_md_cut_0, B_md_cut_7, B_md_cut_9, B_md_cut_32, B_md_cut_34, Option.bind_some, if_true, if_false, eq_self, not_true_eq_false, not_false_eq_true, am_w_id, if_pos, if_neg, fu_self, fu_ne, Int.toNat_natCast, m_O, m_gR_2, m_l_2, m_s_2, e1]
theorem mo_number (H : MR S t ws bs hs sh) (O : okS t ws bs hs sh) (d : Nat) : ∃ S', am_cI (d + 3) N_md_number [.inr (.inr (some (m)))] (MH m g S) = some ((sp_number (t, ws, bs, hs, sh)).1, MH m g S') ∧ MS S' (sp_number (t, ws, bs, hs, sh)).2 := by
  obtain ⟨S1, e1, T1, H1⟩ := mo_isWord (m := m) (g := g) H d
  have O1 := okS_t O
  unfold sp_number
  dsimp only [noT, MS]
  by_cases c1 : isW t
  · have c1' := c1
    unfold isW at c1'
    rw [if_pos c1'] at e1
    rw [if_pos c1]
    have hw := isW_wl c1
    have a1 := fun d => md_placeOf0 (m := m) (g := g) H1 O1 T1 hw d
    have a2 := fun d => md_isThere0 (m := m) (g := g) H1 O1 T1 hw d
    refine ⟨S1, am_cI_of ?_, H1⟩
    cases c3 : nu ws (lw t) with
    | none =>
      simp only [c3, if_true] at a2
      rw [Option.getD_none]
      simp (disch := omega) only [en_md_number, B_md_number_0, B_md_number_7, B_md_number_9, B_md_number_32, B_md_number_44, B_md_number_46, Option.bind_some, if_true, if_false, eq_self, not_true_eq_false, not_false_eq_true, am_w_id, if_pos, if_neg, fu_self, fu_ne, Int.toNat_natCast, m_O, m_gR_2, m_l_2, m_s_2, e1, a1, a2, show ¬ (1 : Int) = 0 by decide]
    | some y =>
      simp only [c3, reduceCtorEq, if_false] at a2
      have a3 := fun d => md_numberOf0 (m := m) (g := g) H1 (nu_some c3) d
      rw [Option.getD_some]
      simp (disch := omega) only [en_md_number, B_md_number_0, B_md_number_7, B_md_number_9, B_md_number_32, B_md_number_44, B_md_number_46, Option.bind_some, if_true, if_false, eq_self, not_true_eq_false, not_false_eq_true, am_w_id, if_pos, if_neg, fu_self, fu_ne, Int.toNat_natCast, m_O, m_gR_2, m_l_2, m_s_2, e1, a1, a2, a3, show ¬ (1 : Int) = 0 by decide]
  · rw [if_neg c1]
    unfold isW at c1
    rw [if_neg c1] at e1
    refine ⟨S1, am_cI_of ?_, H1⟩
    simp (disch := omega) only [en_md_number, B_md_number_0, B_md_number_7, B_md_number_9, B_md_number_32, B_md_number_44, B_md_number_46, Option.bind_some, if_true, if_false, eq_self, not_true_eq_false, not_false_eq_true, am_w_id, if_pos, if_neg, fu_self, fu_ne, Int.toNat_natCast, m_O, m_gR_2, m_l_2, m_s_2, e1]
theorem mo_rank (H : MR S t ws bs hs sh) (O : okS t ws bs hs sh) (d : Nat) : ∃ S', am_cI (d + 3) N_md_rank [.inr (.inr (some (m)))] (MH m g S) = some ((sp_rank (t, ws, bs, hs, sh)).1, MH m g S') ∧ MS S' (sp_rank (t, ws, bs, hs, sh)).2 := by
  obtain ⟨S1, e1, T1, H1⟩ := mo_isLetters (m := m) (g := g) H 0 60 (d + 1)
  have O1 := okS_t O
  unfold sp_rank
  dsimp only [noT, MS]
  by_cases c : t.length ≤ 60 ∧ allL t
  · rw [if_pos ⟨⟨by omega, by omega⟩, c.2⟩] at e1
    rw [if_pos c]
    have a1 := fun d => md_placeOf0 (m := m) (g := g) H1 O1 T1 (lw_wl c.2) d
    refine ⟨S1, am_cI_of ?_, H1⟩
    simp (disch := omega) only [en_md_rank, B_md_rank_0, B_md_rank_10, B_md_rank_22, B_md_rank_23, Option.bind_some, if_true, if_false, eq_self, not_true_eq_false, not_false_eq_true, am_w_id, if_pos, if_neg, fu_self, fu_ne, Int.toNat_natCast, m_O, m_gR_2, m_l_2, m_s_2, e1, a1, show ¬ (1 : Int) = 0 by decide]
  · rw [if_neg (fun h => c ⟨by omega, h.2⟩)] at e1
    rw [if_neg c]
    refine ⟨S1, am_cI_of ?_, H1⟩
    simp (disch := omega) only [en_md_rank, B_md_rank_0, B_md_rank_10, B_md_rank_22, B_md_rank_23, Option.bind_some, if_true, if_false, eq_self, not_true_eq_false, not_false_eq_true, am_w_id, if_pos, if_neg, fu_self, fu_ne, Int.toNat_natCast, m_O, m_gR_2, m_l_2, m_s_2, e1]
theorem md_isRank (H : MR S t ws bs hs sh) (r : Int) (d : Nat) : am_cI d N_md_isRank [.inr (.inr (some (m))), .inl (r)] (MH m g S) = some (if 0 ≤ r ∧ r < ws.length then 1 else 0, MH m g S) := by
  have h1 := H.2.1.1
  apply am_cI_of
  by_cases c1 : r < 0
  · rw [if_neg (by omega)]
    simp (disch := omega) only [en_md_isRank, B_md_isRank_0, B_md_isRank_4, B_md_isRank_14, B_md_isRank_18, B_md_isRank_19, Option.bind_some, if_true, if_false, eq_self, not_true_eq_false, not_false_eq_true, am_w_id, if_pos, if_neg, fu_self, fu_ne, Int.toNat_natCast, m_gR_2, m_l_2, m_s_2, h1, Int.reduceToNat]
  · by_cases c2 : r < ws.length
    · rw [if_pos ⟨by omega, c2⟩]
      simp (disch := omega) only [en_md_isRank, B_md_isRank_0, B_md_isRank_4, B_md_isRank_14, B_md_isRank_18, B_md_isRank_19, Option.bind_some, if_true, if_false, eq_self, not_true_eq_false, not_false_eq_true, am_w_id, if_pos, if_neg, fu_self, fu_ne, Int.toNat_natCast, m_gR_2, m_l_2, m_s_2, h1, Int.reduceToNat]
    · rw [if_neg (by omega)]
      simp (disch := omega) only [en_md_isRank, B_md_isRank_0, B_md_isRank_4, B_md_isRank_14, B_md_isRank_18, B_md_isRank_19, Option.bind_some, if_true, if_false, eq_self, not_true_eq_false, not_false_eq_true, am_w_id, if_pos, if_neg, fu_self, fu_ne, Int.toNat_natCast, m_gR_2, m_l_2, m_s_2, h1, Int.reduceToNat]
theorem mo_word (H : MR S t ws bs hs sh) (O : okS t ws bs hs sh) (r i : Int) (d : Nat) : ∃ S', am_cI (d + 1) N_md_word [.inr (.inr (some (m))), .inl (r), .inl (i)] (MH m g S) = some ((sp_word r i (t, ws, bs, hs, sh)).1, MH m g S') ∧ MS S' (sp_word r i (t, ws, bs, hs, sh)).2 := by
  have a0 := fun d => md_isRank (m := m) (g := g) H r d
  unfold sp_word
  dsimp only [MS]
  by_cases c : 0 ≤ r ∧ r < ws.length
  · simp only [if_pos c] at a0 ⊢
    obtain ⟨k, rfl⟩ := Int.eq_ofNat_of_zero_le c.1
    have hk : k < ws.length := by omega
    have hw : wat ws (k : Int) = ws[k] := by unfold wat; rw [Int.toNat_natCast, List.getD_eq_getElem?_getD, List.getElem?_eq_getElem hk]; rfl
    rw [hw]
    have hget : ws[k]? = some ws[k] := List.getElem?_eq_getElem hk
    generalize ws[k] = p at *
    have hp := (ok_get O.2.1 hget).2.2.1
    have a1 := fun d => md_lengthOf0 (m := m) (g := g) H hget d
    refine ⟨S, am_cI_of ?_, H⟩
    by_cases c2 : i = -1
    · rw [if_pos c2]
      simp (disch := omega) only [en_md_word, B_md_word_0, B_md_word_8, B_md_word_10, B_md_word_25, B_md_word_29, B_md_word_42, B_md_word_55, B_md_word_56, Option.bind_some, if_true, if_false, eq_self, not_true_eq_false, not_false_eq_true, am_w_id, if_pos, if_neg, fu_self, fu_ne, Int.toNat_natCast, m_O, m_gR_2, m_l_2, m_s_2, a0, a1, c2, show ¬ (1 : Int) = 0 by decide]
    · rw [if_neg c2]
      by_cases c3 : 0 ≤ i ∧ i < (p.1.length : Int)
      · rw [if_pos c3]
        obtain ⟨j, rfl⟩ := Int.eq_ofNat_of_zero_le c3.1
        have a2 := fun d => md_letterOf0 (m := m) (g := g) H hget (show j < 10 by omega) d
        simp (disch := omega) only [en_md_word, B_md_word_0, B_md_word_8, B_md_word_10, B_md_word_25, B_md_word_29, B_md_word_42, B_md_word_55, B_md_word_56, Option.bind_some, if_true, if_false, eq_self, not_true_eq_false, not_false_eq_true, am_w_id, if_pos, if_neg, fu_self, fu_ne, Int.toNat_natCast, m_O, m_gR_2, m_l_2, m_s_2, a0, a1, c2, a2, md_isIn, show ¬ (1 : Int) = 0 by decide]
      · rw [if_neg c3]
        simp (disch := omega) only [en_md_word, B_md_word_0, B_md_word_8, B_md_word_10, B_md_word_25, B_md_word_29, B_md_word_42, B_md_word_55, B_md_word_56, Option.bind_some, if_true, if_false, eq_self, not_true_eq_false, not_false_eq_true, am_w_id, if_pos, if_neg, fu_self, fu_ne, Int.toNat_natCast, m_O, m_gR_2, m_l_2, m_s_2, a0, a1, c2, md_isIn, show ¬ (1 : Int) = 0 by decide]
  · simp only [if_neg c] at a0 ⊢
    refine ⟨S, am_cI_of ?_, H⟩
    simp (disch := omega) only [en_md_word, B_md_word_0, B_md_word_8, B_md_word_10, B_md_word_25, B_md_word_29, B_md_word_42, B_md_word_55, B_md_word_56, Option.bind_some, if_true, if_false, eq_self, not_true_eq_false, not_false_eq_true, am_w_id, if_pos, if_neg, fu_self, fu_ne, Int.toNat_natCast, m_O, m_gR_2, m_l_2, m_s_2, a0]
theorem mo_value (H : MR S t ws bs hs sh) (r : Int) (d : Nat) : ∃ S', am_cI (d + 1) N_md_value [.inr (.inr (some (m))), .inl (r)] (MH m g S) = some ((sp_value r (t, ws, bs, hs, sh)).1, MH m g S') ∧ MS S' (sp_value r (t, ws, bs, hs, sh)).2 := by
  have a0 := fun d => md_isRank (m := m) (g := g) H r d
  unfold sp_value
  dsimp only [MS]
  by_cases c : 0 ≤ r ∧ r < ws.length
  · simp only [if_pos c] at a0 ⊢
    obtain ⟨k, rfl⟩ := Int.eq_ofNat_of_zero_le c.1
    have hk : k < ws.length := by omega
    have hw : wat ws (k : Int) = ws[k] := by unfold wat; rw [Int.toNat_natCast, List.getD_eq_getElem?_getD, List.getElem?_eq_getElem hk]; rfl
    rw [hw]
    have a1 := fun d => md_numberOf0 (m := m) (g := g) H (List.getElem?_eq_getElem hk) d
    refine ⟨S, am_cI_of ?_, H⟩
    simp (disch := omega) only [en_md_value, B_md_value_0, B_md_value_8, B_md_value_20, B_md_value_21, Option.bind_some, if_true, if_false, eq_self, not_true_eq_false, not_false_eq_true, am_w_id, if_pos, if_neg, fu_self, fu_ne, Int.toNat_natCast, m_O, m_gR_2, m_l_2, m_s_2, a0, a1, show ¬ (1 : Int) = 0 by decide]
  · simp only [if_neg c] at a0 ⊢
    refine ⟨S, am_cI_of ?_, H⟩
    simp (disch := omega) only [en_md_value, B_md_value_0, B_md_value_8, B_md_value_20, B_md_value_21, Option.bind_some, if_true, if_false, eq_self, not_true_eq_false, not_false_eq_true, am_w_id, if_pos, if_neg, fu_self, fu_ne, Int.toNat_natCast, m_O, m_gR_2, m_l_2, m_s_2, a0]
theorem mo_first (H : MR S t ws bs hs sh) (O : okS t ws bs hs sh) (x : Int) (d : Nat) : ∃ S', am_cI (d + 1) N_md_first [.inr (.inr (some (m))), .inl (x)] (MH m g S) = some ((sp_first x (t, ws, bs, hs, sh)).1, MH m g S') ∧ MS S' (sp_first x (t, ws, bs, hs, sh)).2 := by
  have h1 := H.2.1.1
  have hl := O.2.1.2.2
  refine ⟨S, am_cI_of ?_, ?_⟩
  · unfold sp_first
    dsimp only
    by_cases c : 0 ≤ x ∧ x ≤ 999999
    · rw [if_pos c]
      have start : am_call (d + 1) N_md_first [.inr (.inr (some (m))), .inl (x)] (MH m g S) = EV (d + 1) N_md_first T_md_first_16 [.inr (.inr (some (m))), .inl (x), .inl (((0 : Nat) : Int))] [] (MH m g S) := by
        simp (disch := omega) only [en_md_first, B_md_first_0, B_md_first_14, Option.bind_some, if_true, if_false, eq_self, not_true_eq_false, not_false_eq_true, am_w_id, if_pos, if_neg, fu_self, fu_ne, Int.toNat_natCast, md_isIn, c, show ¬ (1 : Int) = 0 by decide]
        rfl
      rw [start]
      refine am_loop (S := Nat) (F := fun k => EV (d + 1) N_md_first T_md_first_16 [.inr (.inr (some (m))), .inl (x), .inl ((k : Int))] [] (MH m g S)) (I := fun k => k ≤ ws.length ∧ se (fun i => decide ((ws.getD i ([], 0)).2 = x)) k (ws.length - k) = se (fun i => decide ((ws.getD i ([], 0)).2 = x)) 0 ws.length) (R := fun o => o = some (some (.inl (se (fun i => decide ((ws.getD i ([], 0)).2 = x)) 0 ws.length)), MH m g S)) (fun k => ws.length - k) ?_ 0 ⟨Nat.zero_le _, rfl⟩
      rintro k ⟨p1, p2⟩
      by_cases ck : k = ws.length
      · left
        rw [se_end (by omega)] at p2
        rw [← p2]
        subst ck
        (try dsimp only); rw [B_md_first_16]; simp (disch := omega) only [B_md_first_47, Option.bind_some, if_true, if_false, eq_self, not_true_eq_false, not_false_eq_true, am_w_id, if_pos, if_neg, fu_self, fu_ne, Int.toNat_natCast, m_gR_2, m_l_2, m_s_2, h1, Int.reduceToNat]
      · have hk : k < ws.length := by omega
        have hget : ws[k]? = some ws[k] := List.getElem?_eq_getElem hk
        have hgd : ws.getD k ([], 0) = ws[k] := by rw [List.getD_eq_getElem?_getD, hget]; rfl
        have a1 := fun d => md_numberOf0 (m := m) (g := g) H hget d
        rw [se_step hk, hgd] at p2
        by_cases cx : ws[k].2 = x
        · left
          rw [if_pos (decide_eq_true cx)] at p2
          rw [← p2]
          (try dsimp only); rw [B_md_first_16]; simp (disch := omega) only [B_md_first_26, B_md_first_39, Option.bind_some, if_true, if_false, eq_self, not_true_eq_false, not_false_eq_true, am_w_id, if_pos, if_neg, fu_self, fu_ne, Int.toNat_natCast, m_gR_2, m_l_2, m_s_2, h1, a1, cx, Int.reduceToNat]
        · right
          rw [if_neg (fun h => cx (of_decide_eq_true h))] at p2
          refine ⟨k + 1, ⟨by omega, p2⟩, by omega, ?_⟩
          (try dsimp only); rw [B_md_first_16]; simp (disch := omega) only [B_md_first_26, B_md_first_41, Option.bind_some, if_true, if_false, eq_self, not_true_eq_false, not_false_eq_true, am_w_id, if_pos, if_neg, fu_self, fu_ne, Int.toNat_natCast, m_gR_2, m_l_2, m_s_2, h1, a1, cx, Int.reduceToNat]
          rfl
    · rw [if_neg c]
      simp (disch := omega) only [en_md_first, B_md_first_0, B_md_first_12, B_md_first_14, B_md_first_26, B_md_first_39, B_md_first_41, B_md_first_47, Option.bind_some, if_true, if_false, eq_self, not_true_eq_false, not_false_eq_true, am_w_id, if_pos, if_neg, fu_self, fu_ne, Int.toNat_natCast, m_gR_2, m_l_2, m_s_2, md_isIn, c]
  · unfold sp_first
    split <;> exact H
end MO
