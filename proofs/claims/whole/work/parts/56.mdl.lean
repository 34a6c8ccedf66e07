/-! the model: all nodes laid; which are alike; states found -/
section MD
variable {m : Nat} {g : am_H} {S : Nat → Nat → Int} {o : Nat} {ws : List wd}
def ndR (S : Nat → Nat → Int) (o : Nat) (ws : List wd) : Prop := S 13 0 = (nN ws : Int) ∧ S 23 0 = o ∧ ndP S ws (nN ws) ∧ ∀ i, i < nN ws → S 18 i = lst ws (pn ws i) ∧ S 19 i = mk (R ws (pn ws i))
theorem wb_s {w : Nat} {r : wd} (h : ws[w]? = some r) : wb ws (w + 1) = r.1 := by
  show ((ws[w]?).getD ([], 0)).1 = r.1
  rw [h]
  rfl
theorem tk_dl {l : List Int} {n : Nat} (h : n + 1 ≤ l.length) : (l.take (n + 1)).dropLast = l.take n := by
  rw [List.dropLast_eq_take, List.length_take, List.take_take]
  congr 1
  omega
theorem wb_lx (hs : so ws) (hk : ∀ p ∈ ws, wk p) {w : Nat} {q : wd} (hq : ws[w]? = some q) : lx (wb ws w) q.1 = true := by
  cases w with
  | zero =>
    unfold wb
    have := (hk q (List.mem_of_getElem? hq)).2.1
    cases e : q.1 with
    | nil => exact absurd e this
    | cons x v => rfl
  | succ w =>
    have h := (List.getElem?_eq_some_iff.mp hq).1
    have h1 : ws[w]? = some (ws[w]'(by omega)) := List.getElem?_eq_getElem (by omega)
    rw [wb_s h1]
    exact so_get hs (by omega) h1 hq
theorem wb_lt (hs : so ws) {w i : Nat} (hi : i < w) {r : wd} (hr : ws[i]? = some r) (hw : w ≤ ws.length) : lx r.1 (wb ws w) = true ∨ r.1 = wb ws w := by
  cases w with
  | zero => omega
  | succ w =>
    have h1 : ws[w]? = some (ws[w]'(by omega)) := List.getElem?_eq_getElem (by omega)
    rw [wb_s h1]
    by_cases c : i = w
    · subst c
      rw [hr] at h1
      injection h1 with h1
      exact Or.inr (by rw [h1])
    · exact Or.inl (so_get hs (by omega) hr h1)
/-- a word is the first that begins with more than it has in common with the one ahead -/
theorem ah_first (hs : so ws) (hk : ∀ p ∈ ws, wk p) {w k : Nat} {q : wd} (hq : ws[w]? = some q) (hc : cpl (wb ws w) q.1 < k) : ah ws (q.1.take k) = w := by
  have hw := (List.getElem?_eq_some_iff.mp hq).1
  have h1 := cpl_lx _ _ k (wb_lx hs hk hq) hc
  refine ah_uniq (by omega) (fun i r hi hr => ?_) (fun r hr => ?_)
  · rcases wb_lt hs hi hr (by omega) with h | h
    · exact lx_tr _ _ _ h h1
    · rw [h]; exact h1
  · rw [hq] at hr
    injection hr with hr
    subst hr
    exact pf_lx _ _ (List.take_prefix _ _)
/-- what a word has in common with the one ahead has a node that is laid already -/
theorem ix_old (hs : so ws) {w : Nat} {q : wd} (hq : ws[w]? = some q) : ix ws (q.1.take (cpl (wb ws w) q.1)) < nl ws w := by
  have hw := (List.getElem?_eq_some_iff.mp hq).1
  have hb : bg (ws.take w) (q.1.take (cpl (wb ws w) q.1)) := by
    cases w with
    | zero => refine Or.inl ?_; simp [wb, cpl]
    | succ w =>
      have h1 : ws[w]? = some (ws[w]'(by omega)) := List.getElem?_eq_getElem (by omega)
      refine Or.inr ⟨ws[w]'(by omega), ?_, ?_⟩
      · rw [tk_s h1]; exact List.mem_append_right _ (List.mem_singleton.mpr rfl)
      · have e : wb ws (w + 1) = (ws[w]'(by omega)).1 := wb_s h1
        rw [e]
        have hc := cpl_le (ws[w]'(by omega)).1 q.1
        have hl : (q.1.take (cpl (ws[w]'(by omega)).1 q.1)).length = cpl (ws[w]'(by omega)).1 q.1 := by rw [List.length_take]; omega
        have key : ∀ (u v : List Int), cpl u v = cpl v u := by
          intro u
          induction u with
          | nil => intro v; cases v <;> rfl
          | cons x u ih =>
            intro v
            cases v with
            | nil => rfl
            | cons y v =>
              simp only [cpl]
              by_cases e : x = y
              · rw [if_pos e, if_pos e.symm, ih]
              · rw [if_neg e, if_neg (fun g => e g.symm)]
        exact (cpl_iff _ q.1 _ (List.take_prefix _ _)).mpr (by rw [hl, key q.1]; exact Nat.le_refl _)
  obtain ⟨v, hv⟩ := bg_ND hb
  obtain ⟨i, hi⟩ := List.getElem?_of_mem hv
  have hlt := (List.getElem?_eq_some_iff.mp hi).1
  obtain ⟨t, ht⟩ := ND_tp (ws := ws) w
  have hi2 : (ND ws)[i]? = some (q.1.take (cpl (wb ws w) q.1), v) := by rw [← ht, List.getElem?_append_left hlt]; exact hi
  have := ah_get (ND_so hs) hi2
  unfold ix
  dsimp only at this
  rw [this]
  exact hlt
theorem md_layW (hok : ok ws) (H : ml 2402 (S 2) o ws) (hb : S 23 0 = o) {w : Nat} {q : wd} (hq : ws[w]? = some q) (N : ndP S ws (nl ws w)) (hS : S 13 0 = nl ws w) (d : Nat) :
    ∃ S' x4 x5, EV (d + 3) N_md_laysNodes T_md_laysNodes_82 [.inr (.inr (some (m))), .inl ((o : Int)), .inl ((w : Int)), .inl ((cpl (wb ws w) q.1 : Int)), .inl ((ix ws (q.1.take (cpl (wb ws w) q.1)) : Int)), .inl (((cpl (wb ws w) q.1 + 1 : Nat) : Int))] [] (MH m g S)
      = EV (d + 3) N_md_laysNodes T_md_laysNodes_166 [.inr (.inr (some (m))), .inl ((o : Int)), .inl ((w : Int)), .inl ((cpl (wb ws w) q.1 : Int)), .inl (x4), .inl (x5)] [] (MH m g S') ∧ ndP S' ws (nl ws (w + 1)) ∧ S' 13 0 = nl ws (w + 1) ∧ fd [13, 14, 15, 16, 17] S S' := by
  obtain ⟨hwk, hs, hl100⟩ := hok
  have hN' : nN ws ≤ 1001 := ND_len ⟨hwk, hs, hl100⟩
  have hns := nl_s hq
  have hnle := nl_le (ws := ws) (w + 1)
  have hq10 := (hwk q (List.mem_of_getElem? hq)).2.2.1
  have hcl := (cpl_le (wb ws w) q.1).2
  have hwl := (List.getElem?_eq_some_iff.mp hq).1
  have hH2 := H.2.1
  generalize hc : cpl (wb ws w) q.1 = c at *
  have main := am_loop (S := Nat × (Nat → Nat → Int)) (F := fun s => EV (d + 3) N_md_laysNodes T_md_laysNodes_82 [.inr (.inr (some (m))), .inl ((o : Int)), .inl ((w : Int)), .inl ((c : Int)), .inl ((ix ws (q.1.take (c + s.1)) : Int)), .inl (((c + s.1 + 1 : Nat) : Int))] [] (MH m g s.2))
    (I := fun s => s.1 ≤ q.1.length - c ∧ ndP s.2 ws (nl ws w + s.1) ∧ s.2 13 0 = ((nl ws w + s.1 : Nat) : Int) ∧ fd [13, 14, 15, 16, 17] S s.2)
    (R := fun r => ∃ S' x4 x5, r = EV (d + 3) N_md_laysNodes T_md_laysNodes_166 [.inr (.inr (some (m))), .inl ((o : Int)), .inl ((w : Int)), .inl ((c : Int)), .inl (x4), .inl (x5)] [] (MH m g S') ∧ ndP S' ws (nl ws (w + 1)) ∧ S' 13 0 = nl ws (w + 1) ∧ fd [13, 14, 15, 16, 17] S S') (fun s => q.1.length - c - s.1) ?_ (0, S) ⟨Nat.zero_le _, N, hS, fd.rf⟩
  · exact main
  · rintro ⟨j, T⟩ ⟨hj, hP, hT, hF⟩
    dsimp only at hj hP hT hF ⊢
    have HT : ml 2402 (T 2) o ws := by rw [hF 2 (by decide)]; exact H
    have hbT : T 23 0 = o := by rw [hF 23 (by decide)]; exact hb
    have a1 := fun d => md_lengthOf (g := g) (m_row_2 (m := m)) (by decide) HT hq d
    by_cases e : j = q.1.length - c
    · left
      refine ⟨T, (ix ws (q.1.take (c + j)) : Int), ((c + j + 1 : Nat) : Int), ?_, ?_, ?_, hF⟩
      rotate_left
      · rw [hns, ← e]; exact hP
      · rw [hns, ← e]; exact hT
      · rw [B_md_laysNodes_82]
        simp only [m_gR_2, Option.bind_some, a1]
        rw [if_pos (by omega)]
    · right
      have hpnj : pn ws (nl ws w + j) = q.1.take (c + 1 + j) := by
        have := ND_at hq (j := j) (by rw [hc]; omega)
        rw [hc] at this
        exact this
      have hlt : nl ws w + j < nN ws := by omega
      have hixj : ix ws (q.1.take (c + (j + 1))) = nl ws w + j := by
        rw [show c + (j + 1) = c + 1 + j by omega, ← hpnj]; exact ix_pn hs hlt
      have hfirst : ah ws (q.1.take (c + j + 1)) = w := ah_first hs hwk hq (by rw [hc]; omega)
      have hpr : pr ws (nl ws w + j) = ix ws (q.1.take (c + j)) := by
        unfold pr
        rw [hpnj, show c + 1 + j = c + j + 1 by omega, tk_dl (by omega)]
      have hpj : nl ws w + j ≠ 0 := by unfold nl ND; rw [List.length_cons]; omega
      -- the four rows
      obtain ⟨T', hT'⟩ : ∃ T', T' = am_fu (am_fu (am_fu (am_fu (am_fu T 14 (am_fu (T 14) (nl ws w + j) (w : Int))) 16 (am_fu (T 16) (nl ws w + j) ((c + j + 1 : Nat) : Int))) 17 (am_fu (T 17) (nl ws w + j) (ix ws (q.1.take (c + j)) : Int))) 15 (am_fu (T 15) (nl ws w + j) ((hi ws (q.1.take (c + j + 1)) : Nat) : Int))) 13 (fun _ => ((nl ws w + j : Nat) : Int) + 1) := ⟨_, rfl⟩
      have g14 : T' 14 = am_fu (T 14) (nl ws w + j) (w : Int) := by rw [hT', fu_ne (by decide), fu_ne (by decide), fu_ne (by decide), fu_ne (by decide), fu_self]
      have g16 : T' 16 = am_fu (T 16) (nl ws w + j) ((c + j + 1 : Nat) : Int) := by rw [hT', fu_ne (by decide), fu_ne (by decide), fu_ne (by decide), fu_self]
      have g17 : T' 17 = am_fu (T 17) (nl ws w + j) (ix ws (q.1.take (c + j)) : Int) := by rw [hT', fu_ne (by decide), fu_ne (by decide), fu_self]
      have g15 : T' 15 = am_fu (T 15) (nl ws w + j) ((hi ws (q.1.take (c + j + 1)) : Nat) : Int) := by rw [hT', fu_ne (by decide), fu_self]
      have g13 : T' 13 0 = ((nl ws w + (j + 1) : Nat) : Int) := by rw [hT', fu_self]; omega
      have gF : fd [13, 14, 15, 16, 17] S T' := by rw [hT']; exact ((((hF.up (by decide) _).up (by decide) _).up (by decide) _).up (by decide) _).up (by decide) _
      have gP : ndP T' ws (nl ws w + (j + 1)) := by
        intro i hi9
        rw [g14, g15, g16, g17]
        by_cases ci : i = nl ws w + j
        · subst ci
          rw [fu_self, fu_self, fu_self, fu_self, hpnj, if_neg hpj, hpr, show c + 1 + j = c + j + 1 by omega, hfirst]
          refine ⟨rfl, rfl, ?_, rfl⟩
          rw [List.length_take]
          omega
        · rw [fu_ne ci, fu_ne ci, fu_ne ci, fu_ne ci]
          exact hP i (by omega)
      refine ⟨(j + 1, T'), ⟨by dsimp only; omega, gP, g13, gF⟩, by dsimp only; omega, ?_⟩
      have HT9 : ml 2402 ((am_fu (am_fu (am_fu T 14 (am_fu (T 14) (nl ws w + j) (w : Int))) 16 (am_fu (T 16) (nl ws w + j) ((c + j + 1 : Nat) : Int))) 17 (am_fu (T 17) (nl ws w + j) (ix ws (q.1.take (c + j)) : Int))) 2) o ws := by
        rw [fu_ne (by decide), fu_ne (by decide), fu_ne (by decide)]; exact HT
      have hb9 : (am_fu (am_fu (am_fu T 14 (am_fu (T 14) (nl ws w + j) (w : Int))) 16 (am_fu (T 16) (nl ws w + j) ((c + j + 1 : Nat) : Int))) 17 (am_fu (T 17) (nl ws w + j) (ix ws (q.1.take (c + j)) : Int))) 23 0 = o := by
        rw [fu_ne (by decide), fu_ne (by decide), fu_ne (by decide)]; exact hbT
      have a2 := fun d => md_endOf (m := m) (g := g) hs hwk HT9 hb9 hq (k := c + j + 1) (by omega) hfirst d
      have e3 : ((c + j + 1 : Nat) : Int) + 1 = ((c + (j + 1) + 1 : Nat) : Int) := by omega
      rw [B_md_laysNodes_82]
      simp only [m_gR_2, Option.bind_some, a1]
      rw [if_neg (by omega)]
      rw [hixj, hT']
      (try dsimp only); rw [B_md_laysNodes_96]; simp (disch := omega) only [Option.bind_some, if_true, if_false, eq_self, not_true_eq_false, not_false_eq_true, am_w_id, if_pos, if_neg, fu_self, fu_ne, Int.toNat_natCast, m_gR_14, m_l_14, m_s_14, m_gI_13, m_p_13, m_gR_16, m_l_16, m_s_16, m_gR_17, m_l_17, m_s_17, m_gR_15, m_l_15, m_s_15, m_O, hT, a2, e3]
theorem md_laysNodes (hok : ok ws) (H : ml 2402 (S 2) o ws) (d : Nat) : ∃ S', am_cV (d + 3) N_md_laysNodes [.inr (.inr (some (m))), .inl ((o : Int))] (MH m g S) = some (MH m g S') ∧ ndR S' o ws ∧ fd [13, 14, 15, 16, 17, 18, 19, 23] S S' := by
  have hok' := hok
  obtain ⟨hwk, hs, hl100⟩ := hok
  have hN' : nN ws ≤ 1001 := ND_len hok'
  have h1 := H.1
  have h2 := H.2.1
  have hNp := nN_pos (ws := ws)
  -- the third loop
  have third : ∀ (T : Nat → Nat → Int) (x2 : Int) (j3 j4 j5 : am_V), ml 2402 (T 2) o ws → T 23 0 = o → T 13 0 = (nN ws : Int) → ndP T ws (nN ws) → ∃ S', EV (d + 3) N_md_laysNodes T_md_laysNodes_172 [.inr (.inr (some (m))), .inl ((o : Int)), .inl (x2), j3, j4, j5] [] (MH m g T) = some (none, MH m g S') ∧ ndR S' o ws ∧ fd [18, 19] T S' := by
    intro T x2 j3 j4 j5 hT1 hT2 hT3 hT4
    rw [B_md_laysNodes_172]
    have main := am_loop (S := Nat × (Nat → Nat → Int)) (F := fun s => EV (d + 3) N_md_laysNodes T_md_laysNodes_174 [.inr (.inr (some (m))), .inl ((o : Int)), .inl ((s.1 : Int)), j3, j4, j5] [] (MH m g s.2))
      (I := fun s => s.1 ≤ nN ws ∧ fd [18, 19] T s.2 ∧ ∀ i, i < s.1 → s.2 18 i = lst ws (pn ws i) ∧ s.2 19 i = mk (R ws (pn ws i)))
      (R := fun r => ∃ S', r = some (none, MH m g S') ∧ ndR S' o ws ∧ fd [18, 19] T S') (fun s => nN ws - s.1) ?_ (0, T) ⟨Nat.zero_le _, fd.rf, fun i hi => by simp at hi⟩
    · exact main
    · rintro ⟨k, U⟩ ⟨p1, p2, p3⟩
      dsimp only at p1 p2 p3 ⊢
      have u13 : U 13 0 = (nN ws : Int) := by rw [p2 13 (by decide)]; exact hT3
      have u2 : ml 2402 (U 2) o ws := by rw [p2 2 (by decide)]; exact hT1
      have u23 : U 23 0 = o := by rw [p2 23 (by decide)]; exact hT2
      have uP : ndP U ws (nN ws) := by
        intro i hi
        rw [p2 14 (by decide), p2 15 (by decide), p2 16 (by decide), p2 17 (by decide)]
        exact hT4 i hi
      by_cases c : k = nN ws
      · left
        subst c
        refine ⟨U, ?_, ⟨u13, u23, uP, p3⟩, p2⟩
        (try dsimp only); rw [B_md_laysNodes_174]; simp (disch := omega) only [B_md_laysNodes_193, Option.bind_some, if_true, if_false, eq_self, not_true_eq_false, not_false_eq_true, am_w_id, if_pos, if_neg, fu_self, fu_ne, Int.toNat_natCast, m_gI_13, m_p_13, u13]
      · right
        obtain ⟨V, e, v1, v2, v3, v4⟩ := md_weighs (m := m) (g := g) hok' u2 u23 (k := k) (by omega) uP (d + 1)
        refine ⟨(k + 1, V), ⟨by dsimp only; omega, p2.tr v4, fun i hi => ?_⟩, by dsimp only; omega, ?_⟩
        · dsimp only at hi ⊢
          by_cases ci : i = k
          · subst ci; exact ⟨v1, v2⟩
          · rw [(v3 i ci).1, (v3 i ci).2]; exact p3 i (by omega)
        · (try dsimp only); rw [B_md_laysNodes_174]; simp (disch := omega) only [B_md_laysNodes_182, Option.bind_some, if_true, if_false, eq_self, not_true_eq_false, not_false_eq_true, am_w_id, if_pos, if_neg, fu_self, fu_ne, Int.toNat_natCast, m_gI_13, m_p_13, m_O, u13, e]
          rfl
  -- the first two
  have S0 : Nat → Nat → Int := S
  have key : ∃ T x2 j3 j4 j5, am_call (d + 3) N_md_laysNodes [.inr (.inr (some (m))), .inl ((o : Int))] (MH m g S) = EV (d + 3) N_md_laysNodes T_md_laysNodes_172 [.inr (.inr (some (m))), .inl ((o : Int)), .inl (x2), j3, j4, j5] [] (MH m g T) ∧ ml 2402 (T 2) o ws ∧ T 23 0 = o ∧ T 13 0 = (nN ws : Int) ∧ ndP T ws (nN ws) ∧ fd [13, 14, 15, 16, 17, 23] S T := by
    have start : ∃ U, am_call (d + 3) N_md_laysNodes [.inr (.inr (some (m))), .inl ((o : Int))] (MH m g S) = EV (d + 3) N_md_laysNodes T_md_laysNodes_45 [.inr (.inr (some (m))), .inl ((o : Int)), .inl (((0 : Nat) : Int)), am_nul, am_nul, am_nul] [] (MH m g U) ∧ ndP U ws 1 ∧ U 13 0 = 1 ∧ U 23 0 = o ∧ fd [13, 14, 15, 16, 17, 23] S U := by
      refine ⟨am_fu (am_fu (am_fu (am_fu (am_fu (am_fu S 23 (fun _ => (o : Int))) 14 (am_fu (S 14) 0 0)) 15 (am_fu (S 15) 0 (ws.length : Int))) 16 (am_fu (S 16) 0 0)) 17 (am_fu (S 17) 0 (-1))) 13 (fun _ => 1), ?_, ?_, ?_, ?_, ?_⟩
      · rw [en_md_laysNodes]
        simp (disch := omega) only [B_md_laysNodes_0, Option.bind_some, if_true, if_false, eq_self, not_true_eq_false, not_false_eq_true, am_w_id, if_pos, if_neg, fu_self, fu_ne, Int.toNat_natCast, m_gI_23, m_p_23, m_gR_14, m_l_14, m_s_14, m_gR_15, m_l_15, m_s_15, m_gR_2, m_l_2, m_s_2, m_gR_16, m_l_16, m_s_16, m_gR_17, m_l_17, m_s_17, m_gI_13, m_p_13, h1, Int.toNat_zero]
        rfl
      · intro i hi9
        have : i = 0 := by omega
        subst this
        have hah : ah ws [] = 0 := by
          have := ah_le ws []
          cases ws with
          | nil => rfl
          | cons q l =>
            unfold ah
            rw [List.takeWhile_cons, if_neg (by cases q.1 <;> simp [lx])]
            rfl
        have hsb : sb ws [] = ws := by
          unfold sb
          rw [List.filter_eq_self]
          intro a _
          simp
        show am_fu (S 14) 0 0 0 = _ ∧ am_fu (S 15) 0 (ws.length : Int) 0 = _ ∧ am_fu (S 16) 0 0 0 = _ ∧ am_fu (S 17) 0 (-1) 0 = _
        rw [fu_self, fu_self, fu_self, fu_self, pn0, if_pos rfl]
        unfold hi
        rw [hah, hsb]
        exact ⟨rfl, by omega, rfl, rfl⟩
      · rfl
      · rfl
      · exact (((((fd.rf.up (by decide) _).up (by decide) _).up (by decide) _).up (by decide) _).up (by decide) _).up (by decide) _
    obtain ⟨U, hU, u1, u2, u3, u4⟩ := start
    rw [hU]
    have main := am_loop (S := Nat × ((Nat → Nat → Int) × (am_V × (am_V × am_V)))) (F := fun s => EV (d + 3) N_md_laysNodes T_md_laysNodes_45 [.inr (.inr (some (m))), .inl ((o : Int)), .inl ((s.1 : Int)), s.2.2.1, s.2.2.2.1, s.2.2.2.2] [] (MH m g s.2.1))
      (I := fun s => s.1 ≤ ws.length ∧ ndP s.2.1 ws (nl ws s.1) ∧ s.2.1 13 0 = nl ws s.1 ∧ s.2.1 23 0 = o ∧ fd [13, 14, 15, 16, 17, 23] S s.2.1)
      (R := fun r => ∃ T x2 j3 j4 j5, r = EV (d + 3) N_md_laysNodes T_md_laysNodes_172 [.inr (.inr (some (m))), .inl ((o : Int)), .inl (x2), j3, j4, j5] [] (MH m g T) ∧ ml 2402 (T 2) o ws ∧ T 23 0 = o ∧ T 13 0 = (nN ws : Int) ∧ ndP T ws (nN ws) ∧ fd [13, 14, 15, 16, 17, 23] S T) (fun s => ws.length - s.1) ?_ (0, U, am_nul, am_nul, am_nul) ⟨Nat.zero_le _, u1, u2, u3, u4⟩
    · exact main
    · rintro ⟨w, T, j3, j4, j5⟩ ⟨p1, p2, p3, p4, p5⟩
      dsimp only at p1 p2 p3 p4 p5 ⊢
      have HT : ml 2402 (T 2) o ws := by rw [p5 2 (by decide)]; exact H
      have h1T := HT.1
      by_cases c : w = ws.length
      · left
        subst c
        rw [nl_all] at p2 p3
        refine ⟨T, (ws.length : Int), j3, j4, j5, ?_, HT, p4, p3, p2, p5⟩
        (try dsimp only); rw [B_md_laysNodes_45]; simp (disch := omega) only [Option.bind_some, if_true, if_false, eq_self, not_true_eq_false, not_false_eq_true, am_w_id, if_pos, if_neg, fu_self, fu_ne, Int.toNat_natCast, m_gR_2, m_l_2, m_s_2, h1T]
      · right
        have hq : ws[w]? = some (ws[w]'(by omega)) := List.getElem?_eq_getElem (by omega)
        have hnlw := nl_le (ws := ws) w
        generalize ws[w]'(by omega) = q at hq
        obtain ⟨V, x4, x5, e, v1, v2, v3⟩ := md_layW (m := m) (g := g) hok' HT p4 hq p2 p3 d
        have hcl := (cpl_le (wb ws w) q.1).2
        have hq10 := (hwk q (List.mem_of_getElem? hq)).2.2.1
        have a1 := fun d => md_nodeFor (m := m) (g := g) hs hl100 p2 p3 hnlw (by omega) hq hcl (ix_old hs hq) d
        have at68 : EV (d + 3) N_md_laysNodes T_md_laysNodes_68 [.inr (.inr (some (m))), .inl ((o : Int)), .inl ((w : Int)), j3, j4, j5] [.inl ((cpl (wb ws w) q.1 : Int))] (MH m g T) = EV (d + 3) N_md_laysNodes T_md_laysNodes_166 [.inr (.inr (some (m))), .inl ((o : Int)), .inl ((w : Int)), .inl ((cpl (wb ws w) q.1 : Int)), .inl (x4), .inl (x5)] [] (MH m g V) := by
          have e3 : am_w ((cpl (wb ws w) q.1 : Int) + 1) = ((cpl (wb ws w) q.1 + 1 : Nat) : Int) := by rw [am_w_id (by omega) (by omega)]; omega
          rw [← e, B_md_laysNodes_68, if_pos m_O, a1, Option.bind_some]
          dsimp only
          rw [e3]
        refine ⟨(w + 1, V, .inl (cpl (wb ws w) q.1 : Int), .inl x4, .inl x5), ⟨by dsimp only; omega, v1, v2, ?_, p5.tr (v3.wide (by decide))⟩, by dsimp only; omega, ?_⟩
        · dsimp only; rw [v3 23 (by decide)]; exact p4
        · dsimp only
          have last : EV (d + 3) N_md_laysNodes T_md_laysNodes_166 [.inr (.inr (some (m))), .inl ((o : Int)), .inl ((w : Int)), .inl ((cpl (wb ws w) q.1 : Int)), .inl (x4), .inl (x5)] [] (MH m g V) = EV (d + 3) N_md_laysNodes T_md_laysNodes_45 [.inr (.inr (some (m))), .inl ((o : Int)), .inl (((w + 1 : Nat) : Int)), .inl ((cpl (wb ws w) q.1 : Int)), .inl (x4), .inl (x5)] [] (MH m g V) := by
            rw [B_md_laysNodes_166, am_w_id (by omega) (by omega)]
            rfl
          rw [← last, ← at68]
          cases w with
          | zero =>
            have : cpl (wb ws 0) q.1 = 0 := by simp [wb, cpl]
            rw [this]
            (try dsimp only); rw [B_md_laysNodes_45]; simp (disch := omega) only [B_md_laysNodes_55, B_md_laysNodes_59, Option.bind_some, if_true, if_false, eq_self, not_true_eq_false, not_false_eq_true, am_w_id, if_pos, if_neg, fu_self, fu_ne, Int.toNat_natCast, m_gR_2, m_l_2, m_s_2, h1T]
            rfl
          | succ w =>
            have hq0 : ws[w]? = some (ws[w]'(by omega)) := List.getElem?_eq_getElem (by omega)
            have ew : wb ws (w + 1) = (ws[w]'(by omega)).1 := wb_s hq0
            have a2 := fun d => md_lettersAlike (m := m) (g := g) HT p4 hq0 hq (hwk _ (List.getElem_mem _)).2.2.1 hq10 d
            rw [← ew] at a2
            (try dsimp only); rw [B_md_laysNodes_45]; simp (disch := omega) only [B_md_laysNodes_55, B_md_laysNodes_63, Option.bind_some, if_true, if_false, eq_self, not_true_eq_false, not_false_eq_true, am_w_id, if_pos, if_neg, fu_self, fu_ne, Int.toNat_natCast, m_gR_2, m_l_2, m_s_2, m_O, h1T, a2]
  obtain ⟨T, x2, j3, j4, j5, e, t1, t2, t3, t4, t5⟩ := key
  obtain ⟨S', e2, s1, s2⟩ := third T x2 j3 j4 j5 t1 t2 t3 t4
  exact ⟨S', am_cV_of (e.trans e2), s1, (t5.wide (by decide)).tr (s2.wide (by decide))⟩
end MD
