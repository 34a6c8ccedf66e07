/-! the model: which words fit a pattern -/
def bi (b : Bool) : Int := if b = true then 1 else 0
theorem bi_bd (b : Bool) : 0 ≤ bi b ∧ bi b < 2 := by unfold bi; split <;> omega
theorem bi_0 {b : Bool} : bi b = 0 ↔ b = false := by unfold bi; cases b <;> simp
theorem mt_star {s w : List Int} {j : Nat} (h : s.getD j 0 = -1) : mt s w (j + 1) = mtS (mt s w j) := by show (if s.getD j 0 = -1 then _ else _) = _; rw [if_pos h]
theorem mt_let {s w : List Int} {j : Nat} (h : ¬ s.getD j 0 = -1) : mt s w (j + 1) = mtL (s.getD j 0) w (mt s w j) := by show (if s.getD j 0 = -1 then _ else _) = _; rw [if_neg h]
section MO
variable {m : Nat} {g : am_H} {S : Nat → Nat → Int} {t u : List Int} {ws bs ws' bs' : List wd} {hs : List (List wd × List wd)} {sh : Nat → Option (List wd)}
theorem md_isLikeSigns (H : MR S t ws bs hs sh) (O : okS t ws bs hs sh) {sg : List Int} (h26 : S 26 0 = sg.length) (h25 : ∀ i, i < sg.length → S 25 i = sg.getD i 0) (hsl : sg.length ≤ 400) {w : Nat} {p : wd} (hw : ws[w]? = some p) (d : Nat) : ∃ S', am_cI (d + 1) N_md_isLikeSigns [.inr (.inr (some (m))), .inl ((w : Int))] (MH m g S) = some (bi (mt sg p.1 sg.length p.1.length), MH m g S') ∧ fd [27] S S' := by
  have hp10 := (ok_get O.2.1 hw).2.2.1
  have hwl := (List.getElem?_eq_some_iff.mp hw).1
  have hl100 := O.2.1.2.2
  have a0 := fun d => md_lengthOf0 (m := m) (g := g) H hw d
  have start : am_call (d + 1) N_md_isLikeSigns [.inr (.inr (some (m))), .inl ((w : Int))] (MH m g S) = EV (d + 1) N_md_isLikeSigns T_md_isLikeSigns_12 [.inr (.inr (some (m))), .inl ((w : Int)), .inl ((p.1.length : Int)), .inl (((0 : Nat) : Int)), am_nul] [] (MH m g (am_fu S 27 (prf (S 27) (fun i => bi (mt sg p.1 0 i)) 0))) := by
    rw [prf0, fu_eta]
    (try dsimp only); rw [en_md_isLikeSigns]; (try simp (disch := omega) only [Option.bind_some, if_true, if_false, eq_self, not_true_eq_false, not_false_eq_true, am_w_id, if_pos, if_neg, fu_self, fu_ne, Int.toNat_natCast, a0]); rw [B_md_isLikeSigns_0]; (try simp (disch := omega) only [Option.bind_some, if_true, if_false, eq_self, not_true_eq_false, not_false_eq_true, am_w_id, if_pos, if_neg, fu_self, fu_ne, Int.toNat_natCast, m_gR_2, m_l_2, m_s_2, a0])
    rfl
  have lp1 := am_for (F := fun k => EV (d + 1) N_md_isLikeSigns T_md_isLikeSigns_12 [.inr (.inr (some (m))), .inl ((w : Int)), .inl ((p.1.length : Int)), .inl ((k : Int)), am_nul] [] (MH m g (am_fu S 27 (prf (S 27) (fun i => bi (mt sg p.1 0 i)) k)))) (k := 0) (n := p.1.length + 1) (Nat.zero_le _) (fun k _ hk => by
    have e9 : (k : Int) + 1 = ((k + 1 : Nat) : Int) := by omega
    by_cases c : k = 0
    · subst c
      have e1 : (1 : Int) = bi (mt sg p.1 0 0) := rfl
      have e2 := prf_s (f := S 27) (v := fun i => bi (mt sg p.1 0 i)) (k := 0) e1
      (try dsimp only); rw [B_md_isLikeSigns_12]; (try simp (disch := omega) only [Option.bind_some, if_true, if_false, eq_self, not_true_eq_false, not_false_eq_true, am_w_id, if_pos, if_neg, fu_self, fu_ne, Int.toNat_natCast, m_s_27, e2, e9, fu_fu, Int.toNat_zero]); rw [B_md_isLikeSigns_17]; (try simp (disch := omega) only [Option.bind_some, if_true, if_false, eq_self, not_true_eq_false, not_false_eq_true, am_w_id, if_pos, if_neg, fu_self, fu_ne, Int.toNat_natCast, m_gR_27, m_l_27, m_s_27, m_s_27, e2, e9, fu_fu, Int.toNat_zero]); rw [B_md_isLikeSigns_26]; (try simp (disch := omega) only [Option.bind_some, if_true, if_false, eq_self, not_true_eq_false, not_false_eq_true, am_w_id, if_pos, if_neg, fu_self, fu_ne, Int.toNat_natCast, m_s_27, e2, e9, fu_fu, Int.toNat_zero]); rw [B_md_isLikeSigns_31]; (try simp (disch := omega) only [Option.bind_some, if_true, if_false, eq_self, not_true_eq_false, not_false_eq_true, am_w_id, if_pos, if_neg, fu_self, fu_ne, Int.toNat_natCast, m_s_27, e2, e9, fu_fu, Int.toNat_zero])
    · have e1 : (0 : Int) = bi (mt sg p.1 0 k) := by
        show (0 : Int) = bi (decide (k = 0))
        unfold bi
        rw [if_neg (by simp [c])]
      have e2 := prf_s (f := S 27) (v := fun i => bi (mt sg p.1 0 i)) (k := k) e1
      (try dsimp only); rw [B_md_isLikeSigns_12]; (try simp (disch := omega) only [Option.bind_some, if_true, if_false, eq_self, not_true_eq_false, not_false_eq_true, am_w_id, if_pos, if_neg, fu_self, fu_ne, Int.toNat_natCast, m_s_27, e2, e9, fu_fu]); rw [B_md_isLikeSigns_17]; (try simp (disch := omega) only [Option.bind_some, if_true, if_false, eq_self, not_true_eq_false, not_false_eq_true, am_w_id, if_pos, if_neg, fu_self, fu_ne, Int.toNat_natCast, m_gR_27, m_l_27, m_s_27, m_s_27, e2, e9, fu_fu]); rw [B_md_isLikeSigns_30]; (try simp (disch := omega) only [Option.bind_some, if_true, if_false, eq_self, not_true_eq_false, not_false_eq_true, am_w_id, if_pos, if_neg, fu_self, fu_ne, Int.toNat_natCast, m_s_27, e2, e9, fu_fu]); rw [B_md_isLikeSigns_31]; (try simp (disch := omega) only [Option.bind_some, if_true, if_false, eq_self, not_true_eq_false, not_false_eq_true, am_w_id, if_pos, if_neg, fu_self, fu_ne, Int.toNat_natCast, m_s_27, e2, e9, fu_fu]))
  have fin := am_loop (S := Nat × ((Nat → Nat → Int) × am_V)) (F := fun s => EV (d + 1) N_md_isLikeSigns T_md_isLikeSigns_40 [.inr (.inr (some (m))), .inl ((w : Int)), .inl ((p.1.length : Int)), .inl ((s.1 : Int)), s.2.2] [] (MH m g s.2.1)) (I := fun s => s.1 ≤ sg.length ∧ fd [27] S s.2.1 ∧ ∀ i, i ≤ p.1.length → s.2.1 27 i = bi (mt sg p.1 s.1 i))
    (R := fun o => ∃ S', o = some (some (.inl (bi (mt sg p.1 sg.length p.1.length))), MH m g S') ∧ fd [27] S S') (fun s => sg.length - s.1) ?_ (0, am_fu S 27 (prf (S 27) (fun i => bi (mt sg p.1 0 i)) (p.1.length + 1)), am_nul) ⟨Nat.zero_le _, fd.rf.up (by decide) _, fun i hi => by dsimp only; rw [fu_self, prf_lt (by omega)]⟩
  · obtain ⟨S', e, F⟩ := fin
    refine ⟨S', am_cI_of (start.trans (lp1.trans ?_)), F⟩
    have e7 : (p.1.length : Int) < ((p.1.length + 1 : Nat) : Int) := by omega
    (try dsimp only); rw [B_md_isLikeSigns_12]; (try simp (disch := omega) only [Option.bind_some, if_true, if_false, eq_self, not_true_eq_false, not_false_eq_true, am_w_id, if_pos, if_neg, fu_self, fu_ne, Int.toNat_natCast, e7]); rw [B_md_isLikeSigns_38]; (try simp (disch := omega) only [Option.bind_some, if_true, if_false, eq_self, not_true_eq_false, not_false_eq_true, am_w_id, if_pos, if_neg, fu_self, fu_ne, Int.toNat_natCast, e7])
    exact e
  · rintro ⟨j, U, j4⟩ ⟨p1, p2, p3⟩
    dsimp only at p1 p2 p3 ⊢
    have u26 : U 26 0 = (sg.length : Int) := by rw [p2 26 (by decide)]; exact h26
    have HU := H.frd p2 (by decide)
    by_cases c : j = sg.length
    · left
      subst c
      have h3 := p3 p.1.length (Nat.le_refl _)
      have hb := bi_bd (mt sg p.1 sg.length p.1.length)
      refine ⟨U, ?_, p2⟩
      (try dsimp only); rw [B_md_isLikeSigns_40]; (try simp (disch := omega) only [Option.bind_some, if_true, if_false, eq_self, not_true_eq_false, not_false_eq_true, am_w_id, if_pos, if_neg, fu_self, fu_ne, Int.toNat_natCast, m_gI_26, m_p_26, u26, h3]); rw [B_md_isLikeSigns_192]; (try simp (disch := omega) only [Option.bind_some, if_true, if_false, eq_self, not_true_eq_false, not_false_eq_true, am_w_id, if_pos, if_neg, fu_self, fu_ne, Int.toNat_natCast, m_gR_27, m_l_27, m_s_27, u26, h3])
    · right
      have u25 : U 25 j = sg.getD j 0 := by rw [p2 25 (by decide)]; exact h25 j (by omega)
      have e9j : (j : Int) + 1 = ((j + 1 : Nat) : Int) := by omega
      by_cases cs : sg.getD j 0 = -1
      · have hst := mt_star (w := p.1) cs
        -- a star
        have row := am_loop (S := Nat × (Nat → Nat → Int)) (F := fun s => EV (d + 1) N_md_isLikeSigns T_md_isLikeSigns_61 [.inr (.inr (some (m))), .inl ((w : Int)), .inl ((p.1.length : Int)), .inl ((j : Int)), .inl (((s.1 + 1 : Nat) : Int))] [] (MH m g s.2)) (I := fun s => s.1 ≤ p.1.length ∧ fd [27] S s.2 ∧ (∀ i, i ≤ s.1 → s.2 27 i = bi (mt sg p.1 (j + 1) i)) ∧ ∀ i, s.1 < i → i ≤ p.1.length → s.2 27 i = bi (mt sg p.1 j i))
          (R := fun o => ∃ V x4, o = EV (d + 1) N_md_isLikeSigns T_md_isLikeSigns_40 [.inr (.inr (some (m))), .inl ((w : Int)), .inl ((p.1.length : Int)), .inl (((j + 1 : Nat) : Int)), x4] [] (MH m g V) ∧ fd [27] S V ∧ ∀ i, i ≤ p.1.length → V 27 i = bi (mt sg p.1 (j + 1) i)) (fun s => p.1.length - s.1) ?_ (0, U) ⟨Nat.zero_le _, p2, fun i hi => ?_, fun i h1 h2 => p3 i h2⟩
        · obtain ⟨V, x4, e, v1, v2⟩ := row
          refine ⟨(j + 1, V, x4), ⟨by dsimp only; omega, v1, v2⟩, by dsimp only; omega, ?_⟩
          refine Eq.trans ?_ e
          (try dsimp only); rw [B_md_isLikeSigns_40]; (try simp (disch := omega) only [Option.bind_some, if_true, if_false, eq_self, not_true_eq_false, not_false_eq_true, am_w_id, if_pos, if_neg, fu_self, fu_ne, Int.toNat_natCast, m_gI_26, m_p_26, u26, u25, cs]); rw [B_md_isLikeSigns_48]; (try simp (disch := omega) only [Option.bind_some, if_true, if_false, eq_self, not_true_eq_false, not_false_eq_true, am_w_id, if_pos, if_neg, fu_self, fu_ne, Int.toNat_natCast, m_gR_25, m_l_25, m_s_25, u26, u25, cs]); rw [B_md_isLikeSigns_58]; (try simp (disch := omega) only [Option.bind_some, if_true, if_false, eq_self, not_true_eq_false, not_false_eq_true, am_w_id, if_pos, if_neg, fu_self, fu_ne, Int.toNat_natCast, u26, u25, cs])
          rfl
        · rintro ⟨i, V⟩ ⟨q1, q2, q3, q4⟩
          dsimp only at q1 q2 q3 q4 ⊢
          by_cases ci : i = p.1.length
          · left
            subst ci
            refine ⟨V, .inl ((p.1.length + 1 : Nat) : Int), ?_, q2, q3⟩
            have e7 : (p.1.length : Int) < ((p.1.length + 1 : Nat) : Int) := by omega
            (try dsimp only); rw [B_md_isLikeSigns_61]; (try simp (disch := omega) only [Option.bind_some, if_true, if_false, eq_self, not_true_eq_false, not_false_eq_true, am_w_id, if_pos, if_neg, fu_self, fu_ne, Int.toNat_natCast, e7, e9j]); rw [B_md_isLikeSigns_107]; (try simp (disch := omega) only [Option.bind_some, if_true, if_false, eq_self, not_true_eq_false, not_false_eq_true, am_w_id, if_pos, if_neg, fu_self, fu_ne, Int.toNat_natCast, e7, e9j]); rw [B_md_isLikeSigns_186]; (try simp (disch := omega) only [Option.bind_some, if_true, if_false, eq_self, not_true_eq_false, not_false_eq_true, am_w_id, if_pos, if_neg, fu_self, fu_ne, Int.toNat_natCast, e7, e9j])
          · right
            have r1 := q4 (i + 1) (by omega) (by omega)
            have r2 := q3 i (Nat.le_refl _)
            have hstep : mt sg p.1 (j + 1) (i + 1) = (mt sg p.1 j (i + 1) || mt sg p.1 (j + 1) i) := by rw [hst]; rfl
            have e7 : ¬ (p.1.length : Int) < ((i + 1 : Nat) : Int) := by omega
            have e1 : ((i + 1 : Nat) : Int) - 1 = (i : Int) := by omega
            have e9 : ((i + 1 : Nat) : Int) + 1 = ((i + 1 + 1 : Nat) : Int) := by omega
            refine ⟨(i + 1, am_fu V 27 (am_fu (V 27) (i + 1) (bi (mt sg p.1 (j + 1) (i + 1))))), ⟨by dsimp only; omega, q2.up (by decide) _, fun x hx => ?_, fun x h1 h2 => ?_⟩, by dsimp only; omega, ?_⟩
            · dsimp only at hx ⊢
              rw [fu_self]
              by_cases cx : x = i + 1
              · subst cx; rw [fu_self]
              · rw [fu_ne cx]; exact q3 x (by omega)
            · dsimp only at h1 ⊢
              rw [fu_self, fu_ne (by omega)]
              exact q4 x (by omega) h2
            · dsimp only
              rw [hstep]
              cases c1 : mt sg p.1 j (i + 1) with
              | true =>
                rw [c1] at r1
                have r1' : V 27 (i + 1) = 1 := r1
                rw [Bool.true_or]
                have eb : bi true = 1 := rfl
                (try dsimp only); rw [B_md_isLikeSigns_61]; (try simp (disch := omega) only [Option.bind_some, if_true, if_false, eq_self, not_true_eq_false, not_false_eq_true, am_w_id, if_pos, if_neg, fu_self, fu_ne, Int.toNat_natCast, e7, r1', eb, e9, m_s_27, show ¬ (1 : Int) = 0 by decide]); rw [B_md_isLikeSigns_67]; (try simp (disch := omega) only [Option.bind_some, if_true, if_false, eq_self, not_true_eq_false, not_false_eq_true, am_w_id, if_pos, if_neg, fu_self, fu_ne, Int.toNat_natCast, m_gR_27, m_l_27, m_s_27, e7, r1', eb, e9, m_s_27, show ¬ (1 : Int) = 0 by decide]); rw [B_md_isLikeSigns_95]; (try simp (disch := omega) only [Option.bind_some, if_true, if_false, eq_self, not_true_eq_false, not_false_eq_true, am_w_id, if_pos, if_neg, fu_self, fu_ne, Int.toNat_natCast, e7, r1', eb, e9, m_s_27, show ¬ (1 : Int) = 0 by decide]); rw [B_md_isLikeSigns_100]; (try simp (disch := omega) only [Option.bind_some, if_true, if_false, eq_self, not_true_eq_false, not_false_eq_true, am_w_id, if_pos, if_neg, fu_self, fu_ne, Int.toNat_natCast, e7, r1', eb, e9, m_s_27, show ¬ (1 : Int) = 0 by decide])
              | false =>
                rw [c1] at r1
                have r1' : V 27 (i + 1) = 0 := r1
                rw [Bool.false_or]
                cases c2 : mt sg p.1 (j + 1) i with
                | true =>
                  rw [c2] at r2
                  have r2' : V 27 i = 1 := r2
                  have eb : bi true = 1 := rfl
                  (try dsimp only); rw [B_md_isLikeSigns_61]; (try simp (disch := omega) only [Option.bind_some, if_true, if_false, eq_self, not_true_eq_false, not_false_eq_true, am_w_id, if_pos, if_neg, fu_self, fu_ne, Int.toNat_natCast, e7, r1', e1, r2', eb, e9, m_s_27, show ¬ (1 : Int) = 0 by decide]); rw [B_md_isLikeSigns_67]; (try simp (disch := omega) only [Option.bind_some, if_true, if_false, eq_self, not_true_eq_false, not_false_eq_true, am_w_id, if_pos, if_neg, fu_self, fu_ne, Int.toNat_natCast, m_gR_27, m_l_27, m_s_27, e7, r1', e1, r2', eb, e9, m_s_27, show ¬ (1 : Int) = 0 by decide]); rw [B_md_isLikeSigns_83]; (try simp (disch := omega) only [Option.bind_some, if_true, if_false, eq_self, not_true_eq_false, not_false_eq_true, am_w_id, if_pos, if_neg, fu_self, fu_ne, Int.toNat_natCast, m_gR_27, m_l_27, m_s_27, e7, r1', e1, r2', eb, e9, m_s_27, show ¬ (1 : Int) = 0 by decide]); rw [B_md_isLikeSigns_95]; (try simp (disch := omega) only [Option.bind_some, if_true, if_false, eq_self, not_true_eq_false, not_false_eq_true, am_w_id, if_pos, if_neg, fu_self, fu_ne, Int.toNat_natCast, e7, r1', e1, r2', eb, e9, m_s_27, show ¬ (1 : Int) = 0 by decide]); rw [B_md_isLikeSigns_100]; (try simp (disch := omega) only [Option.bind_some, if_true, if_false, eq_self, not_true_eq_false, not_false_eq_true, am_w_id, if_pos, if_neg, fu_self, fu_ne, Int.toNat_natCast, e7, r1', e1, r2', eb, e9, m_s_27, show ¬ (1 : Int) = 0 by decide])
                | false =>
                  rw [c2] at r2
                  have r2' : V 27 i = 0 := r2
                  have eb : bi false = 0 := rfl
                  (try dsimp only); rw [B_md_isLikeSigns_61]; (try simp (disch := omega) only [Option.bind_some, if_true, if_false, eq_self, not_true_eq_false, not_false_eq_true, am_w_id, if_pos, if_neg, fu_self, fu_ne, Int.toNat_natCast, e7, r1', e1, r2', eb, e9, m_s_27]); rw [B_md_isLikeSigns_67]; (try simp (disch := omega) only [Option.bind_some, if_true, if_false, eq_self, not_true_eq_false, not_false_eq_true, am_w_id, if_pos, if_neg, fu_self, fu_ne, Int.toNat_natCast, m_gR_27, m_l_27, m_s_27, e7, r1', e1, r2', eb, e9, m_s_27]); rw [B_md_isLikeSigns_83]; (try simp (disch := omega) only [Option.bind_some, if_true, if_false, eq_self, not_true_eq_false, not_false_eq_true, am_w_id, if_pos, if_neg, fu_self, fu_ne, Int.toNat_natCast, m_gR_27, m_l_27, m_s_27, e7, r1', e1, r2', eb, e9, m_s_27]); rw [B_md_isLikeSigns_99]; (try simp (disch := omega) only [Option.bind_some, if_true, if_false, eq_self, not_true_eq_false, not_false_eq_true, am_w_id, if_pos, if_neg, fu_self, fu_ne, Int.toNat_natCast, e7, r1', e1, r2', eb, e9, m_s_27]); rw [B_md_isLikeSigns_100]; (try simp (disch := omega) only [Option.bind_some, if_true, if_false, eq_self, not_true_eq_false, not_false_eq_true, am_w_id, if_pos, if_neg, fu_self, fu_ne, Int.toNat_natCast, e7, r1', e1, r2', eb, e9, m_s_27])
        · dsimp only at hi ⊢
          have : i = 0 := by omega
          subst this
          rw [hst]
          exact p3 0 (Nat.zero_le _)
      · have hlt := mt_let (w := p.1) cs
        -- a letter, or any
        have row := am_loop (S := Nat × (Nat → Nat → Int)) (F := fun s => EV (d + 1) N_md_isLikeSigns T_md_isLikeSigns_113 [.inr (.inr (some (m))), .inl ((w : Int)), .inl ((p.1.length : Int)), .inl ((j : Int)), .inl ((s.1 : Int))] [] (MH m g s.2)) (I := fun s => s.1 ≤ p.1.length ∧ fd [27] S s.2 ∧ (∀ i, i ≤ s.1 → s.2 27 i = bi (mt sg p.1 j i)) ∧ ∀ i, s.1 < i → i ≤ p.1.length → s.2 27 i = bi (mt sg p.1 (j + 1) i))
          (R := fun o => ∃ V x4, o = EV (d + 1) N_md_isLikeSigns T_md_isLikeSigns_40 [.inr (.inr (some (m))), .inl ((w : Int)), .inl ((p.1.length : Int)), .inl (((j + 1 : Nat) : Int)), x4] [] (MH m g V) ∧ fd [27] S V ∧ ∀ i, i ≤ p.1.length → V 27 i = bi (mt sg p.1 (j + 1) i)) (fun s => s.1) ?_ (p.1.length, U) ⟨Nat.le_refl _, p2, p3, fun i h1 h2 => by dsimp only at h1; omega⟩
        · obtain ⟨V, x4, e, v1, v2⟩ := row
          refine ⟨(j + 1, V, x4), ⟨by dsimp only; omega, v1, v2⟩, by dsimp only; omega, ?_⟩
          refine Eq.trans ?_ e
          (try dsimp only); rw [B_md_isLikeSigns_40]; (try simp (disch := omega) only [Option.bind_some, if_true, if_false, eq_self, not_true_eq_false, not_false_eq_true, am_w_id, if_pos, if_neg, fu_self, fu_ne, Int.toNat_natCast, m_gI_26, m_p_26, u26, u25, cs]); rw [B_md_isLikeSigns_48]; (try simp (disch := omega) only [Option.bind_some, if_true, if_false, eq_self, not_true_eq_false, not_false_eq_true, am_w_id, if_pos, if_neg, fu_self, fu_ne, Int.toNat_natCast, m_gR_25, m_l_25, m_s_25, u26, u25, cs]); rw [B_md_isLikeSigns_110]; (try simp (disch := omega) only [Option.bind_some, if_true, if_false, eq_self, not_true_eq_false, not_false_eq_true, am_w_id, if_pos, if_neg, fu_self, fu_ne, Int.toNat_natCast, u26, u25, cs])
        · rintro ⟨i, V⟩ ⟨q1, q2, q3, q4⟩
          dsimp only at q1 q2 q3 q4 ⊢
          cases i with
          | zero =>
            left
            refine ⟨am_fu V 27 (am_fu (V 27) 0 0), .inl 0, ?_, q2.up (by decide) _, fun i hi => ?_⟩
            · (try dsimp only); rw [B_md_isLikeSigns_113]; (try simp (disch := omega) only [Option.bind_some, if_true, if_false, eq_self, not_true_eq_false, not_false_eq_true, am_w_id, if_pos, if_neg, fu_self, fu_ne, Int.toNat_natCast, e9j, Int.toNat_zero]); rw [B_md_isLikeSigns_179]; (try simp (disch := omega) only [Option.bind_some, if_true, if_false, eq_self, not_true_eq_false, not_false_eq_true, am_w_id, if_pos, if_neg, fu_self, fu_ne, Int.toNat_natCast, m_gR_27, m_l_27, m_s_27, e9j, Int.toNat_zero]); rw [B_md_isLikeSigns_186]; (try simp (disch := omega) only [Option.bind_some, if_true, if_false, eq_self, not_true_eq_false, not_false_eq_true, am_w_id, if_pos, if_neg, fu_self, fu_ne, Int.toNat_natCast, e9j, Int.toNat_zero])
              rfl
            · rw [fu_self]
              by_cases ci : i = 0
              · subst ci; rw [fu_self, hlt]; rfl
              · rw [fu_ne ci]; exact q4 i (by omega) hi
          | succ i =>
            right
            have HV := H.frd q2 (by decide)
            have hlet := fun d => md_letterOf0 (m := m) (g := g) HV hw (show i < 10 by omega) d
            have v25 : V 25 j = sg.getD j 0 := by rw [q2 25 (by decide)]; exact h25 j (by omega)
            have r2 := q3 i (by omega)
            have hstep : mt sg p.1 (j + 1) (i + 1) = (mt sg p.1 j i && (decide (sg.getD j 0 = 0) || decide (sg.getD j 0 = p.1.getD i 0))) := by rw [hlt]; rfl
            have e1 : ((i + 1 : Nat) : Int) - 1 = (i : Int) := by omega
            have e2 : ((i + 1 : Nat) : Int) + (-1) = (i : Int) := by omega
            have e7 : ¬ ((i + 1 : Nat) : Int) ≤ 0 := by omega
            refine ⟨(i, am_fu V 27 (am_fu (V 27) (i + 1) (bi (mt sg p.1 (j + 1) (i + 1))))), ⟨by dsimp only; omega, q2.up (by decide) _, fun x hx => ?_, fun x h1 h2 => ?_⟩, by dsimp only; omega, ?_⟩
            · dsimp only at hx ⊢
              rw [fu_self, fu_ne (by omega)]
              exact q3 x (by omega)
            · dsimp only at h1 ⊢
              rw [fu_self]
              by_cases cx : x = i + 1
              · subst cx; rw [fu_self]
              · rw [fu_ne cx]; exact q4 x (by omega) h2
            · dsimp only
              rw [hstep]
              cases c1 : mt sg p.1 j i with
              | false =>
                rw [c1] at r2
                have r2' : V 27 i = 0 := r2
                rw [Bool.false_and]
                have eb : bi false = 0 := rfl
                (try dsimp only); rw [B_md_isLikeSigns_113]; (try simp (disch := omega) only [Option.bind_some, if_true, if_false, eq_self, not_true_eq_false, not_false_eq_true, am_w_id, if_pos, if_neg, fu_self, fu_ne, Int.toNat_natCast, e7, e1, r2', eb, e2, m_s_27]); rw [B_md_isLikeSigns_118]; (try simp (disch := omega) only [Option.bind_some, if_true, if_false, eq_self, not_true_eq_false, not_false_eq_true, am_w_id, if_pos, if_neg, fu_self, fu_ne, Int.toNat_natCast, m_gR_27, m_l_27, m_s_27, e7, e1, r2', eb, e2, m_s_27]); rw [B_md_isLikeSigns_171]; (try simp (disch := omega) only [Option.bind_some, if_true, if_false, eq_self, not_true_eq_false, not_false_eq_true, am_w_id, if_pos, if_neg, fu_self, fu_ne, Int.toNat_natCast, e7, e1, r2', eb, e2, m_s_27]); rw [B_md_isLikeSigns_172]; (try simp (disch := omega) only [Option.bind_some, if_true, if_false, eq_self, not_true_eq_false, not_false_eq_true, am_w_id, if_pos, if_neg, fu_self, fu_ne, Int.toNat_natCast, e7, e1, r2', eb, e2, m_s_27])
              | true =>
                rw [c1] at r2
                have r2' : V 27 i = 1 := r2
                rw [Bool.true_and]
                by_cases c2 : sg.getD j 0 = 0
                · have eb : bi (decide (sg.getD j 0 = 0) || decide (sg.getD j 0 = p.1.getD i 0)) = 1 := by rw [decide_eq_true c2]; rfl
                  rw [eb]
                  (try dsimp only); rw [B_md_isLikeSigns_113]; (try simp (disch := omega) only [Option.bind_some, if_true, if_false, eq_self, not_true_eq_false, not_false_eq_true, am_w_id, if_pos, if_neg, fu_self, fu_ne, Int.toNat_natCast, e7, e1, r2', v25, c2, e2, m_s_27, show ¬ (1 : Int) = 0 by decide]); rw [B_md_isLikeSigns_118]; (try simp (disch := omega) only [Option.bind_some, if_true, if_false, eq_self, not_true_eq_false, not_false_eq_true, am_w_id, if_pos, if_neg, fu_self, fu_ne, Int.toNat_natCast, m_gR_27, m_l_27, m_s_27, e7, e1, r2', v25, c2, e2, m_s_27, show ¬ (1 : Int) = 0 by decide]); rw [B_md_isLikeSigns_136]; (try simp (disch := omega) only [Option.bind_some, if_true, if_false, eq_self, not_true_eq_false, not_false_eq_true, am_w_id, if_pos, if_neg, fu_self, fu_ne, Int.toNat_natCast, m_gR_25, m_l_25, m_s_25, e7, e1, r2', v25, c2, e2, m_s_27, show ¬ (1 : Int) = 0 by decide]); rw [B_md_isLikeSigns_167]; (try simp (disch := omega) only [Option.bind_some, if_true, if_false, eq_self, not_true_eq_false, not_false_eq_true, am_w_id, if_pos, if_neg, fu_self, fu_ne, Int.toNat_natCast, e7, e1, r2', v25, c2, e2, m_s_27, show ¬ (1 : Int) = 0 by decide]); rw [B_md_isLikeSigns_172]; (try simp (disch := omega) only [Option.bind_some, if_true, if_false, eq_self, not_true_eq_false, not_false_eq_true, am_w_id, if_pos, if_neg, fu_self, fu_ne, Int.toNat_natCast, e7, e1, r2', v25, c2, e2, m_s_27, show ¬ (1 : Int) = 0 by decide])
                · by_cases c3 : sg.getD j 0 = p.1.getD i 0
                  · have eb : bi (decide (sg.getD j 0 = 0) || decide (sg.getD j 0 = p.1.getD i 0)) = 1 := by rw [decide_eq_true c3, Bool.or_true]; rfl
                    rw [eb]
                    rw [c3] at c2 v25
                    (try dsimp only); rw [B_md_isLikeSigns_113]; (try simp (disch := omega) only [Option.bind_some, if_true, if_false, eq_self, not_true_eq_false, not_false_eq_true, am_w_id, if_pos, if_neg, fu_self, fu_ne, Int.toNat_natCast, e7, e1, r2', v25, c2, hlet, e2, m_s_27, show ¬ (1 : Int) = 0 by decide]); rw [B_md_isLikeSigns_118]; (try simp (disch := omega) only [Option.bind_some, if_true, if_false, eq_self, not_true_eq_false, not_false_eq_true, am_w_id, if_pos, if_neg, fu_self, fu_ne, Int.toNat_natCast, m_gR_27, m_l_27, m_s_27, e7, e1, r2', v25, c2, hlet, e2, m_s_27, show ¬ (1 : Int) = 0 by decide]); rw [B_md_isLikeSigns_136]; (try simp (disch := omega) only [Option.bind_some, if_true, if_false, eq_self, not_true_eq_false, not_false_eq_true, am_w_id, if_pos, if_neg, fu_self, fu_ne, Int.toNat_natCast, m_gR_25, m_l_25, m_s_25, e7, e1, r2', v25, c2, hlet, e2, m_s_27, show ¬ (1 : Int) = 0 by decide]); rw [B_md_isLikeSigns_145]; (try simp (disch := omega) only [Option.bind_some, if_true, if_false, eq_self, not_true_eq_false, not_false_eq_true, am_w_id, if_pos, if_neg, fu_self, fu_ne, Int.toNat_natCast, m_gR_25, m_l_25, m_s_25, m_gR_2, m_l_2, m_s_2, e7, e1, r2', v25, c2, hlet, e2, m_s_27, show ¬ (1 : Int) = 0 by decide]); rw [B_md_isLikeSigns_167]; (try simp (disch := omega) only [Option.bind_some, if_true, if_false, eq_self, not_true_eq_false, not_false_eq_true, am_w_id, if_pos, if_neg, fu_self, fu_ne, Int.toNat_natCast, e7, e1, r2', v25, c2, hlet, e2, m_s_27, show ¬ (1 : Int) = 0 by decide]); rw [B_md_isLikeSigns_172]; (try simp (disch := omega) only [Option.bind_some, if_true, if_false, eq_self, not_true_eq_false, not_false_eq_true, am_w_id, if_pos, if_neg, fu_self, fu_ne, Int.toNat_natCast, e7, e1, r2', v25, c2, hlet, e2, m_s_27, show ¬ (1 : Int) = 0 by decide])
                  · have eb : bi (decide (sg.getD j 0 = 0) || decide (sg.getD j 0 = p.1.getD i 0)) = 0 := by rw [decide_eq_false c2, decide_eq_false c3]; rfl
                    rw [eb]
                    (try dsimp only); rw [B_md_isLikeSigns_113]; (try simp (disch := omega) only [Option.bind_some, if_true, if_false, eq_self, not_true_eq_false, not_false_eq_true, am_w_id, if_pos, if_neg, fu_self, fu_ne, Int.toNat_natCast, e7, e1, r2', v25, c2, c3, hlet, e2, m_s_27, show ¬ (1 : Int) = 0 by decide]); rw [B_md_isLikeSigns_118]; (try simp (disch := omega) only [Option.bind_some, if_true, if_false, eq_self, not_true_eq_false, not_false_eq_true, am_w_id, if_pos, if_neg, fu_self, fu_ne, Int.toNat_natCast, m_gR_27, m_l_27, m_s_27, e7, e1, r2', v25, c2, c3, hlet, e2, m_s_27, show ¬ (1 : Int) = 0 by decide]); rw [B_md_isLikeSigns_136]; (try simp (disch := omega) only [Option.bind_some, if_true, if_false, eq_self, not_true_eq_false, not_false_eq_true, am_w_id, if_pos, if_neg, fu_self, fu_ne, Int.toNat_natCast, m_gR_25, m_l_25, m_s_25, e7, e1, r2', v25, c2, c3, hlet, e2, m_s_27, show ¬ (1 : Int) = 0 by decide]); rw [B_md_isLikeSigns_145]; (try simp (disch := omega) only [Option.bind_some, if_true, if_false, eq_self, not_true_eq_false, not_false_eq_true, am_w_id, if_pos, if_neg, fu_self, fu_ne, Int.toNat_natCast, m_gR_25, m_l_25, m_s_25, m_gR_2, m_l_2, m_s_2, e7, e1, r2', v25, c2, c3, hlet, e2, m_s_27, show ¬ (1 : Int) = 0 by decide]); rw [B_md_isLikeSigns_171]; (try simp (disch := omega) only [Option.bind_some, if_true, if_false, eq_self, not_true_eq_false, not_false_eq_true, am_w_id, if_pos, if_neg, fu_self, fu_ne, Int.toNat_natCast, e7, e1, r2', v25, c2, c3, hlet, e2, m_s_27, show ¬ (1 : Int) = 0 by decide]); rw [B_md_isLikeSigns_172]; (try simp (disch := omega) only [Option.bind_some, if_true, if_false, eq_self, not_true_eq_false, not_false_eq_true, am_w_id, if_pos, if_neg, fu_self, fu_ne, Int.toNat_natCast, e7, e1, r2', v25, c2, c3, hlet, e2, m_s_27, show ¬ (1 : Int) = 0 by decide])
theorem mo_like (H : MR S t ws bs hs sh) (O : okS t ws bs hs sh) (k : Int) (d : Nat) : ∃ S', am_cI (d + 2) N_md_like [.inr (.inr (some (m))), .inl (k)] (MH m g S) = some ((sp_like k (t, ws, bs, hs, sh)).1, MH m g S') ∧ MS S' (sp_like k (t, ws, bs, hs, sh)).2 := by
  obtain ⟨r, S1, e1, hr, H1, h26, h25⟩ := md_readsPattern (m := m) (g := g) H d
  have O1 := okS_t O
  have hl := O.2.1.2.2
  have ht := O.1.1
  unfold sp_like
  dsimp only [noT, MS]
  rcases hr with ⟨hr, hp⟩ | ⟨hr, hp⟩
  · subst hr
    by_cases ck : -1 ≤ k
    · rw [if_pos ⟨hp, ck⟩]
      have hml : (t.map sgn).length = t.length := List.length_map _
      have hmg : ∀ i, i < t.length → (t.map sgn).getD i 0 = sgn (t.getD i 0) := fun i hi => by
        rw [gd_s (by rw [hml]; exact hi), List.getElem_map, gd_s hi]
      generalize hres : pk (fun i => mt (t.map sgn) (wdi ws i) t.length (wdi ws i).length) k 0 ws.length 0 = res
      have start : am_call (d + 2) N_md_like [.inr (.inr (some (m))), .inl (k)] (MH m g S) = EV (d + 2) N_md_like T_md_like_18 [.inr (.inr (some (m))), .inl (k), .inl (0), .inl (((0 : Nat) : Int))] [] (MH m g S1) := by
        (try dsimp only); rw [en_md_like]; (try simp (disch := omega) only [Option.bind_some, if_true, if_false, eq_self, not_true_eq_false, not_false_eq_true, am_w_id, if_pos, if_neg, fu_self, fu_ne, Int.toNat_natCast, e1, show ¬ (1 : Int) = 0 by decide]); rw [B_md_like_0]; (try simp (disch := omega) only [Option.bind_some, if_true, if_false, eq_self, not_true_eq_false, not_false_eq_true, am_w_id, if_pos, if_neg, fu_self, fu_ne, Int.toNat_natCast, m_O, e1, show ¬ (1 : Int) = 0 by decide]); rw [B_md_like_7]; (try simp (disch := omega) only [Option.bind_some, if_true, if_false, eq_self, not_true_eq_false, not_false_eq_true, am_w_id, if_pos, if_neg, fu_self, fu_ne, Int.toNat_natCast, e1, show ¬ (1 : Int) = 0 by decide]); rw [B_md_like_14]; (try simp (disch := omega) only [Option.bind_some, if_true, if_false, eq_self, not_true_eq_false, not_false_eq_true, am_w_id, if_pos, if_neg, fu_self, fu_ne, Int.toNat_natCast, e1, show ¬ (1 : Int) = 0 by decide])
        rfl
      have main := am_loop (S := Nat × (Int × (Nat → Nat → Int))) (F := fun s => EV (d + 2) N_md_like T_md_like_18 [.inr (.inr (some (m))), .inl (k), .inl (s.2.1), .inl ((s.1 : Int))] [] (MH m g s.2.2)) (I := fun s => s.1 ≤ ws.length ∧ (0 ≤ s.2.1 ∧ s.2.1 ≤ s.1) ∧ fd [27] S1 s.2.2 ∧ pk (fun i => mt (t.map sgn) (wdi ws i) t.length (wdi ws i).length) k s.1 (ws.length - s.1) s.2.1 = res)
        (R := fun o => ∃ S', o = some (some (.inl res), MH m g S') ∧ fd [27] S1 S') (fun s => ws.length - s.1) ?_ (0, 0, S1) ⟨Nat.zero_le _, ⟨Int.le_refl _, Int.le_refl _⟩, fd.rf, hres⟩
      · obtain ⟨S', e, F⟩ := main
        exact ⟨S', am_cI_of (start.trans e), H1.frd F (by decide)⟩
      · rintro ⟨w, f, U⟩ ⟨p1, p2, p3, p4⟩
        dsimp only at p1 p2 p3 p4 ⊢
        have HU := H1.frd p3 (by decide)
        have u1 := HU.2.1.1
        by_cases cw' : w = ws.length
        · left
          subst cw'
          rw [pk_end] at p4
          by_cases ck1 : k = -1
          · rw [if_pos ck1] at p4
            refine ⟨U, ?_, p3⟩
            (try dsimp only); rw [B_md_like_18]; (try simp (disch := omega) only [Option.bind_some, if_true, if_false, eq_self, not_true_eq_false, not_false_eq_true, am_w_id, if_pos, if_neg, fu_self, fu_ne, Int.toNat_natCast, m_gR_2, m_l_2, m_s_2, u1, ck1, Int.reduceToNat]); rw [B_md_like_55]; (try simp (disch := omega) only [Option.bind_some, if_true, if_false, eq_self, not_true_eq_false, not_false_eq_true, am_w_id, if_pos, if_neg, fu_self, fu_ne, Int.toNat_natCast, u1, ck1, Int.reduceToNat]); rw [B_md_like_60]; (try simp (disch := omega) only [Option.bind_some, if_true, if_false, eq_self, not_true_eq_false, not_false_eq_true, am_w_id, if_pos, if_neg, fu_self, fu_ne, Int.toNat_natCast, u1, ck1, Int.reduceToNat]); rw [B_md_like_66]; (try simp (disch := omega) only [Option.bind_some, if_true, if_false, eq_self, not_true_eq_false, not_false_eq_true, am_w_id, if_pos, if_neg, fu_self, fu_ne, Int.toNat_natCast, u1, ck1, Int.reduceToNat])
            rw [p4]
          · rw [if_neg ck1] at p4
            refine ⟨U, ?_, p3⟩
            (try dsimp only); rw [B_md_like_18]; (try simp (disch := omega) only [Option.bind_some, if_true, if_false, eq_self, not_true_eq_false, not_false_eq_true, am_w_id, if_pos, if_neg, fu_self, fu_ne, Int.toNat_natCast, m_gR_2, m_l_2, m_s_2, u1, ck1, Int.reduceToNat]); rw [B_md_like_55]; (try simp (disch := omega) only [Option.bind_some, if_true, if_false, eq_self, not_true_eq_false, not_false_eq_true, am_w_id, if_pos, if_neg, fu_self, fu_ne, Int.toNat_natCast, u1, ck1, Int.reduceToNat]); rw [B_md_like_64]; (try simp (disch := omega) only [Option.bind_some, if_true, if_false, eq_self, not_true_eq_false, not_false_eq_true, am_w_id, if_pos, if_neg, fu_self, fu_ne, Int.toNat_natCast, u1, ck1, Int.reduceToNat]); rw [B_md_like_66]; (try simp (disch := omega) only [Option.bind_some, if_true, if_false, eq_self, not_true_eq_false, not_false_eq_true, am_w_id, if_pos, if_neg, fu_self, fu_ne, Int.toNat_natCast, u1, ck1, Int.reduceToNat])
            rw [p4]
        · have hwl : w < ws.length := by omega
          have hget : ws[w]? = some ws[w] := List.getElem?_eq_getElem hwl
          obtain ⟨V, e2, F2⟩ := md_isLikeSigns (m := m) (g := g) HU O1 (sg := t.map sgn) (by rw [p3 26 (by decide), hml]; exact h26) (fun i hi => by rw [hml] at hi; rw [p3 25 (by decide), hmg i hi]; exact h25 i hi) (by omega) hget d
          rw [hml] at e2
          rw [pk_step hwl, wdi_get hget] at p4
          have e9 : (w : Int) + 1 = ((w + 1 : Nat) : Int) := by omega
          cases cf : mt (t.map sgn) ws[w].1 t.length ws[w].1.length with
          | true =>
            rw [cf] at p4 e2
            rw [if_pos rfl] at p4
            have eb : bi true = 1 := rfl
            rw [eb] at e2
            by_cases ce : f = k
            · left
              rw [if_pos ce] at p4
              refine ⟨V, ?_, p3.tr F2⟩
              (try dsimp only); rw [B_md_like_18]; (try simp (disch := omega) only [Option.bind_some, if_true, if_false, eq_self, not_true_eq_false, not_false_eq_true, am_w_id, if_pos, if_neg, fu_self, fu_ne, Int.toNat_natCast, m_gR_2, m_l_2, m_s_2, u1, e2, ce, Int.reduceToNat, show ¬ (1 : Int) = 0 by decide]); rw [B_md_like_28]; (try simp (disch := omega) only [Option.bind_some, if_true, if_false, eq_self, not_true_eq_false, not_false_eq_true, am_w_id, if_pos, if_neg, fu_self, fu_ne, Int.toNat_natCast, m_O, u1, e2, ce, Int.reduceToNat, show ¬ (1 : Int) = 0 by decide]); rw [B_md_like_39]; (try simp (disch := omega) only [Option.bind_some, if_true, if_false, eq_self, not_true_eq_false, not_false_eq_true, am_w_id, if_pos, if_neg, fu_self, fu_ne, Int.toNat_natCast, u1, e2, ce, Int.reduceToNat, show ¬ (1 : Int) = 0 by decide]); rw [B_md_like_44]; (try simp (disch := omega) only [Option.bind_some, if_true, if_false, eq_self, not_true_eq_false, not_false_eq_true, am_w_id, if_pos, if_neg, fu_self, fu_ne, Int.toNat_natCast, u1, e2, ce, Int.reduceToNat, show ¬ (1 : Int) = 0 by decide])
              rw [p4]
            · right
              rw [if_neg ce] at p4
              refine ⟨(w + 1, f + 1, V), ⟨by dsimp only; omega, ⟨by dsimp only; omega, by dsimp only; omega⟩, p3.tr F2, p4⟩, by dsimp only; omega, ?_⟩
              (try dsimp only); rw [B_md_like_18]; (try simp (disch := omega) only [Option.bind_some, if_true, if_false, eq_self, not_true_eq_false, not_false_eq_true, am_w_id, if_pos, if_neg, fu_self, fu_ne, Int.toNat_natCast, m_gR_2, m_l_2, m_s_2, u1, e2, ce, e9, Int.reduceToNat, show ¬ (1 : Int) = 0 by decide]); rw [B_md_like_28]; (try simp (disch := omega) only [Option.bind_some, if_true, if_false, eq_self, not_true_eq_false, not_false_eq_true, am_w_id, if_pos, if_neg, fu_self, fu_ne, Int.toNat_natCast, m_O, u1, e2, ce, e9, Int.reduceToNat, show ¬ (1 : Int) = 0 by decide]); rw [B_md_like_39]; (try simp (disch := omega) only [Option.bind_some, if_true, if_false, eq_self, not_true_eq_false, not_false_eq_true, am_w_id, if_pos, if_neg, fu_self, fu_ne, Int.toNat_natCast, u1, e2, ce, e9, Int.reduceToNat, show ¬ (1 : Int) = 0 by decide]); rw [B_md_like_46]; (try simp (disch := omega) only [Option.bind_some, if_true, if_false, eq_self, not_true_eq_false, not_false_eq_true, am_w_id, if_pos, if_neg, fu_self, fu_ne, Int.toNat_natCast, u1, e2, ce, e9, Int.reduceToNat, show ¬ (1 : Int) = 0 by decide]); rw [B_md_like_49]; (try simp (disch := omega) only [Option.bind_some, if_true, if_false, eq_self, not_true_eq_false, not_false_eq_true, am_w_id, if_pos, if_neg, fu_self, fu_ne, Int.toNat_natCast, u1, e2, ce, e9, Int.reduceToNat, show ¬ (1 : Int) = 0 by decide])
          | false =>
            rw [cf] at p4 e2
            rw [if_neg (by decide)] at p4
            have eb : bi false = 0 := rfl
            rw [eb] at e2
            right
            refine ⟨(w + 1, f, V), ⟨by dsimp only; omega, ⟨by dsimp only; omega, by dsimp only; omega⟩, p3.tr F2, p4⟩, by dsimp only; omega, ?_⟩
            (try dsimp only); rw [B_md_like_18]; (try simp (disch := omega) only [Option.bind_some, if_true, if_false, eq_self, not_true_eq_false, not_false_eq_true, am_w_id, if_pos, if_neg, fu_self, fu_ne, Int.toNat_natCast, m_gR_2, m_l_2, m_s_2, u1, e2, e9, Int.reduceToNat]); rw [B_md_like_28]; (try simp (disch := omega) only [Option.bind_some, if_true, if_false, eq_self, not_true_eq_false, not_false_eq_true, am_w_id, if_pos, if_neg, fu_self, fu_ne, Int.toNat_natCast, m_O, u1, e2, e9, Int.reduceToNat]); rw [B_md_like_36]; (try simp (disch := omega) only [Option.bind_some, if_true, if_false, eq_self, not_true_eq_false, not_false_eq_true, am_w_id, if_pos, if_neg, fu_self, fu_ne, Int.toNat_natCast, u1, e2, e9, Int.reduceToNat]); rw [B_md_like_49]; (try simp (disch := omega) only [Option.bind_some, if_true, if_false, eq_self, not_true_eq_false, not_false_eq_true, am_w_id, if_pos, if_neg, fu_self, fu_ne, Int.toNat_natCast, u1, e2, e9, Int.reduceToNat])
    · rw [if_neg (fun h => ck h.2)]
      refine ⟨S1, am_cI_of ?_, H1⟩
      (try dsimp only); rw [en_md_like]; (try simp (disch := omega) only [Option.bind_some, if_true, if_false, eq_self, not_true_eq_false, not_false_eq_true, am_w_id, if_pos, if_neg, fu_self, fu_ne, Int.toNat_natCast, e1, ck, show ¬ (1 : Int) = 0 by decide]); rw [B_md_like_0]; (try simp (disch := omega) only [Option.bind_some, if_true, if_false, eq_self, not_true_eq_false, not_false_eq_true, am_w_id, if_pos, if_neg, fu_self, fu_ne, Int.toNat_natCast, m_O, e1, ck, show ¬ (1 : Int) = 0 by decide]); rw [B_md_like_7]; (try simp (disch := omega) only [Option.bind_some, if_true, if_false, eq_self, not_true_eq_false, not_false_eq_true, am_w_id, if_pos, if_neg, fu_self, fu_ne, Int.toNat_natCast, e1, ck, show ¬ (1 : Int) = 0 by decide]); rw [B_md_like_12]; (try simp (disch := omega) only [Option.bind_some, if_true, if_false, eq_self, not_true_eq_false, not_false_eq_true, am_w_id, if_pos, if_neg, fu_self, fu_ne, Int.toNat_natCast, e1, ck, show ¬ (1 : Int) = 0 by decide])
  · subst hr
    rw [if_neg (fun h => hp h.1)]
    refine ⟨S1, am_cI_of ?_, H1⟩
    (try dsimp only); rw [en_md_like]; (try simp (disch := omega) only [Option.bind_some, if_true, if_false, eq_self, not_true_eq_false, not_false_eq_true, am_w_id, if_pos, if_neg, fu_self, fu_ne, Int.toNat_natCast, e1]); rw [B_md_like_0]; (try simp (disch := omega) only [Option.bind_some, if_true, if_false, eq_self, not_true_eq_false, not_false_eq_true, am_w_id, if_pos, if_neg, fu_self, fu_ne, Int.toNat_natCast, m_O, e1]); rw [B_md_like_12]; (try simp (disch := omega) only [Option.bind_some, if_true, if_false, eq_self, not_true_eq_false, not_false_eq_true, am_w_id, if_pos, if_neg, fu_self, fu_ne, Int.toNat_natCast, e1])
end MO
