/-! unpack: all bytes read -/
section MO
variable {m : Nat} {g : am_H} {S : Nat → Nat → Int} {t : List Int}
/-- a machine that was read: its tables -/
def mcR (S : Nat → Nat → Int) (u : Int) (ss : List sta) : Prop := S 35 0 = (ss.length : Int) ∧ S 36 0 = u ∧ arcR S (fla ss) ∧ upS S ss
theorem mcR.fr {S S' : Nat → Nat → Int} {u : Int} {ss : List sta} (h : mcR S u ss) {l : List Nat} (F : fd l S S') (hl : l.all (fun k => decide (k < 35 ∨ 42 < k)) = true) : mcR S' u ss := by
  have key : ∀ k, 35 ≤ k ∧ k ≤ 42 → S' k = S k := fun k hk => F k (fun hm => by
    have := List.all_eq_true.mp hl k hm
    simp only [decide_eq_true_eq] at this
    omega)
  unfold mcR arcR upS at *
  rw [key 35 (by decide), key 36 (by decide), key 37 (by decide), key 38 (by decide), key 39 (by decide), key 40 (by decide), key 41 (by decide), key 42 (by decide)]
  exact h
theorem md_readsBytes (T : taR S t) (d : Nat) :
    (∃ f S', rdB t = .inl f ∧ am_cI (d + 3) N_md_readsBytes [.inr (.inr (some (m)))] (MH m g S) = some (0, MH m g S') ∧ S' 10 0 = f ∧ fd [9, 10, 33, 34, 35, 36, 37, 38, 39, 40, 41, 42] S S') ∨
    ∃ u ss S', rdB t = .inr (u, ss) ∧ am_cI (d + 3) N_md_readsBytes [.inr (.inr (some (m)))] (MH m g S) = some (1, MH m g S') ∧ mcR S' u ss ∧ (0 ≤ u ∧ u ≤ 999999) ∧ (1 ≤ ss.length ∧ ss.length ≤ 1001) ∧ (fla ss).length ≤ 133 ∧ fd [9, 10, 33, 34, 35, 36, 37, 38, 39, 40, 41, 42] S S' := by
  have hT := T.2.1
  have tar : ∀ {S'}, fd [9, 10, 33, 34, 35, 36, 37, 38, 39, 40, 41, 42] S S' → taR S' t := fun F => by unfold taR; rw [F 0 (by decide), F 1 (by decide)]; exact T
  obtain ⟨U0, hU0⟩ : ∃ U, U = am_fu S 9 (fun _ => 0) := ⟨_, rfl⟩
  have F0 : fd [9, 10, 33, 34, 35, 36, 37, 38, 39, 40, 41, 42] S U0 := by rw [hU0]; exact fd.rf.up (by decide) _
  have u9 : U0 9 0 = ((0 : Nat) : Int) := by rw [hU0, fu_self]; rfl
  obtain ⟨x1, S1, f1, r1, q1⟩ := md_readsNumber (m := m) (g := g) (tar F0) u9 (Nat.zero_le _) 1 1001 (d + 1)
  have F1 := F0.tr (q1.wide (l' := [9, 10, 33, 34, 35, 36, 37, 38, 39, 40, 41, 42]) (by decide))
  unfold rdB
  rcases r1 with ⟨f, e1, rfl, g1⟩ | ⟨a, q, e1, rfl, g1, g2⟩
  · left
    rw [e1]
    refine ⟨f, S1, rfl, am_cI_of ?_, g1, F1⟩
    (try dsimp only); rw [en_md_readsBytes]; (try simp (disch := omega) only [Option.bind_some, if_true, if_false, eq_self, not_true_eq_false, not_false_eq_true, am_w_id, if_pos, if_neg, fu_self, fu_ne, Int.toNat_natCast, hU0.symm, f1]); rw [B_md_readsBytes_0]; (try simp (disch := omega) only [Option.bind_some, if_true, if_false, eq_self, not_true_eq_false, not_false_eq_true, am_w_id, if_pos, if_neg, fu_self, fu_ne, Int.toNat_natCast, m_gI_9, m_p_9, m_O, hU0.symm, f1]); rw [B_md_readsBytes_16]; (try simp (disch := omega) only [Option.bind_some, if_true, if_false, eq_self, not_true_eq_false, not_false_eq_true, am_w_id, if_pos, if_neg, fu_self, fu_ne, Int.toNat_natCast, hU0.symm, f1])
  · obtain ⟨⟨k1, k2⟩, k3, k4⟩ := rdN_ok e1
    rw [e1]
    dsimp only
    obtain ⟨U1, hU1⟩ : ∃ U, U = am_fu S1 35 (fun _ => q) := ⟨_, rfl⟩
    have FU1 : fd [9, 10, 33, 34, 35, 36, 37, 38, 39, 40, 41, 42] S U1 := by rw [hU1]; exact F1.up (by decide) _
    have v9 : U1 9 0 = (a : Int) := by rw [hU1, fu_ne (by decide)]; exact g1
    have v35 : U1 35 0 = q := by rw [hU1, fu_self]
    obtain ⟨x2, S2, f2, r2, q2⟩ := md_readsNumber (m := m) (g := g) (tar FU1) v9 k2 0 999999 (d + 1)
    have F2 := FU1.tr (q2.wide (l' := [9, 10, 33, 34, 35, 36, 37, 38, 39, 40, 41, 42]) (by decide))
    rcases r2 with ⟨f, e2, rfl, g3⟩ | ⟨b, u, e2, rfl, g3, g4⟩
    · left
      rw [e2]
      refine ⟨f, S2, rfl, am_cI_of ?_, g3, F2⟩
      (try dsimp only); rw [en_md_readsBytes]; (try simp (disch := omega) only [Option.bind_some, if_true, if_false, eq_self, not_true_eq_false, not_false_eq_true, am_w_id, if_pos, if_neg, fu_self, fu_ne, Int.toNat_natCast, hU0.symm, f1, g2, hU1.symm, f2, show ¬ (1 : Int) = 0 by decide]); rw [B_md_readsBytes_0]; (try simp (disch := omega) only [Option.bind_some, if_true, if_false, eq_self, not_true_eq_false, not_false_eq_true, am_w_id, if_pos, if_neg, fu_self, fu_ne, Int.toNat_natCast, m_gI_9, m_p_9, m_O, hU0.symm, f1, g2, hU1.symm, f2, show ¬ (1 : Int) = 0 by decide]); rw [B_md_readsBytes_18]; (try simp (disch := omega) only [Option.bind_some, if_true, if_false, eq_self, not_true_eq_false, not_false_eq_true, am_w_id, if_pos, if_neg, fu_self, fu_ne, Int.toNat_natCast, m_gI_33, m_p_33, m_gI_35, m_p_35, m_O, hU0.symm, f1, g2, hU1.symm, f2, show ¬ (1 : Int) = 0 by decide]); rw [B_md_readsBytes_36]; (try simp (disch := omega) only [Option.bind_some, if_true, if_false, eq_self, not_true_eq_false, not_false_eq_true, am_w_id, if_pos, if_neg, fu_self, fu_ne, Int.toNat_natCast, hU0.symm, f1, g2, hU1.symm, f2, show ¬ (1 : Int) = 0 by decide])
    · obtain ⟨⟨k5, k6⟩, k7, k8⟩ := rdN_ok e2
      rw [e2]
      dsimp only
      obtain ⟨U2, hU2⟩ : ∃ U, U = am_fu S2 36 (fun _ => u) := ⟨_, rfl⟩
      have FU2 : fd [9, 10, 33, 34, 35, 36, 37, 38, 39, 40, 41, 42] S U2 := by rw [hU2]; exact F2.up (by decide) _
      have w9 : U2 9 0 = (b : Int) := by rw [hU2, fu_ne (by decide)]; exact g3
      have w35 : U2 35 0 = q := by rw [hU2, fu_ne (by decide), q2 35 (by decide)]; exact v35
      have w36 : U2 36 0 = u := by rw [hU2, fu_self]
      have st : am_call (d + 3) N_md_readsBytes [.inr (.inr (some (m)))] (MH m g S) = EV (d + 3) N_md_readsBytes T_md_readsBytes_50 [.inr (.inr (some (m))), .inl (((fla []).length : Int)), .inl ((([] : List sta).length : Int))] [] (MH m g U2) := by
        (try dsimp only); rw [en_md_readsBytes]; (try simp (disch := omega) only [Option.bind_some, if_true, if_false, eq_self, not_true_eq_false, not_false_eq_true, am_w_id, if_pos, if_neg, fu_self, fu_ne, Int.toNat_natCast, hU0.symm, f1, g2, hU1.symm, f2, g4, hU2.symm, show ¬ (1 : Int) = 0 by decide]); rw [B_md_readsBytes_0]; (try simp (disch := omega) only [Option.bind_some, if_true, if_false, eq_self, not_true_eq_false, not_false_eq_true, am_w_id, if_pos, if_neg, fu_self, fu_ne, Int.toNat_natCast, m_gI_9, m_p_9, m_O, hU0.symm, f1, g2, hU1.symm, f2, g4, hU2.symm, show ¬ (1 : Int) = 0 by decide]); rw [B_md_readsBytes_18]; (try simp (disch := omega) only [Option.bind_some, if_true, if_false, eq_self, not_true_eq_false, not_false_eq_true, am_w_id, if_pos, if_neg, fu_self, fu_ne, Int.toNat_natCast, m_gI_33, m_p_33, m_gI_35, m_p_35, m_O, hU0.symm, f1, g2, hU1.symm, f2, g4, hU2.symm, show ¬ (1 : Int) = 0 by decide]); rw [B_md_readsBytes_38]; (try simp (disch := omega) only [Option.bind_some, if_true, if_false, eq_self, not_true_eq_false, not_false_eq_true, am_w_id, if_pos, if_neg, fu_self, fu_ne, Int.toNat_natCast, m_gI_33, m_p_33, m_gI_36, m_p_36, hU0.symm, f1, g2, hU1.symm, f2, g4, hU2.symm, show ¬ (1 : Int) = 0 by decide])
        rfl
      rcases md_rdStates (m := m) (g := g) (t := t) (q := q) ⟨k3, k4⟩ d q.toNat b [] U2 (by rw [List.length_nil]; omega) (tar FU2) w9 k6 w35 (fun i y hy => by simp [fla] at hy) (fun s x hx => by simp at hx) (Nat.zero_le _) with ⟨f, S', j1, j2, j3, j4⟩ | ⟨c, ss, S', j1, j2, j3, j4, j5, j6, j7, j8, j9⟩
      · rw [j1]
        exact Or.inl ⟨f, S', rfl, am_cI_of (st.trans j2), j3, FU2.tr (j4.wide (by decide))⟩
      · rw [j1]
        dsimp only
        rw [List.nil_append] at j2 j4 j5 j6 j7
        have G := FU2.tr (j9.wide (l' := [9, 10, 33, 34, 35, 36, 37, 38, 39, 40, 41, 42]) (by decide))
        have h1 := (tar G).1
        have st2 := st.trans j2
        by_cases cc : c = t.length
        · rw [if_pos cc]
          have cc' : (c : Int) = (t.length : Int) := by omega
          refine Or.inr ⟨u, ss, S', rfl, am_cI_of (st2.trans ?_), ⟨?_, ?_, j5, j6⟩, ⟨k7, k8⟩, by omega, by omega, G⟩
          · (try dsimp only); rw [B_md_readsBytes_84]; (try simp (disch := omega) only [Option.bind_some, if_true, if_false, eq_self, not_true_eq_false, not_false_eq_true, am_w_id, if_pos, if_neg, fu_self, fu_ne, Int.toNat_natCast, m_gI_9, m_p_9, m_gI_1, m_p_1, j3, h1, cc']); rw [B_md_readsBytes_107]; (try simp (disch := omega) only [Option.bind_some, if_true, if_false, eq_self, not_true_eq_false, not_false_eq_true, am_w_id, if_pos, if_neg, fu_self, fu_ne, Int.toNat_natCast, j3, h1, cc']); rw [B_md_readsBytes_112]; (try simp (disch := omega) only [Option.bind_some, if_true, if_false, eq_self, not_true_eq_false, not_false_eq_true, am_w_id, if_pos, if_neg, fu_self, fu_ne, Int.toNat_natCast, j3, h1, cc'])
          · rw [j9 35 (by decide), w35, j4]
          · rw [j9 36 (by decide), w36]
        · rw [if_neg cc]
          have cc' : ¬ (c : Int) = (t.length : Int) := by omega
          have hf := fun d => md_fails (m := m) (g := g) (S := S') 3 (c : Int) (by omega) (by omega) d
          refine Or.inl ⟨_, am_fu S' 10 (fun _ => 8 * (c : Int) + 3), rfl, am_cI_of (st2.trans ?_), congrFun fu_self 0, G.up (by decide) _⟩
          (try dsimp only); rw [B_md_readsBytes_84]; (try simp (disch := omega) only [Option.bind_some, if_true, if_false, eq_self, not_true_eq_false, not_false_eq_true, am_w_id, if_pos, if_neg, fu_self, fu_ne, Int.toNat_natCast, m_gI_9, m_p_9, m_gI_1, m_p_1, j3, h1, cc', hf]); rw [B_md_readsBytes_95]; (try simp (disch := omega) only [Option.bind_some, if_true, if_false, eq_self, not_true_eq_false, not_false_eq_true, am_w_id, if_pos, if_neg, fu_self, fu_ne, Int.toNat_natCast, m_gI_9, m_p_9, m_O, j3, h1, cc', hf]); rw [B_md_readsBytes_111]; (try simp (disch := omega) only [Option.bind_some, if_true, if_false, eq_self, not_true_eq_false, not_false_eq_true, am_w_id, if_pos, if_neg, fu_self, fu_ne, Int.toNat_natCast, j3, h1, cc', hf]); rw [B_md_readsBytes_112]; (try simp (disch := omega) only [Option.bind_some, if_true, if_false, eq_self, not_true_eq_false, not_false_eq_true, am_w_id, if_pos, if_neg, fu_self, fu_ne, Int.toNat_natCast, j3, h1, cc', hf])
end MO
