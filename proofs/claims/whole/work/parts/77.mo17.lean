/-! unpack: areWords put together -/
section MO
variable {m : Nat} {g : am_H} {S : Nat → Nat → Int} {u : Int} {ss : List sta}
theorem md_aw11 (M1 : S 35 0 = (ss.length : Int)) (hl : ss.length ≤ 1001) (hS : rcR (S 43) ss 11 0 0) (j2 j3 : am_V) (d : Nat) : ∀ (n s : Nat), s + n = ss.length →
    (EV d N_md_areWords T_md_areWords_127 [.inr (.inr (some (m))), .inl ((s : Int)), j2, j3] [] (MH m g S) = some (some (.inl 0), MH m g S) ∧ ∃ z, z < ss.length ∧ rc ss 11 z = true) ∨
    (EV d N_md_areWords T_md_areWords_127 [.inr (.inr (some (m))), .inl ((s : Int)), j2, j3] [] (MH m g S) = EV d N_md_areWords T_md_areWords_159 [.inr (.inr (some (m))), .inl (((10 : Nat) : Int)), j2, j3] [] (MH m g S) ∧ ∀ z, s ≤ z → z < ss.length → rc ss 11 z = false) := by
  intro n
  induction n with
  | zero =>
    intro s hs
    obtain rfl : s = ss.length := by omega
    right
    refine ⟨?_, fun z h1 h2 => by omega⟩
    (try dsimp only); rw [B_md_areWords_127]; (try simp (disch := omega) only [Option.bind_some, if_true, if_false, eq_self, not_true_eq_false, not_false_eq_true, am_w_id, if_pos, if_neg, fu_self, fu_ne, Int.toNat_natCast, m_gI_35, m_p_35, M1, Int.le_refl]); rw [B_md_areWords_156]; (try simp (disch := omega) only [Option.bind_some, if_true, if_false, eq_self, not_true_eq_false, not_false_eq_true, am_w_id, if_pos, if_neg, fu_self, fu_ne, Int.toNat_natCast, M1, Int.le_refl])
    rfl
  | succ n ih =>
    intro s hs
    have hlt : ¬ (ss.length : Int) ≤ (s : Int) := by omega
    have hr := rcR_at hS (e := 11) (z := s) (by omega) (by omega) (by omega)
    rw [show 1001 * 11 + s = 11011 + s by omega] at hr
    have e7 : (11011 : Int) + (s : Int) = ((11011 + s : Nat) : Int) := by omega
    have e9 : (s : Int) + 1 = ((s + 1 : Nat) : Int) := by omega
    by_cases c : rc ss 11 s = true
    · left
      rw [c] at hr
      have hr' : S 43 (11011 + s) = 1 := hr
      refine ⟨?_, s, by omega, c⟩
      (try dsimp only); rw [B_md_areWords_127]; (try simp (disch := omega) only [Option.bind_some, if_true, if_false, eq_self, not_true_eq_false, not_false_eq_true, am_w_id, if_pos, if_neg, fu_self, fu_ne, Int.toNat_natCast, m_gI_35, m_p_35, M1, hlt, e7, m_l_43, hr', show ¬ (1 : Int) = 0 by decide]); rw [B_md_areWords_135]; (try simp (disch := omega) only [Option.bind_some, if_true, if_false, eq_self, not_true_eq_false, not_false_eq_true, am_w_id, if_pos, if_neg, fu_self, fu_ne, Int.toNat_natCast, m_gR_43, m_l_43, m_s_43, M1, hlt, e7, m_l_43, hr', show ¬ (1 : Int) = 0 by decide]); rw [B_md_areWords_148]; (try simp (disch := omega) only [Option.bind_some, if_true, if_false, eq_self, not_true_eq_false, not_false_eq_true, am_w_id, if_pos, if_neg, fu_self, fu_ne, Int.toNat_natCast, M1, hlt, e7, m_l_43, hr', show ¬ (1 : Int) = 0 by decide])
    · have c' := Bool.eq_false_iff.mpr c
      rw [c'] at hr
      have hr' : S 43 (11011 + s) = 0 := hr
      have st : EV d N_md_areWords T_md_areWords_127 [.inr (.inr (some (m))), .inl ((s : Int)), j2, j3] [] (MH m g S) = EV d N_md_areWords T_md_areWords_127 [.inr (.inr (some (m))), .inl (((s + 1 : Nat) : Int)), j2, j3] [] (MH m g S) := by
        (try dsimp only); rw [B_md_areWords_127]; (try simp (disch := omega) only [Option.bind_some, if_true, if_false, eq_self, not_true_eq_false, not_false_eq_true, am_w_id, if_pos, if_neg, fu_self, fu_ne, Int.toNat_natCast, m_gI_35, m_p_35, M1, hlt, e7, m_l_43, hr', e9]); rw [B_md_areWords_135]; (try simp (disch := omega) only [Option.bind_some, if_true, if_false, eq_self, not_true_eq_false, not_false_eq_true, am_w_id, if_pos, if_neg, fu_self, fu_ne, Int.toNat_natCast, m_gR_43, m_l_43, m_s_43, M1, hlt, e7, m_l_43, hr', e9]); rw [B_md_areWords_150]; (try simp (disch := omega) only [Option.bind_some, if_true, if_false, eq_self, not_true_eq_false, not_false_eq_true, am_w_id, if_pos, if_neg, fu_self, fu_ne, Int.toNat_natCast, M1, hlt, e7, m_l_43, hr', e9])
      rw [st]
      rcases ih (s + 1) (by omega) with ⟨h1, h2⟩ | ⟨h1, h2⟩
      · exact Or.inl ⟨h1, h2⟩
      · refine Or.inr ⟨h1, fun z g1 g2 => ?_⟩
        by_cases cz : z = s
        · rw [cz]; exact c'
        · exact h2 z (by omega) g2
/-- the last look: every state that is come to has words -/
theorem md_awLast1 (M1 : S 35 0 = (ss.length : Int)) (hl : ss.length ≤ 1001) (hS : rcR (S 43) ss 11 0 0) (hC : ∀ e z, e ≤ 10 → z < ss.length → rc ss e z = true → S 44 (1001 * e + z) = (cwn ss (10 - e) z : Int)) {d2 : Nat} (hd : d2 ≤ 10) (j3 : am_V) (d : Nat) : ∀ (n s : Nat), s + n = ss.length →
    (EV d N_md_areWords T_md_areWords_240 [.inr (.inr (some (m))), .inl ((d2 : Int)), .inl ((s : Int)), j3] [] (MH m g S) = some (some (.inl 0), MH m g S) ∧ ∃ z, z < ss.length ∧ rc ss d2 z = true ∧ cwn ss (10 - d2) z = 0) ∨
    (EV d N_md_areWords T_md_areWords_240 [.inr (.inr (some (m))), .inl ((d2 : Int)), .inl ((s : Int)), j3] [] (MH m g S) = EV d N_md_areWords T_md_areWords_286 [.inr (.inr (some (m))), .inl ((d2 : Int)), .inl ((ss.length : Int)), j3] [] (MH m g S) ∧ ∀ z, s ≤ z → z < ss.length → rc ss d2 z = true → cwn ss (10 - d2) z ≠ 0) := by
  intro n
  induction n with
  | zero =>
    intro s hs
    obtain rfl : s = ss.length := by omega
    right
    refine ⟨?_, fun z h1 h2 => by omega⟩
    (try dsimp only); rw [B_md_areWords_240]; (try simp (disch := omega) only [Option.bind_some, if_true, if_false, eq_self, not_true_eq_false, not_false_eq_true, am_w_id, if_pos, if_neg, fu_self, fu_ne, Int.toNat_natCast, m_gI_35, m_p_35, M1, Int.le_refl])
  | succ n ih =>
    intro s hs
    have hlt : ¬ (ss.length : Int) ≤ (s : Int) := by omega
    have hr := rcR_at hS (e := d2) (z := s) (by omega) (by omega) (by omega)
    have e7 : 1001 * (d2 : Int) + (s : Int) = ((1001 * d2 + s : Nat) : Int) := by omega
    have e9 : (s : Int) + 1 = ((s + 1 : Nat) : Int) := by omega
    have go : (EV d N_md_areWords T_md_areWords_240 [.inr (.inr (some (m))), .inl ((d2 : Int)), .inl ((s : Int)), j3] [] (MH m g S) = EV d N_md_areWords T_md_areWords_240 [.inr (.inr (some (m))), .inl ((d2 : Int)), .inl (((s + 1 : Nat) : Int)), j3] [] (MH m g S)) → (rc ss d2 s = true → cwn ss (10 - d2) s ≠ 0) →
        (EV d N_md_areWords T_md_areWords_240 [.inr (.inr (some (m))), .inl ((d2 : Int)), .inl ((s : Int)), j3] [] (MH m g S) = some (some (.inl 0), MH m g S) ∧ ∃ z, z < ss.length ∧ rc ss d2 z = true ∧ cwn ss (10 - d2) z = 0) ∨
        (EV d N_md_areWords T_md_areWords_240 [.inr (.inr (some (m))), .inl ((d2 : Int)), .inl ((s : Int)), j3] [] (MH m g S) = EV d N_md_areWords T_md_areWords_286 [.inr (.inr (some (m))), .inl ((d2 : Int)), .inl ((ss.length : Int)), j3] [] (MH m g S) ∧ ∀ z, s ≤ z → z < ss.length → rc ss d2 z = true → cwn ss (10 - d2) z ≠ 0) := by
      intro st hz
      rw [st]
      rcases ih (s + 1) (by omega) with ⟨h1, h2⟩ | ⟨h1, h2⟩
      · exact Or.inl ⟨h1, h2⟩
      · refine Or.inr ⟨h1, fun z g1 g2 => ?_⟩
        by_cases cz : z = s
        · rw [cz]; exact hz
        · exact h2 z (by omega) g2
    by_cases c : rc ss d2 s = true
    · rw [c] at hr
      have hr' : S 43 (1001 * d2 + s) = 1 := hr
      have h44 := hC d2 s hd (by omega) c
      by_cases c2 : cwn ss (10 - d2) s = 0
      · left
        rw [c2] at h44
        have h44' : S 44 (1001 * d2 + s) = 0 := h44
        refine ⟨?_, s, by omega, c, c2⟩
        (try dsimp only); rw [B_md_areWords_240]; (try simp (disch := omega) only [Option.bind_some, if_true, if_false, eq_self, not_true_eq_false, not_false_eq_true, am_w_id, if_pos, if_neg, fu_self, fu_ne, Int.toNat_natCast, m_gI_35, m_p_35, M1, hlt, e7, m_l_43, hr', h44', show ¬ (1 : Int) = 0 by decide]); rw [B_md_areWords_248]; (try simp (disch := omega) only [Option.bind_some, if_true, if_false, eq_self, not_true_eq_false, not_false_eq_true, am_w_id, if_pos, if_neg, fu_self, fu_ne, Int.toNat_natCast, m_gR_43, m_l_43, m_s_43, M1, hlt, e7, m_l_43, hr', h44', show ¬ (1 : Int) = 0 by decide]); rw [B_md_areWords_263]; (try simp (disch := omega) only [Option.bind_some, if_true, if_false, eq_self, not_true_eq_false, not_false_eq_true, am_w_id, if_pos, if_neg, fu_self, fu_ne, Int.toNat_natCast, m_gR_44, m_l_44, m_s_44, M1, hlt, e7, m_l_43, hr', h44', show ¬ (1 : Int) = 0 by decide]); rw [B_md_areWords_278]; (try simp (disch := omega) only [Option.bind_some, if_true, if_false, eq_self, not_true_eq_false, not_false_eq_true, am_w_id, if_pos, if_neg, fu_self, fu_ne, Int.toNat_natCast, M1, hlt, e7, m_l_43, hr', h44', show ¬ (1 : Int) = 0 by decide])
      · have c3 : ¬ (cwn ss (10 - d2) s : Int) = 0 := by omega
        refine go ?_ (fun _ => c2)
        (try dsimp only); rw [B_md_areWords_240]; (try simp (disch := omega) only [Option.bind_some, if_true, if_false, eq_self, not_true_eq_false, not_false_eq_true, am_w_id, if_pos, if_neg, fu_self, fu_ne, Int.toNat_natCast, m_gI_35, m_p_35, M1, hlt, e7, m_l_43, hr', h44, c3, e9, show ¬ (1 : Int) = 0 by decide]); rw [B_md_areWords_248]; (try simp (disch := omega) only [Option.bind_some, if_true, if_false, eq_self, not_true_eq_false, not_false_eq_true, am_w_id, if_pos, if_neg, fu_self, fu_ne, Int.toNat_natCast, m_gR_43, m_l_43, m_s_43, M1, hlt, e7, m_l_43, hr', h44, c3, e9, show ¬ (1 : Int) = 0 by decide]); rw [B_md_areWords_263]; (try simp (disch := omega) only [Option.bind_some, if_true, if_false, eq_self, not_true_eq_false, not_false_eq_true, am_w_id, if_pos, if_neg, fu_self, fu_ne, Int.toNat_natCast, m_gR_44, m_l_44, m_s_44, M1, hlt, e7, m_l_43, hr', h44, c3, e9, show ¬ (1 : Int) = 0 by decide]); rw [B_md_areWords_280]; (try simp (disch := omega) only [Option.bind_some, if_true, if_false, eq_self, not_true_eq_false, not_false_eq_true, am_w_id, if_pos, if_neg, fu_self, fu_ne, Int.toNat_natCast, M1, hlt, e7, m_l_43, hr', h44, c3, e9, show ¬ (1 : Int) = 0 by decide])
    · have c' := Bool.eq_false_iff.mpr c
      rw [c'] at hr
      have hr' : S 43 (1001 * d2 + s) = 0 := hr
      refine go ?_ (fun h => absurd h c)
      (try dsimp only); rw [B_md_areWords_240]; (try simp (disch := omega) only [Option.bind_some, if_true, if_false, eq_self, not_true_eq_false, not_false_eq_true, am_w_id, if_pos, if_neg, fu_self, fu_ne, Int.toNat_natCast, m_gI_35, m_p_35, M1, hlt, e7, m_l_43, hr', e9]); rw [B_md_areWords_248]; (try simp (disch := omega) only [Option.bind_some, if_true, if_false, eq_self, not_true_eq_false, not_false_eq_true, am_w_id, if_pos, if_neg, fu_self, fu_ne, Int.toNat_natCast, m_gR_43, m_l_43, m_s_43, M1, hlt, e7, m_l_43, hr', e9]); rw [B_md_areWords_280]; (try simp (disch := omega) only [Option.bind_some, if_true, if_false, eq_self, not_true_eq_false, not_false_eq_true, am_w_id, if_pos, if_neg, fu_self, fu_ne, Int.toNat_natCast, M1, hlt, e7, m_l_43, hr', e9])
theorem md_awLast (M1 : S 35 0 = (ss.length : Int)) (hl : ss.length ≤ 1001) (hS : rcR (S 43) ss 11 0 0) (hC : ∀ e z, e ≤ 10 → z < ss.length → rc ss e z = true → S 44 (1001 * e + z) = (cwn ss (10 - e) z : Int)) (j3 : am_V) (d : Nat) : ∀ (n d2 : Nat) (j2 : am_V), d2 + n = 11 →
    (EV d N_md_areWords T_md_areWords_232 [.inr (.inr (some (m))), .inl ((d2 : Int)), j2, j3] [] (MH m g S) = some (some (.inl 0), MH m g S) ∧ ∃ e z, d2 ≤ e ∧ e ≤ 10 ∧ z < ss.length ∧ rc ss e z = true ∧ cwn ss (10 - e) z = 0) ∨
    (EV d N_md_areWords T_md_areWords_232 [.inr (.inr (some (m))), .inl ((d2 : Int)), j2, j3] [] (MH m g S) = some (some (.inl 1), MH m g S) ∧ ∀ e z, d2 ≤ e → e ≤ 10 → z < ss.length → rc ss e z = true → cwn ss (10 - e) z ≠ 0) := by
  intro n
  induction n with
  | zero =>
    intro d2 j2 hd
    obtain rfl : d2 = 11 := by omega
    right
    refine ⟨?_, fun e z h1 h2 => by omega⟩
    rw [show ((11 : Nat) : Int) = 11 from rfl]
    (try dsimp only); rw [B_md_areWords_232]; (try simp (disch := omega) only [Option.bind_some, if_true, if_false, eq_self, not_true_eq_false, not_false_eq_true, am_w_id, if_pos, if_neg, fu_self, fu_ne, Int.toNat_natCast, Int.le_refl]); rw [B_md_areWords_292]; (try simp (disch := omega) only [Option.bind_some, if_true, if_false, eq_self, not_true_eq_false, not_false_eq_true, am_w_id, if_pos, if_neg, fu_self, fu_ne, Int.toNat_natCast, Int.le_refl])
  | succ n ih =>
    intro d2 j2 hd
    have hlt : ¬ (11 : Int) ≤ (d2 : Int) := by omega
    have e9 : (d2 : Int) + 1 = ((d2 + 1 : Nat) : Int) := by omega
    have st : EV d N_md_areWords T_md_areWords_232 [.inr (.inr (some (m))), .inl ((d2 : Int)), j2, j3] [] (MH m g S) = EV d N_md_areWords T_md_areWords_240 [.inr (.inr (some (m))), .inl ((d2 : Int)), .inl (((0 : Nat) : Int)), j3] [] (MH m g S) := by
      (try dsimp only); rw [B_md_areWords_232]; (try simp (disch := omega) only [Option.bind_some, if_true, if_false, eq_self, not_true_eq_false, not_false_eq_true, am_w_id, if_pos, if_neg, fu_self, fu_ne, Int.toNat_natCast, hlt]); rw [B_md_areWords_238]; (try simp (disch := omega) only [Option.bind_some, if_true, if_false, eq_self, not_true_eq_false, not_false_eq_true, am_w_id, if_pos, if_neg, fu_self, fu_ne, Int.toNat_natCast, hlt])
      rfl
    rw [st]
    rcases md_awLast1 (m := m) (g := g) M1 hl hS hC (show d2 ≤ 10 by omega) j3 d ss.length 0 (by omega) with ⟨h1, z, h2, h3, h4⟩ | ⟨h1, h2⟩
    · exact Or.inl ⟨h1, d2, z, Nat.le_refl _, by omega, h2, h3, h4⟩
    · have st2 : EV d N_md_areWords T_md_areWords_286 [.inr (.inr (some (m))), .inl ((d2 : Int)), .inl ((ss.length : Int)), j3] [] (MH m g S) = EV d N_md_areWords T_md_areWords_232 [.inr (.inr (some (m))), .inl (((d2 + 1 : Nat) : Int)), .inl ((ss.length : Int)), j3] [] (MH m g S) := by
        (try dsimp only); rw [B_md_areWords_286]; (try simp (disch := omega) only [Option.bind_some, if_true, if_false, eq_self, not_true_eq_false, not_false_eq_true, am_w_id, if_pos, if_neg, fu_self, fu_ne, Int.toNat_natCast, e9])
      rw [h1, st2]
      rcases ih (d2 + 1) (.inl ((ss.length : Int))) (by omega) with ⟨k1, e, z, k2, k3⟩ | ⟨k1, k2⟩
      · exact Or.inl ⟨k1, e, z, by omega, k3⟩
      · refine Or.inr ⟨k1, fun e z g1 g2 g3 => ?_⟩
        by_cases ce : e = d2
        · rw [ce]; exact h2 z (Nat.zero_le _) g3
        · exact k2 e z (by omega) g2 g3
theorem md_areWords (hm : mach ss) (M : mcR S u ss) (hl : 1 ≤ ss.length ∧ ss.length ≤ 1001) (hf : (fla ss).length ≤ 133) (d : Nat) : ∃ x S', am_cI (d + 1) N_md_areWords [.inr (.inr (some (m)))] (MH m g S) = some (x, MH m g S') ∧ ((x = 1 ∧ aw ss) ∨ (x = 0 ∧ ¬ aw ss)) ∧ fd [43, 44] S S' := by
  obtain ⟨j2, j3, f1, g1, F1⟩ := md_awFlags (m := m) (g := g) hm M hl.2 hf (d + 1)
  obtain ⟨T, hT⟩ : ∃ T, T = am_fu S 43 f1 := ⟨_, rfl⟩
  have FT : fd [43, 44] S T := by rw [hT]; exact fd.rf.up (by decide) _
  have t43 : rcR (T 43) ss 11 0 0 := by rw [hT, fu_self]; exact F1
  rw [← hT] at g1
  have MT := M.fr FT (by decide)
  have st : EV (d + 1) N_md_areWords T_md_areWords_125 [.inr (.inr (some (m))), .inl (11), j2, j3] [] (MH m g T) = EV (d + 1) N_md_areWords T_md_areWords_127 [.inr (.inr (some (m))), .inl (((0 : Nat) : Int)), j2, j3] [] (MH m g T) := by
    (try dsimp only); rw [B_md_areWords_125]; (try simp (disch := omega) only [Option.bind_some, if_true, if_false, eq_self, not_true_eq_false, not_false_eq_true, am_w_id, if_pos, if_neg, fu_self, fu_ne, Int.toNat_natCast])
    rfl
  rcases md_aw11 (m := m) (g := g) MT.1 hl.2 t43 j2 j3 (d + 1) ss.length 0 (by omega) with ⟨h1, z, h2, h3⟩ | ⟨h1, h2⟩
  · refine ⟨0, T, am_cI_of (g1.trans (st.trans h1)), Or.inr ⟨rfl, fun h => ?_⟩, FT⟩
    have := h.1 z h2
    rw [h3] at this
    exact absurd this (by decide)
  · have h11 : ∀ s, s < ss.length → rc ss 11 s = false := fun s hs => h2 s (Nat.zero_le _) hs
    have hTe : T = am_fu T 44 (T 44) := (fu_eta).symm
    obtain ⟨j2', f2, g2, C2⟩ := md_awDown (m := m) (g := g) hm MT hl.2 hf h11 t43 j3 d 10 j2 (T 44) (Nat.le_refl _) (fun e z he hz hr hc => by
      rcases hc with h | ⟨_, h⟩ <;> omega)
    rw [← hTe] at g2
    obtain ⟨U, hU⟩ : ∃ U, U = am_fu T 44 f2 := ⟨_, rfl⟩
    have FU : fd [43, 44] S U := by rw [hU]; exact FT.up (by decide) _
    have u44 : ∀ e z, e ≤ 10 → z < ss.length → rc ss e z = true → U 44 (1001 * e + z) = (cwn ss (10 - e) z : Int) := by rw [hU, fu_self]; exact C2
    have u43 : rcR (U 43) ss 11 0 0 := by rw [hU, fu_ne (by decide)]; exact t43
    rw [← hU] at g2
    have MU := M.fr FU (by decide)
    have h39 := (MU.2.2.2 0 _ (of_get (by omega))).2.2
    dsimp only at h39
    have h44 : U 44 0 = (cwn ss 10 0 : Int) := u44 0 0 (by omega) (by omega) rfl
    have all := g1.trans (st.trans (h1.trans g2))
    by_cases c1 : eOf ss 0 = -2
    · rw [c1] at h39
      by_cases c2 : cwn ss 10 0 ≤ 100
      · have c2' : (cwn ss 10 0 : Int) ≤ 100 := by omega
        have st3 : EV (d + 1) N_md_areWords T_md_areWords_206 [.inr (.inr (some (m))), .inl (-1), j2', j3] [] (MH m g U) = EV (d + 1) N_md_areWords T_md_areWords_232 [.inr (.inr (some (m))), .inl (((1 : Nat) : Int)), j2', j3] [] (MH m g U) := by
          (try dsimp only); rw [B_md_areWords_206]; (try simp (disch := omega) only [Option.bind_some, if_true, if_false, eq_self, not_true_eq_false, not_false_eq_true, am_w_id, if_pos, if_neg, fu_self, fu_ne, Int.toNat_natCast, m_gR_39, m_l_39, m_s_39, Int.toNat_zero, h39, h44, c2']); rw [B_md_areWords_217]; (try simp (disch := omega) only [Option.bind_some, if_true, if_false, eq_self, not_true_eq_false, not_false_eq_true, am_w_id, if_pos, if_neg, fu_self, fu_ne, Int.toNat_natCast, m_gR_44, m_l_44, m_s_44, Int.toNat_zero, h39, h44, c2']); rw [B_md_areWords_230]; (try simp (disch := omega) only [Option.bind_some, if_true, if_false, eq_self, not_true_eq_false, not_false_eq_true, am_w_id, if_pos, if_neg, fu_self, fu_ne, Int.toNat_natCast, Int.toNat_zero, h39, h44, c2'])
          rfl
        rcases md_awLast (m := m) (g := g) MU.1 hl.2 u43 u44 j3 (d + 1) 10 1 j2' rfl with ⟨k1, e, z, k2, k3, k4, k5, k6⟩ | ⟨k1, k2⟩
        · exact ⟨0, U, am_cI_of (all.trans (st3.trans k1)), Or.inr ⟨rfl, fun h => h.2.2 e z k2 k3 k4 k5 k6⟩, FU⟩
        · exact ⟨1, U, am_cI_of (all.trans (st3.trans k1)), Or.inl ⟨rfl, h11, ⟨c1, c2⟩, k2⟩, FU⟩
      · have c2' : ¬ (cwn ss 10 0 : Int) ≤ 100 := by omega
        refine ⟨0, U, am_cI_of (all.trans ?_), Or.inr ⟨rfl, fun h => c2 h.2.1.2⟩, FU⟩
        (try dsimp only); rw [B_md_areWords_206]; (try simp (disch := omega) only [Option.bind_some, if_true, if_false, eq_self, not_true_eq_false, not_false_eq_true, am_w_id, if_pos, if_neg, fu_self, fu_ne, Int.toNat_natCast, m_gR_39, m_l_39, m_s_39, Int.toNat_zero, h39, h44, c2']); rw [B_md_areWords_217]; (try simp (disch := omega) only [Option.bind_some, if_true, if_false, eq_self, not_true_eq_false, not_false_eq_true, am_w_id, if_pos, if_neg, fu_self, fu_ne, Int.toNat_natCast, m_gR_44, m_l_44, m_s_44, Int.toNat_zero, h39, h44, c2']); rw [B_md_areWords_228]; (try simp (disch := omega) only [Option.bind_some, if_true, if_false, eq_self, not_true_eq_false, not_false_eq_true, am_w_id, if_pos, if_neg, fu_self, fu_ne, Int.toNat_natCast, Int.toNat_zero, h39, h44, c2'])
    · refine ⟨0, U, am_cI_of (all.trans ?_), Or.inr ⟨rfl, fun h => c1 h.2.1.1⟩, FU⟩
      (try dsimp only); rw [B_md_areWords_206]; (try simp (disch := omega) only [Option.bind_some, if_true, if_false, eq_self, not_true_eq_false, not_false_eq_true, am_w_id, if_pos, if_neg, fu_self, fu_ne, Int.toNat_natCast, m_gR_39, m_l_39, m_s_39, Int.toNat_zero, h39, c1]); rw [B_md_areWords_228]; (try simp (disch := omega) only [Option.bind_some, if_true, if_false, eq_self, not_true_eq_false, not_false_eq_true, am_w_id, if_pos, if_neg, fu_self, fu_ne, Int.toNat_natCast, Int.toNat_zero, h39, c1])
end MO
