/-! unpack: counts and the rest of areWords -/
theorem cwn_le (ss : List sta) : ∀ n s, cwn ss n s ≤ 101
  | 0, s => by unfold cwn; split <;> omega
  | n + 1, s => by unfold cwn; omega
def pcn (ss : List sta) (n s k : Nat) : Nat := (if eOf ss s = -2 then 0 else 1) + (((aOf ss s).take k).map (fun a => cwn ss n a.2.2.toNat)).sum
theorem pcn_s {ss : List sta} {n s k : Nat} {a : arc} (ha : (aOf ss s)[k]? = some a) : pcn ss n s (k + 1) = pcn ss n s k + cwn ss n a.2.2.toNat := by
  unfold pcn
  rw [tk_s ha, List.map_append, List.sum_append]
  simp
  omega
theorem pcn_le (ss : List sta) (n s : Nat) : ∀ k, k ≤ (aOf ss s).length → pcn ss n s k ≤ 1 + 101 * k
  | 0, _ => by unfold pcn; simp; split <;> omega
  | k + 1, h => by
    have ih := pcn_le ss n s k (by omega)
    have := cwn_le ss n ((aOf ss s)[k]'(by omega)).2.2.toNat
    rw [pcn_s (List.getElem?_eq_getElem (by omega))]
    omega
/-- the counts known: the levels above, and the states ahead -/
def ctR (f : Nat → Int) (ss : List sta) (e0 s0 : Nat) : Prop := ∀ e z, e ≤ 10 → z < ss.length → rc ss e z = true → (e0 < e ∨ (e = e0 ∧ z < s0)) → f (1001 * e + z) = (cwn ss (10 - e) z : Int)
section MO
variable {m : Nat} {g : am_H} {S : Nat → Nat → Int} {u : Int} {ss : List sta}
theorem md_ct25 {d2 s n c k : Nat} {x : Int} (hs : s < 1001) (hn : n ≤ 400) (hc : c ≤ 400) (h37 : S 37 s = (n : Int)) (h38 : S 38 s = (c : Int)) (d : Nat) : EV d N_md_counts T_md_counts_25 [.inr (.inr (some (m))), .inl ((d2 : Int)), .inl ((s : Int)), .inl (x), .inl ((k : Int))] [] (MH m g S) = if n + c ≤ k then EV d N_md_counts T_md_counts_72 [.inr (.inr (some (m))), .inl ((d2 : Int)), .inl ((s : Int)), .inl (x), .inl ((k : Int))] [] (MH m g S) else EV d N_md_counts T_md_counts_43 [.inr (.inr (some (m))), .inl ((d2 : Int)), .inl ((s : Int)), .inl (x), .inl ((k : Int))] [] (MH m g S) := by
  have e1 : (s : Int) < 1001 := by omega
  have e0 : (0 : Int) ≤ (s : Int) := by omega
  have e2 : ((n : Int) + (c : Int) ≤ (k : Int)) ↔ n + c ≤ k := by omega
  have e3 : -2147483648 ≤ (n : Int) + (c : Int) := by omega
  have e4 : (n : Int) + (c : Int) < 2147483648 := by omega
  rw [B_md_counts_25, m_gR_37, Option.bind_some, m_l_37 e0 e1, Option.bind_some, m_gR_38, Option.bind_some, m_l_38 e0 e1, Option.bind_some, Int.toNat_natCast, h37, h38, am_w_id e3 e4]
  by_cases h : n + c ≤ k
  · rw [if_pos h, if_pos (e2.mpr h)]
  · rw [if_neg h, if_neg (fun z => h (e2.mp z))]
theorem md_counts (hm : mach ss) (M : mcR S u ss) (hl : ss.length ≤ 1001) (hf : (fla ss).length ≤ 133) (h11 : ∀ s, s < ss.length → rc ss 11 s = false) {d2 s s0 : Nat} (hd : d2 ≤ 10) (hs : s < ss.length) (hr : rc ss d2 s = true) {f : Nat → Int} (F : ctR f ss d2 s0) (d : Nat) :
    am_cV d N_md_counts [.inr (.inr (some (m))), .inl ((d2 : Int)), .inl ((s : Int))] (MH m g (am_fu S 44 f)) = some (MH m g (am_fu S 44 (am_fu f (1001 * d2 + s) (cwn ss (10 - d2) s : Int)))) := by
  obtain ⟨M1, M2, M3, M4⟩ := M
  obtain ⟨h37, h38, h39⟩ := M4 s _ (of_get hs)
  dsimp only at h37 h38 h39
  obtain ⟨l1, l2⟩ := fla_len ss hs
  generalize hp : (fla (ss.take s)).length = p at *
  have hend : (if eOf ss s = -2 then 0 else 1 : Nat) = pcn ss (9 - d2) s 0 := by unfold pcn; simp
  have st : am_call d N_md_counts [.inr (.inr (some (m))), .inl ((d2 : Int)), .inl ((s : Int))] (MH m g (am_fu S 44 f)) = EV d N_md_counts T_md_counts_25 [.inr (.inr (some (m))), .inl ((d2 : Int)), .inl ((s : Int)), .inl ((pcn ss (9 - d2) s 0 : Int)), .inl (((p + 0 : Nat) : Int))] [] (MH m g (am_fu S 44 f)) := by
    rw [← hend, Nat.add_zero]
    by_cases c : eOf ss s = -2
    · rw [if_pos c]
      rw [c] at h39
      (try dsimp only); rw [en_md_counts]; (try simp (disch := omega) only [Option.bind_some, if_true, if_false, eq_self, not_true_eq_false, not_false_eq_true, am_w_id, if_pos, if_neg, fu_self, fu_ne, Int.toNat_natCast, h39, h37]); rw [B_md_counts_0]; (try simp (disch := omega) only [Option.bind_some, if_true, if_false, eq_self, not_true_eq_false, not_false_eq_true, am_w_id, if_pos, if_neg, fu_self, fu_ne, Int.toNat_natCast, m_gR_39, m_l_39, m_s_39, h39, h37]); rw [B_md_counts_11]; (try simp (disch := omega) only [Option.bind_some, if_true, if_false, eq_self, not_true_eq_false, not_false_eq_true, am_w_id, if_pos, if_neg, fu_self, fu_ne, Int.toNat_natCast, h39, h37]); rw [B_md_counts_16]; (try simp (disch := omega) only [Option.bind_some, if_true, if_false, eq_self, not_true_eq_false, not_false_eq_true, am_w_id, if_pos, if_neg, fu_self, fu_ne, Int.toNat_natCast, m_gR_37, m_l_37, m_s_37, h39, h37])
      rfl
    · rw [if_neg c]
      (try dsimp only); rw [en_md_counts]; (try simp (disch := omega) only [Option.bind_some, if_true, if_false, eq_self, not_true_eq_false, not_false_eq_true, am_w_id, if_pos, if_neg, fu_self, fu_ne, Int.toNat_natCast, h39, c, h37]); rw [B_md_counts_0]; (try simp (disch := omega) only [Option.bind_some, if_true, if_false, eq_self, not_true_eq_false, not_false_eq_true, am_w_id, if_pos, if_neg, fu_self, fu_ne, Int.toNat_natCast, m_gR_39, m_l_39, m_s_39, h39, c, h37]); rw [B_md_counts_15]; (try simp (disch := omega) only [Option.bind_some, if_true, if_false, eq_self, not_true_eq_false, not_false_eq_true, am_w_id, if_pos, if_neg, fu_self, fu_ne, Int.toNat_natCast, h39, c, h37]); rw [B_md_counts_16]; (try simp (disch := omega) only [Option.bind_some, if_true, if_false, eq_self, not_true_eq_false, not_false_eq_true, am_w_id, if_pos, if_neg, fu_self, fu_ne, Int.toNat_natCast, m_gR_37, m_l_37, m_s_37, h39, c, h37])
      rfl
  have loop := am_for (F := fun k => EV d N_md_counts T_md_counts_25 [.inr (.inr (some (m))), .inl ((d2 : Int)), .inl ((s : Int)), .inl ((pcn ss (9 - d2) s k : Int)), .inl (((p + k : Nat) : Int))] [] (MH m g (am_fu S 44 f))) (k := 0) (n := (aOf ss s).length) (Nat.zero_le _) (fun k _ hk => by
    obtain ⟨a, ha⟩ : ∃ a, (aOf ss s)[k]? = some a := ⟨_, List.getElem?_eq_getElem hk⟩
    have hok := (of_ok hm hs).2.1 a (List.mem_of_getElem? ha)
    obtain ⟨z, hz⟩ : ∃ z : Nat, a.2.2 = (z : Int) := ⟨a.2.2.toNat, by omega⟩
    have hz2 : z < ss.length := by omega
    have hrz : rc ss (d2 + 1) z = true := rc_s.mpr ⟨s, hs, hr, a, List.mem_of_getElem? ha, hz⟩
    have hd10 : d2 < 10 := by
      rcases Nat.lt_or_ge d2 10 with h | h
      · exact h
      · obtain rfl : d2 = 10 := by omega
        rw [h11 z hz2] at hrz
        exact absurd hrz (by decide)
    have h42 : S 42 (p + k) = (z : Int) := by rw [← hz]; exact (M3 _ _ (l2 k a ha)).2.2
    have h44 := F (d2 + 1) z (by omega) hz2 hrz (Or.inl (by omega))
    rw [show 10 - (d2 + 1) = 9 - d2 by omega] at h44
    have hps := pcn_s (n := 9 - d2) ha
    have hzt : a.2.2.toNat = z := by omega
    rw [hzt] at hps
    have hb := pcn_le ss (9 - d2) s k (by omega)
    have hc := cwn_le ss (9 - d2) z
    rw [hps, md_ct25 (S := am_fu S 44 f) (n := p) (c := (aOf ss s).length) (by omega) (by omega) (by omega) (by rw [fu_ne (by decide)]; exact h37) (by rw [fu_ne (by decide)]; exact h38), if_neg (by omega)]
    have e8 : (d2 : Int) + 1 = ((d2 + 1 : Nat) : Int) := by omega
    have e9 : ((p + k : Nat) : Int) + 1 = ((p + (k + 1) : Nat) : Int) := by omega
    have e7 : 1001 * ((d2 + 1 : Nat) : Int) + (z : Int) = ((1001 * (d2 + 1) + z : Nat) : Int) := by omega
    have e6 : (pcn ss (9 - d2) s k : Int) + (cwn ss (9 - d2) z : Int) = ((pcn ss (9 - d2) s k + cwn ss (9 - d2) z : Nat) : Int) := by omega
    (try dsimp only); rw [B_md_counts_43]; (try simp (disch := omega) only [Option.bind_some, if_true, if_false, eq_self, not_true_eq_false, not_false_eq_true, am_w_id, if_pos, if_neg, fu_self, fu_ne, Int.toNat_natCast, m_gR_44, m_l_44, m_s_44, m_gR_42, m_l_42, m_s_42, h42, e8, e9, e7, h44, e6]))
  have hfin : cwn ss (10 - d2) s = min 101 (pcn ss (9 - d2) s (aOf ss s).length) := by
    by_cases c : d2 = 10
    · subst c
      have he : aOf ss s = [] := by
        cases e : aOf ss s with
        | nil => rfl
        | cons a l =>
          have hok := (of_ok hm hs).2.1 a (by rw [e]; exact List.mem_cons_self)
          have hrz : rc ss 11 a.2.2.toNat = true := rc_s.mpr ⟨s, hs, hr, a, by rw [e]; exact List.mem_cons_self, by omega⟩
          rw [h11 _ (by omega)] at hrz
          exact absurd hrz (by decide)
      unfold pcn
      rw [he]
      show cwn ss 0 s = _
      unfold cwn
      split <;> rfl
    · rw [show 10 - d2 = (9 - d2) + 1 by omega]
      unfold pcn
      rw [List.take_length]
      rfl
  have hb := pcn_le ss (9 - d2) s (aOf ss s).length (Nat.le_refl _)
  have e7 : 1001 * (d2 : Int) + (s : Int) = ((1001 * d2 + s : Nat) : Int) := by omega
  refine am_cV_of ((st.trans loop).trans ?_)
  rw [md_ct25 (S := am_fu S 44 f) (n := p) (c := (aOf ss s).length) (by omega) (by omega) (by omega) (by rw [fu_ne (by decide)]; exact h37) (by rw [fu_ne (by decide)]; exact h38), if_pos (by omega), hfin]
  by_cases c : pcn ss (9 - d2) s (aOf ss s).length ≤ 100
  · rw [Nat.min_eq_right (by omega)]
    have c' : (pcn ss (9 - d2) s (aOf ss s).length : Int) ≤ 100 := by omega
    (try dsimp only); rw [B_md_counts_72]; (try simp (disch := omega) only [Option.bind_some, if_true, if_false, eq_self, not_true_eq_false, not_false_eq_true, am_w_id, if_pos, if_neg, fu_self, fu_ne, Int.toNat_natCast, m_gR_44, m_l_44, m_s_44, c', e7, m_s_44, fu_fu]); rw [B_md_counts_94]; (try simp (disch := omega) only [Option.bind_some, if_true, if_false, eq_self, not_true_eq_false, not_false_eq_true, am_w_id, if_pos, if_neg, fu_self, fu_ne, Int.toNat_natCast, c', e7, m_s_44, fu_fu]); rw [B_md_counts_95]; (try simp (disch := omega) only [Option.bind_some, if_true, if_false, eq_self, not_true_eq_false, not_false_eq_true, am_w_id, if_pos, if_neg, fu_self, fu_ne, Int.toNat_natCast, c', e7, m_s_44, fu_fu])
  · rw [Nat.min_eq_left (by omega)]
    have c' : ¬ (pcn ss (9 - d2) s (aOf ss s).length : Int) ≤ 100 := by omega
    (try dsimp only); rw [B_md_counts_72]; (try simp (disch := omega) only [Option.bind_some, if_true, if_false, eq_self, not_true_eq_false, not_false_eq_true, am_w_id, if_pos, if_neg, fu_self, fu_ne, Int.toNat_natCast, m_gR_44, m_l_44, m_s_44, c', e7, m_s_44, fu_fu]); rw [B_md_counts_89]; (try simp (disch := omega) only [Option.bind_some, if_true, if_false, eq_self, not_true_eq_false, not_false_eq_true, am_w_id, if_pos, if_neg, fu_self, fu_ne, Int.toNat_natCast, c', e7, m_s_44, fu_fu]); rw [B_md_counts_95]; (try simp (disch := omega) only [Option.bind_some, if_true, if_false, eq_self, not_true_eq_false, not_false_eq_true, am_w_id, if_pos, if_neg, fu_self, fu_ne, Int.toNat_natCast, c', e7, m_s_44, fu_fu])
    rfl
theorem ctR_up {f : Nat → Int} {d2 s : Nat} (hl : ss.length ≤ 1001) (hd : d2 ≤ 10) (hs : s < ss.length) (F : ctR f ss d2 s) : ctR (am_fu f (1001 * d2 + s) (cwn ss (10 - d2) s : Int)) ss d2 (s + 1) := by
  intro e z he hz hr hc
  unfold am_fu
  by_cases c : 1001 * e + z = 1001 * d2 + s
  · rw [if_pos c]
    have h1 : e = d2 := by omega
    have h2 : z = s := by omega
    rw [h1, h2]
  · rw [if_neg c]
    refine F e z he hz hr ?_
    rcases hc with h | ⟨h1, h2⟩
    · exact Or.inl h
    · refine Or.inr ⟨h1, ?_⟩
      subst h1
      omega
theorem ctR_no {f : Nat → Int} {d2 s : Nat} (hr : ¬ rc ss d2 s = true) (F : ctR f ss d2 s) : ctR f ss d2 (s + 1) := by
  intro e z he hz hr2 hc
  refine F e z he hz hr2 ?_
  rcases hc with h | ⟨h1, h2⟩
  · exact Or.inl h
  · refine Or.inr ⟨h1, ?_⟩
    by_cases c : z = s
    · subst c h1
      exact absurd hr2 hr
    · omega
theorem md_awCounts (hm : mach ss) (M : mcR S u ss) (hl : ss.length ≤ 1001) (hf : (fla ss).length ≤ 133) (h11 : ∀ s, s < ss.length → rc ss 11 s = false) (hS : rcR (S 43) ss 11 0 0) {d2 : Nat} (hd : d2 ≤ 10) (j3 : am_V) (d : Nat) : ∀ (n s : Nat) (f : Nat → Int), s + n = ss.length → ctR f ss d2 s →
    ∃ f', EV (d + 1) N_md_areWords T_md_areWords_165 [.inr (.inr (some (m))), .inl ((d2 : Int)), .inl ((s : Int)), j3] [] (MH m g (am_fu S 44 f)) = EV (d + 1) N_md_areWords T_md_areWords_200 [.inr (.inr (some (m))), .inl ((d2 : Int)), .inl ((ss.length : Int)), j3] [] (MH m g (am_fu S 44 f')) ∧ ctR f' ss d2 ss.length := by
  have M1 := M.1
  intro n
  induction n with
  | zero =>
    intro s f hs F
    obtain rfl : s = ss.length := by omega
    refine ⟨f, ?_, F⟩
    (try dsimp only); rw [B_md_areWords_165]; (try simp (disch := omega) only [Option.bind_some, if_true, if_false, eq_self, not_true_eq_false, not_false_eq_true, am_w_id, if_pos, if_neg, fu_self, fu_ne, Int.toNat_natCast, m_gI_35, m_p_35, M1, Int.le_refl])
  | succ n ih =>
    intro s f hs F
    have hlt : ¬ (ss.length : Int) ≤ (s : Int) := by omega
    have hr := rcR_at hS (e := d2) (z := s) (by omega) (by omega) (by omega)
    have e7 : 1001 * (d2 : Int) + (s : Int) = ((1001 * d2 + s : Nat) : Int) := by omega
    have e9 : (s : Int) + 1 = ((s + 1 : Nat) : Int) := by omega
    by_cases c : rc ss d2 s = true
    · rw [c] at hr
      have hr' : S 43 (1001 * d2 + s) = 1 := hr
      have a1 := fun d => md_counts (m := m) (g := g) hm M hl hf h11 hd (show s < ss.length by omega) c F d
      obtain ⟨f', g2, F2⟩ := ih (s + 1) _ (by omega) (ctR_up hl hd (by omega) F)
      refine ⟨f', Eq.trans ?_ g2, F2⟩
      (try dsimp only); rw [B_md_areWords_165]; (try simp (disch := omega) only [Option.bind_some, if_true, if_false, eq_self, not_true_eq_false, not_false_eq_true, am_w_id, if_pos, if_neg, fu_self, fu_ne, Int.toNat_natCast, m_gI_35, m_p_35, M1, hlt, e7, m_l_43, hr', a1, e9, show ¬ (1 : Int) = 0 by decide]); rw [B_md_areWords_173]; (try simp (disch := omega) only [Option.bind_some, if_true, if_false, eq_self, not_true_eq_false, not_false_eq_true, am_w_id, if_pos, if_neg, fu_self, fu_ne, Int.toNat_natCast, m_gR_43, m_l_43, m_s_43, M1, hlt, e7, m_l_43, hr', a1, e9, show ¬ (1 : Int) = 0 by decide]); rw [B_md_areWords_188]; (try simp (disch := omega) only [Option.bind_some, if_true, if_false, eq_self, not_true_eq_false, not_false_eq_true, am_w_id, if_pos, if_neg, fu_self, fu_ne, Int.toNat_natCast, m_O, M1, hlt, e7, m_l_43, hr', a1, e9, show ¬ (1 : Int) = 0 by decide]); rw [B_md_areWords_194]; (try simp (disch := omega) only [Option.bind_some, if_true, if_false, eq_self, not_true_eq_false, not_false_eq_true, am_w_id, if_pos, if_neg, fu_self, fu_ne, Int.toNat_natCast, M1, hlt, e7, m_l_43, hr', a1, e9, show ¬ (1 : Int) = 0 by decide])
    · have c' := Bool.eq_false_iff.mpr c
      rw [c'] at hr
      have hr' : S 43 (1001 * d2 + s) = 0 := hr
      obtain ⟨f', g2, F2⟩ := ih (s + 1) f (by omega) (ctR_no c F)
      refine ⟨f', Eq.trans ?_ g2, F2⟩
      (try dsimp only); rw [B_md_areWords_165]; (try simp (disch := omega) only [Option.bind_some, if_true, if_false, eq_self, not_true_eq_false, not_false_eq_true, am_w_id, if_pos, if_neg, fu_self, fu_ne, Int.toNat_natCast, m_gI_35, m_p_35, M1, hlt, e7, m_l_43, hr', e9]); rw [B_md_areWords_173]; (try simp (disch := omega) only [Option.bind_some, if_true, if_false, eq_self, not_true_eq_false, not_false_eq_true, am_w_id, if_pos, if_neg, fu_self, fu_ne, Int.toNat_natCast, m_gR_43, m_l_43, m_s_43, M1, hlt, e7, m_l_43, hr', e9]); rw [B_md_areWords_194]; (try simp (disch := omega) only [Option.bind_some, if_true, if_false, eq_self, not_true_eq_false, not_false_eq_true, am_w_id, if_pos, if_neg, fu_self, fu_ne, Int.toNat_natCast, M1, hlt, e7, m_l_43, hr', e9])
theorem md_awDown (hm : mach ss) (M : mcR S u ss) (hl : ss.length ≤ 1001) (hf : (fla ss).length ≤ 133) (h11 : ∀ s, s < ss.length → rc ss 11 s = false) (hS : rcR (S 43) ss 11 0 0) (j3 : am_V) (d : Nat) : ∀ (d2 : Nat) (j2 : am_V) (f : Nat → Int), d2 ≤ 10 → ctR f ss d2 0 →
    ∃ j2' f', EV (d + 1) N_md_areWords T_md_areWords_159 [.inr (.inr (some (m))), .inl ((d2 : Int)), j2, j3] [] (MH m g (am_fu S 44 f)) = EV (d + 1) N_md_areWords T_md_areWords_206 [.inr (.inr (some (m))), .inl (-1), j2', j3] [] (MH m g (am_fu S 44 f')) ∧ ∀ e z, e ≤ 10 → z < ss.length → rc ss e z = true → f' (1001 * e + z) = (cwn ss (10 - e) z : Int) := by
  intro d2
  induction d2 with
  | zero =>
    intro j2 f hd F
    obtain ⟨f', g1, F1⟩ := md_awCounts (m := m) (g := g) hm M hl hf h11 hS hd j3 d ss.length 0 f (by omega) F
    refine ⟨.inl ((ss.length : Int)), f', ?_, fun e z he hz hr => F1 e z he hz hr (by omega)⟩
    have g0 : EV (d + 1) N_md_areWords T_md_areWords_159 [.inr (.inr (some (m))), .inl (((0 : Nat) : Int)), j2, j3] [] (MH m g (am_fu S 44 f)) = EV (d + 1) N_md_areWords T_md_areWords_165 [.inr (.inr (some (m))), .inl (((0 : Nat) : Int)), .inl (((0 : Nat) : Int)), j3] [] (MH m g (am_fu S 44 f)) := by
      (try dsimp only); rw [B_md_areWords_159]; (try simp (disch := omega) only [Option.bind_some, if_true, if_false, eq_self, not_true_eq_false, not_false_eq_true, am_w_id, if_pos, if_neg, fu_self, fu_ne, Int.toNat_natCast]); rw [B_md_areWords_163]; (try simp (disch := omega) only [Option.bind_some, if_true, if_false, eq_self, not_true_eq_false, not_false_eq_true, am_w_id, if_pos, if_neg, fu_self, fu_ne, Int.toNat_natCast])
      rfl
    refine g0.trans (g1.trans ?_)
    have e9 : ((0 : Nat) : Int) + (-1) = -1 := by omega
    have e8 : (-1 : Int) < 0 := by decide
    (try dsimp only); rw [B_md_areWords_200]; (try simp (disch := omega) only [Option.bind_some, if_true, if_false, eq_self, not_true_eq_false, not_false_eq_true, am_w_id, if_pos, if_neg, fu_self, fu_ne, Int.toNat_natCast, e9, e8]); rw [B_md_areWords_159]; (try simp (disch := omega) only [Option.bind_some, if_true, if_false, eq_self, not_true_eq_false, not_false_eq_true, am_w_id, if_pos, if_neg, fu_self, fu_ne, Int.toNat_natCast, e9, e8])
  | succ d2 ih =>
    intro j2 f hd F
    obtain ⟨f1, g1, F1⟩ := md_awCounts (m := m) (g := g) hm M hl hf h11 hS hd j3 d ss.length 0 f (by omega) F
    obtain ⟨j2', f', g2, F2⟩ := ih (.inl ((ss.length : Int))) f1 (by omega) (fun e z he hz hr hc => F1 e z he hz hr (by omega))
    refine ⟨j2', f', ?_, F2⟩
    have g0 : EV (d + 1) N_md_areWords T_md_areWords_159 [.inr (.inr (some (m))), .inl (((d2 + 1 : Nat) : Int)), j2, j3] [] (MH m g (am_fu S 44 f)) = EV (d + 1) N_md_areWords T_md_areWords_165 [.inr (.inr (some (m))), .inl (((d2 + 1 : Nat) : Int)), .inl (((0 : Nat) : Int)), j3] [] (MH m g (am_fu S 44 f)) := by
      have hlt : ¬ ((d2 + 1 : Nat) : Int) < 0 := by omega
      (try dsimp only); rw [B_md_areWords_159]; (try simp (disch := omega) only [Option.bind_some, if_true, if_false, eq_self, not_true_eq_false, not_false_eq_true, am_w_id, if_pos, if_neg, fu_self, fu_ne, Int.toNat_natCast, hlt]); rw [B_md_areWords_163]; (try simp (disch := omega) only [Option.bind_some, if_true, if_false, eq_self, not_true_eq_false, not_false_eq_true, am_w_id, if_pos, if_neg, fu_self, fu_ne, Int.toNat_natCast, hlt])
      rfl
    refine g0.trans (g1.trans (Eq.trans ?_ g2))
    have e9 : ((d2 + 1 : Nat) : Int) + (-1) = (d2 : Int) := by omega
    (try dsimp only); rw [B_md_areWords_200]; (try simp (disch := omega) only [Option.bind_some, if_true, if_false, eq_self, not_true_eq_false, not_false_eq_true, am_w_id, if_pos, if_neg, fu_self, fu_ne, Int.toNat_natCast, e9])
end MO
