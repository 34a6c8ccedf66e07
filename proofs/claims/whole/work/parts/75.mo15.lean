/-! unpack: areWords -/
theorem fla_len (ss : List sta) {s : Nat} (h : s < ss.length) : (fla (ss.take s)).length + (aOf ss s).length ≤ (fla ss).length ∧ ∀ k a, (aOf ss s)[k]? = some a → (fla ss)[(fla (ss.take s)).length + k]? = some a := by
  have e1 : ss = ss.take s ++ ((eOf ss s, aOf ss s) :: ss.drop (s + 1)) := by
    have h1 := of_get h
    rw [List.getElem?_eq_getElem h] at h1
    injection h1 with h1
    rw [← h1, ← List.drop_eq_getElem_cons h, List.take_append_drop]
  have e2 : fla ss = fla (ss.take s) ++ (aOf ss s ++ fla (ss.drop (s + 1))) := by
    conv => lhs; rw [e1]
    unfold fla
    rw [List.flatMap_append, List.flatMap_cons]
  rw [e2]
  refine ⟨by simp only [List.length_append]; omega, fun k a hk => ?_⟩
  rw [List.getElem?_append_right (by omega), Nat.add_sub_cancel_left, List.getElem?_append_left (List.getElem?_eq_some_iff.mp hk).1]
  exact hk
/-- a row of flags, while it is filled: level d, state s, k arcs done -/
def tgt (l : List arc) (z : Nat) : Bool := l.any (fun a => decide (a.2.2 = (z : Int)))
def rcb (ss : List sta) (d s k i : Nat) : Bool :=
  if i / 1001 ≤ d then rc ss (i / 1001) (i % 1001)
  else if i / 1001 = d + 1 then ((List.range s).any (fun p => rc ss d p && tgt (aOf ss p) (i % 1001)) || (rc ss d s && tgt ((aOf ss s).take k) (i % 1001)))
  else false
def b01 (b : Bool) : Int := if b = true then 1 else 0
def rcR (f : Nat → Int) (ss : List sta) (d s k : Nat) : Prop := ∀ i, i < 12012 → f i = b01 (rcb ss d s k i)
theorem rcR_arc {f : Nat → Int} {ss : List sta} {d s k z : Nat} (h : rcR f ss d s k) (hr : rc ss d s = true) {a : arc} (ha : (aOf ss s)[k]? = some a) (hz : a.2.2 = (z : Int)) (hz2 : z < 1001) : rcR (am_fu f (1001 * (d + 1) + z) 1) ss d s (k + 1) := by
  intro i hi
  have ht : tgt ((aOf ss s).take (k + 1)) (i % 1001) = (tgt ((aOf ss s).take k) (i % 1001) || decide (z = i % 1001)) := by
    unfold tgt
    rw [tk_s ha, List.any_append, List.any_cons, List.any_nil, Bool.or_false, hz]
    congr 1
    by_cases c : z = i % 1001
    · rw [decide_eq_true c, decide_eq_true (by omega)]
    · rw [decide_eq_false c, decide_eq_false (by omega)]
  unfold am_fu
  by_cases c : i = 1001 * (d + 1) + z
  · rw [if_pos c]
    unfold rcb
    rw [if_neg (by omega), if_pos (by omega), ht, hr, decide_eq_true (show z = i % 1001 by omega), Bool.or_true, Bool.and_true, Bool.or_true]
    rfl
  · rw [if_neg c, h i hi]
    unfold rcb
    by_cases c1 : i / 1001 ≤ d
    · rw [if_pos c1, if_pos c1]
    · rw [if_neg c1, if_neg c1]
      by_cases c2 : i / 1001 = d + 1
      · rw [if_pos c2, if_pos c2, ht, decide_eq_false (show ¬ z = i % 1001 by omega), Bool.or_false]
      · rw [if_neg c2, if_neg c2]
theorem rcR_st {f : Nat → Int} {ss : List sta} {d s k : Nat} (h : rcR f ss d s k) (hk : rc ss d s = true → (aOf ss s).length ≤ k) : rcR f ss d (s + 1) 0 := by
  intro i hi
  rw [h i hi]
  congr 1
  unfold rcb
  split
  · rfl
  · split
    · rw [List.range_succ, List.any_append, List.any_cons, List.any_nil, Bool.or_false, List.take_zero]
      by_cases c : rc ss d s = true
      · rw [List.take_of_length_le (hk c)]
        simp [tgt]
      · rw [Bool.eq_false_iff.mpr c]
        simp [tgt]
    · rfl
theorem rcR_lv {f : Nat → Int} {ss : List sta} {d : Nat} (h : rcR f ss d ss.length 0) : rcR f ss (d + 1) 0 0 := by
  intro i hi
  rw [h i hi]
  congr 1
  unfold rcb
  by_cases c1 : i / 1001 ≤ d
  · rw [if_pos c1, if_pos (by omega)]
  · rw [if_neg c1]
    by_cases c2 : i / 1001 = d + 1
    · rw [if_pos c2, if_pos (by omega), List.take_zero, c2]
      simp [tgt, rc]
    · rw [if_neg c2, if_neg (by omega)]
      split
      · simp [tgt]
      · rfl
theorem rcR_at {f : Nat → Int} {ss : List sta} {d s k e z : Nat} (h : rcR f ss d s k) (he : e ≤ d) (he2 : e ≤ 11) (hz : z < 1001) : f (1001 * e + z) = b01 (rc ss e z) := by
  rw [h _ (by omega)]
  unfold rcb
  rw [show (1001 * e + z) / 1001 = e by omega, show (1001 * e + z) % 1001 = z by omega, if_pos he]
section MO
variable {m : Nat} {g : am_H} {S : Nat → Nat → Int} {u : Int} {ss : List sta}
theorem md_aw70 {d2 s n c k : Nat} (hs : s < 1001) (hn : n ≤ 400) (hc : c ≤ 400) (h37 : S 37 s = (n : Int)) (h38 : S 38 s = (c : Int)) (d : Nat) : EV d N_md_areWords T_md_areWords_70 [.inr (.inr (some (m))), .inl ((d2 : Int)), .inl ((s : Int)), .inl ((k : Int))] [] (MH m g S) = if n + c ≤ k then EV d N_md_areWords T_md_areWords_113 [.inr (.inr (some (m))), .inl ((d2 : Int)), .inl ((s : Int)), .inl ((k : Int))] [] (MH m g S) else EV d N_md_areWords T_md_areWords_87 [.inr (.inr (some (m))), .inl ((d2 : Int)), .inl ((s : Int)), .inl ((k : Int))] [] (MH m g S) := by
  have e1 : (s : Int) < 1001 := by omega
  have e0 : (0 : Int) ≤ (s : Int) := by omega
  have e2 : ((n : Int) + (c : Int) ≤ (k : Int)) ↔ n + c ≤ k := by omega
  have e3 : -2147483648 ≤ (n : Int) + (c : Int) := by omega
  have e4 : (n : Int) + (c : Int) < 2147483648 := by omega
  rw [B_md_areWords_70, m_gR_37, Option.bind_some, m_l_37 e0 e1, Option.bind_some, m_gR_38, Option.bind_some, m_l_38 e0 e1, Option.bind_some, Int.toNat_natCast, h37, h38, am_w_id e3 e4]
  by_cases h : n + c ≤ k
  · rw [if_pos h, if_pos (e2.mpr h)]
  · rw [if_neg h, if_neg (fun z => h (e2.mp z))]
theorem md_awArcs (hm : mach ss) (M : mcR S u ss) (hl : ss.length ≤ 1001) (hf : (fla ss).length ≤ 133) {d2 s : Nat} (hd : d2 ≤ 10) (hs : s < ss.length) (hr : rc ss d2 s = true) (d : Nat) : ∀ (n k : Nat) (f : Nat → Int), k + n = (aOf ss s).length → rcR f ss d2 s k →
    ∃ f', EV d N_md_areWords T_md_areWords_70 [.inr (.inr (some (m))), .inl ((d2 : Int)), .inl ((s : Int)), .inl ((((fla (ss.take s)).length + k : Nat) : Int))] [] (MH m g (am_fu S 43 f)) = EV d N_md_areWords T_md_areWords_40 [.inr (.inr (some (m))), .inl ((d2 : Int)), .inl (((s + 1 : Nat) : Int)), .inl ((((fla (ss.take s)).length + (aOf ss s).length : Nat) : Int))] [] (MH m g (am_fu S 43 f')) ∧ rcR f' ss d2 (s + 1) 0 := by
  obtain ⟨M1, M2, M3, M4⟩ := M
  obtain ⟨h37, h38, h39⟩ := M4 s _ (of_get hs)
  dsimp only at h37 h38 h39
  obtain ⟨l1, l2⟩ := fla_len ss hs
  intro n
  induction n with
  | zero =>
    intro k f hk F
    refine ⟨f, ?_, rcR_st F (fun _ => by omega)⟩
    have e9 : (s : Int) + 1 = ((s + 1 : Nat) : Int) := by omega
    have hk' : k = (aOf ss s).length := by omega
    rw [md_aw70 (S := am_fu S 43 f) (n := (fla (ss.take s)).length) (c := (aOf ss s).length) (by omega) (by omega) (by omega) (by rw [fu_ne (by decide)]; exact h37) (by rw [fu_ne (by decide)]; exact h38), if_pos (by omega), hk']
    (try dsimp only); rw [B_md_areWords_113]; (try simp (disch := omega) only [Option.bind_some, if_true, if_false, eq_self, not_true_eq_false, not_false_eq_true, am_w_id, if_pos, if_neg, fu_self, fu_ne, Int.toNat_natCast, e9])
  | succ n ih =>
    intro k f hk F
    have hk1 : k < (aOf ss s).length := by omega
    obtain ⟨a, ha⟩ : ∃ a, (aOf ss s)[k]? = some a := ⟨_, List.getElem?_eq_getElem hk1⟩
    have hok := (of_ok hm hs).2.1 a (List.mem_of_getElem? ha)
    obtain ⟨z, hz⟩ : ∃ z : Nat, a.2.2 = (z : Int) := ⟨a.2.2.toNat, by omega⟩
    have hz2 : z < 1001 := by omega
    have h42 : S 42 ((fla (ss.take s)).length + k) = (z : Int) := by rw [← hz]; exact (M3 _ _ (l2 k a ha)).2.2
    obtain ⟨f', e, F'⟩ := ih (k + 1) (am_fu f (1001 * (d2 + 1) + z) 1) (by omega) (rcR_arc F hr ha hz hz2)
    refine ⟨f', ?_, F'⟩
    refine Eq.trans ?_ e
    rw [md_aw70 (S := am_fu S 43 f) (n := (fla (ss.take s)).length) (c := (aOf ss s).length) (by omega) (by omega) (by omega) (by rw [fu_ne (by decide)]; exact h37) (by rw [fu_ne (by decide)]; exact h38), if_neg (by omega)]
    generalize (fla (ss.take s)).length = p at *
    have e8 : (d2 : Int) + 1 = ((d2 + 1 : Nat) : Int) := by omega
    have e9 : ((p + k : Nat) : Int) + 1 = ((p + (k + 1) : Nat) : Int) := by omega
    have e7 : 1001 * ((d2 + 1 : Nat) : Int) + (z : Int) = ((1001 * (d2 + 1) + z : Nat) : Int) := by omega
    (try dsimp only); rw [B_md_areWords_87]; (try simp (disch := omega) only [Option.bind_some, if_true, if_false, eq_self, not_true_eq_false, not_false_eq_true, am_w_id, if_pos, if_neg, fu_self, fu_ne, Int.toNat_natCast, m_gR_43, m_l_43, m_s_43, m_gR_42, m_l_42, m_s_42, h42, e8, e9, e7, m_s_43, fu_fu])
theorem md_awStates (hm : mach ss) (M : mcR S u ss) (hl : ss.length ≤ 1001) (hf : (fla ss).length ≤ 133) {d2 : Nat} (hd : d2 ≤ 10) (d : Nat) : ∀ (n s : Nat) (j : am_V) (f : Nat → Int), s + n = ss.length → rcR f ss d2 s 0 →
    ∃ j' f', EV d N_md_areWords T_md_areWords_40 [.inr (.inr (some (m))), .inl ((d2 : Int)), .inl ((s : Int)), j] [] (MH m g (am_fu S 43 f)) = EV d N_md_areWords T_md_areWords_119 [.inr (.inr (some (m))), .inl ((d2 : Int)), .inl ((ss.length : Int)), j'] [] (MH m g (am_fu S 43 f')) ∧ rcR f' ss d2 ss.length 0 := by
  have M1 := M.1
  intro n
  induction n with
  | zero =>
    intro s j f hs F
    obtain rfl : s = ss.length := by omega
    refine ⟨j, f, ?_, F⟩
    (try dsimp only); rw [B_md_areWords_40]; (try simp (disch := omega) only [Option.bind_some, if_true, if_false, eq_self, not_true_eq_false, not_false_eq_true, am_w_id, if_pos, if_neg, fu_self, fu_ne, Int.toNat_natCast, m_gI_35, m_p_35, M1, Int.le_refl])
  | succ n ih =>
    intro s j f hs F
    have hlt : ¬ (ss.length : Int) ≤ (s : Int) := by omega
    have hr := rcR_at F (Nat.le_refl d2) (by omega) (show s < 1001 by omega)
    have e7 : 1001 * (d2 : Int) + (s : Int) = ((1001 * d2 + s : Nat) : Int) := by omega
    have e9 : (s : Int) + 1 = ((s + 1 : Nat) : Int) := by omega
    by_cases c : rc ss d2 s = true
    · rw [c] at hr
      have hr' : f (1001 * d2 + s) = 1 := hr
      obtain ⟨h37, h38, h39⟩ := M.2.2.2 s _ (of_get (show s < ss.length by omega))
      obtain ⟨f1, g1, F1⟩ := md_awArcs (m := m) (g := g) hm M hl hf hd (show s < ss.length by omega) c d (aOf ss s).length 0 f (by omega) F
      rw [Nat.add_zero] at g1
      obtain ⟨j', f', g2, F2⟩ := ih (s + 1) (.inl ((((fla (ss.take s)).length + (aOf ss s).length : Nat) : Int))) f1 (by omega) F1
      refine ⟨j', f', ?_, F2⟩
      refine Eq.trans ?_ (g1.trans g2)
      (try dsimp only); rw [B_md_areWords_40]; (try simp (disch := omega) only [Option.bind_some, if_true, if_false, eq_self, not_true_eq_false, not_false_eq_true, am_w_id, if_pos, if_neg, fu_self, fu_ne, Int.toNat_natCast, m_gI_35, m_p_35, M1, hlt, e7, m_l_43, hr', h37, show ¬ (1 : Int) = 0 by decide]); rw [B_md_areWords_48]; (try simp (disch := omega) only [Option.bind_some, if_true, if_false, eq_self, not_true_eq_false, not_false_eq_true, am_w_id, if_pos, if_neg, fu_self, fu_ne, Int.toNat_natCast, m_gR_43, m_l_43, m_s_43, M1, hlt, e7, m_l_43, hr', h37, show ¬ (1 : Int) = 0 by decide]); rw [B_md_areWords_63]; (try simp (disch := omega) only [Option.bind_some, if_true, if_false, eq_self, not_true_eq_false, not_false_eq_true, am_w_id, if_pos, if_neg, fu_self, fu_ne, Int.toNat_natCast, m_gR_37, m_l_37, m_s_37, M1, hlt, e7, m_l_43, hr', h37, show ¬ (1 : Int) = 0 by decide])
    · have c' := Bool.eq_false_iff.mpr c
      rw [c'] at hr
      have hr' : f (1001 * d2 + s) = 0 := hr
      obtain ⟨j', f', g2, F2⟩ := ih (s + 1) j f (by omega) (rcR_st F (fun h => absurd h c))
      refine ⟨j', f', ?_, F2⟩
      refine Eq.trans ?_ g2
      (try dsimp only); rw [B_md_areWords_40]; (try simp (disch := omega) only [Option.bind_some, if_true, if_false, eq_self, not_true_eq_false, not_false_eq_true, am_w_id, if_pos, if_neg, fu_self, fu_ne, Int.toNat_natCast, m_gI_35, m_p_35, M1, hlt, e7, m_l_43, hr', e9]); rw [B_md_areWords_48]; (try simp (disch := omega) only [Option.bind_some, if_true, if_false, eq_self, not_true_eq_false, not_false_eq_true, am_w_id, if_pos, if_neg, fu_self, fu_ne, Int.toNat_natCast, m_gR_43, m_l_43, m_s_43, M1, hlt, e7, m_l_43, hr', e9]); rw [B_md_areWords_113]; (try simp (disch := omega) only [Option.bind_some, if_true, if_false, eq_self, not_true_eq_false, not_false_eq_true, am_w_id, if_pos, if_neg, fu_self, fu_ne, Int.toNat_natCast, M1, hlt, e7, m_l_43, hr', e9])
theorem md_awLevels (hm : mach ss) (M : mcR S u ss) (hl : ss.length ≤ 1001) (hf : (fla ss).length ≤ 133) (d : Nat) : ∀ (n d2 : Nat) (j2 j3 : am_V) (f : Nat → Int), d2 + n = 11 → rcR f ss d2 0 0 →
    ∃ j2' j3' f', EV d N_md_areWords T_md_areWords_32 [.inr (.inr (some (m))), .inl ((d2 : Int)), j2, j3] [] (MH m g (am_fu S 43 f)) = EV d N_md_areWords T_md_areWords_125 [.inr (.inr (some (m))), .inl (11), j2', j3'] [] (MH m g (am_fu S 43 f')) ∧ rcR f' ss 11 0 0 := by
  intro n
  induction n with
  | zero =>
    intro d2 j2 j3 f hd F
    obtain rfl : d2 = 11 := by omega
    refine ⟨j2, j3, f, ?_, F⟩
    rw [show ((11 : Nat) : Int) = 11 from rfl]
    (try dsimp only); rw [B_md_areWords_32]; (try simp (disch := omega) only [Option.bind_some, if_true, if_false, eq_self, not_true_eq_false, not_false_eq_true, am_w_id, if_pos, if_neg, fu_self, fu_ne, Int.toNat_natCast, Int.le_refl])
  | succ n ih =>
    intro d2 j2 j3 f hd F
    have hlt : ¬ (11 : Int) ≤ (d2 : Int) := by omega
    have e9 : (d2 : Int) + 1 = ((d2 + 1 : Nat) : Int) := by omega
    obtain ⟨j', f1, g1, F1⟩ := md_awStates (m := m) (g := g) hm M hl hf (show d2 ≤ 10 by omega) d ss.length 0 j3 f (by omega) F
    obtain ⟨j2', j3', f', g2, F2⟩ := ih (d2 + 1) (.inl ((ss.length : Int))) j' f1 (by omega) (rcR_lv F1)
    refine ⟨j2', j3', f', ?_, F2⟩
    have g3 : EV d N_md_areWords T_md_areWords_32 [.inr (.inr (some (m))), .inl ((d2 : Int)), j2, j3] [] (MH m g (am_fu S 43 f)) = EV d N_md_areWords T_md_areWords_40 [.inr (.inr (some (m))), .inl ((d2 : Int)), .inl (((0 : Nat) : Int)), j3] [] (MH m g (am_fu S 43 f)) := by
      (try dsimp only); rw [B_md_areWords_32]; (try simp (disch := omega) only [Option.bind_some, if_true, if_false, eq_self, not_true_eq_false, not_false_eq_true, am_w_id, if_pos, if_neg, fu_self, fu_ne, Int.toNat_natCast, hlt]); rw [B_md_areWords_38]; (try simp (disch := omega) only [Option.bind_some, if_true, if_false, eq_self, not_true_eq_false, not_false_eq_true, am_w_id, if_pos, if_neg, fu_self, fu_ne, Int.toNat_natCast, hlt])
      rfl
    refine g3.trans (g1.trans (Eq.trans ?_ g2))
    (try dsimp only); rw [B_md_areWords_119]; (try simp (disch := omega) only [Option.bind_some, if_true, if_false, eq_self, not_true_eq_false, not_false_eq_true, am_w_id, if_pos, if_neg, fu_self, fu_ne, Int.toNat_natCast, e9])
/-- the flags cleared -/
def clf (f : Nat → Int) (k : Nat) : Nat → Int := fun i => if i < k then (if i = 0 then 1 else 0) else f i
theorem clf_s (f : Nat → Int) (k : Nat) : am_fu (clf f k) k (if k = 0 then 1 else 0) = clf f (k + 1) := by
  funext i
  unfold am_fu clf
  by_cases c : i = k
  · rw [if_pos c, if_pos (show i < k + 1 by omega), c]
  · rw [if_neg c]
    by_cases c2 : i < k
    · rw [if_pos c2, if_pos (show i < k + 1 by omega)]
    · rw [if_neg c2, if_neg (show ¬ i < k + 1 by omega)]
theorem clf_rc (f : Nat → Int) (ss : List sta) : rcR (clf f 12012) ss 0 0 0 := by
  intro i hi
  unfold clf rcb
  rw [if_pos hi]
  by_cases c : i = 0
  · rw [if_pos c, if_pos (by omega), show i / 1001 = 0 by omega]
    unfold rc
    rw [decide_eq_true (show i % 1001 = 0 by omega)]
    rfl
  · rw [if_neg c]
    by_cases c1 : i / 1001 ≤ 0
    · rw [if_pos c1, show i / 1001 = 0 by omega]
      unfold rc
      rw [decide_eq_false (show ¬ i % 1001 = 0 by omega)]
      rfl
    · rw [if_neg c1]
      by_cases c2 : i / 1001 = 0 + 1
      · rw [if_pos c2, List.take_zero]
        simp [tgt, b01]
      · rw [if_neg c2]; rfl
theorem md_awFlags (hm : mach ss) (M : mcR S u ss) (hl : ss.length ≤ 1001) (hf : (fla ss).length ≤ 133) (d : Nat) : ∃ j2 j3 f', am_call d N_md_areWords [.inr (.inr (some (m)))] (MH m g S) = EV d N_md_areWords T_md_areWords_125 [.inr (.inr (some (m))), .inl (11), j2, j3] [] (MH m g (am_fu S 43 f')) ∧ rcR f' ss 11 0 0 := by
  have loop := am_for (F := fun k => EV d N_md_areWords T_md_areWords_2 [.inr (.inr (some (m))), .inl ((k : Int)), am_nul, am_nul] [] (MH m g (am_fu S 43 (clf (S 43) k)))) (k := 0) (n := 12012) (Nat.zero_le _) (fun k _ hk => by
    have hlt : ¬ (12012 : Int) ≤ (k : Int) := by omega
    have e9 : (k : Int) + 1 = ((k + 1 : Nat) : Int) := by omega
    have ef := clf_s (S 43) k
    by_cases c : k = 0
    · have c' : (k : Int) = 0 := by omega
      have c3 : ¬ ¬ (k : Int) = 0 := by omega
      rw [if_pos c] at ef
      (try dsimp only); rw [B_md_areWords_2]; (try simp (disch := omega) only [Option.bind_some, if_true, if_false, eq_self, not_true_eq_false, not_false_eq_true, am_w_id, if_pos, if_neg, fu_self, fu_ne, Int.toNat_natCast, hlt])
      rw [B_md_areWords_9, m_gR_43, Option.bind_some, if_neg c3]
      (try dsimp only); rw [B_md_areWords_18]; (try simp (disch := omega) only [Option.bind_some, if_true, if_false, eq_self, not_true_eq_false, not_false_eq_true, am_w_id, if_pos, if_neg, fu_self, fu_ne, Int.toNat_natCast, m_gR_43, m_s_43, ef, fu_fu, e9]); rw [B_md_areWords_23]; (try simp (disch := omega) only [Option.bind_some, if_true, if_false, eq_self, not_true_eq_false, not_false_eq_true, am_w_id, if_pos, if_neg, fu_self, fu_ne, Int.toNat_natCast, m_gR_43, m_s_43, ef, fu_fu, e9])
    · have c' : ¬ (k : Int) = 0 := by omega
      rw [if_neg c] at ef
      (try dsimp only); rw [B_md_areWords_2]; (try simp (disch := omega) only [Option.bind_some, if_true, if_false, eq_self, not_true_eq_false, not_false_eq_true, am_w_id, if_pos, if_neg, fu_self, fu_ne, Int.toNat_natCast, hlt, c', m_s_43, ef, fu_fu, e9]); rw [B_md_areWords_9]; (try simp (disch := omega) only [Option.bind_some, if_true, if_false, eq_self, not_true_eq_false, not_false_eq_true, am_w_id, if_pos, if_neg, fu_self, fu_ne, Int.toNat_natCast, m_gR_43, m_l_43, m_s_43, hlt, c', m_s_43, ef, fu_fu, e9]); rw [B_md_areWords_22]; (try simp (disch := omega) only [Option.bind_some, if_true, if_false, eq_self, not_true_eq_false, not_false_eq_true, am_w_id, if_pos, if_neg, fu_self, fu_ne, Int.toNat_natCast, hlt, c', m_s_43, ef, fu_fu, e9]); rw [B_md_areWords_23]; (try simp (disch := omega) only [Option.bind_some, if_true, if_false, eq_self, not_true_eq_false, not_false_eq_true, am_w_id, if_pos, if_neg, fu_self, fu_ne, Int.toNat_natCast, hlt, c', m_s_43, ef, fu_fu, e9]))
  obtain ⟨j2', j3', f', g2, F2⟩ := md_awLevels (m := m) (g := g) hm M hl hf d 11 0 am_nul am_nul (clf (S 43) 12012) rfl (clf_rc _ _)
  refine ⟨j2', j3', f', Eq.trans ?_ g2, F2⟩
  have h0 : clf (S 43) 0 = S 43 := by funext i; unfold clf; rw [if_neg (by omega)]
  have st : am_call d N_md_areWords [.inr (.inr (some (m)))] (MH m g S) = EV d N_md_areWords T_md_areWords_2 [.inr (.inr (some (m))), .inl (((0 : Nat) : Int)), am_nul, am_nul] [] (MH m g (am_fu S 43 (clf (S 43) 0))) := by
    rw [h0, fu_eta]
    (try dsimp only); rw [en_md_areWords]; (try simp (disch := omega) only [Option.bind_some, if_true, if_false, eq_self, not_true_eq_false, not_false_eq_true, am_w_id, if_pos, if_neg, fu_self, fu_ne, Int.toNat_natCast]); rw [B_md_areWords_0]; (try simp (disch := omega) only [Option.bind_some, if_true, if_false, eq_self, not_true_eq_false, not_false_eq_true, am_w_id, if_pos, if_neg, fu_self, fu_ne, Int.toNat_natCast])
    rfl
  refine st.trans (loop.trans ?_)
  rw [show ((12012 : Nat) : Int) = 12012 from rfl]
  (try dsimp only); rw [B_md_areWords_2]; (try simp (disch := omega) only [Option.bind_some, if_true, if_false, eq_self, not_true_eq_false, not_false_eq_true, am_w_id, if_pos, if_neg, fu_self, fu_ne, Int.toNat_natCast, Int.le_refl]); rw [B_md_areWords_30]; (try simp (disch := omega) only [Option.bind_some, if_true, if_false, eq_self, not_true_eq_false, not_false_eq_true, am_w_id, if_pos, if_neg, fu_self, fu_ne, Int.toNat_natCast, Int.le_refl])
  rfl
end MO
