/-! the class' machine: what is asked of nodes -/
section MA
variable {q b : Nat} {g : am_H} {S : Nat → Nat → Int} {ws : List wd} {P : Nat → Bool}
/-- the words that nodes k .. i - 1 end -/
def wnd (ws : List wd) (k i : Nat) : List wd := ((List.range' k (i - k)).filter (fun j => decide (nv ws j ≠ -1))).map (fun j => (pn ws j, nv ws j))
theorem wnd_s {k i : Nat} (h : k ≤ i) : wnd ws k (i + 1) = wnd ws k i ++ (if nv ws i = -1 then [] else [(pn ws i, nv ws i)]) := by
  unfold wnd
  rw [show i + 1 - k = (i - k) + 1 by omega, List.range'_1_concat, List.filter_append, List.map_append, show k + (i - k) = i by omega]
  congr 1
  by_cases c : nv ws i = -1
  · rw [if_pos c, List.filter_cons, if_neg (by simp [c])]; rfl
  · rw [if_neg c, List.filter_cons, if_pos (by simp [c])]; rfl
theorem wnd_0 {k : Nat} : wnd ws k k = [] := by unfold wnd; rw [Nat.sub_self]; rfl
theorem wnd_len {k i : Nat} : (wnd ws k i).length ≤ i - k := by
  unfold wnd
  rw [List.length_map]
  exact Nat.le_trans (List.length_filter_le _ _) (by rw [List.length_range']; exact Nat.le_refl _)
theorem nv_iff (hok : ok ws) {i : Nat} (hi : i < nN ws) : (nv ws i = -1 ∧ nu ws (pn ws i) = none) ∨ (nv ws i ≠ -1 ∧ (0 ≤ nv ws i ∧ nv ws i ≤ 999999) ∧ nu ws (pn ws i) = some (nv ws i)) := by
  have h := nv_nu hok.1 hok.2.1 hi
  cases e : nu ws (pn ws i) with
  | none => rw [e] at h; exact Or.inl ⟨h, rfl⟩
  | some n =>
    rw [e] at h
    have h' : nv ws i = n := h
    have hn := (hok.1 _ ((nu_mem hok.2.1).mp e)).2.2.2
    dsimp only at hn
    refine Or.inr ⟨by omega, by omega, by rw [h']⟩
theorem wnd_all (hok : ok ws) {k : Nat} (hk : k < nN ws) : wnd ws k (k + sz ws (pn ws k)) = sb ws (pn ws k) := by
  have hs := hok.2.1
  have sk := szk_le hs hk
  refine so_ext ?_ (List.Pairwise.filter _ hs) (fun x => ?_)
  · unfold wnd so
    rw [List.pairwise_map]
    refine List.Pairwise.imp_of_mem ?_ (List.Pairwise.filter _ List.pairwise_lt_range')
    intro i j hi hj hij
    have h1 := List.mem_range'_1.mp (List.mem_filter.mp hi).1
    have h2 := List.mem_range'_1.mp (List.mem_filter.mp hj).1
    exact (pn_lx hs (by omega) (by omega)).mpr hij
  · rw [sb_mem]
    unfold wnd
    rw [List.mem_map]
    constructor
    · rintro ⟨i, hi, rfl⟩
      obtain ⟨h1, h2⟩ := List.mem_filter.mp hi
      have h3 := List.mem_range'_1.mp h1
      have hiN : i < nN ws := by omega
      have h4 := (nv_iff hok hiN).resolve_left (fun h => by simp at h2; exact h2 h.1)
      refine ⟨(nu_mem hs).mp h4.2.2, ?_⟩
      have := (sub_iff (p := pn ws k) hs hiN).mpr (by rw [ix_pn hs hk]; omega)
      exact this
    · rintro ⟨h1, h2⟩
      have hb : bg ws x.1 := Or.inr ⟨x, h1, List.prefix_refl _⟩
      have hi := ix_lt hs hb
      have hp := pn_ix hs hb
      have h3 := (sub_iff (p := pn ws k) hs hi).mp (by rw [hp]; exact h2)
      rw [ix_pn hs hk] at h3
      have hn : nu ws (pn ws (ix ws x.1)) = some x.2 := by rw [hp]; exact (nu_mem hs).mpr h1
      rcases nv_iff hok hi with ⟨_, h4⟩ | ⟨h4, _, h5⟩
      · rw [hn] at h4; simp at h4
      · rw [hn] at h5
        injection h5 with h5
        refine ⟨ix ws x.1, List.mem_filter.mpr ⟨List.mem_range'_1.mpr (by omega), by simp [h4]⟩, ?_⟩
        rw [hp, ← h5]
theorem ma_hasState {n : Nat} (h15 : S 15 0 = (n : Int)) (x : Int) (d : Nat) : am_cI d N_ma_hasState [.inr (.inr (some (q))), .inl (x)] (maH q g S) = some (if 0 ≤ x ∧ x < n then 1 else 0, maH q g S) := by
  apply am_cI_of
  by_cases c1 : x < 0
  · rw [if_neg (by omega)]
    (try dsimp only); rw [en_ma_hasState]; (try simp (disch := omega) only [Option.bind_some, if_true, if_false, eq_self, not_true_eq_false, not_false_eq_true, am_w_id, if_pos, if_neg, fu_self, fu_ne, Int.toNat_natCast]); rw [B_ma_hasState_0]; (try simp (disch := omega) only [Option.bind_some, if_true, if_false, eq_self, not_true_eq_false, not_false_eq_true, am_w_id, if_pos, if_neg, fu_self, fu_ne, Int.toNat_natCast]); rw [B_ma_hasState_16]; (try simp (disch := omega) only [Option.bind_some, if_true, if_false, eq_self, not_true_eq_false, not_false_eq_true, am_w_id, if_pos, if_neg, fu_self, fu_ne, Int.toNat_natCast]); rw [B_ma_hasState_17]; (try simp (disch := omega) only [Option.bind_some, if_true, if_false, eq_self, not_true_eq_false, not_false_eq_true, am_w_id, if_pos, if_neg, fu_self, fu_ne, Int.toNat_natCast])
  · by_cases c2 : x < n
    · rw [if_pos ⟨by omega, c2⟩]
      (try dsimp only); rw [en_ma_hasState]; (try simp (disch := omega) only [Option.bind_some, if_true, if_false, eq_self, not_true_eq_false, not_false_eq_true, am_w_id, if_pos, if_neg, fu_self, fu_ne, Int.toNat_natCast, h15]); rw [B_ma_hasState_0]; (try simp (disch := omega) only [Option.bind_some, if_true, if_false, eq_self, not_true_eq_false, not_false_eq_true, am_w_id, if_pos, if_neg, fu_self, fu_ne, Int.toNat_natCast, h15]); rw [B_ma_hasState_4]; (try simp (disch := omega) only [Option.bind_some, if_true, if_false, eq_self, not_true_eq_false, not_false_eq_true, am_w_id, if_pos, if_neg, fu_self, fu_ne, Int.toNat_natCast, ma_gI_15, ma_p_15, h15]); rw [B_ma_hasState_12]; (try simp (disch := omega) only [Option.bind_some, if_true, if_false, eq_self, not_true_eq_false, not_false_eq_true, am_w_id, if_pos, if_neg, fu_self, fu_ne, Int.toNat_natCast, h15]); rw [B_ma_hasState_17]; (try simp (disch := omega) only [Option.bind_some, if_true, if_false, eq_self, not_true_eq_false, not_false_eq_true, am_w_id, if_pos, if_neg, fu_self, fu_ne, Int.toNat_natCast, h15])
    · rw [if_neg (by omega)]
      (try dsimp only); rw [en_ma_hasState]; (try simp (disch := omega) only [Option.bind_some, if_true, if_false, eq_self, not_true_eq_false, not_false_eq_true, am_w_id, if_pos, if_neg, fu_self, fu_ne, Int.toNat_natCast, h15]); rw [B_ma_hasState_0]; (try simp (disch := omega) only [Option.bind_some, if_true, if_false, eq_self, not_true_eq_false, not_false_eq_true, am_w_id, if_pos, if_neg, fu_self, fu_ne, Int.toNat_natCast, h15]); rw [B_ma_hasState_4]; (try simp (disch := omega) only [Option.bind_some, if_true, if_false, eq_self, not_true_eq_false, not_false_eq_true, am_w_id, if_pos, if_neg, fu_self, fu_ne, Int.toNat_natCast, ma_gI_15, ma_p_15, h15]); rw [B_ma_hasState_16]; (try simp (disch := omega) only [Option.bind_some, if_true, if_false, eq_self, not_true_eq_false, not_false_eq_true, am_w_id, if_pos, if_neg, fu_self, fu_ne, Int.toNat_natCast, h15]); rw [B_ma_hasState_17]; (try simp (disch := omega) only [Option.bind_some, if_true, if_false, eq_self, not_true_eq_false, not_false_eq_true, am_w_id, if_pos, if_neg, fu_self, fu_ne, Int.toNat_natCast, h15])
theorem sub_dp (hok : ok ws) {k i : Nat} (hk : k < nN ws) (h1 : k ≤ i) (h2 : i < k + sz ws (pn ws k)) : pn ws k <+: pn ws i ∧ (pn ws i).length ≤ 10 ∧ (pn ws k).length ≤ (pn ws i).length := by
  have hs := hok.2.1
  have sk := szk_le hs hk
  have h := (sub_iff (p := pn ws k) hs (show i < nN ws by omega)).mpr (by rw [ix_pn hs hk]; omega)
  exact ⟨h, bg_len hok (pn_bg (by omega)), h.length_le⟩
theorem ma_wordsBehind (hok : ok ws) (H : maN S ws) {k : Nat} (hk : k < nN ws) (d : Nat) : am_cI d N_ma_wordsBehind [.inr (.inr (some (q))), .inl ((k : Int))] (maH q g S) = some (((sb ws (pn ws k)).length : Int), maH q g S) := by
  have hs := hok.2.1
  have hN' : nN ws ≤ 1001 := ND_len hok
  have k5 := (H.2.2.2 k hk).2
  have sk := szk_le hs hk
  have e1 : am_w ((k : Int) + (sz ws (pn ws k) : Int)) = ((k + sz ws (pn ws k) : Nat) : Int) := by rw [am_w_id (by omega) (by omega)]; omega
  apply am_cI_of
  have head : ∀ i x, EV d N_ma_wordsBehind T_ma_wordsBehind_4 [.inr (.inr (some (q))), .inl ((k : Int)), .inl (x), .inl ((i : Int))] [] (maH q g S) = if ((k + sz ws (pn ws k) : Nat) : Int) ≤ i then EV d N_ma_wordsBehind T_ma_wordsBehind_35 [.inr (.inr (some (q))), .inl ((k : Int)), .inl (x), .inl ((i : Int))] [] (maH q g S) else EV d N_ma_wordsBehind T_ma_wordsBehind_16 [.inr (.inr (some (q))), .inl ((k : Int)), .inl (x), .inl ((i : Int))] [] (maH q g S) := by
    intro i x
    rw [B_ma_wordsBehind_4, ma_gR_5, Option.bind_some, ma_l_5 (by omega) (by omega), Option.bind_some, Int.toNat_natCast, k5, e1]
  have lp := am_for (F := fun i => EV d N_ma_wordsBehind T_ma_wordsBehind_4 [.inr (.inr (some (q))), .inl ((k : Int)), .inl (((wnd ws k i).length : Int)), .inl ((i : Int))] [] (maH q g S)) (k := k) (n := k + sz ws (pn ws k)) (by omega) (fun i h1 h2 => by
    have h3 := H.2.2.1 i (by omega)
    have hb := wnd_len (ws := ws) (k := k) (i := i)
    have e9 : (i : Int) + 1 = ((i + 1 : Nat) : Int) := by omega
    rw [wnd_s h1, head, if_neg (by omega)]
    by_cases c : nv ws i = -1
    · rw [if_pos c, List.append_nil]
      rw [c] at h3
      (try dsimp only); rw [B_ma_wordsBehind_16]; (try simp (disch := omega) only [Option.bind_some, if_true, if_false, eq_self, not_true_eq_false, not_false_eq_true, am_w_id, if_pos, if_neg, fu_self, fu_ne, Int.toNat_natCast, ma_gR_3, ma_l_3, ma_s_3, h3, e9]); rw [B_ma_wordsBehind_29]; (try simp (disch := omega) only [Option.bind_some, if_true, if_false, eq_self, not_true_eq_false, not_false_eq_true, am_w_id, if_pos, if_neg, fu_self, fu_ne, Int.toNat_natCast, h3, e9])
    · rw [if_neg c, List.length_append, List.length_singleton]
      have e8 : ((wnd ws k i).length : Int) + 1 = (((wnd ws k i).length + 1 : Nat) : Int) := by omega
      (try dsimp only); rw [B_ma_wordsBehind_16]; (try simp (disch := omega) only [Option.bind_some, if_true, if_false, eq_self, not_true_eq_false, not_false_eq_true, am_w_id, if_pos, if_neg, fu_self, fu_ne, Int.toNat_natCast, ma_gR_3, ma_l_3, ma_s_3, h3, c, e9, e8]); rw [B_ma_wordsBehind_26]; (try simp (disch := omega) only [Option.bind_some, if_true, if_false, eq_self, not_true_eq_false, not_false_eq_true, am_w_id, if_pos, if_neg, fu_self, fu_ne, Int.toNat_natCast, h3, c, e9, e8]); rw [B_ma_wordsBehind_29]; (try simp (disch := omega) only [Option.bind_some, if_true, if_false, eq_self, not_true_eq_false, not_false_eq_true, am_w_id, if_pos, if_neg, fu_self, fu_ne, Int.toNat_natCast, h3, c, e9, e8]))
  rw [wnd_0, wnd_all hok hk] at lp
  have st : am_call d N_ma_wordsBehind [.inr (.inr (some (q))), .inl ((k : Int))] (maH q g S) = EV d N_ma_wordsBehind T_ma_wordsBehind_4 [.inr (.inr (some (q))), .inl ((k : Int)), .inl ((([] : List wd).length : Int)), .inl ((k : Int))] [] (maH q g S) := by
    (try dsimp only); rw [en_ma_wordsBehind]; (try simp (disch := omega) only [Option.bind_some, if_true, if_false, eq_self, not_true_eq_false, not_false_eq_true, am_w_id, if_pos, if_neg, fu_self, fu_ne, Int.toNat_natCast]); rw [B_ma_wordsBehind_0]; (try simp (disch := omega) only [Option.bind_some, if_true, if_false, eq_self, not_true_eq_false, not_false_eq_true, am_w_id, if_pos, if_neg, fu_self, fu_ne, Int.toNat_natCast])
    rfl
  refine st.trans (lp.trans ?_)
  rw [head, if_pos (Int.le_refl _), B_ma_wordsBehind_35]
theorem ma_longestBehind (hok : ok ws) (H : maN S ws) {k : Nat} (hk : k < nN ws) (d : Nat) : am_cI d N_ma_longestBehind [.inr (.inr (some (q))), .inl ((k : Int))] (maH q g S) = some (lgt ws (pn ws k), maH q g S) := by
  have hs := hok.2.1
  have hN' : nN ws ≤ 1001 := ND_len hok
  have k5 := (H.2.2.2 k hk).2
  have k1 := (H.2.1 k hk).2.1
  have sk := szk_le hs hk
  have e1 : am_w ((k : Int) + (sz ws (pn ws k) : Int)) = ((k + sz ws (pn ws k) : Nat) : Int) := by rw [am_w_id (by omega) (by omega)]; omega
  apply am_cI_of
  have head : ∀ i x, EV d N_ma_longestBehind T_ma_longestBehind_5 [.inr (.inr (some (q))), .inl ((k : Int)), .inl (x), .inl ((i : Int))] [] (maH q g S) = if ((k + sz ws (pn ws k) : Nat) : Int) ≤ i then EV d N_ma_longestBehind T_ma_longestBehind_51 [.inr (.inr (some (q))), .inl ((k : Int)), .inl (x), .inl ((i : Int))] [] (maH q g S) else EV d N_ma_longestBehind T_ma_longestBehind_17 [.inr (.inr (some (q))), .inl ((k : Int)), .inl (x), .inl ((i : Int))] [] (maH q g S) := by
    intro i x
    rw [B_ma_longestBehind_5, ma_gR_5, Option.bind_some, ma_l_5 (by omega) (by omega), Option.bind_some, Int.toNat_natCast, k5, e1]
  have lp := am_for (F := fun i => EV d N_ma_longestBehind T_ma_longestBehind_5 [.inr (.inr (some (q))), .inl ((k : Int)), .inl ((wnd ws k i).foldl (fun b q => am_max b ((q.1.length : Int) - (pn ws k).length)) (-2)), .inl ((i : Int))] [] (maH q g S)) (k := k) (n := k + sz ws (pn ws k)) (by omega) (fun i h1 h2 => by
    have h3 := H.2.2.1 i (by omega)
    have i1 := (H.2.1 i (by omega)).2.1
    obtain ⟨_, d1, d2⟩ := sub_dp hok hk h1 h2
    have e9 : (i : Int) + 1 = ((i + 1 : Nat) : Int) := by omega
    rw [wnd_s h1, head, if_neg (by omega)]
    by_cases c : nv ws i = -1
    · rw [if_pos c, List.append_nil]
      rw [c] at h3
      (try dsimp only); rw [B_ma_longestBehind_17]; (try simp (disch := omega) only [Option.bind_some, if_true, if_false, eq_self, not_true_eq_false, not_false_eq_true, am_w_id, if_pos, if_neg, fu_self, fu_ne, Int.toNat_natCast, ma_gR_3, ma_l_3, ma_s_3, h3, e9]); rw [B_ma_longestBehind_45]; (try simp (disch := omega) only [Option.bind_some, if_true, if_false, eq_self, not_true_eq_false, not_false_eq_true, am_w_id, if_pos, if_neg, fu_self, fu_ne, Int.toNat_natCast, h3, e9])
    · rw [if_neg c, List.foldl_append, List.foldl_cons, List.foldl_nil]
      generalize (wnd ws k i).foldl (fun b q => am_max b ((q.1.length : Int) - (pn ws k).length)) (-2) = y
      (try dsimp only); rw [B_ma_longestBehind_17]; (try simp (disch := omega) only [Option.bind_some, if_true, if_false, eq_self, not_true_eq_false, not_false_eq_true, am_w_id, if_pos, if_neg, fu_self, fu_ne, Int.toNat_natCast, ma_gR_3, ma_l_3, ma_s_3, h3, c, e9, i1, k1]); rw [B_ma_longestBehind_27]; (try simp (disch := omega) only [Option.bind_some, if_true, if_false, eq_self, not_true_eq_false, not_false_eq_true, am_w_id, if_pos, if_neg, fu_self, fu_ne, Int.toNat_natCast, ma_gR_1, ma_l_1, ma_s_1, h3, c, e9, i1, k1]); rw [B_ma_longestBehind_45]; (try simp (disch := omega) only [Option.bind_some, if_true, if_false, eq_self, not_true_eq_false, not_false_eq_true, am_w_id, if_pos, if_neg, fu_self, fu_ne, Int.toNat_natCast, h3, c, e9, i1, k1]))
  rw [wnd_0, wnd_all hok hk] at lp
  have st : am_call d N_ma_longestBehind [.inr (.inr (some (q))), .inl ((k : Int))] (maH q g S) = EV d N_ma_longestBehind T_ma_longestBehind_5 [.inr (.inr (some (q))), .inl ((k : Int)), .inl (-2), .inl ((k : Int))] [] (maH q g S) := by
    (try dsimp only); rw [en_ma_longestBehind]; (try simp (disch := omega) only [Option.bind_some, if_true, if_false, eq_self, not_true_eq_false, not_false_eq_true, am_w_id, if_pos, if_neg, fu_self, fu_ne, Int.toNat_natCast]); rw [B_ma_longestBehind_0]; (try simp (disch := omega) only [Option.bind_some, if_true, if_false, eq_self, not_true_eq_false, not_false_eq_true, am_w_id, if_pos, if_neg, fu_self, fu_ne, Int.toNat_natCast])
  refine st.trans (lp.trans ?_)
  rw [head, if_pos (Int.le_refl _), B_ma_longestBehind_51]
  rfl
theorem ma_greatestBehind (hok : ok ws) (H : maN S ws) {k : Nat} (hk : k < nN ws) (d : Nat) : am_cI d N_ma_greatestBehind [.inr (.inr (some (q))), .inl ((k : Int))] (maH q g S) = some (grt ws (pn ws k), maH q g S) := by
  have hs := hok.2.1
  have hN' : nN ws ≤ 1001 := ND_len hok
  have k5 := (H.2.2.2 k hk).2
  have k4 := (H.2.2.2 k hk).1
  have hlb := lst_bd hok.1 (pn ws k)
  have sk := szk_le hs hk
  have e1 : am_w ((k : Int) + (sz ws (pn ws k) : Int)) = ((k + sz ws (pn ws k) : Nat) : Int) := by rw [am_w_id (by omega) (by omega)]; omega
  apply am_cI_of
  have head : ∀ i x, EV d N_ma_greatestBehind T_ma_greatestBehind_5 [.inr (.inr (some (q))), .inl ((k : Int)), .inl (x), .inl ((i : Int))] [] (maH q g S) = if ((k + sz ws (pn ws k) : Nat) : Int) ≤ i then EV d N_ma_greatestBehind T_ma_greatestBehind_51 [.inr (.inr (some (q))), .inl ((k : Int)), .inl (x), .inl ((i : Int))] [] (maH q g S) else EV d N_ma_greatestBehind T_ma_greatestBehind_17 [.inr (.inr (some (q))), .inl ((k : Int)), .inl (x), .inl ((i : Int))] [] (maH q g S) := by
    intro i x
    rw [B_ma_greatestBehind_5, ma_gR_5, Option.bind_some, ma_l_5 (by omega) (by omega), Option.bind_some, Int.toNat_natCast, k5, e1]
  have lp := am_for (F := fun i => EV d N_ma_greatestBehind T_ma_greatestBehind_5 [.inr (.inr (some (q))), .inl ((k : Int)), .inl ((wnd ws k i).foldl (fun b q => am_max b (q.2 - lst ws (pn ws k))) (-2)), .inl ((i : Int))] [] (maH q g S)) (k := k) (n := k + sz ws (pn ws k)) (by omega) (fun i h1 h2 => by
    have h3 := H.2.2.1 i (by omega)
    have e9 : (i : Int) + 1 = ((i + 1 : Nat) : Int) := by omega
    rw [wnd_s h1, head, if_neg (by omega)]
    rcases nv_iff hok (show i < nN ws by omega) with ⟨c, _⟩ | ⟨c, c2, _⟩
    · rw [if_pos c, List.append_nil]
      rw [c] at h3
      (try dsimp only); rw [B_ma_greatestBehind_17]; (try simp (disch := omega) only [Option.bind_some, if_true, if_false, eq_self, not_true_eq_false, not_false_eq_true, am_w_id, if_pos, if_neg, fu_self, fu_ne, Int.toNat_natCast, ma_gR_3, ma_l_3, ma_s_3, h3, e9]); rw [B_ma_greatestBehind_45]; (try simp (disch := omega) only [Option.bind_some, if_true, if_false, eq_self, not_true_eq_false, not_false_eq_true, am_w_id, if_pos, if_neg, fu_self, fu_ne, Int.toNat_natCast, h3, e9])
    · rw [if_neg c, List.foldl_append, List.foldl_cons, List.foldl_nil]
      generalize (wnd ws k i).foldl (fun b q => am_max b (q.2 - lst ws (pn ws k))) (-2) = y
      (try dsimp only); rw [B_ma_greatestBehind_17]; (try simp (disch := omega) only [Option.bind_some, if_true, if_false, eq_self, not_true_eq_false, not_false_eq_true, am_w_id, if_pos, if_neg, fu_self, fu_ne, Int.toNat_natCast, ma_gR_3, ma_l_3, ma_s_3, h3, c, e9, k4]); rw [B_ma_greatestBehind_27]; (try simp (disch := omega) only [Option.bind_some, if_true, if_false, eq_self, not_true_eq_false, not_false_eq_true, am_w_id, if_pos, if_neg, fu_self, fu_ne, Int.toNat_natCast, ma_gR_3, ma_l_3, ma_s_3, ma_gR_4, ma_l_4, ma_s_4, h3, c, e9, k4]); rw [B_ma_greatestBehind_45]; (try simp (disch := omega) only [Option.bind_some, if_true, if_false, eq_self, not_true_eq_false, not_false_eq_true, am_w_id, if_pos, if_neg, fu_self, fu_ne, Int.toNat_natCast, h3, c, e9, k4]))
  rw [wnd_0, wnd_all hok hk] at lp
  have st : am_call d N_ma_greatestBehind [.inr (.inr (some (q))), .inl ((k : Int))] (maH q g S) = EV d N_ma_greatestBehind T_ma_greatestBehind_5 [.inr (.inr (some (q))), .inl ((k : Int)), .inl (-2), .inl ((k : Int))] [] (maH q g S) := by
    (try dsimp only); rw [en_ma_greatestBehind]; (try simp (disch := omega) only [Option.bind_some, if_true, if_false, eq_self, not_true_eq_false, not_false_eq_true, am_w_id, if_pos, if_neg, fu_self, fu_ne, Int.toNat_natCast]); rw [B_ma_greatestBehind_0]; (try simp (disch := omega) only [Option.bind_some, if_true, if_false, eq_self, not_true_eq_false, not_false_eq_true, am_w_id, if_pos, if_neg, fu_self, fu_ne, Int.toNat_natCast])
  refine st.trans (lp.trans ?_)
  rw [head, if_pos (Int.le_refl _), B_ma_greatestBehind_51]
  rfl
theorem ma_shortestBehind (hok : ok ws) (H : maN S ws) {k : Nat} (hk : k < nN ws) (d : Nat) : am_cI d N_ma_shortestBehind [.inr (.inr (some (q))), .inl ((k : Int))] (maH q g S) = some (sht ws (pn ws k), maH q g S) := by
  have hs := hok.2.1
  have hN' : nN ws ≤ 1001 := ND_len hok
  have k5 := (H.2.2.2 k hk).2
  have k1 := (H.2.1 k hk).2.1
  have sk := szk_le hs hk
  have e1 : am_w ((k : Int) + (sz ws (pn ws k) : Int)) = ((k + sz ws (pn ws k) : Nat) : Int) := by rw [am_w_id (by omega) (by omega)]; omega
  have key : am_call d N_ma_shortestBehind [.inr (.inr (some (q))), .inl ((k : Int))] (maH q g S) = some (some (.inl (sht ws (pn ws k))), maH q g S) := by
    have head : ∀ i x j4, EV d N_ma_shortestBehind T_ma_shortestBehind_5 [.inr (.inr (some (q))), .inl ((k : Int)), .inl (x), .inl ((i : Int)), j4] [] (maH q g S) = if ((k + sz ws (pn ws k) : Nat) : Int) ≤ i then EV d N_ma_shortestBehind T_ma_shortestBehind_63 [.inr (.inr (some (q))), .inl ((k : Int)), .inl (x), .inl ((i : Int)), j4] [] (maH q g S) else EV d N_ma_shortestBehind T_ma_shortestBehind_17 [.inr (.inr (some (q))), .inl ((k : Int)), .inl (x), .inl ((i : Int)), j4] [] (maH q g S) := by
      intro i x j4
      rw [B_ma_shortestBehind_5, ma_gR_5, Option.bind_some, ma_l_5 (by omega) (by omega), Option.bind_some, Int.toNat_natCast, k5, e1]
    have st : am_call d N_ma_shortestBehind [.inr (.inr (some (q))), .inl ((k : Int))] (maH q g S) = EV d N_ma_shortestBehind T_ma_shortestBehind_5 [.inr (.inr (some (q))), .inl ((k : Int)), .inl (-2), .inl ((k : Int)), am_nul] [] (maH q g S) := by
      (try dsimp only); rw [en_ma_shortestBehind]; (try simp (disch := omega) only [Option.bind_some, if_true, if_false, eq_self, not_true_eq_false, not_false_eq_true, am_w_id, if_pos, if_neg, fu_self, fu_ne, Int.toNat_natCast]); rw [B_ma_shortestBehind_0]; (try simp (disch := omega) only [Option.bind_some, if_true, if_false, eq_self, not_true_eq_false, not_false_eq_true, am_w_id, if_pos, if_neg, fu_self, fu_ne, Int.toNat_natCast])
    rw [st]
    refine am_loop (S := Nat × (Int × am_V)) (F := fun z => EV d N_ma_shortestBehind T_ma_shortestBehind_5 [.inr (.inr (some (q))), .inl ((k : Int)), .inl (z.2.1), .inl ((z.1 : Int)), z.2.2] [] (maH q g S)) (I := fun z => k ≤ z.1 ∧ z.1 ≤ k + sz ws (pn ws k) ∧ z.2.1 = (wnd ws k z.1).foldl (fun b q => if b = -2 ∨ (q.1.length : Int) - (pn ws k).length < b then (q.1.length : Int) - (pn ws k).length else b) (-2))
      (R := fun o => o = some (some (.inl (sht ws (pn ws k))), maH q g S)) (fun z => k + sz ws (pn ws k) - z.1) ?_ (k, -2, am_nul) ⟨Nat.le_refl _, by dsimp only; omega, by dsimp only; rw [wnd_0]; rfl⟩
    rintro ⟨i, y, j4⟩ ⟨h1, h0, hy⟩
    dsimp only at h1 h0 hy ⊢
    by_cases ci : i = k + sz ws (pn ws k)
    · left
      rw [head, if_pos (by omega), B_ma_shortestBehind_63, hy, ci, wnd_all hok hk]
      rfl
    · right
      have h2 : i < k + sz ws (pn ws k) := by omega
      have h3 := H.2.2.1 i (by omega)
      have i1 := (H.2.1 i (by omega)).2.1
      obtain ⟨_, d1, d2⟩ := sub_dp hok hk h1 h2
      have e9 : (i : Int) + 1 = ((i + 1 : Nat) : Int) := by omega
      by_cases c : nv ws i = -1
      · refine ⟨(i + 1, y, .inl (((pn ws i).length : Int) - (pn ws k).length)), ⟨by dsimp only; omega, by dsimp only; omega, by dsimp only; rw [wnd_s h1, if_pos c, List.append_nil]; exact hy⟩, by dsimp only; omega, ?_⟩
        rw [c] at h3
        rw [head, if_neg (by omega)]
        (try dsimp only); rw [B_ma_shortestBehind_17]; (try simp (disch := omega) only [Option.bind_some, if_true, if_false, eq_self, not_true_eq_false, not_false_eq_true, am_w_id, if_pos, if_neg, fu_self, fu_ne, Int.toNat_natCast, ma_gR_1, ma_l_1, ma_s_1, ma_gR_3, ma_l_3, ma_s_3, h3, e9, i1, k1]); rw [B_ma_shortestBehind_57]; (try simp (disch := omega) only [Option.bind_some, if_true, if_false, eq_self, not_true_eq_false, not_false_eq_true, am_w_id, if_pos, if_neg, fu_self, fu_ne, Int.toNat_natCast, h3, e9, i1, k1])
      · have hst : ∀ y', y' = (if y = -2 ∨ ((pn ws i).length : Int) - (pn ws k).length < y then ((pn ws i).length : Int) - (pn ws k).length else y) → y' = (wnd ws k (i + 1)).foldl (fun b q => if b = -2 ∨ (q.1.length : Int) - (pn ws k).length < b then (q.1.length : Int) - (pn ws k).length else b) (-2) := by
          intro y' h
          rw [wnd_s h1, if_neg c, List.foldl_append, List.foldl_cons, List.foldl_nil, ← hy]
          exact h
        by_cases c2 : y = -2
        · refine ⟨(i + 1, ((pn ws i).length : Int) - (pn ws k).length, .inl (((pn ws i).length : Int) - (pn ws k).length)), ⟨by dsimp only; omega, by dsimp only; omega, hst _ (by rw [if_pos (Or.inl c2)])⟩, by dsimp only; omega, ?_⟩
          rw [head, if_neg (by omega)]
          (try dsimp only); rw [B_ma_shortestBehind_17]; (try simp (disch := omega) only [Option.bind_some, if_true, if_false, eq_self, not_true_eq_false, not_false_eq_true, am_w_id, if_pos, if_neg, fu_self, fu_ne, Int.toNat_natCast, ma_gR_1, ma_l_1, ma_s_1, ma_gR_3, ma_l_3, ma_s_3, h3, c, e9, i1, k1, c2]); rw [B_ma_shortestBehind_42]; (try simp (disch := omega) only [Option.bind_some, if_true, if_false, eq_self, not_true_eq_false, not_false_eq_true, am_w_id, if_pos, if_neg, fu_self, fu_ne, Int.toNat_natCast, h3, c, e9, i1, k1, c2]); rw [B_ma_shortestBehind_54]; (try simp (disch := omega) only [Option.bind_some, if_true, if_false, eq_self, not_true_eq_false, not_false_eq_true, am_w_id, if_pos, if_neg, fu_self, fu_ne, Int.toNat_natCast, h3, c, e9, i1, k1, c2]); rw [B_ma_shortestBehind_57]; (try simp (disch := omega) only [Option.bind_some, if_true, if_false, eq_self, not_true_eq_false, not_false_eq_true, am_w_id, if_pos, if_neg, fu_self, fu_ne, Int.toNat_natCast, h3, c, e9, i1, k1, c2])
        · by_cases c3 : ((pn ws i).length : Int) - (pn ws k).length < y
          · refine ⟨(i + 1, ((pn ws i).length : Int) - (pn ws k).length, .inl (((pn ws i).length : Int) - (pn ws k).length)), ⟨by dsimp only; omega, by dsimp only; omega, hst _ (by rw [if_pos (Or.inr c3)])⟩, by dsimp only; omega, ?_⟩
            rw [head, if_neg (by omega)]
            have c3' : ¬ y ≤ ((pn ws i).length : Int) - (pn ws k).length := by omega
            (try dsimp only); rw [B_ma_shortestBehind_17]; (try simp (disch := omega) only [Option.bind_some, if_true, if_false, eq_self, not_true_eq_false, not_false_eq_true, am_w_id, if_pos, if_neg, fu_self, fu_ne, Int.toNat_natCast, ma_gR_1, ma_l_1, ma_s_1, ma_gR_3, ma_l_3, ma_s_3, h3, c, e9, i1, k1, c2, c3']); rw [B_ma_shortestBehind_42]; (try simp (disch := omega) only [Option.bind_some, if_true, if_false, eq_self, not_true_eq_false, not_false_eq_true, am_w_id, if_pos, if_neg, fu_self, fu_ne, Int.toNat_natCast, h3, c, e9, i1, k1, c2, c3']); rw [B_ma_shortestBehind_48]; (try simp (disch := omega) only [Option.bind_some, if_true, if_false, eq_self, not_true_eq_false, not_false_eq_true, am_w_id, if_pos, if_neg, fu_self, fu_ne, Int.toNat_natCast, h3, c, e9, i1, k1, c2, c3']); rw [B_ma_shortestBehind_54]; (try simp (disch := omega) only [Option.bind_some, if_true, if_false, eq_self, not_true_eq_false, not_false_eq_true, am_w_id, if_pos, if_neg, fu_self, fu_ne, Int.toNat_natCast, h3, c, e9, i1, k1, c2, c3']); rw [B_ma_shortestBehind_57]; (try simp (disch := omega) only [Option.bind_some, if_true, if_false, eq_self, not_true_eq_false, not_false_eq_true, am_w_id, if_pos, if_neg, fu_self, fu_ne, Int.toNat_natCast, h3, c, e9, i1, k1, c2, c3'])
          · refine ⟨(i + 1, y, .inl (((pn ws i).length : Int) - (pn ws k).length)), ⟨by dsimp only; omega, by dsimp only; omega, hst _ (by rw [if_neg (fun h => h.elim c2 c3)])⟩, by dsimp only; omega, ?_⟩
            rw [head, if_neg (by omega)]
            have c3' : y ≤ ((pn ws i).length : Int) - (pn ws k).length := by omega
            (try dsimp only); rw [B_ma_shortestBehind_17]; (try simp (disch := omega) only [Option.bind_some, if_true, if_false, eq_self, not_true_eq_false, not_false_eq_true, am_w_id, if_pos, if_neg, fu_self, fu_ne, Int.toNat_natCast, ma_gR_1, ma_l_1, ma_s_1, ma_gR_3, ma_l_3, ma_s_3, h3, c, e9, i1, k1, c2, c3']); rw [B_ma_shortestBehind_42]; (try simp (disch := omega) only [Option.bind_some, if_true, if_false, eq_self, not_true_eq_false, not_false_eq_true, am_w_id, if_pos, if_neg, fu_self, fu_ne, Int.toNat_natCast, h3, c, e9, i1, k1, c2, c3']); rw [B_ma_shortestBehind_48]; (try simp (disch := omega) only [Option.bind_some, if_true, if_false, eq_self, not_true_eq_false, not_false_eq_true, am_w_id, if_pos, if_neg, fu_self, fu_ne, Int.toNat_natCast, h3, c, e9, i1, k1, c2, c3']); rw [B_ma_shortestBehind_57]; (try simp (disch := omega) only [Option.bind_some, if_true, if_false, eq_self, not_true_eq_false, not_false_eq_true, am_w_id, if_pos, if_neg, fu_self, fu_ne, Int.toNat_natCast, h3, c, e9, i1, k1, c2, c3'])
  exact am_cI_of key
end MA
