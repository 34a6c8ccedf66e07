/-! the class: words near to letters, words like a pattern -/
section LI
variable {q ta bk : Nat} {g : am_H} {S : Nat → Nat → Int} {t : List Int} {ws : List wd}
/-- the cells of the table of how far -/
theorem li_far {a b : List Int} (ha : wl a) (hb : wl b) (la : a.length ≤ 10) (lb : b.length ≤ 10) (d : Nat) : ∃ S', am_cI (d + 3) N_li_far [.inr (.inr (some (q))), .inr (.inl (ec 10 a)), .inr (.inl (ec 10 b))] (liH ta q g S) = some (lv a b a.length b.length, liH ta q g S') ∧ fd [2] S S' := by
  have hla := fun (d : Nat) (h : am_H) => c_lettersIn d h ha la
  have hlb := fun (d : Nat) (h : am_H) => c_lettersIn d h hb lb
  have bd := fun i j => lv_bd a b (i + j) i j (Nat.le_refl _)
  -- the first row
  have r0 : ∀ (m j : Nat) (U : Nat → Nat → Int), j + m = b.length + 1 → fd [2] S U → (∀ k, k < j → U 2 k = (k : Int)) → ∃ U' x7, EV (d + 3) N_li_far T_li_far_15 [.inr (.inr (some (q))), .inr (.inl (ec 10 a)), am_nul, .inr (.inl (ec 10 b)), am_nul, .inl ((a.length : Int)), .inl ((b.length : Int)), .inl ((j : Int)), am_nul, am_nul, am_nul] [] (liH ta q g U) = EV (d + 3) N_li_far T_li_far_37 [.inr (.inr (some (q))), .inr (.inl (ec 10 a)), am_nul, .inr (.inl (ec 10 b)), am_nul, .inl ((a.length : Int)), .inl ((b.length : Int)), .inl (x7), am_nul, am_nul, am_nul] [] (liH ta q g U') ∧ fd [2] S U' ∧ ∀ k, k ≤ b.length → U' 2 k = (k : Int) := by
    intro m
    induction m with
    | zero =>
      intro j U hj F h
      refine ⟨U, (j : Int), ?_, F, fun k hk => h k (by omega)⟩
      rw [B_li_far_15, if_pos (by omega)]
    | succ m ih =>
      intro j U hj F h
      have e9 : am_w ((j : Int) + 1) = ((j + 1 : Nat) : Int) := by rw [am_w_id (by omega) (by omega)]; omega
      obtain ⟨U', x7, e, r⟩ := ih (j + 1) (am_fu U 2 (am_fu (U 2) j (j : Int))) (by omega) (F.up (by decide) _) (fun k hk => by
        rw [fu_self]
        by_cases c : k = j
        · rw [c, fu_self]
        · rw [fu_ne c]; exact h k (by omega))
      refine ⟨U', x7, Eq.trans ?_ e, r⟩
      rw [B_li_far_15, if_neg (by omega), B_li_far_22, li_gR_2, Option.bind_some, li_s_2 (by omega) (by omega), Option.bind_some, Int.toNat_natCast, e9]
  -- one row more
  have inner : ∀ (m j i : Nat) (U : Nat → Nat → Int) (j10 : am_V), j + m = b.length → i < a.length → fd [2] S U → (∀ k, k ≤ j → U 2 k = lv a b (i + 1) k) → (∀ k, j < k → k ≤ b.length → U 2 k = lv a b i k) → ∃ U' x8 x9 j10', EV (d + 3) N_li_far T_li_far_68 [.inr (.inr (some (q))), .inr (.inl (ec 10 a)), am_nul, .inr (.inl (ec 10 b)), am_nul, .inl ((a.length : Int)), .inl ((b.length : Int)), .inl ((i : Int)), .inl (lv a b i j), .inl ((j : Int)), j10] [] (liH ta q g U) = EV (d + 3) N_li_far T_li_far_145 [.inr (.inr (some (q))), .inr (.inl (ec 10 a)), am_nul, .inr (.inl (ec 10 b)), am_nul, .inl ((a.length : Int)), .inl ((b.length : Int)), .inl ((i : Int)), .inl (x8), .inl (x9), j10'] [] (liH ta q g U') ∧ fd [2] S U' ∧ ∀ k, k ≤ b.length → U' 2 k = lv a b (i + 1) k := by
    intro m
    induction m with
    | zero =>
      intro j i U j10 hj hi F h1 h2
      refine ⟨U, lv a b i j, (j : Int), j10, ?_, F, fun k hk => h1 k (by omega)⟩
      rw [B_li_far_68, if_pos (by omega)]
    | succ m ih =>
      intro j i U j10 hj hi F h1 h2
      have e9 : am_w ((j : Int) + 1) = ((j + 1 : Nat) : Int) := by rw [am_w_id (by omega) (by omega)]; omega
      have b1 := bd i j
      have b2 := bd i (j + 1)
      have b3 := bd (i + 1) j
      have hlet1 := fun (d : Nat) (h : am_H) => c_letter d h ha (show i < 10 by omega)
      have hlet2 := fun (d : Nat) (h : am_H) => c_letter d h hb (show j < 10 by omega)
      obtain ⟨c, hc⟩ : ∃ c : Int, c = if a.getD i 0 = b.getD j 0 then 0 else 1 := ⟨_, rfl⟩
      have hc01 : 0 ≤ c ∧ c ≤ 1 := by rw [hc]; split <;> decide
      have hss : lv a b (i + 1) (j + 1) = am_min (lv a b i j + c) (am_min (lv a b (i + 1) j) (lv a b i (j + 1)) + 1) := by
        rw [lv_ss, ← hc, min_comm' (lv a b i (j + 1)), min_comm']
      have st : EV (d + 3) N_li_far T_li_far_68 [.inr (.inr (some (q))), .inr (.inl (ec 10 a)), am_nul, .inr (.inl (ec 10 b)), am_nul, .inl ((a.length : Int)), .inl ((b.length : Int)), .inl ((i : Int)), .inl (lv a b i j), .inl ((j : Int)), j10] [] (liH ta q g U) = EV (d + 3) N_li_far T_li_far_97 [.inr (.inr (some (q))), .inr (.inl (ec 10 a)), am_nul, .inr (.inl (ec 10 b)), am_nul, .inl ((a.length : Int)), .inl ((b.length : Int)), .inl ((i : Int)), .inl (lv a b i j), .inl ((j : Int)), j10] [.inl (c), .inl (lv a b i j)] (liH ta q g U) := by
        rw [B_li_far_68, if_neg (by omega), B_li_far_75, hlet1, Option.bind_some, hlet2, Option.bind_some]
        dsimp only
        by_cases ce : a.getD i 0 = b.getD j 0
        · rw [if_neg (fun h => h ce), B_li_far_92]
          rw [if_pos ce] at hc
          rw [hc]
        · rw [if_pos ce, B_li_far_96]
          rw [if_neg ce] at hc
          rw [hc]
      have wc : am_w (lv a b i j + c) = lv a b i j + c := am_w_id (by omega) (by omega)
      have hm : 0 ≤ am_min (lv a b (i + 1) j) (lv a b i (j + 1)) ∧ am_min (lv a b (i + 1) j) (lv a b i (j + 1)) ≤ 100 := by unfold am_min; split <;> omega
      have wm : am_w (am_min (lv a b (i + 1) j) (lv a b i (j + 1)) + 1) = am_min (lv a b (i + 1) j) (lv a b i (j + 1)) + 1 := am_w_id (by omega) (by omega)
      have u1 := h2 (j + 1) (by omega) (by omega)
      have u2 := h1 j (Nat.le_refl _)
      obtain ⟨U', x8, x9, j10', e, r⟩ := ih (j + 1) i (am_fu U 2 (am_fu (U 2) (j + 1) (lv a b (i + 1) (j + 1)))) (.inl (lv a b i j + c)) (by omega) hi (F.up (by decide) _) (fun k hk => by
        rw [fu_self]
        by_cases ck : k = j + 1
        · rw [ck, fu_self]
        · rw [fu_ne ck]; exact h1 k (by omega)) (fun k hk1 hk2 => by
        rw [fu_self, fu_ne (by omega)]
        exact h2 k (by omega) hk2)
      refine ⟨U', x8, x9, j10', (st.trans ?_).trans e, r⟩
      rw [B_li_far_97, li_gR_2, Option.bind_some, e9, li_l_2 (by omega) (by omega), Option.bind_some, Int.toNat_natCast, u1, Option.bind_some, Option.bind_some, li_l_2 (by omega) (by omega), Option.bind_some, Int.toNat_natCast, u2, wc, wm, ← hss, li_s_2 (by omega) (by omega), Option.bind_some, Int.toNat_natCast]
  have rows : ∀ (m i : Nat) (U : Nat → Nat → Int) (j8 j9 j10 : am_V), i + m = a.length → fd [2] S U → (∀ k, k ≤ b.length → U 2 k = lv a b i k) → ∃ U' x7 j8' j9' j10', EV (d + 3) N_li_far T_li_far_40 [.inr (.inr (some (q))), .inr (.inl (ec 10 a)), am_nul, .inr (.inl (ec 10 b)), am_nul, .inl ((a.length : Int)), .inl ((b.length : Int)), .inl ((i : Int)), j8, j9, j10] [] (liH ta q g U) = EV (d + 3) N_li_far T_li_far_151 [.inr (.inr (some (q))), .inr (.inl (ec 10 a)), am_nul, .inr (.inl (ec 10 b)), am_nul, .inl ((a.length : Int)), .inl ((b.length : Int)), .inl (x7), j8', j9', j10'] [] (liH ta q g U') ∧ fd [2] S U' ∧ ∀ k, k ≤ b.length → U' 2 k = lv a b a.length k := by
    intro m
    induction m with
    | zero =>
      intro i U j8 j9 j10 hi F h
      obtain rfl : i = a.length := by omega
      refine ⟨U, (a.length : Int), j8, j9, j10, ?_, F, h⟩
      rw [B_li_far_40, if_pos (Int.le_refl _)]
    | succ m ih =>
      intro i U j8 j9 j10 hi F h
      have e9 : am_w ((i : Int) + 1) = (i : Int) + 1 := am_w_id (by omega) (by omega)
      have e8 : (i : Int) + 1 = ((i + 1 : Nat) : Int) := by omega
      have u0 : U 2 0 = lv a b i 0 := h 0 (Nat.zero_le _)
      obtain ⟨U1, x8, x9, k10, e1, F1, r1⟩ := inner b.length 0 i (am_fu U 2 (am_fu (U 2) 0 ((i : Int) + 1))) j10 (by omega) (by omega) (F.up (by decide) _) (fun k hk => by
        obtain rfl : k = 0 := by omega
        rw [fu_self, fu_self, lv_n0]
        omega) (fun k hk1 hk2 => by
        rw [fu_self, fu_ne (by omega)]
        exact h k hk2)
      obtain ⟨U', x7, j8', j9', j10', e2, r⟩ := ih (i + 1) U1 (.inl (x8)) (.inl (x9)) k10 (by omega) F1 r1
      refine ⟨U', x7, j8', j9', j10', ?_, r⟩
      rw [B_li_far_40, if_neg (by omega), B_li_far_47, li_gR_2, Option.bind_some, li_l_2 (by omega) (by omega), Option.bind_some, Option.bind_some, e9, li_s_2 (by omega) (by omega), Option.bind_some, Int.toNat_zero, u0]
      refine Eq.trans e1 ?_
      rw [B_li_far_145, e9, e8]
      exact e2
  obtain ⟨U1, x7, e1, F1, h1⟩ := r0 (b.length + 1) 0 S (by omega) fd.rf (fun k hk => by omega)
  obtain ⟨U2, y7, j8, j9, j10, e2, F2, h2⟩ := rows a.length 0 U1 am_nul am_nul am_nul (by omega) F1 (fun k hk => by rw [h1 k hk, lv_0])
  refine ⟨U2, am_cI_of ?_, F2⟩
  have st : am_call (d + 3) N_li_far [.inr (.inr (some (q))), .inr (.inl (ec 10 a)), .inr (.inl (ec 10 b))] (liH ta q g S) = EV (d + 3) N_li_far T_li_far_15 [.inr (.inr (some (q))), .inr (.inl (ec 10 a)), am_nul, .inr (.inl (ec 10 b)), am_nul, .inl ((a.length : Int)), .inl ((b.length : Int)), .inl (((0 : Nat) : Int)), am_nul, am_nul, am_nul] [] (liH ta q g S) := by
    rw [en_li_far, B_li_far_0, hla, Option.bind_some, hlb, Option.bind_some]
    rfl
  refine st.trans (e1.trans ?_)
  rw [B_li_far_37]
  refine Eq.trans e2 ?_
  rw [B_li_far_151, li_gR_2, Option.bind_some, li_l_2 (by omega) (by omega), Option.bind_some, Int.toNat_natCast, h2 _ (Nat.le_refl _)]
/-- marked places -/
def mkP (S : Nat → Nat → Int) (P : Nat → Bool) (n : Nat) : Prop := ∀ i, i < n → S 1 i = if P i = true then 1 else 0
theorem mkP_s {P : Nat → Bool} {n : Nat} {x : Int} (H : mkP S P n) (hx : x = if P n = true then 1 else 0) : mkP (am_fu S 1 (am_fu (S 1) n x)) P (n + 1) := by
  intro i hi
  rw [fu_self]
  by_cases c : i = n
  · rw [c, fu_self, hx]
  · rw [fu_ne c]; exact H i (by omega)
theorem mkP.fr {S' : Nat → Nat → Int} {P : Nat → Bool} {n : Nat} (H : mkP S P n) (F : fd [2] S S') : mkP S' P n := by
  unfold mkP
  rw [F 1 (by decide)]
  exact H
theorem li_markNear (hok : ok ws) (B : bkR g bk ws) (hd : bk + 3 ≤ q ∨ q + 3 ≤ bk) {a : List Int} (ha : wl a) (la : a.length ≤ 10) (x : Int) (d : Nat) : ∃ S', am_cV (d + 4) N_li_markNear [.inr (.inr (some (q))), .inr (.inr (some (bk))), .inr (.inl (ec 10 a)), .inl (x)] (liH ta q g S) = some (liH ta q g S') ∧ mkP S' (fun i => decide (lv (wdi ws i) a (wdi ws i).length a.length ≤ x)) ws.length := by
  have Bu : ∀ S, bkR (liH ta q g S) bk ws := fun S => B.fr liH_fr hd
  have hl := hok.2.2
  have lp : ∀ (m i : Nat) (U : Nat → Nat → Int), i + m = ws.length → mkP U (fun i => decide (lv (wdi ws i) a (wdi ws i).length a.length ≤ x)) i → ∃ U', EV (d + 4) N_li_markNear T_li_markNear_3 [.inr (.inr (some (q))), .inr (.inr (some (bk))), .inr (.inl (ec 10 a)), am_nul, .inl (x), .inl ((i : Int))] [] (liH ta q g U) = some (none, liH ta q g U') ∧ mkP U' (fun i => decide (lv (wdi ws i) a (wdi ws i).length a.length ≤ x)) ws.length := by
    intro m
    induction m with
    | zero =>
      intro i U hi h
      obtain rfl : i = ws.length := by omega
      refine ⟨U, ?_, h⟩
      rw [B_li_markNear_3, (Bu U).sz, Option.bind_some, if_pos (Int.le_refl _), B_li_markNear_47]
    | succ m ih =>
      intro i U hi h
      have hil : i < ws.length := by omega
      have hg := gt_some hil
      obtain ⟨p1, p2, p3, p4⟩ := ok_get hok hg
      have hwd : wdi ws i = (ws.getD i ([], 0)).1 := rfl
      obtain ⟨U1, e1, F1⟩ := li_far (q := q) (ta := ta) (g := g) (S := U) ha p1 la p3 d
      have hsym : lv a (ws.getD i ([], 0)).1 a.length (ws.getD i ([], 0)).1.length = lv (wdi ws i) a (wdi ws i).length a.length := lv_sym _ _ _ _ _ (Nat.le_refl _)
      rw [hsym] at e1
      have e9 : am_w ((i : Int) + 1) = ((i + 1 : Nat) : Int) := by rw [am_w_id (by omega) (by omega)]; omega
      have h1 := h.fr F1
      have st : EV (d + 4) N_li_markNear T_li_markNear_3 [.inr (.inr (some (q))), .inr (.inr (some (bk))), .inr (.inl (ec 10 a)), am_nul, .inl (x), .inl ((i : Int))] [] (liH ta q g U) = EV (d + 4) N_li_markNear T_li_markNear_40 [.inr (.inr (some (q))), .inr (.inr (some (bk))), .inr (.inl (ec 10 a)), am_nul, .inl (x), .inl ((i : Int))] [.inl (if lv (wdi ws i) a (wdi ws i).length a.length ≤ x then 1 else 0), .inl ((i : Int)), .inr (.inr (some (q + 1)))] (liH ta q g U1) := by
        rw [B_li_markNear_3, (Bu U).sz, Option.bind_some, if_neg (by omega), B_li_markNear_12, li_gR_1, Option.bind_some, (Bu U).gW, Option.bind_some, (Bu U).lW hg, Option.bind_some, if_pos li_O, e1, Option.bind_some]
        dsimp only
        by_cases c : lv (wdi ws i) a (wdi ws i).length a.length ≤ x
        · rw [if_neg (by omega), B_li_markNear_35, if_pos c]
        · rw [if_pos (by omega), B_li_markNear_39, if_neg c]
      have hx01 : 0 ≤ (if lv (wdi ws i) a (wdi ws i).length a.length ≤ x then (1 : Int) else 0) ∧ (if lv (wdi ws i) a (wdi ws i).length a.length ≤ x then (1 : Int) else 0) < 2 := by split <;> decide
      obtain ⟨U', e, r⟩ := ih (i + 1) _ (by omega) (mkP_s h1 (x := if lv (wdi ws i) a (wdi ws i).length a.length ≤ x then 1 else 0) (by
        by_cases c : lv (wdi ws i) a (wdi ws i).length a.length ≤ x
        · rw [if_pos c, if_pos (decide_eq_true c)]
        · rw [if_neg c, if_neg (fun h => c (of_decide_eq_true h))]))
      refine ⟨U', (st.trans ?_).trans e, r⟩
      rw [B_li_markNear_40, li_s_1 (by omega) (by omega) hx01.1 hx01.2, Option.bind_some, e9, Int.toNat_natCast]
  obtain ⟨U, e, r⟩ := lp ws.length 0 S (by omega) (fun i hi => by omega)
  refine ⟨U, am_cV_of (Eq.trans ?_ e), r⟩
  rw [en_li_markNear, B_li_markNear_0]
  rfl
theorem li_pick {P : Nat → Bool} {n : Nat} (h : mkP S P n) (hn : n ≤ 100) {k : Int} (hk : -1 ≤ k) (d : Nat) : am_cI d N_li_pick [.inr (.inr (some (q))), .inl (k), .inl ((n : Int))] (liH ta q g S) = some (pk P k 0 n 0, liH ta q g S) := by
  have lp : ∀ (m i : Nat) (f : Int), i + m = n → 0 ≤ f → f ≤ i → EV d N_li_pick T_li_pick_5 [.inr (.inr (some (q))), .inl (k), .inl ((n : Int)), .inl (f), .inl ((i : Int))] [] (liH ta q g S) = some (some (.inl (pk P k i m f)), liH ta q g S) := by
    intro m
    induction m with
    | zero =>
      intro i f hi h0 h1
      rw [B_li_pick_5, if_pos (by omega), B_li_pick_38]
      by_cases c : k = -1
      · rw [if_neg (fun h => h c), B_li_pick_43, B_li_pick_49, pk, if_pos c]
      · rw [if_pos c, B_li_pick_47, B_li_pick_49, pk, if_neg c]
    | succ m ih =>
      intro i f hi h0 h1
      have e9 : am_w ((i : Int) + 1) = ((i + 1 : Nat) : Int) := by rw [am_w_id (by omega) (by omega)]; omega
      have ef : am_w (f + 1) = f + 1 := am_w_id (by omega) (by omega)
      have hi1 := h i (by omega)
      rw [pk, B_li_pick_5, if_neg (by omega), B_li_pick_11, li_gR_1, Option.bind_some, li_l_1 (by omega) (by omega), Option.bind_some, Int.toNat_natCast, hi1]
      by_cases c : P i = true
      · rw [if_pos c, if_neg (by decide), if_pos c, B_li_pick_21]
        by_cases cf : f = k
        · rw [if_neg (fun h => h cf), B_li_pick_26, if_pos cf]
        · rw [if_pos cf, B_li_pick_29, B_li_pick_32, ef, e9, if_neg cf]
          exact ih (i + 1) (f + 1) (by omega) (by omega) (by omega)
      · rw [if_neg c, if_pos rfl, if_neg c, B_li_pick_32, e9]
        exact ih (i + 1) f (by omega) h0 (by omega)
  apply am_cI_of
  rw [en_li_pick, B_li_pick_0]
  exact lp n 0 0 (by omega) (Int.le_refl _) (by omega)
theorem li_isPattern (T : tp_at g ta t) (hd : ta + 2 ≤ q ∨ q + 3 ≤ ta) (d : Nat) : ∃ x, am_cI (d + 1) N_li_isPattern [.inr (.inr (some (q)))] (liH ta q g S) = some (x, liH ta q g S) ∧ ((x = 1 ∧ isPat t) ∨ (x = 0 ∧ ¬ isPat t)) := by
  have ht := T.2.1
  have Tu : tp_at (liH ta q g S) ta t := T.fr liH_fr hd
  have gT := rd_gI Tu.1 (k := 1) rfl
  have oT := rd_O Tu.1
  have key : ∃ x, am_call (d + 1) N_li_isPattern [.inr (.inr (some (q)))] (liH ta q g S) = some (some (.inl x), liH ta q g S) ∧ ((x = 1 ∧ isPat t) ∨ (x = 0 ∧ ¬ isPat t)) := by
    rw [en_li_isPattern, B_li_isPattern_0, li_gR_0, Option.bind_some, gT, Option.bind_some]
    by_cases c0 : t.length = 0
    · refine ⟨0, ?_, Or.inr ⟨rfl, fun h => by have := h.1.1; omega⟩⟩
      rw [if_pos (by omega), B_li_isPattern_22]
    · rw [if_neg (by omega), B_li_isPattern_10, li_gR_0, Option.bind_some, gT, Option.bind_some]
      by_cases c1 : t.length ≤ 12
      · rw [if_pos (by omega), B_li_isPattern_24]
        refine am_loop (S := Nat × am_V) (F := fun z => EV (d + 1) N_li_isPattern T_li_isPattern_26 [.inr (.inr (some (q))), .inl ((z.1 : Int)), z.2] [] (liH ta q g S)) (I := fun z => z.1 ≤ t.length ∧ ∀ i, i < z.1 → sgO (t.getD i 0)) (R := fun o => ∃ x, o = some (some (.inl x), liH ta q g S) ∧ ((x = 1 ∧ isPat t) ∨ (x = 0 ∧ ¬ isPat t))) (fun z => t.length - z.1) ?_ (0, am_nul) ⟨Nat.zero_le _, fun i hi => by dsimp only at hi; omega⟩
        rintro ⟨i, j2⟩ ⟨i1, i2⟩
        dsimp only at i1 i2 ⊢
        rw [B_li_isPattern_26, li_gR_0, Option.bind_some, gT, Option.bind_some]
        by_cases ci : i = t.length
        · left
          refine ⟨1, ?_, Or.inl ⟨rfl, ⟨by omega, c1⟩, fun x hx => ?_⟩⟩
          · rw [if_pos (by omega), B_li_isPattern_73]
          · obtain ⟨k, hk, rfl⟩ := List.getElem_of_mem hx
            have := i2 k (by omega)
            rw [gd_s hk] at this
            exact this
        · have hby := c_byteAt Tu d (i : Int)
          rw [tb_get (show i < t.length by omega)] at hby
          have e9 : am_w ((i : Int) + 1) = ((i + 1 : Nat) : Int) := by rw [am_w_id (by omega) (by omega)]; omega
          have good : sgO (t.getD i 0) → ∀ k, k < i + 1 → sgO (t.getD k 0) := fun h k hk => by
            by_cases ck : k = i
            · rw [ck]; exact h
            · exact i2 k (by omega)
          rw [if_neg (by omega), B_li_isPattern_37, li_gR_0, Option.bind_some, if_pos oT, hby, Option.bind_some]
          dsimp only
          by_cases s1 : t.getD i 0 = 63
          · right
            refine ⟨(i + 1, .inl (t.getD i 0)), ⟨by dsimp only; omega, good (Or.inl s1)⟩, by dsimp only; omega, ?_⟩
            rw [if_pos s1, B_li_isPattern_67, e9]
          · rw [if_neg s1, B_li_isPattern_52]
            by_cases s2 : t.getD i 0 = 42
            · right
              refine ⟨(i + 1, .inl (t.getD i 0)), ⟨by dsimp only; omega, good (Or.inr (Or.inl s2))⟩, by dsimp only; omega, ?_⟩
              rw [if_pos s2, B_li_isPattern_67, e9]
            · rw [if_neg s2, B_li_isPattern_58, c_isLetter, Option.bind_some]
              dsimp only
              by_cases s3 : 97 ≤ t.getD i 0 ∧ t.getD i 0 ≤ 122
              · right
                refine ⟨(i + 1, .inl (t.getD i 0)), ⟨by dsimp only; omega, good (Or.inr (Or.inr s3))⟩, by dsimp only; omega, ?_⟩
                rw [if_pos s3, if_pos (by decide), B_li_isPattern_67, e9]
              · left
                refine ⟨0, ?_, Or.inr ⟨rfl, fun h => ?_⟩⟩
                · rw [if_neg s3, if_neg (by decide), B_li_isPattern_65]
                · have hm : t.getD i 0 ∈ t := by rw [gd_s (show i < t.length by omega)]; exact List.getElem_mem _
                  rcases h.2 _ hm with h | h | h
                  · exact s1 h
                  · exact s2 h
                  · exact s3 h
      · refine ⟨0, ?_, Or.inr ⟨rfl, fun h => c1 h.1.2⟩⟩
        rw [if_neg (by omega), B_li_isPattern_22]
  obtain ⟨x, e, h⟩ := key
  exact ⟨x, am_cI_of e, h⟩
/-- bits as sets of places -/
theorem bs_test {X j : Nat} (hX : X < 8192) (hj : j ≤ 12) : am_and (am_shr (X : Int) (j : Int)) 1 = if X.testBit j = true then 1 else 0 := by
  rw [bt_shr (x := (X : Int)) (by unfold am_inI; omega) (by omega) (by omega), Int.toNat_natCast]
  have h := bt_mask (x := (X : Int) / 2 ^ j) (shr_in (by unfold am_inI; omega) j) 1 (by omega)
  have e1 : (2 : Int) ^ 1 - 1 = 1 := by decide
  have e2 : (2 : Int) ^ 1 = 2 := by decide
  rw [e1, e2] at h
  rw [h, Nat.testBit_eq_decide_div_mod_eq]
  have e3 : (X : Int) / 2 ^ j % 2 = ((X / 2 ^ j % 2 : Nat) : Int) := by push_cast; rfl
  rw [e3]
  by_cases c : X / 2 ^ j % 2 = 1
  · rw [c, if_pos (by simp)]; rfl
  · rw [if_neg (by simp [c])]
    have : X / 2 ^ j % 2 = 0 := by omega
    rw [this]; rfl
theorem bs_or {X j : Nat} (hX : X < 8192) (hj : j ≤ 12) : am_or (X : Int) (am_shl 1 (j : Int)) = ((X ||| 2 ^ j : Nat) : Int) ∧ X ||| 2 ^ j < 8192 := by
  have hp : (2 : Nat) ^ j ≤ 4096 := Nat.pow_le_pow_right (by omega) hj
  have hpi : (2 : Int) ^ j = ((2 ^ j : Nat) : Int) := by push_cast; rfl
  have h1 : am_shl 1 (j : Int) = ((2 ^ j : Nat) : Int) := by
    rw [bt_shl (by decide) (by omega) (by omega) (by rw [Int.toNat_natCast, Int.one_mul, hpi]; omega), Int.toNat_natCast, Int.one_mul, hpi]
  obtain ⟨P, hP⟩ : ∃ P : Nat, P = 2 ^ j := ⟨_, rfl⟩
  rw [← hP] at h1 hp ⊢
  have hP0 : (0 : Int) ≤ (P : Int) := Int.natCast_nonneg P
  rw [h1, bt_or (by omega) (by omega) hP0 (by omega), Int.toNat_natCast, Int.toNat_natCast]
  exact ⟨rfl, Nat.or_lt_two_pow (n := 13) (by omega) (by omega)⟩
theorem bs_bit {X j k : Nat} : (X ||| 2 ^ j).testBit k = (X.testBit k || decide (j = k)) := by rw [Nat.testBit_or, Nat.testBit_two_pow]
/-- places from which signs go on, all signs that may stand for nothing passed -/
def cl (t : List Int) (N : Nat → Bool) : Nat → Bool
  | 0 => N 0
  | j + 1 => N (j + 1) || (decide (t.getD j 0 = 42) && cl t N j)
theorem li_passStars (T : tp_at g ta t) (hd : ta + 2 ≤ q ∨ q + 3 ≤ ta) (hl : t.length ≤ 12) {X : Nat} (hX : X < 8192) (d : Nat) : ∃ Y : Nat, am_cI (d + 1) N_li_passStars [.inr (.inr (some (q))), .inl ((X : Int))] (liH ta q g S) = some ((Y : Int), liH ta q g S) ∧ Y < 8192 ∧ ∀ j, j ≤ t.length → Y.testBit j = cl t X.testBit j := by
  have Tu : tp_at (liH ta q g S) ta t := T.fr liH_fr hd
  have gT := rd_gI Tu.1 (k := 1) rfl
  have oT := rd_O Tu.1
  have key : ∃ Y : Nat, am_call (d + 1) N_li_passStars [.inr (.inr (some (q))), .inl ((X : Int))] (liH ta q g S) = some (some (.inl (Y : Int)), liH ta q g S) ∧ Y < 8192 ∧ ∀ j, j ≤ t.length → Y.testBit j = cl t X.testBit j := by
    rw [en_li_passStars, B_li_passStars_0]
    refine am_loop (S := Nat × Nat) (F := fun z => EV (d + 1) N_li_passStars T_li_passStars_4 [.inr (.inr (some (q))), .inl ((X : Int)), .inl ((z.2 : Int)), .inl ((z.1 : Int))] [] (liH ta q g S)) (I := fun z => z.1 ≤ t.length ∧ z.2 < 8192 ∧ (∀ j, j ≤ z.1 → z.2.testBit j = cl t X.testBit j) ∧ ∀ j, z.1 < j → z.2.testBit j = X.testBit j)
      (R := fun o => ∃ Y : Nat, o = some (some (.inl (Y : Int)), liH ta q g S) ∧ Y < 8192 ∧ ∀ j, j ≤ t.length → Y.testBit j = cl t X.testBit j) (fun z => t.length - z.1) ?_ (0, X) ⟨Nat.zero_le _, hX, fun j hj => by
        have : j = 0 := by dsimp only at hj; omega
        subst this
        rfl, fun j _ => rfl⟩
    rintro ⟨i, Y⟩ ⟨i1, i2, i3, i4⟩
    dsimp only at i1 i2 i3 i4 ⊢
    rw [B_li_passStars_4, li_gR_0, Option.bind_some, gT, Option.bind_some]
    by_cases ci : i = t.length
    · left
      refine ⟨Y, ?_, i2, fun j hj => i3 j (by omega)⟩
      rw [if_pos (by omega), B_li_passStars_50]
    · right
      have hby := c_byteAt Tu d (i : Int)
      rw [tb_get (show i < t.length by omega)] at hby
      have e9 : am_w ((i : Int) + 1) = ((i + 1 : Nat) : Int) := by rw [am_w_id (by omega) (by omega)]; omega
      have hcl : cl t X.testBit (i + 1) = (X.testBit (i + 1) || (decide (t.getD i 0 = 42) && cl t X.testBit i)) := rfl
      have hYi := i3 i (Nat.le_refl _)
      have hY1 := i4 (i + 1) (by omega)
      have htest := bs_test (X := Y) (j := i) i2 (by omega)
      have no : (decide (t.getD i 0 = 42) && cl t X.testBit i) = false → (∀ j, j ≤ i + 1 → Y.testBit j = cl t X.testBit j) ∧ ∀ j, i + 1 < j → Y.testBit j = X.testBit j := by
        intro h
        refine ⟨fun j hj => ?_, fun j hj => i4 j (by omega)⟩
        by_cases cj : j = i + 1
        · rw [cj, hcl, h, Bool.or_false, hY1]
        · exact i3 j (by omega)
      rw [if_neg (by omega), B_li_passStars_15]
      by_cases cb : Y.testBit i = true
      · rw [if_pos cb] at htest
        by_cases cs : t.getD i 0 = 42
        · obtain ⟨o1, o2⟩ := bs_or (X := Y) (j := i + 1) i2 (by omega)
          refine ⟨(i + 1, Y ||| 2 ^ (i + 1)), ⟨by dsimp only; omega, o2, fun j hj => ?_, fun j hj => ?_⟩, by dsimp only; omega, ?_⟩
          · dsimp only at hj ⊢
            rw [bs_bit]
            by_cases cj : j = i + 1
            · rw [cj, hcl, ← hYi, cb, decide_eq_true cs, decide_eq_true rfl]
              simp
            · rw [decide_eq_false (fun h => cj h.symm), Bool.or_false]
              exact i3 j (by omega)
          · dsimp only at hj ⊢
            rw [bs_bit, decide_eq_false (by omega), Bool.or_false]
            exact i4 j (by omega)
          · rw [htest, if_neg (by decide), B_li_passStars_23, li_gR_0, Option.bind_some, if_pos oT, hby, Option.bind_some]
            dsimp only
            rw [if_neg (fun h => h cs), B_li_passStars_36, e9, o1, B_li_passStars_44, e9]
        · obtain ⟨n1, n2⟩ := no (by rw [decide_eq_false cs]; rfl)
          refine ⟨(i + 1, Y), ⟨by dsimp only; omega, i2, n1, n2⟩, by dsimp only; omega, ?_⟩
          rw [htest, if_neg (by decide), B_li_passStars_23, li_gR_0, Option.bind_some, if_pos oT, hby, Option.bind_some]
          dsimp only
          rw [if_pos cs, B_li_passStars_44, e9]
      · rw [if_neg cb] at htest
        have cb' : Y.testBit i = false := by simpa using cb
        obtain ⟨n1, n2⟩ := no (by rw [← hYi, cb', Bool.and_false])
        refine ⟨(i + 1, Y), ⟨by dsimp only; omega, i2, n1, n2⟩, by dsimp only; omega, ?_⟩
        rw [htest, if_pos rfl, B_li_passStars_44, e9]
  obtain ⟨Y, e, h⟩ := key
  exact ⟨Y, am_cI_of e, h⟩
/-- places behind one letter -/
def ps (t : List Int) (x : Int) (N : Nat → Bool) : Nat → Bool
  | 0 => N 0 && decide (t.getD 0 0 = 42)
  | j + 1 => (N (j + 1) && (decide (j + 1 < t.length) && decide (t.getD (j + 1) 0 = 42))) || (N j && (decide (t.getD j 0 ≠ 42) && (decide (t.getD j 0 = 63) || decide (t.getD j 0 = x))))
theorem li_passLetter (T : tp_at g ta t) (hd : ta + 2 ≤ q ∨ q + 3 ≤ ta) (hl : 1 ≤ t.length ∧ t.length ≤ 12) {X : Nat} (hX : X < 8192) (x : Int) (d : Nat) : ∃ Y : Nat, am_cI (d + 1) N_li_passLetter [.inr (.inr (some (q))), .inl ((X : Int)), .inl (x)] (liH ta q g S) = some ((Y : Int), liH ta q g S) ∧ Y < 8192 ∧ ∀ j, j ≤ t.length → Y.testBit j = ps t x X.testBit j := by
  have Tu : tp_at (liH ta q g S) ta t := T.fr liH_fr hd
  have gT := rd_gI Tu.1 (k := 1) rfl
  have oT := rd_O Tu.1
  -- what j signs have given: what stays at a place below j, and what goes on to one up to j
  have key : ∃ Y : Nat, am_call (d + 1) N_li_passLetter [.inr (.inr (some (q))), .inl ((X : Int)), .inl (x)] (liH ta q g S) = some (some (.inl (Y : Int)), liH ta q g S) ∧ Y < 8192 ∧ ∀ j, j ≤ t.length → Y.testBit j = ps t x X.testBit j := by
    rw [en_li_passLetter, B_li_passLetter_0]
    refine am_loop (S := Nat × (Nat × am_V)) (F := fun z => EV (d + 1) N_li_passLetter T_li_passLetter_5 [.inr (.inr (some (q))), .inl ((X : Int)), .inl (x), .inl ((z.2.1 : Int)), .inl ((z.1 : Int)), z.2.2] [] (liH ta q g S)) (I := fun z => z.1 ≤ t.length ∧ z.2.1 < 8192 ∧ (∀ j, j < z.1 → z.2.1.testBit j = ps t x X.testBit j) ∧ (z.2.1.testBit z.1 = (decide (0 < z.1) && (X.testBit (z.1 - 1) && (decide (t.getD (z.1 - 1) 0 ≠ 42) && (decide (t.getD (z.1 - 1) 0 = 63) || decide (t.getD (z.1 - 1) 0 = x)))))) ∧ ∀ j, z.1 < j → z.2.1.testBit j = false)
      (R := fun o => ∃ Y : Nat, o = some (some (.inl (Y : Int)), liH ta q g S) ∧ Y < 8192 ∧ ∀ j, j ≤ t.length → Y.testBit j = ps t x X.testBit j) (fun z => t.length - z.1) ?_ (0, 0, am_nul) ⟨Nat.zero_le _, by decide, fun j hj => by dsimp only at hj; omega, by simp, fun j _ => by simp⟩
    rintro ⟨i, Y, j5⟩ ⟨i1, i2, i3, i4, i5⟩
    dsimp only at i1 i2 i3 i4 i5 ⊢
    rw [B_li_passLetter_5, li_gR_0, Option.bind_some, gT, Option.bind_some]
    -- what a place is when its own sign has been looked at
    have hps : ps t x X.testBit i = (Y.testBit i || (X.testBit i && (decide (i < t.length) && decide (t.getD i 0 = 42)))) := by
      rw [i4]
      cases i with
      | zero => simp only [ps]; rw [decide_eq_true (show 0 < t.length by omega)]; simp
      | succ i =>
        simp only [ps, Nat.add_sub_cancel]
        rw [decide_eq_true (show 0 < i + 1 by omega), Bool.true_and, Bool.or_comm]
    by_cases ci : i = t.length
    · left
      refine ⟨Y, ?_, i2, fun j hj => ?_⟩
      · rw [if_pos (by omega), B_li_passLetter_91]
      · by_cases cj : j = i
        · rw [cj, hps, decide_eq_false (show ¬ i < t.length by omega)]
          simp
        · exact i3 j (by omega)
    · right
      have hil : i < t.length := by omega
      have hby := c_byteAt Tu d (i : Int)
      rw [tb_get hil] at hby
      rw [decide_eq_true hil, Bool.true_and] at hps
      have e9 : am_w ((i : Int) + 1) = ((i + 1 : Nat) : Int) := by rw [am_w_id (by omega) (by omega)]; omega
      have htest := bs_test (X := X) (j := i) hX (by omega)
      rw [if_neg (by omega), B_li_passLetter_17, li_gR_0, Option.bind_some, if_pos oT, hby, Option.bind_some]
      dsimp only
      have hpos : decide (0 < i + 1) = true := decide_eq_true (by omega)
      by_cases cb : X.testBit i = true
      · rw [if_pos cb] at htest
        rw [cb, Bool.true_and] at hps
        rw [htest, if_neg (by decide), B_li_passLetter_37]
        by_cases cs : t.getD i 0 = 42
        · obtain ⟨o1, o2⟩ := bs_or (X := Y) (j := i) i2 (by omega)
          refine ⟨(i + 1, Y ||| 2 ^ i, .inl (t.getD i 0)), ⟨by dsimp only; omega, o2, fun j hj => ?_, ?_, fun j hj => ?_⟩, by dsimp only; omega, ?_⟩
          · dsimp only at hj ⊢
            rw [bs_bit]
            by_cases cj : j = i
            · rw [cj, hps, decide_eq_true cs, decide_eq_true rfl]
            · rw [decide_eq_false (fun h => cj h.symm), Bool.or_false]
              exact i3 j (by omega)
          · dsimp only
            rw [bs_bit, i5 (i + 1) (by omega), decide_eq_false (by omega), Nat.add_sub_cancel, decide_eq_false (show ¬ t.getD i 0 ≠ 42 from fun h => h cs)]
            simp
          · dsimp only at hj ⊢
            rw [bs_bit, i5 j (by omega), decide_eq_false (by omega)]
            rfl
          · rw [if_neg (fun h => h cs), B_li_passLetter_44, o1, B_li_passLetter_85, e9]
        · rw [decide_eq_false cs, Bool.or_false] at hps
          rw [if_pos cs, B_li_passLetter_54, htest, if_neg (by decide), B_li_passLetter_63]
          have go : (t.getD i 0 = 63 ∨ t.getD i 0 = x) → ∃ s' : Nat × (Nat × am_V), (s'.1 ≤ t.length ∧ s'.2.1 < 8192 ∧ (∀ j, j < s'.1 → s'.2.1.testBit j = ps t x X.testBit j) ∧ (s'.2.1.testBit s'.1 = (decide (0 < s'.1) && (X.testBit (s'.1 - 1) && (decide (t.getD (s'.1 - 1) 0 ≠ 42) && (decide (t.getD (s'.1 - 1) 0 = 63) || decide (t.getD (s'.1 - 1) 0 = x)))))) ∧ ∀ j, s'.1 < j → s'.2.1.testBit j = false) ∧ t.length - s'.1 < t.length - i ∧ EV (d + 1) N_li_passLetter T_li_passLetter_76 [.inr (.inr (some (q))), .inl ((X : Int)), .inl (x), .inl ((Y : Int)), .inl ((i : Int)), .inl (t.getD i 0)] [] (liH ta q g S) = EV (d + 1) N_li_passLetter T_li_passLetter_5 [.inr (.inr (some (q))), .inl ((X : Int)), .inl (x), .inl ((s'.2.1 : Int)), .inl ((s'.1 : Int)), s'.2.2] [] (liH ta q g S) := by
            intro hgo
            obtain ⟨o1, o2⟩ := bs_or (X := Y) (j := i + 1) i2 (by omega)
            refine ⟨(i + 1, Y ||| 2 ^ (i + 1), .inl (t.getD i 0)), ⟨by dsimp only; omega, o2, fun j hj => ?_, ?_, fun j hj => ?_⟩, by dsimp only; omega, ?_⟩
            · dsimp only at hj ⊢
              rw [bs_bit, decide_eq_false (by omega), Bool.or_false]
              by_cases cj : j = i
              · rw [cj, hps]
              · exact i3 j (by omega)
            · dsimp only
              have hor : (decide (t.getD i 0 = 63) || decide (t.getD i 0 = x)) = true := by
                rcases hgo with h | h
                · rw [decide_eq_true h]; rfl
                · rw [decide_eq_true h, Bool.or_true]
              rw [bs_bit, decide_eq_true rfl, Bool.or_true, Nat.add_sub_cancel, hpos, cb, decide_eq_true cs, hor]
              rfl
            · dsimp only at hj ⊢
              rw [bs_bit, i5 j (by omega), decide_eq_false (by omega)]
              rfl
            · rw [B_li_passLetter_76, e9, o1, B_li_passLetter_85, e9]
          by_cases c63 : t.getD i 0 = 63
          · obtain ⟨s', h1, h2, h3⟩ := go (Or.inl c63)
            exact ⟨s', h1, h2, by rw [if_pos c63]; exact h3⟩
          · rw [if_neg c63, B_li_passLetter_70]
            by_cases cx : t.getD i 0 = x
            · obtain ⟨s', h1, h2, h3⟩ := go (Or.inr cx)
              exact ⟨s', h1, h2, by rw [if_neg (fun h => h cx)]; exact h3⟩
            · refine ⟨(i + 1, Y, .inl (t.getD i 0)), ⟨by dsimp only; omega, i2, fun j hj => ?_, ?_, fun j hj => i5 j (by dsimp only at hj; omega)⟩, by dsimp only; omega, ?_⟩
              · dsimp only at hj ⊢
                by_cases cj : j = i
                · rw [cj, hps]
                · exact i3 j (by omega)
              · dsimp only
                rw [i5 (i + 1) (by omega), Nat.add_sub_cancel, decide_eq_false c63, decide_eq_false cx]
                simp
              · rw [if_pos cx, B_li_passLetter_85, e9]
      · rw [if_neg cb] at htest
        have cb' : X.testBit i = false := by simpa using cb
        rw [cb', Bool.false_and, Bool.or_false] at hps
        refine ⟨(i + 1, Y, .inl (t.getD i 0)), ⟨by dsimp only; omega, i2, fun j hj => ?_, ?_, fun j hj => i5 j (by dsimp only at hj; omega)⟩, by dsimp only; omega, ?_⟩
        · dsimp only at hj ⊢
          by_cases cj : j = i
          · rw [cj, hps]
          · exact i3 j (by omega)
        · dsimp only
          rw [i5 (i + 1) (by omega), Nat.add_sub_cancel, cb']
          simp
        · rw [htest, if_pos rfl, B_li_passLetter_54, htest, if_pos rfl, B_li_passLetter_85, e9]
  obtain ⟨Y, e, h⟩ := key
  exact ⟨Y, am_cI_of e, h⟩
/-- the places behind the first i letters of a word -/
def plc (t w : List Int) (i j : Nat) : Bool := if j < t.length ∧ t.getD j 0 = 42 then mt (t.map sgn) w (j + 1) i else mt (t.map sgn) w j i
theorem sg_star {j : Nat} (hj : j < t.length) (hp : isPat t) : (t.map sgn).getD j 0 = sgn (t.getD j 0) ∧ ((t.map sgn).getD j 0 = -1 ↔ t.getD j 0 = 42) := by
  have e : (t.map sgn).getD j 0 = sgn (t.getD j 0) := by
    rw [List.getD_eq_getElem?_getD, List.getElem?_map, List.getElem?_eq_getElem hj, gd_s hj]
    rfl
  refine ⟨e, ?_⟩
  rw [e]
  have hm : t.getD j 0 ∈ t := by rw [gd_s hj]; exact List.getElem_mem _
  unfold sgn
  rcases hp.2 _ hm with h | h | h <;> (split <;> (try split) <;> omega)
theorem mtS_s {prev : Nat → Bool} {i : Nat} : mtS prev (i + 1) = (prev (i + 1) || mtS prev i) := rfl
theorem plc_0 (hp : isPat t) (w : List Int) : ∀ j, j ≤ t.length → cl t (fun k => decide (k = 0)) j = plc t w 0 j := by
  intro j
  induction j with
  | zero =>
    intro _
    unfold plc
    by_cases c : 0 < t.length ∧ t.getD 0 0 = 42
    · rw [if_pos c]
      have := (sg_star c.1 hp).2.mpr c.2
      show true = (if (t.map sgn).getD 0 0 = -1 then mtS (mt (t.map sgn) w 0) else mtL ((t.map sgn).getD 0 0) w (mt (t.map sgn) w 0)) 0
      rw [if_pos this]
      rfl
    · rw [if_neg c]
      rfl
  | succ j ih =>
    intro hj
    have hjl : j < t.length := by omega
    have hst := sg_star hjl hp
    have ih1 := ih (by omega)
    show (decide (j + 1 = 0) || (decide (t.getD j 0 = 42) && cl t (fun k => decide (k = 0)) j)) = _
    rw [decide_eq_false (by omega), Bool.false_or, ih1]
    -- what the first j + 1 signs do with nothing
    have hm : mt (t.map sgn) w (j + 1) 0 = (decide (t.getD j 0 = 42) && plc t w 0 j) := by
      show (if (t.map sgn).getD j 0 = -1 then mtS (mt (t.map sgn) w j) else mtL ((t.map sgn).getD j 0) w (mt (t.map sgn) w j)) 0 = _
      by_cases c : t.getD j 0 = 42
      · rw [if_pos (hst.2.mpr c), decide_eq_true c, Bool.true_and]
        unfold plc
        rw [if_pos ⟨hjl, c⟩]
        show _ = (if (t.map sgn).getD j 0 = -1 then mtS (mt (t.map sgn) w j) else mtL ((t.map sgn).getD j 0) w (mt (t.map sgn) w j)) 0
        rw [if_pos (hst.2.mpr c)]
      · rw [if_neg (fun h => c (hst.2.mp h)), decide_eq_false c]
        rfl
    rw [← hm]
    unfold plc
    by_cases c : j + 1 < t.length ∧ t.getD (j + 1) 0 = 42
    · rw [if_pos c]
      show _ = (if (t.map sgn).getD (j + 1) 0 = -1 then mtS (mt (t.map sgn) w (j + 1)) else mtL ((t.map sgn).getD (j + 1) 0) w (mt (t.map sgn) w (j + 1))) 0
      rw [if_pos ((sg_star c.1 hp).2.mpr c.2)]
      rfl
    · rw [if_neg c]
theorem cl_ext {N N' : Nat → Bool} {n : Nat} (h : ∀ j, j ≤ n → N j = N' j) : ∀ j, j ≤ n → cl t N j = cl t N' j
  | 0, hj => h 0 hj
  | j + 1, hj => by
    show (N (j + 1) || (decide (t.getD j 0 = 42) && cl t N j)) = (N' (j + 1) || (decide (t.getD j 0 = 42) && cl t N' j))
    rw [h (j + 1) hj, cl_ext h j (by omega)]
theorem plc_s (hp : isPat t) {w : List Int} {i : Nat} (hi : i < w.length) (hw : wl w) {N : Nat → Bool} (hN : ∀ j, j ≤ t.length → N j = plc t w i j) : ∀ j, j ≤ t.length → cl t (ps t (w.getD i 0 + 96) N) j = plc t w (i + 1) j := by
  have hlen := hp.1
  -- one more sign, one more letter
  have hmt : ∀ j, j < t.length → mt (t.map sgn) w (j + 1) (i + 1) = if t.getD j 0 = 42 then (mt (t.map sgn) w j (i + 1) || mt (t.map sgn) w (j + 1) i) else (mt (t.map sgn) w j i && (decide (t.getD j 0 = 63) || decide (t.getD j 0 = w.getD i 0 + 96))) := by
    intro j hj
    have hst := sg_star hj hp
    have hm : t.getD j 0 ∈ t := by rw [gd_s hj]; exact List.getElem_mem _
    by_cases c : t.getD j 0 = 42
    · rw [if_pos c]
      have e1 : mt (t.map sgn) w (j + 1) = mtS (mt (t.map sgn) w j) := by
        show (if (t.map sgn).getD j 0 = -1 then mtS (mt (t.map sgn) w j) else mtL ((t.map sgn).getD j 0) w (mt (t.map sgn) w j)) = _
        rw [if_pos (hst.2.mpr c)]
      rw [e1]
      rfl
    · rw [if_neg c]
      have e1 : mt (t.map sgn) w (j + 1) = mtL ((t.map sgn).getD j 0) w (mt (t.map sgn) w j) := by
        show (if (t.map sgn).getD j 0 = -1 then mtS (mt (t.map sgn) w j) else mtL ((t.map sgn).getD j 0) w (mt (t.map sgn) w j)) = _
        rw [if_neg (fun h => c (hst.2.mp h))]
      rw [e1, hst.1]
      show (mt (t.map sgn) w j i && (decide (sgn (t.getD j 0) = 0) || decide (sgn (t.getD j 0) = w.getD i 0))) = _
      have hwi := wl_getD hw hi
      have s1 : sgn (t.getD j 0) = 0 ↔ t.getD j 0 = 63 := by unfold sgn; rcases hp.2 _ hm with h | h | h <;> (split <;> (try split) <;> omega)
      by_cases c63 : t.getD j 0 = 63
      · rw [decide_eq_true (s1.mpr c63), decide_eq_true c63]
        simp
      · have s2 : sgn (t.getD j 0) = w.getD i 0 ↔ t.getD j 0 = w.getD i 0 + 96 := by
          unfold sgn
          rw [if_neg c63, if_neg c]
          omega
        rw [decide_eq_false (fun h => c63 (s1.mp h)), decide_eq_false c63]
        congr 2
        exact decide_eq_decide.mpr s2
  have hplc : ∀ j, j ≤ t.length → ∀ i, plc t w i j = if j < t.length ∧ t.getD j 0 = 42 then mt (t.map sgn) w (j + 1) i else mt (t.map sgn) w j i := fun j _ i => rfl
  have h42 : ¬ w.getD i 0 + 96 = 42 := by have := wl_getD hw hi; omega
  intro j
  induction j with
  | zero =>
    intro _
    show (N 0 && decide (t.getD 0 0 = 42)) = _
    rw [hN 0 (Nat.zero_le _), hplc 0 (Nat.zero_le _), hplc 0 (Nat.zero_le _)]
    by_cases c : t.getD 0 0 = 42
    · rw [if_pos ⟨by omega, c⟩, if_pos ⟨by omega, c⟩, decide_eq_true c, Bool.and_true, hmt 0 (by omega), if_pos c]
      have : mt (t.map sgn) w 0 (i + 1) = false := by
        show decide (i + 1 = 0) = false
        exact decide_eq_false (by omega)
      rw [this, Bool.false_or]
    · rw [if_neg (fun h => c h.2), if_neg (fun h => c h.2), decide_eq_false c, Bool.and_false]
      show false = decide (i + 1 = 0)
      exact (decide_eq_false (by omega)).symm
  | succ j ih =>
    intro hj
    have hjl : j < t.length := by omega
    have ih1 := ih (by omega)
    show (((N (j + 1) && (decide (j + 1 < t.length) && decide (t.getD (j + 1) 0 = 42))) || (N j && (decide (t.getD j 0 ≠ 42) && (decide (t.getD j 0 = 63) || decide (t.getD j 0 = w.getD i 0 + 96))))) || (decide (t.getD j 0 = 42) && cl t (ps t (w.getD i 0 + 96) N) j)) = _
    rw [ih1, hN (j + 1) hj, hN j (by omega)]
    -- the sign ahead has been passed now, or before
    have hb : ((plc t w i j && (decide (t.getD j 0 ≠ 42) && (decide (t.getD j 0 = 63) || decide (t.getD j 0 = w.getD i 0 + 96)))) || (decide (t.getD j 0 = 42) && plc t w (i + 1) j)) = (if t.getD j 0 = 42 then plc t w (i + 1) j else mt (t.map sgn) w (j + 1) (i + 1)) := by
      by_cases c : t.getD j 0 = 42
      · rw [if_pos c, decide_eq_true c, decide_eq_false (show ¬ t.getD j 0 ≠ 42 from fun h => h c)]
        simp
      · rw [if_neg c, decide_eq_false c, decide_eq_true c, Bool.true_and, Bool.false_and, Bool.or_false, hmt j hjl, if_neg c, hplc j (by omega), if_neg (fun h => c h.2)]
    have hb2 : (if t.getD j 0 = 42 then plc t w (i + 1) j else mt (t.map sgn) w (j + 1) (i + 1)) = mt (t.map sgn) w (j + 1) (i + 1) := by
      by_cases c : t.getD j 0 = 42
      · rw [if_pos c, hplc j (by omega), if_pos ⟨hjl, c⟩]
      · rw [if_neg c]
    rw [Bool.or_assoc, hb, hb2, hplc (j + 1) hj, hplc (j + 1) hj]
    by_cases c : j + 1 < t.length ∧ t.getD (j + 1) 0 = 42
    · rw [if_pos c, if_pos c, decide_eq_true c.1, decide_eq_true c.2, hmt (j + 1) c.1, if_pos c.2]
      rw [Bool.and_true, Bool.and_true, Bool.or_comm]
    · rw [if_neg c, if_neg c]
      have : (decide (j + 1 < t.length) && decide (t.getD (j + 1) 0 = 42)) = false := by
        rw [Bool.and_eq_false_iff, decide_eq_false_iff_not, decide_eq_false_iff_not]
        exact Decidable.not_and_iff_or_not.mp c
      rw [this, Bool.and_false, Bool.false_or]
theorem li_fitsPattern (T : tp_at g ta t) (hd : ta + 2 ≤ q ∨ q + 3 ≤ ta) (hp : isPat t) {w : List Int} (hw : wl w) (lw : w.length ≤ 10) (d : Nat) : am_cI (d + 3) N_li_fitsPattern [.inr (.inr (some (q))), .inr (.inl (ec 10 w))] (liH ta q g S) = some (if mt (t.map sgn) w t.length w.length = true then 1 else 0, liH ta q g S) := by
  have Tu : tp_at (liH ta q g S) ta t := T.fr liH_fr hd
  have gT := rd_gI Tu.1 (k := 1) rfl
  have hlw := fun (d : Nat) (h : am_H) => c_lettersIn d h hw lw
  have h12 := hp.1
  obtain ⟨Y0, e0, y0, c0⟩ := li_passStars (q := q) (S := S) T hd h12.2 (X := 1) (by decide) (d + 1)
  have e0' : am_cI (d + 2) N_li_passStars [.inr (.inr (some (q))), .inl (1)] (liH ta q g S) = some ((Y0 : Int), liH ta q g S) := e0
  have hY0 : ∀ j, j ≤ t.length → Y0.testBit j = plc t w 0 j := by
    intro j hj
    rw [c0 j hj, ← plc_0 hp w j hj]
    refine cl_ext (n := t.length) (fun k _ => ?_) j hj
    rw [Nat.testBit_eq_decide_div_mod_eq]
    cases k with
    | zero => rfl
    | succ k =>
      have : 1 / 2 ^ (k + 1) = 0 := Nat.div_eq_of_lt (Nat.one_lt_two_pow (by omega))
      rw [this]
      rfl
  have lp : ∀ (m i Y : Nat), i + m = w.length → Y < 8192 → (∀ j, j ≤ t.length → Y.testBit j = plc t w i j) → ∃ Z : Nat, EV (d + 3) N_li_fitsPattern T_li_fitsPattern_15 [.inr (.inr (some (q))), .inr (.inl (ec 10 w)), am_nul, .inl ((Y : Int)), .inl ((w.length : Int)), .inl ((i : Int))] [] (liH ta q g S) = EV (d + 3) N_li_fitsPattern T_li_fitsPattern_49 [.inr (.inr (some (q))), .inr (.inl (ec 10 w)), am_nul, .inl ((Z : Int)), .inl ((w.length : Int)), .inl ((w.length : Int))] [] (liH ta q g S) ∧ Z < 8192 ∧ ∀ j, j ≤ t.length → Z.testBit j = plc t w w.length j := by
    intro m
    induction m with
    | zero =>
      intro i Y hi hY h
      obtain rfl : i = w.length := by omega
      refine ⟨Y, ?_, hY, h⟩
      rw [B_li_fitsPattern_15, if_pos (Int.le_refl _)]
    | succ m ih =>
      intro i Y hi hY h
      have hil : i < w.length := by omega
      have hlet := fun (d : Nat) (h : am_H) => c_letter d h hw (show i < 10 by omega)
      have hwi := wl_getD hw hil
      have ew : am_w (am_w (w.getD i 0 + 97) - 1) = w.getD i 0 + 96 := by rw [am_w_id (x := w.getD i 0 + 97) (by omega) (by omega), am_w_id (by omega) (by omega)]; omega
      have e9 : am_w ((i : Int) + 1) = ((i + 1 : Nat) : Int) := by rw [am_w_id (by omega) (by omega)]; omega
      obtain ⟨Y1, f1, g1, k1⟩ := li_passLetter (q := q) (S := S) T hd h12 hY (w.getD i 0 + 96) (d + 1)
      obtain ⟨Y2, f2, g2, k2⟩ := li_passStars (q := q) (S := S) T hd h12.2 g1 (d + 1)
      obtain ⟨Z, e, r⟩ := ih (i + 1) Y2 (by omega) g2 (fun j hj => by
        rw [k2 j hj, ← plc_s hp hil hw h j hj]
        exact cl_ext (n := t.length) k1 j hj)
      refine ⟨Z, Eq.trans ?_ e, r⟩
      rw [B_li_fitsPattern_15, if_neg (by omega), B_li_fitsPattern_22, hlet, Option.bind_some]
      dsimp only
      rw [if_pos li_O, ew, f1, Option.bind_some]
      dsimp only
      rw [if_pos li_O, f2, Option.bind_some]
      dsimp only
      rw [e9]
  obtain ⟨Z, e, z1, z2⟩ := lp w.length 0 Y0 (by omega) y0 hY0
  have hz := z2 t.length (Nat.le_refl _)
  have hpe : plc t w w.length t.length = mt (t.map sgn) w t.length w.length := by unfold plc; rw [if_neg (by omega)]
  rw [hpe] at hz
  have htest := bs_test (X := Z) (j := t.length) z1 h12.2
  rw [hz] at htest
  have st : am_call (d + 3) N_li_fitsPattern [.inr (.inr (some (q))), .inr (.inl (ec 10 w))] (liH ta q g S) = EV (d + 3) N_li_fitsPattern T_li_fitsPattern_15 [.inr (.inr (some (q))), .inr (.inl (ec 10 w)), am_nul, .inl ((Y0 : Int)), .inl ((w.length : Int)), .inl (((0 : Nat) : Int))] [] (liH ta q g S) := by
    rw [en_li_fitsPattern, B_li_fitsPattern_0, if_pos li_O, e0', Option.bind_some]
    dsimp only
    rw [hlw, Option.bind_some]
    rfl
  refine am_cI_of (st.trans (e.trans ?_))
  rw [B_li_fitsPattern_49, li_gR_0, Option.bind_some, gT, Option.bind_some, htest]
  by_cases c : mt (t.map sgn) w t.length w.length = true
  · rw [if_pos c, if_neg (by decide), B_li_fitsPattern_63, B_li_fitsPattern_68, if_pos (by decide)]
  · rw [if_neg c, if_pos rfl, B_li_fitsPattern_67, B_li_fitsPattern_68, if_pos (by decide)]
theorem li_markLike (hok : ok ws) (T : tp_at g ta t) (hd : ta + 2 ≤ q ∨ q + 3 ≤ ta) (hp : isPat t) (B : bkR g bk ws) (hd2 : bk + 3 ≤ q ∨ q + 3 ≤ bk) (d : Nat) : ∃ S', am_cV (d + 4) N_li_markLike [.inr (.inr (some (q))), .inr (.inr (some (bk)))] (liH ta q g S) = some (liH ta q g S') ∧ mkP S' (fun i => mt (t.map sgn) (wdi ws i) t.length (wdi ws i).length) ws.length := by
  have Bu : ∀ S, bkR (liH ta q g S) bk ws := fun S => B.fr liH_fr hd2
  have hl := hok.2.2
  have lp : ∀ (m i : Nat) (U : Nat → Nat → Int), i + m = ws.length → mkP U (fun i => mt (t.map sgn) (wdi ws i) t.length (wdi ws i).length) i → ∃ U', EV (d + 4) N_li_markLike T_li_markLike_2 [.inr (.inr (some (q))), .inr (.inr (some (bk))), .inl ((i : Int))] [] (liH ta q g U) = some (none, liH ta q g U') ∧ mkP U' (fun i => mt (t.map sgn) (wdi ws i) t.length (wdi ws i).length) ws.length := by
    intro m
    induction m with
    | zero =>
      intro i U hi h
      obtain rfl : i = ws.length := by omega
      refine ⟨U, ?_, h⟩
      rw [B_li_markLike_2, (Bu U).sz, Option.bind_some, if_pos (Int.le_refl _), B_li_markLike_32]
    | succ m ih =>
      intro i U hi h
      have hil : i < ws.length := by omega
      have hg := gt_some hil
      obtain ⟨p1, p2, p3, p4⟩ := ok_get hok hg
      have e1 := li_fitsPattern (q := q) (S := U) T hd hp p1 p3 d
      have hwd : wdi ws i = (ws.getD i ([], 0)).1 := rfl
      rw [← hwd] at e1
      have e9 : am_w ((i : Int) + 1) = ((i + 1 : Nat) : Int) := by rw [am_w_id (by omega) (by omega)]; omega
      have hx01 : 0 ≤ (if mt (t.map sgn) (wdi ws i) t.length (wdi ws i).length = true then (1 : Int) else 0) ∧ (if mt (t.map sgn) (wdi ws i) t.length (wdi ws i).length = true then (1 : Int) else 0) < 2 := by split <;> decide
      obtain ⟨U', e, r⟩ := ih (i + 1) _ (by omega) (mkP_s h rfl)
      refine ⟨U', Eq.trans ?_ e, r⟩
      rw [B_li_markLike_2, (Bu U).sz, Option.bind_some, if_neg (by omega), B_li_markLike_10, li_gR_1, Option.bind_some, (Bu U).gW, Option.bind_some, (Bu U).lW hg, Option.bind_some, if_pos li_O, ← hwd, e1, Option.bind_some]
      dsimp only
      rw [li_s_1 (by omega) (by omega) hx01.1 hx01.2, Option.bind_some, e9, Int.toNat_natCast]
  obtain ⟨U, e, r⟩ := lp ws.length 0 S (by omega) (fun i hi => by omega)
  refine ⟨U, am_cV_of (Eq.trans ?_ e), r⟩
  rw [en_li_markLike, B_li_markLike_0]
  rfl
end LI
