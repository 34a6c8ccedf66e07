/-! the model: letters alike, nodes as they are laid -/
theorem cpl_get : ∀ {a b : List Int} {k : Nat}, k < cpl a b → a.getD k 0 = b.getD k 0
  | [], b, k, h => by simp [cpl] at h
  | x :: a, [], k, h => by simp [cpl] at h
  | x :: a, y :: b, k, h => by
    simp only [cpl] at h
    split at h
    · next c =>
      cases k with
      | zero => simpa using c
      | succ k =>
        rw [List.getD_cons_succ, List.getD_cons_succ]
        exact cpl_get (by omega)
    · omega
theorem cpl_stop : ∀ (a b : List Int), cpl a b = a.length ∨ cpl a b = b.length ∨ (cpl a b < a.length ∧ cpl a b < b.length ∧ a.getD (cpl a b) 0 ≠ b.getD (cpl a b) 0)
  | [], b => Or.inl (by simp [cpl])
  | x :: a, [] => Or.inr (Or.inl (by simp [cpl]))
  | x :: a, y :: b => by
    simp only [cpl, List.length_cons]
    by_cases c : x = y
    · rw [if_pos c]
      rcases cpl_stop a b with h | h | ⟨h1, h2, h3⟩
      · exact Or.inl (by omega)
      · exact Or.inr (Or.inl (by omega))
      · exact Or.inr (Or.inr ⟨by omega, by omega, by rw [List.getD_cons_succ, List.getD_cons_succ]; exact h3⟩)
    · rw [if_neg c]
      exact Or.inr (Or.inr ⟨by omega, by omega, by simpa using c⟩)
/-- behind the last word that begins so -/
def hi (ws : List wd) (p : List Int) : Nat := ah ws p + (sb ws p).length
theorem hi_le {ws : List wd} (hs : so ws) (p : List Int) : hi ws p ≤ ws.length := sb_le hs p
section MD
variable {m : Nat} {g : am_H} {S : Nat → Nat → Int} {o : Nat} {ws : List wd}
theorem md_lettersAlike (H : ml 2402 (S 2) o ws) (hb : S 23 0 = o) {w : Nat} {p q : wd} (hp : ws[w]? = some p) (hq : ws[w + 1]? = some q) (lp : p.1.length ≤ 10) (lq : q.1.length ≤ 10) (d : Nat) : am_cI (d + 1) N_md_lettersAlike [.inr (.inr (some (m))), .inl (((w + 1 : Nat) : Int))] (MH m g S) = some ((cpl p.1 q.1 : Int), MH m g S) := by
  have hc := cpl_le p.1 q.1
  have hl := ml_len H hq
  have hn := H.2.1
  have e1 : ((w + 1 : Nat) : Int) - 1 = (w : Int) := by omega
  have a1 := fun d => md_lengthOf (g := g) (m_row_2 (m := m)) (by decide) H hp d
  have a2 := fun d => md_lengthOf (g := g) (m_row_2 (m := m)) (by decide) H hq d
  apply am_cI_of
  rw [en_md_lettersAlike, B_md_lettersAlike_0]
  have loop := am_for (F := fun k => EV (d + 1) N_md_lettersAlike T_md_lettersAlike_2 [.inr (.inr (some (m))), .inl (((w + 1 : Nat) : Int)), .inl ((k : Int))] [] (MH m g S)) (k := 0) (n := cpl p.1 q.1) (Nat.zero_le _) (fun k _ hk => by
    have a3 := fun d => md_letterOf (g := g) (m_row_2 (m := m)) (by decide) H hp (show k < 10 by omega) d
    have a4 := fun d => md_letterOf (g := g) (m_row_2 (m := m)) (by decide) H hq (show k < 10 by omega) d
    rw [← cpl_get hk] at a4
    (try dsimp only); rw [B_md_lettersAlike_2]; simp (disch := omega) only [B_md_lettersAlike_20, B_md_lettersAlike_36, B_md_lettersAlike_67, Option.bind_some, if_true, if_false, eq_self, not_true_eq_false, not_false_eq_true, am_w_id, if_pos, if_neg, fu_self, fu_ne, Int.toNat_natCast, m_gR_2, m_l_2, m_s_2, m_gI_23, m_p_23, hb, e1, a1, a2, a3, a4]
    rfl)
  refine loop.trans ?_
  rcases cpl_stop p.1 q.1 with h | h | ⟨h1, h2, h3⟩
  · (try dsimp only); rw [B_md_lettersAlike_2]; simp (disch := omega) only [B_md_lettersAlike_73, Option.bind_some, if_true, if_false, eq_self, not_true_eq_false, not_false_eq_true, am_w_id, if_pos, if_neg, fu_self, fu_ne, Int.toNat_natCast, m_gR_2, m_l_2, m_s_2, m_gI_23, m_p_23, hb, e1, a1]
  · by_cases c : cpl p.1 q.1 = p.1.length
    · (try dsimp only); rw [B_md_lettersAlike_2]; simp (disch := omega) only [B_md_lettersAlike_73, Option.bind_some, if_true, if_false, eq_self, not_true_eq_false, not_false_eq_true, am_w_id, if_pos, if_neg, fu_self, fu_ne, Int.toNat_natCast, m_gR_2, m_l_2, m_s_2, m_gI_23, m_p_23, hb, e1, a1]
    · (try dsimp only); rw [B_md_lettersAlike_2]; simp (disch := omega) only [B_md_lettersAlike_20, B_md_lettersAlike_73, Option.bind_some, if_true, if_false, eq_self, not_true_eq_false, not_false_eq_true, am_w_id, if_pos, if_neg, fu_self, fu_ne, Int.toNat_natCast, m_gR_2, m_l_2, m_s_2, m_gI_23, m_p_23, hb, e1, a1, a2]
  · have a3 := fun d => md_letterOf (g := g) (m_row_2 (m := m)) (by decide) H hp (show cpl p.1 q.1 < 10 by omega) d
    have a4 := fun d => md_letterOf (g := g) (m_row_2 (m := m)) (by decide) H hq (show cpl p.1 q.1 < 10 by omega) d
    (try dsimp only); rw [B_md_lettersAlike_2]; simp (disch := omega) only [B_md_lettersAlike_20, B_md_lettersAlike_36, B_md_lettersAlike_73, Option.bind_some, if_true, if_false, eq_self, not_true_eq_false, not_false_eq_true, am_w_id, if_pos, if_neg, fu_self, fu_ne, Int.toNat_natCast, m_gR_2, m_l_2, m_s_2, m_gI_23, m_p_23, hb, e1, a1, a2, a3, a4, h3]
theorem md_endOf (hs : so ws) (hk : ∀ p ∈ ws, wk p) (H : ml 2402 (S 2) o ws) (hb : S 23 0 = o) {w k : Nat} {q : wd} (hq : ws[w]? = some q) (hkl : k ≤ q.1.length) (hw : ah ws (q.1.take k) = w) (d : Nat) : am_cI (d + 2) N_md_endOf [.inr (.inr (some (m))), .inl ((w : Int)), .inl ((k : Int))] (MH m g S) = some (((hi ws (q.1.take k) : Nat) : Int), MH m g S) := by
  have h1 := H.1
  have h2 := H.2.1
  have hle := hi_le hs (q.1.take k)
  have hwl := ml_len H hq
  have hiw : w < hi ws (q.1.take k) := ((sb_iff hs (q.1.take k) hq).mp (List.take_prefix _ _)).2
  have hpl : (q.1.take k).length = k := by rw [List.length_take]; omega
  have iff : ∀ j, (hj : w + j + 1 < ws.length) → w + j < hi ws (q.1.take k) → (k ≤ cpl (ws[w + j]'(by omega)).1 (ws[w + j + 1]'hj).1 ↔ w + j + 1 < hi ws (q.1.take k)) := by
    intro j hj hj2
    have g1 := (sb_iff hs (q.1.take k) (List.getElem?_eq_getElem (show w + j < ws.length by omega))).mpr ⟨by omega, hj2⟩
    have g2 := cpl_iff _ _ (ws[w + j + 1]'hj).1 g1
    rw [hpl] at g2
    rw [← g2, sb_iff hs _ (List.getElem?_eq_getElem hj)]
    unfold hi
    omega
  generalize hi ws (q.1.take k) = z at *
  obtain ⟨n, rfl⟩ : ∃ n, z = w + n + 1 := ⟨z - w - 1, by omega⟩
  apply am_cI_of
  rw [en_md_endOf, B_md_endOf_0]
  have loop := am_for (F := fun j => EV (d + 2) N_md_endOf T_md_endOf_4 [.inr (.inr (some (m))), .inl ((w : Int)), .inl ((k : Int)), .inl (((w + j + 1 : Nat) : Int))] [] (MH m g S)) (k := 0) (n := n) (Nat.zero_le _) (fun j _ hj => by
    have a1 := fun d => md_lettersAlike (m := m) (g := g) H hb (w := w + j) (List.getElem?_eq_getElem (show w + j < ws.length by omega)) (List.getElem?_eq_getElem (show w + j + 1 < ws.length by omega)) (hk _ (List.getElem_mem _)).2.2.1 (hk _ (List.getElem_mem _)).2.2.1 d
    have a2 := (iff j (by omega) (by omega)).mpr (by omega)
    (try dsimp only); rw [B_md_endOf_4]; simp (disch := omega) only [B_md_endOf_17, B_md_endOf_26, Option.bind_some, if_true, if_false, eq_self, not_true_eq_false, not_false_eq_true, am_w_id, if_pos, if_neg, fu_self, fu_ne, Int.toNat_natCast, m_gR_2, m_l_2, m_s_2, m_gI_23, m_p_23, m_O, hb, h1, a1]
    rfl)
  have e0 : am_w ((w : Int) + 1) = ((w + 0 + 1 : Nat) : Int) := by rw [am_w_id (by omega) (by omega)]; omega
  rw [e0]
  clear e0
  refine loop.trans ?_
  clear loop
  by_cases c : w + n + 1 = ws.length
  · (try dsimp only); rw [B_md_endOf_4]; simp (disch := omega) only [B_md_endOf_32, Option.bind_some, if_true, if_false, eq_self, not_true_eq_false, not_false_eq_true, am_w_id, if_pos, if_neg, fu_self, fu_ne, Int.toNat_natCast, m_gR_2, m_l_2, m_s_2, m_gI_23, m_p_23, hb, h1]
  · have hj : w + n + 1 < ws.length := by omega
    have a1 := fun d => md_lettersAlike (m := m) (g := g) H hb (w := w + n) (List.getElem?_eq_getElem (by omega)) (List.getElem?_eq_getElem hj) (hk _ (List.getElem_mem _)).2.2.1 (hk _ (List.getElem_mem _)).2.2.1 d
    have a2 : ¬ k ≤ _ := fun g => by have := (iff n hj (by omega)).mp g; omega
    (try dsimp only); rw [B_md_endOf_4]; simp (disch := omega) only [B_md_endOf_17, B_md_endOf_32, Option.bind_some, if_true, if_false, eq_self, not_true_eq_false, not_false_eq_true, am_w_id, if_pos, if_neg, fu_self, fu_ne, Int.toNat_natCast, m_gR_2, m_l_2, m_s_2, m_gI_23, m_p_23, m_O, hb, h1, a1]
/-- the first k nodes as the model has them -/
def ndP (S : Nat → Nat → Int) (ws : List wd) (k : Nat) : Prop := ∀ i, i < k → S 14 i = (ah ws (pn ws i) : Int) ∧ S 15 i = (hi ws (pn ws i) : Int) ∧ S 16 i = ((pn ws i).length : Int) ∧ S 17 i = if i = 0 then -1 else (pr ws i : Int)
theorem md_nodeFor {k : Nat} (hs : so ws) (hw1 : ws.length ≤ 100) (N : ndP S ws k) (hS : S 13 0 = k) (hkn : k ≤ nN ws) (hk11 : k ≤ 1101) {w c : Nat} {q : wd} (hq : ws[w]? = some q) (hc : c ≤ q.1.length) (hix : ix ws (q.1.take c) < k) (d : Nat) : am_cI d N_md_nodeFor [.inr (.inr (some (m))), .inl ((w : Int)), .inl ((c : Int))] (MH m g S) = some ((ix ws (q.1.take c) : Int), MH m g S) := by
  have hb : bg ws (q.1.take c) := Or.inr ⟨q, List.mem_of_getElem? hq, List.take_prefix _ _⟩
  have hpl : (q.1.take c).length = c := by rw [List.length_take]; omega
  have e1 : ((k : Int) - 1) = ((k - 1 : Nat) : Int) := by omega
  have hwl := (List.getElem?_eq_some_iff.mp hq).1
  apply am_cI_of
  simp (disch := omega) only [en_md_nodeFor, B_md_nodeFor_0, Option.bind_some, if_true, if_false, eq_self, not_true_eq_false, not_false_eq_true, am_w_id, if_pos, if_neg, fu_self, fu_ne, Int.toNat_natCast, m_gI_13, m_p_13, hS, e1]
  have loop := am_ford (F := fun i => EV d N_md_nodeFor T_md_nodeFor_7 [.inr (.inr (some (m))), .inl ((w : Int)), .inl ((c : Int)), .inl ((i : Int))] [] (MH m g S)) (k := ix ws (q.1.take c)) (n := k - 1) (by omega) (fun i hi1 hi2 => by
    obtain ⟨n1, n2, n3, n4⟩ := N (i + 1) (by omega)
    have e2 : ((i + 1 : Nat) : Int) + (-1) = (i : Int) := by omega
    have hne : ¬ (pn ws (i + 1) <+: q.1 ∧ (pn ws (i + 1)).length = c) := fun ⟨g1, g2⟩ => by
      have g3 := List.prefix_iff_eq_take.mp g1
      rw [g2] at g3
      have := ix_pn hs (show i + 1 < nN ws by omega)
      rw [g3] at this
      omega
    rw [sb_iff hs (pn ws (i + 1)) hq] at hne
    have n2' : S 15 (i + 1) = ((ah ws (pn ws (i + 1)) + (sb ws (pn ws (i + 1))).length : Nat) : Int) := n2
    have hle := sb_le hs (pn ws (i + 1))
    by_cases c1 : (pn ws (i + 1)).length = c
    · by_cases c2 : w < ah ws (pn ws (i + 1))
      · (try dsimp only); rw [B_md_nodeFor_7]; simp (disch := omega) only [B_md_nodeFor_17, B_md_nodeFor_37, Option.bind_some, if_true, if_false, eq_self, not_true_eq_false, not_false_eq_true, am_w_id, if_pos, if_neg, fu_self, fu_ne, Int.toNat_natCast, m_gR_16, m_l_16, m_s_16, m_gR_14, m_l_14, m_s_14, n1, n2', n3, e2]
      · (try dsimp only); rw [B_md_nodeFor_7]; simp (disch := omega) only [B_md_nodeFor_17, B_md_nodeFor_27, B_md_nodeFor_37, Option.bind_some, if_true, if_false, eq_self, not_true_eq_false, not_false_eq_true, am_w_id, if_pos, if_neg, fu_self, fu_ne, Int.toNat_natCast, m_gR_16, m_l_16, m_s_16, m_gR_14, m_l_14, m_s_14, m_gR_15, m_l_15, m_s_15, n1, n2', n3, e2]
    · (try dsimp only); rw [B_md_nodeFor_7]; simp (disch := omega) only [B_md_nodeFor_37, Option.bind_some, if_true, if_false, eq_self, not_true_eq_false, not_false_eq_true, am_w_id, if_pos, if_neg, fu_self, fu_ne, Int.toNat_natCast, m_gR_16, m_l_16, m_s_16, n1, n2', n3, e2])
  refine loop.trans ?_
  obtain ⟨n1, n2, n3, n4⟩ := N _ hix
  rw [pn_ix hs hb] at n1 n2 n3
  have h1 := (sb_iff hs (q.1.take c) hq).mp (List.take_prefix _ _)
  have n2' : S 15 (ix ws (q.1.take c)) = ((ah ws (q.1.take c) + (sb ws (q.1.take c)).length : Nat) : Int) := n2
  have hle := sb_le hs (q.1.take c)
  (try dsimp only); rw [B_md_nodeFor_7]; simp (disch := omega) only [B_md_nodeFor_17, B_md_nodeFor_27, B_md_nodeFor_43, Option.bind_some, if_true, if_false, eq_self, not_true_eq_false, not_false_eq_true, am_w_id, if_pos, if_neg, fu_self, fu_ne, Int.toNat_natCast, m_gR_16, m_l_16, m_s_16, m_gR_14, m_l_14, m_s_14, m_gR_15, m_l_15, m_s_15, n1, n2', n3]
/-- where the nodes of a word begin -/
def nl (ws : List wd) (w : Nat) : Nat := (ND (ws.take w)).length
/-- the word ahead -/
def wb (ws : List wd) (w : Nat) : List Int := match w with
  | 0 => []
  | w + 1 => ((ws[w]?).getD ([], 0)).1
theorem nds_app : ∀ (l : List wd) (a : List Int) (q : wd), nds a (l ++ [q]) = nds a l ++ (List.range' (cpl ((l.getLastD (a, 0)).1) q.1 + 1) (q.1.length - cpl ((l.getLastD (a, 0)).1) q.1)).map (fun k => (q.1.take k, if k = q.1.length then q.2 else -1))
  | [], a, q => by simp [nds]
  | r :: l, a, q => by
    rw [List.cons_append, nds, nds_app l r.1 q, nds, List.append_assoc]
    congr 2
    cases l with
    | nil => rfl
    | cons b l => simp [List.getLastD]
theorem wb_last {w : Nat} (hw : w ≤ ws.length) : ((ws.take w).getLastD ([], 0)).1 = wb ws w := by
  cases w with
  | zero => rfl
  | succ w =>
    have h : w < ws.length := by omega
    rw [List.take_succ, List.getElem?_eq_getElem h, Option.toList_some, List.getLastD_concat]
    show (ws[w]'h).1 = ((ws[w]?).getD ([], 0)).1
    rw [List.getElem?_eq_getElem h]
    rfl
theorem nl0 : nl ws 0 = 1 := rfl
theorem ND_take {w : Nat} {q : wd} (hq : ws[w]? = some q) : ND (ws.take (w + 1)) = ND (ws.take w) ++ (List.range' (cpl (wb ws w) q.1 + 1) (q.1.length - cpl (wb ws w) q.1)).map (fun k => (q.1.take k, if k = q.1.length then q.2 else -1)) := by
  have h := (List.getElem?_eq_some_iff.mp hq).1
  unfold ND
  rw [List.take_succ, hq, Option.toList_some, nds_app, wb_last (by omega), List.cons_append]
theorem ND_tp (w : Nat) : ND (ws.take w) <+: ND ws := by
  have key : ∀ (n : Nat), ND (ws.take w) <+: ND (ws.take (w + n)) := by
    intro n
    induction n with
    | zero => exact List.prefix_refl _
    | succ n ih =>
      rw [← Nat.add_assoc]
      cases e : ws[w + n]? with
      | none =>
        have h := List.getElem?_eq_none_iff.mp e
        rw [List.take_of_length_le (show ws.length ≤ w + n + 1 by omega)]
        rw [List.take_of_length_le h] at ih
        exact ih
      | some q =>
        rw [ND_take e]
        exact ih.trans (List.prefix_append _ _)
  have := key ws.length
  rw [List.take_of_length_le (show ws.length ≤ w + ws.length by omega)] at this
  exact this
theorem nl_s {w : Nat} {q : wd} (hq : ws[w]? = some q) : nl ws (w + 1) = nl ws w + (q.1.length - cpl (wb ws w) q.1) := by
  unfold nl
  rw [ND_take hq, List.length_append, List.length_map, List.length_range']
theorem nl_le (w : Nat) : nl ws w ≤ nN ws := (ND_tp w).length_le
theorem nl_all : nl ws ws.length = nN ws := by unfold nl; rw [List.take_length]
theorem ND_at {w j : Nat} {q : wd} (hq : ws[w]? = some q) (hj : cpl (wb ws w) q.1 + 1 + j ≤ q.1.length) : pn ws (nl ws w + j) = q.1.take (cpl (wb ws w) q.1 + 1 + j) := by
  obtain ⟨t, ht⟩ := ND_tp (ws := ws) (w + 1)
  have hl : j < ((List.range' (cpl (wb ws w) q.1 + 1) (q.1.length - cpl (wb ws w) q.1)).map (fun k => (q.1.take k, if k = q.1.length then q.2 else -1))).length := by
    rw [List.length_map, List.length_range']; omega
  refine pn_of (v := if cpl (wb ws w) q.1 + 1 + j = q.1.length then q.2 else -1) ?_
  rw [← ht, ND_take hq, List.append_assoc, List.getElem?_append_right (by unfold nl; omega), show nl ws w + j - (ND (ws.take w)).length = j by unfold nl; omega, List.getElem?_append_left hl, List.getElem?_map, List.getElem?_range' (by omega)]
  simp
end MD
