/-! the model: nodes laid, weighed -/
theorem w_sub (x y : Int) : am_w (am_w x - y) = am_w (x - y) := by
  unfold am_w
  rw [Int.bmod_sub_bmod]
theorem w_add (x y : Int) : am_w (am_w x + y) = am_w (x + y) := by
  unfold am_w
  rw [Int.bmod_add_bmod]
/-- one more word in a node's mark -/
def mk1 (x : Int) (r : wd) : Int := am_w (am_w (31 * r.1.foldl (fun x y => am_w (am_w (31 * x) + y)) (am_w (am_w (31 * x) + r.2))) + 29)
def mk (l : List wd) : Int := l.foldl mk1 l.length
theorem tk_s {α : Type} {l : List α} {j : Nat} {a : α} (h : l[j]? = some a) : l.take (j + 1) = l.take j ++ [a] := by
  rw [List.take_succ, h]; rfl
theorem dr_get {t : List Int} {k i : Nat} : (t.drop k).getD i 0 = t.getD (k + i) 0 := by
  rw [List.getD_eq_getElem?_getD, List.getD_eq_getElem?_getD, List.getElem?_drop]
theorem R_get {ws : List wd} (hs : so ws) {p : List Int} {j : Nat} {q : wd} (hq : ws[ah ws p + j]? = some q) (hj : j < (sb ws p).length) : (R ws p)[j]? = some (q.1.drop p.length, q.2 - lst ws p) := by
  unfold R
  rw [List.getElem?_map, sb_get hs p hj, hq]
  rfl
theorem R_len (ws : List wd) (p : List Int) : (R ws p).length = (sb ws p).length := by unfold R; rw [List.length_map]
section MD
variable {m : Nat} {g : am_H} {S : Nat → Nat → Int} {o : Nat} {ws : List wd}
theorem md_weighs (hok : ok ws) (H : ml 2402 (S 2) o ws) (hb : S 23 0 = o) {k : Nat} (hk : k < nN ws) (N : ndP S ws (nN ws)) (d : Nat) : ∃ S', am_cV (d + 1) N_md_weighs [.inr (.inr (some (m))), .inl ((k : Int))] (MH m g S) = some (MH m g S') ∧ S' 18 k = lst ws (pn ws k) ∧ S' 19 k = mk (R ws (pn ws k)) ∧ (∀ i, i ≠ k → S' 18 i = S 18 i ∧ S' 19 i = S 19 i) ∧ fd [18, 19] S S' := by
  obtain ⟨hwk, hs, hl100⟩ := hok
  have hN := ND_len ⟨hwk, hs, hl100⟩
  have hN' : nN ws ≤ 1001 := hN
  obtain ⟨n1, n2, n3, n4⟩ := N k hk
  have hbg := pn_bg hk
  have hle := hi_le hs (pn ws k)
  have n2' : S 15 k = ((ah ws (pn ws k) + (sb ws (pn ws k)).length : Nat) : Int) := n2
  have hle' : ah ws (pn ws k) + (sb ws (pn ws k)).length ≤ ws.length := hle
  generalize hp : pn ws k = p at *
  generalize hL : lst ws p = L
  have hLb : 0 ≤ L ∧ L ≤ 999999 := by
    rw [← hL]
    unfold lst
    split
    · omega
    · next c =>
      obtain ⟨g1, g2, g3⟩ := mf_spec (sb ws p) 999999
      rcases g3 with g3 | ⟨r, g4, g5⟩
      · omega
      · have := (hwk r (sb_mem.mp g4).1).2.2.2
        omega
  -- the words that begin so
  have word : ∀ j, j < (sb ws p).length → ∃ q, ws[ah ws p + j]? = some q ∧ (sb ws p)[j]? = some q ∧ wk q ∧ p <+: q.1 := by
    intro j hj
    refine ⟨_, List.getElem?_eq_getElem (show ah ws p + j < ws.length by omega), ?_, hwk _ (List.getElem_mem _), ?_⟩
    · rw [sb_get hs p hj]; exact List.getElem?_eq_getElem _
    · exact (sb_iff hs p (List.getElem?_eq_getElem _)).mpr (by omega)
  have rd : ∀ (T : Nat → Nat → Int), (∀ i, i < 18 → T i = S i) → T 23 = S 23 → ml 2402 (T 2) o ws ∧ T 15 k = ((ah ws p + (sb ws p).length : Nat) : Int) ∧ T 14 k = (ah ws p : Int) ∧ T 16 k = (p.length : Int) ∧ T 23 0 = o := by
    intro T h1 h2
    rw [h1 2 (by omega), h1 15 (by omega), h1 14 (by omega), h1 16 (by omega), h2]
    exact ⟨H, n2', n1, n3, hb⟩
  -- the second loop: the mark
  have second : ∀ (T : Nat → Nat → Int) (j3 j4 : am_V) (x2 : Int), (∀ i, i < 18 → T i = S i) → T 23 = S 23 → T 18 k = L → EV (d + 1) N_md_weighs T_md_weighs_98 [.inr (.inr (some (m))), .inl ((k : Int)), .inl (x2), j3, j4] [] (MH m g T) = some (none, MH m g (am_fu T 19 (am_fu (T 19) k (mk (R ws p))))) := by
    intro T j3 j4 x2 hT hT2 hT3
    obtain ⟨r1, r2, r3, r4, r5⟩ := rd T hT hT2
    have e1 : ((ah ws p + (sb ws p).length : Nat) : Int) - (ah ws p : Int) = (((R ws p).take 0).foldl mk1 (R ws p).length : Int) := by
      rw [List.take_zero, List.foldl_nil, R_len]; omega
    have e0 : (ah ws p : Int) = ((ah ws p + 0 : Nat) : Int) := by omega
    have start : EV (d + 1) N_md_weighs T_md_weighs_98 [.inr (.inr (some (m))), .inl ((k : Int)), .inl (x2), j3, j4] [] (MH m g T) = EV (d + 1) N_md_weighs T_md_weighs_119 [.inr (.inr (some (m))), .inl ((k : Int)), .inl (((R ws p).take 0).foldl mk1 (R ws p).length), .inl (((ah ws p + 0 : Nat) : Int)), j4] [] (MH m g T) := by
      rw [← e1, ← e0]
      (try dsimp only); rw [B_md_weighs_98]; simp (disch := omega) only [Option.bind_some, if_true, if_false, eq_self, not_true_eq_false, not_false_eq_true, am_w_id, if_pos, if_neg, fu_self, fu_ne, Int.toNat_natCast, m_gR_15, m_l_15, m_s_15, m_gR_14, m_l_14, m_s_14, r2, r3]
    rw [start]
    have main := am_loop (S := Nat × am_V) (F := fun s => EV (d + 1) N_md_weighs T_md_weighs_119 [.inr (.inr (some (m))), .inl ((k : Int)), .inl (((R ws p).take s.1).foldl mk1 (R ws p).length), .inl (((ah ws p + s.1 : Nat) : Int)), s.2] [] (MH m g T)) (I := fun s => s.1 ≤ (sb ws p).length) (R := fun r => r = some (none, MH m g (am_fu T 19 (am_fu (T 19) k (mk (R ws p)))))) (fun s => (sb ws p).length - s.1) ?_ (0, j4) (Nat.zero_le _)
    · exact main
    · rintro ⟨j, x⟩ hj
      dsimp only at hj ⊢
      by_cases c : j = (sb ws p).length
      · left
        have e2 : ((R ws p).take j).foldl mk1 (R ws p).length = mk (R ws p) := by
          rw [List.take_of_length_le (by rw [R_len]; omega)]; rfl
        rw [e2]
        subst c
        (try dsimp only); rw [B_md_weighs_119]; simp (disch := omega) only [B_md_weighs_219, Option.bind_some, if_true, if_false, eq_self, not_true_eq_false, not_false_eq_true, am_w_id, if_pos, if_neg, fu_self, fu_ne, Int.toNat_natCast, m_gR_15, m_l_15, m_s_15, m_gR_19, m_l_19, m_s_19, r2]
      · right
        obtain ⟨q, q1, q2, q3, q4⟩ := word j (by omega)
        have hq10 := q3.2.2.1
        have a1 := fun d => md_numberOf (g := g) (m_row_2 (m := m)) (by decide) r1 q1 d
        have a2 := fun d => md_lengthOf (g := g) (m_row_2 (m := m)) (by decide) r1 q1 d
        have hpl := q4.length_le
        have hRj := R_get hs (p := p) q1 (show j < (sb ws p).length by omega)
        rw [hL] at hRj
        have e3 := tk_s hRj
        refine ⟨(j + 1, .inl (q.1.length : Int)), by dsimp only; omega, by dsimp only; omega, ?_⟩
        rw [e3, List.foldl_append, List.foldl_cons, List.foldl_nil]
        generalize ((R ws p).take j).foldl mk1 (R ws p).length = v
        have first : EV (d + 1) N_md_weighs T_md_weighs_119 [.inr (.inr (some (m))), .inl ((k : Int)), .inl (v), .inl (((ah ws p + j : Nat) : Int)), x] [] (MH m g T) = EV (d + 1) N_md_weighs T_md_weighs_162 [.inr (.inr (some (m))), .inl ((k : Int)), .inl (((q.1.drop p.length).take 0).foldl (fun x y => am_w (am_w (31 * x) + y)) (am_w (am_w (31 * v) + (q.2 - L)))), .inl (((ah ws p + j : Nat) : Int)), .inl (((p.length + 0 : Nat) : Int))] [] (MH m g T) := by
          have e4 : am_w (am_w (am_w (31 * v) + q.2) - L) = am_w (am_w (31 * v) + (q.2 - L)) := by rw [w_sub]; congr 1; omega
          have e5 : (p.length : Int) = ((p.length + 0 : Nat) : Int) := by omega
          rw [List.take_zero, List.foldl_nil, ← e5, ← e4]
          rw [B_md_weighs_119]
          simp only [m_gR_15]
          simp (disch := omega) only [Option.bind_some, if_true, if_false, eq_self, not_true_eq_false, not_false_eq_true, am_w_id, if_pos, if_neg, fu_self, fu_ne, Int.toNat_natCast, m_l_15, r2]
          rw [B_md_weighs_129]
          simp only [m_gR_2, m_gI_23, Option.bind_some, r5, a1, m_gR_18, m_gR_16]
          rw [m_l_18 (by omega) (by omega), Option.bind_some, m_l_16 (by omega) (by omega), Option.bind_some, Int.toNat_natCast, hT3, r4]
        rw [first]
        have loop := am_for (F := fun i => EV (d + 1) N_md_weighs T_md_weighs_162 [.inr (.inr (some (m))), .inl ((k : Int)), .inl (((q.1.drop p.length).take i).foldl (fun x y => am_w (am_w (31 * x) + y)) (am_w (am_w (31 * v) + (q.2 - L)))), .inl (((ah ws p + j : Nat) : Int)), .inl (((p.length + i : Nat) : Int))] [] (MH m g T)) (k := 0) (n := q.1.length - p.length) (Nat.zero_le _) (fun i _ hi => by
          have a3 := fun d => md_letterOf (g := g) (m_row_2 (m := m)) (by decide) r1 q1 (show p.length + i < 10 by omega) d
          have e6 : (q.1.drop p.length)[i]? = some (q.1.getD (p.length + i) 0) := by
            rw [List.getElem?_drop, gd_s (show p.length + i < q.1.length by omega), List.getElem?_eq_getElem]
          rw [tk_s e6, List.foldl_append, List.foldl_cons, List.foldl_nil, B_md_weighs_162]
          simp only [m_gR_2, m_gI_23, Option.bind_some, r5, a2]
          rw [if_neg (by omega), B_md_weighs_179]
          simp only [m_gR_2, m_gI_23, Option.bind_some, r5, a3]
          rw [am_w_id (x := ((p.length + i : Nat) : Int) + 1) (by omega) (by omega)]
          rfl)
        refine loop.trans ?_
        have e7 : ((q.1.drop p.length).take (q.1.length - p.length)) = q.1.drop p.length := List.take_of_length_le (by rw [List.length_drop]; omega)
        have e8 : ((p.length + (q.1.length - p.length) : Nat) : Int) = (q.1.length : Int) := by omega
        have e9 : am_w (((ah ws p + j : Nat) : Int) + 1) = ((ah ws p + (j + 1) : Nat) : Int) := by rw [am_w_id (by omega) (by omega)]; omega
        rw [e7, e8, B_md_weighs_162]
        simp only [m_gR_2, m_gI_23, Option.bind_some, r5, a2]
        rw [if_pos (Int.le_refl _), B_md_weighs_205, e9]
        rfl
  -- the first loop: the least
  have hz : sb ws p = [] ∨ sb ws p ≠ [] := by
    by_cases c : sb ws p = []
    · exact Or.inl c
    · exact Or.inr c
  have goal : ∀ (T : Nat → Nat → Int), fd [18, 19] S T → T 18 k = L → (∀ i, i ≠ k → T 18 i = S 18 i) → T 19 = S 19 → ∀ x2 j3 j4, EV (d + 1) N_md_weighs T_md_weighs_0 [.inr (.inr (some (m))), .inl ((k : Int)), am_nul, am_nul, am_nul] [] (MH m g S) = EV (d + 1) N_md_weighs T_md_weighs_98 [.inr (.inr (some (m))), .inl ((k : Int)), .inl (x2), j3, j4] [] (MH m g T) →
      ∃ S', am_cV (d + 1) N_md_weighs [.inr (.inr (some (m))), .inl ((k : Int))] (MH m g S) = some (MH m g S') ∧ S' 18 k = L ∧ S' 19 k = mk (R ws p) ∧ (∀ i, i ≠ k → S' 18 i = S 18 i ∧ S' 19 i = S 19 i) ∧ fd [18, 19] S S' := by
    intro T hF hT hT2 hT3 x2 j3 j4 he
    refine ⟨am_fu T 19 (am_fu (T 19) k (mk (R ws p))), am_cV_of ?_, ?_, ?_, fun i hi => ⟨?_, ?_⟩, hF.up (by decide) _⟩
    · rw [en_md_weighs, he]
      exact second T j3 j4 x2 (fun i hi => hF i (by simp; omega)) (hF 23 (by decide)) hT
    · rw [fu_ne (by decide)]; exact hT
    · rw [fu_self, fu_self]
    · rw [fu_ne (by decide)]; exact hT2 i hi
    · rw [fu_self, fu_ne hi, hT3]
  rcases hz with hz | hz
  · have hL0 : L = 0 := by rw [← hL]; unfold lst; rw [if_pos hz]
    have hz0 : (sb ws p).length = 0 := by rw [hz]; rfl
    have n2'' : S 15 k = (ah ws p : Int) := by rw [n2', hz0]; rfl
    refine goal (am_fu S 18 (am_fu (S 18) k 0)) (fd.rf.up (by decide) _) (by rw [fu_self, fu_self, hL0]) (fun i hi => by rw [fu_self, fu_ne hi]) (fu_ne (by decide)) (ah ws p) am_nul am_nul ?_
    (try dsimp only); rw [B_md_weighs_0]; simp (disch := omega) only [B_md_weighs_20, B_md_weighs_26, Option.bind_some, if_true, if_false, eq_self, not_true_eq_false, not_false_eq_true, am_w_id, if_pos, if_neg, fu_self, fu_ne, Int.toNat_natCast, m_gR_18, m_l_18, m_s_18, m_gR_15, m_l_15, m_s_15, m_gR_14, m_l_14, m_s_14, n1, n2'']
    (try dsimp only); rw [B_md_weighs_34]; simp (disch := omega) only [Option.bind_some, if_true, if_false, eq_self, not_true_eq_false, not_false_eq_true, am_w_id, if_pos, if_neg, fu_self, fu_ne, Int.toNat_natCast, m_gR_15, m_l_15, m_s_15, n2'']
  · have hz1 := List.length_pos_iff.mpr hz
    have hcast : ¬ ((ah ws p + (sb ws p).length : Nat) : Int) = (ah ws p : Int) := by omega
    have hLe : L = ((sb ws p).take (sb ws p).length).foldl (fun s q => am_min s q.2) 999999 := by
      rw [← hL, List.take_length]; unfold lst; rw [if_neg hz]
    refine goal (am_fu S 18 (am_fu (S 18) k (((sb ws p).take (sb ws p).length).foldl (fun s q => am_min s q.2) 999999))) (fd.rf.up (by decide) _) (by rw [fu_self, fu_self, hLe]) (fun i hi => by rw [fu_self, fu_ne hi]) (fu_ne (by decide)) ((ah ws p + (sb ws p).length : Nat) : Int) am_nul am_nul ?_
    have start : EV (d + 1) N_md_weighs T_md_weighs_0 [.inr (.inr (some (m))), .inl ((k : Int)), am_nul, am_nul, am_nul] [] (MH m g S) = EV (d + 1) N_md_weighs T_md_weighs_34 [.inr (.inr (some (m))), .inl ((k : Int)), .inl (((ah ws p + 0 : Nat) : Int)), am_nul, am_nul] [] (MH m g (am_fu S 18 (am_fu (S 18) k (((sb ws p).take 0).foldl (fun s q => am_min s q.2) 999999)))) := by
      rw [List.take_zero, List.foldl_nil, Nat.add_zero]
      (try dsimp only); rw [B_md_weighs_0]; simp (disch := omega) only [B_md_weighs_24, B_md_weighs_26, Option.bind_some, if_true, if_false, eq_self, not_true_eq_false, not_false_eq_true, am_w_id, if_pos, if_neg, fu_self, fu_ne, Int.toNat_natCast, m_gR_18, m_l_18, m_s_18, m_gR_15, m_l_15, m_s_15, m_gR_14, m_l_14, m_s_14, n1, n2', hcast]
      rfl
    rw [start]
    have loop := am_for (F := fun j => EV (d + 1) N_md_weighs T_md_weighs_34 [.inr (.inr (some (m))), .inl ((k : Int)), .inl (((ah ws p + j : Nat) : Int)), am_nul, am_nul] [] (MH m g (am_fu S 18 (am_fu (S 18) k (((sb ws p).take j).foldl (fun s q => am_min s q.2) 999999))))) (k := 0) (n := (sb ws p).length) (Nat.zero_le _) (fun j _ hj => by
      obtain ⟨q, q1, q2, q3, q4⟩ := word j hj
      rw [tk_s q2, List.foldl_append, List.foldl_cons, List.foldl_nil]
      generalize ((sb ws p).take j).foldl (fun s q => am_min s q.2) 999999 = v
      have HH : ml 2402 (am_fu S 18 (am_fu (S 18) k v) 2) o ws := by rw [fu_ne (by decide)]; exact H
      have a1 := fun d => md_numberOf (g := g) (m_row_2 (m := m)) (by decide) HH q1 d
      have e9 : am_w (((ah ws p + j : Nat) : Int) + 1) = ((ah ws p + (j + 1) : Nat) : Int) := by rw [am_w_id (by omega) (by omega)]; omega
      by_cases c : q.2 < v
      · have em : am_min v q.2 = q.2 := if_pos c
        rw [em]
        (try dsimp only); rw [B_md_weighs_34]; simp (disch := omega) only [B_md_weighs_44, B_md_weighs_70, B_md_weighs_91, Option.bind_some, if_true, if_false, eq_self, not_true_eq_false, not_false_eq_true, am_w_id, if_pos, if_neg, fu_self, fu_ne, Int.toNat_natCast, m_gR_15, m_l_15, m_s_15, m_gR_18, m_l_18, m_s_18, m_gR_2, m_l_2, m_s_2, m_gI_23, m_p_23, n2', hb, a1, e9, fu_fu]
      · have em : am_min v q.2 = v := if_neg c
        rw [em]
        (try dsimp only); rw [B_md_weighs_34]; simp (disch := omega) only [B_md_weighs_44, B_md_weighs_85, B_md_weighs_91, Option.bind_some, if_true, if_false, eq_self, not_true_eq_false, not_false_eq_true, am_w_id, if_pos, if_neg, fu_self, fu_ne, Int.toNat_natCast, m_gR_15, m_l_15, m_s_15, m_gR_18, m_l_18, m_s_18, m_gR_2, m_l_2, m_s_2, m_gI_23, m_p_23, n2', hb, a1, e9, fu_fu])
    refine loop.trans ?_
    (try dsimp only); rw [B_md_weighs_34]; simp (disch := omega) only [Option.bind_some, if_true, if_false, eq_self, not_true_eq_false, not_false_eq_true, am_w_id, if_pos, if_neg, fu_self, fu_ne, Int.toNat_natCast, m_gR_15, m_l_15, m_s_15, n2']
end MD
