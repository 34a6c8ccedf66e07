/-! the model: its whole state, acts kept and undone -/
theorem ml_cp {n n' o o' : Nat} {f f' : Nat → Int} {ws : List wd} (H : ml n f o ws) (h : ∀ i, i < 1 + 12 * ws.length → f' (o' + i) = f (o + i)) (hn : o' + 1 + 12 * ws.length ≤ n') : ml n' f' o' ws := by
  obtain ⟨h1, h2, h3⟩ := H
  refine ⟨?_, hn, fun w p hp => ?_⟩
  · have := h 0 (by omega); rw [Nat.add_zero, Nat.add_zero] at this; rw [this, h1]
  · have hw := (List.getElem?_eq_some_iff.mp hp).1
    refine wrow_mv (h3 w p hp) (fun i hi => ?_)
    rw [show o' + 1 + 12 * w + i = o' + (1 + 12 * w + i) by omega, h _ (by omega)]
    congr 1
    omega
/-- what the model's cells tell: the tape, the words, the builder's words, what was ahead of the last acts, the shelves -/
def MR (S : Nat → Nat → Int) (t : List Int) (ws bs : List wd) (hs : List (List wd × List wd)) (sh : Nat → Option (List wd)) : Prop :=
  taR S t ∧ ml 2402 (S 2) 0 ws ∧ ml 2402 (S 2) 1201 bs ∧ (S 4 0 = hs.length ∧ ∀ k p, hs[k]? = some p → ml 28824 (S 3) (2402 * k) p.1 ∧ ml 28824 (S 3) (2402 * k + 1201) p.2) ∧
  ∀ s, s < 3 → (S 6 s = if sh s = none then 0 else 1) ∧ ∀ v, sh s = some v → ml 3603 (S 5) (1201 * s) v
/-- what holds of each side's state -/
def okS (t : List Int) (ws bs : List wd) (hs : List (List wd × List wd)) (sh : Nat → Option (List wd)) : Prop :=
  (t.length ≤ 400 ∧ ∀ x ∈ t, 0 ≤ x ∧ x < 256) ∧ ok ws ∧ ok bs ∧ (hs.length ≤ 12 ∧ ∀ p ∈ hs, ok p.1 ∧ ok p.2) ∧ ∀ s v, sh s = some v → ok v
theorem MR.frd {S S' : Nat → Nat → Int} {t : List Int} {ws bs : List wd} {hs : List (List wd × List wd)} {sh : Nat → Option (List wd)} (H : MR S t ws bs hs sh) {l : List Nat} (F : fd l S S') (hl : l.all (fun k => decide (7 ≤ k)) = true) : MR S' t ws bs hs sh := by
  have e : ∀ k, k < 7 → S' k = S k := fun k hk => F k (fun h => by
    have := List.all_eq_true.mp hl k h
    simp at this
    omega)
  obtain ⟨⟨a1, a2, a3, a4⟩, b, c, ⟨d1, d2⟩, f⟩ := H
  refine ⟨⟨?_, a2, a3, ?_⟩, ?_, ?_, ⟨?_, ?_⟩, ?_⟩
  · rw [e 1 (by omega)]; exact a1
  · rw [e 0 (by omega)]; exact a4
  · rw [e 2 (by omega)]; exact b
  · rw [e 2 (by omega)]; exact c
  · rw [e 4 (by omega)]; exact d1
  · rw [e 3 (by omega)]; exact d2
  · rw [e 5 (by omega), e 6 (by omega)]; exact f
/-- the tape alone may have changed too -/
theorem MR.frt {S S' : Nat → Nat → Int} {t u : List Int} {ws bs : List wd} {hs : List (List wd × List wd)} {sh : Nat → Option (List wd)} (H : MR S t ws bs hs sh) {l : List Nat} (F : fd l S S') (hl : l.all (fun k => decide (7 ≤ k) || decide (k < 2)) = true) (T : taR S' u) : MR S' u ws bs hs sh := by
  have e : ∀ k, 2 ≤ k → k < 7 → S' k = S k := fun k hk1 hk => F k (fun h => by
    have := List.all_eq_true.mp hl k h
    simp at this
    omega)
  obtain ⟨-, b, c, ⟨d1, d2⟩, f⟩ := H
  refine ⟨T, ?_, ?_, ⟨?_, ?_⟩, ?_⟩
  · rw [e 2 (by omega) (by omega)]; exact b
  · rw [e 2 (by omega) (by omega)]; exact c
  · rw [e 4 (by omega) (by omega)]; exact d1
  · rw [e 3 (by omega) (by omega)]; exact d2
  · rw [e 5 (by omega) (by omega), e 6 (by omega) (by omega)]; exact f
/-- the acts behind one more -/
def hpush (hs : List (List wd × List wd)) (p : List wd × List wd) : List (List wd × List wd) := (if hs.length = 12 then hs.tail else hs) ++ [p]
theorem hpush_get {hs : List (List wd × List wd)} {p : List wd × List wd} {k : Nat} {x : List wd × List wd} (hl : hs.length ≤ 12) (h : (hpush hs p)[k]? = some x) :
    (hs.length = 12 ∧ k < 11 ∧ hs[k + 1]? = some x) ∨ (hs.length < 12 ∧ hs[k]? = some x) ∨ (x = p ∧ k = if hs.length = 12 then 11 else hs.length) := by
  unfold hpush at h
  by_cases c : hs.length = 12
  · rw [if_pos c] at h ⊢
    rw [List.getElem?_append, List.length_tail] at h
    by_cases c2 : k < hs.length - 1
    · rw [if_pos c2, List.getElem?_tail] at h
      exact Or.inl ⟨c, by omega, h⟩
    · rw [if_neg c2] at h
      have h2 := (List.getElem?_eq_some_iff.mp h).1
      rw [List.length_singleton] at h2
      have e : k - (hs.length - 1) = 0 := by omega
      rw [e] at h
      simp at h
      exact Or.inr (Or.inr ⟨h.symm, by omega⟩)
  · rw [if_neg c] at h ⊢
    rw [List.getElem?_append] at h
    by_cases c2 : k < hs.length
    · rw [if_pos c2] at h
      exact Or.inr (Or.inl ⟨by omega, h⟩)
    · rw [if_neg c2] at h
      have h2 := (List.getElem?_eq_some_iff.mp h).1
      rw [List.length_singleton] at h2
      have e : k - hs.length = 0 := by omega
      rw [e] at h
      simp at h
      exact Or.inr (Or.inr ⟨h.symm, by omega⟩)
theorem hpush_len {hs : List (List wd × List wd)} {p : List wd × List wd} (hl : hs.length ≤ 12) : (hpush hs p).length = if hs.length = 12 then 12 else hs.length + 1 := by
  unfold hpush
  rw [List.length_append, List.length_singleton]
  by_cases c : hs.length = 12
  · rw [if_pos c, if_pos c, List.length_tail]; omega
  · rw [if_neg c, if_neg c]
theorem hpush_ok {hs : List (List wd × List wd)} {p : List wd × List wd} (hl : hs.length ≤ 12) (h : ∀ x ∈ hs, ok x.1 ∧ ok x.2) (hp : ok p.1 ∧ ok p.2) : (hpush hs p).length ≤ 12 ∧ ∀ x ∈ hpush hs p, ok x.1 ∧ ok x.2 := by
  refine ⟨?_, fun x hx => ?_⟩
  · rw [hpush_len hl]; split <;> omega
  · unfold hpush at hx
    rcases List.mem_append.mp hx with g | g
    · split at g
      · exact h x (List.mem_of_mem_tail g)
      · exact h x g
    · rw [List.mem_singleton.mp g]; exact hp
section MD
variable {m : Nat} {g : am_H} {S : Nat → Nat → Int} {t : List Int} {ws bs ws' bs' : List wd} {hs : List (List wd × List wd)} {sh : Nat → Option (List wd)}
theorem md_keepsAct (H : MR S t ws bs hs sh) (O : okS t ws bs hs sh) (d : Nat) : ∃ S', am_cV d N_md_keepsAct [.inr (.inr (some (m)))] (MH m g S) = some (MH m g S') ∧ MR S' t ws bs (hpush hs (ws, bs)) sh ∧ fd [3, 4] S S' := by
  have h4 := H.2.2.2.1.1
  have hl := O.2.2.2.1.1
  have hw := O.2.1.2.2
  have hb := O.2.2.1.2.2
  -- the copy behind the first loop
  have fin : ∀ (S2 : Nat → Nat → Int) (c : Nat) (j : am_V), c < 12 → S2 2 = S 2 → S2 4 0 = c → EV d N_md_keepsAct T_md_keepsAct_52 [.inr (.inr (some (m))), j] [] (MH m g S2) = some (none, MH m g (am_fu (am_fu S2 3 (sgf (S2 3) (S 2) (2402 * c) 2402)) 4 (fun _ => (c : Int) + 1))) := by
    intro S2 c j hc hS2 hS4
    have loop := am_for (F := fun k => EV d N_md_keepsAct T_md_keepsAct_54 [.inr (.inr (some (m))), .inl ((k : Int))] [] (MH m g (am_fu S2 3 (sgf (S2 3) (S 2) (2402 * c) k)))) (k := 0) (n := 2402) (Nat.zero_le _) (fun k _ hk => by
      have e1 : (2402 * (c : Int) + (k : Int)).toNat = 2402 * c + k := by omega
      (try dsimp only); rw [B_md_keepsAct_54]; simp (disch := omega) only [B_md_keepsAct_61, Option.bind_some, if_true, if_false, eq_self, not_true_eq_false, not_false_eq_true, am_w_id, if_pos, if_neg, fu_self, fu_ne, Int.toNat_natCast, m_gR_3, m_l_3, m_s_3, m_gI_4, m_p_4, m_gR_2, m_l_2, m_s_2, hS2, hS4, e1, sgf_s, fu_fu]
      rfl)
    rw [sgf0, fu_eta] at loop
    rw [B_md_keepsAct_52]
    refine loop.trans ?_
    simp (disch := omega) only [B_md_keepsAct_54, B_md_keepsAct_88, Option.bind_some, if_true, if_false, eq_self, not_true_eq_false, not_false_eq_true, am_w_id, if_pos, if_neg, fu_self, fu_ne, Int.toNat_natCast, m_gI_4, m_p_4, hS4]
  by_cases c : hs.length = 12
  · have h4' : S 4 0 = 12 := by rw [h4, c]; rfl
    have loop := am_for (F := fun k => EV d N_md_keepsAct T_md_keepsAct_13 [.inr (.inr (some (m))), .inl (((2402 + k : Nat) : Int))] [] (MH m g (am_fu S 3 (prf (S 3) (fun i => S 3 (i + 2402)) k)))) (k := 0) (n := 26422) (Nat.zero_le _) (fun k _ hk => by
      have e1 : (((2402 + k : Nat) : Int) - 2402).toNat = k := by omega
      have e2 : prf (S 3) (fun i => S 3 (i + 2402)) k (2402 + k) = S 3 (k + 2402) := by rw [prf_ge (by omega)]; congr 1; omega
      have e3 : am_fu (prf (S 3) (fun i => S 3 (i + 2402)) k) k (S 3 (k + 2402)) = prf (S 3) (fun i => S 3 (i + 2402)) (k + 1) := prf_s rfl
      (try dsimp only); rw [B_md_keepsAct_13]; simp (disch := omega) only [B_md_keepsAct_20, Option.bind_some, if_true, if_false, eq_self, not_true_eq_false, not_false_eq_true, am_w_id, if_pos, if_neg, fu_self, fu_ne, Int.toNat_natCast, m_gR_3, m_l_3, m_s_3, e1, e2, e3, fu_fu]
      rfl)
    rw [prf0, fu_eta] at loop
    have hf := fin (am_fu (am_fu S 3 (prf (S 3) (fun i => S 3 (i + 2402)) 26422)) 4 (fun _ => 11)) 11 (.inl ((28824 : Nat) : Int)) (by omega) (by rw [fu_ne (by decide), fu_ne (by decide)]) (by rw [fu_self]; rfl)
    have e3 : am_fu (am_fu S 3 (prf (S 3) (fun i => S 3 (i + 2402)) 26422)) 4 (fun _ => 11) 3 = prf (S 3) (fun i => S 3 (i + 2402)) 26422 := by rw [fu_ne (by decide), fu_self]
    rw [e3] at hf
    refine ⟨?_, am_cV_of ?_, ?_, ?_⟩
    rotate_left
    · simp (disch := omega) only [en_md_keepsAct, B_md_keepsAct_0, B_md_keepsAct_9, Option.bind_some, if_true, if_false, eq_self, not_true_eq_false, not_false_eq_true, am_w_id, if_pos, if_neg, fu_self, fu_ne, Int.toNat_natCast, m_gI_4, m_p_4, h4']
      refine loop.trans ?_
      simp (disch := omega) only [B_md_keepsAct_13, B_md_keepsAct_42, Option.bind_some, if_true, if_false, eq_self, not_true_eq_false, not_false_eq_true, am_w_id, if_pos, if_neg, fu_self, fu_ne, Int.toNat_natCast, m_gI_4, m_p_4, h4']
      exact hf
    · refine ⟨H.1, H.2.1, H.2.2.1, ⟨?_, fun k p hp => ?_⟩, H.2.2.2.2⟩
      · rw [fu_self, hpush_len hl, if_pos c]; rfl
      · rw [fu_ne (by decide), fu_self]
        rcases hpush_get hl hp with ⟨g1, g2, g3⟩ | ⟨g1, g2⟩ | ⟨g1, g2⟩
        · obtain ⟨r1, r2⟩ := H.2.2.2.1.2 _ _ g3
          have o1 := O.2.2.2.1.2 _ (List.mem_of_getElem? g3)
          have l1 := o1.1.2.2
          have l2 := o1.2.2.2
          refine ⟨ml_cp r1 (fun i hi => ?_) (by omega), ml_cp r2 (fun i hi => ?_) (by omega)⟩
          · rw [sgf_out (by omega), prf_lt (by omega)]; congr 1; omega
          · rw [sgf_out (by omega), prf_lt (by omega)]; congr 1; omega
        · omega
        · rw [if_pos c] at g2
          subst g1 g2
          refine ⟨ml_cp H.2.1 (fun i hi => ?_) (by dsimp only; omega), ml_cp H.2.2.1 (fun i hi => ?_) (by dsimp only; omega)⟩
          · dsimp only at hi; rw [sgf_in (by omega), Nat.zero_add]
          · dsimp only at hi; rw [Nat.add_assoc, sgf_in (by omega)]
    · exact (((fd.rf.up (by decide) _).up (by decide) _).up (by decide) _).up (by decide) _
  · have hf := fin S hs.length am_nul (by omega) rfl h4
    refine ⟨?_, am_cV_of ?_, ?_, ?_⟩
    rotate_left
    · simp (disch := omega) only [en_md_keepsAct, B_md_keepsAct_0, Option.bind_some, if_true, if_false, eq_self, not_true_eq_false, not_false_eq_true, am_w_id, if_pos, if_neg, fu_self, fu_ne, Int.toNat_natCast, m_gI_4, m_p_4, h4]
      exact hf
    · refine ⟨H.1, H.2.1, H.2.2.1, ⟨?_, fun k p hp => ?_⟩, H.2.2.2.2⟩
      · rw [fu_self, hpush_len hl, if_neg c]; omega
      · rw [fu_ne (by decide), fu_self]
        rcases hpush_get hl hp with ⟨g1, g2, g3⟩ | ⟨g1, g2⟩ | ⟨g1, g2⟩
        · omega
        · obtain ⟨r1, r2⟩ := H.2.2.2.1.2 _ _ g2
          have o1 := O.2.2.2.1.2 _ (List.mem_of_getElem? g2)
          have l1 := o1.1.2.2
          have l2 := o1.2.2.2
          have hk := (List.getElem?_eq_some_iff.mp g2).1
          refine ⟨ml_cp r1 (fun i hi => ?_) (by omega), ml_cp r2 (fun i hi => ?_) (by omega)⟩
          · rw [sgf_out (by omega)]
          · rw [sgf_out (by omega)]
        · rw [if_neg c] at g2
          subst g1 g2
          refine ⟨ml_cp H.2.1 (fun i hi => ?_) (by dsimp only; omega), ml_cp H.2.2.1 (fun i hi => ?_) (by dsimp only; omega)⟩
          · dsimp only at hi; rw [sgf_in (by omega), Nat.zero_add]
          · dsimp only at hi; rw [Nat.add_assoc, sgf_in (by omega)]
    · exact (fd.rf.up (by decide) _).up (by decide) _
theorem md_undo0 (h0 : S 4 0 = 0) (d : Nat) : am_cI d N_md_undo [.inr (.inr (some (m)))] (MH m g S) = some (-1, MH m g S) := by
  apply am_cI_of
  simp (disch := omega) only [en_md_undo, B_md_undo_0, B_md_undo_7, Option.bind_some, if_true, if_false, eq_self, not_true_eq_false, not_false_eq_true, am_w_id, if_pos, if_neg, fu_self, fu_ne, Int.toNat_natCast, m_gI_4, m_p_4, h0]
theorem md_undo (H : MR S t ws bs (hs ++ [(ws', bs')]) sh) (O : okS t ws bs (hs ++ [(ws', bs')]) sh) (d : Nat) : ∃ S', am_cI d N_md_undo [.inr (.inr (some (m)))] (MH m g S) = some ((hs.length : Int), MH m g S') ∧ MR S' t ws' bs' hs sh := by
  have h4 := H.2.2.2.1.1
  have hl := O.2.2.2.1.1
  rw [List.length_append, List.length_singleton] at hl h4
  have hlast := H.2.2.2.1.2 hs.length (ws', bs') (by rw [List.getElem?_append_right (Nat.le_refl _), Nat.sub_self]; rfl)
  have o1 := O.2.2.2.1.2 (ws', bs') (by simp)
  have l1 := o1.1.2.2
  have l2 := o1.2.2.2
  dsimp only at hlast o1 l1 l2
  have loop := am_for (F := fun k => EV d N_md_undo T_md_undo_21 [.inr (.inr (some (m))), .inl ((k : Int))] [] (MH m g (am_fu (am_fu S 4 (fun _ => (hs.length : Int))) 2 (sgf (S 2) (fun i => S 3 (2402 * hs.length + i)) 0 k)))) (k := 0) (n := 2402) (Nat.zero_le _) (fun k _ hk => by
    have e1 : (2402 * (hs.length : Int) + (k : Int)).toNat = 2402 * hs.length + k := by omega
    have e2 : am_fu (sgf (S 2) (fun i => S 3 (2402 * hs.length + i)) 0 k) k (S 3 (2402 * hs.length + k)) = sgf (S 2) (fun i => S 3 (2402 * hs.length + i)) 0 (k + 1) := by
      have := sgf_s (f := S 2) (v := fun i => S 3 (2402 * hs.length + i)) (a := 0) (k := k) rfl
      rw [Nat.zero_add] at this
      exact this
    (try dsimp only); rw [B_md_undo_21]; simp (disch := omega) only [B_md_undo_28, Option.bind_some, if_true, if_false, eq_self, not_true_eq_false, not_false_eq_true, am_w_id, if_pos, if_neg, fu_self, fu_ne, Int.toNat_natCast, m_gR_2, m_l_2, m_s_2, m_gR_3, m_l_3, m_s_3, m_gI_4, m_p_4, e1, e2, fu_fu]
    rfl)
  have e0 : am_fu (am_fu S 4 (fun _ => (hs.length : Int))) 2 (sgf (S 2) (fun i => S 3 (2402 * hs.length + i)) 0 0) = am_fu S 4 (fun _ => (hs.length : Int)) := by
    rw [sgf0, fu_id]
    rw [fu_ne (by decide)]
  rw [e0] at loop
  have e4 : S 4 0 - 1 = (hs.length : Int) := by omega
  refine ⟨am_fu (am_fu S 4 (fun _ => (hs.length : Int))) 2 (sgf (S 2) (fun i => S 3 (2402 * hs.length + i)) 0 2402), am_cI_of ?_, ⟨H.1, ?_, ?_, ⟨?_, fun k p hp => ?_⟩, H.2.2.2.2⟩⟩
  · simp (disch := omega) only [en_md_undo, B_md_undo_0, B_md_undo_9, Option.bind_some, if_true, if_false, eq_self, not_true_eq_false, not_false_eq_true, am_w_id, if_pos, if_neg, fu_self, fu_ne, Int.toNat_natCast, m_gI_4, m_p_4, e4, show ¬ S 4 0 = 0 by omega]
    refine loop.trans ?_
    simp (disch := omega) only [B_md_undo_21, B_md_undo_55, Option.bind_some, if_true, if_false, eq_self, not_true_eq_false, not_false_eq_true, am_w_id, if_pos, if_neg, fu_self, fu_ne, Int.toNat_natCast, m_gI_4, m_p_4]
  · rw [fu_self]
    refine ml_cp hlast.1 (fun i hi => ?_) (by omega)
    rw [sgf_in (by omega)]
  · rw [fu_self]
    refine ml_cp hlast.2 (fun i hi => ?_) (by omega)
    have := sgf_in (f := S 2) (v := fun i => S 3 (2402 * hs.length + i)) (a := 0) (k := 2402) (i := 1201 + i) (by omega)
    rw [Nat.zero_add] at this
    rw [this, Nat.add_assoc]
  · rw [fu_ne (by decide), fu_self]
  · rw [fu_ne (by decide), fu_ne (by decide)]
    have hk := (List.getElem?_eq_some_iff.mp hp).1
    exact H.2.2.2.1.2 k p (by rw [List.getElem?_append_left hk]; exact hp)
end MD
