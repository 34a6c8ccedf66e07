/-! the model's calls: states, arcs, counts -/
section MO
variable {m : Nat} {g : am_H} {S : Nat → Nat → Int} {t u : List Int} {ws bs ws' bs' : List wd} {hs : List (List wd × List wd)} {sh : Nat → Option (List wd)}
theorem mo_isState (H : MR S t ws bs hs sh) (O : okS t ws bs hs sh) (x : Int) (d : Nat) : ∃ S', am_cI (d + 5) N_md_isState [.inr (.inr (some (m))), .inl (x)] (MH m g S) = some (if 0 ≤ x ∧ x < nS ws then 1 else 0, MH m g S') ∧ MR S' t ws bs hs sh ∧ stR S' ws := by
  obtain ⟨T, e, t1, t2⟩ := md_laysStates (m := m) (g := g) O.2.1 H.2.1 d
  have h21 := t1.2.1
  have hS : ((rl (eR ws) tt (nN ws)).length : Int) = (nS ws : Int) := rfl
  rw [hS] at h21
  refine ⟨T, am_cI_of ?_, H.frd t2 (by decide), t1⟩
  by_cases c1 : x < 0
  · rw [if_neg (by omega)]
    (try dsimp only); rw [en_md_isState]; (try simp (disch := omega) only [Option.bind_some, if_true, if_false, eq_self, not_true_eq_false, not_false_eq_true, am_w_id, if_pos, if_neg, fu_self, fu_ne, Int.toNat_natCast, e]); rw [B_md_isState_0]; (try simp (disch := omega) only [Option.bind_some, if_true, if_false, eq_self, not_true_eq_false, not_false_eq_true, am_w_id, if_pos, if_neg, fu_self, fu_ne, Int.toNat_natCast, m_O, e]); rw [B_md_isState_20]; (try simp (disch := omega) only [Option.bind_some, if_true, if_false, eq_self, not_true_eq_false, not_false_eq_true, am_w_id, if_pos, if_neg, fu_self, fu_ne, Int.toNat_natCast, e]); rw [B_md_isState_21]; (try simp (disch := omega) only [Option.bind_some, if_true, if_false, eq_self, not_true_eq_false, not_false_eq_true, am_w_id, if_pos, if_neg, fu_self, fu_ne, Int.toNat_natCast, e])
  · by_cases c2 : x < nS ws
    · rw [if_pos ⟨by omega, c2⟩]
      (try dsimp only); rw [en_md_isState]; (try simp (disch := omega) only [Option.bind_some, if_true, if_false, eq_self, not_true_eq_false, not_false_eq_true, am_w_id, if_pos, if_neg, fu_self, fu_ne, Int.toNat_natCast, e, h21]); rw [B_md_isState_0]; (try simp (disch := omega) only [Option.bind_some, if_true, if_false, eq_self, not_true_eq_false, not_false_eq_true, am_w_id, if_pos, if_neg, fu_self, fu_ne, Int.toNat_natCast, m_O, e, h21]); rw [B_md_isState_8]; (try simp (disch := omega) only [Option.bind_some, if_true, if_false, eq_self, not_true_eq_false, not_false_eq_true, am_w_id, if_pos, if_neg, fu_self, fu_ne, Int.toNat_natCast, m_gI_21, m_p_21, e, h21]); rw [B_md_isState_16]; (try simp (disch := omega) only [Option.bind_some, if_true, if_false, eq_self, not_true_eq_false, not_false_eq_true, am_w_id, if_pos, if_neg, fu_self, fu_ne, Int.toNat_natCast, e, h21]); rw [B_md_isState_21]; (try simp (disch := omega) only [Option.bind_some, if_true, if_false, eq_self, not_true_eq_false, not_false_eq_true, am_w_id, if_pos, if_neg, fu_self, fu_ne, Int.toNat_natCast, e, h21])
    · rw [if_neg (by omega)]
      (try dsimp only); rw [en_md_isState]; (try simp (disch := omega) only [Option.bind_some, if_true, if_false, eq_self, not_true_eq_false, not_false_eq_true, am_w_id, if_pos, if_neg, fu_self, fu_ne, Int.toNat_natCast, e, h21]); rw [B_md_isState_0]; (try simp (disch := omega) only [Option.bind_some, if_true, if_false, eq_self, not_true_eq_false, not_false_eq_true, am_w_id, if_pos, if_neg, fu_self, fu_ne, Int.toNat_natCast, m_O, e, h21]); rw [B_md_isState_8]; (try simp (disch := omega) only [Option.bind_some, if_true, if_false, eq_self, not_true_eq_false, not_false_eq_true, am_w_id, if_pos, if_neg, fu_self, fu_ne, Int.toNat_natCast, m_gI_21, m_p_21, e, h21]); rw [B_md_isState_20]; (try simp (disch := omega) only [Option.bind_some, if_true, if_false, eq_self, not_true_eq_false, not_false_eq_true, am_w_id, if_pos, if_neg, fu_self, fu_ne, Int.toNat_natCast, e, h21]); rw [B_md_isState_21]; (try simp (disch := omega) only [Option.bind_some, if_true, if_false, eq_self, not_true_eq_false, not_false_eq_true, am_w_id, if_pos, if_neg, fu_self, fu_ne, Int.toNat_natCast, e, h21])
theorem md_childrenOf (hok : ok ws) (N : stR S ws) {k : Nat} (hk : k < nN ws) (d : Nat) : am_cI d N_md_childrenOf [.inr (.inr (some (m))), .inl ((k : Int))] (MH m g S) = some (((kd ws k).length : Int), MH m g S) := by
  have hN' : nN ws ≤ 1001 := ND_len hok
  obtain ⟨n1, n2, n3, n4⟩ := N.1
  have e0 : fi (fun b c => if pr ws c = k then b + 1 else b) (k + 1) (nN ws - (k + 1)) 0 = ((kd ws k).length : Int) := by
    rw [fi_cnt, kd_rg hok.2.1 hk, Int.zero_add]
  apply am_cI_of
  rw [en_md_childrenOf, B_md_childrenOf_0, am_w_id (by omega) (by omega)]
  refine am_loop (S := Nat × Int) (F := fun s => EV d N_md_childrenOf T_md_childrenOf_6 [.inr (.inr (some (m))), .inl ((k : Int)), .inl (s.2), .inl ((s.1 : Int))] [] (MH m g S)) (I := fun s => k < s.1 ∧ s.1 ≤ nN ws ∧ 0 ≤ s.2 ∧ s.2 ≤ s.1 ∧ fi (fun b c => if pr ws c = k then b + 1 else b) s.1 (nN ws - s.1) s.2 = ((kd ws k).length : Int))
    (R := fun o => o = some (some (.inl ((kd ws k).length : Int)), MH m g S)) (fun s => nN ws - s.1) ?_ (k + 1, 0) ⟨by dsimp only; omega, by dsimp only; omega, Int.le_refl _, by dsimp only; omega, e0⟩
  rintro ⟨c, b⟩ ⟨p0, p1, p2, p3, p4⟩
  dsimp only at p0 p1 p2 p3 p4 ⊢
  by_cases c1 : c = nN ws
  · left
    rw [fi_end (by omega)] at p4
    subst c1
    (try dsimp only); rw [B_md_childrenOf_6]; (try simp (disch := omega) only [Option.bind_some, if_true, if_false, eq_self, not_true_eq_false, not_false_eq_true, am_w_id, if_pos, if_neg, fu_self, fu_ne, Int.toNat_natCast, m_gI_13, m_p_13, n1]); rw [B_md_childrenOf_38]; (try simp (disch := omega) only [Option.bind_some, if_true, if_false, eq_self, not_true_eq_false, not_false_eq_true, am_w_id, if_pos, if_neg, fu_self, fu_ne, Int.toNat_natCast, n1])
    rw [p4]
  · right
    have hc := (n3 c (by omega)).2.2.2
    rw [if_neg (by omega)] at hc
    rw [fi_step (by omega)] at p4
    have e9 : (c : Int) + 1 = ((c + 1 : Nat) : Int) := by omega
    by_cases c2 : pr ws c = k
    · rw [if_pos c2] at p4
      refine ⟨(c + 1, b + 1), ⟨by dsimp only; omega, by dsimp only; omega, by dsimp only; omega, by dsimp only; omega, p4⟩, by dsimp only; omega, ?_⟩
      have c2' : (pr ws c : Int) = (k : Int) := by omega
      (try dsimp only); rw [B_md_childrenOf_6]; (try simp (disch := omega) only [Option.bind_some, if_true, if_false, eq_self, not_true_eq_false, not_false_eq_true, am_w_id, if_pos, if_neg, fu_self, fu_ne, Int.toNat_natCast, m_gI_13, m_p_13, n1, hc, c2', e9]); rw [B_md_childrenOf_14]; (try simp (disch := omega) only [Option.bind_some, if_true, if_false, eq_self, not_true_eq_false, not_false_eq_true, am_w_id, if_pos, if_neg, fu_self, fu_ne, Int.toNat_natCast, m_gR_17, m_l_17, m_s_17, n1, hc, c2', e9]); rw [B_md_childrenOf_25]; (try simp (disch := omega) only [Option.bind_some, if_true, if_false, eq_self, not_true_eq_false, not_false_eq_true, am_w_id, if_pos, if_neg, fu_self, fu_ne, Int.toNat_natCast, n1, hc, c2', e9]); rw [B_md_childrenOf_30]; (try simp (disch := omega) only [Option.bind_some, if_true, if_false, eq_self, not_true_eq_false, not_false_eq_true, am_w_id, if_pos, if_neg, fu_self, fu_ne, Int.toNat_natCast, n1, hc, c2', e9])
    · rw [if_neg c2] at p4
      refine ⟨(c + 1, b), ⟨by dsimp only; omega, by dsimp only; omega, p2, by dsimp only; omega, p4⟩, by dsimp only; omega, ?_⟩
      have c2' : ¬ (pr ws c : Int) = (k : Int) := by omega
      (try dsimp only); rw [B_md_childrenOf_6]; (try simp (disch := omega) only [Option.bind_some, if_true, if_false, eq_self, not_true_eq_false, not_false_eq_true, am_w_id, if_pos, if_neg, fu_self, fu_ne, Int.toNat_natCast, m_gI_13, m_p_13, n1, hc, c2', e9, Int.add_zero]); rw [B_md_childrenOf_14]; (try simp (disch := omega) only [Option.bind_some, if_true, if_false, eq_self, not_true_eq_false, not_false_eq_true, am_w_id, if_pos, if_neg, fu_self, fu_ne, Int.toNat_natCast, m_gR_17, m_l_17, m_s_17, n1, hc, c2', e9, Int.add_zero]); rw [B_md_childrenOf_29]; (try simp (disch := omega) only [Option.bind_some, if_true, if_false, eq_self, not_true_eq_false, not_false_eq_true, am_w_id, if_pos, if_neg, fu_self, fu_ne, Int.toNat_natCast, n1, hc, c2', e9, Int.add_zero]); rw [B_md_childrenOf_30]; (try simp (disch := omega) only [Option.bind_some, if_true, if_false, eq_self, not_true_eq_false, not_false_eq_true, am_w_id, if_pos, if_neg, fu_self, fu_ne, Int.toNat_natCast, n1, hc, c2', e9, Int.add_zero])
theorem md_childOf (hok : ok ws) (N : stR S ws) {k : Nat} (hk : k < nN ws) {x : Int} (hx : 0 ≤ x) (hx2 : x < 2147483648) (d : Nat) : am_cI d N_md_childOf [.inr (.inr (some (m))), .inl ((k : Int)), .inl (x)] (MH m g S) = some (oc (kd ws k)[x.toNat]?, MH m g S) := by
  have hN' : nN ws ≤ 1001 := ND_len hok
  obtain ⟨n1, n2, n3, n4⟩ := N.1
  obtain ⟨y, rfl⟩ := Int.eq_ofNat_of_zero_le hx
  have e0 := nth_get (P := fun c => decide (pr ws c = k)) (nN ws - (k + 1)) (k + 1) y
  rw [kd_rg hok.2.1 hk] at e0
  rw [Int.toNat_natCast, ← e0]
  generalize hres : nth (fun c => decide (pr ws c = k)) (k + 1) (nN ws - (k + 1)) (y : Int) = res
  apply am_cI_of
  rw [en_md_childOf, B_md_childOf_0, am_w_id (by omega) (by omega)]
  refine am_loop (S := Nat × Int) (F := fun s => EV d N_md_childOf T_md_childOf_7 [.inr (.inr (some (m))), .inl ((k : Int)), .inl ((y : Int)), .inl (s.2), .inl ((s.1 : Int))] [] (MH m g S)) (I := fun s => k < s.1 ∧ s.1 ≤ nN ws ∧ 0 ≤ s.2 ∧ s.2 ≤ y ∧ nth (fun c => decide (pr ws c = k)) s.1 (nN ws - s.1) s.2 = res)
    (R := fun o => o = some (some (.inl res), MH m g S)) (fun s => nN ws - s.1) ?_ (k + 1, (y : Int)) ⟨by dsimp only; omega, by dsimp only; omega, by dsimp only; omega, by dsimp only; omega, hres⟩
  rintro ⟨c, b⟩ ⟨p0, p1, p2, p3, p4⟩
  dsimp only at p0 p1 p2 p3 p4 ⊢
  by_cases c1 : c = nN ws
  · left
    subst c1
    rw [Nat.sub_self, nth] at p4
    (try dsimp only); rw [B_md_childOf_7]; (try simp (disch := omega) only [Option.bind_some, if_true, if_false, eq_self, not_true_eq_false, not_false_eq_true, am_w_id, if_pos, if_neg, fu_self, fu_ne, Int.toNat_natCast, m_gI_13, m_p_13, n1]); rw [B_md_childOf_46]; (try simp (disch := omega) only [Option.bind_some, if_true, if_false, eq_self, not_true_eq_false, not_false_eq_true, am_w_id, if_pos, if_neg, fu_self, fu_ne, Int.toNat_natCast, n1])
    rw [p4]
  · have hc := (n3 c (by omega)).2.2.2
    rw [if_neg (by omega)] at hc
    rw [show nN ws - c = (nN ws - (c + 1)) + 1 by omega, nth] at p4
    have e9 : (c : Int) + 1 = ((c + 1 : Nat) : Int) := by omega
    have e8 : b + (-1) = b - 1 := by omega
    by_cases c2 : pr ws c = k
    · rw [if_pos (decide_eq_true c2)] at p4
      have c2' : (pr ws c : Int) = (k : Int) := by omega
      by_cases c3 : b = 0
      · left
        rw [if_pos c3] at p4
        (try dsimp only); rw [B_md_childOf_7]; (try simp (disch := omega) only [Option.bind_some, if_true, if_false, eq_self, not_true_eq_false, not_false_eq_true, am_w_id, if_pos, if_neg, fu_self, fu_ne, Int.toNat_natCast, m_gI_13, m_p_13, n1, hc, c2', c3]); rw [B_md_childOf_16]; (try simp (disch := omega) only [Option.bind_some, if_true, if_false, eq_self, not_true_eq_false, not_false_eq_true, am_w_id, if_pos, if_neg, fu_self, fu_ne, Int.toNat_natCast, m_gR_17, m_l_17, m_s_17, n1, hc, c2', c3]); rw [B_md_childOf_30]; (try simp (disch := omega) only [Option.bind_some, if_true, if_false, eq_self, not_true_eq_false, not_false_eq_true, am_w_id, if_pos, if_neg, fu_self, fu_ne, Int.toNat_natCast, n1, hc, c2', c3]); rw [B_md_childOf_34]; (try simp (disch := omega) only [Option.bind_some, if_true, if_false, eq_self, not_true_eq_false, not_false_eq_true, am_w_id, if_pos, if_neg, fu_self, fu_ne, Int.toNat_natCast, n1, hc, c2', c3])
        rw [p4]
      · right
        rw [if_neg c3] at p4
        refine ⟨(c + 1, b - 1), ⟨by dsimp only; omega, by dsimp only; omega, by dsimp only; omega, by dsimp only; omega, p4⟩, by dsimp only; omega, ?_⟩
        (try dsimp only); rw [B_md_childOf_7]; (try simp (disch := omega) only [Option.bind_some, if_true, if_false, eq_self, not_true_eq_false, not_false_eq_true, am_w_id, if_pos, if_neg, fu_self, fu_ne, Int.toNat_natCast, m_gI_13, m_p_13, n1, hc, c2', c3, e9, e8]); rw [B_md_childOf_16]; (try simp (disch := omega) only [Option.bind_some, if_true, if_false, eq_self, not_true_eq_false, not_false_eq_true, am_w_id, if_pos, if_neg, fu_self, fu_ne, Int.toNat_natCast, m_gR_17, m_l_17, m_s_17, n1, hc, c2', c3, e9, e8]); rw [B_md_childOf_30]; (try simp (disch := omega) only [Option.bind_some, if_true, if_false, eq_self, not_true_eq_false, not_false_eq_true, am_w_id, if_pos, if_neg, fu_self, fu_ne, Int.toNat_natCast, n1, hc, c2', c3, e9, e8]); rw [B_md_childOf_37]; (try simp (disch := omega) only [Option.bind_some, if_true, if_false, eq_self, not_true_eq_false, not_false_eq_true, am_w_id, if_pos, if_neg, fu_self, fu_ne, Int.toNat_natCast, n1, hc, c2', c3, e9, e8]); rw [B_md_childOf_40]; (try simp (disch := omega) only [Option.bind_some, if_true, if_false, eq_self, not_true_eq_false, not_false_eq_true, am_w_id, if_pos, if_neg, fu_self, fu_ne, Int.toNat_natCast, n1, hc, c2', c3, e9, e8])
    · right
      rw [if_neg (fun h => c2 (of_decide_eq_true h))] at p4
      refine ⟨(c + 1, b), ⟨by dsimp only; omega, by dsimp only; omega, p2, p3, p4⟩, by dsimp only; omega, ?_⟩
      have c2' : ¬ (pr ws c : Int) = (k : Int) := by omega
      (try dsimp only); rw [B_md_childOf_7]; (try simp (disch := omega) only [Option.bind_some, if_true, if_false, eq_self, not_true_eq_false, not_false_eq_true, am_w_id, if_pos, if_neg, fu_self, fu_ne, Int.toNat_natCast, m_gI_13, m_p_13, n1, hc, c2', e9]); rw [B_md_childOf_16]; (try simp (disch := omega) only [Option.bind_some, if_true, if_false, eq_self, not_true_eq_false, not_false_eq_true, am_w_id, if_pos, if_neg, fu_self, fu_ne, Int.toNat_natCast, m_gR_17, m_l_17, m_s_17, n1, hc, c2', e9]); rw [B_md_childOf_27]; (try simp (disch := omega) only [Option.bind_some, if_true, if_false, eq_self, not_true_eq_false, not_false_eq_true, am_w_id, if_pos, if_neg, fu_self, fu_ne, Int.toNat_natCast, n1, hc, c2', e9]); rw [B_md_childOf_40]; (try simp (disch := omega) only [Option.bind_some, if_true, if_false, eq_self, not_true_eq_false, not_false_eq_true, am_w_id, if_pos, if_neg, fu_self, fu_ne, Int.toNat_natCast, n1, hc, c2', e9])
theorem md_lastLetter (hok : ok ws) (H : ml 2402 (S 2) 0 ws) (N : stR S ws) {c : Nat} (hc : c < nN ws) (h0 : c ≠ 0) (d : Nat) : am_cI (d + 1) N_md_lastLetter [.inr (.inr (some (m))), .inl ((c : Int))] (MH m g S) = some (ll ws c, MH m g S) := by
  have hN' : nN ws ≤ 1001 := ND_len hok
  obtain ⟨n1, n2, n3, n4⟩ := N.1
  obtain ⟨a14, a15, a16, a17⟩ := n3 c hc
  have hne : pn ws c ≠ [] := fun e => h0 (pn_inj hok.2.1 hc nN_pos (e.trans pn0.symm))
  obtain ⟨q, q1, q2⟩ := lo_get hok.2.1 (bg_ne (pn_bg hc) hne)
  have hq := (ok_get hok q1).2.2.1
  have hl := List.length_pos_iff.mpr hne
  have hle := q2.length_le
  have n2' : S 23 0 = 0 := n2
  have a1 := fun d => md_letterOf (g := g) (o := 0) (m_row_2 (m := m)) (by decide) H q1 (show (pn ws c).length - 1 < 10 by omega) d
  rw [pf_getD q2 (by omega), ← ll_get hne] at a1
  have a1' : ∀ d, am_cI d N_md_letterOf [.inr (.inr (some (m + 2))), .inl (0), .inl ((ah ws (pn ws c) : Int)), .inl ((((pn ws c).length - 1 : Nat) : Int))] (MH m g S) = some (ll ws c, MH m g S) := a1
  have e1 : ((pn ws c).length : Int) - 1 = (((pn ws c).length - 1 : Nat) : Int) := by omega
  apply am_cI_of
  (try dsimp only); rw [en_md_lastLetter]; (try simp (disch := omega) only [Option.bind_some, if_true, if_false, eq_self, not_true_eq_false, not_false_eq_true, am_w_id, if_pos, if_neg, fu_self, fu_ne, Int.toNat_natCast, n2', a14, a16, e1, a1']); rw [B_md_lastLetter_0]; (try simp (disch := omega) only [Option.bind_some, if_true, if_false, eq_self, not_true_eq_false, not_false_eq_true, am_w_id, if_pos, if_neg, fu_self, fu_ne, Int.toNat_natCast, m_gR_2, m_l_2, m_s_2, m_gI_23, m_p_23, m_gR_14, m_l_14, m_s_14, m_gR_16, m_l_16, m_s_16, n2', a14, a16, e1, a1'])
theorem md_endsWith (hok : ok ws) (H : ml 2402 (S 2) 0 ws) (N : stR S ws) {k : Nat} (hk : k < nN ws) (d : Nat) : am_cI (d + 1) N_md_endsWith [.inr (.inr (some (m))), .inl ((k : Int))] (MH m g S) = some (en ws (pn ws k), MH m g S) := by
  have hN' : nN ws ≤ 1001 := ND_len hok
  obtain ⟨n1, n2, n3, n4⟩ := N.1
  obtain ⟨a14, a15, a16, a17⟩ := n3 k hk
  obtain ⟨a18, a19⟩ := n4 k hk
  have n2' : S 23 0 = 0 := n2
  unfold hi at a15
  apply am_cI_of
  by_cases c : sb ws (pn ws k) = []
  · have hz : (sb ws (pn ws k)).length = 0 := by rw [c]; rfl
    have hnu : nu ws (pn ws k) = none := by
      cases e : nu ws (pn ws k) with
      | none => rfl
      | some n =>
        have hm : (pn ws k, n) ∈ sb ws (pn ws k) := sb_mem.mpr ⟨(nu_mem hok.2.1).mp e, List.prefix_refl _⟩
        rw [c] at hm
        simp at hm
    have he : en ws (pn ws k) = -2 := by unfold en; rw [hnu]
    rw [he]
    (try dsimp only); rw [en_md_endsWith]; (try simp (disch := omega) only [Option.bind_some, if_true, if_false, eq_self, not_true_eq_false, not_false_eq_true, am_w_id, if_pos, if_neg, fu_self, fu_ne, Int.toNat_natCast, a14, a15]); rw [B_md_endsWith_0]; (try simp (disch := omega) only [Option.bind_some, if_true, if_false, eq_self, not_true_eq_false, not_false_eq_true, am_w_id, if_pos, if_neg, fu_self, fu_ne, Int.toNat_natCast, m_gR_14, m_l_14, m_s_14, m_gR_15, m_l_15, m_s_15, a14, a15]); rw [B_md_endsWith_68]; (try simp (disch := omega) only [Option.bind_some, if_true, if_false, eq_self, not_true_eq_false, not_false_eq_true, am_w_id, if_pos, if_neg, fu_self, fu_ne, Int.toNat_natCast, a14, a15]); rw [B_md_endsWith_70]; (try simp (disch := omega) only [Option.bind_some, if_true, if_false, eq_self, not_true_eq_false, not_false_eq_true, am_w_id, if_pos, if_neg, fu_self, fu_ne, Int.toNat_natCast, a14, a15])
  · obtain ⟨q, q1, q2⟩ := lo_get hok.2.1 c
    have hq := (ok_get hok q1).2.2.1
    have hqn := (ok_get hok q1).2.2.2
    have hzp := List.length_pos_iff.mpr c
    have hle := sb_le hok.2.1 (pn ws k)
    have a1 := fun d => md_lengthOf (g := g) (o := 0) (m_row_2 (m := m)) (by decide) H q1 d
    have a1' : ∀ d, am_cI d N_md_lengthOf [.inr (.inr (some (m + 2))), .inl (0), .inl ((ah ws (pn ws k) : Int))] (MH m g S) = some ((q.1.length : Int), MH m g S) := a1
    have a2 := fun d => md_numberOf (g := g) (o := 0) (m_row_2 (m := m)) (by decide) H q1 d
    have a2' : ∀ d, am_cI d N_md_numberOf [.inr (.inr (some (m + 2))), .inl (0), .inl ((ah ws (pn ws k) : Int))] (MH m g S) = some (q.2, MH m g S) := a2
    have hlm := (lst_min hok.1 c).1 q (sb_mem.mpr ⟨List.mem_of_getElem? q1, q2⟩)
    have hl0 : 0 ≤ lst ws (pn ws k) := by
      obtain ⟨r, hr, er⟩ := (lst_min hok.1 c).2
      have := (hok.1 r (sb_mem.mp hr).1).2.2.2.1
      omega
    by_cases c2 : q.1.length = (pn ws k).length
    · have hqe : q.1 = pn ws k := (q2.eq_of_length c2.symm).symm
      have he : en ws (pn ws k) = q.2 - lst ws (pn ws k) := by
        unfold en nu
        rw [q1]
        dsimp only
        rw [if_pos hqe]
      rw [he]
      (try dsimp only); rw [en_md_endsWith]; (try simp (disch := omega) only [Option.bind_some, if_true, if_false, eq_self, not_true_eq_false, not_false_eq_true, am_w_id, if_pos, if_neg, fu_self, fu_ne, Int.toNat_natCast, a14, a15, a16, a18, n2', a1', a2']); rw [B_md_endsWith_0]; (try simp (disch := omega) only [Option.bind_some, if_true, if_false, eq_self, not_true_eq_false, not_false_eq_true, am_w_id, if_pos, if_neg, fu_self, fu_ne, Int.toNat_natCast, m_gR_14, m_l_14, m_s_14, m_gR_15, m_l_15, m_s_15, a14, a15, a16, a18, n2', a1', a2']); rw [B_md_endsWith_15]; (try simp (disch := omega) only [Option.bind_some, if_true, if_false, eq_self, not_true_eq_false, not_false_eq_true, am_w_id, if_pos, if_neg, fu_self, fu_ne, Int.toNat_natCast, m_gR_2, m_l_2, m_s_2, m_gI_23, m_p_23, m_gR_14, m_l_14, m_s_14, m_gR_16, m_l_16, m_s_16, a14, a15, a16, a18, n2', a1', a2']); rw [B_md_endsWith_41]; (try simp (disch := omega) only [Option.bind_some, if_true, if_false, eq_self, not_true_eq_false, not_false_eq_true, am_w_id, if_pos, if_neg, fu_self, fu_ne, Int.toNat_natCast, m_gR_2, m_l_2, m_s_2, m_gI_23, m_p_23, m_gR_14, m_l_14, m_s_14, m_gR_18, m_l_18, m_s_18, a14, a15, a16, a18, n2', a1', a2']); rw [B_md_endsWith_70]; (try simp (disch := omega) only [Option.bind_some, if_true, if_false, eq_self, not_true_eq_false, not_false_eq_true, am_w_id, if_pos, if_neg, fu_self, fu_ne, Int.toNat_natCast, a14, a15, a16, a18, n2', a1', a2'])
    · have he : en ws (pn ws k) = -2 := by
        unfold en nu
        rw [q1]
        dsimp only
        rw [if_neg (fun e => c2 (by rw [e]))]
      rw [he]
      have c2' : ¬ (q.1.length : Int) = ((pn ws k).length : Int) := by omega
      (try dsimp only); rw [en_md_endsWith]; (try simp (disch := omega) only [Option.bind_some, if_true, if_false, eq_self, not_true_eq_false, not_false_eq_true, am_w_id, if_pos, if_neg, fu_self, fu_ne, Int.toNat_natCast, a14, a15, a16, n2', a1', c2']); rw [B_md_endsWith_0]; (try simp (disch := omega) only [Option.bind_some, if_true, if_false, eq_self, not_true_eq_false, not_false_eq_true, am_w_id, if_pos, if_neg, fu_self, fu_ne, Int.toNat_natCast, m_gR_14, m_l_14, m_s_14, m_gR_15, m_l_15, m_s_15, a14, a15, a16, n2', a1', c2']); rw [B_md_endsWith_15]; (try simp (disch := omega) only [Option.bind_some, if_true, if_false, eq_self, not_true_eq_false, not_false_eq_true, am_w_id, if_pos, if_neg, fu_self, fu_ne, Int.toNat_natCast, m_gR_2, m_l_2, m_s_2, m_gI_23, m_p_23, m_gR_14, m_l_14, m_s_14, m_gR_16, m_l_16, m_s_16, a14, a15, a16, n2', a1', c2']); rw [B_md_endsWith_68]; (try simp (disch := omega) only [Option.bind_some, if_true, if_false, eq_self, not_true_eq_false, not_false_eq_true, am_w_id, if_pos, if_neg, fu_self, fu_ne, Int.toNat_natCast, a14, a15, a16, n2', a1', c2']); rw [B_md_endsWith_70]; (try simp (disch := omega) only [Option.bind_some, if_true, if_false, eq_self, not_true_eq_false, not_false_eq_true, am_w_id, if_pos, if_neg, fu_self, fu_ne, Int.toNat_natCast, a14, a15, a16, n2', a1', c2'])
theorem md_lettersLeft (hok : ok ws) (H : ml 2402 (S 2) 0 ws) (N : stR S ws) {k : Nat} (hk : k < nN ws) {x : Int} (hx : x = 0 ∨ x = 1) (d : Nat) : am_cI (d + 1) N_md_lettersLeft [.inr (.inr (some (m))), .inl ((k : Int)), .inl (x)] (MH m g S) = some (if x = 0 then sht ws (pn ws k) else lgt ws (pn ws k), MH m g S) := by
  have hN' : nN ws ≤ 1001 := ND_len hok
  obtain ⟨n1, n2, n3, n4⟩ := N.1
  obtain ⟨a14, a15, a16, a17⟩ := n3 k hk
  have n2' : S 23 0 = 0 := n2
  have hle := sb_le hok.2.1 (pn ws k)
  have hl100 := hok.2.2
  unfold hi at a15
  have word : ∀ j, j < (sb ws (pn ws k)).length → ∃ q, ws[ah ws (pn ws k) + j]? = some q ∧ (sb ws (pn ws k))[j]? = some q ∧ wk q ∧ pn ws k <+: q.1 := by
    intro j hj
    refine ⟨_, List.getElem?_eq_getElem (show ah ws (pn ws k) + j < ws.length by omega), ?_, hok.1 _ (List.getElem_mem _), ?_⟩
    · rw [sb_get hok.2.1 (pn ws k) hj]; exact List.getElem?_eq_getElem _
    · exact (sb_iff hok.2.1 (pn ws k) (List.getElem?_eq_getElem _)).mpr (by omega)
  apply am_cI_of
  unfold sht lgt
  generalize hp : pn ws k = p at *
  have go : ∀ (G : Int → wd → Int) (hG : ∀ q b, wk q → p <+: q.1 → -2 ≤ b → b ≤ 10 → -2 ≤ G b q ∧ G b q ≤ 10) (step : ∀ j q b j5, ws[ah ws p + j]? = some q → wk q → p <+: q.1 → -2 ≤ b → b ≤ 10 → j < (sb ws p).length → EV (d + 1) N_md_lettersLeft T_md_lettersLeft_11 [.inr (.inr (some (m))), .inl ((k : Int)), .inl (x), .inl (b), .inl (((ah ws p + j : Nat) : Int)), j5] [] (MH m g S) = EV (d + 1) N_md_lettersLeft T_md_lettersLeft_11 [.inr (.inr (some (m))), .inl ((k : Int)), .inl (x), .inl (G b q), .inl (((ah ws p + (j + 1) : Nat) : Int)), .inl ((q.1.length : Int) - p.length)] [] (MH m g S)),
      am_call (d + 1) N_md_lettersLeft [.inr (.inr (some (m))), .inl ((k : Int)), .inl (x)] (MH m g S) = some (some (.inl ((sb ws p).foldl G (-2))), MH m g S) := by
    intro G hG step
    have start : am_call (d + 1) N_md_lettersLeft [.inr (.inr (some (m))), .inl ((k : Int)), .inl (x)] (MH m g S) = EV (d + 1) N_md_lettersLeft T_md_lettersLeft_11 [.inr (.inr (some (m))), .inl ((k : Int)), .inl (x), .inl (-2), .inl (((ah ws p + 0 : Nat) : Int)), am_nul] [] (MH m g S) := by
      (try dsimp only); rw [en_md_lettersLeft]; (try simp (disch := omega) only [Option.bind_some, if_true, if_false, eq_self, not_true_eq_false, not_false_eq_true, am_w_id, if_pos, if_neg, fu_self, fu_ne, Int.toNat_natCast, a14]); rw [B_md_lettersLeft_0]; (try simp (disch := omega) only [Option.bind_some, if_true, if_false, eq_self, not_true_eq_false, not_false_eq_true, am_w_id, if_pos, if_neg, fu_self, fu_ne, Int.toNat_natCast, m_gR_14, m_l_14, m_s_14, a14])
      rfl
    rw [start]
    refine am_loop (S := Nat × (Int × am_V)) (F := fun s => EV (d + 1) N_md_lettersLeft T_md_lettersLeft_11 [.inr (.inr (some (m))), .inl ((k : Int)), .inl (x), .inl (s.2.1), .inl (((ah ws p + s.1 : Nat) : Int)), s.2.2] [] (MH m g S)) (I := fun s => s.1 ≤ (sb ws p).length ∧ -2 ≤ s.2.1 ∧ s.2.1 ≤ 10 ∧ s.2.1 = ((sb ws p).take s.1).foldl G (-2))
      (R := fun o => o = some (some (.inl ((sb ws p).foldl G (-2))), MH m g S)) (fun s => (sb ws p).length - s.1) ?_ (0, -2, am_nul) ⟨Nat.zero_le _, by decide, by decide, rfl⟩
    rintro ⟨j, b, j5⟩ ⟨p1, p2, p3, p4⟩
    dsimp only at p1 p2 p3 p4 ⊢
    by_cases cj : j = (sb ws p).length
    · left
      subst cj
      rw [List.take_length] at p4
      rw [← p4]
      (try dsimp only); rw [B_md_lettersLeft_11]; (try simp (disch := omega) only [Option.bind_some, if_true, if_false, eq_self, not_true_eq_false, not_false_eq_true, am_w_id, if_pos, if_neg, fu_self, fu_ne, Int.toNat_natCast, m_gR_15, m_l_15, m_s_15, a15]); rw [B_md_lettersLeft_82]; (try simp (disch := omega) only [Option.bind_some, if_true, if_false, eq_self, not_true_eq_false, not_false_eq_true, am_w_id, if_pos, if_neg, fu_self, fu_ne, Int.toNat_natCast, a15])
    · right
      obtain ⟨q, q1, q2, q3, q4⟩ := word j (by omega)
      have hb := hG q b q3 q4 p2 p3
      refine ⟨(j + 1, G b q, .inl ((q.1.length : Int) - p.length)), ⟨by dsimp only; omega, hb.1, hb.2, ?_⟩, by dsimp only; omega, step j q b j5 q1 q3 q4 p2 p3 (by omega)⟩
      dsimp only
      rw [tk_s q2, List.foldl_append, List.foldl_cons, List.foldl_nil, ← p4]
  have base : ∀ j q b j5, ws[ah ws p + j]? = some q → wk q → p <+: q.1 → -2 ≤ b → b ≤ 10 → j < (sb ws p).length → EV (d + 1) N_md_lettersLeft T_md_lettersLeft_11 [.inr (.inr (some (m))), .inl ((k : Int)), .inl (x), .inl (b), .inl (((ah ws p + j : Nat) : Int)), j5] [] (MH m g S) = if b = -2 then EV (d + 1) N_md_lettersLeft T_md_lettersLeft_69 [.inr (.inr (some (m))), .inl ((k : Int)), .inl (x), .inl (b), .inl (((ah ws p + j : Nat) : Int)), .inl ((q.1.length : Int) - p.length)] [] (MH m g S) else EV (d + 1) N_md_lettersLeft T_md_lettersLeft_50 [.inr (.inr (some (m))), .inl ((k : Int)), .inl (x), .inl (b), .inl (((ah ws p + j : Nat) : Int)), .inl ((q.1.length : Int) - p.length)] [] (MH m g S) := by
    intro j q b j5 q1 q3 q4 _ _ hj
    have a1 := fun d => md_lengthOf (g := g) (o := 0) (m_row_2 (m := m)) (by decide) H q1 d
    have a1' : ∀ d, am_cI d N_md_lengthOf [.inr (.inr (some (m + 2))), .inl (0), .inl (((ah ws p + j : Nat) : Int))] (MH m g S) = some ((q.1.length : Int), MH m g S) := a1
    have := q4.length_le
    have := q3.2.2.1
    (try dsimp only); rw [B_md_lettersLeft_11]; (try simp (disch := omega) only [Option.bind_some, if_true, if_false, eq_self, not_true_eq_false, not_false_eq_true, am_w_id, if_pos, if_neg, fu_self, fu_ne, Int.toNat_natCast, m_gR_15, m_l_15, m_s_15, a15, a16, n2', a1']); rw [B_md_lettersLeft_22]; (try simp (disch := omega) only [Option.bind_some, if_true, if_false, eq_self, not_true_eq_false, not_false_eq_true, am_w_id, if_pos, if_neg, fu_self, fu_ne, Int.toNat_natCast, m_gR_2, m_l_2, m_s_2, m_gI_23, m_p_23, m_gR_16, m_l_16, m_s_16, a15, a16, n2', a1'])
  rcases hx with rfl | rfl
  · rw [if_pos rfl]
    refine go (fun b q => if b = -2 ∨ (q.1.length : Int) - p.length < b then (q.1.length : Int) - p.length else b) (fun q b q3 q4 h1 h2 => ?_) (fun j q b j5 q1 q3 q4 h1 h2 hj => ?_)
    · have := q4.length_le
      have := q3.2.2.1
      split <;> omega
    · rw [base j q b j5 q1 q3 q4 h1 h2 hj]
      have e9 : ((ah ws p + j : Nat) : Int) + 1 = ((ah ws p + (j + 1) : Nat) : Int) := by omega
      have := q4.length_le
      have := q3.2.2.1
      by_cases c1 : b = -2
      · rw [if_pos c1, if_pos (Or.inl c1)]
        (try dsimp only); rw [B_md_lettersLeft_69]; (try simp (disch := omega) only [Option.bind_some, if_true, if_false, eq_self, not_true_eq_false, not_false_eq_true, am_w_id, if_pos, if_neg, fu_self, fu_ne, Int.toNat_natCast, e9]); rw [B_md_lettersLeft_75]; (try simp (disch := omega) only [Option.bind_some, if_true, if_false, eq_self, not_true_eq_false, not_false_eq_true, am_w_id, if_pos, if_neg, fu_self, fu_ne, Int.toNat_natCast, e9])
      · rw [if_neg c1]
        by_cases c2 : (q.1.length : Int) - p.length < b
        · rw [if_pos (Or.inr c2)]
          (try dsimp only); rw [B_md_lettersLeft_50]; (try simp (disch := omega) only [Option.bind_some, if_true, if_false, eq_self, not_true_eq_false, not_false_eq_true, am_w_id, if_pos, if_neg, fu_self, fu_ne, Int.toNat_natCast, e9]); rw [B_md_lettersLeft_63]; (try simp (disch := omega) only [Option.bind_some, if_true, if_false, eq_self, not_true_eq_false, not_false_eq_true, am_w_id, if_pos, if_neg, fu_self, fu_ne, Int.toNat_natCast, e9]); rw [B_md_lettersLeft_69]; (try simp (disch := omega) only [Option.bind_some, if_true, if_false, eq_self, not_true_eq_false, not_false_eq_true, am_w_id, if_pos, if_neg, fu_self, fu_ne, Int.toNat_natCast, e9]); rw [B_md_lettersLeft_75]; (try simp (disch := omega) only [Option.bind_some, if_true, if_false, eq_self, not_true_eq_false, not_false_eq_true, am_w_id, if_pos, if_neg, fu_self, fu_ne, Int.toNat_natCast, e9])
        · rw [if_neg (fun h => h.elim c1 c2)]
          (try dsimp only); rw [B_md_lettersLeft_50]; (try simp (disch := omega) only [Option.bind_some, if_true, if_false, eq_self, not_true_eq_false, not_false_eq_true, am_w_id, if_pos, if_neg, fu_self, fu_ne, Int.toNat_natCast, e9]); rw [B_md_lettersLeft_63]; (try simp (disch := omega) only [Option.bind_some, if_true, if_false, eq_self, not_true_eq_false, not_false_eq_true, am_w_id, if_pos, if_neg, fu_self, fu_ne, Int.toNat_natCast, e9]); rw [B_md_lettersLeft_74]; (try simp (disch := omega) only [Option.bind_some, if_true, if_false, eq_self, not_true_eq_false, not_false_eq_true, am_w_id, if_pos, if_neg, fu_self, fu_ne, Int.toNat_natCast, e9]); rw [B_md_lettersLeft_75]; (try simp (disch := omega) only [Option.bind_some, if_true, if_false, eq_self, not_true_eq_false, not_false_eq_true, am_w_id, if_pos, if_neg, fu_self, fu_ne, Int.toNat_natCast, e9])
  · rw [if_neg (by decide)]
    refine go (fun b q => am_max b ((q.1.length : Int) - p.length)) (fun q b q3 q4 h1 h2 => ?_) (fun j q b j5 q1 q3 q4 h1 h2 hj => ?_)
    · have := q4.length_le
      have := q3.2.2.1
      unfold am_max
      split <;> omega
    · rw [base j q b j5 q1 q3 q4 h1 h2 hj]
      have e9 : ((ah ws p + j : Nat) : Int) + 1 = ((ah ws p + (j + 1) : Nat) : Int) := by omega
      have := q4.length_le
      have := q3.2.2.1
      unfold am_max
      by_cases c1 : b = -2
      · rw [if_pos c1, if_pos (by omega)]
        (try dsimp only); rw [B_md_lettersLeft_69]; (try simp (disch := omega) only [Option.bind_some, if_true, if_false, eq_self, not_true_eq_false, not_false_eq_true, am_w_id, if_pos, if_neg, fu_self, fu_ne, Int.toNat_natCast, e9]); rw [B_md_lettersLeft_75]; (try simp (disch := omega) only [Option.bind_some, if_true, if_false, eq_self, not_true_eq_false, not_false_eq_true, am_w_id, if_pos, if_neg, fu_self, fu_ne, Int.toNat_natCast, e9])
      · rw [if_neg c1]
        by_cases c2 : b < (q.1.length : Int) - p.length
        · rw [if_pos c2]
          (try dsimp only); rw [B_md_lettersLeft_50]; (try simp (disch := omega) only [Option.bind_some, if_true, if_false, eq_self, not_true_eq_false, not_false_eq_true, am_w_id, if_pos, if_neg, fu_self, fu_ne, Int.toNat_natCast, e9]); rw [B_md_lettersLeft_54]; (try simp (disch := omega) only [Option.bind_some, if_true, if_false, eq_self, not_true_eq_false, not_false_eq_true, am_w_id, if_pos, if_neg, fu_self, fu_ne, Int.toNat_natCast, e9]); rw [B_md_lettersLeft_60]; (try simp (disch := omega) only [Option.bind_some, if_true, if_false, eq_self, not_true_eq_false, not_false_eq_true, am_w_id, if_pos, if_neg, fu_self, fu_ne, Int.toNat_natCast, e9]); rw [B_md_lettersLeft_69]; (try simp (disch := omega) only [Option.bind_some, if_true, if_false, eq_self, not_true_eq_false, not_false_eq_true, am_w_id, if_pos, if_neg, fu_self, fu_ne, Int.toNat_natCast, e9]); rw [B_md_lettersLeft_75]; (try simp (disch := omega) only [Option.bind_some, if_true, if_false, eq_self, not_true_eq_false, not_false_eq_true, am_w_id, if_pos, if_neg, fu_self, fu_ne, Int.toNat_natCast, e9])
        · rw [if_neg c2]
          (try dsimp only); rw [B_md_lettersLeft_50]; (try simp (disch := omega) only [Option.bind_some, if_true, if_false, eq_self, not_true_eq_false, not_false_eq_true, am_w_id, if_pos, if_neg, fu_self, fu_ne, Int.toNat_natCast, e9]); rw [B_md_lettersLeft_54]; (try simp (disch := omega) only [Option.bind_some, if_true, if_false, eq_self, not_true_eq_false, not_false_eq_true, am_w_id, if_pos, if_neg, fu_self, fu_ne, Int.toNat_natCast, e9]); rw [B_md_lettersLeft_74]; (try simp (disch := omega) only [Option.bind_some, if_true, if_false, eq_self, not_true_eq_false, not_false_eq_true, am_w_id, if_pos, if_neg, fu_self, fu_ne, Int.toNat_natCast, e9]); rw [B_md_lettersLeft_75]; (try simp (disch := omega) only [Option.bind_some, if_true, if_false, eq_self, not_true_eq_false, not_false_eq_true, am_w_id, if_pos, if_neg, fu_self, fu_ne, Int.toNat_natCast, e9])
theorem md_greatestRest (hok : ok ws) (H : ml 2402 (S 2) 0 ws) (N : stR S ws) {k : Nat} (hk : k < nN ws) (d : Nat) : am_cI (d + 1) N_md_greatestRest [.inr (.inr (some (m))), .inl ((k : Int))] (MH m g S) = some (grt ws (pn ws k), MH m g S) := by
  have hN' : nN ws ≤ 1001 := ND_len hok
  obtain ⟨n1, n2, n3, n4⟩ := N.1
  obtain ⟨a14, a15, a16, a17⟩ := n3 k hk
  obtain ⟨a18, a19⟩ := n4 k hk
  have n2' : S 23 0 = 0 := n2
  have hle := sb_le hok.2.1 (pn ws k)
  have hl100 := hok.2.2
  unfold hi at a15
  have word : ∀ j, j < (sb ws (pn ws k)).length → ∃ q, ws[ah ws (pn ws k) + j]? = some q ∧ (sb ws (pn ws k))[j]? = some q ∧ wk q ∧ pn ws k <+: q.1 ∧ lst ws (pn ws k) ≤ q.2 ∧ 0 ≤ lst ws (pn ws k) := by
    intro j hj
    have hne : sb ws (pn ws k) ≠ [] := fun e => by rw [e] at hj; simp at hj
    have hg : ws[ah ws (pn ws k) + j]? = some (ws[ah ws (pn ws k) + j]'(by omega)) := List.getElem?_eq_getElem (by omega)
    have hpf := (sb_iff hok.2.1 (pn ws k) hg).mpr (by omega)
    refine ⟨_, hg, ?_, hok.1 _ (List.getElem_mem _), hpf, ?_, ?_⟩
    · rw [sb_get hok.2.1 (pn ws k) hj]; exact hg
    · exact (lst_min hok.1 hne).1 _ (sb_mem.mpr ⟨List.getElem_mem _, hpf⟩)
    · obtain ⟨r, hr, er⟩ := (lst_min hok.1 hne).2
      have := (hok.1 r (sb_mem.mp hr).1).2.2.2.1
      omega
  apply am_cI_of
  unfold grt
  generalize hp : pn ws k = p at *
  have start : am_call (d + 1) N_md_greatestRest [.inr (.inr (some (m))), .inl ((k : Int))] (MH m g S) = EV (d + 1) N_md_greatestRest T_md_greatestRest_10 [.inr (.inr (some (m))), .inl ((k : Int)), .inl (-2), .inl (((ah ws p + 0 : Nat) : Int))] [] (MH m g S) := by
    (try dsimp only); rw [en_md_greatestRest]; (try simp (disch := omega) only [Option.bind_some, if_true, if_false, eq_self, not_true_eq_false, not_false_eq_true, am_w_id, if_pos, if_neg, fu_self, fu_ne, Int.toNat_natCast, a14]); rw [B_md_greatestRest_0]; (try simp (disch := omega) only [Option.bind_some, if_true, if_false, eq_self, not_true_eq_false, not_false_eq_true, am_w_id, if_pos, if_neg, fu_self, fu_ne, Int.toNat_natCast, m_gR_14, m_l_14, m_s_14, a14])
    rfl
  rw [start]
  refine am_loop (S := Nat × Int) (F := fun s => EV (d + 1) N_md_greatestRest T_md_greatestRest_10 [.inr (.inr (some (m))), .inl ((k : Int)), .inl (s.2), .inl (((ah ws p + s.1 : Nat) : Int))] [] (MH m g S)) (I := fun s => s.1 ≤ (sb ws p).length ∧ s.2 = ((sb ws p).take s.1).foldl (fun b q => am_max b (q.2 - lst ws p)) (-2))
    (R := fun o => o = some (some (.inl ((sb ws p).foldl (fun b q => am_max b (q.2 - lst ws p)) (-2))), MH m g S)) (fun s => (sb ws p).length - s.1) ?_ (0, -2) ⟨Nat.zero_le _, rfl⟩
  rintro ⟨j, b⟩ ⟨p1, p4⟩
  dsimp only at p1 p4 ⊢
  by_cases cj : j = (sb ws p).length
  · left
    subst cj
    rw [List.take_length] at p4
    rw [← p4]
    (try dsimp only); rw [B_md_greatestRest_10]; (try simp (disch := omega) only [Option.bind_some, if_true, if_false, eq_self, not_true_eq_false, not_false_eq_true, am_w_id, if_pos, if_neg, fu_self, fu_ne, Int.toNat_natCast, m_gR_15, m_l_15, m_s_15, a15]); rw [B_md_greatestRest_73]; (try simp (disch := omega) only [Option.bind_some, if_true, if_false, eq_self, not_true_eq_false, not_false_eq_true, am_w_id, if_pos, if_neg, fu_self, fu_ne, Int.toNat_natCast, a15])
  · right
    obtain ⟨q, q1, q2, q3, q4, q5, q6⟩ := word j (by omega)
    have q7 := q3.2.2.2
    have a1 := fun d => md_numberOf (g := g) (o := 0) (m_row_2 (m := m)) (by decide) H q1 d
    have a1' : ∀ d, am_cI d N_md_numberOf [.inr (.inr (some (m + 2))), .inl (0), .inl (((ah ws p + j : Nat) : Int))] (MH m g S) = some (q.2, MH m g S) := a1
    have e9 : ((ah ws p + j : Nat) : Int) + 1 = ((ah ws p + (j + 1) : Nat) : Int) := by omega
    have e4 : ((sb ws p).take (j + 1)).foldl (fun b q => am_max b (q.2 - lst ws p)) (-2) = am_max b (q.2 - lst ws p) := by
      rw [tk_s q2, List.foldl_append, List.foldl_cons, List.foldl_nil, ← p4]
    by_cases c : b < q.2 - lst ws p
    · have em : am_max b (q.2 - lst ws p) = q.2 - lst ws p := if_pos c
      refine ⟨(j + 1, q.2 - lst ws p), ⟨by dsimp only; omega, by dsimp only; rw [e4, em]⟩, by dsimp only; omega, ?_⟩
      (try dsimp only); rw [B_md_greatestRest_10]; (try simp (disch := omega) only [Option.bind_some, if_true, if_false, eq_self, not_true_eq_false, not_false_eq_true, am_w_id, if_pos, if_neg, fu_self, fu_ne, Int.toNat_natCast, m_gR_15, m_l_15, m_s_15, a15, a18, n2', a1', e9]); rw [B_md_greatestRest_20]; (try simp (disch := omega) only [Option.bind_some, if_true, if_false, eq_self, not_true_eq_false, not_false_eq_true, am_w_id, if_pos, if_neg, fu_self, fu_ne, Int.toNat_natCast, m_gR_2, m_l_2, m_s_2, m_gI_23, m_p_23, m_gR_18, m_l_18, m_s_18, a15, a18, n2', a1', e9]); rw [B_md_greatestRest_43]; (try simp (disch := omega) only [Option.bind_some, if_true, if_false, eq_self, not_true_eq_false, not_false_eq_true, am_w_id, if_pos, if_neg, fu_self, fu_ne, Int.toNat_natCast, m_gR_2, m_l_2, m_s_2, m_gI_23, m_p_23, m_gR_18, m_l_18, m_s_18, a15, a18, n2', a1', e9]); rw [B_md_greatestRest_66]; (try simp (disch := omega) only [Option.bind_some, if_true, if_false, eq_self, not_true_eq_false, not_false_eq_true, am_w_id, if_pos, if_neg, fu_self, fu_ne, Int.toNat_natCast, a15, a18, n2', a1', e9])
    · have em : am_max b (q.2 - lst ws p) = b := if_neg c
      refine ⟨(j + 1, b), ⟨by dsimp only; omega, by dsimp only; rw [e4, em]⟩, by dsimp only; omega, ?_⟩
      (try dsimp only); rw [B_md_greatestRest_10]; (try simp (disch := omega) only [Option.bind_some, if_true, if_false, eq_self, not_true_eq_false, not_false_eq_true, am_w_id, if_pos, if_neg, fu_self, fu_ne, Int.toNat_natCast, m_gR_15, m_l_15, m_s_15, a15, a18, n2', a1', e9]); rw [B_md_greatestRest_20]; (try simp (disch := omega) only [Option.bind_some, if_true, if_false, eq_self, not_true_eq_false, not_false_eq_true, am_w_id, if_pos, if_neg, fu_self, fu_ne, Int.toNat_natCast, m_gR_2, m_l_2, m_s_2, m_gI_23, m_p_23, m_gR_18, m_l_18, m_s_18, a15, a18, n2', a1', e9]); rw [B_md_greatestRest_65]; (try simp (disch := omega) only [Option.bind_some, if_true, if_false, eq_self, not_true_eq_false, not_false_eq_true, am_w_id, if_pos, if_neg, fu_self, fu_ne, Int.toNat_natCast, a15, a18, n2', a1', e9]); rw [B_md_greatestRest_66]; (try simp (disch := omega) only [Option.bind_some, if_true, if_false, eq_self, not_true_eq_false, not_false_eq_true, am_w_id, if_pos, if_neg, fu_self, fu_ne, Int.toNat_natCast, a15, a18, n2', a1', e9])
theorem md_arcsTo (hok : ok ws) (N : stR S ws) (x : Int) (d : Nat) : am_cI d N_md_arcsTo [.inr (.inr (some (m))), .inl (x)] (MH m g S) = some (aTo ws x, MH m g S) := by
  have hN' : nN ws ≤ 1001 := ND_len hok
  obtain ⟨⟨n1, n2, n3, n4⟩, f1, f2, f3⟩ := N
  have hp := nN_pos (ws := ws)
  unfold aTo
  generalize hres : fi (fun b c => if (stt ws c : Int) = x ∧ fn ws (stt ws (pr ws c)) = pr ws c then b + 1 else b) 1 (nN ws - 1) 0 = res
  apply am_cI_of
  rw [en_md_arcsTo, B_md_arcsTo_0]
  refine am_loop (S := Nat × Int) (F := fun s => EV d N_md_arcsTo T_md_arcsTo_4 [.inr (.inr (some (m))), .inl (x), .inl (s.2), .inl ((s.1 : Int))] [] (MH m g S)) (I := fun s => 1 ≤ s.1 ∧ s.1 ≤ nN ws ∧ 0 ≤ s.2 ∧ s.2 ≤ s.1 ∧ fi (fun b c => if (stt ws c : Int) = x ∧ fn ws (stt ws (pr ws c)) = pr ws c then b + 1 else b) s.1 (nN ws - s.1) s.2 = res)
    (R := fun o => o = some (some (.inl res), MH m g S)) (fun s => nN ws - s.1) ?_ (1, 0) ⟨Nat.le_refl _, hp, Int.le_refl _, by decide, hres⟩
  rintro ⟨c, b⟩ ⟨p0, p1, p2, p3, p4⟩
  dsimp only at p0 p1 p2 p3 p4 ⊢
  by_cases c1 : c = nN ws
  · left
    rw [fi_end (by omega)] at p4
    subst c1
    (try dsimp only); rw [B_md_arcsTo_4]; (try simp (disch := omega) only [Option.bind_some, if_true, if_false, eq_self, not_true_eq_false, not_false_eq_true, am_w_id, if_pos, if_neg, fu_self, fu_ne, Int.toNat_natCast, m_gI_13, m_p_13, n1]); rw [B_md_arcsTo_61]; (try simp (disch := omega) only [Option.bind_some, if_true, if_false, eq_self, not_true_eq_false, not_false_eq_true, am_w_id, if_pos, if_neg, fu_self, fu_ne, Int.toNat_natCast, n1])
    rw [p4]
  · right
    have hc := (n3 c (by omega)).2.2.2
    rw [if_neg (by omega)] at hc
    have hprl := (pr_in hok.2.1 (show c < nN ws by omega) (by omega)).1
    have g1 : S 20 c = (stt ws c : Int) := f3 c (by omega) rfl
    have g2 : S 20 (pr ws c) = (stt ws (pr ws c) : Int) := f3 (pr ws c) (by omega) rfl
    have hsl := stt_lt (show pr ws c < nN ws by omega)
    have hsl2 := nS_le hok
    obtain ⟨fl, fg⟩ := fst_lt hsl
    have g3 : S 22 (stt ws (pr ws c)) = (fn ws (stt ws (pr ws c)) : Int) := f2 _ _ fg
    have hsl3 : stt ws (pr ws c) < 1101 := by omega
    rw [fi_step (by omega)] at p4
    have e9 : (c : Int) + 1 = ((c + 1 : Nat) : Int) := by omega
    by_cases c2 : (stt ws c : Int) = x
    · by_cases c3 : fn ws (stt ws (pr ws c)) = pr ws c
      · rw [if_pos ⟨c2, c3⟩] at p4
        refine ⟨(c + 1, b + 1), ⟨by dsimp only; omega, by dsimp only; omega, by dsimp only; omega, by dsimp only; omega, p4⟩, by dsimp only; omega, ?_⟩
        have c3' : (fn ws (stt ws (pr ws c)) : Int) = (pr ws c : Int) := by omega
        (try dsimp only); rw [B_md_arcsTo_4]; (try simp (disch := omega) only [Option.bind_some, if_true, if_false, eq_self, not_true_eq_false, not_false_eq_true, am_w_id, if_pos, if_neg, fu_self, fu_ne, Int.toNat_natCast, m_gI_13, m_p_13, n1, hc, g1, g2, g3, c2, c3', e9]); rw [B_md_arcsTo_12]; (try simp (disch := omega) only [Option.bind_some, if_true, if_false, eq_self, not_true_eq_false, not_false_eq_true, am_w_id, if_pos, if_neg, fu_self, fu_ne, Int.toNat_natCast, m_gR_20, m_l_20, m_s_20, n1, hc, g1, g2, g3, c2, c3', e9]); rw [B_md_arcsTo_23]; (try simp (disch := omega) only [Option.bind_some, if_true, if_false, eq_self, not_true_eq_false, not_false_eq_true, am_w_id, if_pos, if_neg, fu_self, fu_ne, Int.toNat_natCast, m_gR_22, m_l_22, m_s_22, m_gR_20, m_l_20, m_s_20, m_gR_17, m_l_17, m_s_17, n1, hc, g1, g2, g3, c2, c3', e9]); rw [B_md_arcsTo_48]; (try simp (disch := omega) only [Option.bind_some, if_true, if_false, eq_self, not_true_eq_false, not_false_eq_true, am_w_id, if_pos, if_neg, fu_self, fu_ne, Int.toNat_natCast, n1, hc, g1, g2, g3, c2, c3', e9]); rw [B_md_arcsTo_53]; (try simp (disch := omega) only [Option.bind_some, if_true, if_false, eq_self, not_true_eq_false, not_false_eq_true, am_w_id, if_pos, if_neg, fu_self, fu_ne, Int.toNat_natCast, n1, hc, g1, g2, g3, c2, c3', e9])
      · rw [if_neg (fun h => c3 h.2)] at p4
        refine ⟨(c + 1, b), ⟨by dsimp only; omega, by dsimp only; omega, p2, by dsimp only; omega, p4⟩, by dsimp only; omega, ?_⟩
        have c3' : ¬ (fn ws (stt ws (pr ws c)) : Int) = (pr ws c : Int) := by omega
        (try dsimp only); rw [B_md_arcsTo_4]; (try simp (disch := omega) only [Option.bind_some, if_true, if_false, eq_self, not_true_eq_false, not_false_eq_true, am_w_id, if_pos, if_neg, fu_self, fu_ne, Int.toNat_natCast, m_gI_13, m_p_13, n1, hc, g1, g2, g3, c2, c3', e9, Int.add_zero]); rw [B_md_arcsTo_12]; (try simp (disch := omega) only [Option.bind_some, if_true, if_false, eq_self, not_true_eq_false, not_false_eq_true, am_w_id, if_pos, if_neg, fu_self, fu_ne, Int.toNat_natCast, m_gR_20, m_l_20, m_s_20, n1, hc, g1, g2, g3, c2, c3', e9, Int.add_zero]); rw [B_md_arcsTo_23]; (try simp (disch := omega) only [Option.bind_some, if_true, if_false, eq_self, not_true_eq_false, not_false_eq_true, am_w_id, if_pos, if_neg, fu_self, fu_ne, Int.toNat_natCast, m_gR_22, m_l_22, m_s_22, m_gR_20, m_l_20, m_s_20, m_gR_17, m_l_17, m_s_17, n1, hc, g1, g2, g3, c2, c3', e9, Int.add_zero]); rw [B_md_arcsTo_52]; (try simp (disch := omega) only [Option.bind_some, if_true, if_false, eq_self, not_true_eq_false, not_false_eq_true, am_w_id, if_pos, if_neg, fu_self, fu_ne, Int.toNat_natCast, n1, hc, g1, g2, g3, c2, c3', e9, Int.add_zero]); rw [B_md_arcsTo_53]; (try simp (disch := omega) only [Option.bind_some, if_true, if_false, eq_self, not_true_eq_false, not_false_eq_true, am_w_id, if_pos, if_neg, fu_self, fu_ne, Int.toNat_natCast, n1, hc, g1, g2, g3, c2, c3', e9, Int.add_zero])
    · rw [if_neg (fun h => c2 h.1)] at p4
      refine ⟨(c + 1, b), ⟨by dsimp only; omega, by dsimp only; omega, p2, by dsimp only; omega, p4⟩, by dsimp only; omega, ?_⟩
      (try dsimp only); rw [B_md_arcsTo_4]; (try simp (disch := omega) only [Option.bind_some, if_true, if_false, eq_self, not_true_eq_false, not_false_eq_true, am_w_id, if_pos, if_neg, fu_self, fu_ne, Int.toNat_natCast, m_gI_13, m_p_13, n1, g1, c2, e9, Int.add_zero]); rw [B_md_arcsTo_12]; (try simp (disch := omega) only [Option.bind_some, if_true, if_false, eq_self, not_true_eq_false, not_false_eq_true, am_w_id, if_pos, if_neg, fu_self, fu_ne, Int.toNat_natCast, m_gR_20, m_l_20, m_s_20, n1, g1, c2, e9, Int.add_zero]); rw [B_md_arcsTo_52]; (try simp (disch := omega) only [Option.bind_some, if_true, if_false, eq_self, not_true_eq_false, not_false_eq_true, am_w_id, if_pos, if_neg, fu_self, fu_ne, Int.toNat_natCast, n1, g1, c2, e9, Int.add_zero]); rw [B_md_arcsTo_53]; (try simp (disch := omega) only [Option.bind_some, if_true, if_false, eq_self, not_true_eq_false, not_false_eq_true, am_w_id, if_pos, if_neg, fu_self, fu_ne, Int.toNat_natCast, n1, g1, c2, e9, Int.add_zero])
theorem md_shortest (hok : ok ws) (N : stR S ws) (x : Int) (d : Nat) : am_cI d N_md_shortest [.inr (.inr (some (m))), .inl (x)] (MH m g S) = some (sBg ws x, MH m g S) := by
  have hN' : nN ws ≤ 1001 := ND_len hok
  obtain ⟨⟨n1, n2, n3, n4⟩, f1, f2, f3⟩ := N
  unfold sBg
  generalize hres : fi (fun b k => if (stt ws k : Int) = x then am_min b ((pn ws k).length : Int) else b) 0 (nN ws) 10 = res
  apply am_cI_of
  rw [en_md_shortest, B_md_shortest_0]
  refine am_loop (S := Nat × Int) (F := fun s => EV d N_md_shortest T_md_shortest_5 [.inr (.inr (some (m))), .inl (x), .inl (s.2), .inl ((s.1 : Int))] [] (MH m g S)) (I := fun s => s.1 ≤ nN ws ∧ fi (fun b k => if (stt ws k : Int) = x then am_min b ((pn ws k).length : Int) else b) s.1 (nN ws - s.1) s.2 = res)
    (R := fun o => o = some (some (.inl res), MH m g S)) (fun s => nN ws - s.1) ?_ (0, 10) ⟨Nat.zero_le _, hres⟩
  rintro ⟨c, b⟩ ⟨p1, p4⟩
  dsimp only at p1 p4 ⊢
  by_cases c1 : c = nN ws
  · left
    rw [fi_end (by omega)] at p4
    subst c1
    (try dsimp only); rw [B_md_shortest_5]; (try simp (disch := omega) only [Option.bind_some, if_true, if_false, eq_self, not_true_eq_false, not_false_eq_true, am_w_id, if_pos, if_neg, fu_self, fu_ne, Int.toNat_natCast, m_gI_13, m_p_13, n1]); rw [B_md_shortest_50]; (try simp (disch := omega) only [Option.bind_some, if_true, if_false, eq_self, not_true_eq_false, not_false_eq_true, am_w_id, if_pos, if_neg, fu_self, fu_ne, Int.toNat_natCast, n1])
    rw [p4]
  · right
    have a16 := (n3 c (by omega)).2.2.1
    have g1 : S 20 c = (stt ws c : Int) := f3 c (by omega) rfl
    rw [fi_step (by omega)] at p4
    have e9 : (c : Int) + 1 = ((c + 1 : Nat) : Int) := by omega
    by_cases c2 : (stt ws c : Int) = x
    · rw [if_pos c2] at p4
      by_cases c3 : ((pn ws c).length : Int) < b
      · have em : am_min b ((pn ws c).length : Int) = (pn ws c).length := if_pos c3
        rw [em] at p4
        refine ⟨(c + 1, ((pn ws c).length : Int)), ⟨by dsimp only; omega, p4⟩, by dsimp only; omega, ?_⟩
        (try dsimp only); rw [B_md_shortest_5]; (try simp (disch := omega) only [Option.bind_some, if_true, if_false, eq_self, not_true_eq_false, not_false_eq_true, am_w_id, if_pos, if_neg, fu_self, fu_ne, Int.toNat_natCast, m_gI_13, m_p_13, n1, a16, g1, c2, e9]); rw [B_md_shortest_13]; (try simp (disch := omega) only [Option.bind_some, if_true, if_false, eq_self, not_true_eq_false, not_false_eq_true, am_w_id, if_pos, if_neg, fu_self, fu_ne, Int.toNat_natCast, m_gR_20, m_l_20, m_s_20, n1, a16, g1, c2, e9]); rw [B_md_shortest_23]; (try simp (disch := omega) only [Option.bind_some, if_true, if_false, eq_self, not_true_eq_false, not_false_eq_true, am_w_id, if_pos, if_neg, fu_self, fu_ne, Int.toNat_natCast, m_gR_16, m_l_16, m_s_16, n1, a16, g1, c2, e9]); rw [B_md_shortest_33]; (try simp (disch := omega) only [Option.bind_some, if_true, if_false, eq_self, not_true_eq_false, not_false_eq_true, am_w_id, if_pos, if_neg, fu_self, fu_ne, Int.toNat_natCast, m_gR_16, m_l_16, m_s_16, n1, a16, g1, c2, e9]); rw [B_md_shortest_43]; (try simp (disch := omega) only [Option.bind_some, if_true, if_false, eq_self, not_true_eq_false, not_false_eq_true, am_w_id, if_pos, if_neg, fu_self, fu_ne, Int.toNat_natCast, n1, a16, g1, c2, e9])
      · have em : am_min b ((pn ws c).length : Int) = b := if_neg c3
        rw [em] at p4
        refine ⟨(c + 1, b), ⟨by dsimp only; omega, p4⟩, by dsimp only; omega, ?_⟩
        (try dsimp only); rw [B_md_shortest_5]; (try simp (disch := omega) only [Option.bind_some, if_true, if_false, eq_self, not_true_eq_false, not_false_eq_true, am_w_id, if_pos, if_neg, fu_self, fu_ne, Int.toNat_natCast, m_gI_13, m_p_13, n1, a16, g1, c2, e9]); rw [B_md_shortest_13]; (try simp (disch := omega) only [Option.bind_some, if_true, if_false, eq_self, not_true_eq_false, not_false_eq_true, am_w_id, if_pos, if_neg, fu_self, fu_ne, Int.toNat_natCast, m_gR_20, m_l_20, m_s_20, n1, a16, g1, c2, e9]); rw [B_md_shortest_23]; (try simp (disch := omega) only [Option.bind_some, if_true, if_false, eq_self, not_true_eq_false, not_false_eq_true, am_w_id, if_pos, if_neg, fu_self, fu_ne, Int.toNat_natCast, m_gR_16, m_l_16, m_s_16, n1, a16, g1, c2, e9]); rw [B_md_shortest_42]; (try simp (disch := omega) only [Option.bind_some, if_true, if_false, eq_self, not_true_eq_false, not_false_eq_true, am_w_id, if_pos, if_neg, fu_self, fu_ne, Int.toNat_natCast, n1, a16, g1, c2, e9]); rw [B_md_shortest_43]; (try simp (disch := omega) only [Option.bind_some, if_true, if_false, eq_self, not_true_eq_false, not_false_eq_true, am_w_id, if_pos, if_neg, fu_self, fu_ne, Int.toNat_natCast, n1, a16, g1, c2, e9])
    · rw [if_neg c2] at p4
      refine ⟨(c + 1, b), ⟨by dsimp only; omega, p4⟩, by dsimp only; omega, ?_⟩
      (try dsimp only); rw [B_md_shortest_5]; (try simp (disch := omega) only [Option.bind_some, if_true, if_false, eq_self, not_true_eq_false, not_false_eq_true, am_w_id, if_pos, if_neg, fu_self, fu_ne, Int.toNat_natCast, m_gI_13, m_p_13, n1, g1, c2, e9]); rw [B_md_shortest_13]; (try simp (disch := omega) only [Option.bind_some, if_true, if_false, eq_self, not_true_eq_false, not_false_eq_true, am_w_id, if_pos, if_neg, fu_self, fu_ne, Int.toNat_natCast, m_gR_20, m_l_20, m_s_20, n1, g1, c2, e9]); rw [B_md_shortest_42]; (try simp (disch := omega) only [Option.bind_some, if_true, if_false, eq_self, not_true_eq_false, not_false_eq_true, am_w_id, if_pos, if_neg, fu_self, fu_ne, Int.toNat_natCast, n1, g1, c2, e9]); rw [B_md_shortest_43]; (try simp (disch := omega) only [Option.bind_some, if_true, if_false, eq_self, not_true_eq_false, not_false_eq_true, am_w_id, if_pos, if_neg, fu_self, fu_ne, Int.toNat_natCast, n1, g1, c2, e9])
theorem md_beginningsOf (hok : ok ws) (N : stR S ws) (x : Int) (d : Nat) : am_cI d N_md_beginningsOf [.inr (.inr (some (m))), .inl (x)] (MH m g S) = some (nBg ws x, MH m g S) := by
  have hN' : nN ws ≤ 1001 := ND_len hok
  obtain ⟨⟨n1, n2, n3, n4⟩, f1, f2, f3⟩ := N
  unfold nBg
  generalize hres : fi (fun b k => if (stt ws k : Int) = x then b + 1 else b) 0 (nN ws) 0 = res
  apply am_cI_of
  rw [en_md_beginningsOf, B_md_beginningsOf_0]
  refine am_loop (S := Nat × Int) (F := fun s => EV d N_md_beginningsOf T_md_beginningsOf_4 [.inr (.inr (some (m))), .inl (x), .inl (s.2), .inl ((s.1 : Int))] [] (MH m g S)) (I := fun s => s.1 ≤ nN ws ∧ 0 ≤ s.2 ∧ s.2 ≤ s.1 ∧ fi (fun b k => if (stt ws k : Int) = x then b + 1 else b) s.1 (nN ws - s.1) s.2 = res)
    (R := fun o => o = some (some (.inl res), MH m g S)) (fun s => nN ws - s.1) ?_ (0, 0) ⟨Nat.zero_le _, Int.le_refl _, Int.le_refl _, hres⟩
  rintro ⟨c, b⟩ ⟨p1, p2, p3, p4⟩
  dsimp only at p1 p2 p3 p4 ⊢
  by_cases c1 : c = nN ws
  · left
    rw [fi_end (by omega)] at p4
    subst c1
    (try dsimp only); rw [B_md_beginningsOf_4]; (try simp (disch := omega) only [Option.bind_some, if_true, if_false, eq_self, not_true_eq_false, not_false_eq_true, am_w_id, if_pos, if_neg, fu_self, fu_ne, Int.toNat_natCast, m_gI_13, m_p_13, n1]); rw [B_md_beginningsOf_36]; (try simp (disch := omega) only [Option.bind_some, if_true, if_false, eq_self, not_true_eq_false, not_false_eq_true, am_w_id, if_pos, if_neg, fu_self, fu_ne, Int.toNat_natCast, n1])
    rw [p4]
  · right
    have g1 : S 20 c = (stt ws c : Int) := f3 c (by omega) rfl
    rw [fi_step (by omega)] at p4
    have e9 : (c : Int) + 1 = ((c + 1 : Nat) : Int) := by omega
    by_cases c2 : (stt ws c : Int) = x
    · rw [if_pos c2] at p4
      refine ⟨(c + 1, b + 1), ⟨by dsimp only; omega, by dsimp only; omega, by dsimp only; omega, p4⟩, by dsimp only; omega, ?_⟩
      (try dsimp only); rw [B_md_beginningsOf_4]; (try simp (disch := omega) only [Option.bind_some, if_true, if_false, eq_self, not_true_eq_false, not_false_eq_true, am_w_id, if_pos, if_neg, fu_self, fu_ne, Int.toNat_natCast, m_gI_13, m_p_13, n1, g1, c2, e9]); rw [B_md_beginningsOf_12]; (try simp (disch := omega) only [Option.bind_some, if_true, if_false, eq_self, not_true_eq_false, not_false_eq_true, am_w_id, if_pos, if_neg, fu_self, fu_ne, Int.toNat_natCast, m_gR_20, m_l_20, m_s_20, n1, g1, c2, e9]); rw [B_md_beginningsOf_23]; (try simp (disch := omega) only [Option.bind_some, if_true, if_false, eq_self, not_true_eq_false, not_false_eq_true, am_w_id, if_pos, if_neg, fu_self, fu_ne, Int.toNat_natCast, n1, g1, c2, e9]); rw [B_md_beginningsOf_28]; (try simp (disch := omega) only [Option.bind_some, if_true, if_false, eq_self, not_true_eq_false, not_false_eq_true, am_w_id, if_pos, if_neg, fu_self, fu_ne, Int.toNat_natCast, n1, g1, c2, e9])
    · rw [if_neg c2] at p4
      refine ⟨(c + 1, b), ⟨by dsimp only; omega, p2, by dsimp only; omega, p4⟩, by dsimp only; omega, ?_⟩
      (try dsimp only); rw [B_md_beginningsOf_4]; (try simp (disch := omega) only [Option.bind_some, if_true, if_false, eq_self, not_true_eq_false, not_false_eq_true, am_w_id, if_pos, if_neg, fu_self, fu_ne, Int.toNat_natCast, m_gI_13, m_p_13, n1, g1, c2, e9, Int.add_zero]); rw [B_md_beginningsOf_12]; (try simp (disch := omega) only [Option.bind_some, if_true, if_false, eq_self, not_true_eq_false, not_false_eq_true, am_w_id, if_pos, if_neg, fu_self, fu_ne, Int.toNat_natCast, m_gR_20, m_l_20, m_s_20, n1, g1, c2, e9, Int.add_zero]); rw [B_md_beginningsOf_27]; (try simp (disch := omega) only [Option.bind_some, if_true, if_false, eq_self, not_true_eq_false, not_false_eq_true, am_w_id, if_pos, if_neg, fu_self, fu_ne, Int.toNat_natCast, n1, g1, c2, e9, Int.add_zero]); rw [B_md_beginningsOf_28]; (try simp (disch := omega) only [Option.bind_some, if_true, if_false, eq_self, not_true_eq_false, not_false_eq_true, am_w_id, if_pos, if_neg, fu_self, fu_ne, Int.toNat_natCast, n1, g1, c2, e9, Int.add_zero])
end MO
