/-! list: the model's reading -/
section MO
variable {m : Nat} {g : am_H} {S : Nat → Nat → Int} {t u : List Int} {ws bs ws' bs' v : List wd} {hs : List (List wd × List wd)} {sh : Nat → Option (List wd)}
theorem md_fails (k p : Int) (hk : 0 ≤ k ∧ k ≤ 4) (hp : 0 ≤ p ∧ p ≤ 1000) (d : Nat) : am_cI d N_md_fails [.inr (.inr (some (m))), .inl (k), .inl (p)] (MH m g S) = some (0, MH m g (am_fu S 10 (fun _ => 8 * p + k))) := by
  apply am_cI_of
  (try dsimp only); rw [en_md_fails]; (try simp (disch := omega) only [Option.bind_some, if_true, if_false, eq_self, not_true_eq_false, not_false_eq_true, am_w_id, if_pos, if_neg, fu_self, fu_ne, Int.toNat_natCast]); rw [B_md_fails_0]; (try simp (disch := omega) only [Option.bind_some, if_true, if_false, eq_self, not_true_eq_false, not_false_eq_true, am_w_id, if_pos, if_neg, fu_self, fu_ne, Int.toNat_natCast, m_gI_10, m_p_10])
theorem md_next (T : taR S t) {n : Nat} (hn : n ≤ t.length) (h9 : S 9 0 = n) (d : Nat) : ∃ S', am_cI (d + 1) N_md_next [.inr (.inr (some (m)))] (MH m g S) = some (tb t (rn isS t n : Int), MH m g S') ∧ S' 9 0 = (rn isS t n : Int) ∧ fd [9] S S' := by
  have ht := T.2.1
  have main := am_loop (S := Nat × (Nat → Nat → Int)) (F := fun s => EV (d + 1) N_md_next T_md_next_0 [.inr (.inr (some (m)))] [] (MH m g s.2)) (I := fun s => s.1 ≤ t.length ∧ s.2 9 0 = (s.1 : Int) ∧ fd [9] S s.2 ∧ rn isS t s.1 = rn isS t n)
    (R := fun o => ∃ S', o = some (some (.inl (tb t (rn isS t n : Int))), MH m g S') ∧ S' 9 0 = (rn isS t n : Int) ∧ fd [9] S S') (fun s => t.length - s.1) ?_ (n, S) ⟨hn, h9, fd.rf, rfl⟩
  · obtain ⟨S', e, h⟩ := main
    exact ⟨S', am_cI_of ((en_md_next (d + 1) m (MH m g S)).trans e), h⟩
  · rintro ⟨k, U⟩ ⟨p1, p2, p3, p4⟩
    dsimp only at p1 p2 p3 p4 ⊢
    have TU : taR U t := ⟨by rw [p3 1 (by decide)]; exact T.1, T.2.1, T.2.2.1, by rw [p3 0 (by decide)]; exact T.2.2.2⟩
    have a1 := fun d => md_byteAt (m := m) (g := g) TU (k := (k : Int)) (by omega) d
    by_cases c : isS (tb t (k : Int)) = true
    · right
      have hk : k < t.length := by
        rcases Nat.lt_or_ge k t.length with h | h
        · exact h
        · unfold tb at c; rw [if_neg (by omega)] at c; exact absurd c (by decide)
      have c2 := isS_iff.mp c
      have c3 := c
      rw [tb_get hk] at c3
      rw [rn_step hk, if_pos c3] at p4
      have e9 : (k : Int) + 1 = ((k + 1 : Nat) : Int) := by omega
      refine ⟨(k + 1, am_fu U 9 (fun _ => ((k + 1 : Nat) : Int))), ⟨by dsimp only; omega, by dsimp only; rw [fu_self], p3.up (by decide) _, p4⟩, by dsimp only; omega, ?_⟩
      (try dsimp only); rw [B_md_next_0]; (try simp (disch := omega) only [Option.bind_some, if_true, if_false, eq_self, not_true_eq_false, not_false_eq_true, am_w_id, if_pos, if_neg, fu_self, fu_ne, Int.toNat_natCast, m_gI_9, m_p_9, m_O, p2, a1, c2, e9]); rw [B_md_next_13]; (try simp (disch := omega) only [Option.bind_some, if_true, if_false, eq_self, not_true_eq_false, not_false_eq_true, am_w_id, if_pos, if_neg, fu_self, fu_ne, Int.toNat_natCast, m_gI_9, m_p_9, p2, a1, c2, e9])
    · left
      have c2 : ¬ tb t (k : Int) = 32 := fun h => c (isS_iff.mpr h)
      have hr : rn isS t k = k := by
        by_cases hk : k < t.length
        · rw [rn_step hk, if_neg (by rw [← tb_get hk]; exact c)]
        · exact rn_end (by omega)
      rw [hr] at p4
      refine ⟨U, ?_, by rw [← p4]; exact p2, p3⟩
      rw [← p4]
      (try dsimp only); rw [B_md_next_0]; (try simp (disch := omega) only [Option.bind_some, if_true, if_false, eq_self, not_true_eq_false, not_false_eq_true, am_w_id, if_pos, if_neg, fu_self, fu_ne, Int.toNat_natCast, m_gI_9, m_p_9, m_O, p2, a1, c2]); rw [B_md_next_26]; (try simp (disch := omega) only [Option.bind_some, if_true, if_false, eq_self, not_true_eq_false, not_false_eq_true, am_w_id, if_pos, if_neg, fu_self, fu_ne, Int.toNat_natCast, m_gI_9, m_p_9, m_O, p2, a1, c2])
/-- where the reading stands -/
def LSt (S : Nat → Nat → Int) (n : Nat) (rd cu : List wd) : Prop := S 9 0 = n ∧ ml 1213 (S 11) 0 rd ∧ ml 2402 (S 12) 0 cu
theorem md_readsItem (H : MR S t ws bs hs sh) (ht400 : t.length ≤ 400) {n : Nat} {rd cu : List wd} (hn : n ≤ t.length) (L : LSt S n rd cu) (hI : rdI rd cu) (d : Nat) : ∃ r S', am_cI (d + 4) N_md_readsItem [.inr (.inr (some (m)))] (MH m g S) = some (r, MH m g S') ∧ fd [7, 8, 9, 10, 11, 12] S S' ∧ (match itm t n rd cu with
    | .inl f => r = 0 ∧ S' 10 0 = f
    | .inr (b, rd', cu') => r = 1 ∧ LSt S' b rd' cu') := by
  obtain ⟨L1, L2, L3⟩ := L
  have hal := rn_ge isS t n
  have hah := rn_le isS t hn
  obtain ⟨S1, e1, n1, F1⟩ := md_next (m := m) (g := g) H.1 hn L1 (d + 2)
  have H1 := H.frd F1 (by decide)
  unfold itm
  generalize ha : rn isS t n = a at *
  have fail : ∀ (U : Nat → Nat → Int) (k p : Int), fd [7, 8, 9, 10, 11, 12] S U → 0 ≤ k ∧ k ≤ 4 → 0 ≤ p ∧ p ≤ 1000 → fd [7, 8, 9, 10, 11, 12] S (am_fu U 10 (fun _ => 8 * p + k)) ∧ (am_fu U 10 (fun _ => 8 * p + k)) 10 0 = 8 * p + k := fun U k p F _ _ => ⟨F.up (by decide) _, by rw [fu_self]⟩
  by_cases c1 : isL (tb t (a : Int)) = false
  · rw [if_pos c1]
    have i1 : ∀ d h, am_cI d N_md_isIn [.inr (.inl (tb t (a : Int))), .inr (.inl (97)), .inr (.inl (122))] h = some (0, h) := fun d h => by rw [md_isIn, if_neg (fun g => by rw [isL_iff.mpr g] at c1; exact Bool.noConfusion c1)]
    have f1 := fun d => md_fails (m := m) (g := g) (S := S1) 1 (a : Int) (by decide) (by omega) d
    obtain ⟨q1, q2⟩ := fail S1 1 a (F1.wide (by decide)) (by decide) (by omega)
    refine ⟨0, _, am_cI_of ?_, q1, rfl, q2⟩
    (try dsimp only); rw [en_md_readsItem]; (try simp (disch := omega) only [Option.bind_some, if_true, if_false, eq_self, not_true_eq_false, not_false_eq_true, am_w_id, if_pos, if_neg, fu_self, fu_ne, Int.toNat_natCast, e1, i1, n1, f1]); rw [B_md_readsItem_0]; (try simp (disch := omega) only [Option.bind_some, if_true, if_false, eq_self, not_true_eq_false, not_false_eq_true, am_w_id, if_pos, if_neg, fu_self, fu_ne, Int.toNat_natCast, m_O, e1, i1, n1, f1]); rw [B_md_readsItem_17]; (try simp (disch := omega) only [Option.bind_some, if_true, if_false, eq_self, not_true_eq_false, not_false_eq_true, am_w_id, if_pos, if_neg, fu_self, fu_ne, Int.toNat_natCast, m_gI_9, m_p_9, m_O, e1, i1, n1, f1])
  · rw [if_neg c1]
    have c1t : isL (tb t (a : Int)) = true := by simpa using c1
    have i1 : ∀ d h, am_cI d N_md_isIn [.inr (.inl (tb t (a : Int))), .inr (.inl (97)), .inr (.inl (122))] h = some (1, h) := fun d h => by rw [md_isIn, if_pos (isL_iff.mp c1t)]
    have hat : a < t.length := by
      rcases Nat.lt_or_ge a t.length with h | h
      · exact h
      · unfold tb at c1t; rw [if_neg (by omega)] at c1t; exact absurd c1t (by decide)
    have hel : le t a ≤ t.length := rn_le isL t hah
    have heg : a < le t a := by
      have : le t a = rn isL t a := rfl
      rw [tb_get hat] at c1t
      rw [this, rn_step hat, if_pos c1t]
      exact rn_ge isL t (a + 1)
    have hlet : ∀ i, a ≤ i → i < le t a → isL (t.getD i 0) = true := fun i h1 h2 => (rn_in (P := isL) h1 h2).2
    have hout : isL (tb t (le t a : Int)) = false := rn_out (P := isL) (by decide) hah
    generalize hz : le t a = z at *
    -- the letters are told
    have lets : ∃ U, EV (d + 4) N_md_readsItem T_md_readsItem_37 [.inr (.inr (some (m))), .inl ((a : Int)), am_nul, am_nul, am_nul, am_nul, am_nul] [] (MH m g (am_fu S1 8 (fun _ => 0))) = EV (d + 4) N_md_readsItem T_md_readsItem_112 [.inr (.inr (some (m))), .inl ((a : Int)), am_nul, am_nul, am_nul, am_nul, am_nul] [] (MH m g U) ∧ fd [7, 8, 9] S U ∧ U 9 0 = (z : Int) ∧ U 8 0 = ((z - a : Nat) : Int) ∧ ∀ i, i < min (z - a) 10 → U 7 i = t.getD (a + i) 0 - 96 := by
      refine am_loop (S := Nat × (Nat → Nat → Int)) (F := fun s => EV (d + 4) N_md_readsItem T_md_readsItem_37 [.inr (.inr (some (m))), .inl ((a : Int)), am_nul, am_nul, am_nul, am_nul, am_nul] [] (MH m g s.2)) (I := fun s => a + s.1 ≤ z ∧ fd [7, 8, 9] S s.2 ∧ s.2 9 0 = ((a + s.1 : Nat) : Int) ∧ s.2 8 0 = (s.1 : Int) ∧ ∀ i, i < min s.1 10 → s.2 7 i = t.getD (a + i) 0 - 96)
        (R := fun o => ∃ U, o = EV (d + 4) N_md_readsItem T_md_readsItem_112 [.inr (.inr (some (m))), .inl ((a : Int)), am_nul, am_nul, am_nul, am_nul, am_nul] [] (MH m g U) ∧ fd [7, 8, 9] S U ∧ U 9 0 = (z : Int) ∧ U 8 0 = ((z - a : Nat) : Int) ∧ ∀ i, i < min (z - a) 10 → U 7 i = t.getD (a + i) 0 - 96) (fun s => z - a - s.1) ?_ (0, am_fu S1 8 (fun _ => 0)) ⟨by dsimp only; omega, (F1.wide (by decide)).up (by decide) _, by dsimp only; rw [fu_ne (by decide)]; exact n1, by dsimp only; rw [fu_self]; rfl, fun i hi => by simp at hi⟩
      rintro ⟨j, U⟩ ⟨p1, p2, p3, p4, p5⟩
      dsimp only at p1 p2 p3 p4 p5 ⊢
      have HU := H.frd p2 (by decide)
      have a1 := fun d => md_byteAt (m := m) (g := g) HU.1 (k := ((a + j : Nat) : Int)) (by omega) d
      by_cases c : a + j = z
      · left
        have i2 : ∀ d h, am_cI d N_md_isIn [.inr (.inl (tb t ((a + j : Nat) : Int))), .inr (.inl (97)), .inr (.inl (122))] h = some (0, h) := fun d h => by rw [md_isIn, c, if_neg (fun g => by rw [isL_iff.mpr g] at hout; exact Bool.noConfusion hout)]
        refine ⟨U, ?_, p2, by rw [← c]; exact p3, by rw [p4]; omega, fun i hi => p5 i (by omega)⟩
        (try dsimp only); rw [B_md_readsItem_37]; (try simp (disch := omega) only [Option.bind_some, if_true, if_false, eq_self, not_true_eq_false, not_false_eq_true, am_w_id, if_pos, if_neg, fu_self, fu_ne, Int.toNat_natCast, m_gI_9, m_p_9, m_O, p3, a1, i2])
      · right
        have hlt : a + j < t.length := by omega
        have hL := hlet (a + j) (by omega) (by omega)
        have hLb := isL_iff.mp hL
        rw [tb_get hlt] at a1
        have i2 : ∀ d h, am_cI d N_md_isIn [.inr (.inl (t.getD (a + j) 0)), .inr (.inl (97)), .inr (.inl (122))] h = some (1, h) := fun d h => by rw [md_isIn, if_pos hLb]
        have e8 : (j : Int) + 1 = ((j + 1 : Nat) : Int) := by omega
        have e9 : ((a + j : Nat) : Int) + 1 = ((a + (j + 1) : Nat) : Int) := by omega
        have ev : t.getD (a + j) 0 - 97 + 1 = t.getD (a + j) 0 - 96 := by omega
        by_cases c10 : 10 ≤ j
        · refine ⟨(j + 1, am_fu (am_fu U 8 (fun _ => ((j + 1 : Nat) : Int))) 9 (fun _ => ((a + (j + 1) : Nat) : Int))), ⟨by dsimp only; omega, (p2.up (by decide) _).up (by decide) _, by dsimp only; rw [fu_self], by dsimp only; rw [fu_ne (by decide), fu_self], fun i hi => ?_⟩, by dsimp only; omega, ?_⟩
          · dsimp only at hi ⊢
            rw [fu_ne (by decide), fu_ne (by decide)]
            exact p5 i (by omega)
          · have c10' : (10 : Int) ≤ (j : Int) := by omega
            (try dsimp only); rw [B_md_readsItem_37]; (try simp (disch := omega) only [Option.bind_some, if_true, if_false, eq_self, not_true_eq_false, not_false_eq_true, am_w_id, if_pos, if_neg, fu_self, fu_ne, Int.toNat_natCast, m_gI_9, m_p_9, m_O, p3, p4, a1, i2, c10', e8, e9, show ¬ (1 : Int) = 0 by decide]); rw [B_md_readsItem_58]; (try simp (disch := omega) only [Option.bind_some, if_true, if_false, eq_self, not_true_eq_false, not_false_eq_true, am_w_id, if_pos, if_neg, fu_self, fu_ne, Int.toNat_natCast, m_gI_8, m_p_8, p3, p4, a1, i2, c10', e8, e9, show ¬ (1 : Int) = 0 by decide]); rw [B_md_readsItem_89]; (try simp (disch := omega) only [Option.bind_some, if_true, if_false, eq_self, not_true_eq_false, not_false_eq_true, am_w_id, if_pos, if_neg, fu_self, fu_ne, Int.toNat_natCast, m_gI_8, m_p_8, m_gI_9, m_p_9, p3, p4, a1, i2, c10', e8, e9, show ¬ (1 : Int) = 0 by decide])
        · refine ⟨(j + 1, am_fu (am_fu (am_fu U 7 (am_fu (U 7) j (t.getD (a + j) 0 - 96))) 8 (fun _ => ((j + 1 : Nat) : Int))) 9 (fun _ => ((a + (j + 1) : Nat) : Int))), ⟨by dsimp only; omega, ((p2.up (by decide) _).up (by decide) _).up (by decide) _, by dsimp only; rw [fu_self], by dsimp only; rw [fu_ne (by decide), fu_self], fun i hi => ?_⟩, by dsimp only; omega, ?_⟩
          · dsimp only at hi ⊢
            rw [fu_ne (by decide), fu_ne (by decide), fu_self]
            by_cases ci : i = j
            · subst ci; rw [fu_self]
            · rw [fu_ne ci]; exact p5 i (by omega)
          · have c10' : ¬ (10 : Int) ≤ (j : Int) := by omega
            (try dsimp only); rw [B_md_readsItem_37]; (try simp (disch := omega) only [Option.bind_some, if_true, if_false, eq_self, not_true_eq_false, not_false_eq_true, am_w_id, if_pos, if_neg, fu_self, fu_ne, Int.toNat_natCast, m_gI_9, m_p_9, m_O, p3, p4, a1, i2, c10', e8, e9, ev, show ¬ (1 : Int) = 0 by decide]); rw [B_md_readsItem_58]; (try simp (disch := omega) only [Option.bind_some, if_true, if_false, eq_self, not_true_eq_false, not_false_eq_true, am_w_id, if_pos, if_neg, fu_self, fu_ne, Int.toNat_natCast, m_gI_8, m_p_8, p3, p4, a1, i2, c10', e8, e9, ev, show ¬ (1 : Int) = 0 by decide]); rw [B_md_readsItem_67]; (try simp (disch := omega) only [Option.bind_some, if_true, if_false, eq_self, not_true_eq_false, not_false_eq_true, am_w_id, if_pos, if_neg, fu_self, fu_ne, Int.toNat_natCast, m_gR_7, m_l_7, m_s_7, m_gI_8, m_p_8, m_gI_9, m_p_9, m_O, p3, p4, a1, i2, c10', e8, e9, ev, show ¬ (1 : Int) = 0 by decide]); rw [B_md_readsItem_89]; (try simp (disch := omega) only [Option.bind_some, if_true, if_false, eq_self, not_true_eq_false, not_false_eq_true, am_w_id, if_pos, if_neg, fu_self, fu_ne, Int.toNat_natCast, m_gI_8, m_p_8, m_gI_9, m_p_9, p3, p4, a1, i2, c10', e8, e9, ev, show ¬ (1 : Int) = 0 by decide])
    obtain ⟨U, eU, FU, u9, u8, u7⟩ := lets
    have FU' := FU.wide (l' := [7, 8, 9, 10, 11, 12]) (by decide)
    have HU := H.frd FU (by decide)
    have start : am_call (d + 4) N_md_readsItem [.inr (.inr (some (m)))] (MH m g S) = EV (d + 4) N_md_readsItem T_md_readsItem_112 [.inr (.inr (some (m))), .inl ((a : Int)), am_nul, am_nul, am_nul, am_nul, am_nul] [] (MH m g U) := by
      refine Eq.trans ?_ eU
      (try dsimp only); rw [en_md_readsItem]; (try simp (disch := omega) only [Option.bind_some, if_true, if_false, eq_self, not_true_eq_false, not_false_eq_true, am_w_id, if_pos, if_neg, fu_self, fu_ne, Int.toNat_natCast, e1, i1, n1, show ¬ (1 : Int) = 0 by decide]); rw [B_md_readsItem_0]; (try simp (disch := omega) only [Option.bind_some, if_true, if_false, eq_self, not_true_eq_false, not_false_eq_true, am_w_id, if_pos, if_neg, fu_self, fu_ne, Int.toNat_natCast, m_O, e1, i1, n1, show ¬ (1 : Int) = 0 by decide]); rw [B_md_readsItem_27]; (try simp (disch := omega) only [Option.bind_some, if_true, if_false, eq_self, not_true_eq_false, not_false_eq_true, am_w_id, if_pos, if_neg, fu_self, fu_ne, Int.toNat_natCast, m_gI_9, m_p_9, m_gI_8, m_p_8, e1, i1, n1, show ¬ (1 : Int) = 0 by decide])
    by_cases c2 : 10 < z - a
    · rw [if_pos c2]
      have f1 := fun d => md_fails (m := m) (g := g) (S := U) 2 (a : Int) (by decide) (by omega) d
      obtain ⟨q1, q2⟩ := fail U 2 a FU' (by decide) (by omega)
      refine ⟨0, _, am_cI_of (start.trans ?_), q1, rfl, q2⟩
      have c2' : ¬ ((z - a : Nat) : Int) ≤ 10 := by omega
      (try dsimp only); rw [B_md_readsItem_112]; (try simp (disch := omega) only [Option.bind_some, if_true, if_false, eq_self, not_true_eq_false, not_false_eq_true, am_w_id, if_pos, if_neg, fu_self, fu_ne, Int.toNat_natCast, m_gI_8, m_p_8, u8, c2', f1]); rw [B_md_readsItem_121]; (try simp (disch := omega) only [Option.bind_some, if_true, if_false, eq_self, not_true_eq_false, not_false_eq_true, am_w_id, if_pos, if_neg, fu_self, fu_ne, Int.toNat_natCast, m_O, u8, c2', f1])
    · rw [if_neg c2]
      have c2' : ((z - a : Nat) : Int) ≤ 10 := by omega
      have wl0 : wl (spl t a (z - a)) := spl_wl (fun i h1 h2 h3 => hlet i h1 (by omega))
      have len0 : (spl t a (z - a)).length = z - a := spl_len (by omega)
      have spg : ∀ i, i < z - a → (spl t a (z - a)).getD i 0 = t.getD (a + i) 0 - 96 := by
        intro i hi
        unfold spl
        rw [List.getD_eq_getElem?_getD, List.getElem?_map, List.getElem?_take_of_lt hi, List.getElem?_drop, List.getElem?_eq_getElem (show a + i < t.length by omega), gd_s (show a + i < t.length by omega)]
        rfl
      have TU : toldR U (spl t a (z - a)) := ⟨by rw [len0]; exact u8, by omega, fun i hi => by rw [len0] at hi; rw [u7 i (by omega), spg i hi]⟩
      have wkk : ∀ x, 0 ≤ x ∧ x ≤ 999999 → wk (spl t a (z - a), x) := fun x hx => ⟨wl0, fun e => by have := congrArg List.length e; dsimp only at this; rw [len0, List.length_nil] at this; omega, by dsimp only; omega, hx.1, hx.2⟩
      have mU11 : ml 1213 (U 11) 0 rd := by rw [FU 11 (by decide)]; exact L2
      have mU12 : ml 2402 (U 12) 0 cu := by rw [FU 12 (by decide)]; exact L3
      have b1 := fun d => md_placeOf (g := g) (o := 0) (m_row_11 (m := m)) (by decide) mU11 hI.1.1 TU wl0 d
      have b2 := fun d => md_isThere (g := g) (o := 0) (m_row_11 (m := m)) (by decide) mU11 hI.1.1 TU wl0 d
      have b3 := fun d => md_placeOf (g := g) (o := 0) (m_row_12 (m := m)) (by decide) mU12 hI.2.1.1 TU wl0 d
      have b4 := fun d => md_isThere (g := g) (o := 0) (m_row_12 (m := m)) (by decide) mU12 hI.2.1.1 TU wl0 d
      have b1' : ∀ d, am_cI (d + 2) N_md_placeOf [.inr (.inr (some (m))), .inr (.inr (some (m + 7))), .inl (0)] (MH m g U) = some ((ah rd (spl t a (z - a)) : Int), MH m g U) := b1
      have b2' : ∀ d, am_cI (d + 2) N_md_isThere [.inr (.inr (some (m))), .inr (.inr (some (m + 7))), .inl (0), .inl ((ah rd (spl t a (z - a)) : Int))] (MH m g U) = some (if nu rd (spl t a (z - a)) = none then 0 else 1, MH m g U) := b2
      have b3' : ∀ d, am_cI (d + 2) N_md_placeOf [.inr (.inr (some (m))), .inr (.inr (some (m + 8))), .inl (0)] (MH m g U) = some ((ah cu (spl t a (z - a)) : Int), MH m g U) := b3
      have b4' : ∀ d, am_cI (d + 2) N_md_isThere [.inr (.inr (some (m))), .inr (.inr (some (m + 8))), .inl (0), .inl ((ah cu (spl t a (z - a)) : Int))] (MH m g U) = some (if nu cu (spl t a (z - a)) = none then 0 else 1, MH m g U) := b4
      have u120 : U 12 0 = (cu.length : Int) := mU12.1
      generalize spl t a (z - a) = w at *
      by_cases c3 : nu rd w ≠ none
      · rw [if_pos c3]
        simp only [if_neg c3] at b2'
        have f1 := fun d => md_fails (m := m) (g := g) (S := U) 3 (a : Int) (by decide) (by omega) d
        obtain ⟨q1, q2⟩ := fail U 3 a FU' (by decide) (by omega)
        refine ⟨0, _, am_cI_of (start.trans ?_), q1, rfl, q2⟩
        (try dsimp only); rw [B_md_readsItem_112]; (try simp (disch := omega) only [Option.bind_some, if_true, if_false, eq_self, not_true_eq_false, not_false_eq_true, am_w_id, if_pos, if_neg, fu_self, fu_ne, Int.toNat_natCast, m_gI_8, m_p_8, u8, c2', b1', b2', f1, show ¬ (1 : Int) = 0 by decide]); rw [B_md_readsItem_128]; (try simp (disch := omega) only [Option.bind_some, if_true, if_false, eq_self, not_true_eq_false, not_false_eq_true, am_w_id, if_pos, if_neg, fu_self, fu_ne, Int.toNat_natCast, m_gR_11, m_l_11, m_s_11, m_O, u8, c2', b1', b2', f1, show ¬ (1 : Int) = 0 by decide]); rw [B_md_readsItem_149]; (try simp (disch := omega) only [Option.bind_some, if_true, if_false, eq_self, not_true_eq_false, not_false_eq_true, am_w_id, if_pos, if_neg, fu_self, fu_ne, Int.toNat_natCast, m_O, u8, c2', b1', b2', f1, show ¬ (1 : Int) = 0 by decide])
      · rw [if_neg c3]
        have c3' := Decidable.not_not.mp c3
        simp only [if_pos c3'] at b2'
        by_cases c4 : nu cu w = none ∧ 100 ≤ cu.length
        · rw [if_pos c4]
          simp only [if_pos c4.1] at b4'
          have f1 := fun d => md_fails (m := m) (g := g) (S := U) 4 (a : Int) (by decide) (by omega) d
          obtain ⟨q1, q2⟩ := fail U 4 a FU' (by decide) (by omega)
          refine ⟨0, _, am_cI_of (start.trans ?_), q1, rfl, q2⟩
          have hl := hI.2.1.2.2
          have c4' : (cu.length : Int) = 100 := by omega
          (try dsimp only); rw [B_md_readsItem_112]; (try simp (disch := omega) only [Option.bind_some, if_true, if_false, eq_self, not_true_eq_false, not_false_eq_true, am_w_id, if_pos, if_neg, fu_self, fu_ne, Int.toNat_natCast, m_gI_8, m_p_8, u8, c2', b1', b2', b3', b4', u120, c4', f1, Int.reduceToNat, show ¬ (1 : Int) = 0 by decide]); rw [B_md_readsItem_128]; (try simp (disch := omega) only [Option.bind_some, if_true, if_false, eq_self, not_true_eq_false, not_false_eq_true, am_w_id, if_pos, if_neg, fu_self, fu_ne, Int.toNat_natCast, m_gR_11, m_l_11, m_s_11, m_O, u8, c2', b1', b2', b3', b4', u120, c4', f1, Int.reduceToNat, show ¬ (1 : Int) = 0 by decide]); rw [B_md_readsItem_156]; (try simp (disch := omega) only [Option.bind_some, if_true, if_false, eq_self, not_true_eq_false, not_false_eq_true, am_w_id, if_pos, if_neg, fu_self, fu_ne, Int.toNat_natCast, m_gR_12, m_l_12, m_s_12, m_O, u8, c2', b1', b2', b3', b4', u120, c4', f1, Int.reduceToNat, show ¬ (1 : Int) = 0 by decide]); rw [B_md_readsItem_177]; (try simp (disch := omega) only [Option.bind_some, if_true, if_false, eq_self, not_true_eq_false, not_false_eq_true, am_w_id, if_pos, if_neg, fu_self, fu_ne, Int.toNat_natCast, u8, c2', b1', b2', b3', b4', u120, c4', f1, Int.reduceToNat, show ¬ (1 : Int) = 0 by decide]); rw [B_md_readsItem_182]; (try simp (disch := omega) only [Option.bind_some, if_true, if_false, eq_self, not_true_eq_false, not_false_eq_true, am_w_id, if_pos, if_neg, fu_self, fu_ne, Int.toNat_natCast, u8, c2', b1', b2', b3', b4', u120, c4', f1, Int.reduceToNat, show ¬ (1 : Int) = 0 by decide]); rw [B_md_readsItem_187]; (try simp (disch := omega) only [Option.bind_some, if_true, if_false, eq_self, not_true_eq_false, not_false_eq_true, am_w_id, if_pos, if_neg, fu_self, fu_ne, Int.toNat_natCast, m_gR_12, m_l_12, m_s_12, u8, c2', b1', b2', b3', b4', u120, c4', f1, Int.reduceToNat, show ¬ (1 : Int) = 0 by decide]); rw [B_md_readsItem_198]; (try simp (disch := omega) only [Option.bind_some, if_true, if_false, eq_self, not_true_eq_false, not_false_eq_true, am_w_id, if_pos, if_neg, fu_self, fu_ne, Int.toNat_natCast, m_O, u8, c2', b1', b2', b3', b4', u120, c4', f1, Int.reduceToNat, show ¬ (1 : Int) = 0 by decide])
        · rw [if_neg c4]
          have c4n : nu cu w = none → cu.length < 100 := fun g => by
            have : ¬ 100 ≤ cu.length := fun g2 => c4 ⟨g, g2⟩
            omega
          -- on to the number
          have to205 : ∃ x2, EV (d + 4) N_md_readsItem T_md_readsItem_112 [.inr (.inr (some (m))), .inl ((a : Int)), am_nul, am_nul, am_nul, am_nul, am_nul] [] (MH m g U) = EV (d + 4) N_md_readsItem T_md_readsItem_205 [.inr (.inr (some (m))), .inl ((a : Int)), .inl (x2), am_nul, am_nul, am_nul, am_nul] [] (MH m g U) := by
            by_cases cn : nu cu w = none
            · simp only [if_pos cn] at b4'
              have := c4n cn
              have c4' : ¬ (cu.length : Int) = 100 := by omega
              refine ⟨1, ?_⟩
              (try dsimp only); rw [B_md_readsItem_112]; (try simp (disch := omega) only [Option.bind_some, if_true, if_false, eq_self, not_true_eq_false, not_false_eq_true, am_w_id, if_pos, if_neg, fu_self, fu_ne, Int.toNat_natCast, m_gI_8, m_p_8, u8, c2', b1', b2', b3', b4', u120, c4', Int.reduceToNat, show ¬ (1 : Int) = 0 by decide]); rw [B_md_readsItem_128]; (try simp (disch := omega) only [Option.bind_some, if_true, if_false, eq_self, not_true_eq_false, not_false_eq_true, am_w_id, if_pos, if_neg, fu_self, fu_ne, Int.toNat_natCast, m_gR_11, m_l_11, m_s_11, m_O, u8, c2', b1', b2', b3', b4', u120, c4', Int.reduceToNat, show ¬ (1 : Int) = 0 by decide]); rw [B_md_readsItem_156]; (try simp (disch := omega) only [Option.bind_some, if_true, if_false, eq_self, not_true_eq_false, not_false_eq_true, am_w_id, if_pos, if_neg, fu_self, fu_ne, Int.toNat_natCast, m_gR_12, m_l_12, m_s_12, m_O, u8, c2', b1', b2', b3', b4', u120, c4', Int.reduceToNat, show ¬ (1 : Int) = 0 by decide]); rw [B_md_readsItem_177]; (try simp (disch := omega) only [Option.bind_some, if_true, if_false, eq_self, not_true_eq_false, not_false_eq_true, am_w_id, if_pos, if_neg, fu_self, fu_ne, Int.toNat_natCast, u8, c2', b1', b2', b3', b4', u120, c4', Int.reduceToNat, show ¬ (1 : Int) = 0 by decide]); rw [B_md_readsItem_182]; (try simp (disch := omega) only [Option.bind_some, if_true, if_false, eq_self, not_true_eq_false, not_false_eq_true, am_w_id, if_pos, if_neg, fu_self, fu_ne, Int.toNat_natCast, u8, c2', b1', b2', b3', b4', u120, c4', Int.reduceToNat, show ¬ (1 : Int) = 0 by decide]); rw [B_md_readsItem_187]; (try simp (disch := omega) only [Option.bind_some, if_true, if_false, eq_self, not_true_eq_false, not_false_eq_true, am_w_id, if_pos, if_neg, fu_self, fu_ne, Int.toNat_natCast, m_gR_12, m_l_12, m_s_12, u8, c2', b1', b2', b3', b4', u120, c4', Int.reduceToNat, show ¬ (1 : Int) = 0 by decide])
            · simp only [if_neg cn] at b4'
              refine ⟨0, ?_⟩
              (try dsimp only); rw [B_md_readsItem_112]; (try simp (disch := omega) only [Option.bind_some, if_true, if_false, eq_self, not_true_eq_false, not_false_eq_true, am_w_id, if_pos, if_neg, fu_self, fu_ne, Int.toNat_natCast, m_gI_8, m_p_8, u8, c2', b1', b2', b3', b4', show ¬ (1 : Int) = 0 by decide]); rw [B_md_readsItem_128]; (try simp (disch := omega) only [Option.bind_some, if_true, if_false, eq_self, not_true_eq_false, not_false_eq_true, am_w_id, if_pos, if_neg, fu_self, fu_ne, Int.toNat_natCast, m_gR_11, m_l_11, m_s_11, m_O, u8, c2', b1', b2', b3', b4', show ¬ (1 : Int) = 0 by decide]); rw [B_md_readsItem_156]; (try simp (disch := omega) only [Option.bind_some, if_true, if_false, eq_self, not_true_eq_false, not_false_eq_true, am_w_id, if_pos, if_neg, fu_self, fu_ne, Int.toNat_natCast, m_gR_12, m_l_12, m_s_12, m_O, u8, c2', b1', b2', b3', b4', show ¬ (1 : Int) = 0 by decide]); rw [B_md_readsItem_181]; (try simp (disch := omega) only [Option.bind_some, if_true, if_false, eq_self, not_true_eq_false, not_false_eq_true, am_w_id, if_pos, if_neg, fu_self, fu_ne, Int.toNat_natCast, u8, c2', b1', b2', b3', b4', show ¬ (1 : Int) = 0 by decide]); rw [B_md_readsItem_182]; (try simp (disch := omega) only [Option.bind_some, if_true, if_false, eq_self, not_true_eq_false, not_false_eq_true, am_w_id, if_pos, if_neg, fu_self, fu_ne, Int.toNat_natCast, u8, c2', b1', b2', b3', b4', show ¬ (1 : Int) = 0 by decide])
          obtain ⟨x2, e205⟩ := to205
          obtain ⟨V, eV, v9, FV⟩ := md_next (m := m) (g := g) HU.1 hel u9 (d + 2)
          have HV := HU.frd FV (by decide)
          have FV' := FU'.tr (FV.wide (l' := [7, 8, 9, 10, 11, 12]) (by decide))
          have TV := TU.fd FV (by decide)
          have hbl := rn_ge isS t z
          have hbh := rn_le isS t hel
          generalize hb : rn isS t z = b at *
          -- both puts
          have puts2 : ∀ (W : Nat → Nat → Int) (x : Int) (at' : Nat) (j4 j5 j6 : am_V), 0 ≤ x ∧ x ≤ 999999 → fd [9] U W → W 9 0 = (at' : Int) → ∃ S', EV (d + 4) N_md_readsItem T_md_readsItem_353 [.inr (.inr (some (m))), .inl ((a : Int)), .inl (x2), .inl (x), j4, j5, j6] [] (MH m g W) = some (some (.inl 1), MH m g S') ∧ fd [7, 8, 9, 10, 11, 12] S S' ∧ LSt S' at' (put rd w x) (put cu w x) := by
            intro W x at' j4 j5 j6 hx FW w9
            have TW := TU.fd FW (by decide)
            have hput := rdI_put hI (wkk x hx) c3' c4n
            have mW11 : ml 1213 (W 11) 0 rd := by rw [FW 11 (by decide)]; exact mU11
            obtain ⟨f, e8, h3, h4⟩ := md_puts (m := m) (g := g) (o := 0) (m_row_11 (m := m)) (by decide) mW11 hI.1.1 TW wl0 (by omega) (by decide) (by decide) (by omega) d x
            have e8' : am_cV (d + 3) N_md_puts [.inr (.inr (some (m))), .inr (.inr (some (m + 7))), .inl (0), .inl (x)] (MH m g W) = some (MH m g (am_fu W 11 f)) := e8
            have mX12 : ml 2402 ((am_fu W 11 f) 12) 0 cu := by rw [fu_ne (by decide), FW 12 (by decide)]; exact mU12
            have TX : toldR (am_fu W 11 f) w := TW.fd (l := [11]) (fd.rf.up (by decide) _) (by decide)
            have hl := hI.2.1.2.2
            obtain ⟨f2, e9, h5, h6⟩ := md_puts (m := m) (g := g) (o := 0) (m_row_12 (m := m)) (by decide) mX12 hI.2.1.1 TX wl0 (by omega) (by decide) (by decide) (by omega) d x
            have e9' : am_cV (d + 3) N_md_puts [.inr (.inr (some (m))), .inr (.inr (some (m + 8))), .inl (0), .inl (x)] (MH m g (am_fu W 11 f)) = some (MH m g (am_fu (am_fu W 11 f) 12 f2)) := e9
            refine ⟨_, ?_, ((FU'.tr (FW.wide (l' := [7, 8, 9, 10, 11, 12]) (by decide))).up (j := 11) (by decide) f).up (j := 12) (by decide) f2, ?_, ?_, ?_⟩
            · (try dsimp only); rw [B_md_readsItem_353]; (try simp (disch := omega) only [Option.bind_some, if_true, if_false, eq_self, not_true_eq_false, not_false_eq_true, am_w_id, if_pos, if_neg, fu_self, fu_ne, Int.toNat_natCast, m_gR_11, m_l_11, m_s_11, m_gR_12, m_l_12, m_s_12, m_O, e8', e9'])
            · rw [fu_ne (by decide), fu_ne (by decide)]; exact w9
            · rw [fu_ne (by decide), fu_self]; exact h3
            · rw [fu_self]; exact h5
          by_cases c5 : tb t (b : Int) ≠ 61
          · rw [if_pos c5]
            obtain ⟨S', e6, F6, L6⟩ := puts2 V 0 b am_nul am_nul am_nul (by decide) FV v9
            refine ⟨1, S', am_cI_of (start.trans (e205.trans (Eq.trans ?_ e6))), F6, rfl, L6⟩
            (try dsimp only); rw [B_md_readsItem_205]; (try simp (disch := omega) only [Option.bind_some, if_true, if_false, eq_self, not_true_eq_false, not_false_eq_true, am_w_id, if_pos, if_neg, fu_self, fu_ne, Int.toNat_natCast, m_O, eV, c5])
          · rw [if_neg c5]
            have c5' := Decidable.not_not.mp c5
            have hbt : b < t.length := by
              rcases Nat.lt_or_ge b t.length with h | h
              · exact h
              · unfold tb at c5'; rw [if_neg (by omega)] at c5'; omega
            have V9 : (am_fu V 9 (fun _ => ((b + 1 : Nat) : Int))) 9 0 = ((b + 1 : Nat) : Int) := by rw [fu_self]
            have FV1 : fd [9] U (am_fu V 9 (fun _ => ((b + 1 : Nat) : Int))) := FV.up (by decide) _
            have HV1 := HU.frd FV1 (by decide)
            obtain ⟨X, eX, x9, FX⟩ := md_next (m := m) (g := g) HV1.1 (n := b + 1) (by omega) V9 (d + 2)
            have FX1 := FV1.tr FX
            have HX := HU.frd FX1 (by decide)
            have hcl := rn_ge isS t (b + 1)
            have hch := rn_le isS t (n := b + 1) (by omega)
            generalize hc : rn isS t (b + 1) = c at *
            have eb : (b : Int) + 1 = ((b + 1 : Nat) : Int) := by omega
            by_cases c6 : isD (tb t (c : Int)) = false
            · rw [if_pos c6]
              have i6 : ∀ d h, am_cI d N_md_isIn [.inr (.inl (tb t (c : Int))), .inr (.inl (48)), .inr (.inl (57))] h = some (0, h) := fun d h => by rw [md_isIn, if_neg (fun g => by rw [isD_iff.mpr g] at c6; exact Bool.noConfusion c6)]
              have f1 := fun d => md_fails (m := m) (g := g) (S := X) 1 (c : Int) (by decide) (by omega) d
              obtain ⟨q1, q2⟩ := fail X 1 c (FU'.tr (FX1.wide (by decide))) (by decide) (by omega)
              refine ⟨0, _, am_cI_of (start.trans (e205.trans ?_)), q1, rfl, q2⟩
              (try dsimp only); rw [B_md_readsItem_205]; (try simp (disch := omega) only [Option.bind_some, if_true, if_false, eq_self, not_true_eq_false, not_false_eq_true, am_w_id, if_pos, if_neg, fu_self, fu_ne, Int.toNat_natCast, m_O, eV, c5', v9, eb, eX, i6, x9, f1, show ¬ (1 : Int) = 0 by decide]); rw [B_md_readsItem_216]; (try simp (disch := omega) only [Option.bind_some, if_true, if_false, eq_self, not_true_eq_false, not_false_eq_true, am_w_id, if_pos, if_neg, fu_self, fu_ne, Int.toNat_natCast, m_gI_9, m_p_9, m_O, eV, c5', v9, eb, eX, i6, x9, f1, show ¬ (1 : Int) = 0 by decide]); rw [B_md_readsItem_243]; (try simp (disch := omega) only [Option.bind_some, if_true, if_false, eq_self, not_true_eq_false, not_false_eq_true, am_w_id, if_pos, if_neg, fu_self, fu_ne, Int.toNat_natCast, m_gI_9, m_p_9, m_O, eV, c5', v9, eb, eX, i6, x9, f1, show ¬ (1 : Int) = 0 by decide])
            · rw [if_neg c6]
              have c6t : isD (tb t (c : Int)) = true := by simpa using c6
              have i6 : ∀ d h, am_cI d N_md_isIn [.inr (.inl (tb t (c : Int))), .inr (.inl (48)), .inr (.inl (57))] h = some (1, h) := fun d h => by rw [md_isIn, if_pos (isD_iff.mp c6t)]
              have hdl := rn_ge isD t c
              have hdh := rn_le isD t hch
              have hdig : ∀ i, c ≤ i → i < rn isD t c → isD (t.getD i 0) = true := fun i h1 h2 => (rn_in (P := isD) h1 h2).2
              have hdout : isD (tb t (rn isD t c : Int)) = false := rn_out (P := isD) (by decide) hch
              generalize hy : rn isD t c = y at *
              have hvb : ∀ k, c + k ≤ y → 0 ≤ dval t c k ∧ dval t c k ≤ 9999999 := fun k hk => dval_bd k (by omega) (fun i hi => isD_iff.mp (hdig _ (by omega) (by omega)))
              have to262 : EV (d + 4) N_md_readsItem T_md_readsItem_205 [.inr (.inr (some (m))), .inl ((a : Int)), .inl (x2), am_nul, am_nul, am_nul, am_nul] [] (MH m g U) = EV (d + 4) N_md_readsItem T_md_readsItem_262 [.inr (.inr (some (m))), .inl ((a : Int)), .inl (x2), .inl (0), .inl ((c : Int)), .inr (.inl (0)), am_nul] [] (MH m g X) := by
                (try dsimp only); rw [B_md_readsItem_205]; (try simp (disch := omega) only [Option.bind_some, if_true, if_false, eq_self, not_true_eq_false, not_false_eq_true, am_w_id, if_pos, if_neg, fu_self, fu_ne, Int.toNat_natCast, m_O, eV, c5', v9, eb, eX, i6, x9, show ¬ (1 : Int) = 0 by decide]); rw [B_md_readsItem_216]; (try simp (disch := omega) only [Option.bind_some, if_true, if_false, eq_self, not_true_eq_false, not_false_eq_true, am_w_id, if_pos, if_neg, fu_self, fu_ne, Int.toNat_natCast, m_gI_9, m_p_9, m_O, eV, c5', v9, eb, eX, i6, x9, show ¬ (1 : Int) = 0 by decide]); rw [B_md_readsItem_253]; (try simp (disch := omega) only [Option.bind_some, if_true, if_false, eq_self, not_true_eq_false, not_false_eq_true, am_w_id, if_pos, if_neg, fu_self, fu_ne, Int.toNat_natCast, m_gI_9, m_p_9, eV, c5', v9, eb, eX, i6, x9, show ¬ (1 : Int) = 0 by decide])
              -- the digits
              have digs := am_loop (S := Nat × (Nat → Nat → Int)) (F := fun s => EV (d + 4) N_md_readsItem T_md_readsItem_262 [.inr (.inr (some (m))), .inl ((a : Int)), .inl (x2), .inl (0), .inl ((c : Int)), .inr (.inl (dval t c s.1)), am_nul] [] (MH m g s.2)) (I := fun s => c + s.1 ≤ y ∧ fd [9] U s.2 ∧ s.2 9 0 = ((c + s.1 : Nat) : Int))
                (R := fun o => ∃ W, o = EV (d + 4) N_md_readsItem T_md_readsItem_332 [.inr (.inr (some (m))), .inl ((a : Int)), .inl (x2), .inl (0), .inl ((c : Int)), .inr (.inl (dval t c (y - c))), am_nul] [] (MH m g W) ∧ fd [9] U W ∧ W 9 0 = (y : Int)) (fun s => y - c - s.1) ?_ (0, X) ⟨by dsimp only; omega, FX1, x9⟩
              · obtain ⟨W, eW, FW, w9⟩ := digs
                have e0 : dval t c 0 = 0 := by unfold dval; rw [List.take_zero]; rfl
                dsimp only at eW
                rw [e0] at eW
                have hvb1 := hvb (y - c) (by omega)
                by_cases c7 : 999999 < dval t c (y - c)
                · rw [if_pos c7]
                  have f1 := fun d => md_fails (m := m) (g := g) (S := W) 2 (c : Int) (by decide) (by omega) d
                  obtain ⟨q1, q2⟩ := fail W 2 c (FU'.tr (FW.wide (by decide))) (by decide) (by omega)
                  refine ⟨0, _, am_cI_of (start.trans (e205.trans (to262.trans (eW.trans ?_)))), q1, rfl, q2⟩
                  have lc : ¬ am_lcmp (dval t c (y - c)) 999999 ≤ 0 := fun g => by have := lc_le.mp g; omega
                  (try dsimp only); rw [B_md_readsItem_332]; (try simp (disch := omega) only [Option.bind_some, if_true, if_false, eq_self, not_true_eq_false, not_false_eq_true, am_w_id, if_pos, if_neg, fu_self, fu_ne, Int.toNat_natCast, lc, f1]); rw [B_md_readsItem_341]; (try simp (disch := omega) only [Option.bind_some, if_true, if_false, eq_self, not_true_eq_false, not_false_eq_true, am_w_id, if_pos, if_neg, fu_self, fu_ne, Int.toNat_natCast, m_O, lc, f1])
                · rw [if_neg c7]
                  have lc : am_lcmp (dval t c (y - c)) 999999 ≤ 0 := lc_le.mpr (by omega)
                  have li : am_l2i (dval t c (y - c)) = dval t c (y - c) := by rw [l2i_w ⟨by omega, by omega⟩, am_w_id (by omega) (by omega)]
                  obtain ⟨S', e6, F6, L6⟩ := puts2 W (dval t c (y - c)) y (.inl (c : Int)) (.inr (.inl (dval t c (y - c)))) am_nul ⟨hvb1.1, by omega⟩ FW w9
                  refine ⟨1, S', am_cI_of (start.trans (e205.trans (to262.trans (eW.trans (Eq.trans ?_ e6))))), F6, rfl, L6⟩
                  (try dsimp only); rw [B_md_readsItem_332]; (try simp (disch := omega) only [Option.bind_some, if_true, if_false, eq_self, not_true_eq_false, not_false_eq_true, am_w_id, if_pos, if_neg, fu_self, fu_ne, Int.toNat_natCast, lc, li]); rw [B_md_readsItem_349]; (try simp (disch := omega) only [Option.bind_some, if_true, if_false, eq_self, not_true_eq_false, not_false_eq_true, am_w_id, if_pos, if_neg, fu_self, fu_ne, Int.toNat_natCast, lc, li])
              · rintro ⟨k, W⟩ ⟨p1, p2, p3⟩
                dsimp only at p1 p2 p3 ⊢
                have HW := HU.frd p2 (by decide)
                have a1 := fun d => md_byteAt (m := m) (g := g) HW.1 (k := ((c + k : Nat) : Int)) (by omega) d
                by_cases ck : c + k = y
                · left
                  have i7 : ∀ d h, am_cI d N_md_isIn [.inr (.inl (tb t ((c + k : Nat) : Int))), .inr (.inl (48)), .inr (.inl (57))] h = some (0, h) := fun d h => by rw [md_isIn, ck, if_neg (fun g => by rw [isD_iff.mpr g] at hdout; exact Bool.noConfusion hdout)]
                  have ek : y - c = k := by omega
                  rw [ek]
                  refine ⟨W, ?_, p2, by rw [p3]; omega⟩
                  (try dsimp only); rw [B_md_readsItem_262]; (try simp (disch := omega) only [Option.bind_some, if_true, if_false, eq_self, not_true_eq_false, not_false_eq_true, am_w_id, if_pos, if_neg, fu_self, fu_ne, Int.toNat_natCast, m_gI_9, m_p_9, m_O, p3, a1, i7])
                · right
                  have hlt : c + k < t.length := by omega
                  have hDb := isD_iff.mp (hdig (c + k) (by omega) (by omega))
                  rw [tb_get hlt] at a1
                  have i7 : ∀ d h, am_cI d N_md_isIn [.inr (.inl (t.getD (c + k) 0)), .inr (.inl (48)), .inr (.inl (57))] h = some (1, h) := fun d h => by rw [md_isIn, if_pos hDb]
                  have hv := hvb k (by omega)
                  have e9 : ((c + k : Nat) : Int) + 1 = ((c + (k + 1) : Nat) : Int) := by omega
                  refine ⟨(k + 1, am_fu W 9 (fun _ => ((c + (k + 1) : Nat) : Int))), ⟨by dsimp only; omega, p2.up (by decide) _, by dsimp only; rw [fu_self]⟩, by dsimp only; omega, ?_⟩
                  dsimp only
                  rw [dval_s hlt]
                  generalize dval t c k = V9 at *
                  unfold dv1
                  by_cases cv : 999999 < V9
                  · rw [if_pos cv]
                    have lc : ¬ am_lcmp V9 999999 ≤ 0 := fun g => by have := lc_le.mp g; omega
                    (try dsimp only); rw [B_md_readsItem_262]; (try simp (disch := omega) only [Option.bind_some, if_true, if_false, eq_self, not_true_eq_false, not_false_eq_true, am_w_id, if_pos, if_neg, fu_self, fu_ne, Int.toNat_natCast, m_gI_9, m_p_9, m_O, p3, a1, i7, lc, e9, show ¬ (1 : Int) = 0 by decide]); rw [B_md_readsItem_283]; (try simp (disch := omega) only [Option.bind_some, if_true, if_false, eq_self, not_true_eq_false, not_false_eq_true, am_w_id, if_pos, if_neg, fu_self, fu_ne, Int.toNat_natCast, p3, a1, i7, lc, e9, show ¬ (1 : Int) = 0 by decide]); rw [B_md_readsItem_292]; (try simp (disch := omega) only [Option.bind_some, if_true, if_false, eq_self, not_true_eq_false, not_false_eq_true, am_w_id, if_pos, if_neg, fu_self, fu_ne, Int.toNat_natCast, p3, a1, i7, lc, e9, show ¬ (1 : Int) = 0 by decide]); rw [B_md_readsItem_317]; (try simp (disch := omega) only [Option.bind_some, if_true, if_false, eq_self, not_true_eq_false, not_false_eq_true, am_w_id, if_pos, if_neg, fu_self, fu_ne, Int.toNat_natCast, m_gI_9, m_p_9, p3, a1, i7, lc, e9, show ¬ (1 : Int) = 0 by decide])
                  · rw [if_neg cv]
                    have lc : am_lcmp V9 999999 ≤ 0 := lc_le.mpr (by omega)
                    (try dsimp only); rw [B_md_readsItem_262]; (try simp (disch := omega) only [Option.bind_some, if_true, if_false, eq_self, not_true_eq_false, not_false_eq_true, am_w_id, if_pos, if_neg, fu_self, fu_ne, Int.toNat_natCast, m_gI_9, m_p_9, m_O, p3, a1, i7, lc, am_wl_id, e9, show ¬ (1 : Int) = 0 by decide]); rw [B_md_readsItem_283]; (try simp (disch := omega) only [Option.bind_some, if_true, if_false, eq_self, not_true_eq_false, not_false_eq_true, am_w_id, if_pos, if_neg, fu_self, fu_ne, Int.toNat_natCast, p3, a1, i7, lc, am_wl_id, e9, show ¬ (1 : Int) = 0 by decide]); rw [B_md_readsItem_297]; (try simp (disch := omega) only [Option.bind_some, if_true, if_false, eq_self, not_true_eq_false, not_false_eq_true, am_w_id, if_pos, if_neg, fu_self, fu_ne, Int.toNat_natCast, m_gI_9, m_p_9, m_O, p3, a1, i7, lc, am_wl_id, e9, show ¬ (1 : Int) = 0 by decide]); rw [B_md_readsItem_317]; (try simp (disch := omega) only [Option.bind_some, if_true, if_false, eq_self, not_true_eq_false, not_false_eq_true, am_w_id, if_pos, if_neg, fu_self, fu_ne, Int.toNat_natCast, m_gI_9, m_p_9, p3, a1, i7, lc, am_wl_id, e9, show ¬ (1 : Int) = 0 by decide])
theorem mo_list (H : MR S t ws bs hs sh) (O : okS t ws bs hs sh) (d : Nat) : ∃ S', am_cI (d + 6) N_md_list [.inr (.inr (some (m)))] (MH m g S) = some ((sp_list (t, ws, bs, hs, sh)).1, MH m g S') ∧ MS S' (sp_list (t, ws, bs, hs, sh)).2 := by
  have ht := O.1.1
  have hl := O.2.1.2.2
  have hb := O.2.2.1.2.2
  -- the copy that is read into
  obtain ⟨S0, hS0⟩ : ∃ S0, S0 = am_fu (am_fu S 9 (fun _ => 0)) 11 (am_fu (S 11) 0 0) := ⟨_, rfl⟩
  have F0 : fd [9, 11] S S0 := by rw [hS0]; exact (fd.rf.up (by decide) _).up (by decide) _
  have lp := am_for (F := fun i => EV (d + 5) N_md_readsList T_md_readsList_14 [.inr (.inr (some (m))), .inl ((i : Int))] [] (MH m g (am_fu S0 12 (prf (S0 12) (S 2) i)))) (k := 0) (n := 1201) (Nat.zero_le _) (fun i _ hi => by
    have e2 : S0 2 = S 2 := F0 2 (by decide)
    have e9 : (i : Int) + 1 = ((i + 1 : Nat) : Int) := by omega
    (try dsimp only); rw [B_md_readsList_14]; (try simp (disch := omega) only [Option.bind_some, if_true, if_false, eq_self, not_true_eq_false, not_false_eq_true, am_w_id, if_pos, if_neg, fu_self, fu_ne, Int.toNat_natCast, e2, e9, prf_s, fu_fu]); rw [B_md_readsList_21]; (try simp (disch := omega) only [Option.bind_some, if_true, if_false, eq_self, not_true_eq_false, not_false_eq_true, am_w_id, if_pos, if_neg, fu_self, fu_ne, Int.toNat_natCast, m_gR_12, m_l_12, m_s_12, m_gR_2, m_l_2, m_s_2, e2, e9, prf_s, fu_fu]))
  rw [prf0, fu_eta] at lp
  obtain ⟨S1, hS1⟩ : ∃ S1, S1 = am_fu S0 12 (prf (S0 12) (S 2) 1201) := ⟨_, rfl⟩
  rw [← hS1] at lp
  have F1 : fd [7, 8, 9, 10, 11, 12] S S1 := by rw [hS1]; exact (F0.wide (by decide)).up (by decide) _
  have L1 : LSt S1 0 [] ws := by
    refine ⟨by rw [hS1, fu_ne (by decide), hS0, fu_ne (by decide), fu_self]; rfl, ⟨by rw [hS1, fu_ne (by decide), hS0, fu_self, fu_self]; rfl, by simp, fun w p hp => by simp at hp⟩, ?_⟩
    rw [hS1, fu_self]
    exact ml_cp H.2.1 (fun i hi => by rw [prf_lt (by omega)]) (by omega)
  have start : am_call (d + 5) N_md_readsList [.inr (.inr (some (m)))] (MH m g S) = EV (d + 5) N_md_readsList T_md_readsList_41 [.inr (.inr (some (m))), .inl (1)] [] (MH m g S1) := by
    refine Eq.trans ?_ (lp.trans ?_)
    · (try dsimp only); rw [en_md_readsList]; (try simp (disch := omega) only [Option.bind_some, if_true, if_false, eq_self, not_true_eq_false, not_false_eq_true, am_w_id, if_pos, if_neg, fu_self, fu_ne, Int.toNat_natCast, Int.toNat_zero]); rw [B_md_readsList_0]; (try simp (disch := omega) only [Option.bind_some, if_true, if_false, eq_self, not_true_eq_false, not_false_eq_true, am_w_id, if_pos, if_neg, fu_self, fu_ne, Int.toNat_natCast, m_gI_9, m_p_9, m_gR_11, m_l_11, m_s_11, Int.toNat_zero])
      rw [hS0]
      rfl
    · (try dsimp only); rw [B_md_readsList_14]; (try simp (disch := omega) only [Option.bind_some, if_true, if_false, eq_self, not_true_eq_false, not_false_eq_true, am_w_id, if_pos, if_neg, fu_self, fu_ne, Int.toNat_natCast]); rw [B_md_readsList_39]; (try simp (disch := omega) only [Option.bind_some, if_true, if_false, eq_self, not_true_eq_false, not_false_eq_true, am_w_id, if_pos, if_neg, fu_self, fu_ne, Int.toNat_natCast])
  -- item by item
  have loop : ∀ (k : Nat) (n : Nat) (U : Nat → Nat → Int) (rd cu : List wd), n ≤ t.length → t.length + 1 ≤ k + n → fd [7, 8, 9, 10, 11, 12] S U → LSt U n rd cu → rdI rd cu → ∃ r S', EV (d + 5) N_md_readsList T_md_readsList_41 [.inr (.inr (some (m))), .inl (1)] [] (MH m g U) = some (some (.inl r), MH m g S') ∧ fd [7, 8, 9, 10, 11, 12] S S' ∧ (match lsi t k n rd cu with
      | .inl f => r = 0 ∧ S' 10 0 = f
      | .inr ws' => r = 1 ∧ ml 2402 (S' 12) 0 ws') := by
    intro k
    induction k with
    | zero => intro n U rd cu h1 h2; omega
    | succ k ih =>
      intro n U rd cu h1 h2 FU LU hI
      have HU := H.frd FU (by decide)
      obtain ⟨r, V, eV, FV, hV⟩ := md_readsItem (m := m) (g := g) HU ht h1 LU hI d
      have FV' := FU.tr FV
      have HV := H.frd FV' (by decide)
      rw [lsi]
      cases e : itm t n rd cu with
      | inl f =>
        rw [e] at hV
        dsimp only at hV ⊢
        obtain ⟨hr, h10⟩ := hV
        subst hr
        refine ⟨0, V, ?_, FV', rfl, h10⟩
        (try dsimp only); rw [B_md_readsList_41]; (try simp (disch := omega) only [Option.bind_some, if_true, if_false, eq_self, not_true_eq_false, not_false_eq_true, am_w_id, if_pos, if_neg, fu_self, fu_ne, Int.toNat_natCast, eV, show ¬ (1 : Int) = 0 by decide]); rw [B_md_readsList_45]; (try simp (disch := omega) only [Option.bind_some, if_true, if_false, eq_self, not_true_eq_false, not_false_eq_true, am_w_id, if_pos, if_neg, fu_self, fu_ne, Int.toNat_natCast, m_O, eV, show ¬ (1 : Int) = 0 by decide]); rw [B_md_readsList_52]; (try simp (disch := omega) only [Option.bind_some, if_true, if_false, eq_self, not_true_eq_false, not_false_eq_true, am_w_id, if_pos, if_neg, fu_self, fu_ne, Int.toNat_natCast, eV, show ¬ (1 : Int) = 0 by decide])
      | inr q =>
        obtain ⟨b, rd', cu'⟩ := q
        rw [e] at hV
        dsimp only at hV ⊢
        obtain ⟨hr, LV⟩ := hV
        subst hr
        obtain ⟨hI', hb1, hb2⟩ := itm_ok h1 hI e
        obtain ⟨W, eW, w9, FW⟩ := md_next (m := m) (g := g) HV.1 hb2 LV.1 (d + 3)
        have FW' := FV'.tr (FW.wide (l' := [7, 8, 9, 10, 11, 12]) (by decide))
        have HW := H.frd FW' (by decide)
        have hcl := rn_ge isS t b
        have hch := rn_le isS t hb2
        have hcc : rn isS t (rn isS t b) = rn isS t b := by
          have ho := rn_out (P := isS) (by decide) hb2
          by_cases hlt : rn isS t b < t.length
          · rw [rn_step hlt]
            rw [tb_get hlt] at ho
            rw [if_neg (by rw [ho]; decide)]
          · exact rn_end (by omega)
        generalize hc : rn isS t b = c at *
        have mW11 : ml 1213 (W 11) 0 rd' := by rw [FW 11 (by decide)]; exact LV.2.1
        have mW12 : ml 2402 (W 12) 0 cu' := by rw [FW 12 (by decide)]; exact LV.2.2
        by_cases c1 : tb t (c : Int) = 44
        · rw [if_pos c1]
          have hct : c < t.length := by
            rcases Nat.lt_or_ge c t.length with h | h
            · exact h
            · unfold tb at c1; rw [if_neg (by omega)] at c1; omega
          have e9 : (c : Int) + 1 = ((c + 1 : Nat) : Int) := by omega
          obtain ⟨r, S', e6, F6, h6⟩ := ih (c + 1) (am_fu W 9 (fun _ => ((c + 1 : Nat) : Int))) rd' cu' (by omega) (by omega) (FW'.up (by decide) _) ⟨by rw [fu_self], by rw [fu_ne (by decide)]; exact mW11, by rw [fu_ne (by decide)]; exact mW12⟩ hI'
          refine ⟨r, S', Eq.trans ?_ e6, F6, h6⟩
          (try dsimp only); rw [B_md_readsList_41]; (try simp (disch := omega) only [Option.bind_some, if_true, if_false, eq_self, not_true_eq_false, not_false_eq_true, am_w_id, if_pos, if_neg, fu_self, fu_ne, Int.toNat_natCast, eV, eW, c1, w9, e9, show ¬ (1 : Int) = 0 by decide]); rw [B_md_readsList_45]; (try simp (disch := omega) only [Option.bind_some, if_true, if_false, eq_self, not_true_eq_false, not_false_eq_true, am_w_id, if_pos, if_neg, fu_self, fu_ne, Int.toNat_natCast, m_O, eV, eW, c1, w9, e9, show ¬ (1 : Int) = 0 by decide]); rw [B_md_readsList_54]; (try simp (disch := omega) only [Option.bind_some, if_true, if_false, eq_self, not_true_eq_false, not_false_eq_true, am_w_id, if_pos, if_neg, fu_self, fu_ne, Int.toNat_natCast, m_O, eV, eW, c1, w9, e9, show ¬ (1 : Int) = 0 by decide]); rw [B_md_readsList_63]; (try simp (disch := omega) only [Option.bind_some, if_true, if_false, eq_self, not_true_eq_false, not_false_eq_true, am_w_id, if_pos, if_neg, fu_self, fu_ne, Int.toNat_natCast, eV, eW, c1, w9, e9, show ¬ (1 : Int) = 0 by decide]); rw [B_md_readsList_68]; (try simp (disch := omega) only [Option.bind_some, if_true, if_false, eq_self, not_true_eq_false, not_false_eq_true, am_w_id, if_pos, if_neg, fu_self, fu_ne, Int.toNat_natCast, eV, eW, c1, w9, e9, show ¬ (1 : Int) = 0 by decide]); rw [B_md_readsList_73]; (try simp (disch := omega) only [Option.bind_some, if_true, if_false, eq_self, not_true_eq_false, not_false_eq_true, am_w_id, if_pos, if_neg, fu_self, fu_ne, Int.toNat_natCast, m_gI_9, m_p_9, eV, eW, c1, w9, e9, show ¬ (1 : Int) = 0 by decide])
        · rw [if_neg c1]
          obtain ⟨X, eX, x9, FX⟩ := md_next (m := m) (g := g) HW.1 hch w9 (d + 3)
          rw [hcc] at eX x9
          have FX' := FW'.tr (FX.wide (l' := [7, 8, 9, 10, 11, 12]) (by decide))
          have to86 : EV (d + 5) N_md_readsList T_md_readsList_41 [.inr (.inr (some (m))), .inl (1)] [] (MH m g U) = EV (d + 5) N_md_readsList T_md_readsList_86 [.inr (.inr (some (m))), .inl (0)] [] (MH m g W) := by
            (try dsimp only); rw [B_md_readsList_41]; (try simp (disch := omega) only [Option.bind_some, if_true, if_false, eq_self, not_true_eq_false, not_false_eq_true, am_w_id, if_pos, if_neg, fu_self, fu_ne, Int.toNat_natCast, eV, eW, c1, show ¬ (1 : Int) = 0 by decide]); rw [B_md_readsList_45]; (try simp (disch := omega) only [Option.bind_some, if_true, if_false, eq_self, not_true_eq_false, not_false_eq_true, am_w_id, if_pos, if_neg, fu_self, fu_ne, Int.toNat_natCast, m_O, eV, eW, c1, show ¬ (1 : Int) = 0 by decide]); rw [B_md_readsList_54]; (try simp (disch := omega) only [Option.bind_some, if_true, if_false, eq_self, not_true_eq_false, not_false_eq_true, am_w_id, if_pos, if_neg, fu_self, fu_ne, Int.toNat_natCast, m_O, eV, eW, c1, show ¬ (1 : Int) = 0 by decide]); rw [B_md_readsList_67]; (try simp (disch := omega) only [Option.bind_some, if_true, if_false, eq_self, not_true_eq_false, not_false_eq_true, am_w_id, if_pos, if_neg, fu_self, fu_ne, Int.toNat_natCast, eV, eW, c1, show ¬ (1 : Int) = 0 by decide]); rw [B_md_readsList_68]; (try simp (disch := omega) only [Option.bind_some, if_true, if_false, eq_self, not_true_eq_false, not_false_eq_true, am_w_id, if_pos, if_neg, fu_self, fu_ne, Int.toNat_natCast, eV, eW, c1, show ¬ (1 : Int) = 0 by decide])
            (try dsimp only); rw [B_md_readsList_41]; (try simp (disch := omega) only [Option.bind_some, if_true, if_false, eq_self, not_true_eq_false, not_false_eq_true, am_w_id, if_pos, if_neg, fu_self, fu_ne, Int.toNat_natCast])
          by_cases c2 : c < t.length
          · rw [if_pos c2]
            have f1 := fun d => md_fails (m := m) (g := g) (S := X) 1 (c : Int) (by decide) (by omega) d
            have hne : ¬ tb t (c : Int) = -1 := by
              rw [tb_get c2]
              have := by_get O.1.2 c2
              omega
            refine ⟨0, _, to86.trans ?_, FX'.up (j := 10) (by decide) (fun _ => 8 * (c : Int) + 1), rfl, by rw [fu_self]⟩
            (try dsimp only); rw [B_md_readsList_86]; (try simp (disch := omega) only [Option.bind_some, if_true, if_false, eq_self, not_true_eq_false, not_false_eq_true, am_w_id, if_pos, if_neg, fu_self, fu_ne, Int.toNat_natCast, m_O, eX, hne, x9, f1]); rw [B_md_readsList_94]; (try simp (disch := omega) only [Option.bind_some, if_true, if_false, eq_self, not_true_eq_false, not_false_eq_true, am_w_id, if_pos, if_neg, fu_self, fu_ne, Int.toNat_natCast, m_gI_9, m_p_9, m_O, eX, hne, x9, f1]); rw [B_md_readsList_110]; (try simp (disch := omega) only [Option.bind_some, if_true, if_false, eq_self, not_true_eq_false, not_false_eq_true, am_w_id, if_pos, if_neg, fu_self, fu_ne, Int.toNat_natCast, eX, hne, x9, f1]); rw [B_md_readsList_111]; (try simp (disch := omega) only [Option.bind_some, if_true, if_false, eq_self, not_true_eq_false, not_false_eq_true, am_w_id, if_pos, if_neg, fu_self, fu_ne, Int.toNat_natCast, eX, hne, x9, f1])
          · rw [if_neg c2]
            have hne : tb t (c : Int) = -1 := by unfold tb; rw [if_neg (by omega)]
            refine ⟨1, X, to86.trans ?_, FX', rfl, by rw [FX 12 (by decide)]; exact mW12⟩
            (try dsimp only); rw [B_md_readsList_86]; (try simp (disch := omega) only [Option.bind_some, if_true, if_false, eq_self, not_true_eq_false, not_false_eq_true, am_w_id, if_pos, if_neg, fu_self, fu_ne, Int.toNat_natCast, m_O, eX, hne]); rw [B_md_readsList_106]; (try simp (disch := omega) only [Option.bind_some, if_true, if_false, eq_self, not_true_eq_false, not_false_eq_true, am_w_id, if_pos, if_neg, fu_self, fu_ne, Int.toNat_natCast, eX, hne]); rw [B_md_readsList_111]; (try simp (disch := omega) only [Option.bind_some, if_true, if_false, eq_self, not_true_eq_false, not_false_eq_true, am_w_id, if_pos, if_neg, fu_self, fu_ne, Int.toNat_natCast, eX, hne])
  obtain ⟨r, S2, e2, F2, h2⟩ := loop (t.length + 1) 0 S1 [] ws (Nat.zero_le _) (by omega) F1 L1 (rdI_0 O.2.1)
  have eL : am_cI (d + 5) N_md_readsList [.inr (.inr (some (m)))] (MH m g S) = some (r, MH m g S2) := am_cI_of (start.trans e2)
  have O9 := ok_list (s := (t, ws, bs, hs, sh)) O
  unfold sp_list at O9 ⊢
  unfold rdL at O9 ⊢
  dsimp only [noT, act, MS] at O9 ⊢
  have H3 : MR (am_fu S2 1 (fun _ => 0)) [] ws bs hs sh := (H.frd F2 (by decide)).frt (l := [1]) (fd.rf.up (by decide) _) (by decide) ⟨by rw [fu_self]; rfl, by simp, fun x hx => by simp at hx, fun i hi => by simp at hi⟩
  cases e : lsi t (t.length + 1) 0 [] ws with
  | inl f =>
    rw [e] at h2
    dsimp only at h2 ⊢
    obtain ⟨hr, h10⟩ := h2
    subst hr
    have fb : ∀ (n a : Nat) (rd cu : List wd) (f : Int), a ≤ t.length → rdI rd cu → lsi t n a rd cu = .inl f → 0 ≤ f ∧ f ≤ 8 * 400 + 4 := by
      intro n
      induction n with
      | zero => intro a rd cu f _ _ h; rw [lsi] at h; injection h with h; omega
      | succ n ih =>
        intro a rd cu f ha hI h
        rw [lsi] at h
        cases e : itm t a rd cu with
        | inl f' =>
          rw [e] at h
          dsimp only at h
          injection h with h
          subst h
          have r1 := rn_le isS t ha
          unfold itm at e
          split at e; · injection e with e; omega
          next c1 =>
          have r2 := rn_le isL t r1
          have r2' : le t (rn isS t a) = rn isL t (rn isS t a) := rfl
          split at e; · injection e with e; omega
          split at e; · injection e with e; omega
          split at e; · injection e with e; omega
          split at e; · simp at e
          next c5 =>
          have c5' := Decidable.not_not.mp c5
          have r3 := rn_le isS t (n := le t (rn isS t a)) (by omega)
          have r5 : rn isS t (le t (rn isS t a)) < t.length := by
            rcases Nat.lt_or_ge (rn isS t (le t (rn isS t a))) t.length with g | g
            · exact g
            · unfold tb at c5'; rw [if_neg (by omega)] at c5'; omega
          have r4 := rn_le isS t (n := rn isS t (le t (rn isS t a)) + 1) (by omega)
          split at e; · injection e with e; omega
          split at e; · injection e with e; omega
          simp at e
        | inr q =>
          obtain ⟨b, rd', cu'⟩ := q
          rw [e] at h
          dsimp only at h
          obtain ⟨h1, h2, h3⟩ := itm_ok ha hI e
          have r1 := rn_le isS t h3
          split at h
          · next c =>
            have : rn isS t b < t.length := by
              rcases Nat.lt_or_ge (rn isS t b) t.length with g | g
              · exact g
              · unfold tb at c; rw [if_neg (by omega)] at c; omega
            exact ih _ rd' cu' f (by omega) h1 h
          · split at h
            · injection h with h; omega
            · simp at h
    have fbd := fb _ _ _ _ _ (Nat.zero_le _) (rdI_0 O.2.1) e
    have h10' : (am_fu S2 1 (fun _ => 0)) 10 0 = f := by rw [fu_ne (by decide)]; exact h10
    refine ⟨am_fu S2 1 (fun _ => 0), am_cI_of ?_, H3⟩
    (try dsimp only); rw [en_md_list]; (try simp (disch := omega) only [Option.bind_some, if_true, if_false, eq_self, not_true_eq_false, not_false_eq_true, am_w_id, if_pos, if_neg, fu_self, fu_ne, Int.toNat_natCast, eL, h10, h10']); rw [B_md_list_0]; (try simp (disch := omega) only [Option.bind_some, if_true, if_false, eq_self, not_true_eq_false, not_false_eq_true, am_w_id, if_pos, if_neg, fu_self, fu_ne, Int.toNat_natCast, m_gI_1, m_p_1, m_O, eL, h10, h10']); rw [B_md_list_14]; (try simp (disch := omega) only [Option.bind_some, if_true, if_false, eq_self, not_true_eq_false, not_false_eq_true, am_w_id, if_pos, if_neg, fu_self, fu_ne, Int.toNat_natCast, m_gI_10, m_p_10, eL, h10, h10'])
  | inr ws' =>
    rw [e] at h2 O9
    dsimp only at h2 O9 ⊢
    obtain ⟨hr, m12⟩ := h2
    subst hr
    have hwo : ok ws' := O9.2.1
    have hwl := hwo.2.2
    have m3 : ml 2402 ((am_fu S2 1 (fun _ => 0)) 12) 0 ws' := by rw [fu_ne (by decide)]; exact m12
    obtain ⟨W, e7, H7, F7⟩ := md_keepsAct (m := m) (g := g) H3 (okS_t O) (d + 5)
    have mW : ml 2402 (W 12) 0 ws' := by rw [F7 12 (by decide)]; exact m3
    have lp2 := am_for (F := fun i => EV (d + 6) N_md_list T_md_list_28 [.inr (.inr (some (m))), .inl (1), .inl ((i : Int))] [] (MH m g (am_fu W 2 (prf (W 2) (W 12) i)))) (k := 0) (n := 1201) (Nat.zero_le _) (fun i _ hi => by
      have e9 : (i : Int) + 1 = ((i + 1 : Nat) : Int) := by omega
      (try dsimp only); rw [B_md_list_28]; (try simp (disch := omega) only [Option.bind_some, if_true, if_false, eq_self, not_true_eq_false, not_false_eq_true, am_w_id, if_pos, if_neg, fu_self, fu_ne, Int.toNat_natCast, e9, prf_s, fu_fu]); rw [B_md_list_35]; (try simp (disch := omega) only [Option.bind_some, if_true, if_false, eq_self, not_true_eq_false, not_false_eq_true, am_w_id, if_pos, if_neg, fu_self, fu_ne, Int.toNat_natCast, m_gR_2, m_l_2, m_s_2, m_gR_12, m_l_12, m_s_12, e9, prf_s, fu_fu]))
    rw [prf0, fu_eta] at lp2
    have H8 : MR (am_fu W 2 (prf (W 2) (W 12) 1201)) [] ws' bs (hpush hs (ws, bs)) sh := MR_now H7 (ml_cp mW (fun i hi => by rw [prf_lt (by omega)]) (by omega)) (fun i hi => prf_ge hi) hb
    have h80 := H8.2.1.1
    rw [fu_self] at h80
    refine ⟨_, am_cI_of ?_, H8⟩
    (try dsimp only); rw [en_md_list]; (try simp (disch := omega) only [Option.bind_some, if_true, if_false, eq_self, not_true_eq_false, not_false_eq_true, am_w_id, if_pos, if_neg, fu_self, fu_ne, Int.toNat_natCast, eL, e7, show ¬ (1 : Int) = 0 by decide]); rw [B_md_list_0]; (try simp (disch := omega) only [Option.bind_some, if_true, if_false, eq_self, not_true_eq_false, not_false_eq_true, am_w_id, if_pos, if_neg, fu_self, fu_ne, Int.toNat_natCast, m_gI_1, m_p_1, m_O, eL, e7, show ¬ (1 : Int) = 0 by decide]); rw [B_md_list_22]; (try simp (disch := omega) only [Option.bind_some, if_true, if_false, eq_self, not_true_eq_false, not_false_eq_true, am_w_id, if_pos, if_neg, fu_self, fu_ne, Int.toNat_natCast, m_O, eL, e7, show ¬ (1 : Int) = 0 by decide])
    refine lp2.trans ?_
    (try dsimp only); rw [B_md_list_28]; (try simp (disch := omega) only [Option.bind_some, if_true, if_false, eq_self, not_true_eq_false, not_false_eq_true, am_w_id, if_pos, if_neg, fu_self, fu_ne, Int.toNat_natCast, h80, Int.reduceToNat]); rw [B_md_list_53]; (try simp (disch := omega) only [Option.bind_some, if_true, if_false, eq_self, not_true_eq_false, not_false_eq_true, am_w_id, if_pos, if_neg, fu_self, fu_ne, Int.toNat_natCast, m_gR_2, m_l_2, m_s_2, h80, Int.reduceToNat])
end MO
