/-! the class: a list read from the tape -/
section LR
variable {q ta to b : Nat} {g : am_H} {S : Nat → Nat → Int} {t : List Int}
theorem lr_skip (T : tp_at g ta t) (hd : ta + 2 ≤ q ∨ q + 1 ≤ ta) {n : Nat} (hn : n ≤ t.length) (h2 : S 2 0 = (n : Int)) (d : Nat) : ∃ S', am_cV (d + 1) N_lr_skipBlanks [.inr (.inr (some (q)))] (lrH ta to q g S) = some (lrH ta to q g S') ∧ S' 2 0 = (rn isS t n : Int) ∧ fd [2] S S' := by
  have ht := T.2.1
  have Tu : ∀ S, tp_at (lrH ta to q g S) ta t := fun S => T.fr lrH_fr hd
  have gT := fun S => rd_gI (Tu S).1 (k := 1) rfl
  have oT := fun S => rd_O (Tu S).1
  have key : ∃ S', EV (d + 1) N_lr_skipBlanks T_lr_skipBlanks_0 [.inr (.inr (some (q)))] [] (lrH ta to q g S) = some (none, lrH ta to q g S') ∧ S' 2 0 = (rn isS t n : Int) ∧ fd [2] S S' := by
    refine am_loop (S := Nat × (Nat → Nat → Int)) (F := fun z => EV (d + 1) N_lr_skipBlanks T_lr_skipBlanks_0 [.inr (.inr (some (q)))] [] (lrH ta to q g z.2)) (I := fun z => z.1 ≤ t.length ∧ z.2 2 0 = (z.1 : Int) ∧ fd [2] S z.2 ∧ rn isS t z.1 = rn isS t n)
      (R := fun o => ∃ S', o = some (none, lrH ta to q g S') ∧ S' 2 0 = (rn isS t n : Int) ∧ fd [2] S S') (fun z => t.length - z.1) ?_ (n, S) ⟨hn, h2, fd.rf, rfl⟩
    rintro ⟨k, U⟩ ⟨k1, k2, k3, k4⟩
    dsimp only at k1 k2 k3 k4 ⊢
    by_cases c : t.length ≤ k
    · left
      have cle : (t.length : Int) ≤ (k : Int) := by omega
      rw [rn_end c] at k4
      refine ⟨U, ?_, by rw [k2, k4], k3⟩
      (try dsimp only); rw [B_lr_skipBlanks_0]; (try simp (disch := omega) only [Option.bind_some, if_true, if_false, eq_self, not_true_eq_false, not_false_eq_true, am_w_id, if_pos, if_neg, fu_self, fu_ne, Int.toNat_natCast, lr_gI_2, lr_p_2, lr_gR_0, k2, gT, cle]); rw [B_lr_skipBlanks_43]; (try simp (disch := omega) only [Option.bind_some, if_true, if_false, eq_self, not_true_eq_false, not_false_eq_true, am_w_id, if_pos, if_neg, fu_self, fu_ne, Int.toNat_natCast, k2, gT, cle])
    · have cle : ¬ (t.length : Int) ≤ (k : Int) := by omega
      have hby := fun S d => c_byteAt (Tu S) d (k : Int)
      rw [tb_get (by omega)] at hby
      rw [rn_step (by omega)] at k4
      by_cases c2 : t.getD k 0 = 32
      · right
        rw [if_pos (isS_iff.mpr c2)] at k4
        have e9 : (k : Int) + 1 = ((k + 1 : Nat) : Int) := by omega
        refine ⟨(k + 1, am_fu U 2 (fun _ => ((k + 1 : Nat) : Int))), ⟨by dsimp only; omega, by dsimp only; rw [fu_self], k3.up (by decide) _, k4⟩, by dsimp only; omega, ?_⟩
        (try dsimp only); rw [B_lr_skipBlanks_0]; (try simp (disch := omega) only [Option.bind_some, if_true, if_false, eq_self, not_true_eq_false, not_false_eq_true, am_w_id, if_pos, if_neg, fu_self, fu_ne, Int.toNat_natCast, lr_gI_2, lr_p_2, lr_gR_0, k2, gT, cle, oT, hby, c2, e9]); rw [B_lr_skipBlanks_14]; (try simp (disch := omega) only [Option.bind_some, if_true, if_false, eq_self, not_true_eq_false, not_false_eq_true, am_w_id, if_pos, if_neg, fu_self, fu_ne, Int.toNat_natCast, lr_gR_0, lr_gI_2, lr_p_2, lr_O, k2, gT, cle, oT, hby, c2, e9]); rw [B_lr_skipBlanks_30]; (try simp (disch := omega) only [Option.bind_some, if_true, if_false, eq_self, not_true_eq_false, not_false_eq_true, am_w_id, if_pos, if_neg, fu_self, fu_ne, Int.toNat_natCast, lr_gI_2, lr_p_2, k2, gT, cle, oT, hby, c2, e9])
      · left
        rw [if_neg (fun h => c2 (isS_iff.mp h))] at k4
        refine ⟨U, ?_, by rw [k2, k4], k3⟩
        (try dsimp only); rw [B_lr_skipBlanks_0]; (try simp (disch := omega) only [Option.bind_some, if_true, if_false, eq_self, not_true_eq_false, not_false_eq_true, am_w_id, if_pos, if_neg, fu_self, fu_ne, Int.toNat_natCast, lr_gI_2, lr_p_2, lr_gR_0, k2, gT, cle, oT, hby, c2]); rw [B_lr_skipBlanks_14]; (try simp (disch := omega) only [Option.bind_some, if_true, if_false, eq_self, not_true_eq_false, not_false_eq_true, am_w_id, if_pos, if_neg, fu_self, fu_ne, Int.toNat_natCast, lr_gR_0, lr_gI_2, lr_p_2, lr_O, k2, gT, cle, oT, hby, c2]); rw [B_lr_skipBlanks_43]; (try simp (disch := omega) only [Option.bind_some, if_true, if_false, eq_self, not_true_eq_false, not_false_eq_true, am_w_id, if_pos, if_neg, fu_self, fu_ne, Int.toNat_natCast, k2, gT, cle, oT, hby, c2])
  obtain ⟨S', e, r⟩ := key
  exact ⟨S', am_cV_of e, r⟩
theorem lr_fail (p : Nat) (k : Int) (hp : p ≤ 1000) (hk : 0 ≤ k ∧ k ≤ 4) (d : Nat) : am_cV d N_lr_fail [.inr (.inr (some (q))), .inl ((p : Int)), .inl (k)] (lrH ta to q g S) = some (lrH ta to q g (am_fu S 3 (fun _ => 8 * (p : Int) + k))) := by
  apply am_cV_of
  (try dsimp only); rw [en_lr_fail]; (try simp (disch := omega) only [Option.bind_some, if_true, if_false, eq_self, not_true_eq_false, not_false_eq_true, am_w_id, if_pos, if_neg, fu_self, fu_ne, Int.toNat_natCast]); rw [B_lr_fail_0]; (try simp (disch := omega) only [Option.bind_some, if_true, if_false, eq_self, not_true_eq_false, not_false_eq_true, am_w_id, if_pos, if_neg, fu_self, fu_ne, Int.toNat_natCast, lr_gI_3, lr_p_3])
theorem lr_isDigit (x : Int) (h : am_H) (d : Nat) : am_cI d N_lr_isDigit [.inl (x)] h = some (if isD x = true then 1 else 0, h) := by
  apply am_cI_of
  by_cases c1 : x < 48
  · rw [if_neg (fun h => by have := isD_iff.mp h; omega), en_lr_isDigit, B_lr_isDigit_0, if_pos c1, B_lr_isDigit_16, B_lr_isDigit_17, if_pos (by decide)]
  · by_cases c2 : 57 < x
    · rw [if_neg (fun h => by have := isD_iff.mp h; omega), en_lr_isDigit, B_lr_isDigit_0, if_neg c1, B_lr_isDigit_6, if_pos c2, B_lr_isDigit_16, B_lr_isDigit_17, if_pos (by decide)]
    · rw [if_pos (isD_iff.mpr (by omega)), en_lr_isDigit, B_lr_isDigit_0, if_neg c1, B_lr_isDigit_6, if_neg c2, B_lr_isDigit_12, B_lr_isDigit_17, if_pos (by decide)]
/-- the digits of a number -/
theorem lr_digits (T : tp_at g ta t) (hd : ta + 2 ≤ q ∨ q + 1 ≤ ta) {c : Nat} (hc : c ≤ t.length) (h2 : S 2 0 = (c : Int)) (d : Nat) : ∃ S', EV (d + 1) N_lr_readNumber T_lr_readNumber_43 [.inr (.inr (some (q))), .inl ((c : Int)), .inl (0)] [] (lrH ta to q g S) = EV (d + 1) N_lr_readNumber T_lr_readNumber_112 [.inr (.inr (some (q))), .inl ((c : Int)), .inl (am_min (dval t c (rn isD t c - c)) 1000000)] [] (lrH ta to q g S') ∧ S' 2 0 = (rn isD t c : Int) ∧ fd [2] S S' := by
  have ht := T.2.1
  have Tu : ∀ S, tp_at (lrH ta to q g S) ta t := fun S => T.fr lrH_fr hd
  have gT := fun S => rd_gI (Tu S).1 (k := 1) rfl
  have oT := fun S => rd_O (Tu S).1
  have hle := rn_le isD t hc
  have hge := rn_ge isD t c
  have key : ∀ (m k : Nat) (U : Nat → Nat → Int), c + k + m = rn isD t c → U 2 0 = ((c + k : Nat) : Int) → fd [2] S U → ∃ S', EV (d + 1) N_lr_readNumber T_lr_readNumber_43 [.inr (.inr (some (q))), .inl ((c : Int)), .inl (am_min (dval t c k) 1000000)] [] (lrH ta to q g U) = EV (d + 1) N_lr_readNumber T_lr_readNumber_112 [.inr (.inr (some (q))), .inl ((c : Int)), .inl (am_min (dval t c (rn isD t c - c)) 1000000)] [] (lrH ta to q g S') ∧ S' 2 0 = (rn isD t c : Int) ∧ fd [2] S S' := by
    intro m
    induction m with
    | zero =>
      intro k U hk u2 FU
      have e1 : rn isD t c - c = k := by omega
      have e2 : rn isD t c = c + k := by omega
      refine ⟨U, ?_, by rw [u2, e2], FU⟩
      rw [e1]
      have hout := rn_out (P := isD) (by decide) hc
      rw [e2] at hout
      by_cases cl : t.length ≤ c + k
      · have cle : (t.length : Int) ≤ ((c + k : Nat) : Int) := by omega
        (try dsimp only); rw [B_lr_readNumber_43]; (try simp (disch := omega) only [Option.bind_some, if_true, if_false, eq_self, not_true_eq_false, not_false_eq_true, am_w_id, if_pos, if_neg, fu_self, fu_ne, Int.toNat_natCast, lr_gI_2, lr_p_2, lr_gR_0, u2, gT, cle])
      · have cle : ¬ (t.length : Int) ≤ ((c + k : Nat) : Int) := by omega
        have hby := fun S d => c_byteAt (Tu S) d ((c + k : Nat) : Int)
        have hdg := fun h d => lr_isDigit (tb t ((c + k : Nat) : Int)) h d
        rw [hout] at hdg
        simp only [Bool.false_eq_true, if_false] at hdg
        (try dsimp only); rw [B_lr_readNumber_43]; (try simp (disch := omega) only [Option.bind_some, if_true, if_false, eq_self, not_true_eq_false, not_false_eq_true, am_w_id, if_pos, if_neg, fu_self, fu_ne, Int.toNat_natCast, lr_gI_2, lr_p_2, lr_gR_0, u2, gT, cle, oT, hby, hdg, show ¬ false = true by decide]); rw [B_lr_readNumber_57]; (try simp (disch := omega) only [Option.bind_some, if_true, if_false, eq_self, not_true_eq_false, not_false_eq_true, am_w_id, if_pos, if_neg, fu_self, fu_ne, Int.toNat_natCast, lr_gR_0, lr_gI_2, lr_p_2, lr_O, u2, gT, cle, oT, hby, hdg, show ¬ false = true by decide])
    | succ m ih =>
      intro k U hk u2 FU
      obtain ⟨i1, i2⟩ := rn_in (P := isD) (t := t) (n := c) (i := c + k) (by omega) (by omega)
      have hdb := isD_iff.mp i2
      have cle : ¬ (t.length : Int) ≤ ((c + k : Nat) : Int) := by omega
      have hby := fun S d => c_byteAt (Tu S) d ((c + k : Nat) : Int)
      rw [tb_get i1] at hby
      have hdg := fun h d => lr_isDigit (t.getD (c + k) 0) h d
      rw [i2] at hdg
      simp only [if_true] at hdg
      have hv := dval_bd (t := t) (c := c) k (by omega) (fun i hi => isD_iff.mp (rn_in (P := isD) (t := t) (n := c) (i := c + i) (by omega) (by omega)).2)
      have hnext : am_min (am_w (am_w (am_w (am_min (dval t c k) 1000000 * 10) + t.getD (c + k) 0) - 48)) 1000000 = am_min (dval t c (k + 1)) 1000000 := by
        rw [dval_s i1]
        unfold dv1
        generalize dval t c k = v at *
        generalize t.getD (c + k) 0 = x at *
        have hm : 0 ≤ am_min v 1000000 ∧ am_min v 1000000 ≤ 1000000 := by unfold am_min; split <;> omega
        rw [am_w_id (x := am_min v 1000000 * 10) (by omega) (by omega), am_w_id (x := am_min v 1000000 * 10 + x) (by omega) (by omega), am_w_id (by omega) (by omega)]
        unfold am_min
        split <;> split <;> (try split) <;> (try split) <;> omega
      have e9 : ((c + k : Nat) : Int) + 1 = ((c + (k + 1) : Nat) : Int) := by omega
      obtain ⟨S', e, r⟩ := ih (k + 1) (am_fu U 2 (fun _ => ((c + (k + 1) : Nat) : Int))) (by omega) (by rw [fu_self]) (FU.up (by decide) _)
      refine ⟨S', Eq.trans ?_ e, r⟩
      rw [← hnext]
      (try dsimp only); rw [B_lr_readNumber_43]; (try simp (disch := omega) only [Option.bind_some, if_true, if_false, eq_self, not_true_eq_false, not_false_eq_true, am_w_id, if_pos, if_neg, fu_self, fu_ne, Int.toNat_natCast, lr_gI_2, lr_p_2, lr_gR_0, u2, gT, cle, oT, hby, hdg, show ¬ (1 : Int) = 0 by decide]); rw [B_lr_readNumber_57]; (try simp (disch := omega) only [Option.bind_some, if_true, if_false, eq_self, not_true_eq_false, not_false_eq_true, am_w_id, if_pos, if_neg, fu_self, fu_ne, Int.toNat_natCast, lr_gR_0, lr_gI_2, lr_p_2, lr_O, u2, gT, cle, oT, hby, hdg, show ¬ (1 : Int) = 0 by decide])
      rw [B_lr_readNumber_74, lr_gR_0, Option.bind_some, lr_gI_2, Option.bind_some, u2, if_pos (oT _), hby, Option.bind_some]
      dsimp only
      rw [lr_gI_2, Option.bind_some, u2, am_w_id (x := ((c + k : Nat) : Int) + 1) (by omega) (by omega), e9, lr_p_2, Option.bind_some]
  obtain ⟨S', e, r⟩ := key (rn isD t c - c) 0 S (by omega) h2 fd.rf
  exact ⟨S', e, r⟩
theorem lr_readNumber (T : tp_at g ta t) (hd : ta + 2 ≤ q ∨ q + 1 ≤ ta) {n : Nat} (hn : n ≤ t.length) (h2 : S 2 0 = (n : Int)) (d : Nat) :
    ∃ x S', am_cI (d + 2) N_lr_readNumber [.inr (.inr (some (q)))] (lrH ta to q g S) = some (x, lrH ta to q g S') ∧ fd [2, 3] S S' ∧
      ((tb t (rn isS t n : Int) ≠ 61 ∧ x = 0 ∧ S' 2 0 = (rn isS t n : Int) ∧ S' 3 0 = S 3 0) ∨
       (tb t (rn isS t n : Int) = 61 ∧ isD (tb t (rn isS t (rn isS t n + 1) : Int)) = false ∧ S' 3 0 = 8 * (rn isS t (rn isS t n + 1) : Int) + 1) ∨
       (tb t (rn isS t n : Int) = 61 ∧ isD (tb t (rn isS t (rn isS t n + 1) : Int)) = true ∧ 999999 < dval t (rn isS t (rn isS t n + 1)) (rn isD t (rn isS t (rn isS t n + 1)) - rn isS t (rn isS t n + 1)) ∧ S' 3 0 = 8 * (rn isS t (rn isS t n + 1) : Int) + 2) ∨
       (tb t (rn isS t n : Int) = 61 ∧ isD (tb t (rn isS t (rn isS t n + 1) : Int)) = true ∧ ¬ 999999 < dval t (rn isS t (rn isS t n + 1)) (rn isD t (rn isS t (rn isS t n + 1)) - rn isS t (rn isS t n + 1)) ∧ x = dval t (rn isS t (rn isS t n + 1)) (rn isD t (rn isS t (rn isS t n + 1)) - rn isS t (rn isS t n + 1)) ∧ S' 2 0 = (rn isD t (rn isS t (rn isS t n + 1)) : Int) ∧ S' 3 0 = S 3 0)) := by
  have ht := T.2.1
  have Tu : ∀ S, tp_at (lrH ta to q g S) ta t := fun S => T.fr lrH_fr hd
  have gT := fun S => rd_gI (Tu S).1 (k := 1) rfl
  have oT := fun S => rd_O (Tu S).1
  obtain ⟨S1, e1, k1, F1⟩ := lr_skip (to := to) (S := S) T hd hn h2 d
  have hle := rn_le isS t hn
  generalize hc0 : rn isS t n = c0 at *
  have hby := fun S d => c_byteAt (Tu S) d (c0 : Int)
  by_cases c61 : tb t (c0 : Int) = 61
  · have hlt : c0 < t.length := by
      rcases Nat.lt_or_ge c0 t.length with h | h
      · exact h
      · unfold tb at c61; rw [if_neg (by omega)] at c61; omega
    obtain ⟨U, hU⟩ : ∃ U, U = am_fu S1 2 (fun _ => ((c0 + 1 : Nat) : Int)) := ⟨_, rfl⟩
    have FU : fd [2] S U := by rw [hU]; exact F1.up (by decide) _
    obtain ⟨S2, e2, k2, F2⟩ := lr_skip (to := to) (S := U) T hd (n := c0 + 1) (by omega) (by rw [hU, fu_self]) d
    have hle2 := rn_le isS t (n := c0 + 1) (by omega)
    generalize hc : rn isS t (c0 + 1) = c at *
    obtain ⟨S3, e3, k3, F3⟩ := lr_digits (to := to) (S := S2) T hd hle2 k2 (d + 1)
    have F23 : fd [2] S S3 := (FU.tr F2).tr F3
    have e9 : (c0 : Int) + 1 = ((c0 + 1 : Nat) : Int) := by omega
    have st : am_call (d + 2) N_lr_readNumber [.inr (.inr (some (q)))] (lrH ta to q g S) = EV (d + 2) N_lr_readNumber T_lr_readNumber_112 [.inr (.inr (some (q))), .inl ((c : Int)), .inl (am_min (dval t c (rn isD t c - c)) 1000000)] [] (lrH ta to q g S3) := by
      refine Eq.trans ?_ e3
      (try dsimp only); rw [en_lr_readNumber]; (try simp (disch := omega) only [Option.bind_some, if_true, if_false, eq_self, not_true_eq_false, not_false_eq_true, am_w_id, if_pos, if_neg, fu_self, fu_ne, Int.toNat_natCast, e1, k1, oT, hby, c61, e9, hU.symm, e2, k2]); rw [B_lr_readNumber_0]; (try simp (disch := omega) only [Option.bind_some, if_true, if_false, eq_self, not_true_eq_false, not_false_eq_true, am_w_id, if_pos, if_neg, fu_self, fu_ne, Int.toNat_natCast, lr_gR_0, lr_gI_2, lr_p_2, lr_O, e1, k1, oT, hby, c61, e9, hU.symm, e2, k2]); rw [B_lr_readNumber_22]; (try simp (disch := omega) only [Option.bind_some, if_true, if_false, eq_self, not_true_eq_false, not_false_eq_true, am_w_id, if_pos, if_neg, fu_self, fu_ne, Int.toNat_natCast, lr_gI_2, lr_p_2, lr_O, e1, k1, oT, hby, c61, e9, hU.symm, e2, k2])
    have hge := rn_ge isD t c
    have hle3 := rn_le isD t hle2
    have f30 : S3 3 0 = S 3 0 := by rw [F23 3 (by decide)]
    by_cases cd : isD (tb t (c : Int)) = true
    · have hcl : c < t.length := by
        rcases Nat.lt_or_ge c t.length with h | h
        · exact h
        · unfold tb at cd; rw [if_neg (by omega)] at cd; exact absurd cd (by decide)
      have hgt : c < rn isD t c := by
        rw [rn_step hcl]
        rw [tb_get hcl] at cd
        rw [if_pos cd]
        have := rn_ge isD t (c + 1)
        omega
      have hne : ¬ (rn isD t c : Int) = (c : Int) := by omega
      by_cases cv : 999999 < dval t c (rn isD t c - c)
      · have hm : am_min (dval t c (rn isD t c - c)) 1000000 = 1000000 := by unfold am_min; split <;> omega
        have ff := fun d => lr_fail (q := q) (ta := ta) (to := to) (g := g) (S := S3) c 2 (by omega) (by decide) d
        refine ⟨1000000, am_fu S3 3 (fun _ => 8 * (c : Int) + 2), am_cI_of (st.trans ?_), (F23.wide (by decide)).up (by decide) _, Or.inr (Or.inr (Or.inl ⟨c61, cd, cv, by rw [fu_self]⟩))⟩
        rw [hm]
        (try dsimp only); rw [B_lr_readNumber_112]; (try simp (disch := omega) only [Option.bind_some, if_true, if_false, eq_self, not_true_eq_false, not_false_eq_true, am_w_id, if_pos, if_neg, fu_self, fu_ne, Int.toNat_natCast, lr_gI_2, lr_p_2, k3, hne, ff, show ¬ (1000000 : Int) ≤ 999999 by decide]); rw [B_lr_readNumber_129]; (try simp (disch := omega) only [Option.bind_some, if_true, if_false, eq_self, not_true_eq_false, not_false_eq_true, am_w_id, if_pos, if_neg, fu_self, fu_ne, Int.toNat_natCast, k3, hne, ff, show ¬ (1000000 : Int) ≤ 999999 by decide]); rw [B_lr_readNumber_135]; (try simp (disch := omega) only [Option.bind_some, if_true, if_false, eq_self, not_true_eq_false, not_false_eq_true, am_w_id, if_pos, if_neg, fu_self, fu_ne, Int.toNat_natCast, lr_O, k3, hne, ff, show ¬ (1000000 : Int) ≤ 999999 by decide]); rw [B_lr_readNumber_141]; (try simp (disch := omega) only [Option.bind_some, if_true, if_false, eq_self, not_true_eq_false, not_false_eq_true, am_w_id, if_pos, if_neg, fu_self, fu_ne, Int.toNat_natCast, k3, hne, ff, show ¬ (1000000 : Int) ≤ 999999 by decide])
      · have hm : am_min (dval t c (rn isD t c - c)) 1000000 = dval t c (rn isD t c - c) := by unfold am_min; split <;> omega
        have cv' : dval t c (rn isD t c - c) ≤ 999999 := by omega
        refine ⟨_, S3, am_cI_of (st.trans ?_), F23.wide (by decide), Or.inr (Or.inr (Or.inr ⟨c61, cd, cv, rfl, k3, f30⟩))⟩
        rw [hm]
        (try dsimp only); rw [B_lr_readNumber_112]; (try simp (disch := omega) only [Option.bind_some, if_true, if_false, eq_self, not_true_eq_false, not_false_eq_true, am_w_id, if_pos, if_neg, fu_self, fu_ne, Int.toNat_natCast, lr_gI_2, lr_p_2, k3, hne, cv']); rw [B_lr_readNumber_129]; (try simp (disch := omega) only [Option.bind_some, if_true, if_false, eq_self, not_true_eq_false, not_false_eq_true, am_w_id, if_pos, if_neg, fu_self, fu_ne, Int.toNat_natCast, k3, hne, cv']); rw [B_lr_readNumber_141]; (try simp (disch := omega) only [Option.bind_some, if_true, if_false, eq_self, not_true_eq_false, not_false_eq_true, am_w_id, if_pos, if_neg, fu_self, fu_ne, Int.toNat_natCast, k3, hne, cv'])
    · have cd' : isD (tb t (c : Int)) = false := by simpa using cd
      have heq : rn isD t c = c := by
        by_cases hcl : c < t.length
        · rw [rn_step hcl]
          rw [tb_get hcl] at cd
          rw [if_neg cd]
        · exact rn_end (by omega)
      have heq' : (rn isD t c : Int) = (c : Int) := by rw [heq]
      have ff := fun d => lr_fail (q := q) (ta := ta) (to := to) (g := g) (S := S3) c 1 (by omega) (by decide) d
      refine ⟨am_min (dval t c (rn isD t c - c)) 1000000, am_fu S3 3 (fun _ => 8 * (c : Int) + 1), am_cI_of (st.trans ?_), (F23.wide (by decide)).up (by decide) _, Or.inr (Or.inl ⟨c61, cd', by rw [fu_self]⟩)⟩
      (try dsimp only); rw [B_lr_readNumber_112]; (try simp (disch := omega) only [Option.bind_some, if_true, if_false, eq_self, not_true_eq_false, not_false_eq_true, am_w_id, if_pos, if_neg, fu_self, fu_ne, Int.toNat_natCast, lr_gI_2, lr_p_2, k3, heq', ff]); rw [B_lr_readNumber_120]; (try simp (disch := omega) only [Option.bind_some, if_true, if_false, eq_self, not_true_eq_false, not_false_eq_true, am_w_id, if_pos, if_neg, fu_self, fu_ne, Int.toNat_natCast, lr_O, k3, heq', ff]); rw [B_lr_readNumber_141]; (try simp (disch := omega) only [Option.bind_some, if_true, if_false, eq_self, not_true_eq_false, not_false_eq_true, am_w_id, if_pos, if_neg, fu_self, fu_ne, Int.toNat_natCast, k3, heq', ff])
  · refine ⟨0, S1, am_cI_of ?_, F1.wide (by decide), Or.inl ⟨c61, rfl, k1, by rw [F1 3 (by decide)]⟩⟩
    (try dsimp only); rw [en_lr_readNumber]; (try simp (disch := omega) only [Option.bind_some, if_true, if_false, eq_self, not_true_eq_false, not_false_eq_true, am_w_id, if_pos, if_neg, fu_self, fu_ne, Int.toNat_natCast, e1, k1, oT, hby, c61]); rw [B_lr_readNumber_0]; (try simp (disch := omega) only [Option.bind_some, if_true, if_false, eq_self, not_true_eq_false, not_false_eq_true, am_w_id, if_pos, if_neg, fu_self, fu_ne, Int.toNat_natCast, lr_gR_0, lr_gI_2, lr_p_2, lr_O, e1, k1, oT, hby, c61]); rw [B_lr_readNumber_20]; (try simp (disch := omega) only [Option.bind_some, if_true, if_false, eq_self, not_true_eq_false, not_false_eq_true, am_w_id, if_pos, if_neg, fu_self, fu_ne, Int.toNat_natCast, e1, k1, oT, hby, c61])
/-- told words, all with 0 -/
def tz (rd : List wd) : List wd := rd.map (fun p => (p.1, 0))
theorem tz_ah (rd : List wd) (w : List Int) : ah (tz rd) w = ah rd w := by
  unfold ah tz
  induction rd with
  | nil => rfl
  | cons p rd ih =>
    rw [List.map_cons, List.takeWhile_cons, List.takeWhile_cons]
    dsimp only
    split
    · rw [List.length_cons, List.length_cons, ih]
    · rfl
theorem tz_so {rd : List wd} (h : so rd) : so (tz rd) := by
  unfold so tz
  rw [List.pairwise_map]
  exact h
theorem tz_nu (rd : List wd) (w : List Int) : nu (tz rd) w = none ↔ nu rd w = none := by
  unfold nu
  rw [tz_ah]
  unfold tz
  rw [List.getElem?_map]
  cases rd[ah rd w]? with
  | none => simp
  | some p =>
    dsimp only [Option.map_some]
    split <;> simp
theorem tz_put (rd : List wd) (w : List Int) (x : Int) : put (tz rd) w 0 = tz (put rd w x) := by
  have h : (if nu (tz rd) w = none then ah rd w else ah rd w + 1) = (if nu rd w = none then ah rd w else ah rd w + 1) := by
    by_cases c : nu rd w = none
    · rw [if_pos c, if_pos ((tz_nu rd w).mpr c)]
    · rw [if_neg c, if_neg (fun g => c ((tz_nu rd w).mp g))]
  unfold put
  rw [tz_ah, h]
  unfold tz
  rw [List.map_append, List.map_cons, List.map_take, List.map_drop]
theorem tz_bok {rd : List wd} (h1 : ∀ p ∈ rd, wk p) (h2 : so rd) : bok (tz rd) := by
  refine ⟨fun p hp => ?_, tz_so h2⟩
  obtain ⟨q, hq, rfl⟩ := List.mem_map.mp hp
  exact ⟨(h1 q hq).1, (h1 q hq).2.2.1⟩
/-- what lies outside the reader and two books is as it was -/
def am_f3 (q to b : Nat) (h h' : am_H) : Prop := h'.1 = h.1 ∧ ∀ c, c ≠ q → (c < to ∨ to + 3 ≤ c) → (c < b ∨ b + 3 ≤ c) → h'.2 c = h.2 c
theorem am_f3.rf {q to b : Nat} {h : am_H} : am_f3 q to b h h := ⟨rfl, fun _ _ _ _ => rfl⟩
theorem am_f3.tr {q to b : Nat} {h h' h2 : am_H} (a : am_f3 q to b h h') (c : am_f3 q to b h' h2) : am_f3 q to b h h2 := ⟨c.1.trans a.1, fun x h1 h2 h3 => (c.2 x h1 h2 h3).trans (a.2 x h1 h2 h3)⟩
theorem am_f3_q {q to b : Nat} {S' : Nat → Nat → Int} : am_f3 q to b (lrH ta to q g S) (lrH ta to q g S') := ⟨rfl, fun c h1 _ _ => by rw [lrH_out (by omega), lrH_out (by omega)]⟩
theorem am_f3_t {q to b : Nat} {h h' : am_H} (F : am_fr to (to + 3) h h') : am_f3 q to b h h' := ⟨F.1, fun c _ h2 _ => F.2 c h2⟩
theorem am_f3_b {q to b : Nat} {h h' : am_H} (F : am_fr b (b + 3) h h') : am_f3 q to b h h' := ⟨F.1, fun c _ _ h3 => F.2 c h3⟩
theorem am_f3.tp {q to b : Nat} {h h' : am_H} (F : am_f3 q to b h h') (T : tp_at h ta t) (h1 : ta + 2 ≤ q ∨ q + 1 ≤ ta) (h2 : ta + 2 ≤ to ∨ to + 3 ≤ ta) (h3 : ta + 2 ≤ b ∨ b + 3 ≤ ta) : tp_at h' ta t := by
  obtain ⟨a1, a2, a3, B, a4, a5⟩ := T
  exact ⟨(F.2 ta (by omega) (by omega) (by omega)).trans a1, a2, a3, B, (F.2 (ta + 1) (by omega) (by omega) (by omega)).trans a4, a5⟩
/-- where things lie -/
def lrD (q ta to b : Nat) : Prop := (ta + 2 ≤ q ∨ q + 1 ≤ ta) ∧ (ta + 2 ≤ to ∨ to + 3 ≤ ta) ∧ (ta + 2 ≤ b ∨ b + 3 ≤ ta) ∧ (q < to ∨ to + 3 ≤ q) ∧ (q < b ∨ b + 3 ≤ q) ∧ (to + 3 ≤ b ∨ b + 3 ≤ to)
theorem lr_readItem (D : lrD q ta to b) {h : am_H} (HU : lrH ta to q h S = h) (T : tp_at h ta t) {a : Nat} (ha : a ≤ t.length) {rd cu : List wd} (h2 : S 2 0 = (a : Int)) (h30 : S 3 0 = 0) (HT : bkR h to (tz rd)) (HB : bkR h b cu) (hI : rdI rd cu) (d : Nat) :
    ∃ h' S', am_cV (d + 3) N_lr_readItem [.inr (.inr (some (q))), .inr (.inr (some (b)))] h = some h' ∧ lrH ta to q h' S' = h' ∧ am_f3 q to b h h' ∧ (match itm t a rd cu with
      | .inl f => S' 3 0 = f ∧ bkW h' to ∧ bkW h' b
      | .inr (e, rd', cu') => S' 3 0 = 0 ∧ S' 2 0 = (e : Int) ∧ bkR h' to (tz rd') ∧ bkR h' b cu') := by
  obtain ⟨D1, D2, D3, D4, D5, D6⟩ := D
  have ht := T.2.1
  obtain ⟨g, rfl⟩ : ∃ g, h = lrH ta to q g S := ⟨h, HU.symm⟩
  have Tg : tp_at g ta t := T.fr (h' := g) (lo := q) (hi := q + 1) ⟨rfl, fun c hc => (lrH_out hc).symm⟩ D1
  have Tu : ∀ S, tp_at (lrH ta to q g S) ta t := fun S => Tg.fr lrH_fr D1
  have oT := fun S => rd_O (Tu S).1
  have gB : bkR g b cu := HB.fr (lo := q) (hi := q + 1) ⟨rfl, fun c hc => (lrH_out hc).symm⟩ (by omega)
  have gT : bkR g to (tz rd) := HT.fr (lo := q) (hi := q + 1) ⟨rfl, fun c hc => (lrH_out hc).symm⟩ (by omega)
  have uB : ∀ S, bkR (lrH ta to q g S) b cu := fun S => gB.fr lrH_fr (by omega)
  have uT : ∀ S, bkR (lrH ta to q g S) to (tz rd) := fun S => gT.fr lrH_fr (by omega)
  obtain ⟨S1, e1, k1, F1⟩ := lr_skip (to := to) (S := S) Tg D1 ha h2 (d + 1)
  have hle := rn_le isS t ha
  unfold itm
  generalize hc0 : rn isS t a = c0 at *
  have hLE := fun S d => c_lettersEnd (Tu S) d (n := c0) (by omega)
  have hge : c0 ≤ le t c0 := by unfold le; omega
  have hle2 : le t c0 ≤ t.length := rn_le isL t hle
  obtain ⟨S2, hS2⟩ : ∃ U, U = am_fu S1 2 (fun _ => (le t c0 : Int)) := ⟨_, rfl⟩
  have F2 : fd [2] S S2 := by rw [hS2]; exact F1.up (by decide) _
  have k2 : S2 2 0 = (le t c0 : Int) := by rw [hS2, fu_self]
  have z2 : S2 3 0 = 0 := by rw [F2 3 (by decide)]; exact h30
  -- a fault at the word
  have bad : ∀ (k : Int), 0 ≤ k ∧ k ≤ 4 → ∀ (f : Int), f = 8 * (c0 : Int) + k → ∃ S', (∀ d, am_cV d N_lr_fail [.inr (.inr (some (q))), .inl ((c0 : Int)), .inl (k)] (lrH ta to q g S2) = some (lrH ta to q g S')) ∧ lrH ta to q (lrH ta to q g S') S' = lrH ta to q g S' ∧ am_f3 q to b (lrH ta to q g S) (lrH ta to q g S') ∧ (S' 3 0 = f ∧ bkW (lrH ta to q g S') to ∧ bkW (lrH ta to q g S') b) := by
    intro k hk f hf
    refine ⟨am_fu S2 3 (fun _ => 8 * (c0 : Int) + k), fun d => lr_fail c0 k (by omega) hk d, lrH_H, am_f3_q, by rw [fu_self, hf], (uT _).w, (uB _).w⟩
  by_cases c1 : isL (tb t (c0 : Int)) = true
  · rw [if_neg (by rw [c1]; decide)]
    have hc0l : c0 < t.length := by
      rcases Nat.lt_or_ge c0 t.length with h | h
      · exact h
      · unfold tb at c1; rw [if_neg (by omega)] at c1; exact absurd c1 (by decide)
    have hgt : c0 < le t c0 := by
      rw [le_step hc0l]
      rw [tb_get hc0l] at c1
      rw [if_pos c1]
      unfold le
      omega
    have hne : ¬ (le t c0 : Int) = (c0 : Int) := by omega
    have hL : ∀ i, c0 ≤ i → i < le t c0 → isL (t.getD i 0) = true := fun i h1 h2 => (rn_in (P := isL) (t := t) (n := c0) h1 h2).2
    have hsp := fun S d => c_spelled (Tu S) d (n := c0) (m := le t c0) (by omega) hle2 hL
    have s39 : am_call (d + 3) N_lr_readItem [.inr (.inr (some (q))), .inr (.inr (some (b)))] (lrH ta to q g S) = EV (d + 3) N_lr_readItem T_lr_readItem_39 [.inr (.inr (some (q))), .inr (.inr (some (b))), .inl ((c0 : Int)), am_nul, am_nul] [] (lrH ta to q g S2) := by
      (try dsimp only); rw [en_lr_readItem]; (try simp (disch := omega) only [Option.bind_some, if_true, if_false, eq_self, not_true_eq_false, not_false_eq_true, am_w_id, if_pos, if_neg, fu_self, fu_ne, Int.toNat_natCast, e1, k1, oT, hLE, hS2.symm, k2, hne]); rw [B_lr_readItem_0]; (try simp (disch := omega) only [Option.bind_some, if_true, if_false, eq_self, not_true_eq_false, not_false_eq_true, am_w_id, if_pos, if_neg, fu_self, fu_ne, Int.toNat_natCast, lr_gI_2, lr_p_2, lr_gR_0, lr_O, e1, k1, oT, hLE, hS2.symm, k2, hne])
    by_cases c2 : 10 < le t c0 - c0
    · rw [if_pos c2]
      obtain ⟨S', f1, f2, f3, f4⟩ := bad 2 (by decide) _ rfl
      refine ⟨_, S', am_cV_of (s39.trans ?_), f2, f3, f4⟩
      have cle : ¬ (le t c0 : Int) - (c0 : Int) ≤ 10 := by omega
      (try dsimp only); rw [B_lr_readItem_39]; (try simp (disch := omega) only [Option.bind_some, if_true, if_false, eq_self, not_true_eq_false, not_false_eq_true, am_w_id, if_pos, if_neg, fu_self, fu_ne, Int.toNat_natCast, lr_gR_0, lr_gI_2, lr_p_2, lr_O, k2, oT, hsp, cle, f1]); rw [B_lr_readItem_63]; (try simp (disch := omega) only [Option.bind_some, if_true, if_false, eq_self, not_true_eq_false, not_false_eq_true, am_w_id, if_pos, if_neg, fu_self, fu_ne, Int.toNat_natCast, lr_O, k2, oT, hsp, cle, f1]); rw [B_lr_readItem_138]; (try simp (disch := omega) only [Option.bind_some, if_true, if_false, eq_self, not_true_eq_false, not_false_eq_true, am_w_id, if_pos, if_neg, fu_self, fu_ne, Int.toNat_natCast, k2, oT, hsp, cle, f1])
    · rw [if_neg c2]
      obtain ⟨w0, w1, w2⟩ := spl_wk (t := t) (a := c0) c1 c2 (n := 0) (by decide)
      have hmin : min (le t c0 - c0) 10 = le t c0 - c0 := by omega
      rw [hmin] at hsp
      have hwl : wl (spl t c0 (le t c0 - c0)) := w0.1
      have hw10 : (spl t c0 (le t c0 - c0)).length ≤ 10 := w0.2.2.1
      have hwk : ∀ x, 0 ≤ x ∧ x ≤ 999999 → wk (spl t c0 (le t c0 - c0), x) := fun x hx => (spl_wk (t := t) (a := c0) c1 c2 (n := x) hx).1
      generalize hw : spl t c0 (le t c0 - c0) = w at *
      have pT := fun S d => bk_placeOf (tz_bok hI.1.1 hI.1.2) (uT S) hwl hw10 d
      have pB := fun S d => bk_placeOf hI.2.1.b (uB S) hwl hw10 d
      have cle : (le t c0 : Int) - (c0 : Int) ≤ 10 := by omega
      have s72 : am_call (d + 3) N_lr_readItem [.inr (.inr (some (q))), .inr (.inr (some (b)))] (lrH ta to q g S) = EV (d + 3) N_lr_readItem T_lr_readItem_72 [.inr (.inr (some (q))), .inr (.inr (some (b))), .inl ((c0 : Int)), .inr (.inl (ec 10 w)), am_nul] [] (lrH ta to q g S2) := by
        refine s39.trans ?_
        (try dsimp only); rw [B_lr_readItem_39]; (try simp (disch := omega) only [Option.bind_some, if_true, if_false, eq_self, not_true_eq_false, not_false_eq_true, am_w_id, if_pos, if_neg, fu_self, fu_ne, Int.toNat_natCast, lr_gR_0, lr_gI_2, lr_p_2, lr_O, k2, oT, hsp, cle])
      by_cases c3 : nu rd w = none
      · rw [if_neg (fun h => h c3)]
        rw [if_pos ((tz_nu rd w).mpr c3)] at pT
        have s93 := s72.trans (show EV (d + 3) N_lr_readItem T_lr_readItem_72 [.inr (.inr (some (q))), .inr (.inr (some (b))), .inl ((c0 : Int)), .inr (.inl (ec 10 w)), am_nul] [] (lrH ta to q g S2) = EV (d + 3) N_lr_readItem T_lr_readItem_93 [.inr (.inr (some (q))), .inr (.inr (some (b))), .inl ((c0 : Int)), .inr (.inl (ec 10 w)), am_nul] [] (lrH ta to q g S2) by
          rw [B_lr_readItem_72, lr_gR_1, Option.bind_some, if_pos (uT S2).O, pT, Option.bind_some]
          dsimp only
          rw [if_pos rfl])
        have hsz : am_gI (lrH ta to q g S2) b 0 2 = some (cu.length : Int) := (uB S2).sz
        by_cases c4 : nu cu w = none ∧ 100 ≤ cu.length
        · rw [if_pos c4]
          obtain ⟨S', f1, f2, f3, f4⟩ := bad 4 (by decide) _ rfl
          refine ⟨_, S', am_cV_of (s93.trans ?_), f2, f3, f4⟩
          rw [if_pos c4.1] at pB
          have cl : ¬ (cu.length : Int) < 100 := by omega
          rw [B_lr_readItem_93, if_pos (uB S2).O, pB, Option.bind_some]
          dsimp only
          rw [if_neg (fun h => h rfl), B_lr_readItem_102, hsz, Option.bind_some, if_neg cl, B_lr_readItem_111, if_pos lr_O, f1, Option.bind_some, B_lr_readItem_138]
        · rw [if_neg c4]
          have s120 : am_call (d + 3) N_lr_readItem [.inr (.inr (some (q))), .inr (.inr (some (b)))] (lrH ta to q g S) = EV (d + 3) N_lr_readItem T_lr_readItem_120 [.inr (.inr (some (q))), .inr (.inr (some (b))), .inl ((c0 : Int)), .inr (.inl (ec 10 w)), am_nul] [] (lrH ta to q g S2) := by
            refine s93.trans ?_
            by_cases c5 : nu cu w = none
            · have cl : (cu.length : Int) < 100 := by
                have : ¬ 100 ≤ cu.length := fun h => c4 ⟨c5, h⟩
                omega
              rw [if_pos c5] at pB
              rw [B_lr_readItem_93, if_pos (uB S2).O, pB, Option.bind_some]
              dsimp only
              rw [if_neg (fun h => h rfl), B_lr_readItem_102, hsz, Option.bind_some, if_pos cl]
            · rw [if_neg c5] at pB
              rw [B_lr_readItem_93, if_pos (uB S2).O, pB, Option.bind_some]
              dsimp only
              rw [if_pos (by omega)]
          -- the word is told
          have hcu : nu cu w = none → cu.length < 100 := fun g => by
            have : ¬ 100 ≤ cu.length := fun h => c4 ⟨g, h⟩
            omega
          have hrl := (rdI_put hI (hwk 0 (by decide)) c3 hcu).2
          have htl : nu (tz rd) w = none → (tz rd).length < 100 := fun _ => by unfold tz; rw [List.length_map]; exact hrl
          obtain ⟨h3, e3, F3, R3⟩ := bk_enter (tz_bok hI.1.1 hI.1.2) (uT S2) hwl hw10 0 htl (d + 1)
          have U3 : lrH ta to q h3 S2 = h3 := lrH_keep (lrH_H (S' := S2)) F3 (by omega)
          have G3 : am_f3 q to b (lrH ta to q g S) h3 := (am_f3_q (S' := S2)).tr (am_f3_t F3)
          have T3 : tp_at h3 ta t := G3.tp (Tu S) D1 D2 D3
          have B3 : bkR h3 b cu := (uB S2).fr F3 (by omega)
          have hrn := lr_readNumber (q := q) (to := to) (S := S2) T3 D1 hle2 k2 (d + 0)
          rw [U3] at hrn
          obtain ⟨x, S4, e4, F4, O4⟩ := hrn
          have B4 : bkR (lrH ta to q h3 S4) b cu := B3.fr lrH_fr (by omega)
          obtain ⟨h5, e5, F5, R5⟩ := bk_enter hI.2.1.b B4 hwl hw10 x hcu (d + 1)
          have U5 : lrH ta to q h5 S4 = h5 := lrH_keep (lrH_H (S' := S4)) F5 (by omega)
          have G5 : am_f3 q to b (lrH ta to q g S) h5 := G3.tr ((show am_f3 q to b h3 (lrH ta to q h3 S4) from ⟨rfl, fun c h1 _ _ => lrH_out (by omega)⟩).tr (am_f3_b F5))
          have T5 : bkR h5 to (put (tz rd) w 0) := (R3.fr lrH_fr (show to + 3 ≤ q ∨ q + 1 ≤ to by omega)).fr F5 (by omega)
          have eAll : am_cV (d + 3) N_lr_readItem [.inr (.inr (some (q))), .inr (.inr (some (b)))] (lrH ta to q g S) = some h5 := am_cV_of (s120.trans (by
            have o3 : am_isO h3 q 4 = true := by rw [← U3]; exact lr_O
            rw [B_lr_readItem_120, lr_gR_1, Option.bind_some, if_pos (uT S2).O, e3, Option.bind_some, if_pos o3, e4, Option.bind_some]
            dsimp only
            rw [if_pos B4.O, e5, Option.bind_some, B_lr_readItem_138]))
          refine ⟨h5, S4, eAll, U5, G5, ?_⟩
          rcases O4 with ⟨o1, rfl, o3, o4⟩ | ⟨o1, o2, o3⟩ | ⟨o1, o2, o3, o4⟩ | ⟨o1, o2, o3, rfl, o5, o6⟩
          · rw [if_pos o1]
            exact ⟨o4.trans z2, o3, by rw [← tz_put rd w 0]; exact T5, R5⟩
          · rw [if_neg (fun h => h o1), if_pos o2]
            exact ⟨o3, T5.w, R5.w⟩
          · rw [if_neg (fun h => h o1), if_neg (by rw [o2]; decide), if_pos o3]
            exact ⟨o4, T5.w, R5.w⟩
          · rw [if_neg (fun h => h o1), if_neg (by rw [o2]; decide), if_neg o3]
            exact ⟨o6.trans z2, o5, by rw [← tz_put]; exact T5, R5⟩
      · rw [if_pos c3]
        obtain ⟨S', f1, f2, f3, f4⟩ := bad 3 (by decide) _ rfl
        refine ⟨_, S', am_cV_of (s72.trans ?_), f2, f3, f4⟩
        rw [if_neg (fun h => c3 ((tz_nu rd w).mp h))] at pT
        rw [B_lr_readItem_72, lr_gR_1, Option.bind_some, if_pos (uT S2).O, pT, Option.bind_some]
        dsimp only
        rw [if_neg (by omega), B_lr_readItem_84, if_pos lr_O, f1, Option.bind_some, B_lr_readItem_138]
  · have c1' : isL (tb t (c0 : Int)) = false := by simpa using c1
    rw [if_pos c1']
    have heq : le t c0 = c0 := by
      by_cases hcl : c0 < t.length
      · rw [le_step hcl]
        rw [tb_get hcl] at c1
        rw [if_neg c1]
      · exact le_end (by omega)
    have heq' : (le t c0 : Int) = (c0 : Int) := by rw [heq]
    obtain ⟨S', f1, f2, f3, f4⟩ := bad 1 (by decide) _ rfl
    refine ⟨_, S', am_cV_of ?_, f2, f3, f4⟩
    rw [heq'] at hLE
    rw [heq'] at k2
    rw [heq'] at hS2
    (try dsimp only); rw [en_lr_readItem]; (try simp (disch := omega) only [Option.bind_some, if_true, if_false, eq_self, not_true_eq_false, not_false_eq_true, am_w_id, if_pos, if_neg, fu_self, fu_ne, Int.toNat_natCast, e1, k1, oT, hLE, hS2.symm, k2, f1]); rw [B_lr_readItem_0]; (try simp (disch := omega) only [Option.bind_some, if_true, if_false, eq_self, not_true_eq_false, not_false_eq_true, am_w_id, if_pos, if_neg, fu_self, fu_ne, Int.toNat_natCast, lr_gI_2, lr_p_2, lr_gR_0, lr_O, e1, k1, oT, hLE, hS2.symm, k2, f1]); rw [B_lr_readItem_32]; (try simp (disch := omega) only [Option.bind_some, if_true, if_false, eq_self, not_true_eq_false, not_false_eq_true, am_w_id, if_pos, if_neg, fu_self, fu_ne, Int.toNat_natCast, lr_O, e1, k1, oT, hLE, hS2.symm, k2, f1])
/-- whether another item comes -/
theorem lr_goesOn (T : tp_at g ta t) (hd : ta + 2 ≤ q ∨ q + 1 ≤ ta) {n : Nat} (hn : n ≤ t.length) (h2 : S 2 0 = (n : Int)) (h3 : S 3 0 = 0) (d : Nat) :
    ∃ x S', am_cI (d + 2) N_lr_goesOn [.inr (.inr (some (q)))] (lrH ta to q g S) = some (x, lrH ta to q g S') ∧
      ((tb t (rn isS t n : Int) = 44 ∧ x = 1 ∧ S' 2 0 = ((rn isS t n + 1 : Nat) : Int) ∧ S' 3 0 = 0) ∨ (tb t (rn isS t n : Int) ≠ 44 ∧ rn isS t n < t.length ∧ x = 0 ∧ S' 3 0 = 8 * (rn isS t n : Int) + 1) ∨ (tb t (rn isS t n : Int) ≠ 44 ∧ ¬ rn isS t n < t.length ∧ x = 0 ∧ S' 3 0 = 0)) := by
  have ht := T.2.1
  have Tu : ∀ S, tp_at (lrH ta to q g S) ta t := fun S => T.fr lrH_fr hd
  have gT := fun S => rd_gI (Tu S).1 (k := 1) rfl
  have oT := fun S => rd_O (Tu S).1
  obtain ⟨S1, e1, k1, F1⟩ := lr_skip (to := to) (S := S) T hd hn h2 d
  have hle := rn_le isS t hn
  have z1 : S1 3 0 = 0 := by rw [F1 3 (by decide)]; exact h3
  generalize hc : rn isS t n = c at *
  have hby := fun S d => c_byteAt (Tu S) d (c : Int)
  by_cases cl : c < t.length
  · have cl' : (c : Int) < (t.length : Int) := by omega
    by_cases c44 : tb t (c : Int) = 44
    · have e9 : (c : Int) + 1 = ((c + 1 : Nat) : Int) := by omega
      refine ⟨1, am_fu S1 2 (fun _ => ((c + 1 : Nat) : Int)), am_cI_of ?_, Or.inl ⟨c44, rfl, by rw [fu_self], by rw [fu_ne (by decide)]; exact z1⟩⟩
      (try dsimp only); rw [en_lr_goesOn]; (try simp (disch := omega) only [Option.bind_some, if_true, if_false, eq_self, not_true_eq_false, not_false_eq_true, am_w_id, if_pos, if_neg, fu_self, fu_ne, Int.toNat_natCast, e1, k1, gT, cl', oT, hby, c44, e9]); rw [B_lr_goesOn_0]; (try simp (disch := omega) only [Option.bind_some, if_true, if_false, eq_self, not_true_eq_false, not_false_eq_true, am_w_id, if_pos, if_neg, fu_self, fu_ne, Int.toNat_natCast, lr_gI_2, lr_p_2, lr_gR_0, lr_O, e1, k1, gT, cl', oT, hby, c44, e9]); rw [B_lr_goesOn_20]; (try simp (disch := omega) only [Option.bind_some, if_true, if_false, eq_self, not_true_eq_false, not_false_eq_true, am_w_id, if_pos, if_neg, fu_self, fu_ne, Int.toNat_natCast, lr_gR_0, lr_gI_2, lr_p_2, lr_O, e1, k1, gT, cl', oT, hby, c44, e9]); rw [B_lr_goesOn_47]; (try simp (disch := omega) only [Option.bind_some, if_true, if_false, eq_self, not_true_eq_false, not_false_eq_true, am_w_id, if_pos, if_neg, fu_self, fu_ne, Int.toNat_natCast, lr_gI_2, lr_p_2, e1, k1, gT, cl', oT, hby, c44, e9])
    · have ff := fun d => lr_fail (q := q) (ta := ta) (to := to) (g := g) (S := S1) c 1 (by omega) (by decide) d
      refine ⟨0, am_fu S1 3 (fun _ => 8 * (c : Int) + 1), am_cI_of ?_, Or.inr (Or.inl ⟨c44, cl, rfl, by rw [fu_self]⟩)⟩
      (try dsimp only); rw [en_lr_goesOn]; (try simp (disch := omega) only [Option.bind_some, if_true, if_false, eq_self, not_true_eq_false, not_false_eq_true, am_w_id, if_pos, if_neg, fu_self, fu_ne, Int.toNat_natCast, e1, k1, gT, cl', oT, hby, c44, ff]); rw [B_lr_goesOn_0]; (try simp (disch := omega) only [Option.bind_some, if_true, if_false, eq_self, not_true_eq_false, not_false_eq_true, am_w_id, if_pos, if_neg, fu_self, fu_ne, Int.toNat_natCast, lr_gI_2, lr_p_2, lr_gR_0, lr_O, e1, k1, gT, cl', oT, hby, c44, ff]); rw [B_lr_goesOn_20]; (try simp (disch := omega) only [Option.bind_some, if_true, if_false, eq_self, not_true_eq_false, not_false_eq_true, am_w_id, if_pos, if_neg, fu_self, fu_ne, Int.toNat_natCast, lr_gR_0, lr_gI_2, lr_p_2, lr_O, e1, k1, gT, cl', oT, hby, c44, ff]); rw [B_lr_goesOn_36]; (try simp (disch := omega) only [Option.bind_some, if_true, if_false, eq_self, not_true_eq_false, not_false_eq_true, am_w_id, if_pos, if_neg, fu_self, fu_ne, Int.toNat_natCast, lr_gI_2, lr_p_2, lr_O, e1, k1, gT, cl', oT, hby, c44, ff])
  · have cl' : ¬ (c : Int) < (t.length : Int) := by omega
    have htb : tb t (c : Int) ≠ 44 := by unfold tb; rw [if_neg (by omega)]; decide
    refine ⟨0, S1, am_cI_of ?_, Or.inr (Or.inr ⟨htb, cl, rfl, z1⟩)⟩
    (try dsimp only); rw [en_lr_goesOn]; (try simp (disch := omega) only [Option.bind_some, if_true, if_false, eq_self, not_true_eq_false, not_false_eq_true, am_w_id, if_pos, if_neg, fu_self, fu_ne, Int.toNat_natCast, e1, k1, gT, cl']); rw [B_lr_goesOn_0]; (try simp (disch := omega) only [Option.bind_some, if_true, if_false, eq_self, not_true_eq_false, not_false_eq_true, am_w_id, if_pos, if_neg, fu_self, fu_ne, Int.toNat_natCast, lr_gI_2, lr_p_2, lr_gR_0, lr_O, e1, k1, gT, cl']); rw [B_lr_goesOn_18]; (try simp (disch := omega) only [Option.bind_some, if_true, if_false, eq_self, not_true_eq_false, not_false_eq_true, am_w_id, if_pos, if_neg, fu_self, fu_ne, Int.toNat_natCast, e1, k1, gT, cl'])
theorem itm_ps {a : Nat} {rd cu : List wd} {f : Int} (h : itm t a rd cu = .inl f) : 1 ≤ f := by
  unfold itm at h
  split at h; · injection h with h; omega
  split at h; · injection h with h; omega
  split at h; · injection h with h; omega
  split at h; · injection h with h; omega
  split at h; · simp at h
  split at h; · injection h with h; omega
  split at h; · injection h with h; omega
  simp at h
theorem lr_read (D : lrD q ta to b) {h : am_H} (HU : lrH ta to q h S = h) (T : tp_at h ta t) {ws : List wd} (hok : ok ws) (HT : bkW h to) (HB : bkR h b ws) (d : Nat) :
    ∃ x h' S', am_cI (d + 4) N_lr_read [.inr (.inr (some (q))), .inr (.inr (some (b)))] h = some (x, h') ∧ lrH ta to q h' S' = h' ∧ am_f3 q to b h h' ∧ bkW h' to ∧ (match rdL t ws with
      | .inl f => x = f ∧ 1 ≤ f ∧ bkW h' b
      | .inr ws' => x = 0 ∧ bkR h' b ws') := by
  have ht := T.2.1
  have hLD := D
  obtain ⟨D1, D2, D3, D4, D5, D6⟩ := D
  obtain ⟨g, rfl⟩ : ∃ g, h = lrH ta to q g S := ⟨h, HU.symm⟩
  obtain ⟨S0, hS0⟩ : ∃ S0, S0 = am_fu (am_fu S 2 (fun _ => 0)) 3 (fun _ => 0) := ⟨_, rfl⟩
  have hback : ∀ S', lrH ta to q (lrH ta to q g S) S' = lrH ta to q g S' := fun S' => lrH_H
  have HT0 : bkW (lrH ta to q g S0) to := by rw [← hback]; exact HT.fr lrH_fr (by omega)
  obtain ⟨h1, e1, F1, R1⟩ := bk_clear HT0 (d + 3)
  have U1 : lrH ta to q h1 S0 = h1 := lrH_keep (lrH_H (S' := S0)) F1 (by omega)
  have G1 : am_f3 q to b (lrH ta to q g S) h1 := (am_f3_q (S' := S0)).tr (am_f3_t F1)
  have T1 := G1.tp T D1 D2 D3
  have B1 : bkR h1 b ws := by
    have : bkR (lrH ta to q g S0) b ws := by rw [← hback]; exact HB.fr lrH_fr (by omega)
    exact this.fr F1 (by omega)
  have st : am_call (d + 4) N_lr_read [.inr (.inr (some (q))), .inr (.inr (some (b)))] (lrH ta to q g S) = EV (d + 4) N_lr_read T_lr_read_21 [.inr (.inr (some (q))), .inr (.inr (some (b))), .inl (1), .inl (((0 : Nat) : Int))] [] h1 := by
    (try dsimp only); rw [en_lr_read]; (try simp (disch := omega) only [Option.bind_some, if_true, if_false, eq_self, not_true_eq_false, not_false_eq_true, am_w_id, if_pos, if_neg, fu_self, fu_ne, Int.toNat_natCast, hS0.symm]); rw [B_lr_read_0]; (try simp (disch := omega) only [Option.bind_some, if_true, if_false, eq_self, not_true_eq_false, not_false_eq_true, am_w_id, if_pos, if_neg, fu_self, fu_ne, Int.toNat_natCast, lr_gI_2, lr_p_2, lr_gI_3, lr_p_3, lr_gR_1, lr_O, hS0.symm])
    rw [if_pos HT0.O, e1, Option.bind_some]
    rfl
  have lp : ∀ (k n i : Nat) (h : am_H) (S : Nat → Nat → Int) (rd cu : List wd), n ≤ t.length → i ≤ n → t.length + 1 ≤ k + n → lrH ta to q h S = h → tp_at h ta t → S 2 0 = (n : Int) → S 3 0 = 0 → bkR h to (tz rd) → bkR h b cu → rdI rd cu →
      ∃ x h' S', EV (d + 4) N_lr_read T_lr_read_21 [.inr (.inr (some (q))), .inr (.inr (some (b))), .inl (1), .inl ((i : Int))] [] h = some (some (.inl x), h') ∧ lrH ta to q h' S' = h' ∧ am_f3 q to b h h' ∧ bkW h' to ∧ (match lsi t k n rd cu with
        | .inl f => x = f ∧ 1 ≤ f ∧ bkW h' b
        | .inr ws' => x = 0 ∧ bkR h' b ws') := by
    intro k
    induction k with
    | zero => intro n i h S rd cu h1 h2 h3; omega
    | succ k ih =>
      intro n i h S rd cu hn hin hk HU T h2 h3 HT HB hI
      obtain ⟨h1, S1, e1, U1, G1, O1⟩ := lr_readItem hLD HU T hn h2 h3 HT HB hI d
      have T1 := G1.tp T D1 D2 D3
      have g3 : am_gI h1 q 4 3 = some (S1 3 0) := by
        have := lr_gI_3 (ta := ta) (to := to) (q := q) (g := h1) (S := S1)
        rw [U1] at this
        exact this
      have hO : am_isO h q 4 = true := by rw [← HU]; exact lr_O
      have hO1 : am_isO h1 q 4 = true := by rw [← U1]; exact lr_O
      have e9 : am_w ((i : Int) + 1) = ((i + 1 : Nat) : Int) := by rw [am_w_id (by omega) (by omega)]; omega
      have s32 : EV (d + 4) N_lr_read T_lr_read_21 [.inr (.inr (some (q))), .inr (.inr (some (b))), .inl (1), .inl ((i : Int))] [] h = if ¬ S1 3 0 = 0 then EV (d + 4) N_lr_read T_lr_read_55 [.inr (.inr (some (q))), .inr (.inr (some (b))), .inl (1), .inl ((i : Int))] [] h1 else EV (d + 4) N_lr_read T_lr_read_44 [.inr (.inr (some (q))), .inr (.inr (some (b))), .inl (1), .inl ((i : Int))] [] h1 := by
        rw [B_lr_read_21, if_neg (by decide), B_lr_read_25, if_neg (by omega), B_lr_read_32, if_pos hO, e1, Option.bind_some, g3, Option.bind_some]
      rw [lsi]
      cases e : itm t n rd cu with
      | inl f =>
        rw [e] at O1
        dsimp only at O1 ⊢
        obtain ⟨o1, o2, o3⟩ := O1
        have hf := itm_ps e
        refine ⟨f, h1, S1, ?_, U1, G1, o2, rfl, hf, o3⟩
        rw [s32, o1, if_pos (by omega), B_lr_read_55, B_lr_read_56, B_lr_read_21, if_pos rfl, B_lr_read_63, g3, Option.bind_some, o1]
      | inr p =>
        obtain ⟨m, rd', cu'⟩ := p
        rw [e] at O1
        dsimp only at O1 ⊢
        obtain ⟨o1, o2, o3, o4⟩ := O1
        obtain ⟨i1, i2, i3⟩ := itm_ok hn hI e
        have hgo := lr_goesOn (q := q) (to := to) (g := h1) (S := S1) T1 D1 i3 o2 o1 (d + 1)
        rw [U1] at hgo
        obtain ⟨x, S2, e2, O2⟩ := hgo
        have U2 : lrH ta to q (lrH ta to q h1 S2) S2 = lrH ta to q h1 S2 := lrH_H
        have G2 : am_f3 q to b h (lrH ta to q h1 S2) := G1.tr ⟨rfl, fun c h1 _ _ => lrH_out (by omega)⟩
        have T2 := G2.tp T D1 D2 D3
        have HT2 : bkR (lrH ta to q h1 S2) to (tz rd') := o3.fr lrH_fr (by omega)
        have HB2 : bkR (lrH ta to q h1 S2) b cu' := o4.fr lrH_fr (by omega)
        have hge := rn_ge isS t m
        have s44 : EV (d + 4) N_lr_read T_lr_read_21 [.inr (.inr (some (q))), .inr (.inr (some (b))), .inl (1), .inl ((i : Int))] [] h = if x = 0 then EV (d + 4) N_lr_read T_lr_read_55 [.inr (.inr (some (q))), .inr (.inr (some (b))), .inl (1), .inl ((i : Int))] [] (lrH ta to q h1 S2) else EV (d + 4) N_lr_read T_lr_read_51 [.inr (.inr (some (q))), .inr (.inr (some (b))), .inl (1), .inl ((i : Int))] [] (lrH ta to q h1 S2) := by
          rw [s32, o1, if_neg (fun h => h rfl), B_lr_read_44, if_pos hO1, e2, Option.bind_some]
        rcases O2 with ⟨p1, rfl, p3, p4⟩ | ⟨p1, p2, rfl, p4⟩ | ⟨p1, p2, rfl, p4⟩
        · rw [if_pos p1]
          have hlt : rn isS t m < t.length := by
            rcases Nat.lt_or_ge (rn isS t m) t.length with h | h
            · exact h
            · unfold tb at p1; rw [if_neg (by omega)] at p1; omega
          obtain ⟨x, h', S', e3, U3, G3, W3, O3⟩ := ih (rn isS t m + 1) (i + 1) _ S2 rd' cu' (by omega) (by omega) (by omega) U2 T2 p3 p4 HT2 HB2 i1
          refine ⟨x, h', S', ?_, U3, G2.tr G3, W3, O3⟩
          rw [s44, if_neg (by decide), B_lr_read_51, B_lr_read_56, e9]
          exact e3
        · rw [if_neg p1, if_pos p2]
          refine ⟨_, _, S2, ?_, U2, G2, HT2.w, rfl, by omega, HB2.w⟩
          rw [s44, if_pos rfl, B_lr_read_55, B_lr_read_56, B_lr_read_21, if_pos rfl, B_lr_read_63, lr_gI_3, Option.bind_some, p4]
        · rw [if_neg p1, if_neg p2]
          refine ⟨_, _, S2, ?_, U2, G2, HT2.w, rfl, HB2⟩
          rw [s44, if_pos rfl, B_lr_read_55, B_lr_read_56, B_lr_read_21, if_pos rfl, B_lr_read_63, lr_gI_3, Option.bind_some, p4]
  obtain ⟨x, h', S', e, U', G', W', O'⟩ := lp (t.length + 1) 0 0 h1 S0 [] ws (Nat.zero_le _) (Nat.le_refl _) (by omega) U1 T1 (by rw [hS0, fu_ne (by decide), fu_self]; rfl) (by rw [hS0, fu_self]) R1 B1 (rdI_0 hok)
  exact ⟨x, h', S', am_cI_of (st.trans e), U', G1.tr G', W', O'⟩
end LR
