/-! the class: bytes read -/
theorem tp_at.fr {h h' : am_H} {a lo hi : Nat} {t : List Int} (H : tp_at h a t) (F : am_fr lo hi h h') (hd : a + 2 ≤ lo ∨ hi ≤ a) : tp_at h' a t := by
  obtain ⟨h1, h2, h3, B, h4, h5⟩ := H
  exact ⟨(F.2 a (by omega)).trans h1, h2, h3, B, (F.2 (a + 1) (by omega)).trans h4, h5⟩
section UN
variable {u ta : Nat} {g : am_H} {S : Nat → Nat → Int} {t : List Int}
theorem rdV_ps {t : List Int} {a0 : Nat} : ∀ {n a : Nat} {v f : Int}, rdV t a0 n a v = .inl f → 1 ≤ f
  | 0, a, v, f, h => by unfold rdV at h; injection h with h; omega
  | n + 1, a, v, f, h => by
    unfold rdV at h
    split at h; · injection h with h; omega
    split at h; · simp at h
    exact rdV_ps h
theorem un_takeLoop (T : tp_at g ta t) (hd : ta + 2 ≤ u ∨ u + 6 ≤ ta) (lo hi : Int) (a0 : Nat) (ha0 : a0 ≤ 400) (d : Nat) : ∀ (n k a : Nat) (v : Int) (j : am_V) (S : Nat → Nat → Int), n + k = 4 → S 6 0 = (a : Int) → a ≤ t.length → 0 ≤ v → v < 128 ^ k →
    (∃ f S', (rdV t a0 n a v = .inl f ∨ (∃ b w, rdV t a0 n a v = .inr (b, w) ∧ ¬ (lo ≤ w ∧ w ≤ hi) ∧ f = 8 * (a0 : Int) + 2)) ∧ EV (d + 1) N_un_takeNumber T_un_takeNumber_11 [.inr (.inr (some (u))), .inl (lo), .inl (hi), .inl ((a0 : Int)), .inl (v), .inl ((k : Int)), j] [] (unH ta u g S) = some (some (.inl (-1)), unH ta u g S') ∧ S' 7 0 = f ∧ fd [6, 7] S S') ∨
    ∃ b w S', rdV t a0 n a v = .inr (b, w) ∧ (lo ≤ w ∧ w ≤ hi) ∧ EV (d + 1) N_un_takeNumber T_un_takeNumber_11 [.inr (.inr (some (u))), .inl (lo), .inl (hi), .inl ((a0 : Int)), .inl (v), .inl ((k : Int)), j] [] (unH ta u g S) = some (some (.inl w), unH ta u g S') ∧ S' 6 0 = ((b : Nat) : Int) ∧ fd [6] S S' := by
  have ht := T.2.1
  have Tu : ∀ S, tp_at (unH ta u g S) ta t := fun S => T.fr unH_fr hd
  have gT := fun S => rd_gI (Tu S).1 (k := 1) rfl
  have oT := fun S => rd_O (Tu S).1
  intro n
  induction n with
  | zero =>
    intro k a v j S hn h6 ha hv hv1
    obtain rfl : k = 4 := by omega
    left
    refine ⟨_, am_fu S 7 (fun _ => 8 * (a0 : Int) + 2), Or.inl rfl, ?_, congrFun fu_self 0, fd.rf.up (by decide) _⟩
    (try dsimp only); rw [B_un_takeNumber_11]; (try simp (disch := omega) only [Option.bind_some, if_true, if_false, eq_self, not_true_eq_false, not_false_eq_true, am_w_id, if_pos, if_neg, fu_self, fu_ne, Int.toNat_natCast, show (4 : Int) ≤ ((4 : Nat) : Int) by decide]); rw [B_un_takeNumber_120]; (try simp (disch := omega) only [Option.bind_some, if_true, if_false, eq_self, not_true_eq_false, not_false_eq_true, am_w_id, if_pos, if_neg, fu_self, fu_ne, Int.toNat_natCast, un_gI_7, un_p_7, show (4 : Int) ≤ ((4 : Nat) : Int) by decide])
  | succ n ih =>
    intro k a v j S hn h6 ha hv hv1
    have k4 : ¬ (4 : Int) ≤ (k : Int) := by omega
    have hby := fun S d => c_byteAt (Tu S) d (a : Int)
    by_cases c : t.length ≤ a
    · left
      have htb : tb t (a : Int) = -1 := by unfold tb; rw [if_neg (by omega)]
      rw [htb] at hby
      refine ⟨8 * (t.length : Int) + 1, am_fu S 7 (fun _ => 8 * (t.length : Int) + 1), Or.inl (by rw [rdV, if_pos c]), ?_, congrFun fu_self 0, fd.rf.up (by decide) _⟩
      (try dsimp only); rw [B_un_takeNumber_11]; (try simp (disch := omega) only [Option.bind_some, if_true, if_false, eq_self, not_true_eq_false, not_false_eq_true, am_w_id, if_pos, if_neg, fu_self, fu_ne, Int.toNat_natCast, k4, h6, oT, hby, gT]); rw [B_un_takeNumber_17]; (try simp (disch := omega) only [Option.bind_some, if_true, if_false, eq_self, not_true_eq_false, not_false_eq_true, am_w_id, if_pos, if_neg, fu_self, fu_ne, Int.toNat_natCast, un_gR_0, un_gI_6, un_p_6, un_O, k4, h6, oT, hby, gT]); rw [B_un_takeNumber_36]; (try simp (disch := omega) only [Option.bind_some, if_true, if_false, eq_self, not_true_eq_false, not_false_eq_true, am_w_id, if_pos, if_neg, fu_self, fu_ne, Int.toNat_natCast, un_gR_0, un_gI_7, un_p_7, k4, h6, oT, hby, gT])
    · have hb := by_get T.2.2.1 (show a < t.length by omega)
      rw [tb_get (by omega)] at hby
      have nb : ¬ t.getD a 0 = -1 := by omega
      have e9 : (a : Int) + 1 = ((a + 1 : Nat) : Int) := by omega
      have e8 : (k : Int) + 1 = ((k + 1 : Nat) : Int) := by omega
      have hm : am_and (t.getD a 0) 127 = t.getD a 0 % 128 := bt_mask (x := t.getD a 0) (by unfold am_inI; omega) 7 (by omega)
      have e7 : am_w (7 * (k : Int)) = 7 * (k : Int) := am_w_id (by omega) (by omega)
      obtain ⟨o1, o2, o3⟩ := or_put (v := v) (b := t.getD a 0 % 128) (k := k) (by omega) hv hv1 (by omega) (by omega)
      generalize hw : v + t.getD a 0 % 128 * 128 ^ k = w at *
      obtain ⟨U, hU⟩ : ∃ U, U = am_fu S 6 (fun _ => ((a + 1 : Nat) : Int)) := ⟨_, rfl⟩
      have FU : fd [6] S U := by rw [hU]; exact fd.rf.up (by decide) _
      have u6 : U 6 0 = ((a + 1 : Nat) : Int) := by rw [hU, fu_self]
      by_cases c2 : t.getD a 0 ≤ 127
      · have hr : rdV t a0 (n + 1) a v = .inr (a + 1, w) := by
          rw [rdV, if_neg c, if_pos c2, p128 hn, ← hw, show t.getD a 0 % 128 = t.getD a 0 by omega]
        have c2' : ¬ (128 : Int) ≤ t.getD a 0 := by omega
        rw [hr]
        have s88 : EV (d + 1) N_un_takeNumber T_un_takeNumber_11 [.inr (.inr (some (u))), .inl (lo), .inl (hi), .inl ((a0 : Int)), .inl (v), .inl ((k : Int)), j] [] (unH ta u g S) = EV (d + 1) N_un_takeNumber T_un_takeNumber_88 [.inr (.inr (some (u))), .inl (lo), .inl (hi), .inl ((a0 : Int)), .inl (w), .inl ((k : Int)), .inl (t.getD a 0)] [] (unH ta u g U) := by
          (try dsimp only); rw [B_un_takeNumber_11]; (try simp (disch := omega) only [Option.bind_some, if_true, if_false, eq_self, not_true_eq_false, not_false_eq_true, am_w_id, if_pos, if_neg, fu_self, fu_ne, Int.toNat_natCast, k4, h6, oT, hby, nb, hm, e7, o1, e9, c2', hU.symm]); rw [B_un_takeNumber_17]; (try simp (disch := omega) only [Option.bind_some, if_true, if_false, eq_self, not_true_eq_false, not_false_eq_true, am_w_id, if_pos, if_neg, fu_self, fu_ne, Int.toNat_natCast, un_gR_0, un_gI_6, un_p_6, un_O, k4, h6, oT, hby, nb, hm, e7, o1, e9, c2', hU.symm]); rw [B_un_takeNumber_54]; (try simp (disch := omega) only [Option.bind_some, if_true, if_false, eq_self, not_true_eq_false, not_false_eq_true, am_w_id, if_pos, if_neg, fu_self, fu_ne, Int.toNat_natCast, un_gI_6, un_p_6, k4, h6, oT, hby, nb, hm, e7, o1, e9, c2', hU.symm])
        have s120 : EV (d + 1) N_un_takeNumber T_un_takeNumber_103 [.inr (.inr (some (u))), .inl (lo), .inl (hi), .inl ((a0 : Int)), .inl (w), .inl ((k : Int)), .inl (t.getD a 0)] [] (unH ta u g U) = some (some (.inl (-1)), unH ta u g (am_fu U 7 (fun _ => 8 * (a0 : Int) + 2))) := by
          (try dsimp only); rw [B_un_takeNumber_103]; (try simp (disch := omega) only [Option.bind_some, if_true, if_false, eq_self, not_true_eq_false, not_false_eq_true, am_w_id, if_pos, if_neg, fu_self, fu_ne, Int.toNat_natCast, c2']); rw [B_un_takeNumber_111]; (try simp (disch := omega) only [Option.bind_some, if_true, if_false, eq_self, not_true_eq_false, not_false_eq_true, am_w_id, if_pos, if_neg, fu_self, fu_ne, Int.toNat_natCast, c2']); rw [B_un_takeNumber_120]; (try simp (disch := omega) only [Option.bind_some, if_true, if_false, eq_self, not_true_eq_false, not_false_eq_true, am_w_id, if_pos, if_neg, fu_self, fu_ne, Int.toNat_natCast, un_gI_7, un_p_7, c2'])
        by_cases cl : w < lo
        · refine Or.inl ⟨_, am_fu U 7 (fun _ => 8 * (a0 : Int) + 2), Or.inr ⟨_, _, rfl, by omega, rfl⟩, s88.trans ?_, congrFun fu_self 0, (FU.wide (by decide)).up (by decide) _⟩
          rw [B_un_takeNumber_88, if_pos cl, s120]
        · by_cases ch : hi < w
          · refine Or.inl ⟨_, am_fu U 7 (fun _ => 8 * (a0 : Int) + 2), Or.inr ⟨_, _, rfl, by omega, rfl⟩, s88.trans ?_, congrFun fu_self 0, (FU.wide (by decide)).up (by decide) _⟩
            rw [B_un_takeNumber_88, if_neg cl, B_un_takeNumber_94, if_pos ch, s120]
          · refine Or.inr ⟨_, _, U, rfl, by omega, s88.trans ?_, u6, FU⟩
            rw [B_un_takeNumber_88, if_neg cl, B_un_takeNumber_94, if_neg ch, B_un_takeNumber_100]
      · have hr : rdV t a0 (n + 1) a v = rdV t a0 n (a + 1) w := by
          rw [rdV, if_neg c, if_neg c2, p128 hn, ← hw, show t.getD a 0 % 128 = t.getD a 0 - 128 by omega]
        have c2' : (128 : Int) ≤ t.getD a 0 := by omega
        have st : EV (d + 1) N_un_takeNumber T_un_takeNumber_11 [.inr (.inr (some (u))), .inl (lo), .inl (hi), .inl ((a0 : Int)), .inl (v), .inl ((k : Int)), j] [] (unH ta u g S) = EV (d + 1) N_un_takeNumber T_un_takeNumber_11 [.inr (.inr (some (u))), .inl (lo), .inl (hi), .inl ((a0 : Int)), .inl (w), .inl (((k + 1 : Nat) : Int)), .inl (t.getD a 0)] [] (unH ta u g U) := by
          (try dsimp only); rw [B_un_takeNumber_11]; (try simp (disch := omega) only [Option.bind_some, if_true, if_false, eq_self, not_true_eq_false, not_false_eq_true, am_w_id, if_pos, if_neg, fu_self, fu_ne, Int.toNat_natCast, k4, h6, oT, hby, nb, hm, e7, o1, e9, e8, c2', hU.symm]); rw [B_un_takeNumber_17]; (try simp (disch := omega) only [Option.bind_some, if_true, if_false, eq_self, not_true_eq_false, not_false_eq_true, am_w_id, if_pos, if_neg, fu_self, fu_ne, Int.toNat_natCast, un_gR_0, un_gI_6, un_p_6, un_O, k4, h6, oT, hby, nb, hm, e7, o1, e9, e8, c2', hU.symm]); rw [B_un_takeNumber_54]; (try simp (disch := omega) only [Option.bind_some, if_true, if_false, eq_self, not_true_eq_false, not_false_eq_true, am_w_id, if_pos, if_neg, fu_self, fu_ne, Int.toNat_natCast, un_gI_6, un_p_6, k4, h6, oT, hby, nb, hm, e7, o1, e9, e8, c2', hU.symm]); rw [B_un_takeNumber_103]; (try simp (disch := omega) only [Option.bind_some, if_true, if_false, eq_self, not_true_eq_false, not_false_eq_true, am_w_id, if_pos, if_neg, fu_self, fu_ne, Int.toNat_natCast, k4, h6, oT, hby, nb, hm, e7, o1, e9, e8, c2', hU.symm]); rw [B_un_takeNumber_114]; (try simp (disch := omega) only [Option.bind_some, if_true, if_false, eq_self, not_true_eq_false, not_false_eq_true, am_w_id, if_pos, if_neg, fu_self, fu_ne, Int.toNat_natCast, k4, h6, oT, hby, nb, hm, e7, o1, e9, e8, c2', hU.symm])
        rw [hr, st]
        rcases ih (k + 1) (a + 1) w (.inl (t.getD a 0)) U (by omega) u6 (by omega) o2 o3 with ⟨f, S', g1, g2, g3, g4⟩ | ⟨b, w', S', g1, g2, g3, g4, g5⟩
        · exact Or.inl ⟨f, S', g1, g2, g3, (FU.wide (by decide)).tr g4⟩
        · exact Or.inr ⟨b, w', S', g1, g2, g3, g4, FU.tr g5⟩
theorem un_takeNumber (T : tp_at g ta t) (hd : ta + 2 ≤ u ∨ u + 6 ≤ ta) {a : Nat} (h6 : S 6 0 = (a : Int)) (ha : a ≤ t.length) (lo hi : Int) (d : Nat) :
    (∃ f S', rdN t a lo hi = .inl f ∧ 1 ≤ f ∧ am_cI (d + 1) N_un_takeNumber [.inr (.inr (some (u))), .inl (lo), .inl (hi)] (unH ta u g S) = some (-1, unH ta u g S') ∧ S' 7 0 = f ∧ fd [6, 7] S S') ∨
    ∃ b w S', rdN t a lo hi = .inr (b, w) ∧ (lo ≤ w ∧ w ≤ hi) ∧ (a < b ∧ b ≤ t.length) ∧ am_cI (d + 1) N_un_takeNumber [.inr (.inr (some (u))), .inl (lo), .inl (hi)] (unH ta u g S) = some (w, unH ta u g S') ∧ S' 6 0 = ((b : Nat) : Int) ∧ fd [6] S S' := by
  have ht := T.2.1
  have start : am_call (d + 1) N_un_takeNumber [.inr (.inr (some (u))), .inl (lo), .inl (hi)] (unH ta u g S) = EV (d + 1) N_un_takeNumber T_un_takeNumber_11 [.inr (.inr (some (u))), .inl (lo), .inl (hi), .inl ((a : Int)), .inl (0), .inl (((0 : Nat) : Int)), am_nul] [] (unH ta u g S) := by
    (try dsimp only); rw [en_un_takeNumber]; (try simp (disch := omega) only [Option.bind_some, if_true, if_false, eq_self, not_true_eq_false, not_false_eq_true, am_w_id, if_pos, if_neg, fu_self, fu_ne, Int.toNat_natCast, h6]); rw [B_un_takeNumber_0]; (try simp (disch := omega) only [Option.bind_some, if_true, if_false, eq_self, not_true_eq_false, not_false_eq_true, am_w_id, if_pos, if_neg, fu_self, fu_ne, Int.toNat_natCast, un_gI_6, un_p_6, h6])
    rfl
  unfold rdN
  rcases un_takeLoop (u := u) T hd lo hi a (by omega) d 4 0 a 0 am_nul S rfl h6 ha (by decide) (by decide) with ⟨f, S', g1 | ⟨b, w, g1, gn, rfl⟩, g2, g3, g4⟩ | ⟨b, w, S', g1, gr, g2, g3, g4⟩
  · rw [g1]
    exact Or.inl ⟨f, S', rfl, rdV_ps g1, am_cI_of (start.trans g2), g3, g4⟩
  · rw [g1]
    dsimp only
    rw [if_neg gn]
    exact Or.inl ⟨_, S', rfl, by omega, am_cI_of (start.trans g2), g3, g4⟩
  · rw [g1]
    dsimp only
    rw [if_pos gr]
    exact Or.inr ⟨b, w, S', rfl, gr, rdV_ok g1, am_cI_of (start.trans g2), g3, g4⟩
/-- the arcs read so far -/
def arU (S : Nat → Nat → Int) (A : List arc) : Prop := S 10 0 = (A.length : Int) ∧ ∀ i x, A[i]? = some x → S 3 i = x.1 ∧ S 4 i = x.2.1 ∧ S 5 i = x.2.2
theorem arU.fr {S' : Nat → Nat → Int} {A : List arc} (H : arU S A) {l : List Nat} (F : fd l S S') (hl : l.all (fun k => decide (k ≠ 10 ∧ k ≠ 3 ∧ k ≠ 4 ∧ k ≠ 5)) = true) : arU S' A := by
  have key : ∀ k, k = 10 ∨ k = 3 ∨ k = 4 ∨ k = 5 → S' k = S k := fun k hk => F k (fun hm => by
    have := List.all_eq_true.mp hl k hm
    simp only [decide_eq_true_eq] at this
    omega)
  unfold arU at *
  rw [key 10 (by decide), key 3 (by decide), key 4 (by decide), key 5 (by decide)]
  exact H
theorem un_readArc (T : tp_at g ta t) (hd : ta + 2 ≤ u ∨ u + 6 ≤ ta) {q : Int} (hq : 1 ≤ q ∧ q ≤ 1001) {a : Nat} {l : Int} {A : List arc} (hl : 0 ≤ l ∧ l ≤ 26) (h6 : S 6 0 = (a : Int)) (ha : a ≤ t.length) (h7 : S 7 0 = 0) (h8 : S 8 0 = q) (hA : arU S A) (h3 : 3 * A.length ≤ a) (d : Nat) :
    (∃ f x S', (∀ n, rdA t q (n + 1) a l = .inl f) ∧ 1 ≤ f ∧ am_cI (d + 2) N_un_readArc [.inr (.inr (some (u))), .inl (l)] (unH ta u g S) = some (x, unH ta u g S') ∧ S' 7 0 = f ∧ fd [6, 7] S S') ∨
    ∃ e x S', (∀ n, rdA t q (n + 1) a l = (match rdA t q n e x.1 with
      | .inl f => .inl f
      | .inr (g, as) => .inr (g, x :: as))) ∧ am_cI (d + 2) N_un_readArc [.inr (.inr (some (u))), .inl (l)] (unH ta u g S) = some (x.1, unH ta u g S') ∧ (a + 3 ≤ e ∧ e ≤ t.length) ∧ (0 ≤ x.1 ∧ x.1 ≤ 26) ∧ S' 6 0 = ((e : Nat) : Int) ∧ S' 7 0 = 0 ∧ arU S' (A ++ [x]) ∧ fd [3, 4, 5, 6, 7, 10] S S' := by
  have ht := T.2.1
  have el : am_w (l + 1) = l + 1 := am_w_id (by omega) (by omega)
  rcases un_takeNumber (u := u) (S := S) T hd h6 ha (l + 1) 26 d with ⟨f, S1, r1, f1, e1, k1, F1⟩ | ⟨b, x, S1, r1, w1, b1, e1, k1, F1⟩
  · left
    have nf : ¬ f = 0 := by omega
    refine ⟨f, -1, S1, fun n => by rw [rdA, r1], f1, am_cI_of ?_, k1, F1⟩
    (try dsimp only); rw [en_un_readArc]; (try simp (disch := omega) only [Option.bind_some, if_true, if_false, eq_self, not_true_eq_false, not_false_eq_true, am_w_id, if_pos, if_neg, fu_self, fu_ne, Int.toNat_natCast, el, e1, k1, nf]); rw [B_un_readArc_0]; (try simp (disch := omega) only [Option.bind_some, if_true, if_false, eq_self, not_true_eq_false, not_false_eq_true, am_w_id, if_pos, if_neg, fu_self, fu_ne, Int.toNat_natCast, un_gI_7, un_p_7, un_O, el, e1, k1, nf]); rw [B_un_readArc_27]; (try simp (disch := omega) only [Option.bind_some, if_true, if_false, eq_self, not_true_eq_false, not_false_eq_true, am_w_id, if_pos, if_neg, fu_self, fu_ne, Int.toNat_natCast, el, e1, k1, nf]); rw [B_un_readArc_28]; (try simp (disch := omega) only [Option.bind_some, if_true, if_false, eq_self, not_true_eq_false, not_false_eq_true, am_w_id, if_pos, if_neg, fu_self, fu_ne, Int.toNat_natCast, un_gI_7, un_p_7, el, e1, k1, nf]); rw [B_un_readArc_50]; (try simp (disch := omega) only [Option.bind_some, if_true, if_false, eq_self, not_true_eq_false, not_false_eq_true, am_w_id, if_pos, if_neg, fu_self, fu_ne, Int.toNat_natCast, el, e1, k1, nf]); rw [B_un_readArc_51]; (try simp (disch := omega) only [Option.bind_some, if_true, if_false, eq_self, not_true_eq_false, not_false_eq_true, am_w_id, if_pos, if_neg, fu_self, fu_ne, Int.toNat_natCast, un_gI_7, un_p_7, el, e1, k1, nf]); rw [B_un_readArc_111]; (try simp (disch := omega) only [Option.bind_some, if_true, if_false, eq_self, not_true_eq_false, not_false_eq_true, am_w_id, if_pos, if_neg, fu_self, fu_ne, Int.toNat_natCast, el, e1, k1, nf])
  · have s7 : S1 7 0 = 0 := by rw [F1 7 (by decide)]; exact h7
    rcases un_takeNumber (u := u) (S := S1) T hd k1 b1.2 0 999999 d with ⟨f, S2, r2, f2, e2, k2, F2⟩ | ⟨c, o, S2, r2, w2, b2, e2, k2, F2⟩
    · left
      have nf : ¬ f = 0 := by omega
      refine ⟨f, x, S2, fun n => by rw [rdA, r1]; dsimp only; rw [r2], f2, am_cI_of ?_, k2, (F1.wide (by decide)).tr F2⟩
      (try dsimp only); rw [en_un_readArc]; (try simp (disch := omega) only [Option.bind_some, if_true, if_false, eq_self, not_true_eq_false, not_false_eq_true, am_w_id, if_pos, if_neg, fu_self, fu_ne, Int.toNat_natCast, el, e1, s7, e2, k2, nf]); rw [B_un_readArc_0]; (try simp (disch := omega) only [Option.bind_some, if_true, if_false, eq_self, not_true_eq_false, not_false_eq_true, am_w_id, if_pos, if_neg, fu_self, fu_ne, Int.toNat_natCast, un_gI_7, un_p_7, un_O, el, e1, s7, e2, k2, nf]); rw [B_un_readArc_17]; (try simp (disch := omega) only [Option.bind_some, if_true, if_false, eq_self, not_true_eq_false, not_false_eq_true, am_w_id, if_pos, if_neg, fu_self, fu_ne, Int.toNat_natCast, un_O, el, e1, s7, e2, k2, nf]); rw [B_un_readArc_28]; (try simp (disch := omega) only [Option.bind_some, if_true, if_false, eq_self, not_true_eq_false, not_false_eq_true, am_w_id, if_pos, if_neg, fu_self, fu_ne, Int.toNat_natCast, un_gI_7, un_p_7, el, e1, s7, e2, k2, nf]); rw [B_un_readArc_50]; (try simp (disch := omega) only [Option.bind_some, if_true, if_false, eq_self, not_true_eq_false, not_false_eq_true, am_w_id, if_pos, if_neg, fu_self, fu_ne, Int.toNat_natCast, el, e1, s7, e2, k2, nf]); rw [B_un_readArc_51]; (try simp (disch := omega) only [Option.bind_some, if_true, if_false, eq_self, not_true_eq_false, not_false_eq_true, am_w_id, if_pos, if_neg, fu_self, fu_ne, Int.toNat_natCast, un_gI_7, un_p_7, el, e1, s7, e2, k2, nf]); rw [B_un_readArc_111]; (try simp (disch := omega) only [Option.bind_some, if_true, if_false, eq_self, not_true_eq_false, not_false_eq_true, am_w_id, if_pos, if_neg, fu_self, fu_ne, Int.toNat_natCast, el, e1, s7, e2, k2, nf])
    · have t7 : S2 7 0 = 0 := by rw [F2 7 (by decide)]; exact s7
      have t8 : S2 8 0 = q := by rw [F2 8 (by decide), F1 8 (by decide)]; exact h8
      have eq1 : am_w (q - 1) = q - 1 := am_w_id (by omega) (by omega)
      rcases un_takeNumber (u := u) (S := S2) T hd k2 b2.2 0 (q - 1) d with ⟨f, S3, r3, f3, e3, k3, F3⟩ | ⟨e, z, S3, r3, w3, b3, e3, k3, F3⟩
      · left
        have nf : ¬ f = 0 := by omega
        refine ⟨f, x, S3, fun n => by rw [rdA, r1]; dsimp only; rw [r2]; dsimp only; rw [r3], f3, am_cI_of ?_, k3, ((F1.wide (by decide)).tr (F2.wide (by decide))).tr F3⟩
        (try dsimp only); rw [en_un_readArc]; (try simp (disch := omega) only [Option.bind_some, if_true, if_false, eq_self, not_true_eq_false, not_false_eq_true, am_w_id, if_pos, if_neg, fu_self, fu_ne, Int.toNat_natCast, el, e1, s7, e2, t7, t8, eq1, e3, k3, nf]); rw [B_un_readArc_0]; (try simp (disch := omega) only [Option.bind_some, if_true, if_false, eq_self, not_true_eq_false, not_false_eq_true, am_w_id, if_pos, if_neg, fu_self, fu_ne, Int.toNat_natCast, un_gI_7, un_p_7, un_O, el, e1, s7, e2, t7, t8, eq1, e3, k3, nf]); rw [B_un_readArc_17]; (try simp (disch := omega) only [Option.bind_some, if_true, if_false, eq_self, not_true_eq_false, not_false_eq_true, am_w_id, if_pos, if_neg, fu_self, fu_ne, Int.toNat_natCast, un_O, el, e1, s7, e2, t7, t8, eq1, e3, k3, nf]); rw [B_un_readArc_28]; (try simp (disch := omega) only [Option.bind_some, if_true, if_false, eq_self, not_true_eq_false, not_false_eq_true, am_w_id, if_pos, if_neg, fu_self, fu_ne, Int.toNat_natCast, un_gI_7, un_p_7, el, e1, s7, e2, t7, t8, eq1, e3, k3, nf]); rw [B_un_readArc_36]; (try simp (disch := omega) only [Option.bind_some, if_true, if_false, eq_self, not_true_eq_false, not_false_eq_true, am_w_id, if_pos, if_neg, fu_self, fu_ne, Int.toNat_natCast, un_gI_8, un_p_8, un_O, el, e1, s7, e2, t7, t8, eq1, e3, k3, nf]); rw [B_un_readArc_51]; (try simp (disch := omega) only [Option.bind_some, if_true, if_false, eq_self, not_true_eq_false, not_false_eq_true, am_w_id, if_pos, if_neg, fu_self, fu_ne, Int.toNat_natCast, un_gI_7, un_p_7, el, e1, s7, e2, t7, t8, eq1, e3, k3, nf]); rw [B_un_readArc_111]; (try simp (disch := omega) only [Option.bind_some, if_true, if_false, eq_self, not_true_eq_false, not_false_eq_true, am_w_id, if_pos, if_neg, fu_self, fu_ne, Int.toNat_natCast, el, e1, s7, e2, t7, t8, eq1, e3, k3, nf])
      · right
        have F123 : fd [6] S S3 := (F1.tr F2).tr F3
        have A3 : arU S3 A := hA.fr F123 (by decide)
        obtain ⟨a10, a345⟩ := A3
        have v7 : S3 7 0 = 0 := by rw [F3 7 (by decide)]; exact t7
        have hAl : A.length < 400 := by omega
        have c400 : ¬ (400 : Int) ≤ (A.length : Int) := by omega
        have e9 : (A.length : Int) + 1 = ((A.length + 1 : Nat) : Int) := by omega
        obtain ⟨V1, hV1⟩ : ∃ V, V = am_fu S3 3 (am_fu (S3 3) A.length x) := ⟨_, rfl⟩
        obtain ⟨V2, hV2⟩ : ∃ V, V = am_fu V1 4 (am_fu (V1 4) A.length o) := ⟨_, rfl⟩
        obtain ⟨V3, hV3⟩ : ∃ V, V = am_fu V2 5 (am_fu (V2 5) A.length z) := ⟨_, rfl⟩
        obtain ⟨V4, hV4⟩ : ∃ V, V = am_fu V3 10 (fun _ => ((A.length + 1 : Nat) : Int)) := ⟨_, rfl⟩
        have m1 : V1 10 0 = (A.length : Int) := by rw [hV1, fu_ne (by decide)]; exact a10
        have m2 : V2 10 0 = (A.length : Int) := by rw [hV2, fu_ne (by decide)]; exact m1
        have m3 : V3 10 0 = (A.length : Int) := by rw [hV3, fu_ne (by decide)]; exact m2
        have FV : fd [3, 4, 5, 10] S3 V4 := by rw [hV4, hV3, hV2, hV1]; exact (((fd.rf.up (by decide) _).up (by decide) _).up (by decide) _).up (by decide) _
        have v3 : V4 3 = am_fu (S3 3) A.length x := by rw [hV4, fu_ne (by decide), hV3, fu_ne (by decide), hV2, fu_ne (by decide), hV1, fu_self]
        have v4 : V4 4 = am_fu (S3 4) A.length o := by rw [hV4, fu_ne (by decide), hV3, fu_ne (by decide), hV2, fu_self, hV1, fu_ne (by decide)]
        have v5 : V4 5 = am_fu (S3 5) A.length z := by rw [hV4, fu_ne (by decide), hV3, fu_self, hV2, fu_ne (by decide), hV1, fu_ne (by decide)]
        refine ⟨e, (x, (o, z)), V4, fun n => ?_, am_cI_of ?_, ⟨by omega, b3.2⟩, by dsimp only; omega, ?_, ?_, ⟨?_, fun i y hy => ?_⟩, (F123.wide (by decide)).tr (FV.wide (by decide))⟩
        · rw [rdA, r1]; dsimp only; rw [r2]; dsimp only; rw [r3]; rfl
        · generalize hn : A.length = n at *
          (try dsimp only); rw [en_un_readArc]; (try simp (disch := omega) only [Option.bind_some, if_true, if_false, eq_self, not_true_eq_false, not_false_eq_true, am_w_id, if_pos, if_neg, fu_self, fu_ne, Int.toNat_natCast, el, e1, s7, e2, t7, t8, eq1, e3, v7, a10, c400, hV1.symm, m1, hV2.symm, m2, hV3.symm, m3, e9, hV4.symm]); rw [B_un_readArc_0]; (try simp (disch := omega) only [Option.bind_some, if_true, if_false, eq_self, not_true_eq_false, not_false_eq_true, am_w_id, if_pos, if_neg, fu_self, fu_ne, Int.toNat_natCast, un_gI_7, un_p_7, un_O, el, e1, s7, e2, t7, t8, eq1, e3, v7, a10, c400, hV1.symm, m1, hV2.symm, m2, hV3.symm, m3, e9, hV4.symm]); rw [B_un_readArc_17]; (try simp (disch := omega) only [Option.bind_some, if_true, if_false, eq_self, not_true_eq_false, not_false_eq_true, am_w_id, if_pos, if_neg, fu_self, fu_ne, Int.toNat_natCast, un_O, el, e1, s7, e2, t7, t8, eq1, e3, v7, a10, c400, hV1.symm, m1, hV2.symm, m2, hV3.symm, m3, e9, hV4.symm]); rw [B_un_readArc_28]; (try simp (disch := omega) only [Option.bind_some, if_true, if_false, eq_self, not_true_eq_false, not_false_eq_true, am_w_id, if_pos, if_neg, fu_self, fu_ne, Int.toNat_natCast, un_gI_7, un_p_7, el, e1, s7, e2, t7, t8, eq1, e3, v7, a10, c400, hV1.symm, m1, hV2.symm, m2, hV3.symm, m3, e9, hV4.symm]); rw [B_un_readArc_36]; (try simp (disch := omega) only [Option.bind_some, if_true, if_false, eq_self, not_true_eq_false, not_false_eq_true, am_w_id, if_pos, if_neg, fu_self, fu_ne, Int.toNat_natCast, un_gI_8, un_p_8, un_O, el, e1, s7, e2, t7, t8, eq1, e3, v7, a10, c400, hV1.symm, m1, hV2.symm, m2, hV3.symm, m3, e9, hV4.symm]); rw [B_un_readArc_51]; (try simp (disch := omega) only [Option.bind_some, if_true, if_false, eq_self, not_true_eq_false, not_false_eq_true, am_w_id, if_pos, if_neg, fu_self, fu_ne, Int.toNat_natCast, un_gI_7, un_p_7, el, e1, s7, e2, t7, t8, eq1, e3, v7, a10, c400, hV1.symm, m1, hV2.symm, m2, hV3.symm, m3, e9, hV4.symm]); rw [B_un_readArc_60]; (try simp (disch := omega) only [Option.bind_some, if_true, if_false, eq_self, not_true_eq_false, not_false_eq_true, am_w_id, if_pos, if_neg, fu_self, fu_ne, Int.toNat_natCast, un_gI_10, un_p_10, el, e1, s7, e2, t7, t8, eq1, e3, v7, a10, c400, hV1.symm, m1, hV2.symm, m2, hV3.symm, m3, e9, hV4.symm]); rw [B_un_readArc_70]; (try simp (disch := omega) only [Option.bind_some, if_true, if_false, eq_self, not_true_eq_false, not_false_eq_true, am_w_id, if_pos, if_neg, fu_self, fu_ne, Int.toNat_natCast, un_gR_3, un_l_3, un_s_3, un_gI_10, un_p_10, un_gR_4, un_l_4, un_s_4, un_gR_5, un_l_5, un_s_5, el, e1, s7, e2, t7, t8, eq1, e3, v7, a10, c400, hV1.symm, m1, hV2.symm, m2, hV3.symm, m3, e9, hV4.symm]); rw [B_un_readArc_111]; (try simp (disch := omega) only [Option.bind_some, if_true, if_false, eq_self, not_true_eq_false, not_false_eq_true, am_w_id, if_pos, if_neg, fu_self, fu_ne, Int.toNat_natCast, el, e1, s7, e2, t7, t8, eq1, e3, v7, a10, c400, hV1.symm, m1, hV2.symm, m2, hV3.symm, m3, e9, hV4.symm])
        · rw [FV 6 (by decide)]; exact k3
        · rw [FV 7 (by decide)]; exact v7
        · rw [hV4, fu_self, List.length_append, List.length_singleton]
        · rw [v3, v4, v5]
          by_cases ci : i = A.length
          · subst ci
            rw [List.getElem?_append_right (Nat.le_refl _), Nat.sub_self] at hy
            simp at hy
            rw [fu_self, fu_self, fu_self, ← hy]
            exact ⟨rfl, rfl, rfl⟩
          · have hi : i < A.length := by
              have := (List.getElem?_eq_some_iff.mp hy).1
              rw [List.length_append, List.length_singleton] at this
              omega
            rw [List.getElem?_append_left hi] at hy
            rw [fu_ne ci, fu_ne ci, fu_ne ci]
            exact a345 i y hy
/-- arcs till a state has all -/
theorem un_readArcs (T : tp_at g ta t) (hd : ta + 2 ≤ u ∨ u + 6 ≤ ta) {q : Int} (hq : 1 ≤ q ∧ q ≤ 1001) (x1 : Int) {v : Int} {c : Nat} (hv : am_div v 2 = (c : Int)) (hc : c ≤ 26) (d : Nat) : ∀ (n i a : Nat) (l : Int) (A : List arc) (S : Nat → Nat → Int), i + n = c → (0 ≤ l ∧ l ≤ 26) → S 6 0 = (a : Int) → a ≤ t.length → S 7 0 = 0 → S 8 0 = q → arU S A → 3 * A.length ≤ a →
    (∃ f l' i' S', rdA t q n a l = .inl f ∧ 1 ≤ f ∧ EV (d + 3) N_un_readState T_un_readState_44 [.inr (.inr (some (u))), .inl (x1), .inl (v), .inl (l), .inl ((i : Int))] [] (unH ta u g S) = EV (d + 3) N_un_readState T_un_readState_71 [.inr (.inr (some (u))), .inl (x1), .inl (v), .inl (l'), .inl (i')] [] (unH ta u g S') ∧ S' 7 0 = f ∧ fd [3, 4, 5, 6, 7, 10] S S') ∨
    ∃ e as l' i' S', rdA t q n a l = .inr (e, as) ∧ EV (d + 3) N_un_readState T_un_readState_44 [.inr (.inr (some (u))), .inl (x1), .inl (v), .inl (l), .inl ((i : Int))] [] (unH ta u g S) = EV (d + 3) N_un_readState T_un_readState_71 [.inr (.inr (some (u))), .inl (x1), .inl (v), .inl (l'), .inl (i')] [] (unH ta u g S') ∧ (a ≤ e ∧ e ≤ t.length) ∧ S' 6 0 = ((e : Nat) : Int) ∧ S' 7 0 = 0 ∧ arU S' (A ++ as) ∧ 3 * (A ++ as).length ≤ e ∧ fd [3, 4, 5, 6, 7, 10] S S' := by
  intro n
  induction n with
  | zero =>
    intro i a l A S hi hl h6 ha h7 h8 hA h3
    right
    refine ⟨a, [], l, (i : Int), S, rfl, ?_, ⟨Nat.le_refl _, ha⟩, h6, h7, by rw [List.append_nil]; exact hA, by rw [List.append_nil]; exact h3, fd.rf⟩
    rw [B_un_readState_44, hv, if_pos (by omega)]
  | succ n ih =>
    intro i a l A S hi hl h6 ha h7 h8 hA h3
    have e9 : (i : Int) + 1 = ((i + 1 : Nat) : Int) := by omega
    have st : ∀ x S1, am_cI (d + 2) N_un_readArc [.inr (.inr (some (u))), .inl (l)] (unH ta u g S) = some (x, unH ta u g S1) → EV (d + 3) N_un_readState T_un_readState_44 [.inr (.inr (some (u))), .inl (x1), .inl (v), .inl (l), .inl ((i : Int))] [] (unH ta u g S) = EV (d + 3) N_un_readState T_un_readState_44 [.inr (.inr (some (u))), .inl (x1), .inl (v), .inl (x), .inl (((i + 1 : Nat) : Int))] [] (unH ta u g S1) := by
      intro x S1 e
      rw [B_un_readState_44, hv, if_neg (by omega)]
      (try dsimp only); rw [B_un_readState_52]; (try simp (disch := omega) only [Option.bind_some, if_true, if_false, eq_self, not_true_eq_false, not_false_eq_true, am_w_id, if_pos, if_neg, fu_self, fu_ne, Int.toNat_natCast, un_gI_7, un_p_7, h7, e, e9]); rw [B_un_readState_59]; (try simp (disch := omega) only [Option.bind_some, if_true, if_false, eq_self, not_true_eq_false, not_false_eq_true, am_w_id, if_pos, if_neg, fu_self, fu_ne, Int.toNat_natCast, un_O, h7, e, e9])
    rcases un_readArc (u := u) (S := S) T hd hq hl h6 ha h7 h8 hA h3 d with ⟨f, x, S1, r1, f1, e1, k1, F1⟩ | ⟨e, x, S1, r1, e1, b1, w1, k6, k7, kA, F1⟩
    · left
      have nf : ¬ f = 0 := by omega
      refine ⟨f, x, ((i + 1 : Nat) : Int), S1, r1 n, f1, (st x S1 e1).trans ?_, k1, F1.wide (by decide)⟩
      by_cases cc : c ≤ i + 1
      · rw [B_un_readState_44, hv, if_pos (by omega)]
      · rw [B_un_readState_44, hv, if_neg (by omega)]
        (try dsimp only); rw [B_un_readState_52]; (try simp (disch := omega) only [Option.bind_some, if_true, if_false, eq_self, not_true_eq_false, not_false_eq_true, am_w_id, if_pos, if_neg, fu_self, fu_ne, Int.toNat_natCast, un_gI_7, un_p_7, k1, nf])
    · have s8 : S1 8 0 = q := by rw [F1 8 (by decide)]; exact h8
      have hAl : (A ++ [x]).length = A.length + 1 := by rw [List.length_append, List.length_singleton]
      rcases ih (i + 1) e x.1 (A ++ [x]) S1 (by omega) w1 k6 b1.2 k7 s8 kA (by omega) with ⟨f, l', i', S', g1, g2, g3, g4, g5⟩ | ⟨e', as, l', i', S', g1, g2, g3, g4, g5, g6, g7, g8⟩
      · left
        exact ⟨f, l', i', S', by rw [r1 n, g1], g2, (st _ S1 e1).trans g3, g4, F1.tr g5⟩
      · right
        rw [List.append_assoc] at g6 g7
        exact ⟨e', x :: as, l', i', S', by rw [r1 n, g1], (st _ S1 e1).trans g2, ⟨by omega, g3.2⟩, g4, g5, g6, g7, F1.tr g8⟩
/-- the states read so far -/
def stU (S : Nat → Nat → Int) (ss : List sta) : Prop := S 2 0 = 0 ∧ ∀ s x, ss[s]? = some x → S 1 s = (if x.1 = -2 then -1 else x.1) ∧ S 2 (s + 1) = ((fla (ss.take (s + 1))).length : Int)
theorem un_readState (T : tp_at g ta t) (hd : ta + 2 ≤ u ∨ u + 6 ≤ ta) {q : Int} (hq : 1 ≤ q ∧ q ≤ 1001) {a : Nat} {ss : List sta} (hs : ss.length < 1001) (h6 : S 6 0 = (a : Int)) (ha : a ≤ t.length) (h7 : S 7 0 = 0) (h8 : S 8 0 = q) (hA : arU S (fla ss)) (h3 : 3 * (fla ss).length ≤ a) (hst : stU S ss) (d : Nat) :
    (∃ f S', rdS t q a = .inl f ∧ 1 ≤ f ∧ am_cV (d + 3) N_un_readState [.inr (.inr (some (u))), .inl ((ss.length : Int))] (unH ta u g S) = some (unH ta u g S') ∧ S' 7 0 = f ∧ S' 2 0 = 0 ∧ S' 8 0 = q) ∨
    ∃ b x S', rdS t q a = .inr (b, x) ∧ am_cV (d + 3) N_un_readState [.inr (.inr (some (u))), .inl ((ss.length : Int))] (unH ta u g S) = some (unH ta u g S') ∧ b ≤ t.length ∧ S' 6 0 = ((b : Nat) : Int) ∧ S' 7 0 = 0 ∧ S' 8 0 = q ∧ S' 9 0 = S 9 0 ∧ arU S' (fla (ss ++ [x])) ∧ 3 * (fla (ss ++ [x])).length ≤ b ∧ stU S' (ss ++ [x]) := by
  have ht := T.2.1
  have e9 : (ss.length : Int) + 1 = ((ss.length + 1 : Nat) : Int) := by omega
  -- how it ends
  have fin : ∀ (S : Nat → Nat → Int) (v l i : Int), EV (d + 3) N_un_readState T_un_readState_71 [.inr (.inr (some (u))), .inl ((ss.length : Int)), .inl (v), .inl (l), .inl (i)] [] (unH ta u g S) = some (none, unH ta u g (am_fu S 2 (am_fu (S 2) (ss.length + 1) (S 10 0)))) := by
    intro S v l i
    (try dsimp only); rw [B_un_readState_71]; (try simp (disch := omega) only [Option.bind_some, if_true, if_false, eq_self, not_true_eq_false, not_false_eq_true, am_w_id, if_pos, if_neg, fu_self, fu_ne, Int.toNat_natCast, un_gR_2, un_l_2, un_s_2, un_gI_10, un_p_10, e9])
  have good : ∀ (S S3 : Nat → Nat → Int) (x : sta) (b : Nat), stU S ss → (∀ k, k = 2 ∨ k = 8 ∨ k = 9 → S3 k = S k) → S3 1 = am_fu (S 1) ss.length (if x.1 = -2 then -1 else x.1) → S3 6 0 = (b : Int) → S3 7 0 = 0 → arU S3 (fla ss ++ x.2) → S 8 0 = q → 3 * (fla ss ++ x.2).length ≤ b →
      let S' := am_fu S3 2 (am_fu (S3 2) (ss.length + 1) (S3 10 0))
      S' 6 0 = ((b : Nat) : Int) ∧ S' 7 0 = 0 ∧ S' 8 0 = q ∧ S' 9 0 = S 9 0 ∧ arU S' (fla (ss ++ [x])) ∧ 3 * (fla (ss ++ [x])).length ≤ b ∧ stU S' (ss ++ [x]) := by
    intro S S3 x b hst hk h1 h6 h7 hA h8 h3 S'
    have FS : fd [2] S3 S' := fd.rf.up (by decide) _
    have hfl := fla_snoc ss x
    refine ⟨by rw [FS 6 (by decide)]; exact h6, by rw [FS 7 (by decide)]; exact h7, by rw [FS 8 (by decide), hk 8 (by decide)]; exact h8, by rw [FS 9 (by decide), hk 9 (by decide)], by rw [hfl]; exact hA.fr FS (by decide), by rw [hfl]; exact h3, ?_, fun s y hy => ?_⟩
    · show (am_fu S3 2 (am_fu (S3 2) (ss.length + 1) (S3 10 0))) 2 0 = 0
      rw [fu_self, fu_ne (by omega), hk 2 (by decide)]
      exact hst.1
    · show (am_fu S3 2 (am_fu (S3 2) (ss.length + 1) (S3 10 0))) 1 s = _ ∧ (am_fu S3 2 (am_fu (S3 2) (ss.length + 1) (S3 10 0))) 2 (s + 1) = _
      rw [fu_ne (by decide), fu_self, h1]
      by_cases cs : s = ss.length
      · subst cs
        rw [List.getElem?_append_right (Nat.le_refl _), Nat.sub_self] at hy
        simp at hy
        rw [fu_self, fu_self, ← hy, hA.1, List.take_of_length_le (by rw [List.length_append, List.length_singleton]; omega), hfl]
        exact ⟨rfl, rfl⟩
      · have hsl : s < ss.length := by
          have := (List.getElem?_eq_some_iff.mp hy).1
          rw [List.length_append, List.length_singleton] at this
          omega
        rw [List.getElem?_append_left hsl] at hy
        rw [fu_ne cs, fu_ne (by omega), hk 2 (by decide), List.take_append_of_le_length (by omega)]
        exact hst.2 s y hy
  unfold rdS
  rcases un_takeNumber (u := u) (S := S) T hd h6 ha 0 53 (d + 1) with ⟨f, S1, r1, f1, e1, k1, F1⟩ | ⟨b, v, S1, r1, w1, b1, e1, k1, F1⟩
  · left
    rw [r1]
    have nf : ¬ f = 0 := by omega
    obtain ⟨U, hU⟩ : ∃ U, U = am_fu S1 1 (am_fu (S1 1) ss.length (-1)) := ⟨_, rfl⟩
    have u7 : U 7 0 = f := by rw [hU, fu_ne (by decide)]; exact k1
    have dv : am_div (-1) 2 = 0 := by decide +kernel
    refine ⟨f, am_fu U 2 (am_fu (U 2) (ss.length + 1) (U 10 0)), rfl, f1, am_cV_of ?_, by rw [fu_ne (by decide)]; exact u7, ?_, ?_⟩
    · have st : am_call (d + 3) N_un_readState [.inr (.inr (some (u))), .inl ((ss.length : Int))] (unH ta u g S) = EV (d + 3) N_un_readState T_un_readState_71 [.inr (.inr (some (u))), .inl ((ss.length : Int)), .inl (-1), .inl (0), .inl (0)] [] (unH ta u g U) := by
        (try dsimp only); rw [en_un_readState]; (try simp (disch := omega) only [Option.bind_some, if_true, if_false, eq_self, not_true_eq_false, not_false_eq_true, am_w_id, if_pos, if_neg, fu_self, fu_ne, Int.toNat_natCast, e1, k1, nf, un_s_1, hU.symm]); rw [B_un_readState_0]; (try simp (disch := omega) only [Option.bind_some, if_true, if_false, eq_self, not_true_eq_false, not_false_eq_true, am_w_id, if_pos, if_neg, fu_self, fu_ne, Int.toNat_natCast, un_gR_1, un_l_1, un_s_1, un_gI_7, un_p_7, un_O, e1, k1, nf, un_s_1, hU.symm]); rw [B_un_readState_37]; (try simp (disch := omega) only [Option.bind_some, if_true, if_false, eq_self, not_true_eq_false, not_false_eq_true, am_w_id, if_pos, if_neg, fu_self, fu_ne, Int.toNat_natCast, e1, k1, nf, un_s_1, hU.symm]); rw [B_un_readState_38]; (try simp (disch := omega) only [Option.bind_some, if_true, if_false, eq_self, not_true_eq_false, not_false_eq_true, am_w_id, if_pos, if_neg, fu_self, fu_ne, Int.toNat_natCast, e1, k1, nf, un_s_1, hU.symm])
        rw [B_un_readState_44, dv, if_pos (by decide)]
      exact st.trans (fin U _ _ _)
    · rw [fu_self, fu_ne (by omega), hU, fu_ne (by decide), F1 2 (by decide)]; exact hst.1
    · rw [fu_ne (by decide), hU, fu_ne (by decide), F1 8 (by decide)]; exact h8
  · rw [r1]
    dsimp only
    have s7 : S1 7 0 = 0 := by rw [F1 7 (by decide)]; exact h7
    obtain ⟨c, hc⟩ : ∃ c : Nat, v / 2 = (c : Int) := ⟨(v / 2).toNat, by omega⟩
    have hdv : am_div v 2 = (c : Int) := by rw [bt_div (by omega) (by omega) (by omega) (by omega)]; exact hc
    have hrm : am_rem v 2 = v % 2 := bt_rem (by omega) (by omega) (by omega) (by omega)
    have hct : (v / 2).toNat = c := by omega
    rw [hct]
    -- behind the end: the arcs
    have rest : ∀ (e : Int) (b : Nat) (S2 U : Nat → Nat → Int), U = am_fu S2 1 (am_fu (S2 1) ss.length (if e = -2 then -1 else e)) → fd [6] S S2 → S2 6 0 = (b : Int) → a ≤ b → b ≤ t.length → am_call (d + 3) N_un_readState [.inr (.inr (some (u))), .inl ((ss.length : Int))] (unH ta u g S) = EV (d + 3) N_un_readState T_un_readState_44 [.inr (.inr (some (u))), .inl ((ss.length : Int)), .inl (v), .inl (0), .inl (((0 : Nat) : Int))] [] (unH ta u g U) →
        (∃ f S', (match rdA t q c b 0 with
          | .inl f => (.inl f : Int ⊕ (Nat × sta))
          | .inr (g, as) => .inr (g, (e, as))) = .inl f ∧ 1 ≤ f ∧ am_cV (d + 3) N_un_readState [.inr (.inr (some (u))), .inl ((ss.length : Int))] (unH ta u g S) = some (unH ta u g S') ∧ S' 7 0 = f ∧ S' 2 0 = 0 ∧ S' 8 0 = q) ∨
        ∃ b' x S', (match rdA t q c b 0 with
          | .inl f => (.inl f : Int ⊕ (Nat × sta))
          | .inr (g, as) => .inr (g, (e, as))) = .inr (b', x) ∧ am_cV (d + 3) N_un_readState [.inr (.inr (some (u))), .inl ((ss.length : Int))] (unH ta u g S) = some (unH ta u g S') ∧ b' ≤ t.length ∧ S' 6 0 = ((b' : Nat) : Int) ∧ S' 7 0 = 0 ∧ S' 8 0 = q ∧ S' 9 0 = S 9 0 ∧ arU S' (fla (ss ++ [x])) ∧ 3 * (fla (ss ++ [x])).length ≤ b' ∧ stU S' (ss ++ [x]) := by
      intro e b S2 U hU F2 k2 hab hb st
      have FU : fd [1] S2 U := by rw [hU]; exact fd.rf.up (by decide) _
      have uA : arU U (fla ss) := (hA.fr F2 (by decide)).fr FU (by decide)
      have u7 : U 7 0 = 0 := by rw [FU 7 (by decide), F2 7 (by decide)]; exact h7
      have u8 : U 8 0 = q := by rw [FU 8 (by decide), F2 8 (by decide)]; exact h8
      have u6 : U 6 0 = (b : Int) := by rw [FU 6 (by decide)]; exact k2
      rcases un_readArcs (u := u) T hd hq (ss.length : Int) hdv (by omega) d c 0 b 0 (fla ss) U (by omega) (by omega) u6 hb u7 u8 uA (by omega) with ⟨f, l', i', S3, g1, g2, g3, g4, g5⟩ | ⟨b', as, l', i', S3, g1, g2, g3, g4, g5, g6, g7, g8⟩
      · left
        rw [g1]
        refine ⟨f, _, rfl, g2, am_cV_of ((st.trans g3).trans (fin S3 _ _ _)), by rw [fu_ne (by decide)]; exact g4, ?_, ?_⟩
        · rw [fu_self, fu_ne (by omega), g5 2 (by decide), FU 2 (by decide), F2 2 (by decide)]; exact hst.1
        · rw [fu_ne (by decide), g5 8 (by decide)]; exact u8
      · right
        rw [g1]
        have hg := good S S3 (e, as) b' hst (fun k hk => by
          have h0 : ¬ k ∈ [3, 4, 5, 6, 7, 10] := by rcases hk with h | h | h <;> subst h <;> decide
          have h1 : ¬ k ∈ [1] := by rcases hk with h | h | h <;> subst h <;> decide
          have h2 : ¬ k ∈ [6] := by rcases hk with h | h | h <;> subst h <;> decide
          rw [g8 k h0, FU k h1, F2 k h2]) (by rw [g8 1 (by decide), hU, fu_self, F2 1 (by decide)]) g4 g5 g6 h8 g7
        exact ⟨b', (e, as), _, rfl, am_cV_of ((st.trans g2).trans (fin S3 _ _ _)), g3.2, hg⟩
    by_cases c2 : v % 2 = 1
    · rw [if_pos c2]
      rw [c2] at hrm
      rcases un_takeNumber (u := u) (S := S1) T hd k1 b1.2 0 999999 (d + 1) with ⟨f, S2, r2, f2, e2, k2, F2⟩ | ⟨b2, e, S2, r2, w2, bb2, e2, k2, F2⟩
      · left
        rw [r2]
        have nf : ¬ f = 0 := by omega
        obtain ⟨U, hU⟩ : ∃ U, U = am_fu S2 1 (am_fu (S2 1) ss.length (-1)) := ⟨_, rfl⟩
        have u7 : U 7 0 = f := by rw [hU, fu_ne (by decide)]; exact k2
        refine ⟨f, am_fu U 2 (am_fu (U 2) (ss.length + 1) (U 10 0)), rfl, f2, am_cV_of ?_, by rw [fu_ne (by decide)]; exact u7, ?_, ?_⟩
        · have st : am_call (d + 3) N_un_readState [.inr (.inr (some (u))), .inl ((ss.length : Int))] (unH ta u g S) = EV (d + 3) N_un_readState T_un_readState_71 [.inr (.inr (some (u))), .inl ((ss.length : Int)), .inl (v), .inl (0), .inl (0)] [] (unH ta u g U) := by
            (try dsimp only); rw [en_un_readState]; (try simp (disch := omega) only [Option.bind_some, if_true, if_false, eq_self, not_true_eq_false, not_false_eq_true, am_w_id, if_pos, if_neg, fu_self, fu_ne, Int.toNat_natCast, e1, s7, hrm, e2, un_s_1, hU.symm]); rw [B_un_readState_0]; (try simp (disch := omega) only [Option.bind_some, if_true, if_false, eq_self, not_true_eq_false, not_false_eq_true, am_w_id, if_pos, if_neg, fu_self, fu_ne, Int.toNat_natCast, un_gR_1, un_l_1, un_s_1, un_gI_7, un_p_7, un_O, e1, s7, hrm, e2, un_s_1, hU.symm]); rw [B_un_readState_20]; (try simp (disch := omega) only [Option.bind_some, if_true, if_false, eq_self, not_true_eq_false, not_false_eq_true, am_w_id, if_pos, if_neg, fu_self, fu_ne, Int.toNat_natCast, e1, s7, hrm, e2, un_s_1, hU.symm]); rw [B_un_readState_27]; (try simp (disch := omega) only [Option.bind_some, if_true, if_false, eq_self, not_true_eq_false, not_false_eq_true, am_w_id, if_pos, if_neg, fu_self, fu_ne, Int.toNat_natCast, un_O, e1, s7, hrm, e2, un_s_1, hU.symm]); rw [B_un_readState_38]; (try simp (disch := omega) only [Option.bind_some, if_true, if_false, eq_self, not_true_eq_false, not_false_eq_true, am_w_id, if_pos, if_neg, fu_self, fu_ne, Int.toNat_natCast, e1, s7, hrm, e2, un_s_1, hU.symm])
            by_cases cc : (c : Int) ≤ 0
            · rw [B_un_readState_44, hdv, if_pos cc]
            · rw [B_un_readState_44, hdv, if_neg cc]
              (try dsimp only); rw [B_un_readState_52]; (try simp (disch := omega) only [Option.bind_some, if_true, if_false, eq_self, not_true_eq_false, not_false_eq_true, am_w_id, if_pos, if_neg, fu_self, fu_ne, Int.toNat_natCast, un_gI_7, un_p_7, u7, nf])
          exact st.trans (fin U _ _ _)
        · rw [fu_self, fu_ne (by omega), hU, fu_ne (by decide), F2 2 (by decide), F1 2 (by decide)]; exact hst.1
        · rw [fu_ne (by decide), hU, fu_ne (by decide), F2 8 (by decide), F1 8 (by decide)]; exact h8
      · rw [r2]
        dsimp only
        obtain ⟨U, hU⟩ : ∃ U, U = am_fu S2 1 (am_fu (S2 1) ss.length e) := ⟨_, rfl⟩
        refine rest e b2 S2 U (by rw [if_neg (by omega)]; exact hU) (F1.tr F2) k2 (by omega) bb2.2 ?_
        (try dsimp only); rw [en_un_readState]; (try simp (disch := omega) only [Option.bind_some, if_true, if_false, eq_self, not_true_eq_false, not_false_eq_true, am_w_id, if_pos, if_neg, fu_self, fu_ne, Int.toNat_natCast, e1, s7, hrm, e2, un_s_1, hU.symm]); rw [B_un_readState_0]; (try simp (disch := omega) only [Option.bind_some, if_true, if_false, eq_self, not_true_eq_false, not_false_eq_true, am_w_id, if_pos, if_neg, fu_self, fu_ne, Int.toNat_natCast, un_gR_1, un_l_1, un_s_1, un_gI_7, un_p_7, un_O, e1, s7, hrm, e2, un_s_1, hU.symm]); rw [B_un_readState_20]; (try simp (disch := omega) only [Option.bind_some, if_true, if_false, eq_self, not_true_eq_false, not_false_eq_true, am_w_id, if_pos, if_neg, fu_self, fu_ne, Int.toNat_natCast, e1, s7, hrm, e2, un_s_1, hU.symm]); rw [B_un_readState_27]; (try simp (disch := omega) only [Option.bind_some, if_true, if_false, eq_self, not_true_eq_false, not_false_eq_true, am_w_id, if_pos, if_neg, fu_self, fu_ne, Int.toNat_natCast, un_O, e1, s7, hrm, e2, un_s_1, hU.symm]); rw [B_un_readState_38]; (try simp (disch := omega) only [Option.bind_some, if_true, if_false, eq_self, not_true_eq_false, not_false_eq_true, am_w_id, if_pos, if_neg, fu_self, fu_ne, Int.toNat_natCast, e1, s7, hrm, e2, un_s_1, hU.symm])
        rfl
    · rw [if_neg c2]
      obtain ⟨U, hU⟩ : ∃ U, U = am_fu S1 1 (am_fu (S1 1) ss.length (-1)) := ⟨_, rfl⟩
      have hrn : ¬ am_rem v 2 = 1 := by rw [hrm]; exact c2
      refine rest (-2) b S1 U (by rw [if_pos rfl]; exact hU) F1 k1 (by omega) b1.2 ?_
      (try dsimp only); rw [en_un_readState]; (try simp (disch := omega) only [Option.bind_some, if_true, if_false, eq_self, not_true_eq_false, not_false_eq_true, am_w_id, if_pos, if_neg, fu_self, fu_ne, Int.toNat_natCast, e1, s7]); rw [B_un_readState_0]; (try simp (disch := omega) only [Option.bind_some, if_true, if_false, eq_self, not_true_eq_false, not_false_eq_true, am_w_id, if_pos, if_neg, fu_self, fu_ne, Int.toNat_natCast, un_gR_1, un_l_1, un_s_1, un_gI_7, un_p_7, un_O, e1, s7])
      rw [B_un_readState_20, if_pos hrn]
      (try dsimp only); rw [B_un_readState_37]; (try simp (disch := omega) only [Option.bind_some, if_true, if_false, eq_self, not_true_eq_false, not_false_eq_true, am_w_id, if_pos, if_neg, fu_self, fu_ne, Int.toNat_natCast, un_s_1, hU.symm]); rw [B_un_readState_38]; (try simp (disch := omega) only [Option.bind_some, if_true, if_false, eq_self, not_true_eq_false, not_false_eq_true, am_w_id, if_pos, if_neg, fu_self, fu_ne, Int.toNat_natCast, un_s_1, hU.symm])
      rfl
/-- a machine that was read -/
def umR (S : Nat → Nat → Int) (x : Int) (ss : List sta) : Prop := S 9 0 = x ∧ arU S (fla ss) ∧ stU S ss
theorem un_read (T : tp_at g ta t) (hd : ta + 2 ≤ u ∨ u + 6 ≤ ta) (h2 : S 2 0 = 0) (d : Nat) :
    (∃ f S', rdB t = .inl f ∧ 1 ≤ f ∧ am_cI (d + 4) N_un_read [.inr (.inr (some (u)))] (unH ta u g S) = some (f, unH ta u g S') ∧ S' 2 0 = 0) ∨
    ∃ x ss S', rdB t = .inr (x, ss) ∧ am_cI (d + 4) N_un_read [.inr (.inr (some (u)))] (unH ta u g S) = some (0, unH ta u g S') ∧ umR S' x ss ∧ (1 ≤ ss.length ∧ ss.length ≤ 1001) ∧ (fla ss).length ≤ 133 ∧ (0 ≤ x ∧ x ≤ 999999) := by
  have ht := T.2.1
  have Tu : ∀ S, tp_at (unH ta u g S) ta t := fun S => T.fr unH_fr hd
  have gT := fun S => rd_gI (Tu S).1 (k := 1) rfl
  obtain ⟨S0, hS0⟩ : ∃ S0, S0 = am_fu (am_fu (am_fu S 6 (fun _ => 0)) 7 (fun _ => 0)) 10 (fun _ => 0) := ⟨_, rfl⟩
  have F0 : fd [6, 7, 10] S S0 := by rw [hS0]; exact ((fd.rf.up (by decide) _).up (by decide) _).up (by decide) _
  have z6 : S0 6 0 = ((0 : Nat) : Int) := by rw [hS0, fu_ne (by decide), fu_ne (by decide), fu_self]; rfl
  have z7 : S0 7 0 = 0 := by rw [hS0, fu_ne (by decide), fu_self]
  have z10 : S0 10 0 = 0 := by rw [hS0, fu_self]
  have z2 : S0 2 0 = 0 := by rw [F0 2 (by decide)]; exact h2
  -- a fault is answered
  have bad : ∀ (S : Nat → Nat → Int) (f x : Int), S 7 0 = f → 1 ≤ f → EV (d + 4) N_un_read T_un_read_77 [.inr (.inr (some (u))), .inl (x)] [] (unH ta u g S) = some (some (.inl f), unH ta u g S) := by
    intro S f x h7 hf
    have nf : ¬ f = 0 := by omega
    (try dsimp only); rw [B_un_read_77]; (try simp (disch := omega) only [Option.bind_some, if_true, if_false, eq_self, not_true_eq_false, not_false_eq_true, am_w_id, if_pos, if_neg, fu_self, fu_ne, Int.toNat_natCast, un_gI_7, un_p_7, h7, nf]); rw [B_un_read_111]; (try simp (disch := omega) only [Option.bind_some, if_true, if_false, eq_self, not_true_eq_false, not_false_eq_true, am_w_id, if_pos, if_neg, fu_self, fu_ne, Int.toNat_natCast, un_gI_7, un_p_7, h7, nf])
  unfold rdB
  rcases un_takeNumber (u := u) (S := S0) T hd z6 (Nat.zero_le _) 1 1001 (d + 2) with ⟨f, S1, r1, f1, e1, k1, F1⟩ | ⟨a, q, S1, r1, w1, b1, e1, k1, F1⟩
  · left
    rw [r1]
    have nf : ¬ f = 0 := by omega
    obtain ⟨U, hU⟩ : ∃ U, U = am_fu (am_fu S1 8 (fun _ => -1)) 9 (fun _ => 0) := ⟨_, rfl⟩
    have u7 : U 7 0 = f := by rw [hU, fu_ne (by decide), fu_ne (by decide)]; exact k1
    have v7 : (am_fu S1 8 (fun _ => -1)) 7 0 = f := by rw [fu_ne (by decide)]; exact k1
    have u8 : U 8 0 = -1 := by rw [hU, fu_ne (by decide), fu_self]
    refine ⟨f, U, rfl, f1, am_cI_of ?_, by rw [hU, fu_ne (by decide), fu_ne (by decide), F1 2 (by decide)]; exact z2⟩
    have st : am_call (d + 4) N_un_read [.inr (.inr (some (u)))] (unH ta u g S) = EV (d + 4) N_un_read T_un_read_77 [.inr (.inr (some (u))), .inl (0)] [] (unH ta u g U) := by
      (try dsimp only); rw [en_un_read]; (try simp (disch := omega) only [Option.bind_some, if_true, if_false, eq_self, not_true_eq_false, not_false_eq_true, am_w_id, if_pos, if_neg, fu_self, fu_ne, Int.toNat_natCast, hS0.symm, e1, k1, v7, nf, un_p_9, hU.symm, u8]); rw [B_un_read_0]; (try simp (disch := omega) only [Option.bind_some, if_true, if_false, eq_self, not_true_eq_false, not_false_eq_true, am_w_id, if_pos, if_neg, fu_self, fu_ne, Int.toNat_natCast, un_gI_6, un_p_6, un_gI_7, un_p_7, un_gI_10, un_p_10, un_gI_8, un_p_8, un_O, hS0.symm, e1, k1, v7, nf, un_p_9, hU.symm, u8]); rw [B_un_read_45]; (try simp (disch := omega) only [Option.bind_some, if_true, if_false, eq_self, not_true_eq_false, not_false_eq_true, am_w_id, if_pos, if_neg, fu_self, fu_ne, Int.toNat_natCast, hS0.symm, e1, k1, v7, nf, un_p_9, hU.symm, u8]); rw [B_un_read_46]; (try simp (disch := omega) only [Option.bind_some, if_true, if_false, eq_self, not_true_eq_false, not_false_eq_true, am_w_id, if_pos, if_neg, fu_self, fu_ne, Int.toNat_natCast, hS0.symm, e1, k1, v7, nf, un_p_9, hU.symm, u8]); rw [B_un_read_51]; (try simp (disch := omega) only [Option.bind_some, if_true, if_false, eq_self, not_true_eq_false, not_false_eq_true, am_w_id, if_pos, if_neg, fu_self, fu_ne, Int.toNat_natCast, un_gI_8, un_p_8, hS0.symm, e1, k1, v7, nf, un_p_9, hU.symm, u8])
    exact st.trans (bad U f 0 u7 f1)
  · rw [r1]
    dsimp only
    have s7 : S1 7 0 = 0 := by rw [F1 7 (by decide)]; exact z7
    obtain ⟨U1, hU1⟩ : ∃ U, U = am_fu S1 8 (fun _ => q) := ⟨_, rfl⟩
    have m7 : U1 7 0 = 0 := by rw [hU1, fu_ne (by decide)]; exact s7
    have m6 : U1 6 0 = (a : Int) := by rw [hU1, fu_ne (by decide)]; exact k1
    have m8 : U1 8 0 = q := by rw [hU1, fu_self]
    have m10 : U1 10 0 = 0 := by rw [hU1, fu_ne (by decide), F1 10 (by decide)]; exact z10
    have m2 : U1 2 0 = 0 := by rw [hU1, fu_ne (by decide), F1 2 (by decide)]; exact z2
    have q1 : ¬ q ≤ 0 := by omega
    rcases un_takeNumber (u := u) (S := U1) T hd m6 b1.2 0 999999 (d + 2) with ⟨f, S2, r2, f2, e2, k2, F2⟩ | ⟨b, x, S2, r2, w2, b2, e2, k2, F2⟩
    · left
      rw [r2]
      have nf : ¬ f = 0 := by omega
      obtain ⟨U, hU⟩ : ∃ U, U = am_fu S2 9 (fun _ => -1) := ⟨_, rfl⟩
      have u7 : U 7 0 = f := by rw [hU, fu_ne (by decide)]; exact k2
      have u8 : U 8 0 = q := by rw [hU, fu_ne (by decide), F2 8 (by decide)]; exact m8
      refine ⟨f, U, rfl, f2, am_cI_of ?_, by rw [hU, fu_ne (by decide), F2 2 (by decide)]; exact m2⟩
      have st : am_call (d + 4) N_un_read [.inr (.inr (some (u)))] (unH ta u g S) = EV (d + 4) N_un_read T_un_read_77 [.inr (.inr (some (u))), .inl (0)] [] (unH ta u g U) := by
        (try dsimp only); rw [en_un_read]; (try simp (disch := omega) only [Option.bind_some, if_true, if_false, eq_self, not_true_eq_false, not_false_eq_true, am_w_id, if_pos, if_neg, fu_self, fu_ne, Int.toNat_natCast, hS0.symm, e1, hU1.symm, s7, m7, e2, un_p_9, hU.symm, u8, q1, u7, nf]); rw [B_un_read_0]; (try simp (disch := omega) only [Option.bind_some, if_true, if_false, eq_self, not_true_eq_false, not_false_eq_true, am_w_id, if_pos, if_neg, fu_self, fu_ne, Int.toNat_natCast, un_gI_6, un_p_6, un_gI_7, un_p_7, un_gI_10, un_p_10, un_gI_8, un_p_8, un_O, hS0.symm, e1, hU1.symm, s7, m7, e2, un_p_9, hU.symm, u8, q1, u7, nf]); rw [B_un_read_35]; (try simp (disch := omega) only [Option.bind_some, if_true, if_false, eq_self, not_true_eq_false, not_false_eq_true, am_w_id, if_pos, if_neg, fu_self, fu_ne, Int.toNat_natCast, un_O, hS0.symm, e1, hU1.symm, s7, m7, e2, un_p_9, hU.symm, u8, q1, u7, nf]); rw [B_un_read_46]; (try simp (disch := omega) only [Option.bind_some, if_true, if_false, eq_self, not_true_eq_false, not_false_eq_true, am_w_id, if_pos, if_neg, fu_self, fu_ne, Int.toNat_natCast, hS0.symm, e1, hU1.symm, s7, m7, e2, un_p_9, hU.symm, u8, q1, u7, nf]); rw [B_un_read_51]; (try simp (disch := omega) only [Option.bind_some, if_true, if_false, eq_self, not_true_eq_false, not_false_eq_true, am_w_id, if_pos, if_neg, fu_self, fu_ne, Int.toNat_natCast, un_gI_8, un_p_8, hS0.symm, e1, hU1.symm, s7, m7, e2, un_p_9, hU.symm, u8, q1, u7, nf]); rw [B_un_read_59]; (try simp (disch := omega) only [Option.bind_some, if_true, if_false, eq_self, not_true_eq_false, not_false_eq_true, am_w_id, if_pos, if_neg, fu_self, fu_ne, Int.toNat_natCast, un_gI_7, un_p_7, hS0.symm, e1, hU1.symm, s7, m7, e2, un_p_9, hU.symm, u8, q1, u7, nf])
      exact st.trans (bad U f 0 u7 f2)
    · rw [r2]
      dsimp only
      obtain ⟨U, hU⟩ : ∃ U, U = am_fu S2 9 (fun _ => x) := ⟨_, rfl⟩
      have u6 : U 6 0 = (b : Int) := by rw [hU, fu_ne (by decide)]; exact k2
      have u7 : U 7 0 = 0 := by rw [hU, fu_ne (by decide), F2 7 (by decide)]; exact m7
      have u8 : U 8 0 = q := by rw [hU, fu_ne (by decide), F2 8 (by decide)]; exact m8
      have u10 : U 10 0 = 0 := by rw [hU, fu_ne (by decide), F2 10 (by decide)]; exact m10
      have u2 : U 2 0 = 0 := by rw [hU, fu_ne (by decide), F2 2 (by decide)]; exact m2
      have u9 : U 9 0 = x := by rw [hU, fu_self]
      have st : am_call (d + 4) N_un_read [.inr (.inr (some (u)))] (unH ta u g S) = EV (d + 4) N_un_read T_un_read_51 [.inr (.inr (some (u))), .inl ((([] : List sta).length : Int))] [] (unH ta u g U) := by
        (try dsimp only); rw [en_un_read]; (try simp (disch := omega) only [Option.bind_some, if_true, if_false, eq_self, not_true_eq_false, not_false_eq_true, am_w_id, if_pos, if_neg, fu_self, fu_ne, Int.toNat_natCast, hS0.symm, e1, hU1.symm, s7, m7, e2, un_p_9, hU.symm]); rw [B_un_read_0]; (try simp (disch := omega) only [Option.bind_some, if_true, if_false, eq_self, not_true_eq_false, not_false_eq_true, am_w_id, if_pos, if_neg, fu_self, fu_ne, Int.toNat_natCast, un_gI_6, un_p_6, un_gI_7, un_p_7, un_gI_10, un_p_10, un_gI_8, un_p_8, un_O, hS0.symm, e1, hU1.symm, s7, m7, e2, un_p_9, hU.symm]); rw [B_un_read_35]; (try simp (disch := omega) only [Option.bind_some, if_true, if_false, eq_self, not_true_eq_false, not_false_eq_true, am_w_id, if_pos, if_neg, fu_self, fu_ne, Int.toNat_natCast, un_O, hS0.symm, e1, hU1.symm, s7, m7, e2, un_p_9, hU.symm]); rw [B_un_read_46]; (try simp (disch := omega) only [Option.bind_some, if_true, if_false, eq_self, not_true_eq_false, not_false_eq_true, am_w_id, if_pos, if_neg, fu_self, fu_ne, Int.toNat_natCast, hS0.symm, e1, hU1.symm, s7, m7, e2, un_p_9, hU.symm])
        rfl
      have lp : ∀ (n a : Nat) (ss : List sta) (S : Nat → Nat → Int), (ss.length : Int) + n = q → S 6 0 = (a : Int) → a ≤ t.length → S 7 0 = 0 → S 8 0 = q → S 9 0 = x → arU S (fla ss) → 3 * (fla ss).length ≤ a → stU S ss →
          (∃ f S', rdSs t q n a = .inl f ∧ 1 ≤ f ∧ EV (d + 4) N_un_read T_un_read_51 [.inr (.inr (some (u))), .inl ((ss.length : Int))] [] (unH ta u g S) = some (some (.inl f), unH ta u g S') ∧ S' 2 0 = 0) ∨
          ∃ c ss' S', rdSs t q n a = .inr (c, ss') ∧ EV (d + 4) N_un_read T_un_read_51 [.inr (.inr (some (u))), .inl ((ss.length : Int))] [] (unH ta u g S) = EV (d + 4) N_un_read T_un_read_77 [.inr (.inr (some (u))), .inl (q)] [] (unH ta u g S') ∧ c ≤ t.length ∧ S' 6 0 = ((c : Nat) : Int) ∧ S' 7 0 = 0 ∧ umR S' x (ss ++ ss') ∧ 3 * (fla (ss ++ ss')).length ≤ c ∧ ((ss ++ ss').length : Int) = q := by
        intro n
        induction n with
        | zero =>
          intro a ss S hn k6 ha k7 k8 k9 kA k3 ks
          right
          have hq' : (ss.length : Int) = q := by omega
          refine ⟨a, [], S, rfl, ?_, ha, k6, k7, by rw [List.append_nil]; exact ⟨k9, kA, ks⟩, by rw [List.append_nil]; exact k3, by rw [List.append_nil]; exact hq'⟩
          rw [hq', B_un_read_51, un_gI_8, Option.bind_some, k8, if_pos (Int.le_refl _)]
        | succ n ih =>
          intro a ss S hn k6 ha k7 k8 k9 kA k3 ks
          have cl : ¬ q ≤ (ss.length : Int) := by omega
          have e9 : (ss.length : Int) + 1 = ((ss.length + 1 : Nat) : Int) := by omega
          rcases un_readState (u := u) (S := S) T hd w1 (by omega) k6 ha k7 k8 kA k3 ks d with ⟨f, S1, g1, g2, g3, g4, g5, g8⟩ | ⟨b, y, S1, g1, g2, g3, g4, g5, g6, g7, g8, g9, g10⟩
          · left
            refine ⟨f, S1, by rw [rdSs, g1], g2, ?_, g5⟩
            have nf : ¬ f = 0 := by omega
            have st : EV (d + 4) N_un_read T_un_read_51 [.inr (.inr (some (u))), .inl ((ss.length : Int))] [] (unH ta u g S) = EV (d + 4) N_un_read T_un_read_51 [.inr (.inr (some (u))), .inl (((ss.length + 1 : Nat) : Int))] [] (unH ta u g S1) := by
              (try dsimp only); rw [B_un_read_51]; (try simp (disch := omega) only [Option.bind_some, if_true, if_false, eq_self, not_true_eq_false, not_false_eq_true, am_w_id, if_pos, if_neg, fu_self, fu_ne, Int.toNat_natCast, un_gI_8, un_p_8, k8, cl, k7, g3, e9]); rw [B_un_read_59]; (try simp (disch := omega) only [Option.bind_some, if_true, if_false, eq_self, not_true_eq_false, not_false_eq_true, am_w_id, if_pos, if_neg, fu_self, fu_ne, Int.toNat_natCast, un_gI_7, un_p_7, k8, cl, k7, g3, e9]); rw [B_un_read_66]; (try simp (disch := omega) only [Option.bind_some, if_true, if_false, eq_self, not_true_eq_false, not_false_eq_true, am_w_id, if_pos, if_neg, fu_self, fu_ne, Int.toNat_natCast, un_O, k8, cl, k7, g3, e9])
            refine st.trans ?_
            by_cases cc : q ≤ ((ss.length + 1 : Nat) : Int)
            · rw [B_un_read_51, un_gI_8, Option.bind_some, g8, if_pos cc]
              exact bad S1 f _ g4 g2
            · rw [B_un_read_51, un_gI_8, Option.bind_some, g8, if_neg cc, B_un_read_59, un_gI_7, Option.bind_some, g4, if_pos nf]
              exact bad S1 f _ g4 g2
          · have st : EV (d + 4) N_un_read T_un_read_51 [.inr (.inr (some (u))), .inl ((ss.length : Int))] [] (unH ta u g S) = EV (d + 4) N_un_read T_un_read_51 [.inr (.inr (some (u))), .inl (((ss ++ [y]).length : Int))] [] (unH ta u g S1) := by
              rw [List.length_append, List.length_singleton]
              (try dsimp only); rw [B_un_read_51]; (try simp (disch := omega) only [Option.bind_some, if_true, if_false, eq_self, not_true_eq_false, not_false_eq_true, am_w_id, if_pos, if_neg, fu_self, fu_ne, Int.toNat_natCast, un_gI_8, un_p_8, k8, cl, k7, g2, e9]); rw [B_un_read_59]; (try simp (disch := omega) only [Option.bind_some, if_true, if_false, eq_self, not_true_eq_false, not_false_eq_true, am_w_id, if_pos, if_neg, fu_self, fu_ne, Int.toNat_natCast, un_gI_7, un_p_7, k8, cl, k7, g2, e9]); rw [B_un_read_66]; (try simp (disch := omega) only [Option.bind_some, if_true, if_false, eq_self, not_true_eq_false, not_false_eq_true, am_w_id, if_pos, if_neg, fu_self, fu_ne, Int.toNat_natCast, un_O, k8, cl, k7, g2, e9])
            rcases ih b (ss ++ [y]) S1 (by rw [List.length_append, List.length_singleton]; omega) g4 g3 g5 g6 (g7.trans k9) g8 g9 g10 with ⟨f, S', j1, j2, j3, j4⟩ | ⟨c, ss', S', j1, j2, j3, j4, j5, j6, j7, j8⟩
            · exact Or.inl ⟨f, S', by rw [rdSs, g1]; dsimp only; rw [j1], j2, st.trans j3, j4⟩
            · rw [List.append_assoc] at j6 j7 j8
              exact Or.inr ⟨c, y :: ss', S', by rw [rdSs, g1]; dsimp only; rw [j1], st.trans j2, j3, j4, j5, j6, j7, j8⟩
      rcases lp q.toNat b [] U (by rw [List.length_nil]; omega) u6 b2.2 u7 u8 u9 ⟨by rw [u10]; rfl, fun i y hy => by simp [fla] at hy⟩ (by simp [fla]) ⟨u2, fun s y hy => by simp at hy⟩ with ⟨f, S', j1, j2, j3, j4⟩ | ⟨c, ss, S', j1, j2, j3, j4, j5, j6, j7, j8⟩
      · rw [j1]
        exact Or.inl ⟨f, S', rfl, j2, am_cI_of (st.trans j3), j4⟩
      · rw [j1]
        dsimp only
        rw [List.nil_append] at j6 j7 j8
        have st2 := st.trans j2
        by_cases cc : c = t.length
        · rw [if_pos cc]
          right
          refine ⟨x, ss, S', rfl, am_cI_of (st2.trans ?_), j6, by omega, by omega, w2⟩
          have cc' : (t.length : Int) ≤ (c : Int) := by omega
          (try dsimp only); rw [B_un_read_77]; (try simp (disch := omega) only [Option.bind_some, if_true, if_false, eq_self, not_true_eq_false, not_false_eq_true, am_w_id, if_pos, if_neg, fu_self, fu_ne, Int.toNat_natCast, un_gI_7, un_p_7, j5, j4, gT, cc']); rw [B_un_read_84]; (try simp (disch := omega) only [Option.bind_some, if_true, if_false, eq_self, not_true_eq_false, not_false_eq_true, am_w_id, if_pos, if_neg, fu_self, fu_ne, Int.toNat_natCast, un_gI_6, un_p_6, un_gR_0, j5, j4, gT, cc']); rw [B_un_read_111]; (try simp (disch := omega) only [Option.bind_some, if_true, if_false, eq_self, not_true_eq_false, not_false_eq_true, am_w_id, if_pos, if_neg, fu_self, fu_ne, Int.toNat_natCast, un_gI_7, un_p_7, j5, j4, gT, cc'])
        · rw [if_neg cc]
          left
          have cc' : ¬ (t.length : Int) ≤ (c : Int) := by omega
          refine ⟨_, am_fu S' 7 (fun _ => 8 * (c : Int) + 3), rfl, by omega, am_cI_of (st2.trans ?_), by rw [fu_ne (by decide)]; exact j6.2.2.1⟩
          (try dsimp only); rw [B_un_read_77]; (try simp (disch := omega) only [Option.bind_some, if_true, if_false, eq_self, not_true_eq_false, not_false_eq_true, am_w_id, if_pos, if_neg, fu_self, fu_ne, Int.toNat_natCast, un_gI_7, un_p_7, j5, j4, gT, cc']); rw [B_un_read_84]; (try simp (disch := omega) only [Option.bind_some, if_true, if_false, eq_self, not_true_eq_false, not_false_eq_true, am_w_id, if_pos, if_neg, fu_self, fu_ne, Int.toNat_natCast, un_gI_6, un_p_6, un_gR_0, j5, j4, gT, cc']); rw [B_un_read_98]; (try simp (disch := omega) only [Option.bind_some, if_true, if_false, eq_self, not_true_eq_false, not_false_eq_true, am_w_id, if_pos, if_neg, fu_self, fu_ne, Int.toNat_natCast, un_gI_6, un_p_6, un_gI_7, un_p_7, j5, j4, gT, cc']); rw [B_un_read_111]; (try simp (disch := omega) only [Option.bind_some, if_true, if_false, eq_self, not_true_eq_false, not_false_eq_true, am_w_id, if_pos, if_neg, fu_self, fu_ne, Int.toNat_natCast, un_gI_7, un_p_7, j5, j4, gT, cc'])
end UN
