/-! the class: the history -/
def hiR (h : am_H) (y : Nat) (hs : List (List wd × List wd)) : Prop :=
  ∃ (o : Nat) (fW fB : Nat → Option Nat), h.2 y = .inr (2, [.inr (.inr (some (y + 1))), .inr (.inr (some (y + 2))), .inl ((o : Int)), .inl ((hs.length : Int))]) ∧ o < 12 ∧ hs.length ≤ 12 ∧
    h.2 (y + 1) = .inl (4, 12, .inr (.inr fW)) ∧ h.2 (y + 2) = .inl (4, 12, .inr (.inr fB)) ∧ (∀ i, i < 12 → fW i = some (y + 3 + 6 * i) ∧ fB i = some (y + 6 + 6 * i)) ∧
    (∀ i, i < 12 → bkW h (y + 3 + 6 * i) ∧ bkW h (y + 6 + 6 * i)) ∧
    ∀ k p, hs[k]? = some p → bkR h (y + 3 + 6 * ((o + k) % 12)) p.1 ∧ bkR h (y + 6 + 6 * ((o + k) % 12)) p.2
theorem hiR.fr {h h' : am_H} {y lo hi : Nat} {hs : List (List wd × List wd)} (H : hiR h y hs) (F : am_fr lo hi h h') (hd : y + 75 ≤ lo ∨ hi ≤ y) : hiR h' y hs := by
  obtain ⟨o, fW, fB, h1, h2, h3, h4, h5, h6, h7, h8⟩ := H
  refine ⟨o, fW, fB, (F.2 _ (by omega)).trans h1, h2, h3, (F.2 _ (by omega)).trans h4, (F.2 _ (by omega)).trans h5, h6, fun i hj => ⟨(h7 i hj).1.fr F (by omega), (h7 i hj).2.fr F (by omega)⟩, fun k p hp => ?_⟩
  have hm : (o + k) % 12 < 12 := Nat.mod_lt _ (by decide)
  exact ⟨(h8 k p hp).1.fr F (by omega), (h8 k p hp).2.fr F (by omega)⟩
section HI
variable {h : am_H} {y a b : Nat} {hs : List (List wd × List wd)} {ws bs : List wd}
theorem hi_save (H : hiR h y hs) (G1 : bkR h a ws) (G2 : bkR h b bs) (ha : a + 3 ≤ y ∨ y + 75 ≤ a) (hb : b + 3 ≤ y ∨ y + 75 ≤ b) (d : Nat) :
    ∃ h', am_cV (d + 1) N_hi_save [.inr (.inr (some (y))), .inr (.inr (some (a))), .inr (.inr (some (b)))] h = some h' ∧ am_fr y (y + 75) h h' ∧ hiR h' y (hpush hs (ws, bs)) := by
  obtain ⟨o, fW, fB, h1, h2, h3, h4, h5, h6, h7, h8⟩ := H
  have g2 : am_gI h y 2 2 = some (o : Int) := rd_gI h1 rfl
  have g3 : am_gI h y 2 3 = some (hs.length : Int) := rd_gI h1 rfl
  have tail : ∀ (hA : am_H) (x1 x2 : Int) (s : Nat), hA = am_up h y (.inr (2, [.inr (.inr (some (y + 1))), .inr (.inr (some (y + 2))), .inl (x1), .inl (x2)])) → s < 12 →
      ∃ h', EV (d + 1) N_hi_save T_hi_save_48 [.inr (.inr (some (y))), .inr (.inr (some (a))), .inr (.inr (some (b))), .inl ((s : Int))] [] hA = some (none, h') ∧ am_fr y (y + 75) h h' ∧ h'.2 y = .inr (2, [.inr (.inr (some (y + 1))), .inr (.inr (some (y + 2))), .inl (x1), .inl (x2)]) ∧
        bkR h' (y + 3 + 6 * s) ws ∧ bkR h' (y + 6 + 6 * s) bs ∧ h'.2 (y + 1) = h.2 (y + 1) ∧ h'.2 (y + 2) = h.2 (y + 2) ∧
        ∀ i, i < 12 → i ≠ s → ∀ l, (bkR h (y + 3 + 6 * i) l → bkR h' (y + 3 + 6 * i) l) ∧ (bkR h (y + 6 + 6 * i) l → bkR h' (y + 6 + 6 * i) l) ∧
          (bkW h (y + 3 + 6 * i) → bkW h' (y + 3 + 6 * i)) ∧ (bkW h (y + 6 + 6 * i) → bkW h' (y + 6 + 6 * i)) := by
    intro hA x1 x2 s eA hs1
    have FA : am_fr y (y + 1) h hA := by rw [eA]; exact am_fr.up (by omega) (by omega)
    have z0 : hA.2 y = .inr (2, [.inr (.inr (some (y + 1))), .inr (.inr (some (y + 2))), .inl (x1), .inl (x2)]) := by rw [eA]; exact up_self
    have z1 := (FA.2 (y + 1) (by omega)).trans h4
    have z2 := (FA.2 (y + 2) (by omega)).trans h5
    have w1 := (h7 s hs1).1.fr FA (by omega)
    have w2 := (h7 s hs1).2.fr FA (by omega)
    obtain ⟨hB, t1, F1, k1⟩ := bk_take w1 (G1.fr FA (by omega)) (by omega) d
    have w3 := w2.fr F1 (by omega)
    obtain ⟨hC, t2, F2, k2⟩ := bk_take w3 ((G2.fr FA (by omega)).fr F1 (by omega)) (by omega) d
    have y0 := (F1.2 y (by omega)).trans z0
    have y2 := (F1.2 (y + 2) (by omega)).trans z2
    refine ⟨hC, ?_, ((FA.wide (by omega) (by omega)).tr (F1.wide (by omega) (by omega))).tr (F2.wide (by omega) (by omega)), (F2.2 y (by omega)).trans y0, k1.fr F2 (by omega), k2, ?_, ?_, ?_⟩
    · rw [B_hi_save_48, rd_gR z0 rfl, Option.bind_some, rd_lR z1 (by omega) (by omega), Int.toNat_natCast, (h6 s hs1).1, Option.bind_some, if_pos w1.O, t1, Option.bind_some, rd_gR y0 rfl, Option.bind_some, rd_lR y2 (by omega) (by omega), Int.toNat_natCast, (h6 s hs1).2, Option.bind_some, if_pos w3.O, t2, Option.bind_some]
    · exact (F2.2 _ (by omega)).trans ((F1.2 _ (by omega)).trans (FA.2 _ (by omega)))
    · exact (F2.2 _ (by omega)).trans ((F1.2 _ (by omega)).trans (FA.2 _ (by omega)))
    · intro i hj hne l
      have q1 : y + 3 + 6 * i + 3 ≤ y + 3 + 6 * s ∨ y + 3 + 6 * s + 3 ≤ y + 3 + 6 * i := by omega
      have q2 : y + 3 + 6 * i + 3 ≤ y + 6 + 6 * s ∨ y + 6 + 6 * s + 3 ≤ y + 3 + 6 * i := by omega
      have q3 : y + 6 + 6 * i + 3 ≤ y + 3 + 6 * s ∨ y + 3 + 6 * s + 3 ≤ y + 6 + 6 * i := by omega
      have q4 : y + 6 + 6 * i + 3 ≤ y + 6 + 6 * s ∨ y + 6 + 6 * s + 3 ≤ y + 6 + 6 * i := by omega
      exact ⟨fun u => ((u.fr FA (by omega)).fr F1 q1).fr F2 q2, fun u => ((u.fr FA (by omega)).fr F1 q3).fr F2 q4, fun u => ((u.fr FA (by omega)).fr F1 q1).fr F2 q2, fun u => ((u.fr FA (by omega)).fr F1 q3).fr F2 q4⟩
  have hw0 : am_w ((o : Int) + (hs.length : Int)) = (o : Int) + (hs.length : Int) := am_w_id (by omega) (by omega)
  have hr0 : am_rem ((o : Int) + (hs.length : Int)) 12 = (((o + hs.length) % 12 : Nat) : Int) := by rw [bt_rem (by omega) (by omega) (by decide) (by decide)]; omega
  have hpl := hpush_len (p := (ws, bs)) h3
  by_cases c : hs.length = 12
  · have hs0 : (o + hs.length) % 12 = o := by omega
    rw [hs0] at hr0
    rw [if_pos c] at hpl
    have hw1 : am_w ((o : Int) + 1) = (o : Int) + 1 := am_w_id (by omega) (by omega)
    have hr1 : am_rem ((o : Int) + 1) 12 = (((o + 1) % 12 : Nat) : Int) := by rw [bt_rem (by omega) (by omega) (by decide) (by decide)]; omega
    have p2 : am_p h y 2 2 (.inl ((((o + 1) % 12 : Nat) : Int))) = some (am_up h y (.inr (2, [.inr (.inr (some (y + 1))), .inr (.inr (some (y + 2))), .inl ((((o + 1) % 12 : Nat) : Int)), .inl ((hs.length : Int))]))) := rd_p h1 (show 2 < 4 by decide)
    obtain ⟨h', e, F, r0, r1, r2, r3, r4, r5⟩ := tail _ (((o + 1) % 12 : Nat) : Int) (hs.length : Int) o rfl h2
    refine ⟨h', am_cV_of (Eq.trans ?_ e), F, (o + 1) % 12, fW, fB, by rw [hpl, r0, c], Nat.mod_lt _ (by decide), by omega, r3.trans h4, r4.trans h5, h6, fun i hj => ?_, fun k p hp => ?_⟩
    · rw [en_hi_save, B_hi_save_0, g2, Option.bind_some, g3, Option.bind_some, Option.bind_some, if_pos (by omega), hw0, hr0, B_hi_save_35, g2, Option.bind_some, hw1, hr1, p2, Option.bind_some]
    · by_cases ci : i = o
      · rw [ci]; exact ⟨r1.w, r2.w⟩
      · have := r5 i hj ci []
        exact ⟨this.2.2.1 (h7 i hj).1, this.2.2.2 (h7 i hj).2⟩
    · rcases hpush_get h3 hp with ⟨u1, u2, u3⟩ | ⟨u1, _⟩ | ⟨u1, u2⟩
      · have e1 : ((o + 1) % 12 + k) % 12 = (o + (k + 1)) % 12 := by omega
        rw [e1]
        have hm : (o + (k + 1)) % 12 < 12 := Nat.mod_lt _ (by decide)
        have hne : (o + (k + 1)) % 12 ≠ o := by omega
        have := r5 _ hm hne
        exact ⟨(this p.1).1 (h8 _ p u3).1, (this p.2).2.1 (h8 _ p u3).2⟩
      · omega
      · rw [if_pos c] at u2
        have e1 : ((o + 1) % 12 + k) % 12 = o := by omega
        rw [e1, u1]
        exact ⟨r1, r2⟩
  · rw [if_neg c] at hpl
    have hw1 : am_w ((hs.length : Int) + 1) = ((hs.length + 1 : Nat) : Int) := by rw [am_w_id (by omega) (by omega)]; rfl
    have p2 : am_p h y 2 3 (.inl (((hs.length + 1 : Nat) : Int))) = some (am_up h y (.inr (2, [.inr (.inr (some (y + 1))), .inr (.inr (some (y + 2))), .inl ((o : Int)), .inl (((hs.length + 1 : Nat) : Int))]))) := rd_p h1 (show 3 < 4 by decide)
    have hm : (o + hs.length) % 12 < 12 := Nat.mod_lt _ (by decide)
    obtain ⟨h', e, F, r0, r1, r2, r3, r4, r5⟩ := tail _ (o : Int) ((hs.length + 1 : Nat) : Int) _ rfl hm
    refine ⟨h', am_cV_of (Eq.trans ?_ e), F, o, fW, fB, by rw [hpl]; exact r0, h2, by omega, r3.trans h4, r4.trans h5, h6, fun i hj => ?_, fun k p hp => ?_⟩
    · rw [en_hi_save, B_hi_save_0, g2, Option.bind_some, g3, Option.bind_some, Option.bind_some, if_neg (by omega), hw0, hr0, B_hi_save_22, g3, Option.bind_some, hw1, p2, Option.bind_some]
    · by_cases ci : i = (o + hs.length) % 12
      · rw [ci]; exact ⟨r1.w, r2.w⟩
      · have := r5 i hj ci []
        exact ⟨this.2.2.1 (h7 i hj).1, this.2.2.2 (h7 i hj).2⟩
    · rcases hpush_get h3 hp with ⟨u1, _, _⟩ | ⟨u1, u2⟩ | ⟨u1, u2⟩
      · omega
      · have hk := (List.getElem?_eq_some_iff.mp u2).1
        have hm2 : (o + k) % 12 < 12 := Nat.mod_lt _ (by decide)
        have hne : (o + k) % 12 ≠ (o + hs.length) % 12 := by omega
        have := r5 _ hm2 hne
        exact ⟨(this p.1).1 (h8 _ p u2).1, (this p.2).2.1 (h8 _ p u2).2⟩
      · rw [if_neg c] at u2
        rw [u2, u1]
        exact ⟨r1, r2⟩
theorem hi_takeBack {p : List wd × List wd} (H : hiR h y hs) (hp : hs.getLast? = some p) (G1 : bkW h a) (G2 : bkW h b) (ha : a + 3 ≤ y ∨ y + 75 ≤ a) (hb : b + 3 ≤ y ∨ y + 75 ≤ b) (hab : a + 3 ≤ b ∨ b + 3 ≤ a) (d : Nat) :
    ∃ h', am_cV (d + 1) N_hi_takeBack [.inr (.inr (some (y))), .inr (.inr (some (a))), .inr (.inr (some (b)))] h = some h' ∧ am_f3 y a b h h' ∧ hiR h' y hs.dropLast ∧ bkR h' a p.1 ∧ bkR h' b p.2 := by
  obtain ⟨o, fW, fB, h1, h2, h3, h4, h5, h6, h7, h8⟩ := H
  have g3 : am_gI h y 2 3 = some (hs.length : Int) := rd_gI h1 rfl
  have hne : hs ≠ [] := by rintro rfl; simp at hp
  have hlen : hs.length ≠ 0 := fun e => hne (List.length_eq_zero_iff.mp e)
  have hget : hs[hs.length - 1]? = some p := by rw [← List.getLast?_eq_getElem?]; exact hp
  have hw1 : am_w ((hs.length : Int) - 1) = ((hs.length - 1 : Nat) : Int) := by rw [am_w_id (by omega) (by omega)]; omega
  obtain ⟨hA, eA⟩ : ∃ hA, hA = am_up h y (.inr (2, [.inr (.inr (some (y + 1))), .inr (.inr (some (y + 2))), .inl ((o : Int)), .inl (((hs.length - 1 : Nat) : Int))])) := ⟨_, rfl⟩
  have p2 : am_p h y 2 3 (.inl (((hs.length - 1 : Nat) : Int))) = some hA := by rw [eA]; exact rd_p h1 (show 3 < 4 by decide)
  have FA : am_fr y (y + 1) h hA := by rw [eA]; exact am_fr.up (by omega) (by omega)
  have z0 : hA.2 y = .inr (2, [.inr (.inr (some (y + 1))), .inr (.inr (some (y + 2))), .inl ((o : Int)), .inl (((hs.length - 1 : Nat) : Int))]) := by rw [eA]; exact up_self
  have z1 := (FA.2 (y + 1) (by omega)).trans h4
  have z2 := (FA.2 (y + 2) (by omega)).trans h5
  have k2 : am_gI hA y 2 2 = some (o : Int) := rd_gI z0 rfl
  have k3 : am_gI hA y 2 3 = some ((hs.length - 1 : Nat) : Int) := rd_gI z0 rfl
  have hw0 : am_w ((o : Int) + ((hs.length - 1 : Nat) : Int)) = ((o + (hs.length - 1) : Nat) : Int) := by rw [am_w_id (by omega) (by omega)]; omega
  have hr0 : am_rem ((o + (hs.length - 1) : Nat) : Int) 12 = (((o + (hs.length - 1)) % 12 : Nat) : Int) := by rw [bt_rem (by omega) (by omega) (by decide) (by decide)]; omega
  have hm : (o + (hs.length - 1)) % 12 < 12 := Nat.mod_lt _ (by decide)
  obtain ⟨v1, v2⟩ := h8 _ p hget
  generalize (o + (hs.length - 1)) % 12 = s at *
  have w1 := G1.fr FA (by omega)
  have w2 := G2.fr FA (by omega)
  obtain ⟨hB, t1, F1, r1⟩ := bk_take w1 (v1.fr FA (by omega)) (by omega) d
  have w3 := w2.fr F1 (by omega)
  obtain ⟨hC, t2, F2, r2⟩ := bk_take w3 ((v2.fr FA (by omega)).fr F1 (by omega)) (by omega) d
  have y0 := (F1.2 y (by omega)).trans z0
  have y2 := (F1.2 (y + 2) (by omega)).trans z2
  refine ⟨hC, am_cV_of ?_, ⟨(F2.1.trans F1.1).trans FA.1, fun c c1 c2 c3 => (F2.2 c (by omega)).trans ((F1.2 c (by omega)).trans (FA.2 c (by omega)))⟩, ?_, r1.fr F2 (by omega), r2⟩
  · rw [en_hi_takeBack, B_hi_takeBack_0, g3, Option.bind_some, if_pos (by omega), B_hi_takeBack_8, g3, Option.bind_some, hw1, p2, Option.bind_some, k2, Option.bind_some, k3, Option.bind_some, rd_gR z0 rfl, Option.bind_some, hw0, hr0, rd_lR z1 (by omega) (by omega), Int.toNat_natCast, (h6 s hm).1, Option.bind_some, if_pos w1.O, t1, Option.bind_some, rd_gR y0 rfl, Option.bind_some, rd_lR y2 (by omega) (by omega), Int.toNat_natCast, (h6 s hm).2, Option.bind_some, if_pos w3.O, t2, Option.bind_some]
  · have hdl : hs.dropLast.length = hs.length - 1 := List.length_dropLast
    refine ⟨o, fW, fB, by rw [hdl]; exact (F2.2 y (by omega)).trans y0, h2, by omega, (F2.2 _ (by omega)).trans ((F1.2 _ (by omega)).trans z1), (F2.2 _ (by omega)).trans y2, h6, fun i hj => ⟨(((h7 i hj).1.fr FA (by omega)).fr F1 (by omega)).fr F2 (by omega), (((h7 i hj).2.fr FA (by omega)).fr F1 (by omega)).fr F2 (by omega)⟩, fun k q hq => ?_⟩
    have hk : hs[k]? = some q := by
      have hk0 := (List.getElem?_eq_some_iff.mp hq).1
      rw [List.dropLast_eq_take, List.getElem?_take, if_pos (by omega)] at hq
      exact hq
    have hmk : (o + k) % 12 < 12 := Nat.mod_lt _ (by decide)
    obtain ⟨u1, u2⟩ := h8 k q hk
    exact ⟨((u1.fr FA (by omega)).fr F1 (by omega)).fr F2 (by omega), ((u2.fr FA (by omega)).fr F1 (by omega)).fr F2 (by omega)⟩
end HI
