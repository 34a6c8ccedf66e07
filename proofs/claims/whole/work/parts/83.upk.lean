/-! unpack: the model's, put together -/
noncomputable section
/-- the words that bytes are packed of -/
def upW (t : List Int) : Option (List wd) := match rdB t with
  | .inl _ => none
  | .inr q => @ite _ (ok (upw [] q.1 (wy q.2 10 0)) ∧ pkE (upw [] q.1 (wy q.2 10 0)) = t) (cdec _) (some (upw [] q.1 (wy q.2 10 0))) none
def upF (t : List Int) : Int := match rdB t with
  | .inl f => f
  | .inr _ => 8 * (t.length : Int) + 4
def sp_unpack (s : Sta) : Int × Sta := match upW s.1 with
  | some W => ((W.length : Int), act [] W s.2.2.1 s)
  | none => (-2 - upF s.1, noT s)
end
theorem upW_iff {t : List Int} {W : List wd} : upW t = some W ↔ ok W ∧ pkE W = t := by
  unfold upW
  constructor
  · intro h
    split at h
    · simp at h
    · split at h
      · next c =>
        injection h with h
        rw [h] at c
        exact c
      · simp at h
  · rintro ⟨h1, h2⟩
    rw [← h2, rdB_pk h1]
    dsimp only
    rw [wy_mM h1, upw_R, if_pos ⟨h1, rfl⟩]
theorem upW_no {t : List Int} (h : upW t = none) {W : List wd} (h1 : ok W) : pkE W ≠ t := fun e => by
  have := upW_iff.mpr ⟨h1, e⟩
  rw [h] at this
  simp at this
theorem ok_unpack {s : Sta} (h : okT s) : okT (sp_unpack s).2 := by
  unfold sp_unpack
  cases e : upW s.1 with
  | none => exact ok_noT h
  | some W => exact ok_act h ⟨by simp, fun x hx => by simp at hx⟩ (upW_iff.mp e).1 h.2.2.1
theorem rdV_bd {t : List Int} {a0 : Nat} (h0 : a0 ≤ 400) (ht : t.length ≤ 400) : ∀ {n a : Nat} {v f : Int}, rdV t a0 n a v = .inl f → 0 ≤ f ∧ f ≤ 3204
  | 0, a, v, f, h => by
    unfold rdV at h
    injection h with h
    omega
  | n + 1, a, v, f, h => by
    unfold rdV at h
    split at h; · injection h with h; omega
    split at h; · simp at h
    exact rdV_bd h0 ht h
theorem rdN_bd {t : List Int} {a : Nat} {lo hi f : Int} (h0 : a ≤ 400) (ht : t.length ≤ 400) (h : rdN t a lo hi = .inl f) : 0 ≤ f ∧ f ≤ 3204 := by
  unfold rdN at h
  split at h
  · next e =>
    injection h with h
    subst h
    exact rdV_bd h0 ht e
  · split at h
    · simp at h
    · injection h with h; omega
theorem rdA_bd {t : List Int} {q : Int} (ht : t.length ≤ 400) : ∀ {n a : Nat} {l f : Int}, a ≤ t.length → rdA t q n a l = .inl f → 0 ≤ f ∧ f ≤ 3204
  | 0, a, l, f, ha, h => by unfold rdA at h; simp at h
  | n + 1, a, l, f, ha, h => by
    unfold rdA at h
    split at h
    · next e => injection h with h; subst h; exact rdN_bd (by omega) ht e
    next e1 =>
    have k1 := (rdN_ok e1).1
    split at h
    · next e => injection h with h; subst h; exact rdN_bd (by omega) ht e
    next e2 =>
    have k2 := (rdN_ok e2).1
    split at h
    · next e => injection h with h; subst h; exact rdN_bd (by omega) ht e
    next e3 =>
    have k3 := (rdN_ok e3).1
    split at h
    · next e => injection h with h; subst h; exact rdA_bd ht k3.2 e
    · simp at h
theorem rdS_bd {t : List Int} {q : Int} (ht : t.length ≤ 400) {a : Nat} {f : Int} (ha : a ≤ t.length) (h : rdS t q a = .inl f) : 0 ≤ f ∧ f ≤ 3204 := by
  unfold rdS at h
  split at h
  · next e => injection h with h; subst h; exact rdN_bd (by omega) ht e
  next e1 =>
  have k1 := (rdN_ok e1).1
  split at h
  · split at h
    · next e => injection h with h; subst h; exact rdN_bd (by omega) ht e
    next e2 =>
    have k2 := (rdN_ok e2).1
    split at h
    · next e => injection h with h; subst h; exact rdA_bd ht k2.2 e
    · simp at h
  · split at h
    · next e => injection h with h; subst h; exact rdA_bd ht k1.2 e
    · simp at h
theorem rdS_ok {t : List Int} {q : Int} {a b : Nat} {x : sta} (ha : a ≤ t.length) (h : rdS t q a = .inr (b, x)) : b ≤ t.length := by
  unfold rdS at h
  split at h; · simp at h
  next e1 =>
  have k1 := (rdN_ok e1).1
  split at h
  · split at h; · simp at h
    next e2 =>
    have k2 := (rdN_ok e2).1
    split at h; · simp at h
    next e3 =>
    injection h with h; injection h with h1 h2
    rw [← h1]
    exact (rdA_ok e3).2 k2.2
  · split at h; · simp at h
    next e3 =>
    injection h with h; injection h with h1 h2
    rw [← h1]
    exact (rdA_ok e3).2 k1.2
theorem rdSs_bd {t : List Int} {q : Int} (ht : t.length ≤ 400) : ∀ {n a : Nat} {f : Int}, a ≤ t.length → rdSs t q n a = .inl f → 0 ≤ f ∧ f ≤ 3204
  | 0, a, f, ha, h => by unfold rdSs at h; simp at h
  | n + 1, a, f, ha, h => by
    unfold rdSs at h
    split at h
    · next e => injection h with h; subst h; exact rdS_bd ht ha e
    next e1 =>
    split at h
    · next e => injection h with h; subst h; exact rdSs_bd ht (rdS_ok ha e1) e
    · simp at h
theorem rdSs_ok {t : List Int} {q : Int} : ∀ {n a b : Nat} {ss : List sta}, a ≤ t.length → rdSs t q n a = .inr (b, ss) → b ≤ t.length
  | 0, a, b, ss, ha, h => by
    unfold rdSs at h
    injection h with h; injection h with h1 h2
    omega
  | n + 1, a, b, ss, ha, h => by
    unfold rdSs at h
    split at h; · simp at h
    next e1 =>
    split at h; · simp at h
    next e2 =>
    injection h with h; injection h with h1 h2
    rw [← h1]
    exact rdSs_ok (rdS_ok ha e1) e2
theorem rdB_bd {t : List Int} (ht : t.length ≤ 400) {f : Int} (h : rdB t = .inl f) : 0 ≤ f ∧ f ≤ 3204 := by
  unfold rdB at h
  split at h
  · next e => injection h with h; subst h; exact rdN_bd (by omega) ht e
  next e1 =>
  have k1 := (rdN_ok e1).1
  split at h
  · next e => injection h with h; subst h; exact rdN_bd (by omega) ht e
  next e2 =>
  have k2 := (rdN_ok e2).1
  split at h
  · next e => injection h with h; subst h; exact rdSs_bd ht k2.2 e
  next c ss e3 =>
  have k3 := rdSs_ok k2.2 e3
  split at h
  · simp at h
  · injection h with h; omega
theorem upF_bd {t : List Int} (ht : t.length ≤ 400) : 0 ≤ upF t ∧ upF t ≤ 3204 := by
  unfold upF
  split
  · next e => exact rdB_bd ht e
  · omega
section MO
variable {m : Nat} {g : am_H} {S : Nat → Nat → Int} {t : List Int} {ws bs W : List wd} {hs : List (List wd × List wd)} {sh : Nat → Option (List wd)}
theorem sby_inj {x y : Int} (hx : 0 ≤ x ∧ x < 256) (hy : 0 ≤ y ∧ y < 256) (h : sby x = sby y) : x = y := by
  unfold sby at h
  split at h <;> split at h <;> omega
theorem md_isAsPacked (hok : ok W) (H : ml 2402 (S 2) 0 W) (T : taR S t) (d : Nat) : ∃ x S', am_cI (d + 6) N_md_isAsPacked [.inr (.inr (some (m)))] (MH m g S) = some (x, MH m g S') ∧ ((x = 1 ∧ pkE W = t) ∨ (x = 0 ∧ pkE W ≠ t)) ∧ fd [13, 14, 15, 16, 17, 18, 19, 20, 21, 22, 23, 31, 32] S S' := by
  obtain ⟨x, U, e, r1, r2, r3⟩ := md_packs (m := m) (g := g) hok H d
  have TU : taR U t := by unfold taR; rw [r3 0 (by decide), r3 1 (by decide)]; exact T
  obtain ⟨t1, t2, t3, t4⟩ := TU
  by_cases c : (pkE W).length ≤ 400
  · rw [if_pos c] at r1
    subst r1
    obtain ⟨p1, p2, p3, p4⟩ := r2 c
    generalize pkE W = B at *
    have q1 : ¬ (1 : Int) = 0 := by decide
    by_cases cl : B.length = t.length
    · have cl' : (B.length : Int) = (t.length : Int) := by omega
      have key : ∃ x, am_call (d + 6) N_md_isAsPacked [.inr (.inr (some (m)))] (MH m g S) = some (some (.inl x), MH m g U) ∧ ((x = 1 ∧ B = t) ∨ (x = 0 ∧ B ≠ t)) := by
        have st : am_call (d + 6) N_md_isAsPacked [.inr (.inr (some (m)))] (MH m g S) = EV (d + 6) N_md_isAsPacked T_md_isAsPacked_22 [.inr (.inr (some (m))), .inl (((0 : Nat) : Int))] [] (MH m g U) := by
          (try dsimp only); rw [en_md_isAsPacked]; (try simp (disch := omega) only [Option.bind_some, if_true, if_false, eq_self, not_true_eq_false, not_false_eq_true, am_w_id, if_pos, if_neg, fu_self, fu_ne, Int.toNat_natCast, e, q1, p1, t1, cl']); rw [B_md_isAsPacked_0]; (try simp (disch := omega) only [Option.bind_some, if_true, if_false, eq_self, not_true_eq_false, not_false_eq_true, am_w_id, if_pos, if_neg, fu_self, fu_ne, Int.toNat_natCast, m_O, e, q1, p1, t1, cl']); rw [B_md_isAsPacked_7]; (try simp (disch := omega) only [Option.bind_some, if_true, if_false, eq_self, not_true_eq_false, not_false_eq_true, am_w_id, if_pos, if_neg, fu_self, fu_ne, Int.toNat_natCast, m_gI_32, m_p_32, m_gI_1, m_p_1, e, q1, p1, t1, cl']); rw [B_md_isAsPacked_20]; (try simp (disch := omega) only [Option.bind_some, if_true, if_false, eq_self, not_true_eq_false, not_false_eq_true, am_w_id, if_pos, if_neg, fu_self, fu_ne, Int.toNat_natCast, e, q1, p1, t1, cl'])
          rfl
        rw [st]
        refine am_loop (S := Nat) (F := fun k => EV (d + 6) N_md_isAsPacked T_md_isAsPacked_22 [.inr (.inr (some (m))), .inl ((k : Int))] [] (MH m g U)) (I := fun k => k ≤ t.length ∧ ∀ i, i < k → B.getD i 0 = t.getD i 0) (R := fun o => ∃ x, o = some (some (.inl x), MH m g U) ∧ ((x = 1 ∧ B = t) ∨ (x = 0 ∧ B ≠ t))) (fun k => t.length - k) ?_ 0 ⟨Nat.zero_le _, fun i hi => by omega⟩
        rintro k ⟨k1, k2⟩
        by_cases c1 : k = t.length
        · left
          subst c1
          refine ⟨1, ?_, Or.inl ⟨rfl, getD_ext cl (fun i hi => k2 i (by omega))⟩⟩
          (try dsimp only); rw [B_md_isAsPacked_22]; (try simp (disch := omega) only [Option.bind_some, if_true, if_false, eq_self, not_true_eq_false, not_false_eq_true, am_w_id, if_pos, if_neg, fu_self, fu_ne, Int.toNat_natCast, m_gI_1, m_p_1, t1]); rw [B_md_isAsPacked_53]; (try simp (disch := omega) only [Option.bind_some, if_true, if_false, eq_self, not_true_eq_false, not_false_eq_true, am_w_id, if_pos, if_neg, fu_self, fu_ne, Int.toNat_natCast, t1])
        · have h31 := p4 k (by omega)
          have h0 := t4 k (by omega)
          have b1 := by_get p3 (show k < B.length by omega)
          have b2 := by_get t3 (show k < t.length by omega)
          by_cases c2 : B.getD k 0 = t.getD k 0
          · right
            refine ⟨k + 1, ⟨by omega, fun i hi => ?_⟩, by omega, ?_⟩
            · by_cases e9 : i = k
              · rw [e9]; exact c2
              · exact k2 i (by omega)
            · have e9 : (k : Int) + 1 = ((k + 1 : Nat) : Int) := by omega
              have c2' : sby (B.getD k 0) = sby (t.getD k 0) := by rw [c2]
              (try dsimp only); rw [B_md_isAsPacked_22]; (try simp (disch := omega) only [Option.bind_some, if_true, if_false, eq_self, not_true_eq_false, not_false_eq_true, am_w_id, if_pos, if_neg, fu_self, fu_ne, Int.toNat_natCast, m_gI_1, m_p_1, t1, h31, h0, c2', e9]); rw [B_md_isAsPacked_30]; (try simp (disch := omega) only [Option.bind_some, if_true, if_false, eq_self, not_true_eq_false, not_false_eq_true, am_w_id, if_pos, if_neg, fu_self, fu_ne, Int.toNat_natCast, m_gR_31, m_l_31, m_s_31, m_gR_0, m_l_0, m_s_0, t1, h31, h0, c2', e9]); rw [B_md_isAsPacked_47]; (try simp (disch := omega) only [Option.bind_some, if_true, if_false, eq_self, not_true_eq_false, not_false_eq_true, am_w_id, if_pos, if_neg, fu_self, fu_ne, Int.toNat_natCast, t1, h31, h0, c2', e9])
          · left
            have c2' : ¬ sby (B.getD k 0) = sby (t.getD k 0) := fun h => c2 (sby_inj b1 b2 h)
            refine ⟨0, ?_, Or.inr ⟨rfl, fun h => c2 (by rw [h])⟩⟩
            (try dsimp only); rw [B_md_isAsPacked_22]; (try simp (disch := omega) only [Option.bind_some, if_true, if_false, eq_self, not_true_eq_false, not_false_eq_true, am_w_id, if_pos, if_neg, fu_self, fu_ne, Int.toNat_natCast, m_gI_1, m_p_1, t1, h31, h0, c2']); rw [B_md_isAsPacked_30]; (try simp (disch := omega) only [Option.bind_some, if_true, if_false, eq_self, not_true_eq_false, not_false_eq_true, am_w_id, if_pos, if_neg, fu_self, fu_ne, Int.toNat_natCast, m_gR_31, m_l_31, m_s_31, m_gR_0, m_l_0, m_s_0, t1, h31, h0, c2']); rw [B_md_isAsPacked_45]; (try simp (disch := omega) only [Option.bind_some, if_true, if_false, eq_self, not_true_eq_false, not_false_eq_true, am_w_id, if_pos, if_neg, fu_self, fu_ne, Int.toNat_natCast, t1, h31, h0, c2'])
      obtain ⟨x, e2, h⟩ := key
      exact ⟨x, U, am_cI_of e2, h, r3⟩
    · have cl' : ¬ (B.length : Int) = (t.length : Int) := by omega
      refine ⟨0, U, am_cI_of ?_, Or.inr ⟨rfl, fun h => cl (by rw [h])⟩, r3⟩
      (try dsimp only); rw [en_md_isAsPacked]; (try simp (disch := omega) only [Option.bind_some, if_true, if_false, eq_self, not_true_eq_false, not_false_eq_true, am_w_id, if_pos, if_neg, fu_self, fu_ne, Int.toNat_natCast, e, q1, p1, t1, cl']); rw [B_md_isAsPacked_0]; (try simp (disch := omega) only [Option.bind_some, if_true, if_false, eq_self, not_true_eq_false, not_false_eq_true, am_w_id, if_pos, if_neg, fu_self, fu_ne, Int.toNat_natCast, m_O, e, q1, p1, t1, cl']); rw [B_md_isAsPacked_7]; (try simp (disch := omega) only [Option.bind_some, if_true, if_false, eq_self, not_true_eq_false, not_false_eq_true, am_w_id, if_pos, if_neg, fu_self, fu_ne, Int.toNat_natCast, m_gI_32, m_p_32, m_gI_1, m_p_1, e, q1, p1, t1, cl']); rw [B_md_isAsPacked_18]; (try simp (disch := omega) only [Option.bind_some, if_true, if_false, eq_self, not_true_eq_false, not_false_eq_true, am_w_id, if_pos, if_neg, fu_self, fu_ne, Int.toNat_natCast, e, q1, p1, t1, cl'])
  · rw [if_neg c] at r1
    subst r1
    refine ⟨0, U, am_cI_of ?_, Or.inr ⟨rfl, fun h => c (by rw [h]; exact t2)⟩, r3⟩
    (try dsimp only); rw [en_md_isAsPacked]; (try simp (disch := omega) only [Option.bind_some, if_true, if_false, eq_self, not_true_eq_false, not_false_eq_true, am_w_id, if_pos, if_neg, fu_self, fu_ne, Int.toNat_natCast, e]); rw [B_md_isAsPacked_0]; (try simp (disch := omega) only [Option.bind_some, if_true, if_false, eq_self, not_true_eq_false, not_false_eq_true, am_w_id, if_pos, if_neg, fu_self, fu_ne, Int.toNat_natCast, m_O, e]); rw [B_md_isAsPacked_18]; (try simp (disch := omega) only [Option.bind_some, if_true, if_false, eq_self, not_true_eq_false, not_false_eq_true, am_w_id, if_pos, if_neg, fu_self, fu_ne, Int.toNat_natCast, e])
def bcP (S U : Nat → Nat → Int) (i : Nat) : Prop := U 47 = prf (S 47) (S 2) i ∧ U 2 = prf (S 2) (S 12) i ∧ fd [2, 47] S U
theorem md_becomes (hok : ok W) (H : ml 2402 (S 12) 0 W) (T : taR S t) (d : Nat) : ∃ x S', am_cI (d + 7) N_md_becomes [.inr (.inr (some (m)))] (MH m g S) = some (x, MH m g S') ∧ ((x = 1 ∧ pkE W = t) ∨ (x = 0 ∧ pkE W ≠ t)) ∧ fd [13, 14, 15, 16, 17, 18, 19, 20, 21, 22, 23, 31, 32, 47] S S' := by
  have hl := hok.2.2
  have lp : ∀ (k i : Nat) (U : Nat → Nat → Int), i + k = 1201 → bcP S U i → ∃ U', EV (d + 7) N_md_becomes T_md_becomes_2 [.inr (.inr (some (m))), .inl ((i : Int)), am_nul] [] (MH m g U) = EV (d + 7) N_md_becomes T_md_becomes_2 [.inr (.inr (some (m))), .inl (((1201 : Nat) : Int)), am_nul] [] (MH m g U') ∧ bcP S U' 1201 := by
    intro k
    induction k with
    | zero => intro i U hi hP; exact ⟨U, by rw [show i = 1201 by omega], by rw [← show i = 1201 by omega]; exact hP⟩
    | succ k ih =>
      intro i U hi hP
      obtain ⟨h1, h2, h3⟩ := hP
      obtain ⟨T1, hT1⟩ : ∃ T, T = am_fu U 47 (am_fu (U 47) i (S 2 i)) := ⟨_, rfl⟩
      obtain ⟨T2, hT2⟩ : ∃ T, T = am_fu T1 2 (am_fu (T1 2) i (S 12 i)) := ⟨_, rfl⟩
      have a1 : U 2 i = S 2 i := by rw [h2, prf_ge (Nat.le_refl _)]
      have a2 : T1 12 i = S 12 i := by rw [hT1, fu_ne (by decide), h3 12 (by decide)]
      have b2 : T1 2 = U 2 := by rw [hT1, fu_ne (by decide)]
      obtain ⟨U', e, hU'⟩ := ih (i + 1) T2 (by omega) ⟨by rw [hT2, fu_ne (by decide), hT1, fu_self, h1, prf_s rfl], by rw [hT2, fu_self, b2, h2, prf_s rfl], by rw [hT2, hT1]; exact (h3.up (by decide) _).up (by decide) _⟩
      refine ⟨U', Eq.trans ?_ e, hU'⟩
      have e9 : (i : Int) + 1 = ((i + 1 : Nat) : Int) := by omega
      (try dsimp only); rw [B_md_becomes_2]; (try simp (disch := omega) only [Option.bind_some, if_true, if_false, eq_self, not_true_eq_false, not_false_eq_true, am_w_id, if_pos, if_neg, fu_self, fu_ne, Int.toNat_natCast, a1, hT1.symm, a2, hT2.symm, e9]); rw [B_md_becomes_9]; (try simp (disch := omega) only [Option.bind_some, if_true, if_false, eq_self, not_true_eq_false, not_false_eq_true, am_w_id, if_pos, if_neg, fu_self, fu_ne, Int.toNat_natCast, m_gR_47, m_l_47, m_s_47, m_gR_2, m_l_2, m_s_2, m_gR_12, m_l_12, m_s_12, a1, hT1.symm, a2, hT2.symm, e9])
  obtain ⟨U1, e1, g1, g2, g3⟩ := lp 1201 0 S (by omega) ⟨prf0.symm, prf0.symm, fd.rf⟩
  have H1 : ml 2402 (U1 2) 0 W := by rw [g2]; exact ml_cp H (fun i hi => by rw [prf_lt (by omega)]) (by omega)
  have T1 : taR U1 t := by unfold taR; rw [g3 0 (by decide), g3 1 (by decide)]; exact T
  obtain ⟨x, U2, e2, hx, F2⟩ := md_isAsPacked (m := m) (g := g) hok H1 T1 d
  have lp2 : ∀ (k i : Nat) (U : Nat → Nat → Int), i + k = 1201 → U 2 = prf (U2 2) (U2 47) i ∧ fd [2] U2 U → ∃ U', EV (d + 7) N_md_becomes T_md_becomes_46 [.inr (.inr (some (m))), .inl (x), .inl ((i : Int))] [] (MH m g U) = EV (d + 7) N_md_becomes T_md_becomes_46 [.inr (.inr (some (m))), .inl (x), .inl (((1201 : Nat) : Int))] [] (MH m g U') ∧ U' 2 = prf (U2 2) (U2 47) 1201 ∧ fd [2] U2 U' := by
    intro k
    induction k with
    | zero => intro i U hi hP; exact ⟨U, by rw [show i = 1201 by omega], by rw [← show i = 1201 by omega]; exact hP⟩
    | succ k ih =>
      intro i U hi hP
      obtain ⟨h2, h3⟩ := hP
      obtain ⟨T2, hT2⟩ : ∃ T, T = am_fu U 2 (am_fu (U 2) i (U2 47 i)) := ⟨_, rfl⟩
      have a1 : U 47 i = U2 47 i := by rw [h3 47 (by decide)]
      obtain ⟨U', e, hU'⟩ := ih (i + 1) T2 (by omega) ⟨by rw [hT2, fu_self, h2, prf_s rfl], by rw [hT2]; exact h3.up (by decide) _⟩
      refine ⟨U', Eq.trans ?_ e, hU'⟩
      have e9 : (i : Int) + 1 = ((i + 1 : Nat) : Int) := by omega
      (try dsimp only); rw [B_md_becomes_46]; (try simp (disch := omega) only [Option.bind_some, if_true, if_false, eq_self, not_true_eq_false, not_false_eq_true, am_w_id, if_pos, if_neg, fu_self, fu_ne, Int.toNat_natCast, a1, hT2.symm, e9]); rw [B_md_becomes_53]; (try simp (disch := omega) only [Option.bind_some, if_true, if_false, eq_self, not_true_eq_false, not_false_eq_true, am_w_id, if_pos, if_neg, fu_self, fu_ne, Int.toNat_natCast, m_gR_2, m_l_2, m_s_2, m_gR_47, m_l_47, m_s_47, a1, hT2.symm, e9])
  obtain ⟨U3, e3, g4, g5⟩ := lp2 1201 0 U2 (by omega) ⟨prf0.symm, fd.rf⟩
  have x01 : 0 ≤ x ∧ x < 2 := by rcases hx with ⟨h, _⟩ | ⟨h, _⟩ <;> omega
  refine ⟨x, U3, am_cI_of ?_, hx, ?_⟩
  · have st : am_call (d + 7) N_md_becomes [.inr (.inr (some (m)))] (MH m g S) = EV (d + 7) N_md_becomes T_md_becomes_2 [.inr (.inr (some (m))), .inl (((0 : Nat) : Int)), am_nul] [] (MH m g S) := by
      (try dsimp only); rw [en_md_becomes]; (try simp (disch := omega) only [Option.bind_some, if_true, if_false, eq_self, not_true_eq_false, not_false_eq_true, am_w_id, if_pos, if_neg, fu_self, fu_ne, Int.toNat_natCast]); rw [B_md_becomes_0]; (try simp (disch := omega) only [Option.bind_some, if_true, if_false, eq_self, not_true_eq_false, not_false_eq_true, am_w_id, if_pos, if_neg, fu_self, fu_ne, Int.toNat_natCast])
      rfl
    have st2 : EV (d + 7) N_md_becomes T_md_becomes_2 [.inr (.inr (some (m))), .inl (((1201 : Nat) : Int)), am_nul] [] (MH m g U1) = EV (d + 7) N_md_becomes T_md_becomes_46 [.inr (.inr (some (m))), .inl (x), .inl (((0 : Nat) : Int))] [] (MH m g U2) := by
      (try dsimp only); rw [B_md_becomes_2]; (try simp (disch := omega) only [Option.bind_some, if_true, if_false, eq_self, not_true_eq_false, not_false_eq_true, am_w_id, if_pos, if_neg, fu_self, fu_ne, Int.toNat_natCast, e2]); rw [B_md_becomes_39]; (try simp (disch := omega) only [Option.bind_some, if_true, if_false, eq_self, not_true_eq_false, not_false_eq_true, am_w_id, if_pos, if_neg, fu_self, fu_ne, Int.toNat_natCast, m_O, e2])
      rfl
    refine st.trans (e1.trans (st2.trans (e3.trans ?_)))
    (try dsimp only); rw [B_md_becomes_46]; (try simp (disch := omega) only [Option.bind_some, if_true, if_false, eq_self, not_true_eq_false, not_false_eq_true, am_w_id, if_pos, if_neg, fu_self, fu_ne, Int.toNat_natCast])
    rw [B_md_becomes_71, if_pos x01]
  · intro k hk
    by_cases c : k = 2
    · subst c
      rw [g4, F2 2 (by decide), F2 47 (by decide), g1, g2]
      funext i
      unfold prf
      by_cases ci : i < 1201
      · rw [if_pos ci, if_pos ci]
      · rw [if_neg ci, if_neg ci]
    · rw [g5 k (by simpa using c), F2 k (fun h => hk (by
        revert h
        simp only [List.mem_cons, List.not_mem_nil, or_false]
        omega)), g3 k (fun h => by
        rcases List.mem_cons.mp h with h | h
        · exact c h
        · exact hk (by rw [List.mem_singleton.mp h]; decide))]
theorem mo_unpack (H : MR S t ws bs hs sh) (O : okS t ws bs hs sh) (d : Nat) : ∃ S', am_cI (d + 8) N_md_unpack [.inr (.inr (some (m)))] (MH m g S) = some ((sp_unpack (t, ws, bs, hs, sh)).1, MH m g S') ∧ MS S' (sp_unpack (t, ws, bs, hs, sh)).2 := by
  have ht := O.1.1
  have hb := O.2.2.1.2.2
  have hF := upF_bd ht
  have q1 : ¬ (1 : Int) = 0 := by decide
  unfold sp_unpack
  dsimp only
  -- a fault, wherever
  have bad : ∀ U, MR U t ws bs hs sh → U 10 0 = upF t → ∀ j1 j2 : am_V, upW t = none → ∃ S', EV (d + 8) N_md_unpack T_md_unpack_45 [.inr (.inr (some (m))), j1, j2] [.inl (0)] (MH m g U) = some (some (.inl (-2 - upF t)), MH m g S') ∧ MR S' [] ws bs hs sh := by
    intro U HU h10 j1 j2 _
    refine ⟨am_fu U 1 (fun _ => 0), ?_, HU.frt (l := [1]) (fd.rf.up (by decide) _) (by decide) ⟨by rw [fu_self]; rfl, by simp, fun x hx => by simp at hx, fun i hi => by simp at hi⟩⟩
    have h10' : (am_fu U 1 (fun _ => 0)) 10 0 = upF t := by rw [fu_ne (by decide)]; exact h10
    (try dsimp only); rw [B_md_unpack_45]; (try simp (disch := omega) only [Option.bind_some, if_true, if_false, eq_self, not_true_eq_false, not_false_eq_true, am_w_id, if_pos, if_neg, fu_self, fu_ne, Int.toNat_natCast, m_gI_1, m_p_1, h10']); rw [B_md_unpack_55]; (try simp (disch := omega) only [Option.bind_some, if_true, if_false, eq_self, not_true_eq_false, not_false_eq_true, am_w_id, if_pos, if_neg, fu_self, fu_ne, Int.toNat_natCast, m_gI_10, m_p_10, h10'])
  have bad4 : ∀ U, MR U t ws bs hs sh → upF t = 8 * (t.length : Int) + 4 → ∀ j1 j2 : am_V, upW t = none → ∃ S', EV (d + 8) N_md_unpack T_md_unpack_28 [.inr (.inr (some (m))), j1, j2] [] (MH m g U) = some (some (.inl (-2 - upF t)), MH m g S') ∧ MR S' [] ws bs hs sh := by
    intro U HU hf j1 j2 hn
    have f1 := fun d => md_fails (m := m) (g := g) (S := U) 4 (t.length : Int) (by decide) (by omega) d
    have h1 := HU.1.1
    obtain ⟨S', e, h⟩ := bad (am_fu U 10 (fun _ => 8 * (t.length : Int) + 4)) (HU.frd (l := [10]) (fd.rf.up (by decide) _) (by decide)) (by rw [fu_self]; exact hf.symm) j1 j2 hn
    refine ⟨S', Eq.trans ?_ e, h⟩
    (try dsimp only); rw [B_md_unpack_28]; (try simp (disch := omega) only [Option.bind_some, if_true, if_false, eq_self, not_true_eq_false, not_false_eq_true, am_w_id, if_pos, if_neg, fu_self, fu_ne, Int.toNat_natCast, m_gI_1, m_p_1, m_O, h1, f1]); rw [B_md_unpack_44]; (try simp (disch := omega) only [Option.bind_some, if_true, if_false, eq_self, not_true_eq_false, not_false_eq_true, am_w_id, if_pos, if_neg, fu_self, fu_ne, Int.toNat_natCast, h1, f1])
  rcases md_readsBytes (m := m) (g := g) H.1 (d + 4) with ⟨f, S1, r0, r1, r2, r3⟩ | ⟨u, ss, S1, r0, r1, r2, r3, r4, r5, r6⟩
  · have hn : upW t = none := by unfold upW; rw [r0]
    have hf : upF t = f := by unfold upF; rw [r0]
    rw [hn]
    dsimp only
    obtain ⟨S', e, h⟩ := bad S1 (H.frd r3 (by decide)) (r2.trans hf.symm) am_nul am_nul hn
    refine ⟨S', am_cI_of (Eq.trans ?_ e), h⟩
    (try dsimp only); rw [en_md_unpack]; (try simp (disch := omega) only [Option.bind_some, if_true, if_false, eq_self, not_true_eq_false, not_false_eq_true, am_w_id, if_pos, if_neg, fu_self, fu_ne, Int.toNat_natCast, r1]); rw [B_md_unpack_0]; (try simp (disch := omega) only [Option.bind_some, if_true, if_false, eq_self, not_true_eq_false, not_false_eq_true, am_w_id, if_pos, if_neg, fu_self, fu_ne, Int.toNat_natCast, m_O, r1]); rw [B_md_unpack_44]; (try simp (disch := omega) only [Option.bind_some, if_true, if_false, eq_self, not_true_eq_false, not_false_eq_true, am_w_id, if_pos, if_neg, fu_self, fu_ne, Int.toNat_natCast, r1])
  · have hf : upF t = 8 * (t.length : Int) + 4 := by unfold upF; rw [r0]
    have hm := rdB_mk r0
    have H1 := H.frd r6 (by decide)
    obtain ⟨x2, S2, e2, a2, F2⟩ := md_areWords (m := m) (g := g) hm r2 r4 r5 (d + 6)
    have M2 := r2.fr F2 (by decide)
    have H2 := H1.frd F2 (by decide)
    -- what is not right in itself is nothing's packing
    have wrong : ∀ {P : Prop}, (∀ W, ok W → ss = mM W → u = lst W [] → P) → ¬ P → upW t = none := by
      intro P h1 h2
      cases e : upW t with
      | none => rfl
      | some W =>
        obtain ⟨k1, k2⟩ := upW_iff.mp e
        have k3 := rdB_pk k1
        rw [k2, r0] at k3
        injection k3 with k3
        injection k3 with k3 k4
        exact absurd (h1 W k1 k4 k3) h2
    rcases a2 with ⟨rfl, a2⟩ | ⟨rfl, a2⟩
    · obtain ⟨x3, S3, e3, F3, a3⟩ := md_goesThrough (m := m) (g := g) hm M2 r4 r5 r3 a2 (d + 3)
      have H3 := H2.frd F3 (by decide)
      rcases a3 with ⟨rfl, w, w1, w2⟩ | ⟨rfl, w1, w2, w3⟩
      · have hn : upW t = none := wrong (P := ∀ w ∈ wy ss 10 0, u + w.2 ≤ 999999) (fun W k1 k2 k3 v hv => by
          rw [k2, wy_mM k1] at hv
          obtain ⟨v1, v2⟩ := v
          rw [R_mem] at hv
          have := (k1.1 _ hv).2.2.2.2
          dsimp only at this ⊢
          omega) (fun h => by have := h w w1; omega)
        rw [hn]
        dsimp only
        obtain ⟨S', e, h⟩ := bad4 S3 H3 hf am_nul am_nul hn
        refine ⟨S', am_cI_of (Eq.trans ?_ e), h⟩
        (try dsimp only); rw [en_md_unpack]; (try simp (disch := omega) only [Option.bind_some, if_true, if_false, eq_self, not_true_eq_false, not_false_eq_true, am_w_id, if_pos, if_neg, fu_self, fu_ne, Int.toNat_natCast, r1, e2, e3, q1]); rw [B_md_unpack_0]; (try simp (disch := omega) only [Option.bind_some, if_true, if_false, eq_self, not_true_eq_false, not_false_eq_true, am_w_id, if_pos, if_neg, fu_self, fu_ne, Int.toNat_natCast, m_O, r1, e2, e3, q1]); rw [B_md_unpack_7]; (try simp (disch := omega) only [Option.bind_some, if_true, if_false, eq_self, not_true_eq_false, not_false_eq_true, am_w_id, if_pos, if_neg, fu_self, fu_ne, Int.toNat_natCast, m_O, r1, e2, e3, q1]); rw [B_md_unpack_14]; (try simp (disch := omega) only [Option.bind_some, if_true, if_false, eq_self, not_true_eq_false, not_false_eq_true, am_w_id, if_pos, if_neg, fu_self, fu_ne, Int.toNat_natCast, m_O, r1, e2, e3, q1])
      · obtain ⟨x4, S4, e4, a4, F4⟩ := md_becomes (m := m) (g := g) w3 w2 H3.1 d
        have H4 := H3.frd F4 (by decide)
        rcases a4 with ⟨rfl, a4⟩ | ⟨rfl, a4⟩
        · have hy : upW t = some (upw [] u (wy ss 10 0)) := upW_iff.mpr ⟨w3, a4⟩
          rw [hy]
          dsimp only [act, MS]
          generalize upw [] u (wy ss 10 0) = W at *
          have hwl := w3.2.2
          have H5 : MR (am_fu S4 1 (fun _ => 0)) [] ws bs hs sh := H4.frt (l := [1]) (fd.rf.up (by decide) _) (by decide) ⟨by rw [fu_self]; rfl, by simp, fun x hx => by simp at hx, fun i hi => by simp at hi⟩
          have m5 : ml 2402 ((am_fu S4 1 (fun _ => 0)) 12) 0 W := by rw [fu_ne (by decide), F4 12 (by decide)]; exact w2
          obtain ⟨V, e7, H7, F7⟩ := md_keepsAct (m := m) (g := g) H5 (okS_t O) (d + 7)
          have mW : ml 2402 (V 12) 0 W := by rw [F7 12 (by decide)]; exact m5
          have lp2 := am_for (F := fun i => EV (d + 8) N_md_unpack T_md_unpack_69 [.inr (.inr (some (m))), .inl (1), .inl ((i : Int))] [] (MH m g (am_fu V 2 (prf (V 2) (V 12) i)))) (k := 0) (n := 1201) (Nat.zero_le _) (fun i _ hi => by
            have e9 : (i : Int) + 1 = ((i + 1 : Nat) : Int) := by omega
            (try dsimp only); rw [B_md_unpack_69]; (try simp (disch := omega) only [Option.bind_some, if_true, if_false, eq_self, not_true_eq_false, not_false_eq_true, am_w_id, if_pos, if_neg, fu_self, fu_ne, Int.toNat_natCast, e9, prf_s, fu_fu]); rw [B_md_unpack_76]; (try simp (disch := omega) only [Option.bind_some, if_true, if_false, eq_self, not_true_eq_false, not_false_eq_true, am_w_id, if_pos, if_neg, fu_self, fu_ne, Int.toNat_natCast, m_gR_2, m_l_2, m_s_2, m_gR_12, m_l_12, m_s_12, e9, prf_s, fu_fu]))
          rw [prf0, fu_eta] at lp2
          have H8 : MR (am_fu V 2 (prf (V 2) (V 12) 1201)) [] W bs (hpush hs (ws, bs)) sh := MR_now H7 (ml_cp mW (fun i hi => by rw [prf_lt (by omega)]) (by omega)) (fun i hi => prf_ge hi) hb
          have h80 := H8.2.1.1
          rw [fu_self] at h80
          refine ⟨_, am_cI_of ?_, H8⟩
          (try dsimp only); rw [en_md_unpack]; (try simp (disch := omega) only [Option.bind_some, if_true, if_false, eq_self, not_true_eq_false, not_false_eq_true, am_w_id, if_pos, if_neg, fu_self, fu_ne, Int.toNat_natCast, r1, e2, e3, e4, e7, q1]); rw [B_md_unpack_0]; (try simp (disch := omega) only [Option.bind_some, if_true, if_false, eq_self, not_true_eq_false, not_false_eq_true, am_w_id, if_pos, if_neg, fu_self, fu_ne, Int.toNat_natCast, m_O, r1, e2, e3, e4, e7, q1]); rw [B_md_unpack_7]; (try simp (disch := omega) only [Option.bind_some, if_true, if_false, eq_self, not_true_eq_false, not_false_eq_true, am_w_id, if_pos, if_neg, fu_self, fu_ne, Int.toNat_natCast, m_O, r1, e2, e3, e4, e7, q1]); rw [B_md_unpack_14]; (try simp (disch := omega) only [Option.bind_some, if_true, if_false, eq_self, not_true_eq_false, not_false_eq_true, am_w_id, if_pos, if_neg, fu_self, fu_ne, Int.toNat_natCast, m_O, r1, e2, e3, e4, e7, q1]); rw [B_md_unpack_21]; (try simp (disch := omega) only [Option.bind_some, if_true, if_false, eq_self, not_true_eq_false, not_false_eq_true, am_w_id, if_pos, if_neg, fu_self, fu_ne, Int.toNat_natCast, m_O, r1, e2, e3, e4, e7, q1]); rw [B_md_unpack_40]; (try simp (disch := omega) only [Option.bind_some, if_true, if_false, eq_self, not_true_eq_false, not_false_eq_true, am_w_id, if_pos, if_neg, fu_self, fu_ne, Int.toNat_natCast, r1, e2, e3, e4, e7, q1]); rw [B_md_unpack_45]; (try simp (disch := omega) only [Option.bind_some, if_true, if_false, eq_self, not_true_eq_false, not_false_eq_true, am_w_id, if_pos, if_neg, fu_self, fu_ne, Int.toNat_natCast, m_gI_1, m_p_1, r1, e2, e3, e4, e7, q1]); rw [B_md_unpack_63]; (try simp (disch := omega) only [Option.bind_some, if_true, if_false, eq_self, not_true_eq_false, not_false_eq_true, am_w_id, if_pos, if_neg, fu_self, fu_ne, Int.toNat_natCast, m_O, r1, e2, e3, e4, e7, q1])
          refine lp2.trans ?_
          (try dsimp only); rw [B_md_unpack_69]; (try simp (disch := omega) only [Option.bind_some, if_true, if_false, eq_self, not_true_eq_false, not_false_eq_true, am_w_id, if_pos, if_neg, fu_self, fu_ne, Int.toNat_natCast, h80, Int.reduceToNat]); rw [B_md_unpack_94]; (try simp (disch := omega) only [Option.bind_some, if_true, if_false, eq_self, not_true_eq_false, not_false_eq_true, am_w_id, if_pos, if_neg, fu_self, fu_ne, Int.toNat_natCast, m_gR_2, m_l_2, m_s_2, h80, Int.reduceToNat])
        · have hn : upW t = none := by unfold upW; rw [r0]; dsimp only; rw [if_neg (fun h => a4 h.2)]
          rw [hn]
          dsimp only
          obtain ⟨S', e, h⟩ := bad4 S4 H4 hf am_nul am_nul hn
          refine ⟨S', am_cI_of (Eq.trans ?_ e), h⟩
          (try dsimp only); rw [en_md_unpack]; (try simp (disch := omega) only [Option.bind_some, if_true, if_false, eq_self, not_true_eq_false, not_false_eq_true, am_w_id, if_pos, if_neg, fu_self, fu_ne, Int.toNat_natCast, r1, e2, e3, e4, q1]); rw [B_md_unpack_0]; (try simp (disch := omega) only [Option.bind_some, if_true, if_false, eq_self, not_true_eq_false, not_false_eq_true, am_w_id, if_pos, if_neg, fu_self, fu_ne, Int.toNat_natCast, m_O, r1, e2, e3, e4, q1]); rw [B_md_unpack_7]; (try simp (disch := omega) only [Option.bind_some, if_true, if_false, eq_self, not_true_eq_false, not_false_eq_true, am_w_id, if_pos, if_neg, fu_self, fu_ne, Int.toNat_natCast, m_O, r1, e2, e3, e4, q1]); rw [B_md_unpack_14]; (try simp (disch := omega) only [Option.bind_some, if_true, if_false, eq_self, not_true_eq_false, not_false_eq_true, am_w_id, if_pos, if_neg, fu_self, fu_ne, Int.toNat_natCast, m_O, r1, e2, e3, e4, q1]); rw [B_md_unpack_21]; (try simp (disch := omega) only [Option.bind_some, if_true, if_false, eq_self, not_true_eq_false, not_false_eq_true, am_w_id, if_pos, if_neg, fu_self, fu_ne, Int.toNat_natCast, m_O, r1, e2, e3, e4, q1])
    · have hn : upW t = none := wrong (P := aw ss) (fun W k1 k2 _ => by rw [k2]; exact aw_mM k1) a2
      rw [hn]
      dsimp only
      obtain ⟨S', e, h⟩ := bad4 S2 H2 hf am_nul am_nul hn
      refine ⟨S', am_cI_of (Eq.trans ?_ e), h⟩
      (try dsimp only); rw [en_md_unpack]; (try simp (disch := omega) only [Option.bind_some, if_true, if_false, eq_self, not_true_eq_false, not_false_eq_true, am_w_id, if_pos, if_neg, fu_self, fu_ne, Int.toNat_natCast, r1, e2, q1]); rw [B_md_unpack_0]; (try simp (disch := omega) only [Option.bind_some, if_true, if_false, eq_self, not_true_eq_false, not_false_eq_true, am_w_id, if_pos, if_neg, fu_self, fu_ne, Int.toNat_natCast, m_O, r1, e2, q1]); rw [B_md_unpack_7]; (try simp (disch := omega) only [Option.bind_some, if_true, if_false, eq_self, not_true_eq_false, not_false_eq_true, am_w_id, if_pos, if_neg, fu_self, fu_ne, Int.toNat_natCast, m_O, r1, e2, q1])
end MO
