/-! the class' machine: twins are found -/
section MA
variable {q b : Nat} {g : am_H} {S : Nat → Nat → Int} {ws : List wd} {P : Nat → Bool}
/-- a chain of nodes -/
def lnk (f : Nat → Int) : Int → List Nat → Prop
  | x, [] => x = -1
  | x, y :: l => x = (y : Int) ∧ lnk f (f y) l
theorem lnk_congr {f f' : Nat → Int} : ∀ {l : List Nat} {x : Int}, (∀ y ∈ l, f' y = f y) → lnk f x l → lnk f' x l
  | [], x, _, h => h
  | y :: l, x, h, ⟨h1, h2⟩ => ⟨h1, by rw [h y List.mem_cons_self]; exact lnk_congr (fun z hz => h z (List.mem_cons_of_mem _ hz)) h2⟩
/-- the row in which a node is looked for -/
def hr (ws : List wd) (tw : Nat → Int) (k : Nat) : Nat := (hfn (en ws (pn ws k)) (sg ws tw k) % 1024).toNat
theorem hr_eq (ws : List wd) (tw : Nat → Int) (k : Nat) : am_and (hfn (en ws (pn ws k)) (sg ws tw k)) 1023 = (hr ws tw k : Int) ∧ hr ws tw k < 1024 := by
  have h := bt_mask (x := hfn (en ws (pn ws k)) (sg ws tw k)) (am_w_in _) 10 (by omega)
  have e1 : (2 : Int) ^ 10 - 1 = 1023 := by decide
  have e2 : (2 : Int) ^ 10 = 1024 := by decide
  rw [e1, e2] at h
  unfold hr
  generalize hfn (en ws (pn ws k)) (sg ws tw k) = y at *
  have h1 := Int.emod_nonneg y (show (1024 : Int) ≠ 0 by decide)
  have h2 := Int.emod_lt_of_pos y (show (0 : Int) < 1024 by decide)
  exact ⟨by rw [h]; omega, by omega⟩
def twP (S : Nat → Nat → Int) (ws : List wd) (P : Nat → Bool) (c : Nat) : Prop := (∀ x y, c ≤ x → x < nN ws → c ≤ y → y < nN ws → (S 6 x = S 6 y ↔ eO ws P x y = true)) ∧ ∀ k, c ≤ k → k < nN ws → ∃ t : Nat, S 6 k = (t : Int) ∧ k ≤ t ∧ t < nN ws ∧ S 6 t = (t : Int)
def chP (S : Nat → Nat → Int) (ws : List wd) (P : Nat → Bool) (lo : Int) (c : Nat) (ch : Nat → List Nat) : Prop := (∀ r, r < 1024 → lnk (S 10) (S 9 r) (ch r) ∧ (ch r).length + c ≤ nN ws ∧ ∀ y ∈ ch r, (c ≤ y ∧ y < nN ws) ∧ (y + 1 < nN ws ∨ P y = true) ∧ S 6 y = (y : Int)) ∧ ∀ k, c ≤ k → k < nN ws → S 6 k = (k : Int) → (lo = 0 ∨ k + 1 < nN ws) → k ∈ ch (hr ws (S 6) k)
def loP (ws : List wd) (P : Nat → Bool) (lo : Int) : Prop := (lo = 0 ∧ ∀ k, P k = true) ∨ (lo = 1 ∧ P (nN ws - 1) = false)
theorem tw_sz (hok : ok ws) {n m : Nat} (T : twP S ws P (n + 1)) (hn : n < nN ws) (hm : n ≤ m) (hmN : m < nN ws) : ∀ x ∈ kd ws n, ∀ y ∈ kd ws m, S 6 x = S 6 y → sz ws (pn ws x) = sz ws (pn ws y) := by
  intro x hx y hy h
  have h1 := (kd_in hok.2.1 hn hx).1
  have h2 := (kd_in hok.2.1 hmN hy).1
  have h3 := kd_lt hx
  have h4 := kd_lt hy
  exact R_sz hok.2.1 (pn_bg h3) (pn_bg h4) (eO_R ((T.1 x y (by omega) h3 (by omega) h4).mp h))
theorem ma_twLook (hok : ok ws) (H : maN S ws) {n : Nat} (hn : n < nN ws) (T : twP S ws P (n + 1)) (row : Int) (d : Nat) : ∀ (l : List Nat) (i : Nat) (x : Int), lnk (S 10) x l → i + l.length < nN ws → (∀ y ∈ l, n < y ∧ y < nN ws) →
    (∃ y ∈ l, cnd ws (S 6) n y ∧ EV (d + 2) N_ma_twinOf T_ma_twinOf_20 [.inr (.inr (some (q))), .inl ((n : Int)), .inl (row), .inl (x), .inl ((i : Int))] [] (maH q g S) = some (some (.inl (y : Int)), maH q g S)) ∨
    ((∀ y ∈ l, ¬ cnd ws (S 6) n y) ∧ ∃ x' i', EV (d + 2) N_ma_twinOf T_ma_twinOf_20 [.inr (.inr (some (q))), .inl ((n : Int)), .inl (row), .inl (x), .inl ((i : Int))] [] (maH q g S) = EV (d + 2) N_ma_twinOf T_ma_twinOf_58 [.inr (.inr (some (q))), .inl ((n : Int)), .inl (row), .inl (x'), .inl (i')] [] (maH q g S)) := by
  have hN' : nN ws ≤ 1001 := ND_len hok
  have h14 := H.1
  intro l
  induction l with
  | nil =>
    intro i x h1 h2 _
    rw [List.length_nil] at h2
    have hx : x = -1 := h1
    refine Or.inr ⟨fun y hy => by simp at hy, x, i, ?_⟩
    subst hx
    (try dsimp only); rw [B_ma_twinOf_20]; (try simp (disch := omega) only [Option.bind_some, if_true, if_false, eq_self, not_true_eq_false, not_false_eq_true, am_w_id, if_pos, if_neg, fu_self, fu_ne, Int.toNat_natCast, ma_gI_14, ma_p_14, h14]); rw [B_ma_twinOf_29]; (try simp (disch := omega) only [Option.bind_some, if_true, if_false, eq_self, not_true_eq_false, not_false_eq_true, am_w_id, if_pos, if_neg, fu_self, fu_ne, Int.toNat_natCast, h14])
  | cons y l ih =>
    intro i x h1 h2 h3
    obtain ⟨rfl, h1⟩ := h1
    rw [List.length_cons] at h2
    obtain ⟨hy1, hy2⟩ := h3 y List.mem_cons_self
    obtain ⟨v, e, hv⟩ := ma_areAlike (q := q) (g := g) (S := S) hok H hn hy2 (tw_sz hok T hn (by omega) hy2) d
    have c0 : ¬ (y : Int) = -1 := by omega
    rcases hv with ⟨rfl, hv⟩ | ⟨rfl, hv⟩
    · refine Or.inl ⟨y, List.mem_cons_self, hv, ?_⟩
      (try dsimp only); rw [B_ma_twinOf_20]; (try simp (disch := omega) only [Option.bind_some, if_true, if_false, eq_self, not_true_eq_false, not_false_eq_true, am_w_id, if_pos, if_neg, fu_self, fu_ne, Int.toNat_natCast, ma_gI_14, ma_p_14, h14, c0, e, show ¬ (1 : Int) = 0 by decide]); rw [B_ma_twinOf_29]; (try simp (disch := omega) only [Option.bind_some, if_true, if_false, eq_self, not_true_eq_false, not_false_eq_true, am_w_id, if_pos, if_neg, fu_self, fu_ne, Int.toNat_natCast, h14, c0, e, show ¬ (1 : Int) = 0 by decide]); rw [B_ma_twinOf_34]; (try simp (disch := omega) only [Option.bind_some, if_true, if_false, eq_self, not_true_eq_false, not_false_eq_true, am_w_id, if_pos, if_neg, fu_self, fu_ne, Int.toNat_natCast, ma_O, h14, c0, e, show ¬ (1 : Int) = 0 by decide]); rw [B_ma_twinOf_43]; (try simp (disch := omega) only [Option.bind_some, if_true, if_false, eq_self, not_true_eq_false, not_false_eq_true, am_w_id, if_pos, if_neg, fu_self, fu_ne, Int.toNat_natCast, h14, c0, e, show ¬ (1 : Int) = 0 by decide])
    · have e9 : (i : Int) + 1 = ((i + 1 : Nat) : Int) := by omega
      have st : EV (d + 2) N_ma_twinOf T_ma_twinOf_20 [.inr (.inr (some (q))), .inl ((n : Int)), .inl (row), .inl ((y : Int)), .inl ((i : Int))] [] (maH q g S) = EV (d + 2) N_ma_twinOf T_ma_twinOf_20 [.inr (.inr (some (q))), .inl ((n : Int)), .inl (row), .inl (S 10 y), .inl (((i + 1 : Nat) : Int))] [] (maH q g S) := by
        (try dsimp only); rw [B_ma_twinOf_20]; (try simp (disch := omega) only [Option.bind_some, if_true, if_false, eq_self, not_true_eq_false, not_false_eq_true, am_w_id, if_pos, if_neg, fu_self, fu_ne, Int.toNat_natCast, ma_gI_14, ma_p_14, h14, c0, e, e9]); rw [B_ma_twinOf_29]; (try simp (disch := omega) only [Option.bind_some, if_true, if_false, eq_self, not_true_eq_false, not_false_eq_true, am_w_id, if_pos, if_neg, fu_self, fu_ne, Int.toNat_natCast, h14, c0, e, e9]); rw [B_ma_twinOf_34]; (try simp (disch := omega) only [Option.bind_some, if_true, if_false, eq_self, not_true_eq_false, not_false_eq_true, am_w_id, if_pos, if_neg, fu_self, fu_ne, Int.toNat_natCast, ma_O, h14, c0, e, e9]); rw [B_ma_twinOf_45]; (try simp (disch := omega) only [Option.bind_some, if_true, if_false, eq_self, not_true_eq_false, not_false_eq_true, am_w_id, if_pos, if_neg, fu_self, fu_ne, Int.toNat_natCast, ma_gR_10, ma_l_10, ma_s_10, h14, c0, e, e9])
      rcases ih (i + 1) (S 10 y) h1 (by omega) (fun z hz => h3 z (List.mem_cons_of_mem _ hz)) with ⟨z, k1, k2, k3⟩ | ⟨k1, x', i', k2⟩
      · exact Or.inl ⟨z, List.mem_cons_of_mem _ k1, k2, st.trans k3⟩
      · refine Or.inr ⟨fun z hz => ?_, x', i', st.trans k2⟩
        rcases List.mem_cons.mp hz with h | h
        · rw [h]; exact hv
        · exact k1 z h
theorem ma_twinOf (hok : ok ws) (H : maN S ws) (hP : okP ws P) {lo : Int} (hlo : loP ws P lo) {n : Nat} (hn : n < nN ws) (T : twP S ws P (n + 1)) {ch : Nat → List Nat} (C : chP S ws P lo (n + 1) ch) (d : Nat) :
    ∃ t S', am_cI (d + 2) N_ma_twinOf [.inr (.inr (some (q))), .inl ((n : Int))] (maH q g S) = some (((t : Nat) : Int), maH q g S') ∧ fd [9, 10] S S' ∧
      ((S' = S ∧ (n < t ∧ t < nN ws) ∧ S 6 t = (t : Int) ∧ eO ws P n t = true) ∨ (t = n ∧ (∀ z, n < z → z < nN ws → eO ws P n z = false) ∧ S' 9 = am_fu (S 9) (hr ws (S 6) n) (n : Int) ∧ S' 10 = am_fu (S 10) n (S 9 (hr ws (S 6) n)))) := by
  have hN' : nN ws ≤ 1001 := ND_len hok
  obtain ⟨hr1, hr2⟩ := hr_eq ws (S 6) n
  have hh := fun d => ma_hashOf (q := q) (g := g) (S := S) hok H hn d
  obtain ⟨C1, C2⟩ := C
  obtain ⟨c1, c2, c3⟩ := C1 _ hr2
  have hA : ∀ x y, n < x → x < nN ws → n < y → y < nN ws → (S 6 x = S 6 y ↔ eO ws P x y = true) := fun x y h1 h2 h3 h4 => T.1 x y (by omega) h2 (by omega) h4
  have st : am_call (d + 2) N_ma_twinOf [.inr (.inr (some (q))), .inl ((n : Int))] (maH q g S) = EV (d + 2) N_ma_twinOf T_ma_twinOf_20 [.inr (.inr (some (q))), .inl ((n : Int)), .inl ((hr ws (S 6) n : Int)), .inl (S 9 (hr ws (S 6) n)), .inl (((0 : Nat) : Int))] [] (maH q g S) := by
    rw [en_ma_twinOf, B_ma_twinOf_0, if_pos ma_O, hh, Option.bind_some]
    dsimp only
    rw [hr1, ma_gR_9, Option.bind_some, ma_l_9 (by omega) (by omega), Option.bind_some, Int.toNat_natCast]
    rfl
  rcases ma_twLook (q := q) (g := g) hok H hn T (hr ws (S 6) n : Int) d (ch (hr ws (S 6) n)) 0 (S 9 (hr ws (S 6) n)) c1 (by omega) (fun y hy => by have := (c3 y hy).1; omega) with ⟨y, k1, k2, k3⟩ | ⟨k1, x', i', k2⟩
  · obtain ⟨y1, y2, y3⟩ := c3 y k1
    have he := (cnd_iff hok hP (show n < y by omega) y1.2 hA y2).mp k2
    exact ⟨y, S, am_cI_of (st.trans k3), fd.rf, Or.inl ⟨rfl, ⟨by omega, y1.2⟩, y3, he⟩⟩
  · obtain ⟨T1, hT1⟩ : ∃ T, T = am_fu S 10 (am_fu (S 10) n (S 9 (hr ws (S 6) n))) := ⟨_, rfl⟩
    obtain ⟨T2, hT2⟩ : ∃ T, T = am_fu T1 9 (am_fu (T1 9) (hr ws (S 6) n) (n : Int)) := ⟨_, rfl⟩
    refine ⟨n, T2, am_cI_of (st.trans (k2.trans ?_)), by rw [hT2, hT1]; exact (fd.rf.up (by decide) _).up (by decide) _, Or.inr ⟨rfl, fun z hz1 hz2 => ?_, ?_, ?_⟩⟩
    · (try dsimp only); rw [B_ma_twinOf_58]; (try simp (disch := omega) only [Option.bind_some, if_true, if_false, eq_self, not_true_eq_false, not_false_eq_true, am_w_id, if_pos, if_neg, fu_self, fu_ne, Int.toNat_natCast, ma_gR_10, ma_l_10, ma_s_10, ma_gR_9, ma_l_9, ma_s_9, hT1.symm, hT2.symm])
    · cases e : eO ws P n z with
      | false => rfl
      | true =>
        exfalso
        obtain ⟨t, t1, t2, t3, t4⟩ := T.2 z (by omega) hz2
        have h1 : eO ws P z t = true := (T.1 z t (by omega) hz2 (by omega) t3).mp (t1.trans t4.symm)
        have h2 := (eO_eqv ws P).2.2 n z t e h1
        have hl : lo = 0 ∨ t + 1 < nN ws := by
          rcases hlo with h | ⟨_, h⟩
          · exact Or.inl h.1
          · rcases eO_iff.mp h2 with g | ⟨_, g, _⟩
            · omega
            · right
              rcases Nat.lt_or_ge (t + 1) (nN ws) with g2 | g2
              · exact g2
              · rw [show nN ws - 1 = t by omega, g] at h
                exact Bool.noConfusion h
        have hm := C2 t (by omega) t3 t4 hl
        have hPt : t + 1 < nN ws ∨ P t = true := by
          rcases eO_iff.mp h2 with g | ⟨_, g, _⟩
          · omega
          · exact Or.inr g
        have hc := (cnd_iff hok hP (show n < t by omega) t3 hA hPt).mpr h2
        have hrr : hr ws (S 6) t = hr ws (S 6) n := by unfold hr; rw [hc.2.1, hc.2.2]
        rw [hrr] at hm
        exact k1 t hm hc
    · rw [hT2, fu_self, hT1, fu_ne (by decide)]
    · rw [hT2, fu_ne (by decide), hT1, fu_self]
theorem hr_congr (hs : so ws) {tw tw' : Nat → Int} {k : Nat} (hk : k < nN ws) (h : ∀ x, k < x → tw' x = tw x) : hr ws tw' k = hr ws tw k := by
  unfold hr
  rw [sg_congr (tw := tw') (tw' := tw) (fun x hx => h x (kd_in hs hk hx).1)]
/-- one node more has its twin -/
theorem ma_twStep (hok : ok ws) (H : maN S ws) (hP : okP ws P) {lo : Int} (hlo : loP ws P lo) {n : Nat} (hn : n < nN ws) (T : twP S ws P (n + 1)) {ch : Nat → List Nat} (C : chP S ws P lo (n + 1) ch) (j3 : am_V) (d : Nat) :
    ∃ S' j3' ch', EV (d + 3) N_ma_findTwins T_ma_findTwins_15 [.inr (.inr (some (q))), .inl (lo), .inl ((n : Int)), j3] [] (maH q g S) = EV (d + 3) N_ma_findTwins T_ma_findTwins_15 [.inr (.inr (some (q))), .inl (lo), .inl ((n : Int) - 1), j3'] [] (maH q g S') ∧ twP S' ws P n ∧ chP S' ws P lo n ch' ∧ fd [6, 9, 10] S S' := by
  have hs := hok.2.1
  have hN' : nN ws ≤ 1001 := ND_len hok
  have h14 := H.1
  have e9 : am_w ((n : Int) + (-1)) = (n : Int) - 1 := by rw [am_w_id (by omega) (by omega)]; omega
  have c0 : ¬ (n : Int) < 0 := by omega
  have eN : am_w ((nN ws : Int) - 1) = ((nN ws - 1 : Nat) : Int) := by rw [am_w_id (by omega) (by omega)]; omega
  obtain ⟨C1, C2⟩ := C
  by_cases al : lo = 1 ∧ n = nN ws - 1
  · obtain ⟨rfl, al⟩ := al
    refine ⟨am_fu S 6 (am_fu (S 6) n (n : Int)), .inl (1), ch, ?_, ⟨?_, ?_⟩, ⟨?_, ?_⟩, fd.rf.up (by decide) _⟩
    · have q1 : ¬ (1 : Int) = 0 := by decide
      have q2 : ¬ ¬ (n : Int) = ((nN ws - 1 : Nat) : Int) := fun h => h (by omega)
      rw [B_ma_findTwins_15, if_neg c0, B_ma_findTwins_19, if_neg q1, B_ma_findTwins_23, ma_gI_14, Option.bind_some, h14, eN, if_neg q2, B_ma_findTwins_33, B_ma_findTwins_38, ma_gR_6, Option.bind_some, if_neg q1, B_ma_findTwins_48, B_ma_findTwins_57, ma_s_6 (by omega) (by omega), Option.bind_some, e9, Int.toNat_natCast]
    · intro x y h1 h2 h3 h4
      obtain rfl : x = n := by omega
      obtain rfl : y = x := by omega
      exact ⟨fun _ => eO_iff.mpr (Or.inl rfl), fun _ => rfl⟩
    · intro k h1 h2
      obtain rfl : k = n := by omega
      rw [fu_self]
      exact ⟨k, fu_self, Nat.le_refl _, h2, fu_self⟩
    · intro r hr9
      obtain ⟨a1, a2, a3⟩ := C1 r hr9
      rw [fu_ne (by decide), fu_ne (by decide), fu_self]
      refine ⟨a1, by omega, fun y hy => ?_⟩
      obtain ⟨b1, b2, b3⟩ := a3 y hy
      rw [fu_ne (by omega)]
      exact ⟨by omega, b2, b3⟩
    · intro k h1 h2 _ h4
      rcases h4 with h4 | h4
      · omega
      · omega
  · obtain ⟨t, S1, e, F1, ht⟩ := ma_twinOf (q := q) (g := g) hok H hP hlo hn T ⟨C1, C2⟩ d
    have st : ∀ (S1 : Nat → Nat → Int) (t : Nat), am_cI (d + 2) N_ma_twinOf [.inr (.inr (some (q))), .inl ((n : Int))] (maH q g S) = some (((t : Nat) : Int), maH q g S1) → EV (d + 3) N_ma_findTwins T_ma_findTwins_15 [.inr (.inr (some (q))), .inl (lo), .inl ((n : Int)), j3] [] (maH q g S) = EV (d + 3) N_ma_findTwins T_ma_findTwins_15 [.inr (.inr (some (q))), .inl (lo), .inl ((n : Int) - 1), .inl (0)] [] (maH q g (am_fu S1 6 (am_fu (S1 6) n (t : Int)))) := by
      intro S1 t e
      have s38 : EV (d + 3) N_ma_findTwins T_ma_findTwins_37 [.inr (.inr (some (q))), .inl (lo), .inl ((n : Int)), j3] [] (maH q g S) = EV (d + 3) N_ma_findTwins T_ma_findTwins_15 [.inr (.inr (some (q))), .inl (lo), .inl ((n : Int) - 1), .inl (0)] [] (maH q g (am_fu S1 6 (am_fu (S1 6) n (t : Int)))) := by
        rw [B_ma_findTwins_37, B_ma_findTwins_38, ma_gR_6, Option.bind_some, if_pos rfl, B_ma_findTwins_52, if_pos ma_O, e, Option.bind_some]
        dsimp only
        rw [B_ma_findTwins_57, ma_s_6 (by omega) (by omega), Option.bind_some, e9, Int.toNat_natCast]
      rw [B_ma_findTwins_15, if_neg c0, B_ma_findTwins_19]
      by_cases c1 : lo = 0
      · rw [if_pos c1, s38]
      · have q2 : ¬ (n : Int) = ((nN ws - 1 : Nat) : Int) := by
          intro h
          rcases hlo with g | g
          · exact c1 g.1
          · exact al ⟨g.1, by omega⟩
        rw [if_neg c1, B_ma_findTwins_23, ma_gI_14, Option.bind_some, h14, eN, if_pos q2, s38]
    have st2 := st S1 t e
    have hnl : ∀ k, lo = 0 ∨ k + 1 < nN ws → (k + 1 < nN ws ∨ P k = true) := by
      intro k h
      rcases h with h | h
      · rcases hlo with g | g
        · exact Or.inr (g.2 k)
        · omega
      · exact Or.inl h
    rcases ht with ⟨rfl, t1, t2, t3⟩ | ⟨rfl, t1, t2, t3⟩
    · refine ⟨_, _, ch, st2, ⟨?_, ?_⟩, ⟨?_, ?_⟩, fd.rf.up (by decide) _⟩
      · intro x y h1 h2 h3 h4
        rw [fu_self]
        have sym : ∀ x, n < x → x < nN ws → ((t : Int) = S1 6 x ↔ eO ws P n x = true) := by
          intro x g1 g2
          rw [← t2, T.1 t x (by omega) t1.2 (by omega) g2]
          exact ⟨fun h => (eO_eqv ws P).2.2 n t x t3 h, fun h => (eO_eqv ws P).2.2 t n x ((eO_eqv ws P).2.1 n t t3) h⟩
        by_cases cx : x = n
        · rw [cx, fu_self]
          by_cases cy : y = n
          · rw [cy, fu_self]
            exact ⟨fun _ => eO_iff.mpr (Or.inl rfl), fun _ => rfl⟩
          · rw [fu_ne cy]
            exact sym y (by omega) h4
        · rw [fu_ne cx]
          by_cases cy : y = n
          · rw [cy, fu_self]
            have := sym x (by omega) h2
            exact ⟨fun h => (eO_eqv ws P).2.1 n x (this.mp h.symm), fun h => (this.mpr ((eO_eqv ws P).2.1 x n h)).symm⟩
          · rw [fu_ne cy]
            exact T.1 x y (by omega) h2 (by omega) h4
      · intro k h1 h2
        rw [fu_self]
        by_cases ck : k = n
        · rw [ck, fu_self]
          exact ⟨t, rfl, by omega, t1.2, by rw [fu_ne (by omega)]; exact t2⟩
        · obtain ⟨z, z1, z2, z3, z4⟩ := T.2 k (by omega) h2
          exact ⟨z, by rw [fu_ne ck]; exact z1, z2, z3, by rw [fu_ne (by omega)]; exact z4⟩
      · intro r hr9
        obtain ⟨a1, a2, a3⟩ := C1 r hr9
        rw [fu_ne (by decide), fu_ne (by decide), fu_self]
        refine ⟨a1, by omega, fun y hy => ?_⟩
        obtain ⟨b1, b2, b3⟩ := a3 y hy
        rw [fu_ne (by omega)]
        exact ⟨by omega, b2, b3⟩
      · intro k h1 h2 h3 h4
        rw [fu_self] at h3 ⊢
        have ck : k ≠ n := by
          intro h
          rw [h, fu_self] at h3
          omega
        rw [fu_ne ck] at h3
        rw [hr_congr hs h2 (fun x hx => fu_ne (by omega))]
        exact C2 k (by omega) h2 h3 h4
    · have F6 : S1 6 = S 6 := F1 6 (by decide)
      rw [F6] at st2
      have s6 : (am_fu S1 6 (am_fu (S 6) t (t : Int))) 6 = am_fu (S 6) t (t : Int) := fu_self
      have s9 : (am_fu S1 6 (am_fu (S 6) t (t : Int))) 9 = am_fu (S 9) (hr ws (S 6) t) (t : Int) := by rw [fu_ne (by decide)]; exact t2
      have s10 : (am_fu S1 6 (am_fu (S 6) t (t : Int))) 10 = am_fu (S 10) t (S 9 (hr ws (S 6) t)) := by rw [fu_ne (by decide)]; exact t3
      refine ⟨_, _, fun r => if r = hr ws (S 6) t then t :: ch r else ch r, st2, ⟨?_, ?_⟩, ⟨?_, ?_⟩, (F1.wide (by decide)).up (by decide) _⟩
      · intro x y h1 h2 h3 h4
        rw [s6]
        have sym : ∀ x, t < x → x < nN ws → ¬ (t : Int) = S 6 x := by
          intro x g1 g2 h
          obtain ⟨z, z1, z2, z3, z4⟩ := T.2 x (by omega) g2
          omega
        by_cases cx : x = t
        · rw [cx, fu_self]
          by_cases cy : y = t
          · rw [cy, fu_self]
            exact ⟨fun _ => eO_iff.mpr (Or.inl rfl), fun _ => rfl⟩
          · rw [fu_ne cy]
            have e1 := t1 y (by omega) h4
            exact ⟨fun h => absurd h (sym y (by omega) h4), fun h => by rw [e1] at h; exact Bool.noConfusion h⟩
        · rw [fu_ne cx]
          by_cases cy : y = t
          · rw [cy, fu_self]
            have e1 := t1 x (by omega) h2
            exact ⟨fun h => absurd h.symm (sym x (by omega) h2), fun h => by rw [(eO_eqv ws P).2.1 x t h] at e1; exact Bool.noConfusion e1⟩
          · rw [fu_ne cy]
            exact T.1 x y (by omega) h2 (by omega) h4
      · intro k h1 h2
        rw [s6]
        by_cases ck : k = t
        · rw [ck]
          exact ⟨t, fu_self, Nat.le_refl _, hn, fu_self⟩
        · obtain ⟨z, z1, z2, z3, z4⟩ := T.2 k (by omega) h2
          exact ⟨z, by rw [fu_ne ck]; exact z1, z2, z3, by rw [fu_ne (by omega)]; exact z4⟩
      · intro r hr9
        obtain ⟨a1, a2, a3⟩ := C1 r hr9
        rw [s6, s9, s10]
        have hl : lnk (am_fu (S 10) t (S 9 (hr ws (S 6) t))) (S 9 r) (ch r) := lnk_congr (fun y hy => fu_ne (by have := (a3 y hy).1; omega)) a1
        have hmem : ∀ y ∈ ch r, (t ≤ y ∧ y < nN ws) ∧ (y + 1 < nN ws ∨ P y = true) ∧ am_fu (S 6) t (t : Int) y = (y : Int) := by
          intro y hy
          obtain ⟨b1, b2, b3⟩ := a3 y hy
          rw [fu_ne (by omega)]
          exact ⟨by omega, b2, b3⟩
        dsimp only
        by_cases cr : r = hr ws (S 6) t
        · rw [if_pos cr, cr, fu_self]
          rw [cr] at hl hmem a2
          refine ⟨⟨rfl, ?_⟩, by rw [List.length_cons]; omega, fun y hy => ?_⟩
          · rw [fu_self]
            exact hl
          · rcases List.mem_cons.mp hy with h | h
            · rw [h, fu_self]
              refine ⟨⟨Nat.le_refl _, hn⟩, ?_, rfl⟩
              refine hnl t ?_
              rcases hlo with g | g
              · exact Or.inl g.1
              · right
                have : t ≠ nN ws - 1 := fun h => al ⟨g.1, h⟩
                omega
            · exact hmem y h
        · rw [if_neg cr, fu_ne cr]
          exact ⟨hl, by omega, hmem⟩
      · intro k h1 h2 h3 h4
        rw [s6] at h3 ⊢
        rw [hr_congr hs h2 (tw := S 6) (fun x hx => fu_ne (by omega))]
        dsimp only
        by_cases ck : k = t
        · rw [ck, if_pos rfl]
          exact List.mem_cons_self
        · rw [fu_ne ck] at h3
          have := C2 k (by omega) h2 h3 h4
          split
          · exact List.mem_cons_of_mem _ this
          · exact this
theorem ma_findTwins (hok : ok ws) (H : maN S ws) (hP : okP ws P) {lo : Int} (hlo : loP ws P lo) (d : Nat) : ∃ S', am_cV (d + 3) N_ma_findTwins [.inr (.inr (some (q))), .inl (lo)] (maH q g S) = some (maH q g S') ∧ twP S' ws P 0 ∧ fd [6, 9, 10] S S' := by
  have hN' : nN ws ≤ 1001 := ND_len hok
  have hNp : 0 < nN ws := nN_pos
  have h14 := H.1
  obtain ⟨f', e1, hf⟩ := ar_fill (h := maH q g S) (a := q + 10) (n := 1024) (f := S 9) (-1) ma_c_9 (by decide) (d + 2)
  have e2 : am_up (maH q g S) (q + 10) (.inl (0, 1024, .inl f')) = maH q g (am_fu S 9 f') := xH_up1 (i := 9) rfl rfl maC_nd
  rw [e2] at e1
  obtain ⟨S0, hS0⟩ : ∃ S0, S0 = am_fu S 9 f' := ⟨_, rfl⟩
  rw [← hS0] at e1
  have F0 : fd [6, 9, 10] S S0 := by rw [hS0]; exact fd.rf.up (by decide) _
  have s14 : S0 14 0 = (nN ws : Int) := by rw [F0 14 (by decide)]; exact h14
  have lp : ∀ (n : Nat) (S1 : Nat → Nat → Int) (j3 : am_V) (ch : Nat → List Nat), n ≤ nN ws → fd [6, 9, 10] S S1 → twP S1 ws P n → chP S1 ws P lo n ch → ∃ S', EV (d + 3) N_ma_findTwins T_ma_findTwins_15 [.inr (.inr (some (q))), .inl (lo), .inl ((n : Int) - 1), j3] [] (maH q g S1) = some (none, maH q g S') ∧ twP S' ws P 0 ∧ fd [6, 9, 10] S S' := by
    intro n
    induction n with
    | zero =>
      intro S1 j3 ch _ F T _
      refine ⟨S1, ?_, T, F⟩
      have q1 : ((0 : Nat) : Int) - 1 < 0 := by decide
      rw [B_ma_findTwins_15, if_pos q1, B_ma_findTwins_64]
    | succ n ih =>
      intro S1 j3 ch hn F T C
      obtain ⟨S2, j4, ch2, e, T2, C2, F2⟩ := ma_twStep (q := q) (g := g) hok (H.fr F (by decide)) hP hlo (show n < nN ws by omega) T C j3 d
      obtain ⟨S', e', r⟩ := ih S2 j4 ch2 (by omega) (F.tr F2) T2 C2
      refine ⟨S', Eq.trans ?_ (e.trans e'), r⟩
      rw [show ((n + 1 : Nat) : Int) - 1 = (n : Int) by omega]
  obtain ⟨S', e, r1, r2⟩ := lp (nN ws) S0 am_nul (fun _ => []) (Nat.le_refl _) F0 ⟨fun x y h1 h2 => by omega, fun k h1 h2 => by omega⟩ ⟨fun r hr9 => ⟨by
    show S0 9 r = -1
    rw [hS0, fu_self]
    exact hf r hr9, by rw [List.length_nil]; omega, fun y hy => by simp at hy⟩, fun k h1 h2 => by omega⟩
  refine ⟨S', am_cV_of (Eq.trans ?_ e), r1, r2⟩
  rw [en_ma_findTwins, B_ma_findTwins_0, ma_gR_9, Option.bind_some, e1, Option.bind_some, ma_gI_14, Option.bind_some, s14, am_w_id (by omega) (by omega)]
end MA
