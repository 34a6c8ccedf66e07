/-! the class' machine: states are numbered, arcs are listed; told of a book -/
section MA
variable {q b : Nat} {g : am_H} {S : Nat → Nat → Int} {ws : List wd} {P : Nat → Bool}
/-- the first nodes of a machine's states -/
abbrev fsO (ws : List wd) (P : Nat → Bool) (k : Nat) : List Nat := rl (eO ws P) tt k
def rwP (f : Nat → Int) (l : List Nat) : Prop := ∀ (i c : Nat), l[i]? = some c → f i = (c : Int)
theorem rwP_snoc {f : Nat → Int} {l : List Nat} {c : Nat} (h : rwP f l) : rwP (am_fu f l.length (c : Int)) (l ++ [c]) := by
  intro i x hx
  rcases Nat.lt_trichotomy i l.length with g | g | g
  · rw [List.getElem?_append_left g] at hx
    rw [fu_ne (by omega)]
    exact h i x hx
  · subst g
    rw [List.getElem?_append_right (Nat.le_refl _), Nat.sub_self] at hx
    simp at hx
    rw [fu_self, hx]
  · rw [List.getElem?_append_right (by omega), List.getElem?_eq_none (by rw [List.length_singleton]; omega)] at hx
    simp at hx
theorem rwP_nil {f : Nat → Int} : rwP f [] := fun i c h => by simp at h
/-- the states as far as node k -/
def nsP (S : Nat → Nat → Int) (ws : List wd) (P : Nat → Bool) (k : Nat) : Prop := S 15 0 = ((fsO ws P k).length : Int) ∧ rwP (S 8) (fsO ws P k) ∧ (∀ j, j < k → S 7 j = (sx (eO ws P) tt j : Int)) ∧
  ∀ j, k ≤ j → j < nN ws → S 6 j = (j : Int) → ((∃ i, i < k ∧ eO ws P i j = true) ∧ S 7 j = (sx (eO ws P) tt j : Int)) ∨ ((∀ i, i < k → eO ws P i j = false) ∧ S 7 j = -1)
theorem ma_nsStep (hok : ok ws) (H : maN S ws) (T : twP S ws P 0) {k : Nat} (hk : k < nN ws) (N : nsP S ws P k) (d : Nat) : ∃ S', EV d N_ma_numberStates T_ma_numberStates_20 [.inr (.inr (some (q))), .inl ((k : Int))] [] (maH q g S) = EV d N_ma_numberStates T_ma_numberStates_20 [.inr (.inr (some (q))), .inl (((k + 1 : Nat) : Int))] [] (maH q g S') ∧ nsP S' ws P (k + 1) ∧ fd [7, 8, 15] S S' := by
  have hN' : nN ws ≤ 1001 := ND_len hok
  have h14 := H.1
  have hE := eO_eqv ws P
  obtain ⟨n1, n2, n3, n4⟩ := N
  obtain ⟨t, t1, t2, t3, t4⟩ := T.2 k (Nat.zero_le _) hk
  have hl : (fsO ws P k).length ≤ k := rl_len (e := eO ws P) (P := tt) k
  have e9 : (k : Int) + 1 = ((k + 1 : Nat) : Int) := by omega
  have hkt : eO ws P k t = true := (T.1 k t (Nat.zero_le _) hk (Nat.zero_le _) t3).mp (t1.trans t4.symm)
  have hsx : sx (eO ws P) tt k = sx (eO ws P) tt t := (sx_iff (P := tt) hE rfl rfl).mpr hkt
  have hrep : ∀ j, j < nN ws → S 6 j = (j : Int) → eO ws P k j = true → j = t := by
    intro j h1 h2 h3
    have := (T.1 k j (Nat.zero_le _) hk (Nat.zero_le _) h1).mpr h3
    omega
  have e80 : ∀ S1 : Nat → Nat → Int, S1 14 0 = (nN ws : Int) → S1 6 k = (t : Int) → EV d N_ma_numberStates T_ma_numberStates_78 [.inr (.inr (some (q))), .inl ((k : Int))] [] (maH q g S1) = EV d N_ma_numberStates T_ma_numberStates_20 [.inr (.inr (some (q))), .inl (((k + 1 : Nat) : Int))] [] (maH q g (am_fu S1 7 (am_fu (S1 7) k (S1 7 t)))) := by
    intro S1 _ h6
    (try dsimp only); rw [B_ma_numberStates_78]; (try simp (disch := omega) only [Option.bind_some, if_true, if_false, eq_self, not_true_eq_false, not_false_eq_true, am_w_id, if_pos, if_neg, fu_self, fu_ne, Int.toNat_natCast, ma_gR_7, ma_l_7, ma_s_7, ma_gR_6, ma_l_6, ma_s_6, h6, e9])
  rcases n4 t t2 t3 t4 with ⟨⟨i, i1, i2⟩, i3⟩ | ⟨i1, i2⟩
  · have hL : fsO ws P (k + 1) = fsO ws P k := by
      have hany : ¬ (rl (eO ws P) tt k).any (fun j => eO ws P j k) = false := by
        obtain ⟨j, j1, j2⟩ := rl_cov (P := tt) hE i1 rfl
        have : (rl (eO ws P) tt k).any (fun j => eO ws P j k) = true := List.any_eq_true.mpr ⟨j, j1, hE.2.2 _ _ _ j2 (hE.2.2 _ _ _ i2 (hE.2.1 _ _ hkt))⟩
        rw [this]
        decide
      show (if tt k = true ∧ (rl (eO ws P) tt k).any (fun j => eO ws P j k) = false then rl (eO ws P) tt k ++ [k] else rl (eO ws P) tt k) = _
      rw [if_neg (fun h => hany h.2)]
    have c1 : ¬ (sx (eO ws P) tt t : Int) = -1 := by omega
    refine ⟨am_fu S 7 (am_fu (S 7) k (S 7 t)), ?_, ⟨?_, ?_, ?_, ?_⟩, fd.rf.up (by decide) _⟩
    · refine Eq.trans ?_ (e80 S h14 t1)
      (try dsimp only); rw [B_ma_numberStates_20]; (try simp (disch := omega) only [Option.bind_some, if_true, if_false, eq_self, not_true_eq_false, not_false_eq_true, am_w_id, if_pos, if_neg, fu_self, fu_ne, Int.toNat_natCast, ma_gI_14, ma_p_14, h14, t1, i3, c1]); rw [B_ma_numberStates_28]; (try simp (disch := omega) only [Option.bind_some, if_true, if_false, eq_self, not_true_eq_false, not_false_eq_true, am_w_id, if_pos, if_neg, fu_self, fu_ne, Int.toNat_natCast, ma_gR_7, ma_l_7, ma_s_7, ma_gR_6, ma_l_6, ma_s_6, h14, t1, i3, c1])
    · rw [fu_ne (by decide), hL]; exact n1
    · rw [fu_ne (by decide), hL]; exact n2
    · intro j hj
      rw [fu_self]
      by_cases c : j = k
      · rw [c, fu_self, i3, hsx]
      · rw [fu_ne c]; exact n3 j (by omega)
    · intro j j1 j2 j3
      rw [fu_ne (by decide)] at j3
      rw [fu_self, fu_ne (by omega)]
      rcases n4 j (by omega) j2 j3 with ⟨⟨i', g1, g2⟩, g3⟩ | ⟨g1, g2⟩
      · exact Or.inl ⟨⟨i', by omega, g2⟩, g3⟩
      · cases e : eO ws P k j with
        | true =>
          have := hrep j j2 j3 e
          subst this
          rw [g1 i i1] at i2
          exact Bool.noConfusion i2
        | false =>
          refine Or.inr ⟨fun i' hi' => ?_, g2⟩
          by_cases c : i' = k
          · rw [c]; exact e
          · exact g1 i' (by omega)
  · have hnone : (rl (eO ws P) tt k).any (fun j => eO ws P j k) = false := by
      rw [List.any_eq_false]
      intro j hj h
      have := i1 j (rl_lt hj).1
      rw [hE.2.2 _ _ _ h hkt] at this
      exact Bool.noConfusion this
    have hL : fsO ws P (k + 1) = fsO ws P k ++ [k] := by
      show (if tt k = true ∧ (rl (eO ws P) tt k).any (fun j => eO ws P j k) = false then rl (eO ws P) tt k ++ [k] else rl (eO ws P) tt k) = _
      rw [if_pos ⟨rfl, hnone⟩]
    have hnew : sx (eO ws P) tt k = (fsO ws P k).length := sx_new hnone
    obtain ⟨T1, hT1⟩ : ∃ T, T = am_fu S 7 (am_fu (S 7) t ((fsO ws P k).length : Int)) := ⟨_, rfl⟩
    obtain ⟨T2, hT2⟩ : ∃ T, T = am_fu T1 8 (am_fu (T1 8) (fsO ws P k).length (k : Int)) := ⟨_, rfl⟩
    obtain ⟨T3, hT3⟩ : ∃ T, T = am_fu T2 15 (fun _ => (((fsO ws P k).length + 1 : Nat) : Int)) := ⟨_, rfl⟩
    have a15 : T1 15 0 = ((fsO ws P k).length : Int) := by rw [hT1, fu_ne (by decide)]; exact n1
    have b15 : T2 15 0 = ((fsO ws P k).length : Int) := by rw [hT2, fu_ne (by decide)]; exact a15
    have c14 : T3 14 0 = (nN ws : Int) := by rw [hT3, fu_ne (by decide), hT2, fu_ne (by decide), hT1, fu_ne (by decide)]; exact h14
    have c6 : T3 6 = S 6 := by rw [hT3, fu_ne (by decide), hT2, fu_ne (by decide), hT1, fu_ne (by decide)]
    have c7 : T3 7 = am_fu (S 7) t ((fsO ws P k).length : Int) := by rw [hT3, fu_ne (by decide), hT2, fu_ne (by decide), hT1, fu_self]
    have c8 : T3 8 = am_fu (S 8) (fsO ws P k).length (k : Int) := by rw [hT3, fu_ne (by decide), hT2, fu_self, hT1, fu_ne (by decide)]
    have c15 : T3 15 0 = (((fsO ws P k).length + 1 : Nat) : Int) := by rw [hT3, fu_self]
    have F3 : fd [7, 8, 15] S T3 := by rw [hT3, hT2, hT1]; exact ((fd.rf.up (by decide) _).up (by decide) _).up (by decide) _
    have e8 : ((fsO ws P k).length : Int) + 1 = (((fsO ws P k).length + 1 : Nat) : Int) := by omega
    refine ⟨am_fu T3 7 (am_fu (T3 7) k (T3 7 t)), ?_, ⟨?_, ?_, ?_, ?_⟩, F3.up (by decide) _⟩
    · refine Eq.trans ?_ (e80 T3 c14 (by rw [c6]; exact t1))
      generalize hlen : (fsO ws P k).length = n at *
      (try dsimp only); rw [B_ma_numberStates_20]; (try simp (disch := omega) only [Option.bind_some, if_true, if_false, eq_self, not_true_eq_false, not_false_eq_true, am_w_id, if_pos, if_neg, fu_self, fu_ne, Int.toNat_natCast, ma_gI_14, ma_p_14, h14, t1, i2, n1, hT1.symm, a15, hT2.symm, b15, e8, hT3.symm]); rw [B_ma_numberStates_28]; (try simp (disch := omega) only [Option.bind_some, if_true, if_false, eq_self, not_true_eq_false, not_false_eq_true, am_w_id, if_pos, if_neg, fu_self, fu_ne, Int.toNat_natCast, ma_gR_7, ma_l_7, ma_s_7, ma_gR_6, ma_l_6, ma_s_6, h14, t1, i2, n1, hT1.symm, a15, hT2.symm, b15, e8, hT3.symm]); rw [B_ma_numberStates_43]; (try simp (disch := omega) only [Option.bind_some, if_true, if_false, eq_self, not_true_eq_false, not_false_eq_true, am_w_id, if_pos, if_neg, fu_self, fu_ne, Int.toNat_natCast, ma_gR_7, ma_l_7, ma_s_7, ma_gR_6, ma_l_6, ma_s_6, ma_gI_15, ma_p_15, ma_gR_8, ma_l_8, ma_s_8, h14, t1, i2, n1, hT1.symm, a15, hT2.symm, b15, e8, hT3.symm])
    · rw [fu_ne (by decide), c15, hL, List.length_append, List.length_singleton]
    · rw [fu_ne (by decide), c8, hL]
      exact rwP_snoc n2
    · intro j hj
      rw [fu_self, c7, fu_self]
      by_cases c : j = k
      · rw [c, fu_self, hnew]
      · rw [fu_ne c, fu_ne (by omega)]; exact n3 j (by omega)
    · intro j j1 j2 j3
      rw [fu_ne (by decide), c6] at j3
      rw [fu_self, c7, fu_self, fu_ne (by omega)]
      by_cases cj : j = t
      · rw [cj, fu_self]
        exact Or.inl ⟨⟨k, by omega, hkt⟩, by rw [← hsx, hnew]⟩
      · rw [fu_ne cj]
        have e : eO ws P k j = false := by
          cases e : eO ws P k j with
          | false => rfl
          | true => exact absurd (hrep j j2 j3 e) cj
        rcases n4 j (by omega) j2 j3 with ⟨⟨i', g1, g2⟩, g3⟩ | ⟨g1, g2⟩
        · exact Or.inl ⟨⟨i', by omega, g2⟩, g3⟩
        · refine Or.inr ⟨fun i' hi' => ?_, g2⟩
          by_cases c : i' = k
          · rw [c]; exact e
          · exact g1 i' (by omega)
theorem ma_numberStates (hok : ok ws) (H : maN S ws) (T : twP S ws P 0) (d : Nat) : ∃ S', am_cV (d + 2) N_ma_numberStates [.inr (.inr (some (q)))] (maH q g S) = some (maH q g S') ∧ nsP S' ws P (nN ws) ∧ fd [7, 8, 15] S S' := by
  have hN' : nN ws ≤ 1001 := ND_len hok
  have h14 := H.1
  obtain ⟨f', e1, hf⟩ := ar_fill4 (h := maH q g S) (a := q + 8) (n := 1001) (f := S 7) (-1) hN' ma_c_7 (by decide) d
  have e2 : am_up (maH q g S) (q + 8) (.inl (0, 1001, .inl f')) = maH q g (am_fu S 7 f') := xH_up1 (i := 7) rfl rfl maC_nd
  rw [e2] at e1
  obtain ⟨S0, hS0⟩ : ∃ S0, S0 = am_fu (am_fu S 7 f') 15 (fun _ => 0) := ⟨_, rfl⟩
  have F0 : fd [7, 8, 15] S S0 := by rw [hS0]; exact (fd.rf.up (by decide) _).up (by decide) _
  have lp : ∀ (m k : Nat) (S1 : Nat → Nat → Int), k + m = nN ws → fd [7, 8, 15] S S1 → nsP S1 ws P k → ∃ S', EV (d + 2) N_ma_numberStates T_ma_numberStates_20 [.inr (.inr (some (q))), .inl ((k : Int))] [] (maH q g S1) = some (none, maH q g S') ∧ nsP S' ws P (nN ws) ∧ fd [7, 8, 15] S S' := by
    intro m
    induction m with
    | zero =>
      intro k S1 hk F N
      obtain rfl : k = nN ws := by omega
      have h1 : S1 14 0 = (nN ws : Int) := by rw [F 14 (by decide)]; exact h14
      refine ⟨S1, ?_, N, F⟩
      (try dsimp only); rw [B_ma_numberStates_20]; (try simp (disch := omega) only [Option.bind_some, if_true, if_false, eq_self, not_true_eq_false, not_false_eq_true, am_w_id, if_pos, if_neg, fu_self, fu_ne, Int.toNat_natCast, ma_gI_14, ma_p_14, h1]); rw [B_ma_numberStates_101]; (try simp (disch := omega) only [Option.bind_some, if_true, if_false, eq_self, not_true_eq_false, not_false_eq_true, am_w_id, if_pos, if_neg, fu_self, fu_ne, Int.toNat_natCast, h1])
    | succ m ih =>
      intro k S1 hk F N
      have T1 : twP S1 ws P 0 := by unfold twP; rw [F 6 (by decide)]; exact T
      obtain ⟨S2, e, N2, F2⟩ := ma_nsStep (q := q) (g := g) hok (H.fr (l := [7, 8, 15]) F (by decide)) T1 (show k < nN ws by omega) N (d + 2)
      obtain ⟨S', e', r⟩ := ih (k + 1) S2 (by omega) (F.tr F2) N2
      exact ⟨S', e.trans e', r⟩
  obtain ⟨S', e, r1, r2⟩ := lp (nN ws) 0 S0 (by omega) F0 ⟨by rw [hS0, fu_self]; rfl, rwP_nil, fun j hj => by omega, fun j h1 h2 h3 => Or.inr ⟨fun i hi => by omega, by
    rw [hS0, fu_ne (by decide), fu_self]
    exact hf j h2⟩⟩
  refine ⟨S', am_cV_of (Eq.trans ?_ e), r1, r2⟩
  rw [en_ma_numberStates, B_ma_numberStates_0, ma_gR_7, Option.bind_some, ma_gI_14, Option.bind_some, h14, e1, Option.bind_some, ma_p_15, Option.bind_some, ← hS0]
  rfl
/-- how many arcs there can be -/
theorem flt_add {α : Type} {A B C : α → Bool} (h : ∀ x, C x = (A x || B x)) (hd : ∀ x, ¬ (A x = true ∧ B x = true)) : ∀ l : List α, (l.filter C).length = (l.filter A).length + (l.filter B).length
  | [] => rfl
  | x :: l => by
    have ih := flt_add h hd l
    have h1 := h x
    have h2 := hd x
    rw [List.filter_cons, List.filter_cons, List.filter_cons, h1]
    cases hA : A x <;> cases hB : B x
    · simp [ih]
    · simp [ih]; omega
    · simp [ih]; omega
    · exact absurd ⟨hA, hB⟩ h2
theorem arc_bd {e : Nat → Nat → Bool} : ∀ n, ((rl e tt n).flatMap (kd ws)).length ≤ ((List.range (nN ws)).filter (fun c => decide (c ≠ 0) && decide (pr ws c < n))).length
  | 0 => by simp [rl]
  | n + 1 => by
    have ih := arc_bd (e := e) n
    have hadd := flt_add (A := fun c => decide (c ≠ 0) && decide (pr ws c < n)) (B := fun c => decide (c ≠ 0) && decide (pr ws c = n)) (C := fun c => decide (c ≠ 0) && decide (pr ws c < n + 1)) (fun x => by
      rw [Bool.eq_iff_iff]
      simp only [Bool.and_eq_true, Bool.or_eq_true, decide_eq_true_eq]
      omega) (fun x => by
      simp only [Bool.and_eq_true, decide_eq_true_eq]
      omega) (List.range (nN ws))
    rw [hadd]
    have hk : ((List.range (nN ws)).filter (fun c => decide (c ≠ 0) && decide (pr ws c = n))).length = (kd ws n).length := rfl
    rw [hk, rl]
    split
    · rw [List.flatMap_append, List.length_append, List.flatMap_singleton]
      omega
    · omega
theorem arc_lt {e : Nat → Nat → Bool} : ((rl e tt (nN ws)).flatMap (kd ws)).length < nN ws := by
  have h := arc_bd (ws := ws) (e := e) (nN ws)
  obtain ⟨m, hm⟩ : ∃ m, nN ws = m + 1 := ⟨nN ws - 1, by have := nN_pos (ws := ws); omega⟩
  have h2 : ((List.range (nN ws)).filter (fun c => decide (c ≠ 0) && decide (pr ws c < nN ws))).length ≤ m := by
    rw [hm, List.range_succ_eq_map, List.filter_cons, if_neg (by simp)]
    exact Nat.le_trans (List.length_filter_le _ _) (by rw [List.length_map, List.length_range]; exact Nat.le_refl _)
  omega
theorem fm_take {f : Nat → List Nat} : ∀ (l : List Nat) (s : Nat), ((l.take s).flatMap f).length ≤ (l.flatMap f).length
  | [], s => by simp
  | x :: l, 0 => by simp
  | x :: l, s + 1 => by
    have ih := fm_take (f := f) l s
    rw [List.take_succ_cons, List.flatMap_cons, List.flatMap_cons, List.length_append, List.length_append]
    omega
/-- the arcs of the first s states -/
def alO (ws : List wd) (P : Nat → Bool) (s : Nat) : List Nat := ((fsO ws P (nN ws)).take s).flatMap (kd ws)
def arP (S : Nat → Nat → Int) (ws : List wd) (P : Nat → Bool) (s : Nat) : Prop := S 16 0 = ((alO ws P s).length : Int) ∧ rwP (S 13) (alO ws P s) ∧ ∀ j, j < s → S 12 j = ((alO ws P j).length : Int)
theorem ma_listArcs (hok : ok ws) (H : maN S ws) (N : nsP S ws P (nN ws)) (d : Nat) : ∃ S', am_cV d N_ma_listArcs [.inr (.inr (some (q)))] (maH q g S) = some (maH q g S') ∧ arP S' ws P ((fsO ws P (nN ws)).length + 1) ∧ fd [12, 13, 16] S S' := by
  have hs := hok.2.1
  have hN' : nN ws ≤ 1001 := ND_len hok
  obtain ⟨n1, n2, n3, n4⟩ := N
  have hlen : (fsO ws P (nN ws)).length ≤ nN ws := rl_len (e := eO ws P) (P := tt) (nN ws)
  have hbd : ∀ s, (alO ws P s).length < 1001 := fun s => by
    have h1 := fm_take (f := kd ws) (fsO ws P (nN ws)) s
    have h2 : ((fsO ws P (nN ws)).flatMap (kd ws)).length < nN ws := arc_lt (ws := ws) (e := eO ws P)
    unfold alO
    omega
  have lp : ∀ (m s : Nat) (S1 : Nat → Nat → Int) (j2 j3 : am_V), s + m = (fsO ws P (nN ws)).length → fd [12, 13, 16] S S1 → arP S1 ws P s → ∃ S' j2' j3', EV d N_ma_listArcs T_ma_listArcs_7 [.inr (.inr (some (q))), .inl ((s : Int)), j2, j3] [] (maH q g S1) = EV d N_ma_listArcs T_ma_listArcs_7 [.inr (.inr (some (q))), .inl (((fsO ws P (nN ws)).length : Int)), j2', j3'] [] (maH q g S') ∧ arP S' ws P (fsO ws P (nN ws)).length ∧ fd [12, 13, 16] S S' := by
    intro m
    induction m with
    | zero =>
      intro s S1 j2 j3 hs1 F A
      obtain rfl : s = (fsO ws P (nN ws)).length := by omega
      exact ⟨S1, j2, j3, rfl, A, F⟩
    | succ m ih =>
      intro s S1 j2 j3 hs1 F A
      obtain ⟨a1, a2, a3⟩ := A
      have hsl : s < (fsO ws P (nN ws)).length := by omega
      obtain ⟨k, hk⟩ : ∃ k, (fsO ws P (nN ws))[s]? = some k := ⟨_, List.getElem?_eq_getElem hsl⟩
      have hkN := (rl_lt (List.mem_of_getElem? hk)).1
      have s15 : S1 15 0 = ((fsO ws P (nN ws)).length : Int) := by rw [F 15 (by decide)]; exact n1
      have hb0 := hbd s
      have hal : alO ws P (s + 1) = alO ws P s ++ kd ws k := by
        unfold alO
        rw [tk_s hk, List.flatMap_append, List.flatMap_singleton]
      have hb1 := hbd (s + 1)
      rw [hal, List.length_append] at hb1
      obtain ⟨T0, hT0⟩ : ∃ T, T = am_fu S1 12 (am_fu (S1 12) s ((alO ws P s).length : Int)) := ⟨_, rfl⟩
      have FT : fd [12, 13, 16] S T0 := by rw [hT0]; exact F.up (by decide) _
      have t8 : T0 8 s = (k : Int) := by rw [FT 8 (by decide)]; exact n2 s k hk
      have t5 : T0 5 k = (sz ws (pn ws k) : Int) := by rw [FT 5 (by decide)]; exact (H.2.2.2 k hkN).2
      have hx0 := nx_0 hs hkN
      have sk := szk_le hs hkN
      have e1 : (k : Int) + (sz ws (pn ws k) : Int) = ((k + sz ws (pn ws k) : Nat) : Int) := by omega
      have e2 : (k : Int) + 1 = (nx ws k 0 : Int) := by omega
      have st : EV d N_ma_listArcs T_ma_listArcs_7 [.inr (.inr (some (q))), .inl ((s : Int)), j2, j3] [] (maH q g S1) = EV d N_ma_listArcs T_ma_listArcs_53 [.inr (.inr (some (q))), .inl ((s : Int)), .inl (((k + sz ws (pn ws k) : Nat) : Int)), .inl ((nx ws k 0 : Int))] [] (maH q g T0) := by
        (try dsimp only); rw [B_ma_listArcs_7]; (try simp (disch := omega) only [Option.bind_some, if_true, if_false, eq_self, not_true_eq_false, not_false_eq_true, am_w_id, if_pos, if_neg, fu_self, fu_ne, Int.toNat_natCast, ma_gI_15, ma_p_15, s15, a1, hT0.symm, t8, t5, e1, e2]); rw [B_ma_listArcs_15]; (try simp (disch := omega) only [Option.bind_some, if_true, if_false, eq_self, not_true_eq_false, not_false_eq_true, am_w_id, if_pos, if_neg, fu_self, fu_ne, Int.toNat_natCast, ma_gR_12, ma_l_12, ma_s_12, ma_gI_16, ma_p_16, ma_gR_8, ma_l_8, ma_s_8, ma_gR_5, ma_l_5, ma_s_5, s15, a1, hT0.symm, t8, t5, e1, e2])
      have inner : ∀ (m i : Nat) (U : Nat → Nat → Int), i + m = (kd ws k).length → fd [12, 13, 16] S U → (U 12 = T0 12 ∧ U 16 0 = ((alO ws P s ++ (kd ws k).take i).length : Int) ∧ rwP (U 13) (alO ws P s ++ (kd ws k).take i)) → ∃ S', EV d N_ma_listArcs T_ma_listArcs_53 [.inr (.inr (some (q))), .inl ((s : Int)), .inl (((k + sz ws (pn ws k) : Nat) : Int)), .inl ((nx ws k i : Int))] [] (maH q g U) = EV d N_ma_listArcs T_ma_listArcs_7 [.inr (.inr (some (q))), .inl (((s + 1 : Nat) : Int)), .inl (((k + sz ws (pn ws k) : Nat) : Int)), .inl (((k + sz ws (pn ws k) : Nat) : Int))] [] (maH q g S') ∧ fd [12, 13, 16] S S' ∧ (S' 12 = T0 12 ∧ S' 16 0 = ((alO ws P s ++ kd ws k).length : Int) ∧ rwP (S' 13) (alO ws P s ++ kd ws k)) := by
        intro m
        induction m with
        | zero =>
          intro i U hi FU hU
          obtain rfl : i = (kd ws k).length := by omega
          rw [List.take_length] at hU
          refine ⟨U, ?_, FU, hU⟩
          have e9 : (s : Int) + 1 = ((s + 1 : Nat) : Int) := by omega
          rw [nx_end (Nat.le_refl _)]
          (try dsimp only); rw [B_ma_listArcs_53]; (try simp (disch := omega) only [Option.bind_some, if_true, if_false, eq_self, not_true_eq_false, not_false_eq_true, am_w_id, if_pos, if_neg, fu_self, fu_ne, Int.toNat_natCast, e9]); rw [B_ma_listArcs_94]; (try simp (disch := omega) only [Option.bind_some, if_true, if_false, eq_self, not_true_eq_false, not_false_eq_true, am_w_id, if_pos, if_neg, fu_self, fu_ne, Int.toNat_natCast, e9])
        | succ m ih2 =>
          intro i U hi FU hU
          obtain ⟨u1, u2, u3⟩ := hU
          have hik : i < (kd ws k).length := by omega
          obtain ⟨hx, hxg⟩ := nx_in (ws := ws) (k := k) hik
          have hlt := (nx_iff hs hkN).mp hik
          have hxN := kd_lt hx
          have hnx := nx_s hs hkN hik
          have hsz := sz_pos hs (pn_bg hxN)
          have hmx : am_max 1 (sz ws (pn ws (nx ws k i)) : Int) = (sz ws (pn ws (nx ws k i)) : Int) := mx1 (by omega)
          have hln : (alO ws P s ++ (kd ws k).take i).length = (alO ws P s).length + i := by rw [List.length_append, List.length_take]; omega
          have e8 : (nx ws k i : Int) + (sz ws (pn ws (nx ws k i)) : Int) = (nx ws k (i + 1) : Int) := by omega
          have htk : alO ws P s ++ (kd ws k).take (i + 1) = (alO ws P s ++ (kd ws k).take i) ++ [nx ws k i] := by rw [tk_s hxg, List.append_assoc]
          have hnb := nx_bd (i := i + 1) hs hkN
          generalize hA : alO ws P s ++ (kd ws k).take i = A at *
          obtain ⟨V1, hV1⟩ : ∃ T, T = am_fu U 13 (am_fu (U 13) A.length (nx ws k i : Int)) := ⟨_, rfl⟩
          obtain ⟨V2, hV2⟩ : ∃ T, T = am_fu V1 16 (fun _ => ((A.length + 1 : Nat) : Int)) := ⟨_, rfl⟩
          have v16 : V1 16 0 = (A.length : Int) := by rw [hV1, fu_ne (by decide)]; exact u2
          have FV : fd [12, 13, 16] S V2 := by rw [hV2, hV1]; exact (FU.up (by decide) _).up (by decide) _
          have v5 : V2 5 (nx ws k i) = (sz ws (pn ws (nx ws k i)) : Int) := by rw [FV 5 (by decide)]; exact (H.2.2.2 _ hxN).2
          have w5 : V1 5 (nx ws k i) = (sz ws (pn ws (nx ws k i)) : Int) := by rw [← v5, hV2, fu_ne (by decide)]
          have e9 : (A.length : Int) + 1 = ((A.length + 1 : Nat) : Int) := by omega
          obtain ⟨S', e, r⟩ := ih2 (i + 1) V2 (by omega) FV ⟨by rw [hV2, fu_ne (by decide), hV1, fu_ne (by decide)]; exact u1, by rw [hV2, fu_self, htk, List.length_append, List.length_singleton], by
            rw [hV2, fu_ne (by decide), hV1, fu_self, htk]
            exact rwP_snoc u3⟩
          refine ⟨S', Eq.trans ?_ e, r⟩
          have c1 : ¬ ((k + sz ws (pn ws k) : Nat) : Int) ≤ (nx ws k i : Int) := by omega
          have hAl : A.length < 1001 := by omega
          generalize nx ws k (i + 1) = Y at *
          generalize nx ws k i = X at *
          generalize A.length = n at *
          (try dsimp only); rw [B_ma_listArcs_53]; (try simp (disch := omega) only [Option.bind_some, if_true, if_false, eq_self, not_true_eq_false, not_false_eq_true, am_w_id, if_pos, if_neg, fu_self, fu_ne, Int.toNat_natCast, c1, u2, hV1.symm, v16, e9, hV2.symm, v5, w5, hmx, e8]); rw [B_ma_listArcs_58]; (try simp (disch := omega) only [Option.bind_some, if_true, if_false, eq_self, not_true_eq_false, not_false_eq_true, am_w_id, if_pos, if_neg, fu_self, fu_ne, Int.toNat_natCast, ma_gR_13, ma_l_13, ma_s_13, ma_gI_16, ma_p_16, ma_gR_5, ma_l_5, ma_s_5, c1, u2, hV1.symm, v16, e9, hV2.symm, v5, w5, hmx, e8])
      obtain ⟨U, eU, FU, u1, u2, u3⟩ := inner (kd ws k).length 0 T0 (by omega) FT ⟨rfl, by rw [List.take_zero, List.append_nil, hT0, fu_ne (by decide)]; exact a1, by rw [List.take_zero, List.append_nil, hT0, fu_ne (by decide)]; exact a2⟩
      rw [← hal] at u2 u3
      obtain ⟨S', j2', j3', e, r⟩ := ih (s + 1) U _ _ (by omega) FU ⟨u2, u3, fun j hj => by
        rw [u1, hT0, fu_self]
        by_cases c : j = s
        · rw [c, fu_self]
        · rw [fu_ne c]
          exact a3 j (by omega)⟩
      exact ⟨S', j2', j3', (st.trans eU).trans e, r⟩
  obtain ⟨S0, hS0⟩ : ∃ T, T = am_fu S 16 (fun _ => 0) := ⟨_, rfl⟩
  have F0 : fd [12, 13, 16] S S0 := by rw [hS0]; exact fd.rf.up (by decide) _
  obtain ⟨S1, j2, j3, e, ⟨a1, a2, a3⟩, F1⟩ := lp (fsO ws P (nN ws)).length 0 S0 am_nul am_nul (by omega) F0 ⟨by rw [hS0, fu_self]; rfl, fun i c h => by simp [alO] at h, fun j hj => by omega⟩
  have s15 : S1 15 0 = ((fsO ws P (nN ws)).length : Int) := by rw [F1 15 (by decide)]; exact n1
  have st : am_call d N_ma_listArcs [.inr (.inr (some (q)))] (maH q g S) = EV d N_ma_listArcs T_ma_listArcs_7 [.inr (.inr (some (q))), .inl (((0 : Nat) : Int)), am_nul, am_nul] [] (maH q g S0) := by
    rw [hS0]
    (try dsimp only); rw [en_ma_listArcs]; (try simp (disch := omega) only [Option.bind_some, if_true, if_false, eq_self, not_true_eq_false, not_false_eq_true, am_w_id, if_pos, if_neg, fu_self, fu_ne, Int.toNat_natCast]); rw [B_ma_listArcs_0]; (try simp (disch := omega) only [Option.bind_some, if_true, if_false, eq_self, not_true_eq_false, not_false_eq_true, am_w_id, if_pos, if_neg, fu_self, fu_ne, Int.toNat_natCast, ma_gI_16, ma_p_16])
    rfl
  have hfull : alO ws P ((fsO ws P (nN ws)).length + 1) = alO ws P (fsO ws P (nN ws)).length := by
    unfold alO
    rw [List.take_of_length_le (by omega), List.take_of_length_le (Nat.le_refl _)]
  have hbn := hbd (fsO ws P (nN ws)).length
  refine ⟨am_fu S1 12 (am_fu (S1 12) (fsO ws P (nN ws)).length ((alO ws P (fsO ws P (nN ws)).length).length : Int)), am_cV_of (st.trans (e.trans ?_)), ⟨?_, ?_, ?_⟩, F1.up (by decide) _⟩
  · generalize hn : (fsO ws P (nN ws)).length = n at *
    (try dsimp only); rw [B_ma_listArcs_7]; (try simp (disch := omega) only [Option.bind_some, if_true, if_false, eq_self, not_true_eq_false, not_false_eq_true, am_w_id, if_pos, if_neg, fu_self, fu_ne, Int.toNat_natCast, ma_gI_15, ma_p_15, s15, a1]); rw [B_ma_listArcs_100]; (try simp (disch := omega) only [Option.bind_some, if_true, if_false, eq_self, not_true_eq_false, not_false_eq_true, am_w_id, if_pos, if_neg, fu_self, fu_ne, Int.toNat_natCast, ma_gR_12, ma_l_12, ma_s_12, ma_gI_15, ma_p_15, ma_gI_16, ma_p_16, s15, a1])
  · rw [fu_ne (by decide), hfull]; exact a1
  · rw [fu_ne (by decide), hfull]; exact a2
  · intro j hj
    rw [fu_self]
    by_cases c : j = (fsO ws P (nN ws)).length
    · rw [c, fu_self]
    · rw [fu_ne c]
      exact a3 j (by omega)
/-- a machine that tells words -/
def maT (S : Nat → Nat → Int) (ws : List wd) (P : Nat → Bool) : Prop := maN S ws ∧ (S 15 0 = ((fsO ws P (nN ws)).length : Int) ∧ rwP (S 8) (fsO ws P (nN ws)) ∧ ∀ j, j < nN ws → S 7 j = (sx (eO ws P) tt j : Int)) ∧ arP S ws P ((fsO ws P (nN ws)).length + 1)
theorem ma_tell (hok : ok ws) (B : bkR g b ws) (hd : b + 3 ≤ q ∨ q + 15 ≤ b) (hP : okP ws P) {lo : Int} (hlo : loP ws P lo) (d : Nat) : ∃ S', am_cV (d + 4) N_ma_tell [.inr (.inr (some (q))), .inr (.inr (some (b))), .inl (lo)] (maH q g S) = some (maH q g S') ∧ maT S' ws P := by
  have Bm : ∀ S, bkR (maH q g S) b ws := fun S => B.fr maH_fr hd
  have hsz := fun S => (Bm S).sz
  obtain ⟨S1, e1, a1, a2, a3, F1⟩ := ma_plant (q := q) (g := g) (S := S) hok B hd d
  have meas : ∃ x1, ((ws = [] ∧ x1 = (1 : Int)) ∨ (ws ≠ [] ∧ x1 = 0)) ∧ am_call (d + 4) N_ma_tell [.inr (.inr (some (q))), .inr (.inr (some (b))), .inl (lo)] (maH q g S) = EV (d + 4) N_ma_tell T_ma_tell_18 [.inr (.inr (some (q))), .inr (.inr (some (b))), .inl (lo)] [.inl (x1), .inr (.inr (some (q)))] (maH q g S1) := by
    by_cases c : ws = []
    · refine ⟨1, Or.inl ⟨c, rfl⟩, ?_⟩
      have hz : (ws.length : Int) = 0 := by rw [c]; rfl
      have hsz' : am_gI (maH q g S1) b 0 2 = some 0 := by rw [hsz, hz]
      rw [en_ma_tell, B_ma_tell_0, if_pos ma_O, e1, Option.bind_some, hsz', Option.bind_some, if_neg (by decide), B_ma_tell_13]
    · refine ⟨0, Or.inr ⟨c, rfl⟩, ?_⟩
      have hl := List.length_pos_iff.mpr c
      rw [en_ma_tell, B_ma_tell_0, if_pos ma_O, e1, Option.bind_some, hsz, Option.bind_some, if_pos (by omega), B_ma_tell_17]
  obtain ⟨x1, hx, st⟩ := meas
  obtain ⟨S2, e2, b1, F2⟩ := ma_measure (q := q) (g := g) hok a1 a2 a3 hx (d + 3)
  have N2 : maN S2 ws := by
    refine ⟨?_, ?_, ?_, b1⟩
    · rw [F2 14 (by decide)]; exact a1
    · unfold trP; rw [F2 0 (by decide), F2 1 (by decide), F2 2 (by decide)]; exact a2
    · unfold nvP; rw [F2 3 (by decide)]; exact a3
  obtain ⟨S3, e3, c1, F3⟩ := ma_findTwins (q := q) (g := g) hok N2 hP hlo d
  have N3 := N2.fr F3 (by decide)
  obtain ⟨S4, e4, d1, F4⟩ := ma_numberStates (q := q) (g := g) hok N3 c1 (d + 1)
  have N4 := N3.fr F4 (by decide)
  obtain ⟨S5, e5, f1, F5⟩ := ma_listArcs (q := q) (g := g) hok N4 d1 (d + 3)
  have N5 := N4.fr F5 (by decide)
  refine ⟨S5, am_cV_of (st.trans ?_), N5, ⟨?_, ?_, ?_⟩, f1⟩
  · rw [B_ma_tell_18, if_pos ma_O, e2, Option.bind_some, if_pos ma_O, e3, Option.bind_some, if_pos ma_O, e4, Option.bind_some, if_pos ma_O, e5, Option.bind_some]
  · rw [F5 15 (by decide)]; exact d1.1
  · rw [F5 8 (by decide)]; exact d1.2.1
  · rw [F5 7 (by decide)]; exact d1.2.2.1
/-- the builder's states -/
theorem bld_states (hok : ok ws) (hn : ws ≠ []) : (fsO ws (clo ws) (nN ws)).length = nO ws + nC ws := by
  have h := rl_open (e := eR ws) (P := clo ws) (e' := eO ws (clo ws)) (fun i j hij => by
    unfold eO
    rw [decide_eq_false (by omega), Bool.false_or]) (nN ws)
  have h2 : (fsO ws (clo ws) (nN ws)).length = ((List.range (nN ws)).filter (fun k => !clo ws k)).length + (rl (eR ws) (clo ws) (nN ws)).length := h.2
  rw [h2, open_len hok.2.1 hn]
  unfold nC
  rw [if_neg hn]
theorem eO_tt (ws : List wd) : eO ws tt = eR ws := by
  funext i j
  unfold eO tt
  by_cases c : i = j
  · subst c
    rw [(eR_eqv ws).1 i]
    simp
  · rw [decide_eq_false c]
    simp
theorem loP_tt (ws : List wd) : loP ws tt 0 := Or.inl ⟨rfl, fun _ => rfl⟩
theorem loP_clo (hok : ok ws) (hn : ws ≠ []) : loP ws (clo ws) 1 := by
  refine Or.inr ⟨rfl, ?_⟩
  have := nN_pos (ws := ws)
  rw [clo_iff hok.2.1 hn (by omega), last_pn hok hn]
  exact List.prefix_refl _
end MA
