/-! the class: join -/
theorem c_byRule {a b rule : Int} (ha : 0 ≤ a ∧ a ≤ 999999) (hb : 0 ≤ b ∧ b ≤ 999999) (hr : 0 ≤ rule ∧ rule ≤ 4) (d : Nat) (h : am_H) : am_cI d N_nw_byRule [.inl (a), .inl (b), .inl (rule)] h = some (byR rule a b, h) := by
  apply am_cI_of
  rw [en_nw_byRule, B_nw_byRule_0]
  unfold byR
  rcases (show rule = 0 ∨ rule = 1 ∨ rule = 2 ∨ rule = 3 ∨ rule = 4 by omega) with rfl | rfl | rfl | rfl | rfl
  · rw [C_nw_byRule_1_0, B_nw_byRule_32, am_w_id (by omega) (by omega), if_pos rfl]
  · rw [C_nw_byRule_1_1, B_nw_byRule_41, if_neg (by decide), if_pos rfl]
  · rw [C_nw_byRule_1_2, B_nw_byRule_47, if_neg (by decide), if_neg (by decide), if_pos rfl]
  · rw [C_nw_byRule_1_3, B_nw_byRule_53, if_neg (by decide), if_neg (by decide), if_neg (by decide), if_pos rfl]
  · rw [C_nw_byRule_1_d _ _ _ _ (by omega), B_nw_byRule_55, if_neg (by decide), if_neg (by decide), if_neg (by decide), if_neg (by decide)]
theorem c_joined {a b : Option Int} {how rule : Int} (ha : ∀ x, a = some x → 0 ≤ x ∧ x ≤ 999999) (hb : ∀ x, b = some x → 0 ≤ x ∧ x ≤ 999999) (hh : 0 ≤ how ∧ how ≤ 2) (hr : 0 ≤ rule ∧ rule ≤ 4) (d : Nat) (h : am_H) : am_cI (d + 1) N_nw_joinedNumber [.inl (a.getD (-1)), .inl (b.getD (-1)), .inl (how), .inl (rule)] h = some ((jnum a b how rule).getD (-1), h) := by
  apply am_cI_of
  rw [en_nw_joinedNumber, B_nw_joinedNumber_0]
  cases a with
  | none =>
    rw [Option.getD_none, if_pos rfl, B_nw_joinedNumber_26]
    cases b with
    | none =>
      have ej : (jnum none none how rule).getD (-1) = -1 := by simp [jnum]
      rw [ej, Option.getD_none]
      by_cases c1 : how = 1
      · rw [if_pos c1, B_nw_joinedNumber_41]
      · rw [if_neg c1, B_nw_joinedNumber_31]
        by_cases c2 : how = 2
        · rw [if_neg (fun q => q c2), B_nw_joinedNumber_36, if_neg (by decide), B_nw_joinedNumber_41]
        · rw [if_pos c2, B_nw_joinedNumber_43, if_pos rfl, B_nw_joinedNumber_52, B_nw_joinedNumber_53]
    | some y =>
      have ej : jnum none (some y) how rule = if how = 0 then some y else none := rfl
      rw [ej, Option.getD_some]
      by_cases c1 : how = 1
      · rw [if_pos c1, B_nw_joinedNumber_41, if_neg (by omega), Option.getD_none]
      · rw [if_neg c1, B_nw_joinedNumber_31]
        by_cases c2 : how = 2
        · rw [if_neg (fun q => q c2), B_nw_joinedNumber_36, if_neg (by decide), B_nw_joinedNumber_41, if_neg (by omega), Option.getD_none]
        · rw [if_pos c2, B_nw_joinedNumber_43, if_pos rfl, B_nw_joinedNumber_52, B_nw_joinedNumber_53, if_pos (by omega), Option.getD_some]
  | some x =>
    have hx := ha x rfl
    rw [Option.getD_some, if_neg (by omega), B_nw_joinedNumber_5]
    cases b with
    | none =>
      have ej : jnum (some x) none how rule = if how = 1 then none else some x := rfl
      rw [ej, Option.getD_none, if_pos rfl, B_nw_joinedNumber_26]
      by_cases c1 : how = 1
      · rw [if_pos c1, if_pos c1, B_nw_joinedNumber_41, Option.getD_none]
      · rw [if_neg c1, if_neg c1, B_nw_joinedNumber_31, Option.getD_some]
        by_cases c2 : how = 2
        · rw [if_neg (fun q => q c2), B_nw_joinedNumber_36, if_pos (by omega), B_nw_joinedNumber_43, if_neg (by omega), B_nw_joinedNumber_48, B_nw_joinedNumber_53]
        · rw [if_pos c2, B_nw_joinedNumber_43, if_neg (by omega), B_nw_joinedNumber_48, B_nw_joinedNumber_53]
    | some y =>
      have hy := hb y rfl
      have ej : jnum (some x) (some y) how rule = if how < 2 then some (byR rule x y) else none := rfl
      rw [ej, Option.getD_some, if_neg (by omega), B_nw_joinedNumber_10]
      by_cases c2 : how = 2
      · rw [if_neg (fun q => q c2), B_nw_joinedNumber_15, B_nw_joinedNumber_25, if_neg (by omega), Option.getD_none]
      · rw [if_pos c2, B_nw_joinedNumber_19, c_byRule hx hy hr, Option.bind_some]
        dsimp only
        rw [B_nw_joinedNumber_25, if_pos (by omega), Option.getD_some]
/-- the long of the word at a place, or the most -/
def lgA (l : List wd) (i : Nat) : Int := if i < l.length then ec 10 (l.getD i ([], 0)).1 else 1125899906842624
theorem lgA_lt {l : List wd} (hk : ∀ p ∈ l, wk p) {i : Nat} (h : i < l.length) : lgA l i = ec 10 (l.getD i ([], 0)).1 ∧ wk (l.getD i ([], 0)) ∧ lgA l i < 1125899906842624 := by
  have hp := hk _ (List.mem_of_getElem? (gt_some h))
  have e : lgA l i = ec 10 (l.getD i ([], 0)).1 := if_pos h
  refine ⟨e, hp, ?_⟩
  rw [e]
  exact (ec10 hp.1).2
theorem lgA_ge {l : List wd} {i : Nat} (h : ¬ i < l.length) : lgA l i = 1125899906842624 := if_neg h
theorem drp_cons {l : List wd} {i : Nat} (h : i < l.length) : l.drop i = l.getD i ([], 0) :: l.drop (i + 1) := by
  rw [List.drop_eq_getElem_cons h, List.getD_eq_getElem?_getD, List.getElem?_eq_getElem h]
  rfl
theorem drp_nil {l : List wd} {i : Nat} (h : ¬ i < l.length) : l.drop i = [] := List.drop_eq_nil_of_le (by omega)
/-- one step of the merging, at two places -/
theorem mg_at {ws v : List wd} {how rule : Int} (hw : ∀ p ∈ ws, wk p) (hv : ∀ p ∈ v, wk p) {i j : Nat} (hij : i < ws.length ∨ j < v.length) (N : Nat) :
    ∃ w a b, mg how rule (N + 1) (ws.drop i) (v.drop j) = ao (jnum a b how rule) w (mg how rule N (ws.drop (i + if lgA ws i ≤ lgA v j then 1 else 0)) (v.drop (j + if lgA v j ≤ lgA ws i then 1 else 0))) ∧ am_min (lgA ws i) (lgA v j) = ec 10 w ∧
      (a.getD (-1) = if lgA ws i ≤ lgA v j then (ws.getD i ([], 0)).2 else -1) ∧ (b.getD (-1) = if lgA v j ≤ lgA ws i then (v.getD j ([], 0)).2 else -1) ∧ (∀ x, a = some x → 0 ≤ x ∧ x ≤ 999999) ∧ (∀ x, b = some x → 0 ≤ x ∧ x ≤ 999999) ∧
      (lgA ws i ≤ lgA v j → i < ws.length) ∧ (lgA v j ≤ lgA ws i → j < v.length) := by
  by_cases c1 : i < ws.length
  · obtain ⟨p1, p2, p3⟩ := lgA_lt hw c1
    have d1 := drp_cons c1
    by_cases c2 : j < v.length
    · obtain ⟨q1, q2, q3⟩ := lgA_lt hv c2
      have d2 := drp_cons c2
      have hlt := ec_lt 10 _ _ p2.1 q2.1 p2.2.2.1 q2.2.2.1
      have hgt := ec_lt 10 _ _ q2.1 p2.1 q2.2.2.1 p2.2.2.1
      rw [← p1, ← q1] at hlt hgt
      have em : mg how rule (N + 1) (ws.drop i) (v.drop j) = if lx (ws.getD i ([], 0)).1 (v.getD j ([], 0)).1 = true then ao (jnum (some (ws.getD i ([], 0)).2) none how rule) (ws.getD i ([], 0)).1 (mg how rule N (ws.drop (i + 1)) (v.drop j)) else if lx (v.getD j ([], 0)).1 (ws.getD i ([], 0)).1 = true then ao (jnum none (some (v.getD j ([], 0)).2) how rule) (v.getD j ([], 0)).1 (mg how rule N (ws.drop i) (v.drop (j + 1))) else ao (jnum (some (ws.getD i ([], 0)).2) (some (v.getD j ([], 0)).2) how rule) (ws.getD i ([], 0)).1 (mg how rule N (ws.drop (i + 1)) (v.drop (j + 1))) := by
        rw [d1, d2]
        rfl
      by_cases c3 : lgA ws i < lgA v j
      · refine ⟨(ws.getD i ([], 0)).1, some (ws.getD i ([], 0)).2, none, ?_, ?_, ?_, ?_, fun x hx => by injection hx with hx; rw [← hx]; exact p2.2.2.2, fun x hx => by simp at hx, fun _ => c1, fun _ => c2⟩
        · rw [em, if_pos (hlt.mp c3), if_pos (by omega), if_neg (by omega)]
          rfl
        · rw [← p1]; unfold am_min; rw [if_neg (by omega)]
        · rw [if_pos (by omega)]; rfl
        · rw [if_neg (by omega)]; rfl
      · by_cases c4 : lgA v j < lgA ws i
        · refine ⟨(v.getD j ([], 0)).1, none, some (v.getD j ([], 0)).2, ?_, ?_, ?_, ?_, fun x hx => by simp at hx, fun x hx => by injection hx with hx; rw [← hx]; exact q2.2.2.2, fun _ => c1, fun _ => c2⟩
          · rw [em, if_neg (fun q => c3 (hlt.mpr q)), if_pos (hgt.mp c4), if_neg (by omega), if_pos (by omega)]
            rfl
          · rw [← q1]; unfold am_min; rw [if_pos (by omega)]
          · rw [if_neg (by omega)]; rfl
          · rw [if_pos (by omega)]; rfl
        · refine ⟨(ws.getD i ([], 0)).1, some (ws.getD i ([], 0)).2, some (v.getD j ([], 0)).2, ?_, ?_, ?_, ?_, fun x hx => by injection hx with hx; rw [← hx]; exact p2.2.2.2, fun x hx => by injection hx with hx; rw [← hx]; exact q2.2.2.2, fun _ => c1, fun _ => c2⟩
          · rw [em, if_neg (fun q => c3 (hlt.mpr q)), if_neg (fun q => c4 (hgt.mpr q)), if_pos (by omega), if_pos (by omega)]
          · rw [← p1]; unfold am_min; rw [if_neg (by omega)]
          · rw [if_pos (by omega)]; rfl
          · rw [if_pos (by omega)]; rfl
    · have q1 := lgA_ge c2
      have em : mg how rule (N + 1) (ws.drop i) (v.drop j) = ao (jnum (some (ws.getD i ([], 0)).2) none how rule) (ws.getD i ([], 0)).1 (mg how rule N (ws.drop (i + 1)) (v.drop j)) := by
        rw [d1, drp_nil c2]
        rfl
      refine ⟨(ws.getD i ([], 0)).1, some (ws.getD i ([], 0)).2, none, ?_, ?_, ?_, ?_, fun x hx => by injection hx with hx; rw [← hx]; exact p2.2.2.2, fun x hx => by simp at hx, fun _ => c1, fun q => by omega⟩
      · rw [em, if_pos (by omega), if_neg (by omega)]
        rfl
      · rw [← p1]; unfold am_min; rw [if_neg (by omega)]
      · rw [if_pos (by omega)]; rfl
      · rw [if_neg (by omega)]; rfl
  · have c2 : j < v.length := by omega
    have p1 := lgA_ge c1
    obtain ⟨q1, q2, q3⟩ := lgA_lt hv c2
    have d2 := drp_cons c2
    have em : mg how rule (N + 1) (ws.drop i) (v.drop j) = ao (jnum none (some (v.getD j ([], 0)).2) how rule) (v.getD j ([], 0)).1 (mg how rule N (ws.drop i) (v.drop (j + 1))) := by
      rw [d2, drp_nil c1]
      rfl
    refine ⟨(v.getD j ([], 0)).1, none, some (v.getD j ([], 0)).2, ?_, ?_, ?_, ?_, fun x hx => by simp at hx, fun x hx => by injection hx with hx; rw [← hx]; exact q2.2.2.2, fun q => by omega, fun _ => c2⟩
    · rw [em, if_neg (by omega), if_pos (by omega)]
      rfl
    · rw [← q1]; unfold am_min; rw [if_pos (by omega)]
    · rw [if_neg (by omega)]; rfl
    · rw [if_pos (by omega)]; rfl
section NW
variable {n : am_H} {h h' : am_H} {A : Nat} {t : List Int} {ws bs : List wd} {hs : List (List wd × List wd)} {sh : Nat → Option (List wd)} {kp mo bo : Int}
theorem nw_joinInto {v : List wd} {k : Nat} {how rule : Int} (L : loR h A t ws bs hs kp mo bo) (hok : ok ws) (hov : ok v) (hk : k < 3) (V : bkR h (A + 135 + 3 * k) v) (hh : 0 ≤ how ∧ how ≤ 2) (hr : 0 ≤ rule ∧ rule ≤ 4) (d : Nat) :
    ∃ r h', am_cI (d + 19) N_nw_joinInto [.inr (.inr (some (A))), .inr (.inr (some (A + 9))), .inr (.inr (some (A + 135 + 3 * k))), .inl (how), .inl (rule)] h = some (r, h') ∧ am_fr (A + 9) (A + 12) h h' ∧ loR h' A t ws bs hs kp mo bo ∧ ((r = 1 ∧ bkR h' (A + 9) (jn ws v how rule)) ∨ (r = 0 ∧ 100 < (jn ws v how rule).length)) := by
  obtain ⟨h1, e1, F1, k1⟩ := bk_clear (lo_D L) (d + 18)
  have L1 := lo_dr L F1 k1.w
  have hlw := hok.2.2
  have hlv := hov.2.2
  have key : ∀ (N i j : Nat) (J : List wd) (g : am_H) (j7 j8 j9 j10 j11 : am_V), (ws.length - i) + (v.length - j) ≤ N → i ≤ ws.length → j ≤ v.length → am_fr (A + 9) (A + 12) h g → loR g A t ws bs hs kp mo bo → bkR g (A + 9) J →
      ∃ r h', EV (d + 19) N_nw_joinInto T_nw_joinInto_10 [.inr (.inr (some (A))), .inr (.inr (some (A + 9))), .inr (.inr (some (A + 135 + 3 * k))), .inl (how), .inl (rule), .inl ((i : Int)), .inl ((j : Int)), j7, j8, j9, j10, j11] [] g = some (some (.inl (r)), h') ∧ am_fr (A + 9) (A + 12) h h' ∧ loR h' A t ws bs hs kp mo bo ∧ ((r = 1 ∧ bkR h' (A + 9) (J ++ mg how rule N (ws.drop i) (v.drop j))) ∨ (r = 0 ∧ 100 < (J ++ mg how rule N (ws.drop i) (v.drop j)).length)) := by
    intro N
    induction N with
    | zero =>
      intro i j J g j7 j8 j9 j10 j11 hN hi hj F Lg Kg
      have Vg := V.fr F (by omega)
      refine ⟨1, g, ?_, F, Lg, Or.inl ⟨rfl, ?_⟩⟩
      · rw [B_nw_joinInto_10, lo_1 Lg, Option.bind_some, (lo_W Lg).sz, Option.bind_some, if_neg (by omega), B_nw_joinInto_22, Vg.sz, Option.bind_some, if_pos (by omega), B_nw_joinInto_197]
      · show bkR g (A + 9) (J ++ [])
        rw [List.append_nil]
        exact Kg
    | succ N ih =>
      intro i j J g j7 j8 j9 j10 j11 hN hi hj F Lg Kg
      have Vg := V.fr F (by omega)
      by_cases hij : i < ws.length ∨ j < v.length
      · obtain ⟨w, a, b, em, emin, ea, eb, ba, bb, ia, ib⟩ := mg_at (how := how) (rule := rule) hok.1 hov.1 hij N
        -- the two longs are read
        have s31 : EV (d + 19) N_nw_joinInto T_nw_joinInto_10 [.inr (.inr (some (A))), .inr (.inr (some (A + 9))), .inr (.inr (some (A + 135 + 3 * k))), .inl (how), .inl (rule), .inl ((i : Int)), .inl ((j : Int)), j7, j8, j9, j10, j11] [] g = EV (d + 19) N_nw_joinInto T_nw_joinInto_31 [.inr (.inr (some (A))), .inr (.inr (some (A + 9))), .inr (.inr (some (A + 135 + 3 * k))), .inl (how), .inl (rule), .inl ((i : Int)), .inl ((j : Int)), j7, j8, j9, j10, j11] [] g := by
          rw [B_nw_joinInto_10, lo_1 Lg, Option.bind_some, (lo_W Lg).sz, Option.bind_some]
          by_cases c : i < ws.length
          · rw [if_pos (by omega)]
          · rw [if_neg (by omega), B_nw_joinInto_22, Vg.sz, Option.bind_some, if_neg (by omega)]
        have s59 : EV (d + 19) N_nw_joinInto T_nw_joinInto_31 [.inr (.inr (some (A))), .inr (.inr (some (A + 9))), .inr (.inr (some (A + 135 + 3 * k))), .inl (how), .inl (rule), .inl ((i : Int)), .inl ((j : Int)), j7, j8, j9, j10, j11] [] g = EV (d + 19) N_nw_joinInto T_nw_joinInto_59 [.inr (.inr (some (A))), .inr (.inr (some (A + 9))), .inr (.inr (some (A + 135 + 3 * k))), .inl (how), .inl (rule), .inl ((i : Int)), .inl ((j : Int)), j7, j8, j9, j10, j11] [.inr (.inl (lgA ws i))] g := by
          rw [B_nw_joinInto_31, lo_1 Lg, Option.bind_some, (lo_W Lg).sz, Option.bind_some]
          by_cases c : i < ws.length
          · rw [if_neg (by omega), B_nw_joinInto_43, lo_1 Lg, Option.bind_some, (lo_W Lg).gW, Option.bind_some, (lo_W Lg).lW (gt_some c), Option.bind_some, (lgA_lt hok.1 c).1]
          · rw [if_pos (by omega), B_nw_joinInto_56, lgA_ge c]
        have s83 : EV (d + 19) N_nw_joinInto T_nw_joinInto_59 [.inr (.inr (some (A))), .inr (.inr (some (A + 9))), .inr (.inr (some (A + 135 + 3 * k))), .inl (how), .inl (rule), .inl ((i : Int)), .inl ((j : Int)), j7, j8, j9, j10, j11] [.inr (.inl (lgA ws i))] g = EV (d + 19) N_nw_joinInto T_nw_joinInto_83 [.inr (.inr (some (A))), .inr (.inr (some (A + 9))), .inr (.inr (some (A + 135 + 3 * k))), .inl (how), .inl (rule), .inl ((i : Int)), .inl ((j : Int)), .inr (.inl (lgA ws i)), am_nul, j9, j10, j11] [.inr (.inl (lgA v j))] g := by
          rw [B_nw_joinInto_59, Vg.sz, Option.bind_some]
          by_cases c : j < v.length
          · rw [if_neg (by omega), B_nw_joinInto_70, Vg.gW, Option.bind_some, Vg.lW (gt_some c), Option.bind_some, (lgA_lt hov.1 c).1]
          · rw [if_pos (by omega), B_nw_joinInto_80, lgA_ge c]
        -- the two NUMBERS are read
        have s107 : EV (d + 19) N_nw_joinInto T_nw_joinInto_83 [.inr (.inr (some (A))), .inr (.inr (some (A + 9))), .inr (.inr (some (A + 135 + 3 * k))), .inl (how), .inl (rule), .inl ((i : Int)), .inl ((j : Int)), .inr (.inl (lgA ws i)), am_nul, j9, j10, j11] [.inr (.inl (lgA v j))] g = EV (d + 19) N_nw_joinInto T_nw_joinInto_107 [.inr (.inr (some (A))), .inr (.inr (some (A + 9))), .inr (.inr (some (A + 135 + 3 * k))), .inl (how), .inl (rule), .inl ((i : Int)), .inl ((j : Int)), .inr (.inl (lgA ws i)), am_nul, .inr (.inl (lgA v j)), am_nul, j11] [.inl (a.getD (-1))] g := by
          rw [B_nw_joinInto_83, ea]
          by_cases c : lgA ws i ≤ lgA v j
          · have ci := ia c
            rw [if_neg (by rw [lc_gt]; omega), if_pos c, B_nw_joinInto_93, lo_1 Lg, Option.bind_some, (lo_W Lg).gN, Option.bind_some, (lo_W Lg).lN (gt_some ci), Option.bind_some]
          · rw [if_pos (by rw [lc_gt]; omega), if_neg c, B_nw_joinInto_106]
        have s126 : EV (d + 19) N_nw_joinInto T_nw_joinInto_107 [.inr (.inr (some (A))), .inr (.inr (some (A + 9))), .inr (.inr (some (A + 135 + 3 * k))), .inl (how), .inl (rule), .inl ((i : Int)), .inl ((j : Int)), .inr (.inl (lgA ws i)), am_nul, .inr (.inl (lgA v j)), am_nul, j11] [.inl (a.getD (-1))] g = EV (d + 19) N_nw_joinInto T_nw_joinInto_126 [.inr (.inr (some (A))), .inr (.inr (some (A + 9))), .inr (.inr (some (A + 135 + 3 * k))), .inl (how), .inl (rule), .inl ((i : Int)), .inl ((j : Int)), .inr (.inl (lgA ws i)), am_nul, .inr (.inl (lgA v j)), am_nul, j11] [.inl (b.getD (-1)), .inl (a.getD (-1))] g := by
          rw [B_nw_joinInto_107, eb]
          by_cases c : lgA v j ≤ lgA ws i
          · have cj := ib c
            rw [if_neg (by rw [lc_gt]; omega), if_pos c, B_nw_joinInto_115, Vg.gN, Option.bind_some, Vg.lN (gt_some cj), Option.bind_some]
          · rw [if_pos (by rw [lc_gt]; omega), if_neg c, B_nw_joinInto_125]
        -- on from there
        have s158 : ∀ (g : am_H) (x11 : Int), EV (d + 19) N_nw_joinInto T_nw_joinInto_158 [.inr (.inr (some (A))), .inr (.inr (some (A + 9))), .inr (.inr (some (A + 135 + 3 * k))), .inl (how), .inl (rule), .inl ((i : Int)), .inl ((j : Int)), .inr (.inl (lgA ws i)), am_nul, .inr (.inl (lgA v j)), am_nul, .inl (x11)] [] g = EV (d + 19) N_nw_joinInto T_nw_joinInto_10 [.inr (.inr (some (A))), .inr (.inr (some (A + 9))), .inr (.inr (some (A + 135 + 3 * k))), .inl (how), .inl (rule), .inl (((i + if lgA ws i ≤ lgA v j then 1 else 0 : Nat) : Int)), .inl (((j + if lgA v j ≤ lgA ws i then 1 else 0 : Nat) : Int)), .inr (.inl (lgA ws i)), am_nul, .inr (.inl (lgA v j)), am_nul, .inl (x11)] [] g := by
          intro g x11
          have t1 : EV (d + 19) N_nw_joinInto T_nw_joinInto_158 [.inr (.inr (some (A))), .inr (.inr (some (A + 9))), .inr (.inr (some (A + 135 + 3 * k))), .inl (how), .inl (rule), .inl ((i : Int)), .inl ((j : Int)), .inr (.inl (lgA ws i)), am_nul, .inr (.inl (lgA v j)), am_nul, .inl (x11)] [] g = EV (d + 19) N_nw_joinInto T_nw_joinInto_173 [.inr (.inr (some (A))), .inr (.inr (some (A + 9))), .inr (.inr (some (A + 135 + 3 * k))), .inl (how), .inl (rule), .inl ((i : Int)), .inl ((j : Int)), .inr (.inl (lgA ws i)), am_nul, .inr (.inl (lgA v j)), am_nul, .inl (x11)] [.inl (((if lgA ws i ≤ lgA v j then 1 else 0 : Nat) : Int)), .inl ((i : Int))] g := by
            rw [B_nw_joinInto_158]
            by_cases c : lgA ws i ≤ lgA v j
            · rw [if_neg (by rw [lc_gt]; omega), if_pos c, B_nw_joinInto_168]
              rfl
            · rw [if_pos (by rw [lc_gt]; omega), if_neg c, B_nw_joinInto_172]
              rfl
          rw [t1, B_nw_joinInto_173]
          have u1 : (if lgA ws i ≤ lgA v j then 1 else 0 : Nat) ≤ 1 := by split <;> omega
          have u2 : (if lgA v j ≤ lgA ws i then 1 else 0 : Nat) ≤ 1 := by split <;> omega
          have w1 : am_w ((i : Int) + ((if lgA ws i ≤ lgA v j then 1 else 0 : Nat) : Int)) = ((i + if lgA ws i ≤ lgA v j then 1 else 0 : Nat) : Int) := by rw [am_w_id (by omega) (by omega)]; rfl
          have w2 : am_w ((j : Int) + ((if lgA v j ≤ lgA ws i then 1 else 0 : Nat) : Int)) = ((j + if lgA v j ≤ lgA ws i then 1 else 0 : Nat) : Int) := by rw [am_w_id (by omega) (by omega)]; rfl
          rw [w1]
          generalize ((i + if lgA ws i ≤ lgA v j then 1 else 0 : Nat) : Int) = i' at *
          have t2 : ∀ q : Prop, ∀ [Decidable q], (q ↔ ¬ lgA v j ≤ lgA ws i) → (if q then EV (d + 19) N_nw_joinInto T_nw_joinInto_190 [.inr (.inr (some (A))), .inr (.inr (some (A + 9))), .inr (.inr (some (A + 135 + 3 * k))), .inl (how), .inl (rule), .inl (i'), .inl ((j : Int)), .inr (.inl (lgA ws i)), am_nul, .inr (.inl (lgA v j)), am_nul, .inl (x11)] [.inl ((j : Int))] g else EV (d + 19) N_nw_joinInto T_nw_joinInto_186 [.inr (.inr (some (A))), .inr (.inr (some (A + 9))), .inr (.inr (some (A + 135 + 3 * k))), .inl (how), .inl (rule), .inl (i'), .inl ((j : Int)), .inr (.inl (lgA ws i)), am_nul, .inr (.inl (lgA v j)), am_nul, .inl (x11)] [.inl ((j : Int))] g) = EV (d + 19) N_nw_joinInto T_nw_joinInto_191 [.inr (.inr (some (A))), .inr (.inr (some (A + 9))), .inr (.inr (some (A + 135 + 3 * k))), .inl (how), .inl (rule), .inl (i'), .inl ((j : Int)), .inr (.inl (lgA ws i)), am_nul, .inr (.inl (lgA v j)), am_nul, .inl (x11)] [.inl (((if lgA v j ≤ lgA ws i then 1 else 0 : Nat) : Int)), .inl ((j : Int))] g := by
            intro q _ hq
            by_cases c : lgA v j ≤ lgA ws i
            · rw [if_neg (fun z => hq.mp z c), if_pos c, B_nw_joinInto_186]
              rfl
            · rw [if_pos (hq.mpr c), if_neg c, B_nw_joinInto_190]
              rfl
          rw [t2 _ (by rw [lc_gt]; omega), B_nw_joinInto_191, w2]
        have u1 : (if lgA ws i ≤ lgA v j then 1 else 0 : Nat) ≤ 1 := by split <;> omega
        have i1 : i + (if lgA ws i ≤ lgA v j then 1 else 0 : Nat) ≤ ws.length := by split <;> rename_i c <;> first | (have := ia c; omega) | omega
        have j1 : j + (if lgA v j ≤ lgA ws i then 1 else 0 : Nat) ≤ v.length := by split <;> rename_i c <;> first | (have := ib c; omega) | omega
        have ij1 : (ws.length - (i + (if lgA ws i ≤ lgA v j then 1 else 0 : Nat))) + (v.length - (j + (if lgA v j ≤ lgA ws i then 1 else 0 : Nat))) ≤ N := by
          by_cases c : lgA ws i ≤ lgA v j
          · have := ia c
            rw [if_pos c]
            omega
          · have := ib (by omega)
            rw [if_neg c, if_pos (by omega)]
            omega
        have cj := c_joined (how := how) (rule := rule) ba bb hh hr (d + 17) g
        have bdj := fun m (e : jnum a b how rule = some m) => jnum_bd ba bb e
        rw [em, s31, s59, s83, s107, s126, B_nw_joinInto_126, cj, Option.bind_some]
        dsimp only
        generalize (i + if lgA ws i ≤ lgA v j then 1 else 0) = i' at *
        generalize (j + if lgA v j ≤ lgA ws i then 1 else 0) = j' at *
        cases ej : jnum a b how rule with
        | none =>
          rw [Option.getD_none, if_pos rfl, s158]
          exact ih i' j' J g _ _ _ _ _ ij1 i1 j1 F Lg Kg
        | some m =>
          have bm := bdj m ej
          rw [Option.getD_some, if_neg (by omega), B_nw_joinInto_140, if_pos Kg.O, emin]
          by_cases cJ : J.length < 100
          · obtain ⟨g2, e2, k2, F2⟩ := bkR.add Kg w m cJ (d + 18)
            rw [e2, Option.bind_some]
            dsimp only
            rw [if_pos (by decide), s158]
            have := ih i' j' (J ++ [(w, m)]) g2 (.inr (.inl (lgA ws i))) am_nul (.inr (.inl (lgA v j))) am_nul (.inl (m)) ij1 i1 j1 (F.tr F2) (lo_dr Lg F2 k2.w) k2
            rw [List.append_assoc] at this
            exact this
          · rw [bkR.full Kg _ _ (by omega), Option.bind_some]
            dsimp only
            rw [if_neg (by decide), B_nw_joinInto_156]
            refine ⟨0, g, rfl, F, Lg, Or.inr ⟨rfl, ?_⟩⟩
            show 100 < (J ++ (w, m) :: mg how rule N (ws.drop i') (v.drop j')).length
            rw [List.length_append, List.length_cons]
            omega
      · refine ⟨1, g, ?_, F, Lg, Or.inl ⟨rfl, ?_⟩⟩
        · rw [B_nw_joinInto_10, lo_1 Lg, Option.bind_some, (lo_W Lg).sz, Option.bind_some, if_neg (by omega), B_nw_joinInto_22, Vg.sz, Option.bind_some, if_pos (by omega), B_nw_joinInto_197]
        · rw [drp_nil (show ¬ i < ws.length by omega), drp_nil (show ¬ j < v.length by omega)]
          show bkR g (A + 9) (J ++ [])
          rw [List.append_nil]
          exact Kg
  obtain ⟨r, h2, e2, F2, L2, r2⟩ := key (ws.length + v.length) 0 0 [] h1 am_nul am_nul am_nul am_nul am_nul (by omega) (Nat.zero_le _) (Nat.zero_le _) F1 L1 k1
  rw [List.drop_zero, List.drop_zero, List.nil_append, mg_jn hok.2.1 hov.2.1 (Nat.le_refl _)] at r2
  refine ⟨r, h2, am_cI_of (Eq.trans ?_ e2), F2, L2, r2⟩
  rw [en_nw_joinInto, B_nw_joinInto_0, if_pos (lo_D L).O, e1, Option.bind_some]
  rfl
theorem no_join (H : CR n h A (t, ws, bs, hs, sh)) (O : okS t ws bs hs sh) (k how rule : Int) (d : Nat) : ∃ h', am_cI (d + 20) N_nw_join [.inr (.inr (some (A))), .inl (k), .inl (how), .inl (rule)] h = some ((sp_join k how rule (t, ws, bs, hs, sh)).1, h') ∧ CR n h' A (sp_join k how rule (t, ws, bs, hs, sh)).2 := by
  obtain ⟨hn, kp, mo, bo, L, C⟩ := H
  dsimp only at L C
  have R0 : CR n h A (t, ws, bs, hs, sh) := ⟨hn, kp, mo, bo, L, C⟩
  have e0 := nw_isKept L C k (d + 18)
  unfold sp_join
  dsimp only [act]
  by_cases ch : 0 ≤ how ∧ how ≤ 2
  · by_cases cr : 0 ≤ rule ∧ rule ≤ 4
    · have st : am_call (d + 20) N_nw_join [.inr (.inr (some (A))), .inl (k), .inl (how), .inl (rule)] h = EV (d + 20) N_nw_join T_nw_join_18 [.inr (.inr (some (A))), .inl (k), .inl (how), .inl (rule)] [] h := by
        rw [en_nw_join, B_nw_join_0, if_neg (by omega), B_nw_join_4, if_neg (by omega), B_nw_join_9, if_neg (by omega), B_nw_join_13, if_neg (by omega)]
      rw [B_nw_join_18, if_pos (lo_O L), e0, Option.bind_some] at st
      dsimp only at st
      by_cases ck : 0 ≤ k ∧ k ≤ 2
      · rw [if_pos ck] at st
        obtain ⟨j, rfl⟩ := Int.eq_ofNat_of_zero_le ck.1
        have hj : j < 3 := by omega
        rw [Int.toNat_natCast] at st ⊢
        cases cs : sh j with
        | none =>
          rw [if_pos cs, if_neg (by decide), B_nw_join_26] at st
          by_cases c3 : how = 2 → rule = 3
          · rw [if_pos ⟨ck, ch, cr, c3⟩]
            exact ⟨h, am_cI_of st, R0⟩
          · rw [if_neg (fun q => c3 q.2.2.2)]
            exact ⟨h, am_cI_of st, R0⟩
        | some v =>
          rw [if_neg (show ¬ sh j = none by rw [cs]; simp), if_pos (by decide), B_nw_join_28] at st
          by_cases c3 : how = 2 → rule = 3
          · rw [if_pos ⟨ck, ch, cr, c3⟩]
            dsimp only
            have hov := O.2.2.2.2 j v cs
            obtain ⟨⟨K, ⟨rfl, hK⟩, hs3⟩, Cr⟩ := id C
            have V := (hs3 j hj).2.2 v cs
            obtain ⟨r, h1, e1, F1, L1, r1⟩ := nw_joinInto L O.2.1 hov hj V ch cr d
            have C1 := C.fr F1 (by omega)
            have n1 := fz_w F1 hn
            have s40 : am_call (d + 20) N_nw_join [.inr (.inr (some (A))), .inl ((j : Int)), .inl (how), .inl (rule)] h = EV (d + 20) N_nw_join T_nw_join_40 [.inr (.inr (some (A))), .inl ((j : Int)), .inl (how), .inl (rule)] [] h := by
              rw [st]
              by_cases c2 : how = 2
              · rw [if_neg (fun q => q c2), B_nw_join_33, if_pos (c3 c2)]
              · rw [if_pos c2]
            rw [B_nw_join_40, lo_3 L, Option.bind_some, lo_4 L, Option.bind_some, lo_sh L hj, Option.bind_some, if_pos (lo_O L), e1, Option.bind_some] at s40
            dsimp only at s40
            rcases r1 with ⟨rfl, b1⟩ | ⟨rfl, b1⟩
            · have hno : ¬ (how = 0 ∧ 100 < tog ws v) := fun q => by
                have h4 := b1.len
                rw [q.1] at h4
                have h5 := jn_tog (rule := rule) O.2.1.2.1 hov.2.1
                omega
              rw [if_neg hno]
              obtain ⟨h4, e4, F4, L4⟩ := nw_becomeDraft L1 b1 (d + 17)
              have C4 : hiC h4 A (jn ws v how rule) bs sh (K : Int) 1 bo := (C1.fr F4 (by omega)).fl (fun e => absurd e (by decide)) (fun e => ⟨e, rfl⟩)
              refine ⟨h4, am_cI_of (s40.trans ?_), fz_w F4 n1, _, 1, bo, L4, C4⟩
              rw [if_pos (by decide), B_nw_join_62, if_pos (lo_O L1), e4, Option.bind_some, lo_1 L4, Option.bind_some, (lo_W L4).sz, Option.bind_some]
            · have hyes : how = 0 ∧ 100 < tog ws v := Decidable.byContradiction (fun q => by
                have h4 := (jn_ok (how := how) (rule := rule) O.2.1 hov (fun e => by
                  have := fun z => q ⟨e, z⟩
                  omega)).2.2
                omega)
              rw [if_pos hyes]
              rw [if_neg (by decide), B_nw_join_59] at s40
              exact ⟨h1, am_cI_of s40, n1, _, mo, bo, L1, C1⟩
          · rw [if_neg (fun q => c3 q.2.2.2)]
            have c2 : how = 2 := Decidable.byContradiction (fun q => c3 (fun e => absurd e q))
            have c4 : ¬ rule = 3 := fun q => c3 (fun _ => q)
            rw [if_neg (fun q => q c2), B_nw_join_33, if_neg c4, B_nw_join_38] at st
            exact ⟨h, am_cI_of st, R0⟩
      · rw [if_neg ck, if_neg (by decide), B_nw_join_26] at st
        rw [if_neg (fun q => ck q.1)]
        exact ⟨h, am_cI_of st, R0⟩
    · rw [if_neg (fun q => cr q.2.2.1)]
      refine ⟨h, am_cI_of ?_, R0⟩
      rw [en_nw_join, B_nw_join_0, if_neg (by omega), B_nw_join_4, if_neg (by omega), B_nw_join_9]
      by_cases c1 : rule < 0
      · rw [if_pos c1, B_nw_join_26]
      · rw [if_neg c1, B_nw_join_13, if_pos (by omega), B_nw_join_26]
  · rw [if_neg (fun q => ch q.2.1)]
    refine ⟨h, am_cI_of ?_, R0⟩
    rw [en_nw_join, B_nw_join_0]
    by_cases c1 : how < 0
    · rw [if_pos c1, B_nw_join_26]
    · rw [if_neg c1, B_nw_join_4, if_pos (by omega), B_nw_join_26]
end NW
