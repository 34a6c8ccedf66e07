/-! the class: best, pieces, range -/
theorem ec_tk : ∀ (m k : Nat) (w : List Int), m ≤ k → ec k w = ec k (w.take m) + ec (k - m) (w.drop m)
  | 0, k, w, _ => by rw [List.take_zero, ec_nil, List.drop_zero, Nat.sub_zero, Int.zero_add]
  | m + 1, 0, w, h => by omega
  | m + 1, k + 1, [], h => by rw [List.take_nil, List.drop_nil, ec_nil, ec_nil]; rfl
  | m + 1, k + 1, x :: w, h => by
    rw [List.take_succ_cons, List.drop_succ_cons, show k + 1 - (m + 1) = k - m by omega]
    show x * 32 ^ k + ec k w = x * 32 ^ k + ec k (w.take m) + ec (k - m) (w.drop m)
    rw [ec_tk m k w (by omega), Int.add_assoc]
theorem ec_dv : ∀ (m k : Nat) (w : List Int), m ≤ k → w.length ≤ m → ∃ c : Int, ec k w = 32 ^ (k - m) * c
  | m, k, [], _, _ => ⟨0, by rw [ec_nil, Int.mul_zero]⟩
  | 0, k, x :: w, _, l => by simp at l
  | m + 1, 0, x :: w, h, _ => by omega
  | m + 1, k + 1, x :: w, h, l => by
    obtain ⟨c, hc⟩ := ec_dv m k w (by omega) (by simp only [List.length_cons] at l; omega)
    refine ⟨x * 32 ^ m + c, ?_⟩
    show x * 32 ^ k + ec k w = _
    rw [hc, show k + 1 - (m + 1) = k - m by omega, Int.mul_add]
    congr 1
    have e : (32 : Int) ^ k = 32 ^ (k - m) * 32 ^ m := by rw [← Int.pow_add]; congr 1; omega
    rw [e, ← Int.mul_assoc, Int.mul_comm x, Int.mul_assoc, Int.mul_comm x]
theorem ec_hd {w : List Int} (hw : wl w) {m k : Nat} (h : m ≤ k) : ec k w / 32 ^ (k - m) * 32 ^ (k - m) = ec k (w.take m) := by
  obtain ⟨c, hc⟩ := ec_dv m k (w.take m) h (by rw [List.length_take]; omega)
  have h1 := ec_tk m k w h
  have h2 := ec_bd (k - m) (w.drop m) (fun x hx => hw x (List.mem_of_mem_drop hx))
  have h3 := p32 (k - m)
  rw [hc] at h1 ⊢
  generalize (32 : Int) ^ (k - m) = D at *
  rw [h1, Int.add_comm, Int.add_mul_ediv_left _ _ (by omega), Int.ediv_eq_zero_of_lt h2.1 h2.2, Int.zero_add, Int.mul_comm]
theorem c_headOf {w : List Int} (hw : wl w) {m : Nat} (hm : m ≤ 10) (d : Nat) (h : am_H) : am_cL d N_nw_headOf [.inr (.inl (ec 10 w)), .inl ((m : Int))] h = some (ec 10 (w.take m), h) := by
  apply am_cL_of
  have e1 : am_max 0 (am_min (m : Int) 10) = (m : Int) := by
    unfold am_max am_min
    split <;> split <;> omega
  have e2 : am_w (5 * am_w (10 - (m : Int))) = ((5 * (10 - m) : Nat) : Int) := by
    rw [am_w_id (x := 10 - (m : Int)) (by omega) (by omega), am_w_id (by omega) (by omega)]
    omega
  have hb := ec10 hw
  have hp : (2 : Int) ^ (5 * (10 - m)) = 32 ^ (10 - m) := p5 _
  have h3 := p32 (10 - m)
  have hq : ec 10 w / 32 ^ (10 - m) * 32 ^ (10 - m) = ec 10 (w.take m) := ec_hd hw hm
  have hb2 := ec10 (w := w.take m) (fun x hx => hw x (List.mem_of_mem_take hx))
  rw [en_nw_headOf, B_nw_headOf_0, e1, e2, bt_lshr hb.1 (by omega) (by omega) (by omega), Int.toNat_natCast, hp, bt_lshl (Int.ediv_nonneg hb.1 (by omega)) (by omega) (by omega) (by rw [Int.toNat_natCast, hp, hq]; omega), Int.toNat_natCast, hp, hq]
section NW
variable {n : am_H} {h h' : am_H} {A : Nat} {t : List Int} {ws bs : List wd} {hs : List (List wd × List wd)} {sh : Nat → Option (List wd)} {kp mo bo : Int}
theorem no_best (H : CR n h A (t, ws, bs, hs, sh)) (O : okS t ws bs hs sh) (k : Int) (d : Nat) : ∃ h', am_cI (d + 20) N_nw_best [.inr (.inr (some (A))), .inl (k)] h = some ((sp_best k (t, ws, bs, hs, sh)).1, h') ∧ CR n h' A (sp_best k (t, ws, bs, hs, sh)).2 := by
  obtain ⟨hn, kp, mo, bo, L, C⟩ := H
  dsimp only at L C
  obtain ⟨h1, e1, F1, L1⟩ := nw_takeLetters L (d + 16)
  replace e1 : am_cL (d + 19) N_nw_takeLetters [.inr (.inr (some (A)))] h = some (tkw t, h1) := e1
  have R1 : CR n h1 A ([], ws, bs, hs, sh) := ⟨fz_w F1 hn, kp, mo, bo, L1, C.fr F1 (by omega)⟩
  have hl := O.2.1.2.2
  have hss := O.2.1.2.1
  unfold sp_best
  dsimp only [noT]
  by_cases c : t.length ≤ 10 ∧ allL t
  · have st : am_call (d + 20) N_nw_best [.inr (.inr (some (A))), .inl (k)] h = EV (d + 20) N_nw_best T_nw_best_21 [.inr (.inr (some (A))), .inl (k), .inl ((t.length : Int)), .inr (.inl (ec 10 (lw t))), am_nul, am_nul, am_nul, am_nul] [] h1 := by
      rw [en_nw_best, B_nw_best_0, lo_0 L, Option.bind_some, lo_tn L, Option.bind_some, if_pos (lo_O L), e1, Option.bind_some]
      dsimp only
      rw [if_neg (fun q => tkw_no.mp q c), show tkw t = ec 10 (lw t) from if_pos c]
    rw [B_nw_best_21] at st
    by_cases ck : 0 ≤ k
    · rw [if_pos ⟨c, ck⟩]
      have hwl := lw_wl c.2
      have hu : (lw t).length ≤ 10 := by rw [lw_len]; exact c.1
      have hul : (lw t).length = t.length := lw_len
      have hle := sb_le hss (lw t)
      have e2 := fun d => bk_ahead O.2.1.b (lo_W L1) hwl hu d
      rw [if_pos ck, B_nw_best_27, lo_1 L1, Option.bind_some, if_pos (lo_W L1).O, e2, Option.bind_some] at st
      dsimp only at st
      have hhd : ∀ i, i < ws.length → ∀ d, ∃ y, am_cL d N_nw_headOf [.inr (.inl (ec 10 (ws.getD i ([], 0)).1)), .inl ((t.length : Int))] h1 = some (y, h1) ∧ (y = ec 10 (lw t) ↔ ah ws (lw t) ≤ i ∧ i < ah ws (lw t) + (sb ws (lw t)).length) := by
        intro i hi d
        have hg := gt_some hi
        have hp := O.2.1.1 _ (List.mem_of_getElem? hg)
        have hw2 : wl ((ws.getD i ([], 0)).1.take t.length) := fun x hx => hp.1 x (List.mem_of_mem_take hx)
        refine ⟨_, c_headOf hp.1 c.1 d h1, ?_⟩
        rw [← sb_iff hss (lw t) hg, List.prefix_iff_eq_take, hul]
        exact ⟨fun e => (ec_inj hw2 hwl (by rw [List.length_take]; omega) hu e).symm, fun e => by rw [← e]⟩
      generalize haa : ah ws (lw t) = a at *
      generalize hm : (sb ws (lw t)).length = m at *
      have lp : ∀ (r i : Nat), i + r = a + m → a ≤ i → EV (d + 20) N_nw_best T_nw_best_41 [.inr (.inr (some (A))), .inl (k), .inl ((t.length : Int)), .inr (.inl (ec 10 (lw t))), am_nul, .inl ((a : Int)), .inl ((i : Int)), am_nul] [] h1 = EV (d + 20) N_nw_best T_nw_best_78 [.inr (.inr (some (A))), .inl (k), .inl ((t.length : Int)), .inr (.inl (ec 10 (lw t))), am_nul, .inl ((a : Int)), .inl (((a + m : Nat) : Int)), am_nul] [] h1 := by
        intro r
        induction r with
        | zero =>
          intro i hi ha
          rw [show i = a + m by omega, B_nw_best_41, lo_1 L1, Option.bind_some, (lo_W L1).sz, Option.bind_some]
          by_cases ce : a + m = ws.length
          · rw [if_pos (by omega)]
          · have hlt : a + m < ws.length := by omega
            obtain ⟨y, ey, hy⟩ := hhd _ hlt (d + 19)
            rw [if_neg (by omega), B_nw_best_53, lo_1 L1, Option.bind_some, (lo_W L1).gW, Option.bind_some, (lo_W L1).lW (gt_some hlt), Option.bind_some, ey, Option.bind_some]
            dsimp only
            rw [if_pos (fun q => by have := (hy.mp (lc_eq.mp q)).2; omega)]
        | succ r ih =>
          intro i hi ha
          have hlt : i < ws.length := by omega
          obtain ⟨y, ey, hy⟩ := hhd _ hlt (d + 19)
          rw [B_nw_best_41, lo_1 L1, Option.bind_some, (lo_W L1).sz, Option.bind_some, if_neg (by omega), B_nw_best_53, lo_1 L1, Option.bind_some, (lo_W L1).gW, Option.bind_some, (lo_W L1).lW (gt_some hlt), Option.bind_some, ey, Option.bind_some]
          dsimp only
          rw [if_neg (fun q => q (lc_eq.mpr (hy.mpr ⟨ha, by omega⟩))), B_nw_best_72, am_w_id (by omega) (by omega)]
          exact ih (i + 1) (by omega) (by omega)
      have st2 := st.trans (lp m a rfl (Nat.le_refl _))
      rw [B_nw_best_78] at st2
      have bt : ∀ i, a ≤ i → i < a + m → am_cI (d + 19) N_bk_betterThan [.inr (.inr (some (A + 3))), .inl ((i : Int)), .inl ((a : Int)), .inl (((a + m : Nat) : Int))] h1 = some (fi (fun s j => if btr (num ws) i j = true then s + 1 else s) a m 0, h1) := fun i hi1 hi2 => by
        have := bk_betterThan (lo_W L1) (p := i) (x := a) (y := a + m) (by omega) (by omega) (by omega) (d + 19)
        rwa [show a + m - a = m by omega] at this
      have key : ∀ (r i : Nat), i + r = a + m → a ≤ i → EV (d + 20) N_nw_best T_nw_best_82 [.inr (.inr (some (A))), .inl (k), .inl ((t.length : Int)), .inr (.inl (ec 10 (lw t))), am_nul, .inl ((a : Int)), .inl (((a + m : Nat) : Int)), .inl ((i : Int))] [] h1 = some (some (.inl (se (fun i => decide (fi (fun s j => if btr (num ws) i j = true then s + 1 else s) a m 0 = k)) i r)), h1) := by
        intro r
        induction r with
        | zero =>
          intro i hi ha
          rw [B_nw_best_82, if_pos (by omega), B_nw_best_115]
          rfl
        | succ r ih =>
          intro i hi ha
          rw [B_nw_best_82, if_neg (by omega), B_nw_best_89, lo_1 L1, Option.bind_some, if_pos (lo_W L1).O, bt i ha (by omega), Option.bind_some]
          dsimp only
          rw [se]
          by_cases ce : fi (fun s j => if btr (num ws) i j = true then s + 1 else s) a m 0 = k
          · rw [if_neg (fun q => q ce), if_pos (decide_eq_true ce), B_nw_best_106]
          · rw [if_pos ce, if_neg (fun q => ce (of_decide_eq_true q)), B_nw_best_109, am_w_id (by omega) (by omega)]
            exact ih (i + 1) (by omega) (by omega)
      have st3 := st2.trans (key m a rfl (Nat.le_refl _))
      have hb : ∀ i, bst ws (lw t) i = fi (fun s j => if btr (num ws) i j = true then s + 1 else s) a m 0 := fun i => by
        unfold bst
        rw [hm, haa]
      simp only [hb]
      exact ⟨h1, am_cI_of st3, R1⟩
    · rw [if_neg (fun q => ck q.2)]
      rw [if_neg ck, B_nw_best_25] at st
      exact ⟨h1, am_cI_of st, R1⟩
  · rw [if_neg (fun q => c q.1)]
    refine ⟨h1, am_cI_of ?_, R1⟩
    rw [en_nw_best, B_nw_best_0, lo_0 L, Option.bind_some, lo_tn L, Option.bind_some, if_pos (lo_O L), e1, Option.bind_some]
    dsimp only
    rw [if_pos (tkw_no.mpr c), B_nw_best_25]
theorem no_pieces (H : CR n h A (t, ws, bs, hs, sh)) (O : okS t ws bs hs sh) (w : Int) (d : Nat) : ∃ h', am_cI (d + 20) N_nw_pieces [.inr (.inr (some (A))), .inl (w)] h = some ((sp_pieces w (t, ws, bs, hs, sh)).1, h') ∧ CR n h' A (sp_pieces w (t, ws, bs, hs, sh)).2 := by
  obtain ⟨hn, kp, mo, bo, L, C⟩ := H
  dsimp only at L C
  have e30 : ∀ {h : am_H}, am_fr A (A + 144) n h → loR h A t ws bs hs kp mo bo → hiC h A ws bs sh kp mo bo → ∃ h1, (∀ r : Int, EV (d + 20) N_nw_pieces T_nw_pieces_30 [.inr (.inr (some (A))), .inl (w), .inl (r)] [] h = some (some (.inl (r)), h1)) ∧ CR n h1 A ([], ws, bs, hs, sh) := by
    intro h hn L C
    obtain ⟨h1, e1, F1, L1⟩ := lo_tclr L
    refine ⟨h1, fun r => ?_, fz_w F1 hn, kp, mo, bo, L1, C.fr F1 (by omega)⟩
    rw [B_nw_pieces_30, lo_0 L, Option.bind_some, e1, Option.bind_some]
  obtain ⟨h3, e3, r3⟩ := e30 hn L C
  unfold sp_pieces
  dsimp only [noT]
  by_cases c1 : 1 ≤ t.length
  · have st : am_call (d + 20) N_nw_pieces [.inr (.inr (some (A))), .inl (w)] h = (if (if (t.length : Int) ≤ 60 ∧ ∀ x ∈ t, isL x = true then (1 : Int) else 0) = 0 then EV (d + 20) N_nw_pieces T_nw_pieces_30 [.inr (.inr (some (A))), .inl (w), .inl (-1)] [] h else EV (d + 20) N_nw_pieces T_nw_pieces_24 [.inr (.inr (some (A))), .inl (w), .inl (-1)] [] h) := by
      rw [en_nw_pieces, B_nw_pieces_0, lo_0 L, Option.bind_some, lo_tn L, Option.bind_some, if_neg (by omega), B_nw_pieces_12, lo_0 L, Option.bind_some, if_pos (lo_tO L), c_isLetters (lo_T L) (d + 17) 60, Option.bind_some]
    by_cases c : t.length ≤ 60 ∧ allL t
    · rw [if_pos (⟨by omega, c.2⟩ : (t.length : Int) ≤ 60 ∧ ∀ x ∈ t, isL x = true), if_neg (by decide), B_nw_pieces_24, if_pos (lo_O L)] at st
      obtain ⟨Cs, Cr⟩ := id C
      obtain ⟨S, hS⟩ := Cr.2.2.2.2.2.1
      have P : cuP h (A + 130) (A + 1) (A + 3) t ws := ⟨⟨lo_T L, lo_W L⟩, ⟨O.2.1, c.2, c.1⟩, by omega, by omega⟩
      have hO : am_isO (cuH (A + 1) (A + 3) (A + 130) h S) (A + 130) 1 = true := cu_O
      have hO' := hO
      rw [hS] at hO
      -- what the cutting answers, and what it leaves
      have fin : ∀ (S' : Nat → Nat → Int) (r : Int), am_cI (d + 19) N_nw_piecesOnTape [.inr (.inr (some (A))), .inl (w)] h = some (r, cuH (A + 1) (A + 3) (A + 130) h S') → ∃ h', am_cI (d + 20) N_nw_pieces [.inr (.inr (some (A))), .inl (w)] h = some (r, h') ∧ CR n h' A ([], ws, bs, hs, sh) := by
        intro S' r e
        have F2 : am_fr (A + 130) (A + 132) h (cuH (A + 1) (A + 3) (A + 130) h S') := cuH_fr
        have K2 : cuH (A + 1) (A + 3) (A + 130) (cuH (A + 1) (A + 3) (A + 130) h S') S' = cuH (A + 1) (A + 3) (A + 130) h S' := cuH_H
        generalize cuH (A + 1) (A + 3) (A + 130) h S' = h2 at *
        obtain ⟨h4, e4, r4⟩ := e30 (fz_w F2 hn) (L.fr F2 (by omega)) ⟨Cs.fr F2 (by omega), hr_cu Cr F2 K2⟩
        refine ⟨h4, am_cI_of (st.trans ?_), r4⟩
        rw [e, Option.bind_some]
        dsimp only
        exact e4 r
      by_cases cw : 0 ≤ w ∧ w ≤ 4
      · rw [if_pos ⟨⟨⟨c1, c.1⟩, c.2⟩, cw⟩]
        dsimp only
        unfold pcA
        rcases (show w = 0 ∨ w = 1 ∨ w = 2 ∨ w = 3 ∨ w = 4 by omega) with rfl | rfl | rfl | rfl | rfl
        · have a := cu_longest (S := S) P (Or.inl rfl) (d + 13)
          rw [if_pos rfl] at a ⊢
          refine fin S _ (am_cI_of ?_)
          rw [hS] at a ⊢
          rw [en_nw_piecesOnTape, B_nw_piecesOnTape_0, C_nw_piecesOnTape_1_0, B_nw_piecesOnTape_36, lo_11 L, Option.bind_some, if_pos hO, a, Option.bind_some]
        · have a := cu_longest (S := S) P (Or.inr rfl) (d + 13)
          rw [if_neg (by decide)] at a ⊢
          rw [if_pos rfl]
          refine fin S _ (am_cI_of ?_)
          rw [hS] at a ⊢
          rw [en_nw_piecesOnTape, B_nw_piecesOnTape_0, C_nw_piecesOnTape_1_1, B_nw_piecesOnTape_45, lo_11 L, Option.bind_some, if_pos hO, a, Option.bind_some]
        · obtain ⟨S', a⟩ := cu_spread (S := S) P (x := 0) (by_ := false) (Or.inl ⟨rfl, rfl⟩) (d + 13)
          rw [if_neg (by decide)] at a
          rw [if_neg (by decide), if_neg (by decide), if_pos rfl]
          refine fin S' _ (am_cI_of ?_)
          rw [hS] at a
          have b : am_cI (d + 18) N_cu_fewest [.inr (.inr (some (A + 130)))] h = some ((PV ws (lw t) 0).1, cuH (A + 1) (A + 3) (A + 130) h S') := am_cI_of (by rw [en_cu_fewest, B_cu_fewest_0, if_pos hO, a, Option.bind_some])
          rw [en_nw_piecesOnTape, B_nw_piecesOnTape_0, C_nw_piecesOnTape_1_2, B_nw_piecesOnTape_54, lo_11 L, Option.bind_some, if_pos hO, b, Option.bind_some]
        · obtain ⟨S', a⟩ := cu_spread (S := S) P (x := 1) (by_ := true) (Or.inr ⟨rfl, rfl⟩) (d + 13)
          rw [if_pos rfl] at a
          rw [if_neg (by decide), if_neg (by decide), if_neg (by decide), if_pos rfl]
          refine fin S' _ (am_cI_of ?_)
          rw [hS] at a
          have b : am_cI (d + 18) N_cu_greatestSum [.inr (.inr (some (A + 130)))] h = some ((PV ws (lw t) 0).2.1, cuH (A + 1) (A + 3) (A + 130) h S') := am_cI_of (by rw [en_cu_greatestSum, B_cu_greatestSum_0, if_pos hO, a, Option.bind_some])
          rw [en_nw_piecesOnTape, B_nw_piecesOnTape_0, C_nw_piecesOnTape_1_3, B_nw_piecesOnTape_62, lo_11 L, Option.bind_some, if_pos hO, b, Option.bind_some]
        · obtain ⟨S', a⟩ := cu_ways (S := S) P (d + 14)
          rw [if_neg (by decide), if_neg (by decide), if_neg (by decide), if_neg (by decide)]
          refine fin S' _ (am_cI_of ?_)
          rw [hS] at a
          rw [en_nw_piecesOnTape, B_nw_piecesOnTape_0, C_nw_piecesOnTape_1_4, B_nw_piecesOnTape_70, lo_11 L, Option.bind_some, if_pos hO, a, Option.bind_some]
      · rw [if_neg (fun q => cw q.2)]
        refine fin S (-1) (am_cI_of ?_)
        rw [hS, en_nw_piecesOnTape, B_nw_piecesOnTape_0, C_nw_piecesOnTape_1_d _ _ _ _ (by omega), B_nw_piecesOnTape_78]
    · rw [if_neg (fun q => c ⟨q.1.1.2, q.1.2⟩)]
      rw [if_neg (fun g : (t.length : Int) ≤ 60 ∧ ∀ x ∈ t, isL x = true => c ⟨by omega, g.2⟩), if_pos rfl, e3] at st
      exact ⟨h3, am_cI_of st, r3⟩
  · rw [if_neg (fun q => c1 q.1.1.1)]
    refine ⟨h3, am_cI_of ?_, r3⟩
    rw [en_nw_pieces, B_nw_pieces_0, lo_0 L, Option.bind_some, lo_tn L, Option.bind_some, if_pos (by omega), e3]
/-- the tape is LOW - HIGH just when its letters end at a dash, and go on to the end -/
theorem rg_iff {t : List Int} : rgOK t (le t 0) ↔ (le t 0 ≤ 10 ∧ tb t (le t 0 : Int) = 45) ∧ (le t (le t 0 + 1) = t.length ∧ t.length - (le t 0 + 1) ≤ 10) := by
  have hle : le t 0 ≤ t.length := rn_le isL t (Nat.zero_le _)
  have h0 : ∀ i, i < le t 0 → isL (t.getD i 0) = true := fun i hi => (rn_in (P := isL) (t := t) (n := 0) (i := i) (Nat.zero_le _) hi).2
  constructor
  · rintro ⟨h1, h2, h3, h4, h5⟩
    refine ⟨⟨h2, by rw [tb_get h1]; exact h3⟩, ?_, by omega⟩
    have hle2 : le t (le t 0 + 1) ≤ t.length := rn_le isL t (by omega)
    by_cases c : le t (le t 0 + 1) = t.length
    · exact c
    · have hge : le t 0 + 1 ≤ le t (le t 0 + 1) := rn_ge isL t _
      have hout := rn_out (P := isL) (t := t) (n := le t 0 + 1) (by decide) (by omega)
      have h6 := h4 (le t (le t 0 + 1)) (by omega) (by omega)
      have h7 : tb t ((rn isL t (le t 0 + 1) : Nat) : Int) = t.getD (le t (le t 0 + 1)) 0 := tb_get (show le t (le t 0 + 1) < t.length by omega)
      rw [h7, h6] at hout
      exact Bool.noConfusion hout
  · rintro ⟨⟨h1, h2⟩, h3, h4⟩
    have h5 : le t 0 < t.length := by
      rcases Nat.lt_or_ge (le t 0) t.length with g | g
      · exact g
      · unfold tb at h2; rw [if_neg (by omega)] at h2; omega
    rw [tb_get h5] at h2
    refine ⟨h5, h1, h2, fun i hi hne => ?_, by omega⟩
    rcases Nat.lt_or_ge i (le t 0) with g | g
    · exact h0 i g
    · exact (rn_in (P := isL) (t := t) (n := le t 0 + 1) (i := i) (by omega) (by show i < le t (le t 0 + 1); omega)).2
theorem no_rangeOn (L : loR h A t ws bs hs kp mo bo) (hok : ok ws) (ht : t.length ≤ 400) (w : Int) (d : Nat) : (((0 ≤ w ∧ w ≤ 4) ∧ rgOK t (le t 0)) ∧ am_cI (d + 19) N_nw_rangeOnTape [.inr (.inr (some (A))), .inl (w)] h = some (rgB ws (ah ws (spl t 0 (le t 0))) (rgTo ws (spl t (le t 0 + 1) (t.length - (le t 0 + 1)))) w, h)) ∨ (¬ ((0 ≤ w ∧ w ≤ 4) ∧ rgOK t (le t 0)) ∧ am_cI (d + 19) N_nw_rangeOnTape [.inr (.inr (some (A))), .inl (w)] h = some (-1, h)) := by
  have hws := hok.2.2
  have hle : le t 0 ≤ t.length := rn_le isL t (Nat.zero_le _)
  have e0 := c_lettersEnd (lo_T L) (d + 17) (n := 0) (by omega)
  replace e0 : am_cI (d + 18) N_tp_lettersEnd [.inr (.inr (some (A + 1))), .inl (0)] h = some ((le t 0 : Int), h) := e0
  have e1 := fun d => c_byteAt (lo_T L) d (le t 0 : Int)
  have st0 : am_call (d + 19) N_nw_rangeOnTape [.inr (.inr (some (A))), .inl (w)] h = if 10 < (le t 0 : Int) then EV (d + 19) N_nw_rangeOnTape T_nw_rangeOnTape_37 [.inr (.inr (some (A))), .inl (w), .inl ((le t 0 : Int)), am_nul, am_nul, am_nul, am_nul] [] h else EV (d + 19) N_nw_rangeOnTape T_nw_rangeOnTape_15 [.inr (.inr (some (A))), .inl (w), .inl ((le t 0 : Int)), am_nul, am_nul, am_nul, am_nul] [] h := by
    rw [en_nw_rangeOnTape, B_nw_rangeOnTape_0, lo_0 L, Option.bind_some, if_pos (lo_tO L), e0, Option.bind_some]
  have no : ¬ ((0 ≤ w ∧ w ≤ 4) ∧ rgOK t (le t 0)) → am_call (d + 19) N_nw_rangeOnTape [.inr (.inr (some (A))), .inl (w)] h = some (some (.inl (-1)), h) → (((0 ≤ w ∧ w ≤ 4) ∧ rgOK t (le t 0)) ∧ am_cI (d + 19) N_nw_rangeOnTape [.inr (.inr (some (A))), .inl (w)] h = some (rgB ws (ah ws (spl t 0 (le t 0))) (rgTo ws (spl t (le t 0 + 1) (t.length - (le t 0 + 1)))) w, h)) ∨ (¬ ((0 ≤ w ∧ w ≤ 4) ∧ rgOK t (le t 0)) ∧ am_cI (d + 19) N_nw_rangeOnTape [.inr (.inr (some (A))), .inl (w)] h = some (-1, h)) := fun q e => Or.inr ⟨q, am_cI_of e⟩
  by_cases c1 : le t 0 ≤ 10
  · rw [if_neg (by omega), B_nw_rangeOnTape_15, lo_0 L, Option.bind_some, if_pos (lo_tO L), e1, Option.bind_some] at st0
    dsimp only at st0
    by_cases c2 : tb t (le t 0 : Int) = 45
    · rw [if_neg (fun q => q c2), B_nw_rangeOnTape_28] at st0
      by_cases c3 : 0 ≤ w ∧ w ≤ 4
      · have c5 : le t 0 < t.length := by
          rcases Nat.lt_or_ge (le t 0) t.length with g | g
          · exact g
          · unfold tb at c2; rw [if_neg (by omega)] at c2; omega
        have e2 := c_lettersEnd (lo_T L) (d + 17) (n := le t 0 + 1) (by omega)
        have e9 : am_w ((le t 0 : Int) + 1) = ((le t 0 + 1 : Nat) : Int) := by rw [am_w_id (by omega) (by omega)]; rfl
        rw [if_neg (by omega), B_nw_rangeOnTape_32, if_pos c3.2, B_nw_rangeOnTape_39, lo_0 L, Option.bind_some, if_pos (lo_tO L), e9, e2, Option.bind_some] at st0
        dsimp only at st0
        rw [lo_0 L, Option.bind_some, lo_tn L, Option.bind_some] at st0
        by_cases c4 : le t (le t 0 + 1) = t.length
        · rw [if_neg (by omega), B_nw_rangeOnTape_59, lo_0 L, Option.bind_some, lo_tn L, Option.bind_some, am_w_id (x := (t.length : Int) - (le t 0 : Int)) (by omega) (by omega), am_w_id (by omega) (by omega)] at st0
          by_cases c6 : t.length - (le t 0 + 1) ≤ 10
          · have hrg := rg_iff.mpr ⟨⟨c1, c2⟩, c4, c6⟩
            refine Or.inl ⟨⟨c3, hrg⟩, am_cI_of ?_⟩
            rw [if_pos (by omega), B_nw_rangeOnTape_77, lo_1 L, Option.bind_some, lo_0 L, Option.bind_some, if_pos (lo_tO L)] at st0
            have hL := hrg.2.2.2.1
            have s1 := c_spelled (lo_T L) (d + 16) (n := 0) (m := le t 0) (Nat.zero_le _) hle (fun i _ hi => hL i (by omega) (by omega))
            rw [show min (le t 0 - 0) 10 = le t 0 by omega] at s1
            replace s1 : am_cL (d + 18) N_tp_spelled [.inr (.inr (some (A + 1))), .inl (0), .inl ((le t 0 : Int))] h = some (ec 10 (spl t 0 (le t 0)), h) := s1
            have w1 : wl (spl t 0 (le t 0)) := spl_wl (fun i _ hi _ => hL i (by omega) (by omega))
            have l1 : (spl t 0 (le t 0)).length ≤ 10 := by rw [spl_len (by omega)]; exact c1
            have a1 := fun d => bk_ahead hok.b (lo_W L) w1 l1 d
            have b1 := ah_le ws (spl t 0 (le t 0))
            rw [s1, Option.bind_some] at st0
            dsimp only at st0
            rw [if_pos (lo_W L).O, a1, Option.bind_some] at st0
            dsimp only at st0
            rw [lo_1 L, Option.bind_some, (lo_W L).sz, Option.bind_some, lo_0 L, Option.bind_some, lo_tn L, Option.bind_some, e9] at st0
            -- from HIGH on
            have b2 : rgTo ws (spl t (le t 0 + 1) (t.length - (le t 0 + 1))) ≤ ws.length := by
              unfold rgTo
              split
              · exact Nat.le_refl _
              · have := ah_le ws (spl t (le t 0 + 1) (t.length - (le t 0 + 1)))
                split
                · omega
                · next q =>
                  obtain ⟨y, hy⟩ := Option.ne_none_iff_exists'.mp q
                  have := (List.getElem?_eq_some_iff.mp (nu_some hy)).1
                  omega
            have to : ∃ j5 j6, am_call (d + 19) N_nw_rangeOnTape [.inr (.inr (some (A))), .inl (w)] h = EV (d + 19) N_nw_rangeOnTape T_nw_rangeOnTape_165 [.inr (.inr (some (A))), .inl (w), .inl ((le t 0 : Int)), .inl ((ah ws (spl t 0 (le t 0)) : Int)), .inl ((rgTo ws (spl t (le t 0 + 1) (t.length - (le t 0 + 1))) : Int)), j5, j6] [] h := by
              by_cases c7 : t.length ≤ le t 0 + 1
              · rw [if_pos (by omega)] at st0
                refine ⟨am_nul, am_nul, ?_⟩
                rw [st0, show t.length - (le t 0 + 1) = 0 by omega]
                have : spl t (le t 0 + 1) 0 = [] := by unfold spl; rw [List.take_zero]; rfl
                rw [this]
                unfold rgTo
                rw [if_pos rfl]
              · rw [if_neg (by omega), B_nw_rangeOnTape_116, lo_0 L, Option.bind_some, Option.bind_some, lo_tn L, Option.bind_some, if_pos (lo_tO L), e9] at st0
                have s2 := c_spelled (lo_T L) (d + 16) (n := le t 0 + 1) (m := t.length) (by omega) (Nat.le_refl _) (fun i hi1 hi2 => hL i hi2 (by omega))
                rw [show min (t.length - (le t 0 + 1)) 10 = t.length - (le t 0 + 1) by omega] at s2
                replace s2 : am_cL (d + 18) N_tp_spelled [.inr (.inr (some (A + 1))), .inl (((le t 0 + 1 : Nat) : Int)), .inl ((t.length : Int))] h = some (ec 10 (spl t (le t 0 + 1) (t.length - (le t 0 + 1))), h) := s2
                have w2 : wl (spl t (le t 0 + 1) (t.length - (le t 0 + 1))) := spl_wl (fun i hi1 hi2 hi3 => hL i hi3 (by omega))
                have l2 : (spl t (le t 0 + 1) (t.length - (le t 0 + 1))).length = t.length - (le t 0 + 1) := spl_len (by omega)
                have hne : spl t (le t 0 + 1) (t.length - (le t 0 + 1)) ≠ [] := fun q => by rw [q, List.length_nil] at l2; omega
                have a2 := fun d => bk_ahead hok.b (lo_W L) w2 (by omega) d
                have a3 := bk_placeOf hok.b (lo_W L) w2 (by omega) (d + 17)
                have b3 := ah_le ws (spl t (le t 0 + 1) (t.length - (le t 0 + 1)))
                rw [s2, Option.bind_some] at st0
                dsimp only at st0
                rw [lo_1 L, Option.bind_some, if_pos (lo_W L).O, a2, Option.bind_some] at st0
                dsimp only at st0
                rw [lo_1 L, Option.bind_some, if_pos (lo_W L).O, a3, Option.bind_some] at st0
                dsimp only at st0
                unfold rgTo
                rw [if_neg hne]
                refine ⟨.inr (.inl (ec 10 (spl t (le t 0 + 1) (t.length - (le t 0 + 1))))), am_nul, st0.trans ?_⟩
                by_cases c8 : nu ws (spl t (le t 0 + 1) (t.length - (le t 0 + 1))) = none
                · rw [if_pos c8, if_neg (by decide), B_nw_rangeOnTape_157, B_nw_rangeOnTape_162, if_pos c8, am_w_id (by omega) (by omega), Nat.add_zero, Int.add_zero]
                  rfl
                · rw [if_neg c8, if_pos (by omega), B_nw_rangeOnTape_161, B_nw_rangeOnTape_162, if_neg c8, am_w_id (by omega) (by omega)]
                  rfl
            obtain ⟨j5, j6, st1⟩ := to
            rw [st1]
            generalize ah ws (spl t 0 (le t 0)) = b at *
            generalize rgTo ws (spl t (le t 0 + 1) (t.length - (le t 0 + 1))) = e at *
            rw [B_nw_rangeOnTape_165]
            unfold rgB
            by_cases w0 : w = 0
            · rw [if_neg (fun q => q w0), if_pos w0, B_nw_rangeOnTape_169, am_w_id (by omega) (by omega)]
              have : am_max 0 ((e : Int) - (b : Int)) = ((e - b : Nat) : Int) := by unfold am_max; split <;> omega
              rw [this]
            · rw [if_pos w0, if_neg w0, B_nw_rangeOnTape_178]
              by_cases w1 : w = 1
              · rw [if_neg (fun q => q w1), if_pos w1, B_nw_rangeOnTape_183, lo_1 L, Option.bind_some, if_pos (lo_W L).O, bk_total hok.1 (lo_W L) (by omega) b2 (d + 18), Option.bind_some]
              · rw [if_pos w1, if_neg w1, B_nw_rangeOnTape_194]
                by_cases cb : e ≤ b
                · rw [if_neg (by omega), if_pos cb, B_nw_rangeOnTape_200]
                · rw [if_pos (by omega), if_neg cb, B_nw_rangeOnTape_203]
                  by_cases w4 : w = 4
                  · rw [if_neg (fun q => q w4), if_pos w4, B_nw_rangeOnTape_208, B_nw_rangeOnTape_240]
                  · rw [if_pos w4, if_neg w4, B_nw_rangeOnTape_212]
                    by_cases w2 : w = 2
                    · rw [if_neg (fun q => q w2), if_pos w2, B_nw_rangeOnTape_217, lo_1 L, Option.bind_some, if_pos (lo_W L).O, bk_least (lo_W L) (by omega) b2 (d + 18), Option.bind_some]
                      dsimp only
                      rw [B_nw_rangeOnTape_240]
                    · rw [if_pos w2, if_neg w2, B_nw_rangeOnTape_230, lo_1 L, Option.bind_some, if_pos (lo_W L).O, bk_greatest (lo_W L) (by omega) b2 (d + 18), Option.bind_some]
                      dsimp only
                      rw [B_nw_rangeOnTape_240]
          · rw [if_neg (by omega), B_nw_rangeOnTape_75] at st0
            exact no (fun q => c6 (rg_iff.mp q.2).2.2) st0
        · rw [if_pos (by omega), B_nw_rangeOnTape_75] at st0
          exact no (fun q => c4 (rg_iff.mp q.2).2.1) st0
      · by_cases c7 : w < 0
        · rw [if_pos c7, B_nw_rangeOnTape_37] at st0
          exact no (fun q => c3 q.1) st0
        · rw [if_neg c7, B_nw_rangeOnTape_32, if_neg (by omega), B_nw_rangeOnTape_37] at st0
          exact no (fun q => c3 q.1) st0
    · rw [if_pos c2, B_nw_rangeOnTape_37] at st0
      exact no (fun q => c2 (rg_iff.mp q.2).1.2) st0
  · rw [if_pos (by omega), B_nw_rangeOnTape_37] at st0
    exact no (fun q => c1 (rg_iff.mp q.2).1.1) st0
theorem no_range (H : CR n h A (t, ws, bs, hs, sh)) (O : okS t ws bs hs sh) (w : Int) (d : Nat) : ∃ h', am_cI (d + 20) N_nw_range [.inr (.inr (some (A))), .inl (w)] h = some ((sp_range w (t, ws, bs, hs, sh)).1, h') ∧ CR n h' A (sp_range w (t, ws, bs, hs, sh)).2 := by
  obtain ⟨hn, kp, mo, bo, L, C⟩ := H
  dsimp only at L C
  obtain ⟨h1, e1, F1, L1⟩ := lo_tclr L
  have R1 : CR n h1 A ([], ws, bs, hs, sh) := ⟨fz_w F1 hn, kp, mo, bo, L1, C.fr F1 (by omega)⟩
  unfold sp_range
  dsimp only [noT]
  rcases no_rangeOn L O.2.1 O.1.1 w d with ⟨c, e⟩ | ⟨c, e⟩
  · rw [if_pos c]
    refine ⟨h1, am_cI_of ?_, R1⟩
    rw [en_nw_range, B_nw_range_0, if_pos (lo_O L), e, Option.bind_some]
    dsimp only
    rw [lo_0 L, Option.bind_some, e1, Option.bind_some]
  · rw [if_neg c]
    refine ⟨h1, am_cI_of ?_, R1⟩
    rw [en_nw_range, B_nw_range_0, if_pos (lo_O L), e, Option.bind_some]
    dsimp only
    rw [lo_0 L, Option.bind_some, e1, Option.bind_some]
end NW
