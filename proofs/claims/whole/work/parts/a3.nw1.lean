/-! the class: calls on the tape, acts with one word, the builder -/
def tkw (t : List Int) : Int := if t.length ≤ 10 ∧ allL t then ec 10 (lw t) else -1
theorem tkw_w {t : List Int} (c : isW t) : tkw t = ec 10 (lw t) := if_pos ⟨c.1.2, c.2⟩
theorem ec_isW {t : List Int} (c : isW t) : 0 < ec 10 (lw t) := ec_pos 10 _ (isW_wl c) (fun e => by
  have h1 := congrArg List.length e
  have h2 := c.1.1
  rw [lw_len, List.length_nil] at h1
  omega) (by decide)
theorem tkw_pos {t : List Int} : 0 < tkw t ↔ isW t := by
  constructor
  · intro h
    unfold tkw at h
    by_cases c : t.length ≤ 10 ∧ allL t
    · rw [if_pos c] at h
      refine ⟨⟨?_, c.1⟩, c.2⟩
      rcases Nat.eq_zero_or_pos t.length with g | g
      · have e : lw t = [] := List.eq_nil_of_length_eq_zero (by rw [lw_len]; exact g)
        rw [e, ec_nil] at h
        omega
      · exact g
    · rw [if_neg c] at h
      omega
  · intro c
    rw [tkw_w c]
    exact ec_isW c
theorem c_isWord (y : Int) (d : Nat) (h : am_H) : am_cI d N_nw_isWord [.inr (.inl (y))] h = some (if 0 < y then 1 else 0, h) := by
  apply am_cI_of
  rw [en_nw_isWord, B_nw_isWord_0]
  by_cases c : 0 < y
  · rw [if_neg (by rw [lc_le]; omega), B_nw_isWord_6, B_nw_isWord_11, if_pos (by decide), if_pos c]
  · rw [if_pos (by rw [lc_le]; omega), B_nw_isWord_10, B_nw_isWord_11, if_pos (by decide), if_neg c]
theorem c_isShelf (x : Int) (d : Nat) (h : am_H) : am_cI d N_nw_isShelf [.inl (x)] h = some (if 0 ≤ x ∧ x ≤ 2 then 1 else 0, h) := by
  apply am_cI_of
  rw [en_nw_isShelf, B_nw_isShelf_0]
  by_cases c1 : x < 0
  · rw [if_pos c1, B_nw_isShelf_13, B_nw_isShelf_14, if_pos (by decide), if_neg (by omega)]
  · rw [if_neg c1, B_nw_isShelf_4]
    by_cases c2 : 3 ≤ x
    · rw [if_pos c2, B_nw_isShelf_13, B_nw_isShelf_14, if_pos (by decide), if_neg (by omega)]
    · rw [if_neg c2, B_nw_isShelf_9, B_nw_isShelf_14, if_pos (by decide), if_pos (by omega)]
theorem nu_nil {ws : List wd} (hok : ok ws) : nu ws [] = none := by
  cases e : nu ws [] with
  | none => rfl
  | some x => exact absurd rfl (hok.1 _ (List.mem_of_getElem? (nu_some e))).2.1
theorem bk_placeTk {h : am_H} {b : Nat} {ws : List wd} (hok : ok ws) (H : bkR h b ws) {t : List Int} (c : ¬ isW t) (d : Nat) : am_cI (d + 1) N_bk_placeOf [.inr (.inr (some (b))), .inr (.inl (tkw t))] h = some (-1, h) := by
  have c' : ¬ 0 < tkw t := fun g => c (tkw_pos.mp g)
  by_cases c2 : t.length ≤ 10 ∧ allL t
  · have e : tkw t = ec 10 (lw t) := if_pos c2
    have e2 : lw t = [] := by
      refine List.eq_nil_of_length_eq_zero ?_
      rw [lw_len]
      rcases Nat.eq_zero_or_pos t.length with g | g
      · exact g
      · exact absurd ⟨⟨g, c2.1⟩, c2.2⟩ c
    rw [e, e2, bk_placeOf hok.b H (fun x hx => by simp at hx) (by simp) d, if_pos (nu_nil hok)]
  · have e : tkw t = -1 := if_neg c2
    rw [e]
    exact bk_placeNo hok.b H (by decide) d
section NW
variable {n : am_H} {h : am_H} {A : Nat} {t : List Int} {ws bs : List wd} {hs : List (List wd × List wd)} {sh : Nat → Option (List wd)} {kp mo bo : Int}
theorem no_feed (H : CR n h A (t, ws, bs, hs, sh)) {a b c e f : Int} (ha : am_inI a) (hb : am_inI b) (hc : am_inI c) (he : am_inI e) (hf : am_inI f) (d : Nat) :
    ∃ h', am_cI (d + 20) N_nw_feed [.inr (.inr (some (A))), .inl (a), .inl (b), .inl (c), .inl (e), .inl (f)] h = some ((sp_feed a b c e f (t, ws, bs, hs, sh)).1, h') ∧ CR n h' A (sp_feed a b c e f (t, ws, bs, hs, sh)).2 := by
  obtain ⟨hn, kp, mo, bo, L, C⟩ := H
  dsimp only at L C
  unfold sp_feed
  dsimp only
  by_cases c0 : t.length ≤ 380
  · rw [if_pos c0]
    have l4 : ∀ (t : List Int) (x : Int), (t ++ by4 x).length = t.length + 4 := fun t x => by rw [List.length_append]; rfl
    obtain ⟨h1, q1, T1, F1⟩ := c_addFour (lo_T L) (by omega) (d + 19) ha
    have L1 := lo_tp L F1 T1
    obtain ⟨h2, q2, T2, F2⟩ := c_addFour (lo_T L1) (by rw [l4]; omega) (d + 19) hb
    have L2 := lo_tp L1 F2 T2
    obtain ⟨h3, q3, T3, F3⟩ := c_addFour (lo_T L2) (by rw [l4, l4]; omega) (d + 19) hc
    have L3 := lo_tp L2 F3 T3
    obtain ⟨h4, q4, T4, F4⟩ := c_addFour (lo_T L3) (by rw [l4, l4, l4]; omega) (d + 19) he
    have L4 := lo_tp L3 F4 T4
    obtain ⟨h5, q5, T5, F5⟩ := c_addFour (lo_T L4) (by rw [l4, l4, l4, l4]; omega) (d + 19) hf
    have L5 := lo_tp L4 F5 T5
    have et : ((((t ++ by4 a) ++ by4 b) ++ by4 c) ++ by4 e) ++ by4 f = t ++ by20 a b c e f := by unfold by20; simp only [List.append_assoc]
    rw [et] at L5
    have hl : ((t ++ by20 a b c e f).length : Int) = (t.length : Int) + 20 := by
      have : (by20 a b c e f).length = 20 := rfl
      rw [List.length_append, this]
      rfl
    refine ⟨h5, am_cI_of ?_, fz_w F5 (fz_w F4 (fz_w F3 (fz_w F2 (fz_w F1 hn)))), kp, mo, bo, L5, ((((C.fr F1 (by omega)).fr F2 (by omega)).fr F3 (by omega)).fr F4 (by omega)).fr F5 (by omega)⟩
    rw [en_nw_feed, B_nw_feed_0, lo_0 L, Option.bind_some, lo_tn L, Option.bind_some, if_pos (by omega), B_nw_feed_15, lo_0 L, Option.bind_some, if_pos (lo_tO L), q1, Option.bind_some, lo_0 L1, Option.bind_some, if_pos (lo_tO L1), q2, Option.bind_some, lo_0 L2, Option.bind_some, if_pos (lo_tO L2), q3, Option.bind_some, lo_0 L3, Option.bind_some, if_pos (lo_tO L3), q4, Option.bind_some, lo_0 L4, Option.bind_some, if_pos (lo_tO L4), q5, Option.bind_some, lo_0 L5, Option.bind_some, lo_tn L5, Option.bind_some, hl]
  · rw [if_neg c0]
    refine ⟨h, am_cI_of ?_, hn, kp, mo, bo, L, C⟩
    rw [en_nw_feed, B_nw_feed_0, lo_0 L, Option.bind_some, lo_tn L, Option.bind_some, if_neg (by omega), B_nw_feed_13]
theorem no_end (H : CR n h A (t, ws, bs, hs, sh)) (k : Int) (d : Nat) : ∃ h', am_cI (d + 20) N_nw_end [.inr (.inr (some (A))), .inl (k)] h = some ((sp_end k (t, ws, bs, hs, sh)).1, h') ∧ CR n h' A (sp_end k (t, ws, bs, hs, sh)).2 := by
  obtain ⟨hn, kp, mo, bo, L, C⟩ := H
  dsimp only at L C
  unfold sp_end
  dsimp only
  by_cases c : 0 ≤ k ∧ k ≤ t.length
  · rw [if_pos c]
    obtain ⟨j, rfl⟩ := Int.eq_ofNat_of_zero_le c.1
    obtain ⟨h1, e1, F1, L1⟩ := lo_tset L (n := j) (by omega)
    rw [Int.toNat_natCast]
    refine ⟨h1, am_cI_of ?_, fz_w F1 hn, kp, mo, bo, L1, C.fr F1 (by omega)⟩
    rw [en_nw_end, B_nw_end_0, if_neg (by omega), B_nw_end_4, lo_0 L, Option.bind_some, lo_tn L, Option.bind_some, if_pos c.2, B_nw_end_17, lo_0 L, Option.bind_some, e1, Option.bind_some]
  · rw [if_neg c]
    refine ⟨h, am_cI_of ?_, hn, kp, mo, bo, L, C⟩
    rw [en_nw_end, B_nw_end_0]
    by_cases c1 : k < 0
    · rw [if_pos c1, B_nw_end_15]
    · rw [if_neg c1, B_nw_end_4, lo_0 L, Option.bind_some, lo_tn L, Option.bind_some, if_neg (by omega), B_nw_end_15]
theorem no_octet (H : CR n h A (t, ws, bs, hs, sh)) (k : Int) (d : Nat) : ∃ h', am_cI (d + 20) N_nw_octet [.inr (.inr (some (A))), .inl (k)] h = some ((sp_octet k (t, ws, bs, hs, sh)).1, h') ∧ CR n h' A (sp_octet k (t, ws, bs, hs, sh)).2 := by
  obtain ⟨hn, kp, mo, bo, L, C⟩ := H
  dsimp only at L C
  refine ⟨h, am_cI_of ?_, hn, kp, mo, bo, L, C⟩
  rw [en_nw_octet, B_nw_octet_0, lo_0 L, Option.bind_some, if_pos (lo_tO L), c_byteAt (lo_T L) (d + 19) k, Option.bind_some]
  rfl
theorem fr_n {S : Nat → Nat → Int} {q : Nat} (m : maH q h S = h) (f : maF S ws) : am_gI h q 5 15 = some (nS ws : Int) := by
  have e : am_gI (maH q h S) q 5 15 = some (S 15 0) := ma_gI_15
  rw [m, f.2.1.1] at e
  exact e
/-- the draft becomes the words, and the machine tells them -/
theorem nw_bf {ds : List wd} (L : loR h A t ws bs hs kp mo bo) (C : hiC h A ws bs sh kp mo bo) (K : bkR h (A + 9) ds) (hok : ok ds) (hn : am_fr A (A + 144) n h) (d : Nat) :
    ∃ h4 h5, am_cV (d + 19) N_nw_becomeDraft [.inr (.inr (some (A)))] h = some h4 ∧ am_isO h4 A 9 = true ∧ am_cR (d + 19) N_nw_freshMachine [.inr (.inr (some (A)))] h4 = some (A + 92, h5) ∧ am_gI h5 (A + 92) 5 15 = some (nS ds : Int) ∧ CR n h5 A (t, ds, bs, hpush hs (ws, bs), sh) := by
  obtain ⟨h4, e4, F4, L4⟩ := nw_becomeDraft L K (d + 17)
  have C4 : hiC h4 A ds bs sh kp 1 bo := (C.fr F4 (by omega)).fl (fun e => absurd e (by decide)) (fun e => ⟨e, rfl⟩)
  obtain ⟨h5, S, e5, n5, L5, C5, m5, f5⟩ := nw_fresh L4 C4 hok (d + 14)
  exact ⟨h4, h5, e4, lo_O L4, e5, fr_n m5 f5, am_fr.tr (fz_w F4 hn) n5, kp, 0, bo, L5, C5⟩
theorem no_put (H : CR n h A (t, ws, bs, hs, sh)) (O : okS t ws bs hs sh) (x : Int) (d : Nat) : ∃ h', am_cI (d + 20) N_nw_put [.inr (.inr (some (A))), .inl (x)] h = some ((sp_put x (t, ws, bs, hs, sh)).1, h') ∧ CR n h' A (sp_put x (t, ws, bs, hs, sh)).2 := by
  obtain ⟨hn, kp, mo, bo, L, C⟩ := H
  dsimp only at L C
  obtain ⟨h1, e1, F1, L1⟩ := nw_takeLetters L (d + 16)
  replace e1 : am_cL (d + 19) N_nw_takeLetters [.inr (.inr (some (A)))] h = some (tkw t, h1) := e1
  have C1 := C.fr F1 (by omega)
  have n1 := fz_w F1 hn
  have R1 : CR n h1 A ([], ws, bs, hs, sh) := ⟨n1, kp, mo, bo, L1, C1⟩
  have i1 := fun d h => c_isWord (tkw t) d h
  have i2 := fun d h => c_isNumber d h x
  unfold sp_put
  dsimp only [noT, act]
  by_cases c1 : isW t
  · simp only [if_pos (tkw_pos.mpr c1)] at i1
    rw [tkw_w c1] at e1 i1
    have hw := isW_wl c1
    have hl10 : (lw t).length ≤ 10 := by rw [lw_len]; exact c1.1.2
    by_cases c2 : 0 ≤ x ∧ x ≤ 999999
    · simp only [if_pos c2] at i2
      rw [if_pos ⟨c1, c2⟩]
      have e2 := bk_placeOf O.2.1.b (lo_W L1) hw hl10 (d + 18)
      have st : ∀ p : Int, (if nu ws (lw t) = none then -1 else (ah ws (lw t) : Int)) = p → am_call (d + 20) N_nw_put [.inr (.inr (some (A))), .inl (x)] h = (if p = -1 then EV (d + 20) N_nw_put T_nw_put_54 [.inr (.inr (some (A))), .inl (x), .inr (.inl (ec 10 (lw t))), am_nul, .inl (p)] [] h1 else EV (d + 20) N_nw_put T_nw_put_37 [.inr (.inr (some (A))), .inl (x), .inr (.inl (ec 10 (lw t))), am_nul, .inl (p)] [] h1) := by
        intro p hp
        rw [hp] at e2
        rw [en_nw_put, B_nw_put_0, if_pos (lo_O L), e1, Option.bind_some]
        dsimp only
        rw [i1, Option.bind_some]
        dsimp only
        rw [if_neg (by decide), B_nw_put_12, i2, Option.bind_some]
        dsimp only
        rw [if_pos (by decide), B_nw_put_21, lo_1 L1, Option.bind_some, if_pos (lo_W L1).O, e2, Option.bind_some]
      have tail : ∀ p : Int, (nu ws (lw t) = none → ws.length < 100) → ∃ h', EV (d + 20) N_nw_put T_nw_put_74 [.inr (.inr (some (A))), .inl (x), .inr (.inl (ec 10 (lw t))), am_nul, .inl (p)] [] h1 = some (some (.inl ((nS (put ws (lw t) x) : Int))), h') ∧ CR n h' A ([], put ws (lw t) x, bs, hpush hs (ws, bs), sh) := by
        intro p hr
        obtain ⟨h2, e2, F2, k2⟩ := bk_take (lo_D L1) (lo_W L1) (by omega) (d + 19)
        have L2 := lo_dr L1 F2 k2.w
        obtain ⟨h3, e3, F3, k3⟩ := bk_enter O.2.1.b k2 hw hl10 x hr (d + 18)
        have L3 := lo_dr L2 F3 k3.w
        obtain ⟨h4, h5, e4, o4, e5, g5, R5⟩ := nw_bf L3 ((C1.fr F2 (by omega)).fr F3 (by omega)) k3 (put_ok O.2.1 (wk_of c1 c2) hr) (fz_w F3 (fz_w F2 n1)) d
        refine ⟨h5, ?_, R5⟩
        rw [B_nw_put_74, lo_3 L1, Option.bind_some, lo_1 L1, Option.bind_some, if_pos (lo_D L1).O, e2, Option.bind_some, lo_3 L2, Option.bind_some, if_pos (lo_D L2).O, e3, Option.bind_some, if_pos (lo_O L3), e4, Option.bind_some, if_pos o4, e5, Option.bind_some]
        dsimp only
        rw [g5, Option.bind_some]
      cases c3 : nu ws (lw t) with
      | none =>
        have st1 := st (-1) (if_pos c3)
        rw [if_pos rfl, B_nw_put_54, if_neg (by decide), B_nw_put_60, lo_1 L1, Option.bind_some, (lo_W L1).sz, Option.bind_some] at st1
        rw [if_neg (by simp)]
        by_cases c4 : ws.length = 100
        · rw [if_pos ⟨rfl, c4⟩]
          rw [if_neg (by omega), B_nw_put_72] at st1
          exact ⟨h1, am_cI_of st1, R1⟩
        · rw [if_neg (fun g => c4 g.2)]
          have hl := O.2.1.2.2
          rw [if_pos (by omega)] at st1
          obtain ⟨h', e', r'⟩ := tail (-1) (fun _ => by omega)
          exact ⟨h', am_cI_of (st1.trans e'), r'⟩
      | some y =>
        have st1 := st (ah ws (lw t)) (if_neg (by rw [c3]; simp))
        rw [if_neg (by omega), B_nw_put_37, lo_1 L1, Option.bind_some, (lo_W L1).gN, Option.bind_some, (lo_W L1).lN (nu_some c3), Option.bind_some] at st1
        dsimp only at st1
        by_cases c4 : y = x
        · rw [if_pos (by rw [c4])]
          rw [if_neg (by rw [c4]; simp), B_nw_put_51] at st1
          exact ⟨h1, am_cI_of st1, R1⟩
        · rw [if_neg (fun g => c4 (by injection g)), if_neg (fun g => by simp at g)]
          rw [if_pos c4, B_nw_put_54, if_pos (by omega)] at st1
          obtain ⟨h', e', r'⟩ := tail (ah ws (lw t)) (fun g => by rw [c3] at g; simp at g)
          exact ⟨h', am_cI_of (st1.trans e'), r'⟩
    · simp only [if_neg c2] at i2
      rw [if_neg (fun g => c2 g.2)]
      refine ⟨h1, am_cI_of ?_, R1⟩
      rw [en_nw_put, B_nw_put_0, if_pos (lo_O L), e1, Option.bind_some]
      dsimp only
      rw [i1, Option.bind_some]
      dsimp only
      rw [if_neg (by decide), B_nw_put_12, i2, Option.bind_some]
      dsimp only
      rw [if_neg (by decide), B_nw_put_19]
  · simp only [if_neg (fun g => c1 (tkw_pos.mp g))] at i1
    rw [if_neg (fun g => c1 g.1)]
    refine ⟨h1, am_cI_of ?_, R1⟩
    rw [en_nw_put, B_nw_put_0, if_pos (lo_O L), e1, Option.bind_some]
    dsimp only
    rw [i1, Option.bind_some]
    dsimp only
    rw [if_pos rfl, B_nw_put_19]
theorem no_cut (H : CR n h A (t, ws, bs, hs, sh)) (O : okS t ws bs hs sh) (d : Nat) : ∃ h', am_cI (d + 20) N_nw_cut [.inr (.inr (some (A)))] h = some ((sp_cut (t, ws, bs, hs, sh)).1, h') ∧ CR n h' A (sp_cut (t, ws, bs, hs, sh)).2 := by
  obtain ⟨hn, kp, mo, bo, L, C⟩ := H
  dsimp only at L C
  obtain ⟨h1, e1, F1, L1⟩ := nw_takeLetters L (d + 16)
  replace e1 : am_cL (d + 19) N_nw_takeLetters [.inr (.inr (some (A)))] h = some (tkw t, h1) := e1
  have C1 := C.fr F1 (by omega)
  have n1 := fz_w F1 hn
  have R1 : CR n h1 A ([], ws, bs, hs, sh) := ⟨n1, kp, mo, bo, L1, C1⟩
  have st : ∀ p : Int, am_cI (d + 19) N_bk_placeOf [.inr (.inr (some (A + 3))), .inr (.inl (tkw t))] h1 = some (p, h1) → am_call (d + 20) N_nw_cut [.inr (.inr (some (A)))] h = (if ¬ p = -1 then EV (d + 20) N_nw_cut T_nw_cut_19 [.inr (.inr (some (A))), .inl (p)] [] h1 else EV (d + 20) N_nw_cut T_nw_cut_17 [.inr (.inr (some (A))), .inl (p)] [] h1) := by
    intro p e2
    rw [en_nw_cut, B_nw_cut_0, lo_1 L, Option.bind_some, if_pos (lo_O L), e1, Option.bind_some]
    dsimp only
    rw [if_pos (lo_W L1).O, e2, Option.bind_some]
  unfold sp_cut
  dsimp only [noT, act]
  by_cases c1 : isW t
  · rw [if_pos c1]
    have hw := isW_wl c1
    have hl10 : (lw t).length ≤ 10 := by rw [lw_len]; exact c1.1.2
    have e2 := bk_placeOf O.2.1.b (lo_W L1) hw hl10 (d + 18)
    rw [← tkw_w c1] at e2
    by_cases c3 : nu ws (lw t) = none
    · rw [if_pos c3]
      rw [if_pos c3] at e2
      have st1 := st _ e2
      rw [if_neg (by decide), B_nw_cut_17] at st1
      exact ⟨h1, am_cI_of st1, R1⟩
    · rw [if_neg c3]
      rw [if_neg c3] at e2
      have st1 := st _ e2
      have hx : ah ws (lw t) < ws.length := by
        obtain ⟨y, hy⟩ := Option.ne_none_iff_exists'.mp c3
        exact (List.getElem?_eq_some_iff.mp (nu_some hy)).1
      rw [if_pos (by omega)] at st1
      obtain ⟨h2, e2, F2, k2⟩ := bk_take (lo_D L1) (lo_W L1) (by omega) (d + 19)
      have L2 := lo_dr L1 F2 k2.w
      obtain ⟨h3, e3, F3, k3⟩ := bk_erase k2 hx (d + 18)
      have L3 := lo_dr L2 F3 k3.w
      obtain ⟨h4, h5, e4, o4, e5, g5, R5⟩ := nw_bf L3 ((C1.fr F2 (by omega)).fr F3 (by omega)) k3 (er_ok O.2.1 _) (fz_w F3 (fz_w F2 n1)) d
      refine ⟨h5, am_cI_of (st1.trans ?_), R5⟩
      rw [B_nw_cut_19, lo_3 L1, Option.bind_some, lo_1 L1, Option.bind_some, if_pos (lo_D L1).O, e2, Option.bind_some, lo_3 L2, Option.bind_some, if_pos (lo_D L2).O, e3, Option.bind_some, if_pos (lo_O L3), e4, Option.bind_some, if_pos o4, e5, Option.bind_some]
      dsimp only
      rw [g5, Option.bind_some]
  · rw [if_neg c1]
    have st1 := st _ (bk_placeTk O.2.1 (lo_W L1) c1 (d + 18))
    rw [if_neg (by decide), B_nw_cut_17] at st1
    exact ⟨h1, am_cI_of st1, R1⟩
theorem no_append (H : CR n h A (t, ws, bs, hs, sh)) (O : okS t ws bs hs sh) (x : Int) (d : Nat) : ∃ h', am_cI (d + 20) N_nw_append [.inr (.inr (some (A))), .inl (x)] h = some ((sp_append x (t, ws, bs, hs, sh)).1, h') ∧ CR n h' A (sp_append x (t, ws, bs, hs, sh)).2 := by
  obtain ⟨hn, kp, mo, bo, L, C⟩ := H
  dsimp only at L C
  obtain ⟨h1, e1, F1, L1⟩ := nw_takeLetters L (d + 16)
  replace e1 : am_cL (d + 19) N_nw_takeLetters [.inr (.inr (some (A)))] h = some (tkw t, h1) := e1
  have C1 := C.fr F1 (by omega)
  have n1 := fz_w F1 hn
  have R1 : CR n h1 A ([], ws, bs, hs, sh) := ⟨n1, kp, mo, bo, L1, C1⟩
  have i1 := fun d h => c_isWord (tkw t) d h
  have i2 := fun d h => c_isNumber d h x
  have O3 := ok_append (s := (t, ws, bs, hs, sh)) O x
  unfold sp_append at O3 ⊢
  dsimp only [noT] at O3 ⊢
  by_cases c1 : isW t
  · simp only [if_pos (tkw_pos.mpr c1)] at i1
    rw [tkw_w c1] at e1 i1
    have hw := isW_wl c1
    have hl10 : (lw t).length ≤ 10 := by rw [lw_len]; exact c1.1.2
    by_cases c2 : 0 ≤ x ∧ x ≤ 999999
    · simp only [if_pos c2] at i2
      have st : am_call (d + 20) N_nw_append [.inr (.inr (some (A))), .inl (x)] h = EV (d + 20) N_nw_append T_nw_append_19 [.inr (.inr (some (A))), .inl (x), .inr (.inl (ec 10 (lw t))), am_nul] [] h1 := by
        rw [en_nw_append, B_nw_append_0, if_pos (lo_O L), e1, Option.bind_some]
        dsimp only
        rw [i1, Option.bind_some]
        dsimp only
        rw [if_neg (by decide), B_nw_append_12, i2, Option.bind_some]
        dsimp only
        rw [if_neg (by decide)]
      rw [B_nw_append_19, lo_2 L1, Option.bind_some, (lo_B L1).sz, Option.bind_some] at st
      by_cases c3 : bs.length < 100
      · rw [if_pos (by omega), B_nw_append_33, lo_2 L1, Option.bind_some, (lo_B L1).sz, Option.bind_some] at st
        rw [if_pos ⟨c1, c2, c3⟩] at O3 ⊢
        have hlast : bs ≠ [] → (ec 10 (lastw bs) < ec 10 (lw t) ↔ lx (lastw bs) (lw t) = true) := fun g => by
          have hm : bs[bs.length - 1]? = some (bs.getLastD ([], 0)) := by
            rw [← List.getLast?_eq_getElem?, List.getLastD_eq_getLast?]
            cases e : bs.getLast? with
            | none => rw [List.getLast?_eq_none_iff] at e; exact absurd e g
            | some x => rfl
          have hk := O.2.2.1.1 _ (List.mem_of_getElem? hm)
          exact ec_lt 10 _ _ hk.1 hw hk.2.2.1 hl10
        have e3 := fun d => bk_lastWord (lo_B L1) d
        have b43 : bs ≠ [] → am_call (d + 20) N_nw_append [.inr (.inr (some (A))), .inl (x)] h = if ec 10 (lastw bs) < ec 10 (lw t) then EV (d + 20) N_nw_append T_nw_append_58 [.inr (.inr (some (A))), .inl (x), .inr (.inl (ec 10 (lw t))), am_nul] [] h1 else EV (d + 20) N_nw_append T_nw_append_55 [.inr (.inr (some (A))), .inl (x), .inr (.inl (ec 10 (lw t))), am_nul] [] h1 := by
          intro g
          have hp := List.length_pos_iff.mpr g
          rw [st, if_neg (by omega), B_nw_append_43, lo_2 L1, Option.bind_some, if_pos (lo_B L1).O, e3, Option.bind_some]
          dsimp only
          by_cases c5 : ec 10 (lastw bs) < ec 10 (lw t)
          · rw [if_pos (lc_gt.mpr c5), if_pos c5]
          · rw [if_neg (fun q => c5 (lc_gt.mp q)), if_neg c5]
        by_cases c4 : bs ≠ [] ∧ lx (lastw bs) (lw t) = false
        · rw [if_pos c4]
          have b := b43 c4.1
          rw [if_neg (fun q => by rw [(hlast c4.1).mp q] at c4; exact Bool.noConfusion c4.2), B_nw_append_55] at b
          exact ⟨h1, am_cI_of b, R1⟩
        · rw [if_neg c4] at O3 ⊢
          replace O3 : okS [] ws (bs ++ [(lw t, x)]) hs sh := O3
          have b58 : am_call (d + 20) N_nw_append [.inr (.inr (some (A))), .inl (x)] h = EV (d + 20) N_nw_append T_nw_append_58 [.inr (.inr (some (A))), .inl (x), .inr (.inl (ec 10 (lw t))), am_nul] [] h1 := by
            by_cases c5 : bs = []
            · rw [st, if_pos (by rw [c5]; simp)]
            · rw [b43 c5, if_pos]
              rw [hlast c5]
              rcases Bool.eq_false_or_eq_true (lx (lastw bs) (lw t)) with e | e
              · exact e
              · exact absurd ⟨c5, e⟩ c4
          obtain ⟨h2, e4, k2, F2⟩ := bkR.add (lo_B L1) (lw t) x c3 (d + 19)
          have L2 := lo_bd L1 F2 k2
          obtain ⟨h3, e5, F3, L3⟩ := lo_pb L2 1
          have C3 : hiC h3 A ws (bs ++ [(lw t, x)]) sh kp mo 1 := ((C1.fr F2 (by omega)).fr F3 (by omega)).fl (fun e => ⟨e, rfl⟩) (fun e => absurd e (by decide))
          obtain ⟨h4, bo4, e6, n4, L4, C4⟩ := nw_bstates L3 C3 O3.2.2.1 (d + 14)
          rw [if_neg (by simp)] at e6
          refine ⟨h4, am_cI_of (b58.trans ?_), am_fr.tr (fz_w F3 (fz_w F2 n1)) n4, kp, mo, bo4, L4, C4⟩
          rw [B_nw_append_58, lo_2 L1, Option.bind_some, if_pos (lo_B L1).O, e4, Option.bind_some]
          dsimp only
          rw [e5, Option.bind_some, if_pos (lo_O L3), e6, Option.bind_some]
          rfl
      · rw [if_neg (fun g => c3 g.2.2)]
        rw [if_neg (by omega), B_nw_append_31] at st
        exact ⟨h1, am_cI_of st, R1⟩
    · simp only [if_neg c2] at i2
      rw [if_neg (fun g => c2 g.2.1)]
      refine ⟨h1, am_cI_of ?_, R1⟩
      rw [en_nw_append, B_nw_append_0, if_pos (lo_O L), e1, Option.bind_some]
      dsimp only
      rw [i1, Option.bind_some]
      dsimp only
      rw [if_neg (by decide), B_nw_append_12, i2, Option.bind_some]
      dsimp only
      rw [if_pos rfl, B_nw_append_31]
  · simp only [if_neg (fun g => c1 (tkw_pos.mp g))] at i1
    rw [if_neg (fun g => c1 g.1)]
    refine ⟨h1, am_cI_of ?_, R1⟩
    rw [en_nw_append, B_nw_append_0, if_pos (lo_O L), e1, Option.bind_some]
    dsimp only
    rw [i1, Option.bind_some]
    dsimp only
    rw [if_pos rfl, B_nw_append_31]
theorem no_finish (H : CR n h A (t, ws, bs, hs, sh)) (O : okS t ws bs hs sh) (d : Nat) : ∃ h', am_cI (d + 20) N_nw_finish [.inr (.inr (some (A)))] h = some ((sp_finish (t, ws, bs, hs, sh)).1, h') ∧ CR n h' A (sp_finish (t, ws, bs, hs, sh)).2 := by
  obtain ⟨hn, kp, mo, bo, L, C⟩ := H
  dsimp only at L C
  unfold sp_finish
  dsimp only [act]
  by_cases c : bs = []
  · rw [if_pos c]
    refine ⟨h, am_cI_of ?_, hn, kp, mo, bo, L, C⟩
    rw [en_nw_finish, B_nw_finish_0, lo_2 L, Option.bind_some, (lo_B L).sz, Option.bind_some, if_neg (by rw [c]; simp), B_nw_finish_10]
  · rw [if_neg c]
    have hp := List.length_pos_iff.mpr c
    obtain ⟨h1, e1, F1, k1⟩ := bk_take (lo_D L) (lo_B L) (by omega) (d + 19)
    have L1 := lo_dr L F1 k1.w
    obtain ⟨h2, e2, F2, L2⟩ := nw_becomeDraft L1 k1 (d + 17)
    obtain ⟨h3, e3, F3, k3⟩ := bk_clear (lo_B L2).w (d + 19)
    have L3 := lo_bd L2 F3 k3
    obtain ⟨h4, e4, F4, L4⟩ := lo_pb L3 1
    have C4 : hiC h4 A bs [] sh kp 1 1 := ((((C.fr F1 (by omega)).fr F2 (by omega)).fr F3 (by omega)).fr F4 (by omega)).fl (fun e => absurd e (by decide)) (fun e => absurd e (by decide))
    obtain ⟨h5, S, e5, n5, L5, C5, m5, f5⟩ := nw_fresh L4 C4 O.2.2.1 (d + 14)
    refine ⟨h5, am_cI_of ?_, (fz_w F4 (fz_w F3 (fz_w F2 (fz_w F1 hn)))).tr n5, kp, 0, 1, L5, C5⟩
    rw [en_nw_finish, B_nw_finish_0, lo_2 L, Option.bind_some, (lo_B L).sz, Option.bind_some, if_pos (by omega), B_nw_finish_12, lo_3 L, Option.bind_some, lo_2 L, Option.bind_some, if_pos (lo_D L).O, e1, Option.bind_some, if_pos (lo_O L1), e2, Option.bind_some, lo_2 L2, Option.bind_some, if_pos (lo_B L2).O, e3, Option.bind_some, e4, Option.bind_some, if_pos (lo_O L4), e5, Option.bind_some]
    dsimp only
    rw [fr_n m5 f5, Option.bind_some]
theorem no_undo (H : CR n h A (t, ws, bs, hs, sh)) (d : Nat) : ∃ h', am_cI (d + 20) N_nw_undo [.inr (.inr (some (A)))] h = some ((sp_undo (t, ws, bs, hs, sh)).1, h') ∧ CR n h' A (sp_undo (t, ws, bs, hs, sh)).2 := by
  obtain ⟨hn, kp, mo, bo, L, C⟩ := H
  dsimp only at L C
  unfold sp_undo
  dsimp only
  cases c : hs.getLast? with
  | none =>
    rw [List.getLast?_eq_none_iff] at c
    dsimp only
    refine ⟨h, am_cI_of ?_, hn, kp, mo, bo, L, C⟩
    rw [en_nw_undo, B_nw_undo_0, lo_5 L, Option.bind_some, lo_hn L, Option.bind_some, if_neg (by rw [c]; simp), B_nw_undo_10]
  | some p =>
    dsimp only
    have hne : hs ≠ [] := by rintro rfl; simp at c
    have hp := List.length_pos_iff.mpr hne
    obtain ⟨h1, e1, F1, k1, b1, b2⟩ := hi_takeBack L.2.2.2.2.2.2 c (lo_W L).w (lo_B L).w (by omega) (by omega) (by omega) (d + 18)
    have G1 : am_fr A (A + 88) h h1 := ⟨F1.1, fun q hq => F1.2 q (by omega) (by omega) (by omega)⟩
    have L1 : loR h1 A t p.1 p.2 hs.dropLast kp mo bo := by
      obtain ⟨a1, ⟨t1, t2, t3, B, t4, t5⟩, a3, a4, ⟨n5, W5, N5, a5, a6, a7, a8⟩, ⟨f, a9, a10⟩, a11⟩ := L
      exact ⟨(F1.2 _ (by omega) (by omega) (by omega)).trans a1, ⟨(F1.2 _ (by omega) (by omega) (by omega)).trans t1, t2, t3, B, (F1.2 _ (by omega) (by omega) (by omega)).trans t4, t5⟩, b1, b2, ⟨n5, W5, N5, (F1.2 _ (by omega) (by omega) (by omega)).trans a5, (F1.2 _ (by omega) (by omega) (by omega)).trans a6, (F1.2 _ (by omega) (by omega) (by omega)).trans a7, a8⟩, ⟨f, (F1.2 _ (by omega) (by omega) (by omega)).trans a9, a10⟩, k1⟩
    obtain ⟨h2, e2, F2, L2⟩ := lo_pm L1 1
    obtain ⟨h3, e3, F3, L3⟩ := lo_pb L2 1
    refine ⟨h3, am_cI_of ?_, fz_w F3 (fz_w F2 (fz_w G1 hn)), kp, 1, 1, L3, (((C.fr G1 (by omega)).fr F2 (by omega)).fr F3 (by omega)).fl (fun e => absurd e (by decide)) (fun e => absurd e (by decide))⟩
    rw [en_nw_undo, B_nw_undo_0, lo_5 L, Option.bind_some, lo_hn L, Option.bind_some, if_pos (by omega), B_nw_undo_12, lo_5 L, Option.bind_some, lo_1 L, Option.bind_some, lo_2 L, Option.bind_some, if_pos (lo_hO L), e1, Option.bind_some, e2, Option.bind_some, e3, Option.bind_some, lo_5 L3, Option.bind_some, lo_hn L3, Option.bind_some]
end NW
