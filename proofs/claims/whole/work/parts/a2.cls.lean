/-! the class: its state -/
theorem gd_mem {t : List Int} {i : Nat} (hi : i < t.length) : t.getD i 0 ∈ t := by
  rw [List.getD_eq_getElem?_getD, List.getElem?_eq_getElem hi]
  exact List.getElem_mem hi
def nwO (A : Nat) (kp mo bo : Int) : am_E := .inr (9, [.inr (.inr (some (A + 1))), .inr (.inr (some (A + 3))), .inr (.inr (some (A + 6))), .inr (.inr (some (A + 9))), .inr (.inr (some (A + 12))), .inr (.inr (some (A + 13))), .inr (.inr (some (A + 88))), .inr (.inr (some (A + 92))), .inr (.inr (some (A + 107))), .inr (.inr (some (A + 122))), .inr (.inr (some (A + 124))), .inr (.inr (some (A + 130))), .inr (.inr (some (A + 132))), .inl (kp), .inl (mo), .inl (bo)])
def loR (h : am_H) (A : Nat) (t : List Int) (ws bs : List wd) (hs : List (List wd × List wd)) (kp mo bo : Int) : Prop :=
  h.2 A = nwO A kp mo bo ∧ tp_at h (A + 1) t ∧ bkR h (A + 3) ws ∧ bkR h (A + 6) bs ∧ bkW h (A + 9) ∧ (∃ f : Nat → Option Nat, h.2 (A + 12) = .inl (4, 3, .inr (.inr f)) ∧ ∀ k, k < 3 → f k = some (A + 135 + 3 * k)) ∧ hiR h (A + 13) hs
def shR (h : am_H) (A : Nat) (kp : Int) (sh : Nat → Option (List wd)) : Prop :=
  ∃ K : Nat, (kp = (K : Int) ∧ K < 8) ∧ ∀ k, k < 3 → bkW h (A + 135 + 3 * k) ∧ (K / 2 ^ k % 2 = if sh k = none then 0 else 1) ∧ ∀ v, sh k = some v → bkR h (A + 135 + 3 * k) v
def hrC (h : am_H) (A : Nat) (ws bs : List wd) (mo bo : Int) : Prop :=
  ((∃ S, lrH (A + 1) (A + 89) (A + 88) h S = h) ∧ bkW h (A + 89)) ∧ (∃ S, maH (A + 92) h S = h ∧ (mo = 0 → maF S ws)) ∧ (∃ S, maH (A + 107) h S = h ∧ (bo = 0 → S 15 0 = ((nO bs + nC bs : Nat) : Int))) ∧
    (∃ S, paH (A + 122) h S = h) ∧ (∃ S, unH (A + 1) (A + 124) h S = h ∧ S 2 0 = 0) ∧ (∃ S, cuH (A + 1) (A + 3) (A + 130) h S = h) ∧ ∃ S, liH (A + 1) (A + 132) h S = h
def hiC (h : am_H) (A : Nat) (ws bs : List wd) (sh : Nat → Option (List wd)) (kp mo bo : Int) : Prop := shR h A kp sh ∧ hrC h A ws bs mo bo
theorem fz_w {A lo hi : Nat} {g h h' : am_H} (F : am_fr lo hi h h') (X : am_fr A (A + 144) g h) (h1 : A ≤ lo := by omega) (h2 : hi ≤ A + 144 := by omega) : am_fr A (A + 144) g h' := X.tr (F.wide h1 h2)
/-- the object at A tells this state -/
def CR (n : am_H) (h : am_H) (A : Nat) (s : Sta) : Prop := am_fr A (A + 144) n h ∧ ∃ kp mo bo, loR h A s.1 s.2.1 s.2.2.1 s.2.2.2.1 kp mo bo ∧ hiC h A s.2.1 s.2.2.1 s.2.2.2.2 kp mo bo
section CLS
variable {h h' : am_H} {A lo hi : Nat} {t t' : List Int} {ws bs ws' bs' : List wd} {hs hs' : List (List wd × List wd)} {sh sh' : Nat → Option (List wd)} {kp mo bo kp' mo' bo' : Int}
theorem loR.fr (H : loR h A t ws bs hs kp mo bo) (F : am_fr lo hi h h') (hd : A + 88 ≤ lo ∨ hi ≤ A) : loR h' A t ws bs hs kp mo bo := by
  obtain ⟨h1, h2, h3, h4, h5, ⟨f, h6, h7⟩, h8⟩ := H
  exact ⟨(F.2 _ (by omega)).trans h1, h2.fr F (by omega), h3.fr F (by omega), h4.fr F (by omega), h5.fr F (by omega), ⟨f, (F.2 _ (by omega)).trans h6, h7⟩, h8.fr F (by omega)⟩
theorem shR.fr (H : shR h A kp sh) (F : am_fr lo hi h h') (hd : A + 144 ≤ lo ∨ hi ≤ A + 135) : shR h' A kp sh := by
  obtain ⟨K, h1, h2⟩ := H
  exact ⟨K, h1, fun k hk => ⟨(h2 k hk).1.fr F (by omega), (h2 k hk).2.1, fun v hv => ((h2 k hk).2.2 v hv).fr F (by omega)⟩⟩
theorem hrC.fr (H : hrC h A ws bs mo bo) (F : am_fr lo hi h h') (hd : A + 135 ≤ lo ∨ hi ≤ A + 88) : hrC h' A ws bs mo bo := by
  obtain ⟨⟨⟨S2, h2⟩, h3⟩, ⟨S4, h4, k4⟩, ⟨S5, h5, k5⟩, ⟨S6, h6⟩, ⟨S7, h7, k7⟩, ⟨S8, h8⟩, S9, h9⟩ := H
  exact ⟨⟨⟨S2, lrH_keep h2 F (by omega)⟩, h3.fr F (by omega)⟩, ⟨S4, maH_keep h4 F (by omega), k4⟩, ⟨S5, maH_keep h5 F (by omega), k5⟩, ⟨S6, paH_keep h6 F (by omega)⟩, ⟨S7, unH_keep h7 F (by omega), k7⟩, ⟨S8, cuH_keep h8 F (by omega)⟩, S9, liH_keep h9 F (by omega)⟩
theorem hiC.fr (H : hiC h A ws bs sh kp mo bo) (F : am_fr lo hi h h') (hd : A + 144 ≤ lo ∨ hi ≤ A + 88) : hiC h' A ws bs sh kp mo bo := ⟨H.1.fr F (by omega), H.2.fr F (by omega)⟩
theorem hiC.fl (H : hiC h A ws bs sh kp mo bo) (h1 : mo' = 0 → mo = 0 ∧ ws' = ws) (h2 : bo' = 0 → bo = 0 ∧ bs' = bs) : hiC h A ws' bs' sh kp mo' bo' := by
  obtain ⟨k1, k2, ⟨S4, h4, k4⟩, ⟨S5, h5, k5⟩, k6⟩ := H
  exact ⟨k1, k2, ⟨S4, h4, fun e => by rw [(h1 e).2]; exact k4 (h1 e).1⟩, ⟨S5, h5, fun e => by rw [(h2 e).2]; exact k5 (h2 e).1⟩, k6⟩
-- what is read of it
theorem lo_O (H : loR h A t ws bs hs kp mo bo) : am_isO h A 9 = true := rd_O H.1
theorem lo_0 (H : loR h A t ws bs hs kp mo bo) : am_gR h A 9 0 = some (A + 1) := rd_gR H.1 rfl
theorem lo_1 (H : loR h A t ws bs hs kp mo bo) : am_gR h A 9 1 = some (A + 3) := rd_gR H.1 rfl
theorem lo_2 (H : loR h A t ws bs hs kp mo bo) : am_gR h A 9 2 = some (A + 6) := rd_gR H.1 rfl
theorem lo_3 (H : loR h A t ws bs hs kp mo bo) : am_gR h A 9 3 = some (A + 9) := rd_gR H.1 rfl
theorem lo_4 (H : loR h A t ws bs hs kp mo bo) : am_gR h A 9 4 = some (A + 12) := rd_gR H.1 rfl
theorem lo_5 (H : loR h A t ws bs hs kp mo bo) : am_gR h A 9 5 = some (A + 13) := rd_gR H.1 rfl
theorem lo_6 (H : loR h A t ws bs hs kp mo bo) : am_gR h A 9 6 = some (A + 88) := rd_gR H.1 rfl
theorem lo_7 (H : loR h A t ws bs hs kp mo bo) : am_gR h A 9 7 = some (A + 92) := rd_gR H.1 rfl
theorem lo_8 (H : loR h A t ws bs hs kp mo bo) : am_gR h A 9 8 = some (A + 107) := rd_gR H.1 rfl
theorem lo_9 (H : loR h A t ws bs hs kp mo bo) : am_gR h A 9 9 = some (A + 122) := rd_gR H.1 rfl
theorem lo_10 (H : loR h A t ws bs hs kp mo bo) : am_gR h A 9 10 = some (A + 124) := rd_gR H.1 rfl
theorem lo_11 (H : loR h A t ws bs hs kp mo bo) : am_gR h A 9 11 = some (A + 130) := rd_gR H.1 rfl
theorem lo_12 (H : loR h A t ws bs hs kp mo bo) : am_gR h A 9 12 = some (A + 132) := rd_gR H.1 rfl
theorem lo_kp (H : loR h A t ws bs hs kp mo bo) : am_gI h A 9 13 = some kp := rd_gI H.1 rfl
theorem lo_mo (H : loR h A t ws bs hs kp mo bo) : am_gI h A 9 14 = some mo := rd_gI H.1 rfl
theorem lo_bo (H : loR h A t ws bs hs kp mo bo) : am_gI h A 9 15 = some bo := rd_gI H.1 rfl
theorem lo_T (H : loR h A t ws bs hs kp mo bo) : tp_at h (A + 1) t := H.2.1
theorem lo_W (H : loR h A t ws bs hs kp mo bo) : bkR h (A + 3) ws := H.2.2.1
theorem lo_B (H : loR h A t ws bs hs kp mo bo) : bkR h (A + 6) bs := H.2.2.2.1
theorem lo_D (H : loR h A t ws bs hs kp mo bo) : bkW h (A + 9) := H.2.2.2.2.1
theorem lo_tn (H : loR h A t ws bs hs kp mo bo) : am_gI h (A + 1) 7 1 = some (t.length : Int) := rd_gI H.2.1.1 rfl
theorem lo_tO (H : loR h A t ws bs hs kp mo bo) : am_isO h (A + 1) 7 = true := rd_O H.2.1.1
theorem lo_hO (H : loR h A t ws bs hs kp mo bo) : am_isO h (A + 13) 2 = true := by
  obtain ⟨o, fW, fB, h1, _⟩ := H.2.2.2.2.2.2
  exact rd_O h1
theorem lo_hn (H : loR h A t ws bs hs kp mo bo) : am_gI h (A + 13) 2 3 = some (hs.length : Int) := by
  obtain ⟨o, fW, fB, h1, _⟩ := H.2.2.2.2.2.2
  exact rd_gI h1 rfl
theorem lo_sh (H : loR h A t ws bs hs kp mo bo) {k : Nat} (hk : k < 3) : am_lR h (A + 12) (k : Int) = some (A + 135 + 3 * k) := by
  obtain ⟨f, h1, h2⟩ := H.2.2.2.2.2.1
  rw [rd_lR h1 (by omega) (by omega), Int.toNat_natCast, h2 k hk]
-- what is written of it
theorem lo_tset (H : loR h A t ws bs hs kp mo bo) {n : Nat} (hn : n ≤ t.length) : ∃ h', am_p h (A + 1) 7 1 (.inl ((n : Int))) = some h' ∧ am_fr (A + 1) (A + 3) h h' ∧ loR h' A (t.take n) ws bs hs kp mo bo := by
  obtain ⟨h1, ⟨t1, t2, t3, B, t4, t5⟩, h3, h4, h5, ⟨f, h6, h7⟩, h8⟩ := H
  have F : am_fr (A + 1) (A + 3) h (am_up h (A + 1) (.inr (7, [.inr (.inr (some (A + 1 + 1))), .inl ((n : Int))]))) := am_fr.up (by omega) (by omega)
  have hl : (t.take n).length = n := by rw [List.length_take]; omega
  refine ⟨_, rd_p t1 (show 1 < 2 by decide), F, (F.2 _ (by omega)).trans h1, ⟨by rw [hl]; exact up_self, by omega, fun x hx => t3 x (List.mem_of_mem_take hx), B, (up_ne (by omega)).trans t4, fun i hi => ?_⟩, h3.fr F (by omega), h4.fr F (by omega), h5.fr F (by omega), ⟨f, (F.2 _ (by omega)).trans h6, h7⟩, h8.fr F (by omega)⟩
  rw [hl] at hi
  rw [t5 i (by omega), List.getD_eq_getElem?_getD, List.getD_eq_getElem?_getD, List.getElem?_take, if_pos hi]
theorem lo_tclr (H : loR h A t ws bs hs kp mo bo) : ∃ h', am_p h (A + 1) 7 1 (.inl (0)) = some h' ∧ am_fr (A + 1) (A + 3) h h' ∧ loR h' A [] ws bs hs kp mo bo := lo_tset H (n := 0) (Nat.zero_le _)
theorem lo_top (H : loR h A t ws bs hs kp mo bo) (F : am_fr A (A + 1) h h') (e : h'.2 A = nwO A kp' mo' bo') : loR h' A t ws bs hs kp' mo' bo' := by
  obtain ⟨h1, h2, h3, h4, h5, ⟨f, h6, h7⟩, h8⟩ := H
  exact ⟨e, h2.fr F (by omega), h3.fr F (by omega), h4.fr F (by omega), h5.fr F (by omega), ⟨f, (F.2 _ (by omega)).trans h6, h7⟩, h8.fr F (by omega)⟩
theorem lo_pk (H : loR h A t ws bs hs kp mo bo) (x : Int) : ∃ h', am_p h A 9 13 (.inl (x)) = some h' ∧ am_fr A (A + 1) h h' ∧ loR h' A t ws bs hs x mo bo := by
  have F : am_fr A (A + 1) h (am_up h A (nwO A x mo bo)) := am_fr.up (by omega) (by omega)
  exact ⟨_, rd_p H.1 (show 13 < 16 by decide), F, lo_top H F up_self⟩
theorem lo_pm (H : loR h A t ws bs hs kp mo bo) (x : Int) : ∃ h', am_p h A 9 14 (.inl (x)) = some h' ∧ am_fr A (A + 1) h h' ∧ loR h' A t ws bs hs kp x bo := by
  have F : am_fr A (A + 1) h (am_up h A (nwO A kp x bo)) := am_fr.up (by omega) (by omega)
  exact ⟨_, rd_p H.1 (show 14 < 16 by decide), F, lo_top H F up_self⟩
theorem lo_pb (H : loR h A t ws bs hs kp mo bo) (x : Int) : ∃ h', am_p h A 9 15 (.inl (x)) = some h' ∧ am_fr A (A + 1) h h' ∧ loR h' A t ws bs hs kp mo x := by
  have F : am_fr A (A + 1) h (am_up h A (nwO A kp mo x)) := am_fr.up (by omega) (by omega)
  exact ⟨_, rd_p H.1 (show 15 < 16 by decide), F, lo_top H F up_self⟩
theorem lo_tp (H : loR h A t ws bs hs kp mo bo) (F : am_fr (A + 1) (A + 3) h h') (K : tp_at h' (A + 1) t') : loR h' A t' ws bs hs kp mo bo := by
  obtain ⟨h1, h2, h3, h4, h5, ⟨f, h6, h7⟩, h8⟩ := H
  exact ⟨(F.2 _ (by omega)).trans h1, K, h3.fr F (by omega), h4.fr F (by omega), h5.fr F (by omega), ⟨f, (F.2 _ (by omega)).trans h6, h7⟩, h8.fr F (by omega)⟩
theorem lo_wd (H : loR h A t ws bs hs kp mo bo) (F : am_fr (A + 3) (A + 6) h h') (K : bkR h' (A + 3) ws') : loR h' A t ws' bs hs kp mo bo := by
  obtain ⟨h1, h2, h3, h4, h5, ⟨f, h6, h7⟩, h8⟩ := H
  exact ⟨(F.2 _ (by omega)).trans h1, h2.fr F (by omega), K, h4.fr F (by omega), h5.fr F (by omega), ⟨f, (F.2 _ (by omega)).trans h6, h7⟩, h8.fr F (by omega)⟩
theorem lo_bd (H : loR h A t ws bs hs kp mo bo) (F : am_fr (A + 6) (A + 9) h h') (K : bkR h' (A + 6) bs') : loR h' A t ws bs' hs kp mo bo := by
  obtain ⟨h1, h2, h3, h4, h5, ⟨f, h6, h7⟩, h8⟩ := H
  exact ⟨(F.2 _ (by omega)).trans h1, h2.fr F (by omega), h3.fr F (by omega), K, h5.fr F (by omega), ⟨f, (F.2 _ (by omega)).trans h6, h7⟩, h8.fr F (by omega)⟩
theorem lo_dr (H : loR h A t ws bs hs kp mo bo) (F : am_fr (A + 9) (A + 12) h h') (K : bkW h' (A + 9)) : loR h' A t ws bs hs kp mo bo := by
  obtain ⟨h1, h2, h3, h4, h5, ⟨f, h6, h7⟩, h8⟩ := H
  exact ⟨(F.2 _ (by omega)).trans h1, h2.fr F (by omega), h3.fr F (by omega), h4.fr F (by omega), K, ⟨f, (F.2 _ (by omega)).trans h6, h7⟩, h8.fr F (by omega)⟩
theorem lo_hy (H : loR h A t ws bs hs kp mo bo) (F : am_fr (A + 13) (A + 88) h h') (K : hiR h' (A + 13) hs') : loR h' A t ws bs hs' kp mo bo := by
  obtain ⟨h1, h2, h3, h4, h5, ⟨f, h6, h7⟩, h8⟩ := H
  exact ⟨(F.2 _ (by omega)).trans h1, h2.fr F (by omega), h3.fr F (by omega), h4.fr F (by omega), h5.fr F (by omega), ⟨f, (F.2 _ (by omega)).trans h6, h7⟩, K⟩
/-- the draft becomes the words -/
theorem nw_becomeDraft (H : loR h A t ws bs hs kp mo bo) {ds : List wd} (K : bkR h (A + 9) ds) (d : Nat) : ∃ h', am_cV (d + 2) N_nw_becomeDraft [.inr (.inr (some (A)))] h = some h' ∧ am_fr A (A + 88) h h' ∧ loR h' A t ds bs (hpush hs (ws, bs)) kp 1 bo := by
  obtain ⟨h1, e1, F1, k1⟩ := hi_save H.2.2.2.2.2.2 (lo_W H) (lo_B H) (by omega) (by omega) d
  have L1 := lo_hy H F1 k1
  obtain ⟨h2, e2, F2, k2⟩ := bk_take (lo_W L1).w (K.fr F1 (by omega)) (by omega) (d + 1)
  have L2 := lo_wd L1 F2 k2
  obtain ⟨h3, e3, F3, L3⟩ := lo_pm L2 1
  refine ⟨h3, am_cV_of ?_, ((F1.wide (by omega) (by omega)).tr (F2.wide (by omega) (by omega))).tr (F3.wide (by omega) (by omega)), L3⟩
  rw [en_nw_becomeDraft, B_nw_becomeDraft_0, lo_5 H, Option.bind_some, lo_1 H, Option.bind_some, lo_2 H, Option.bind_some, if_pos (lo_hO H), e1, Option.bind_some, lo_1 L1, Option.bind_some, lo_3 L1, Option.bind_some, if_pos (lo_W L1).O, e2, Option.bind_some, e3, Option.bind_some]
/-- the letters on the tape are taken -/
theorem nw_takeLetters (H : loR h A t ws bs hs kp mo bo) (d : Nat) : ∃ h', am_cL (d + 3) N_nw_takeLetters [.inr (.inr (some (A)))] h = some (if t.length ≤ 10 ∧ allL t then ec 10 (lw t) else -1, h') ∧ am_fr (A + 1) (A + 3) h h' ∧ loR h' A [] ws bs hs kp mo bo := by
  obtain ⟨h', e, F, L⟩ := lo_tclr H
  refine ⟨h', am_cL_of ?_, F, L⟩
  rw [en_nw_takeLetters, B_nw_takeLetters_0, lo_0 H, Option.bind_some, if_pos (lo_tO H), c_isLetters (lo_T H) d 10, Option.bind_some]
  dsimp only
  by_cases c : t.length ≤ 10 ∧ allL t
  · have cL : ∀ x ∈ t, isL x = true := c.2
    have hsp := c_spelled (lo_T H) d (n := 0) (m := t.length) (Nat.zero_le _) (Nat.le_refl _) (fun i _ hi => cL _ (gd_mem hi))
    rw [show min (t.length - 0) 10 = t.length by omega, spl_lw, show ((0 : Nat) : Int) = 0 from rfl] at hsp
    rw [if_pos (⟨by omega, cL⟩ : (t.length : Int) ≤ 10 ∧ ∀ x ∈ t, isL x = true), if_neg (show ¬ (1 : Int) = 0 by decide), B_nw_takeLetters_12, lo_0 H, Option.bind_some, Option.bind_some, lo_tn H, Option.bind_some, if_pos (lo_tO H), hsp, Option.bind_some, B_nw_takeLetters_33, lo_0 H, Option.bind_some, e, Option.bind_some, if_pos c]
  · rw [if_neg (fun g : (t.length : Int) ≤ 10 ∧ ∀ x ∈ t, isL x = true => c ⟨by omega, g.2⟩), if_pos rfl, B_nw_takeLetters_30, B_nw_takeLetters_33, lo_0 H, Option.bind_some, e, Option.bind_some, if_neg c]
/-- the machine tells the words -/
theorem nw_fresh (L : loR h A t ws bs hs kp mo bo) (C : hiC h A ws bs sh kp mo bo) (hok : ok ws) (d : Nat) :
    ∃ h' S, am_cR (d + 5) N_nw_freshMachine [.inr (.inr (some (A)))] h = some (A + 92, h') ∧ am_fr A (A + 144) h h' ∧ loR h' A t ws bs hs kp 0 bo ∧ hiC h' A ws bs sh kp 0 bo ∧ maH (A + 92) h' S = h' ∧ maF S ws := by
  obtain ⟨k1, k2, ⟨S4, h4, k4⟩, ⟨S5, h5, k5⟩, ⟨S6, h6⟩, ⟨S7, h7, k7⟩, ⟨S8, h8⟩, S9, h9⟩ := id C
  by_cases c : mo = 0
  · refine ⟨h, S4, am_cR_of ?_, am_fr.rf, by rw [← c]; exact L, by rw [← c]; exact C, h4, k4 c⟩
    rw [en_nw_freshMachine, B_nw_freshMachine_0, lo_mo L, Option.bind_some, if_pos c, B_nw_freshMachine_24, lo_7 L, Option.bind_some]
  · obtain ⟨S', e, T⟩ := ma_tell (q := A + 92) (g := h) (S := S4) hok (lo_W L) (by omega) (okP_tt ws) (loP_tt ws) d
    have hO : am_isO (maH (A + 92) h S4) (A + 92) 5 = true := ma_O
    rw [h4] at e hO
    have F1 : am_fr (A + 92) (A + 107) h (maH (A + 92) h S') := maH_fr
    have L1 := L.fr F1 (by omega)
    have e4 : maH (A + 92) (maH (A + 92) h S') S' = maH (A + 92) h S' := maH_H
    have C1 : hiC (maH (A + 92) h S') A ws bs sh kp 0 bo := ⟨k1.fr F1 (by omega), ⟨⟨_, lrH_keep k2.1.choose_spec F1 (by omega)⟩, k2.2.fr F1 (by omega)⟩, ⟨S', e4, fun _ => maF_of T⟩, ⟨S5, maH_keep h5 F1 (by omega), k5⟩, ⟨S6, paH_keep h6 F1 (by omega)⟩, ⟨S7, unH_keep h7 F1 (by omega), k7⟩, ⟨S8, cuH_keep h8 F1 (by omega)⟩, S9, liH_keep h9 F1 (by omega)⟩
    generalize maH (A + 92) h S' = h1 at *
    obtain ⟨h2, e2, F2, L2⟩ := lo_pm L1 0
    refine ⟨h2, S', am_cR_of ?_, (F1.wide (by omega) (by omega)).tr (F2.wide (by omega) (by omega)), L2, C1.fr F2 (by omega), maH_keep e4 F2 (by omega), maF_of T⟩
    rw [en_nw_freshMachine, B_nw_freshMachine_0, lo_mo L, Option.bind_some, if_neg c, B_nw_freshMachine_7, lo_7 L, Option.bind_some, lo_1 L, Option.bind_some, if_pos hO, e, Option.bind_some, e2, Option.bind_some, B_nw_freshMachine_24, lo_7 L2, Option.bind_some]
/-- the builder's machine tells the builder -/
theorem nw_bstates (L : loR h A t ws bs hs kp mo bo) (C : hiC h A ws bs sh kp mo bo) (hok : ok bs) (d : Nat) :
    ∃ h' bo', am_cI (d + 5) N_nw_builderStates [.inr (.inr (some (A)))] h = some (if bs = [] then 0 else ((nO bs + nC bs : Nat) : Int), h') ∧ am_fr A (A + 144) h h' ∧ loR h' A t ws bs hs kp mo bo' ∧ hiC h' A ws bs sh kp mo bo' := by
  by_cases cb : bs = []
  · refine ⟨h, bo, am_cI_of ?_, am_fr.rf, L, C⟩
    have hz : (bs.length : Int) = 0 := by rw [cb]; rfl
    rw [en_nw_builderStates, B_nw_builderStates_0, lo_2 L, Option.bind_some, (lo_B L).sz, Option.bind_some, if_neg (by omega), B_nw_builderStates_10, if_pos cb]
  have hz : ¬ (bs.length : Int) = 0 := by have := List.length_pos_iff.mpr cb; omega
  obtain ⟨k1, k2, ⟨S4, h4, k4⟩, ⟨S5, h5, k5⟩, ⟨S6, h6⟩, ⟨S7, h7, k7⟩, ⟨S8, h8⟩, S9, h9⟩ := id C
  have en0 : am_call (d + 5) N_nw_builderStates [.inr (.inr (some (A)))] h = EV (d + 5) N_nw_builderStates T_nw_builderStates_12 [.inr (.inr (some (A)))] [] h := by
    rw [en_nw_builderStates, B_nw_builderStates_0, lo_2 L, Option.bind_some, (lo_B L).sz, Option.bind_some, if_pos hz]
  by_cases c : bo = 0
  · have hg : am_gI (maH (A + 107) h S5) (A + 107) 5 15 = some (S5 15 0) := ma_gI_15
    rw [h5, k5 c] at hg
    refine ⟨h, bo, am_cI_of (en0.trans ?_), am_fr.rf, L, C⟩
    rw [B_nw_builderStates_12, lo_bo L, Option.bind_some, if_pos c, B_nw_builderStates_36, lo_8 L, Option.bind_some, hg, Option.bind_some, if_neg cb]
  · obtain ⟨S', e, T⟩ := ma_tell (q := A + 107) (g := h) (S := S5) hok (lo_B L) (by omega) (okP_clo hok cb) (loP_clo hok cb) d
    have hO : am_isO (maH (A + 107) h S5) (A + 107) 5 = true := ma_O
    rw [h5] at e hO
    have F1 : am_fr (A + 107) (A + 122) h (maH (A + 107) h S') := maH_fr
    have L1 := L.fr F1 (by omega)
    have e4 : maH (A + 107) (maH (A + 107) h S') S' = maH (A + 107) h S' := maH_H
    have h15 : S' 15 0 = ((nO bs + nC bs : Nat) : Int) := by rw [T.2.1.1, bld_states hok cb]
    have hg : am_gI (maH (A + 107) h S') (A + 107) 5 15 = some (S' 15 0) := ma_gI_15
    have C1 : hiC (maH (A + 107) h S') A ws bs sh kp mo 0 := ⟨k1.fr F1 (by omega), ⟨⟨_, lrH_keep k2.1.choose_spec F1 (by omega)⟩, k2.2.fr F1 (by omega)⟩, ⟨S4, maH_keep h4 F1 (by omega), k4⟩, ⟨S', e4, fun _ => h15⟩, ⟨S6, paH_keep h6 F1 (by omega)⟩, ⟨S7, unH_keep h7 F1 (by omega), k7⟩, ⟨S8, cuH_keep h8 F1 (by omega)⟩, S9, liH_keep h9 F1 (by omega)⟩
    generalize maH (A + 107) h S' = h1 at *
    obtain ⟨h2, e2, F2, L2⟩ := lo_pb L1 0
    have e5 := maH_keep e4 F2 (by omega)
    have hg2 : am_gI (maH (A + 107) h2 S') (A + 107) 5 15 = some (S' 15 0) := ma_gI_15
    rw [e5, h15] at hg2
    refine ⟨h2, 0, am_cI_of (en0.trans ?_), (F1.wide (by omega) (by omega)).tr (F2.wide (by omega) (by omega)), L2, C1.fr F2 (by omega)⟩
    rw [B_nw_builderStates_12, lo_bo L, Option.bind_some, if_neg c, B_nw_builderStates_19, lo_8 L, Option.bind_some, lo_2 L, Option.bind_some, if_pos hO, e, Option.bind_some, e2, Option.bind_some, B_nw_builderStates_36, lo_8 L2, Option.bind_some, hg2, Option.bind_some, if_neg cb]
end CLS
