/-! the class: unpack -/
section NW
variable {n : am_H} {h h' : am_H} {A : Nat} {t : List Int} {ws bs : List wd} {hs : List (List wd × List wd)} {sh : Nat → Option (List wd)} {kp mo bo : Int}
theorem nw_isPacked {S : Nat → Nat → Int} {x : Int} {ss : List sta} (L : loR h A t ws bs hs kp mo bo) (C : hiC h A ws bs sh kp mo bo) (hn : am_fr A (A + 144) n h) (ht : t.length ≤ 400) (er : rdB t = .inr (x, ss)) (U : unH (A + 1) (A + 124) h S = h) (um : umR S x ss) (hl : 1 ≤ ss.length ∧ ss.length ≤ 1001) (hf : (fla ss).length ≤ 133) (hx : 0 ≤ x ∧ x ≤ 999999) (d : Nat) :
    ∃ r h' mo', am_cI (d + 19) N_nw_isPackedOnTape [.inr (.inr (some (A)))] h = some (r, h') ∧ am_fr A (A + 144) n h' ∧ loR h' A t ws bs hs kp mo' bo ∧ hiC h' A ws bs sh kp mo' bo ∧ ((r = 1 ∧ ∃ B, upW t = some B ∧ bkR h' (A + 9) B) ∨ (r = 0 ∧ upW t = none)) := by
  obtain ⟨Cs, Cr⟩ := C
  obtain ⟨m0, W, N, hb1⟩ := lo_D L
  have hO : am_isO (unH (A + 1) (A + 124) h S) (A + 124) 8 = true := un_O
  rw [U] at hO
  obtain ⟨r, h2, S2, e2, K2, Fd, F2, r2⟩ := un_tellWords (u := A + 124) (ta := A + 1) (b := A + 9) (rdB_mk er) hl hf (by omega) hx U um hb1 (d + 4)
  have z2 : S2 2 0 = 0 := by rw [Fd 2 (by decide)]; exact um.2.2.1
  have hwk := wk_up er hl.1
  -- the draft first, then the reader
  obtain ⟨hm, ehm⟩ : ∃ hm : am_H, hm = (h.1, fun c => if A + 9 ≤ c ∧ c < A + 12 then h2.2 c else h.2 c) := ⟨_, rfl⟩
  have G1 : am_fr (A + 9) (A + 12) h hm := by rw [ehm]; exact ⟨rfl, fun c hc => if_neg (by omega)⟩
  have G2 : am_fr (A + 124) (A + 130) hm h2 := by
    refine ⟨by rw [ehm]; exact F2.1, fun c hc => ?_⟩
    rw [ehm]
    dsimp only
    by_cases cc : A + 9 ≤ c ∧ c < A + 12
    · rw [if_pos cc]
    · rw [if_neg cc]
      exact F2.2 c (by omega) (by omega)
  have D2 : bkW h2 (A + 9) := by
    rcases r2 with ⟨_, _, bk', q⟩ | ⟨bk', v', _, _, q⟩
    · exact q.w
    · exact q.w
  have L2 : loR h2 A t ws bs hs kp mo bo := (lo_dr L G1 (D2.fr G2.sy (by omega))).fr G2 (by omega)
  have Cs2 := (Cs.fr G1 (by omega)).fr G2 (by omega)
  have Cr2 := hr_un (Cr.fr G1 (by omega)) G2 K2 z2
  have n2 : am_fr A (A + 144) n h2 := fz_w G2 (fz_w G1 hn)
  have st : am_call (d + 19) N_nw_isPackedOnTape [.inr (.inr (some (A)))] h = if ¬ r = 0 then EV (d + 19) N_nw_isPackedOnTape T_nw_isPackedOnTape_16 [.inr (.inr (some (A)))] [] h2 else EV (d + 19) N_nw_isPackedOnTape T_nw_isPackedOnTape_14 [.inr (.inr (some (A)))] [] h2 := by
    rw [en_nw_isPackedOnTape, B_nw_isPackedOnTape_0, lo_10 L, Option.bind_some, lo_3 L, Option.bind_some, if_pos hO, e2, Option.bind_some]
  rcases r2 with ⟨rfl, w1, _⟩ | ⟨B, v', rfl, w1, b1⟩
  · refine ⟨0, h2, mo, am_cI_of ?_, n2, L2, ⟨Cs2, Cr2⟩, Or.inr ⟨rfl, hwk.1 w1⟩⟩
    rw [st, if_neg (by decide), B_nw_isPackedOnTape_14]
  · obtain ⟨okB, u1, u2⟩ := hwk.2 B v' w1
    rw [if_pos (by decide), B_nw_isPackedOnTape_16, lo_7 L2, Option.bind_some, lo_3 L2, Option.bind_some] at st
    obtain ⟨S4, h4, _⟩ := Cr2.2.1
    obtain ⟨S5, e5, T5⟩ := ma_tell (q := A + 92) (g := h2) (S := S4) okB b1 (by omega) (okP_tt B) (loP_tt B) (d + 14)
    have hO5 : am_isO (maH (A + 92) h2 S4) (A + 92) 5 = true := ma_O
    rw [h4] at e5 hO5
    have F5 : am_fr (A + 92) (A + 107) h2 (maH (A + 92) h2 S5) := maH_fr
    have K5 : maH (A + 92) (maH (A + 92) h2 S5) S5 = maH (A + 92) h2 S5 := maH_H
    generalize maH (A + 92) h2 S5 = h5 at *
    have L5 := L2.fr F5 (by omega)
    obtain ⟨h6, e6, F6, L6⟩ := lo_pm L5 1
    have Cs6 := (Cs2.fr F5 (by omega)).fr F6 (by omega)
    have Cr5 : hrC h5 A ws bs 1 bo := hr_ma Cr2 F5 K5 (fun e => absurd e (by decide))
    have Cr6 := Cr5.fr F6 (by omega)
    have K6 : maH (A + 92) h6 S5 = h6 := maH_keep K5 F6 (by omega)
    have b6 := (b1.fr F5 (by omega)).fr F6 (by omega)
    have n6 : am_fr A (A + 144) n h6 := fz_w F6 (fz_w F5 n2)
    obtain ⟨S7, h7⟩ := Cr6.2.2.2.1
    obtain ⟨S8, e8, r8⟩ := pa_write (p := A + 122) (q := A + 92) (g := h6) (S := S7) okB (maF_of T5) K6 (by omega) (d + 15)
    have hO8 : am_isO (paH (A + 122) h6 S7) (A + 122) 6 = true := pa_O
    have hO9 : am_isO (paH (A + 122) h6 S8) (A + 122) 6 = true := pa_O
    rw [h7] at e8 hO8
    have T6 : tp_at h6 (A + 1) t := lo_T L6
    have io := fun (h400 : (pkE B).length ≤ 400) => pa_isOn (p := A + 122) (g := h6) (S := S8) (r8 h400) h400 T6 (by omega) (d + 18)
    have F8 : am_fr (A + 122) (A + 124) h6 (paH (A + 122) h6 S8) := paH_fr
    have K8 : paH (A + 122) (paH (A + 122) h6 S8) S8 = paH (A + 122) h6 S8 := paH_H
    generalize paH (A + 122) h6 S8 = h8 at *
    have L8 := L6.fr F8 (by omega)
    have C8 : hiC h8 A ws bs sh kp 1 bo := ⟨Cs6.fr F8 (by omega), hr_pa Cr6 F8 K8⟩
    have n8 : am_fr A (A + 144) n h8 := fz_w F8 n6
    rw [if_pos hO5, e5, Option.bind_some, e6, Option.bind_some, lo_9 L6, Option.bind_some, lo_7 L6, Option.bind_some, if_pos hO8, e8, Option.bind_some] at st
    dsimp only at st
    by_cases c4 : (pkE B).length ≤ 400
    · rw [if_pos c4, if_neg (by decide), B_nw_isPackedOnTape_47, lo_9 L8, Option.bind_some, lo_0 L8, Option.bind_some, if_pos hO9] at st
      obtain ⟨y, ey, hy⟩ := io c4
      rw [ey, Option.bind_some] at st
      dsimp only at st
      rcases hy with ⟨rfl, q⟩ | ⟨rfl, q⟩
      · refine ⟨1, h8, 1, am_cI_of ?_, n8, L8, C8, Or.inl ⟨rfl, B, u1 q, b6.fr F8 (by omega)⟩⟩
        rw [st, if_neg (by decide), B_nw_isPackedOnTape_61, B_nw_isPackedOnTape_66, if_pos (by decide)]
      · refine ⟨0, h8, 1, am_cI_of ?_, n8, L8, C8, Or.inr ⟨rfl, u2 q⟩⟩
        rw [st, if_pos rfl, B_nw_isPackedOnTape_65, B_nw_isPackedOnTape_66, if_pos (by decide)]
    · refine ⟨0, h8, 1, am_cI_of ?_, n8, L8, C8, Or.inr ⟨rfl, u2 (fun e => by rw [e] at c4; exact c4 ht)⟩⟩
      rw [st, if_neg c4, if_pos rfl, B_nw_isPackedOnTape_65, B_nw_isPackedOnTape_66, if_pos (by decide)]
theorem no_unpack (H : CR n h A (t, ws, bs, hs, sh)) (O : okS t ws bs hs sh) (d : Nat) : ∃ h', am_cI (d + 20) N_nw_unpack [.inr (.inr (some (A)))] h = some ((sp_unpack (t, ws, bs, hs, sh)).1, h') ∧ CR n h' A (sp_unpack (t, ws, bs, hs, sh)).2 := by
  obtain ⟨hn, kp, mo, bo, L, C⟩ := H
  dsimp only at L C
  have ht := O.1.1
  obtain ⟨Cs, Cr⟩ := C
  obtain ⟨S, hS, z⟩ := Cr.2.2.2.2.1
  have hO : am_isO (unH (A + 1) (A + 124) h S) (A + 124) 8 = true := un_O
  have hrd := un_read (u := A + 124) (ta := A + 1) (g := h) (S := S) (lo_T L) (by omega) z (d + 15)
  rw [hS] at hO hrd
  -- a fault is told
  have flt : ∀ {g : am_H} {mo : Int} (f : Int), 1 ≤ f → f ≤ 3204 → am_fr A (A + 144) n g → loR g A t ws bs hs kp mo bo → hiC g A ws bs sh kp mo bo → ∃ h', EV (d + 20) N_nw_unpack T_nw_unpack_32 [.inr (.inr (some (A))), .inl (f)] [] g = some (some (.inl (-2 - f)), h') ∧ CR n h' A ([], ws, bs, hs, sh) := by
    intro g mo f f1 f2 gn Lg Cg
    obtain ⟨h1, e1, F1, L1⟩ := lo_tclr Lg
    refine ⟨h1, ?_, fz_w F1 gn, kp, mo, bo, L1, Cg.fr F1 (by omega)⟩
    rw [B_nw_unpack_32, lo_0 Lg, Option.bind_some, e1, Option.bind_some, if_neg (by omega), B_nw_unpack_44, am_w_id (by omega) (by omega)]
  unfold sp_unpack
  dsimp only [noT, act]
  rcases hrd with ⟨f, S1, er, f1, e, z1⟩ | ⟨x, ss, S1, er, e, um, hl, hf, hx⟩
  · have hu : upW t = none := by unfold upW; rw [er]
    have hfu : upF t = f := by unfold upF; rw [er]
    have fb := rdB_bd ht er
    have F1 : am_fr (A + 124) (A + 130) h (unH (A + 1) (A + 124) h S1) := unH_fr
    have K1 : unH (A + 1) (A + 124) (unH (A + 1) (A + 124) h S1) S1 = unH (A + 1) (A + 124) h S1 := unH_H
    generalize unH (A + 1) (A + 124) h S1 = h1 at *
    obtain ⟨h2, e2, r2⟩ := flt f f1 fb.2 (fz_w F1 hn) (L.fr F1 (by omega)) ⟨Cs.fr F1 (by omega), hr_un Cr F1 K1 z1⟩
    rw [hu, hfu]
    refine ⟨h2, am_cI_of ?_, r2⟩
    rw [en_nw_unpack, B_nw_unpack_0, lo_10 L, Option.bind_some, if_pos hO, e, Option.bind_some]
    dsimp only
    rw [if_pos (by omega), e2]
  · have F1 : am_fr (A + 124) (A + 130) h (unH (A + 1) (A + 124) h S1) := unH_fr
    have K1 : unH (A + 1) (A + 124) (unH (A + 1) (A + 124) h S1) S1 = unH (A + 1) (A + 124) h S1 := unH_H
    generalize unH (A + 1) (A + 124) h S1 = h1 at *
    have L1 := L.fr F1 (by omega)
    obtain ⟨r, h2, mo2, e2, n2, L2, C2, r2⟩ := nw_isPacked L1 ⟨Cs.fr F1 (by omega), hr_un Cr F1 K1 um.2.2.1⟩ (fz_w F1 hn) ht er K1 um hl hf hx d
    have st : am_call (d + 20) N_nw_unpack [.inr (.inr (some (A)))] h = if ¬ r = 0 then EV (d + 20) N_nw_unpack T_nw_unpack_32 [.inr (.inr (some (A))), .inl (0)] [] h2 else EV (d + 20) N_nw_unpack T_nw_unpack_19 [.inr (.inr (some (A))), .inl (0)] [] h2 := by
      rw [en_nw_unpack, B_nw_unpack_0, lo_10 L, Option.bind_some, if_pos hO, e, Option.bind_some]
      dsimp only
      rw [if_neg (by decide), B_nw_unpack_12, if_pos (lo_O L1), e2, Option.bind_some]
    rcases r2 with ⟨rfl, B, u1, b1⟩ | ⟨rfl, u1⟩
    · rw [u1]
      dsimp only
      obtain ⟨h3, e3, F3, L3⟩ := lo_tclr L2
      obtain ⟨h4, e4, F4, L4⟩ := nw_becomeDraft L3 (b1.fr F3 (by omega)) (d + 17)
      have C4 : hiC h4 A B bs sh kp 1 bo := ((C2.fr F3 (by omega)).fr F4 (by omega)).fl (fun e => absurd e (by decide)) (fun e => ⟨e, rfl⟩)
      refine ⟨h4, am_cI_of (st.trans ?_), fz_w F4 (fz_w F3 n2), kp, 1, bo, L4, C4⟩
      rw [if_pos (by decide), B_nw_unpack_32, lo_0 L2, Option.bind_some, e3, Option.bind_some, if_pos rfl, B_nw_unpack_49, if_pos (lo_O L3), e4, Option.bind_some, lo_1 L4, Option.bind_some, (lo_W L4).sz, Option.bind_some]
    · have hfu : upF t = 8 * (t.length : Int) + 4 := by unfold upF; rw [er]
      rw [u1, hfu]
      dsimp only
      obtain ⟨h3, e3, r3⟩ := flt (8 * (t.length : Int) + 4) (by omega) (by omega) n2 L2 C2
      refine ⟨h3, am_cI_of (st.trans ?_), r3⟩
      rw [if_neg (by decide), B_nw_unpack_19, lo_0 L2, Option.bind_some, lo_tn L2, Option.bind_some, am_w_id (x := 8 * (t.length : Int)) (by omega) (by omega), am_w_id (by omega) (by omega), e3]
end NW
