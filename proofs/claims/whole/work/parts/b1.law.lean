/-! the law: one call to both, and the script -/
theorem ok_same {s : Sta} (h : okT s) (k : Int) : okT (sp_same k s).2 := by
  unfold sp_same
  split
  · split <;> exact h
  · exact h
theorem ok_number {s : Sta} (h : okT s) : okT (sp_number s).2 := by unfold sp_number; split <;> exact ok_noT h
theorem ok_rank {s : Sta} (h : okT s) : okT (sp_rank s).2 := by unfold sp_rank; split <;> exact ok_noT h
theorem ok_word {s : Sta} (h : okT s) (r i : Int) : okT (sp_word r i s).2 := by unfold sp_word; split <;> exact h
theorem ok_value {s : Sta} (h : okT s) (r : Int) : okT (sp_value r s).2 := by unfold sp_value; split <;> exact h
theorem ok_first {s : Sta} (h : okT s) (x : Int) : okT (sp_first x s).2 := by unfold sp_first; split <;> exact h
theorem ok_state {s : Sta} (h : okT s) : okT (sp_state s).2 := by unfold sp_state; split <;> exact ok_noT h
theorem ok_arc {s : Sta} (h : okT s) (x k w : Int) : okT (sp_arc x k w s).2 := by unfold sp_arc; split <;> exact h
theorem ok_about {s : Sta} (h : okT s) (x w : Int) : okT (sp_about x w s).2 := by unfold sp_about; split <;> exact h
theorem ok_count {s : Sta} (h : okT s) (w : Int) : okT (sp_count w s).2 := h
theorem MH_H {m : Nat} {g : am_H} {S S' : Nat → Nat → Int} : MH m (MH m g S) S' = MH m g S' := by
  refine Prod.ext rfl (funext fun q => ?_)
  show (if q = m then _ else if m < q ∧ q < m + 35 then _ else (if q = m then _ else if m < q ∧ q < m + 35 then _ else g.2 q)) = (if q = m then _ else if m < q ∧ q < m + 35 then _ else g.2 q)
  by_cases c : q = m
  · rw [if_pos c, if_pos c]
  · rw [if_neg c, if_neg c, if_neg c]
    by_cases c2 : m < q ∧ q < m + 35
    · rw [if_pos c2, if_pos c2]
    · rw [if_neg c2, if_neg c2, if_neg c2]
theorem MH_fr {m : Nat} {g : am_H} {S : Nat → Nat → Int} : am_fr m (m + 35) g (MH m g S) := ⟨rfl, fun q hq => MH_out (by omega)⟩
theorem MH_keep {m : Nat} {S : Nat → Nat → Int} {h h' : am_H} {lo hi : Nat} (H : MH m h S = h) (F : am_fr lo hi h h') (hd : m + 35 ≤ lo ∨ hi ≤ m) : MH m h' S = h' := by
  refine Prod.ext rfl (funext fun q => ?_)
  have e := congrFun (congrArg Prod.snd H) q
  by_cases c : q = m ∨ (m < q ∧ q < m + 35)
  · rw [F.2 q (by omega), ← e]
    show (if q = m then _ else if m < q ∧ q < m + 35 then _ else h'.2 q) = (if q = m then _ else if m < q ∧ q < m + 35 then _ else h.2 q)
    by_cases c1 : q = m
    · rw [if_pos c1, if_pos c1]
    · rw [if_neg c1, if_neg c1, if_pos (c.resolve_left c1), if_pos (c.resolve_left c1)]
  · exact MH_out (by omega)
/-- both sides tell one state -/
def lwI (c0 : Nat × Nat) (L : Nat) (X : Nat → Int) (A M : Nat) (h : am_H) (s : Sta) : Prop := h.1 = c0 ∧ h.2 0 = .inl (5, L, .inl X) ∧ CR h h A s ∧ okT s ∧ ∃ S, MH M h S = h ∧ MS S s
section LAW
variable {c0 : Nat × Nat} {L A M : Nat} {X : Nat → Int} {h h1 : am_H} {s s' : Sta} {x : Int}
theorem lw_ld (h0 : h.2 0 = .inl (5, L, .inl X)) (hL : L ≤ 3072) (i : Nat) (k : Int) (j : Nat) (hk : k = (j : Int)) (hij : i + j < L) : am_lI h 0 (am_w ((i : Int) + k)) = some (X (i + j)) := by
  rw [hk, am_w_id (by omega) (by omega), rd_lIs h0 (by omega) (by omega)]
  rfl
theorem cr_O {n : am_H} (H : CR n h A s) : am_isO h A 9 = true := by
  obtain ⟨_, kp, mo, bo, Lo, _⟩ := H
  exact lo_O Lo
/-- what the model does behind the class -/
theorem law_one (I : lwI c0 L X A M h s) (hA : 1 ≤ A) (hM : A + 144 ≤ M) (C1 : CR h h1 A s') (O1 : okT s') :
    h1.2 0 = .inl (5, L, .inl X) ∧ am_isO h1 M 10 = true ∧ ∃ S, MH M h1 S = h1 ∧ MS S s ∧ ∀ S', MS S' s' → lwI c0 L X A M (MH M h1 S') s' := by
  obtain ⟨i1, i2, i3, i4, S, i5, i6⟩ := I
  obtain ⟨F, kp, mo, bo, Lo, Hi⟩ := C1
  have k1 : MH M h1 S = h1 := MH_keep i5 F (by omega)
  have z0 := (F.2 0 (by omega)).trans i2
  have o1 : am_isO (MH M h1 S) M 10 = true := m_O
  rw [k1] at o1
  refine ⟨z0, o1, S, k1, i6, fun S' m' => ?_⟩
  have F2 : am_fr M (M + 35) h1 (MH M h1 S') := MH_fr
  exact ⟨(F2.1.trans F.1).trans i1, (F2.2 0 (by omega)).trans z0, ⟨am_fr.rf, kp, mo, bo, Lo.fr F2 (by omega), Hi.fr F2 (by omega)⟩, O1, S', MH_H, m'⟩
theorem law_feed (I : lwI c0 L X A M h s) (hX : ∀ j, am_inI (X j)) (hL : L ≤ 3072) (hA : 1 ≤ A) (hM : A + 144 ≤ M) {i : Nat} (hi : i + 6 ≤ L) : ∃ h2 s2, EV 30 N_law_law T_law_law_164 [.inr (.inr (some (0))), .inr (.inr (some (A))), .inr (.inr (some (M))), .inl ((i : Int))] [] h = EV 30 N_law_law T_law_law_851 [.inr (.inr (some (0))), .inr (.inr (some (A))), .inr (.inr (some (M))), .inl ((i : Int))] [] h2 ∧ lwI c0 L X A M h2 s2 := by
  obtain ⟨t, ws, bs, hs, sh⟩ := s
  obtain ⟨i1, i2, C, O, _⟩ := id I
  obtain ⟨h1, e1, C1⟩ := no_feed C (hX (i + 1)) (hX (i + 2)) (hX (i + 3)) (hX (i + 4)) (hX (i + 5)) 9
  obtain ⟨z1, o1, S, k1, m1, fin⟩ := law_one I hA hM C1 (ok_feed O _ _ _ _ _)
  obtain ⟨S2, e2, m2⟩ := mo_feed (m := M) (g := h1) (S := S) (t := t) (ws := ws) (bs := bs) (hs := hs) (sh := sh) m1 (hX (i + 1)) (hX (i + 2)) (hX (i + 3)) (hX (i + 4)) (hX (i + 5)) 29
  rw [k1] at e2
  refine ⟨_, _, ?_, fin S2 m2⟩
  rw [B_law_law_164, lw_ld i2 hL i 1 1 rfl (by omega), Option.bind_some, lw_ld i2 hL i 2 2 rfl (by omega), Option.bind_some, lw_ld i2 hL i 3 3 rfl (by omega), Option.bind_some, lw_ld i2 hL i 4 4 rfl (by omega), Option.bind_some, lw_ld i2 hL i 5 5 rfl (by omega), Option.bind_some, if_pos (cr_O C), e1, Option.bind_some]
  dsimp only
  rw [lw_ld z1 hL i 1 1 rfl (by omega), Option.bind_some, lw_ld z1 hL i 2 2 rfl (by omega), Option.bind_some, lw_ld z1 hL i 3 3 rfl (by omega), Option.bind_some, lw_ld z1 hL i 4 4 rfl (by omega), Option.bind_some, lw_ld z1 hL i 5 5 rfl (by omega), Option.bind_some, if_pos o1, e2, Option.bind_some]
  dsimp only
  rw [if_pos rfl]
theorem law_end (I : lwI c0 L X A M h s) (hX : ∀ j, am_inI (X j)) (hL : L ≤ 3072) (hA : 1 ≤ A) (hM : A + 144 ≤ M) {i : Nat} (hi : i + 6 ≤ L) : ∃ h2 s2, EV 30 N_law_law T_law_law_227 [.inr (.inr (some (0))), .inr (.inr (some (A))), .inr (.inr (some (M))), .inl ((i : Int))] [] h = EV 30 N_law_law T_law_law_851 [.inr (.inr (some (0))), .inr (.inr (some (A))), .inr (.inr (some (M))), .inl ((i : Int))] [] h2 ∧ lwI c0 L X A M h2 s2 := by
  obtain ⟨t, ws, bs, hs, sh⟩ := s
  obtain ⟨i1, i2, C, O, _⟩ := id I
  obtain ⟨h1, e1, C1⟩ := no_end C (X (i + 1)) 9
  obtain ⟨z1, o1, S, k1, m1, fin⟩ := law_one I hA hM C1 (ok_end O _)
  obtain ⟨S2, e2, m2⟩ := mo_end (m := M) (g := h1) (S := S) (t := t) (ws := ws) (bs := bs) (hs := hs) (sh := sh) m1 (X (i + 1)) 28
  rw [k1] at e2
  refine ⟨_, _, ?_, fin S2 m2⟩
  rw [B_law_law_227, lw_ld i2 hL i 1 1 rfl (by omega), Option.bind_some, if_pos (cr_O C), e1, Option.bind_some]
  dsimp only
  rw [lw_ld z1 hL i 1 1 rfl (by omega), Option.bind_some, if_pos o1, e2, Option.bind_some]
  dsimp only
  rw [if_pos rfl]
theorem law_octet (I : lwI c0 L X A M h s) (hX : ∀ j, am_inI (X j)) (hL : L ≤ 3072) (hA : 1 ≤ A) (hM : A + 144 ≤ M) {i : Nat} (hi : i + 6 ≤ L) : ∃ h2 s2, EV 30 N_law_law T_law_law_250 [.inr (.inr (some (0))), .inr (.inr (some (A))), .inr (.inr (some (M))), .inl ((i : Int))] [] h = EV 30 N_law_law T_law_law_851 [.inr (.inr (some (0))), .inr (.inr (some (A))), .inr (.inr (some (M))), .inl ((i : Int))] [] h2 ∧ lwI c0 L X A M h2 s2 := by
  obtain ⟨t, ws, bs, hs, sh⟩ := s
  obtain ⟨i1, i2, C, O, _⟩ := id I
  obtain ⟨h1, e1, C1⟩ := no_octet C (X (i + 1)) 9
  obtain ⟨z1, o1, S, k1, m1, fin⟩ := law_one I hA hM C1 (O)
  obtain ⟨S2, e2, m2⟩ := mo_octet (m := M) (g := h1) (S := S) (t := t) (ws := ws) (bs := bs) (hs := hs) (sh := sh) m1 (X (i + 1)) 28
  rw [k1] at e2
  refine ⟨_, _, ?_, fin S2 m2⟩
  rw [B_law_law_250, lw_ld i2 hL i 1 1 rfl (by omega), Option.bind_some, if_pos (cr_O C), e1, Option.bind_some]
  dsimp only
  rw [lw_ld z1 hL i 1 1 rfl (by omega), Option.bind_some, if_pos o1, e2, Option.bind_some]
  dsimp only
  rw [if_pos rfl]
theorem law_list (I : lwI c0 L X A M h s) (hX : ∀ j, am_inI (X j)) (hL : L ≤ 3072) (hA : 1 ≤ A) (hM : A + 144 ≤ M) {i : Nat} (hi : i + 6 ≤ L) : ∃ h2 s2, EV 30 N_law_law T_law_law_273 [.inr (.inr (some (0))), .inr (.inr (some (A))), .inr (.inr (some (M))), .inl ((i : Int))] [] h = EV 30 N_law_law T_law_law_851 [.inr (.inr (some (0))), .inr (.inr (some (A))), .inr (.inr (some (M))), .inl ((i : Int))] [] h2 ∧ lwI c0 L X A M h2 s2 := by
  obtain ⟨t, ws, bs, hs, sh⟩ := s
  obtain ⟨i1, i2, C, O, _⟩ := id I
  obtain ⟨h1, e1, C1⟩ := no_list C O 9
  obtain ⟨z1, o1, S, k1, m1, fin⟩ := law_one I hA hM C1 (ok_list O)
  obtain ⟨S2, e2, m2⟩ := mo_list (m := M) (g := h1) (S := S) (t := t) (ws := ws) (bs := bs) (hs := hs) (sh := sh) m1 O 23
  rw [k1] at e2
  refine ⟨_, _, ?_, fin S2 m2⟩
  rw [B_law_law_273, if_pos (cr_O C), e1, Option.bind_some]
  dsimp only
  rw [if_pos o1, e2, Option.bind_some]
  dsimp only
  rw [if_pos rfl]
theorem law_put (I : lwI c0 L X A M h s) (hX : ∀ j, am_inI (X j)) (hL : L ≤ 3072) (hA : 1 ≤ A) (hM : A + 144 ≤ M) {i : Nat} (hi : i + 6 ≤ L) : ∃ h2 s2, EV 30 N_law_law T_law_law_286 [.inr (.inr (some (0))), .inr (.inr (some (A))), .inr (.inr (some (M))), .inl ((i : Int))] [] h = EV 30 N_law_law T_law_law_851 [.inr (.inr (some (0))), .inr (.inr (some (A))), .inr (.inr (some (M))), .inl ((i : Int))] [] h2 ∧ lwI c0 L X A M h2 s2 := by
  obtain ⟨t, ws, bs, hs, sh⟩ := s
  obtain ⟨i1, i2, C, O, _⟩ := id I
  obtain ⟨h1, e1, C1⟩ := no_put C O (X (i + 1)) 9
  obtain ⟨z1, o1, S, k1, m1, fin⟩ := law_one I hA hM C1 (ok_put O _)
  obtain ⟨S2, e2, m2⟩ := mo_put (m := M) (g := h1) (S := S) (t := t) (ws := ws) (bs := bs) (hs := hs) (sh := sh) m1 O (X (i + 1)) 23
  rw [k1] at e2
  refine ⟨_, _, ?_, fin S2 m2⟩
  rw [B_law_law_286, lw_ld i2 hL i 1 1 rfl (by omega), Option.bind_some, if_pos (cr_O C), e1, Option.bind_some]
  dsimp only
  rw [lw_ld z1 hL i 1 1 rfl (by omega), Option.bind_some, if_pos o1, e2, Option.bind_some]
  dsimp only
  rw [if_pos rfl]
theorem law_cut (I : lwI c0 L X A M h s) (hX : ∀ j, am_inI (X j)) (hL : L ≤ 3072) (hA : 1 ≤ A) (hM : A + 144 ≤ M) {i : Nat} (hi : i + 6 ≤ L) : ∃ h2 s2, EV 30 N_law_law T_law_law_309 [.inr (.inr (some (0))), .inr (.inr (some (A))), .inr (.inr (some (M))), .inl ((i : Int))] [] h = EV 30 N_law_law T_law_law_851 [.inr (.inr (some (0))), .inr (.inr (some (A))), .inr (.inr (some (M))), .inl ((i : Int))] [] h2 ∧ lwI c0 L X A M h2 s2 := by
  obtain ⟨t, ws, bs, hs, sh⟩ := s
  obtain ⟨i1, i2, C, O, _⟩ := id I
  obtain ⟨h1, e1, C1⟩ := no_cut C O 9
  obtain ⟨z1, o1, S, k1, m1, fin⟩ := law_one I hA hM C1 (ok_cut O)
  obtain ⟨S2, e2, m2⟩ := mo_cut (m := M) (g := h1) (S := S) (t := t) (ws := ws) (bs := bs) (hs := hs) (sh := sh) m1 O 23
  rw [k1] at e2
  refine ⟨_, _, ?_, fin S2 m2⟩
  rw [B_law_law_309, if_pos (cr_O C), e1, Option.bind_some]
  dsimp only
  rw [if_pos o1, e2, Option.bind_some]
  dsimp only
  rw [if_pos rfl]
theorem law_raise (I : lwI c0 L X A M h s) (hX : ∀ j, am_inI (X j)) (hL : L ≤ 3072) (hA : 1 ≤ A) (hM : A + 144 ≤ M) {i : Nat} (hi : i + 6 ≤ L) : ∃ h2 s2, EV 30 N_law_law T_law_law_322 [.inr (.inr (some (0))), .inr (.inr (some (A))), .inr (.inr (some (M))), .inl ((i : Int))] [] h = EV 30 N_law_law T_law_law_851 [.inr (.inr (some (0))), .inr (.inr (some (A))), .inr (.inr (some (M))), .inl ((i : Int))] [] h2 ∧ lwI c0 L X A M h2 s2 := by
  obtain ⟨t, ws, bs, hs, sh⟩ := s
  obtain ⟨i1, i2, C, O, _⟩ := id I
  obtain ⟨h1, e1, C1⟩ := no_raise C O (hX (i + 1)) 9
  obtain ⟨z1, o1, S, k1, m1, fin⟩ := law_one I hA hM C1 (ok_raise O _)
  obtain ⟨S2, e2, m2⟩ := mo_raise (m := M) (g := h1) (S := S) (t := t) (ws := ws) (bs := bs) (hs := hs) (sh := sh) m1 O (hX (i + 1)) 27
  rw [k1] at e2
  refine ⟨_, _, ?_, fin S2 m2⟩
  rw [B_law_law_322, lw_ld i2 hL i 1 1 rfl (by omega), Option.bind_some, if_pos (cr_O C), e1, Option.bind_some]
  dsimp only
  rw [lw_ld z1 hL i 1 1 rfl (by omega), Option.bind_some, if_pos o1, e2, Option.bind_some]
  dsimp only
  rw [if_pos rfl]
theorem law_append (I : lwI c0 L X A M h s) (hX : ∀ j, am_inI (X j)) (hL : L ≤ 3072) (hA : 1 ≤ A) (hM : A + 144 ≤ M) {i : Nat} (hi : i + 6 ≤ L) : ∃ h2 s2, EV 30 N_law_law T_law_law_345 [.inr (.inr (some (0))), .inr (.inr (some (A))), .inr (.inr (some (M))), .inl ((i : Int))] [] h = EV 30 N_law_law T_law_law_851 [.inr (.inr (some (0))), .inr (.inr (some (A))), .inr (.inr (some (M))), .inl ((i : Int))] [] h2 ∧ lwI c0 L X A M h2 s2 := by
  obtain ⟨t, ws, bs, hs, sh⟩ := s
  obtain ⟨i1, i2, C, O, _⟩ := id I
  obtain ⟨h1, e1, C1⟩ := no_append C O (X (i + 1)) 9
  obtain ⟨z1, o1, S, k1, m1, fin⟩ := law_one I hA hM C1 (ok_append O _)
  obtain ⟨S2, e2, m2⟩ := mo_append (m := M) (g := h1) (S := S) (t := t) (ws := ws) (bs := bs) (hs := hs) (sh := sh) m1 O (X (i + 1)) 24
  rw [k1] at e2
  refine ⟨_, _, ?_, fin S2 m2⟩
  rw [B_law_law_345, lw_ld i2 hL i 1 1 rfl (by omega), Option.bind_some, if_pos (cr_O C), e1, Option.bind_some]
  dsimp only
  rw [lw_ld z1 hL i 1 1 rfl (by omega), Option.bind_some, if_pos o1, e2, Option.bind_some]
  dsimp only
  rw [if_pos rfl]
theorem law_finish (I : lwI c0 L X A M h s) (hX : ∀ j, am_inI (X j)) (hL : L ≤ 3072) (hA : 1 ≤ A) (hM : A + 144 ≤ M) {i : Nat} (hi : i + 6 ≤ L) : ∃ h2 s2, EV 30 N_law_law T_law_law_368 [.inr (.inr (some (0))), .inr (.inr (some (A))), .inr (.inr (some (M))), .inl ((i : Int))] [] h = EV 30 N_law_law T_law_law_851 [.inr (.inr (some (0))), .inr (.inr (some (A))), .inr (.inr (some (M))), .inl ((i : Int))] [] h2 ∧ lwI c0 L X A M h2 s2 := by
  obtain ⟨t, ws, bs, hs, sh⟩ := s
  obtain ⟨i1, i2, C, O, _⟩ := id I
  obtain ⟨h1, e1, C1⟩ := no_finish C O 9
  obtain ⟨z1, o1, S, k1, m1, fin⟩ := law_one I hA hM C1 (ok_finish O)
  obtain ⟨S2, e2, m2⟩ := mo_finish (m := M) (g := h1) (S := S) (t := t) (ws := ws) (bs := bs) (hs := hs) (sh := sh) m1 O 23
  rw [k1] at e2
  refine ⟨_, _, ?_, fin S2 m2⟩
  rw [B_law_law_368, if_pos (cr_O C), e1, Option.bind_some]
  dsimp only
  rw [if_pos o1, e2, Option.bind_some]
  dsimp only
  rw [if_pos rfl]
theorem law_join (I : lwI c0 L X A M h s) (hX : ∀ j, am_inI (X j)) (hL : L ≤ 3072) (hA : 1 ≤ A) (hM : A + 144 ≤ M) {i : Nat} (hi : i + 6 ≤ L) : ∃ h2 s2, EV 30 N_law_law T_law_law_381 [.inr (.inr (some (0))), .inr (.inr (some (A))), .inr (.inr (some (M))), .inl ((i : Int))] [] h = EV 30 N_law_law T_law_law_851 [.inr (.inr (some (0))), .inr (.inr (some (A))), .inr (.inr (some (M))), .inl ((i : Int))] [] h2 ∧ lwI c0 L X A M h2 s2 := by
  obtain ⟨t, ws, bs, hs, sh⟩ := s
  obtain ⟨i1, i2, C, O, _⟩ := id I
  obtain ⟨h1, e1, C1⟩ := no_join C O (X (i + 1)) (X (i + 2)) (X (i + 3)) 9
  obtain ⟨z1, o1, S, k1, m1, fin⟩ := law_one I hA hM C1 (ok_join O _ _ _)
  obtain ⟨S2, e2, m2⟩ := mo_join (m := M) (g := h1) (S := S) (t := t) (ws := ws) (bs := bs) (hs := hs) (sh := sh) m1 O (X (i + 1)) (X (i + 2)) (X (i + 3)) 24
  rw [k1] at e2
  refine ⟨_, _, ?_, fin S2 m2⟩
  rw [B_law_law_381, lw_ld i2 hL i 1 1 rfl (by omega), Option.bind_some, lw_ld i2 hL i 2 2 rfl (by omega), Option.bind_some, lw_ld i2 hL i 3 3 rfl (by omega), Option.bind_some, if_pos (cr_O C), e1, Option.bind_some]
  dsimp only
  rw [lw_ld z1 hL i 1 1 rfl (by omega), Option.bind_some, lw_ld z1 hL i 2 2 rfl (by omega), Option.bind_some, lw_ld z1 hL i 3 3 rfl (by omega), Option.bind_some, if_pos o1, e2, Option.bind_some]
  dsimp only
  rw [if_pos rfl]
theorem law_undo (I : lwI c0 L X A M h s) (hX : ∀ j, am_inI (X j)) (hL : L ≤ 3072) (hA : 1 ≤ A) (hM : A + 144 ≤ M) {i : Nat} (hi : i + 6 ≤ L) : ∃ h2 s2, EV 30 N_law_law T_law_law_424 [.inr (.inr (some (0))), .inr (.inr (some (A))), .inr (.inr (some (M))), .inl ((i : Int))] [] h = EV 30 N_law_law T_law_law_851 [.inr (.inr (some (0))), .inr (.inr (some (A))), .inr (.inr (some (M))), .inl ((i : Int))] [] h2 ∧ lwI c0 L X A M h2 s2 := by
  obtain ⟨t, ws, bs, hs, sh⟩ := s
  obtain ⟨i1, i2, C, O, _⟩ := id I
  obtain ⟨h1, e1, C1⟩ := no_undo C 9
  obtain ⟨z1, o1, S, k1, m1, fin⟩ := law_one I hA hM C1 (ok_undo O)
  obtain ⟨S2, e2, m2⟩ := mo_undo (m := M) (g := h1) (S := S) (t := t) (ws := ws) (bs := bs) (hs := hs) (sh := sh) m1 O 29
  rw [k1] at e2
  refine ⟨_, _, ?_, fin S2 m2⟩
  rw [B_law_law_424, if_pos (cr_O C), e1, Option.bind_some]
  dsimp only
  rw [if_pos o1, e2, Option.bind_some]
  dsimp only
  rw [if_pos rfl]
theorem law_keep (I : lwI c0 L X A M h s) (hX : ∀ j, am_inI (X j)) (hL : L ≤ 3072) (hA : 1 ≤ A) (hM : A + 144 ≤ M) {i : Nat} (hi : i + 6 ≤ L) : ∃ h2 s2, EV 30 N_law_law T_law_law_437 [.inr (.inr (some (0))), .inr (.inr (some (A))), .inr (.inr (some (M))), .inl ((i : Int))] [] h = EV 30 N_law_law T_law_law_851 [.inr (.inr (some (0))), .inr (.inr (some (A))), .inr (.inr (some (M))), .inl ((i : Int))] [] h2 ∧ lwI c0 L X A M h2 s2 := by
  obtain ⟨t, ws, bs, hs, sh⟩ := s
  obtain ⟨i1, i2, C, O, _⟩ := id I
  obtain ⟨h1, e1, C1⟩ := no_keep C (X (i + 1)) 9
  obtain ⟨z1, o1, S, k1, m1, fin⟩ := law_one I hA hM C1 (ok_keep O _)
  obtain ⟨S2, e2, m2⟩ := mo_keep (m := M) (g := h1) (S := S) (t := t) (ws := ws) (bs := bs) (hs := hs) (sh := sh) m1 O (X (i + 1)) 28
  rw [k1] at e2
  refine ⟨_, _, ?_, fin S2 m2⟩
  rw [B_law_law_437, lw_ld i2 hL i 1 1 rfl (by omega), Option.bind_some, if_pos (cr_O C), e1, Option.bind_some]
  dsimp only
  rw [lw_ld z1 hL i 1 1 rfl (by omega), Option.bind_some, if_pos o1, e2, Option.bind_some]
  dsimp only
  rw [if_pos rfl]
theorem law_same (I : lwI c0 L X A M h s) (hX : ∀ j, am_inI (X j)) (hL : L ≤ 3072) (hA : 1 ≤ A) (hM : A + 144 ≤ M) {i : Nat} (hi : i + 6 ≤ L) : ∃ h2 s2, EV 30 N_law_law T_law_law_460 [.inr (.inr (some (0))), .inr (.inr (some (A))), .inr (.inr (some (M))), .inl ((i : Int))] [] h = EV 30 N_law_law T_law_law_851 [.inr (.inr (some (0))), .inr (.inr (some (A))), .inr (.inr (some (M))), .inl ((i : Int))] [] h2 ∧ lwI c0 L X A M h2 s2 := by
  obtain ⟨t, ws, bs, hs, sh⟩ := s
  obtain ⟨i1, i2, C, O, _⟩ := id I
  obtain ⟨h1, e1, C1⟩ := no_same C O (X (i + 1)) 9
  obtain ⟨z1, o1, S, k1, m1, fin⟩ := law_one I hA hM C1 (ok_same O _)
  obtain ⟨S2, e2, m2⟩ := mo_same (m := M) (g := h1) (S := S) (t := t) (ws := ws) (bs := bs) (hs := hs) (sh := sh) m1 O (X (i + 1)) 27
  rw [k1] at e2
  refine ⟨_, _, ?_, fin S2 m2⟩
  rw [B_law_law_460, lw_ld i2 hL i 1 1 rfl (by omega), Option.bind_some, if_pos (cr_O C), e1, Option.bind_some]
  dsimp only
  rw [lw_ld z1 hL i 1 1 rfl (by omega), Option.bind_some, if_pos o1, e2, Option.bind_some]
  dsimp only
  rw [if_pos rfl]
theorem law_number (I : lwI c0 L X A M h s) (hX : ∀ j, am_inI (X j)) (hL : L ≤ 3072) (hA : 1 ≤ A) (hM : A + 144 ≤ M) {i : Nat} (hi : i + 6 ≤ L) : ∃ h2 s2, EV 30 N_law_law T_law_law_483 [.inr (.inr (some (0))), .inr (.inr (some (A))), .inr (.inr (some (M))), .inl ((i : Int))] [] h = EV 30 N_law_law T_law_law_851 [.inr (.inr (some (0))), .inr (.inr (some (A))), .inr (.inr (some (M))), .inl ((i : Int))] [] h2 ∧ lwI c0 L X A M h2 s2 := by
  obtain ⟨t, ws, bs, hs, sh⟩ := s
  obtain ⟨i1, i2, C, O, _⟩ := id I
  obtain ⟨h1, e1, C1⟩ := no_number C O 9
  obtain ⟨z1, o1, S, k1, m1, fin⟩ := law_one I hA hM C1 (ok_number O)
  obtain ⟨S2, e2, m2⟩ := mo_number (m := M) (g := h1) (S := S) (t := t) (ws := ws) (bs := bs) (hs := hs) (sh := sh) m1 O 26
  rw [k1] at e2
  refine ⟨_, _, ?_, fin S2 m2⟩
  rw [B_law_law_483, if_pos (cr_O C), e1, Option.bind_some]
  dsimp only
  rw [if_pos o1, e2, Option.bind_some]
  dsimp only
  rw [if_pos rfl]
theorem law_rank (I : lwI c0 L X A M h s) (hX : ∀ j, am_inI (X j)) (hL : L ≤ 3072) (hA : 1 ≤ A) (hM : A + 144 ≤ M) {i : Nat} (hi : i + 6 ≤ L) : ∃ h2 s2, EV 30 N_law_law T_law_law_496 [.inr (.inr (some (0))), .inr (.inr (some (A))), .inr (.inr (some (M))), .inl ((i : Int))] [] h = EV 30 N_law_law T_law_law_851 [.inr (.inr (some (0))), .inr (.inr (some (A))), .inr (.inr (some (M))), .inl ((i : Int))] [] h2 ∧ lwI c0 L X A M h2 s2 := by
  obtain ⟨t, ws, bs, hs, sh⟩ := s
  obtain ⟨i1, i2, C, O, _⟩ := id I
  obtain ⟨h1, e1, C1⟩ := no_rank C O 9
  obtain ⟨z1, o1, S, k1, m1, fin⟩ := law_one I hA hM C1 (ok_rank O)
  obtain ⟨S2, e2, m2⟩ := mo_rank (m := M) (g := h1) (S := S) (t := t) (ws := ws) (bs := bs) (hs := hs) (sh := sh) m1 O 26
  rw [k1] at e2
  refine ⟨_, _, ?_, fin S2 m2⟩
  rw [B_law_law_496, if_pos (cr_O C), e1, Option.bind_some]
  dsimp only
  rw [if_pos o1, e2, Option.bind_some]
  dsimp only
  rw [if_pos rfl]
theorem law_word (I : lwI c0 L X A M h s) (hX : ∀ j, am_inI (X j)) (hL : L ≤ 3072) (hA : 1 ≤ A) (hM : A + 144 ≤ M) {i : Nat} (hi : i + 6 ≤ L) : ∃ h2 s2, EV 30 N_law_law T_law_law_509 [.inr (.inr (some (0))), .inr (.inr (some (A))), .inr (.inr (some (M))), .inl ((i : Int))] [] h = EV 30 N_law_law T_law_law_851 [.inr (.inr (some (0))), .inr (.inr (some (A))), .inr (.inr (some (M))), .inl ((i : Int))] [] h2 ∧ lwI c0 L X A M h2 s2 := by
  obtain ⟨t, ws, bs, hs, sh⟩ := s
  obtain ⟨i1, i2, C, O, _⟩ := id I
  obtain ⟨h1, e1, C1⟩ := no_word C O (X (i + 1)) (X (i + 2)) 9
  obtain ⟨z1, o1, S, k1, m1, fin⟩ := law_one I hA hM C1 (ok_word O _ _)
  obtain ⟨S2, e2, m2⟩ := mo_word (m := M) (g := h1) (S := S) (t := t) (ws := ws) (bs := bs) (hs := hs) (sh := sh) m1 O (X (i + 1)) (X (i + 2)) 28
  rw [k1] at e2
  refine ⟨_, _, ?_, fin S2 m2⟩
  rw [B_law_law_509, lw_ld i2 hL i 1 1 rfl (by omega), Option.bind_some, lw_ld i2 hL i 2 2 rfl (by omega), Option.bind_some, if_pos (cr_O C), e1, Option.bind_some]
  dsimp only
  rw [lw_ld z1 hL i 1 1 rfl (by omega), Option.bind_some, lw_ld z1 hL i 2 2 rfl (by omega), Option.bind_some, if_pos o1, e2, Option.bind_some]
  dsimp only
  rw [if_pos rfl]
theorem law_value (I : lwI c0 L X A M h s) (hX : ∀ j, am_inI (X j)) (hL : L ≤ 3072) (hA : 1 ≤ A) (hM : A + 144 ≤ M) {i : Nat} (hi : i + 6 ≤ L) : ∃ h2 s2, EV 30 N_law_law T_law_law_542 [.inr (.inr (some (0))), .inr (.inr (some (A))), .inr (.inr (some (M))), .inl ((i : Int))] [] h = EV 30 N_law_law T_law_law_851 [.inr (.inr (some (0))), .inr (.inr (some (A))), .inr (.inr (some (M))), .inl ((i : Int))] [] h2 ∧ lwI c0 L X A M h2 s2 := by
  obtain ⟨t, ws, bs, hs, sh⟩ := s
  obtain ⟨i1, i2, C, O, _⟩ := id I
  obtain ⟨h1, e1, C1⟩ := no_value C (X (i + 1)) 9
  obtain ⟨z1, o1, S, k1, m1, fin⟩ := law_one I hA hM C1 (ok_value O _)
  obtain ⟨S2, e2, m2⟩ := mo_value (m := M) (g := h1) (S := S) (t := t) (ws := ws) (bs := bs) (hs := hs) (sh := sh) m1 (X (i + 1)) 28
  rw [k1] at e2
  refine ⟨_, _, ?_, fin S2 m2⟩
  rw [B_law_law_542, lw_ld i2 hL i 1 1 rfl (by omega), Option.bind_some, if_pos (cr_O C), e1, Option.bind_some]
  dsimp only
  rw [lw_ld z1 hL i 1 1 rfl (by omega), Option.bind_some, if_pos o1, e2, Option.bind_some]
  dsimp only
  rw [if_pos rfl]
theorem law_first (I : lwI c0 L X A M h s) (hX : ∀ j, am_inI (X j)) (hL : L ≤ 3072) (hA : 1 ≤ A) (hM : A + 144 ≤ M) {i : Nat} (hi : i + 6 ≤ L) : ∃ h2 s2, EV 30 N_law_law T_law_law_565 [.inr (.inr (some (0))), .inr (.inr (some (A))), .inr (.inr (some (M))), .inl ((i : Int))] [] h = EV 30 N_law_law T_law_law_851 [.inr (.inr (some (0))), .inr (.inr (some (A))), .inr (.inr (some (M))), .inl ((i : Int))] [] h2 ∧ lwI c0 L X A M h2 s2 := by
  obtain ⟨t, ws, bs, hs, sh⟩ := s
  obtain ⟨i1, i2, C, O, _⟩ := id I
  obtain ⟨h1, e1, C1⟩ := no_first C O (X (i + 1)) 9
  obtain ⟨z1, o1, S, k1, m1, fin⟩ := law_one I hA hM C1 (ok_first O _)
  obtain ⟨S2, e2, m2⟩ := mo_first (m := M) (g := h1) (S := S) (t := t) (ws := ws) (bs := bs) (hs := hs) (sh := sh) m1 O (X (i + 1)) 28
  rw [k1] at e2
  refine ⟨_, _, ?_, fin S2 m2⟩
  rw [B_law_law_565, lw_ld i2 hL i 1 1 rfl (by omega), Option.bind_some, if_pos (cr_O C), e1, Option.bind_some]
  dsimp only
  rw [lw_ld z1 hL i 1 1 rfl (by omega), Option.bind_some, if_pos o1, e2, Option.bind_some]
  dsimp only
  rw [if_pos rfl]
theorem law_state (I : lwI c0 L X A M h s) (hX : ∀ j, am_inI (X j)) (hL : L ≤ 3072) (hA : 1 ≤ A) (hM : A + 144 ≤ M) {i : Nat} (hi : i + 6 ≤ L) : ∃ h2 s2, EV 30 N_law_law T_law_law_588 [.inr (.inr (some (0))), .inr (.inr (some (A))), .inr (.inr (some (M))), .inl ((i : Int))] [] h = EV 30 N_law_law T_law_law_851 [.inr (.inr (some (0))), .inr (.inr (some (A))), .inr (.inr (some (M))), .inl ((i : Int))] [] h2 ∧ lwI c0 L X A M h2 s2 := by
  obtain ⟨t, ws, bs, hs, sh⟩ := s
  obtain ⟨i1, i2, C, O, _⟩ := id I
  obtain ⟨h1, e1, C1⟩ := no_state C O 9
  obtain ⟨z1, o1, S, k1, m1, fin⟩ := law_one I hA hM C1 (ok_state O)
  obtain ⟨S2, e2, m2⟩ := mo_state (m := M) (g := h1) (S := S) (t := t) (ws := ws) (bs := bs) (hs := hs) (sh := sh) m1 O 24
  rw [k1] at e2
  refine ⟨_, _, ?_, fin S2 m2⟩
  rw [B_law_law_588, if_pos (cr_O C), e1, Option.bind_some]
  dsimp only
  rw [if_pos o1, e2, Option.bind_some]
  dsimp only
  rw [if_pos rfl]
theorem law_arc (I : lwI c0 L X A M h s) (hX : ∀ j, am_inI (X j)) (hL : L ≤ 3072) (hA : 1 ≤ A) (hM : A + 144 ≤ M) {i : Nat} (hi : i + 6 ≤ L) : ∃ h2 s2, EV 30 N_law_law T_law_law_601 [.inr (.inr (some (0))), .inr (.inr (some (A))), .inr (.inr (some (M))), .inl ((i : Int))] [] h = EV 30 N_law_law T_law_law_851 [.inr (.inr (some (0))), .inr (.inr (some (A))), .inr (.inr (some (M))), .inl ((i : Int))] [] h2 ∧ lwI c0 L X A M h2 s2 := by
  obtain ⟨t, ws, bs, hs, sh⟩ := s
  obtain ⟨i1, i2, C, O, _⟩ := id I
  obtain ⟨h1, e1, C1⟩ := no_arc C O (X (i + 1)) (X (i + 2)) (X (i + 3)) 9
  obtain ⟨z1, o1, S, k1, m1, fin⟩ := law_one I hA hM C1 (ok_arc O _ _ _)
  obtain ⟨S2, e2, m2⟩ := mo_arc (m := M) (g := h1) (S := S) (t := t) (ws := ws) (bs := bs) (hs := hs) (sh := sh) m1 O (x := X (i + 1)) (k := X (i + 2)) (w := X (i + 3)) (hX (i + 2)) 23
  rw [k1] at e2
  refine ⟨_, _, ?_, fin S2 m2⟩
  rw [B_law_law_601, lw_ld i2 hL i 1 1 rfl (by omega), Option.bind_some, lw_ld i2 hL i 2 2 rfl (by omega), Option.bind_some, lw_ld i2 hL i 3 3 rfl (by omega), Option.bind_some, if_pos (cr_O C), e1, Option.bind_some]
  dsimp only
  rw [lw_ld z1 hL i 1 1 rfl (by omega), Option.bind_some, lw_ld z1 hL i 2 2 rfl (by omega), Option.bind_some, lw_ld z1 hL i 3 3 rfl (by omega), Option.bind_some, if_pos o1, e2, Option.bind_some]
  dsimp only
  rw [if_pos rfl]
theorem law_about (I : lwI c0 L X A M h s) (hX : ∀ j, am_inI (X j)) (hL : L ≤ 3072) (hA : 1 ≤ A) (hM : A + 144 ≤ M) {i : Nat} (hi : i + 6 ≤ L) : ∃ h2 s2, EV 30 N_law_law T_law_law_644 [.inr (.inr (some (0))), .inr (.inr (some (A))), .inr (.inr (some (M))), .inl ((i : Int))] [] h = EV 30 N_law_law T_law_law_851 [.inr (.inr (some (0))), .inr (.inr (some (A))), .inr (.inr (some (M))), .inl ((i : Int))] [] h2 ∧ lwI c0 L X A M h2 s2 := by
  obtain ⟨t, ws, bs, hs, sh⟩ := s
  obtain ⟨i1, i2, C, O, _⟩ := id I
  obtain ⟨h1, e1, C1⟩ := no_about C O (X (i + 1)) (X (i + 2)) 9
  obtain ⟨z1, o1, S, k1, m1, fin⟩ := law_one I hA hM C1 (ok_about O _ _)
  obtain ⟨S2, e2, m2⟩ := mo_about (m := M) (g := h1) (S := S) (t := t) (ws := ws) (bs := bs) (hs := hs) (sh := sh) m1 O (X (i + 1)) (X (i + 2)) 23
  rw [k1] at e2
  refine ⟨_, _, ?_, fin S2 m2⟩
  rw [B_law_law_644, lw_ld i2 hL i 1 1 rfl (by omega), Option.bind_some, lw_ld i2 hL i 2 2 rfl (by omega), Option.bind_some, if_pos (cr_O C), e1, Option.bind_some]
  dsimp only
  rw [lw_ld z1 hL i 1 1 rfl (by omega), Option.bind_some, lw_ld z1 hL i 2 2 rfl (by omega), Option.bind_some, if_pos o1, e2, Option.bind_some]
  dsimp only
  rw [if_pos rfl]
theorem law_range (I : lwI c0 L X A M h s) (hX : ∀ j, am_inI (X j)) (hL : L ≤ 3072) (hA : 1 ≤ A) (hM : A + 144 ≤ M) {i : Nat} (hi : i + 6 ≤ L) : ∃ h2 s2, EV 30 N_law_law T_law_law_677 [.inr (.inr (some (0))), .inr (.inr (some (A))), .inr (.inr (some (M))), .inl ((i : Int))] [] h = EV 30 N_law_law T_law_law_851 [.inr (.inr (some (0))), .inr (.inr (some (A))), .inr (.inr (some (M))), .inl ((i : Int))] [] h2 ∧ lwI c0 L X A M h2 s2 := by
  obtain ⟨t, ws, bs, hs, sh⟩ := s
  obtain ⟨i1, i2, C, O, _⟩ := id I
  obtain ⟨h1, e1, C1⟩ := no_range C O (X (i + 1)) 9
  obtain ⟨z1, o1, S, k1, m1, fin⟩ := law_one I hA hM C1 (ok_range O _)
  obtain ⟨S2, e2, m2⟩ := mo_range (m := M) (g := h1) (S := S) (t := t) (ws := ws) (bs := bs) (hs := hs) (sh := sh) m1 O (X (i + 1)) 26
  rw [k1] at e2
  refine ⟨_, _, ?_, fin S2 m2⟩
  rw [B_law_law_677, lw_ld i2 hL i 1 1 rfl (by omega), Option.bind_some, if_pos (cr_O C), e1, Option.bind_some]
  dsimp only
  rw [lw_ld z1 hL i 1 1 rfl (by omega), Option.bind_some, if_pos o1, e2, Option.bind_some]
  dsimp only
  rw [if_pos rfl]
theorem law_near (I : lwI c0 L X A M h s) (hX : ∀ j, am_inI (X j)) (hL : L ≤ 3072) (hA : 1 ≤ A) (hM : A + 144 ≤ M) {i : Nat} (hi : i + 6 ≤ L) : ∃ h2 s2, EV 30 N_law_law T_law_law_700 [.inr (.inr (some (0))), .inr (.inr (some (A))), .inr (.inr (some (M))), .inl ((i : Int))] [] h = EV 30 N_law_law T_law_law_851 [.inr (.inr (some (0))), .inr (.inr (some (A))), .inr (.inr (some (M))), .inl ((i : Int))] [] h2 ∧ lwI c0 L X A M h2 s2 := by
  obtain ⟨t, ws, bs, hs, sh⟩ := s
  obtain ⟨i1, i2, C, O, _⟩ := id I
  obtain ⟨h1, e1, C1⟩ := no_near C O (X (i + 1)) (X (i + 2)) 9
  obtain ⟨z1, o1, S, k1, m1, fin⟩ := law_one I hA hM C1 (ok_near O _ _)
  obtain ⟨S2, e2, m2⟩ := mo_near (m := M) (g := h1) (S := S) (t := t) (ws := ws) (bs := bs) (hs := hs) (sh := sh) m1 O (X (i + 1)) (X (i + 2)) 27
  rw [k1] at e2
  refine ⟨_, _, ?_, fin S2 m2⟩
  rw [B_law_law_700, lw_ld i2 hL i 1 1 rfl (by omega), Option.bind_some, lw_ld i2 hL i 2 2 rfl (by omega), Option.bind_some, if_pos (cr_O C), e1, Option.bind_some]
  dsimp only
  rw [lw_ld z1 hL i 1 1 rfl (by omega), Option.bind_some, lw_ld z1 hL i 2 2 rfl (by omega), Option.bind_some, if_pos o1, e2, Option.bind_some]
  dsimp only
  rw [if_pos rfl]
theorem law_like (I : lwI c0 L X A M h s) (hX : ∀ j, am_inI (X j)) (hL : L ≤ 3072) (hA : 1 ≤ A) (hM : A + 144 ≤ M) {i : Nat} (hi : i + 6 ≤ L) : ∃ h2 s2, EV 30 N_law_law T_law_law_733 [.inr (.inr (some (0))), .inr (.inr (some (A))), .inr (.inr (some (M))), .inl ((i : Int))] [] h = EV 30 N_law_law T_law_law_851 [.inr (.inr (some (0))), .inr (.inr (some (A))), .inr (.inr (some (M))), .inl ((i : Int))] [] h2 ∧ lwI c0 L X A M h2 s2 := by
  obtain ⟨t, ws, bs, hs, sh⟩ := s
  obtain ⟨i1, i2, C, O, _⟩ := id I
  obtain ⟨h1, e1, C1⟩ := no_like C O (X (i + 1)) 9
  obtain ⟨z1, o1, S, k1, m1, fin⟩ := law_one I hA hM C1 (ok_like O _)
  obtain ⟨S2, e2, m2⟩ := mo_like (m := M) (g := h1) (S := S) (t := t) (ws := ws) (bs := bs) (hs := hs) (sh := sh) m1 O (X (i + 1)) 27
  rw [k1] at e2
  refine ⟨_, _, ?_, fin S2 m2⟩
  rw [B_law_law_733, lw_ld i2 hL i 1 1 rfl (by omega), Option.bind_some, if_pos (cr_O C), e1, Option.bind_some]
  dsimp only
  rw [lw_ld z1 hL i 1 1 rfl (by omega), Option.bind_some, if_pos o1, e2, Option.bind_some]
  dsimp only
  rw [if_pos rfl]
theorem law_best (I : lwI c0 L X A M h s) (hX : ∀ j, am_inI (X j)) (hL : L ≤ 3072) (hA : 1 ≤ A) (hM : A + 144 ≤ M) {i : Nat} (hi : i + 6 ≤ L) : ∃ h2 s2, EV 30 N_law_law T_law_law_756 [.inr (.inr (some (0))), .inr (.inr (some (A))), .inr (.inr (some (M))), .inl ((i : Int))] [] h = EV 30 N_law_law T_law_law_851 [.inr (.inr (some (0))), .inr (.inr (some (A))), .inr (.inr (some (M))), .inl ((i : Int))] [] h2 ∧ lwI c0 L X A M h2 s2 := by
  obtain ⟨t, ws, bs, hs, sh⟩ := s
  obtain ⟨i1, i2, C, O, _⟩ := id I
  obtain ⟨h1, e1, C1⟩ := no_best C O (X (i + 1)) 9
  obtain ⟨z1, o1, S, k1, m1, fin⟩ := law_one I hA hM C1 (ok_best O _)
  obtain ⟨S2, e2, m2⟩ := mo_best (m := M) (g := h1) (S := S) (t := t) (ws := ws) (bs := bs) (hs := hs) (sh := sh) m1 O (X (i + 1)) 26
  rw [k1] at e2
  refine ⟨_, _, ?_, fin S2 m2⟩
  rw [B_law_law_756, lw_ld i2 hL i 1 1 rfl (by omega), Option.bind_some, if_pos (cr_O C), e1, Option.bind_some]
  dsimp only
  rw [lw_ld z1 hL i 1 1 rfl (by omega), Option.bind_some, if_pos o1, e2, Option.bind_some]
  dsimp only
  rw [if_pos rfl]
theorem law_pieces (I : lwI c0 L X A M h s) (hX : ∀ j, am_inI (X j)) (hL : L ≤ 3072) (hA : 1 ≤ A) (hM : A + 144 ≤ M) {i : Nat} (hi : i + 6 ≤ L) : ∃ h2 s2, EV 30 N_law_law T_law_law_779 [.inr (.inr (some (0))), .inr (.inr (some (A))), .inr (.inr (some (M))), .inl ((i : Int))] [] h = EV 30 N_law_law T_law_law_851 [.inr (.inr (some (0))), .inr (.inr (some (A))), .inr (.inr (some (M))), .inl ((i : Int))] [] h2 ∧ lwI c0 L X A M h2 s2 := by
  obtain ⟨t, ws, bs, hs, sh⟩ := s
  obtain ⟨i1, i2, C, O, _⟩ := id I
  obtain ⟨h1, e1, C1⟩ := no_pieces C O (X (i + 1)) 9
  obtain ⟨z1, o1, S, k1, m1, fin⟩ := law_one I hA hM C1 (ok_pieces O _)
  obtain ⟨S2, e2, m2⟩ := mo_pieces (m := M) (g := h1) (S := S) (t := t) (ws := ws) (bs := bs) (hs := hs) (sh := sh) m1 O (X (i + 1)) 26
  rw [k1] at e2
  refine ⟨_, _, ?_, fin S2 m2⟩
  rw [B_law_law_779, lw_ld i2 hL i 1 1 rfl (by omega), Option.bind_some, if_pos (cr_O C), e1, Option.bind_some]
  dsimp only
  rw [lw_ld z1 hL i 1 1 rfl (by omega), Option.bind_some, if_pos o1, e2, Option.bind_some]
  dsimp only
  rw [if_pos rfl]
theorem law_pack (I : lwI c0 L X A M h s) (hX : ∀ j, am_inI (X j)) (hL : L ≤ 3072) (hA : 1 ≤ A) (hM : A + 144 ≤ M) {i : Nat} (hi : i + 6 ≤ L) : ∃ h2 s2, EV 30 N_law_law T_law_law_802 [.inr (.inr (some (0))), .inr (.inr (some (A))), .inr (.inr (some (M))), .inl ((i : Int))] [] h = EV 30 N_law_law T_law_law_851 [.inr (.inr (some (0))), .inr (.inr (some (A))), .inr (.inr (some (M))), .inl ((i : Int))] [] h2 ∧ lwI c0 L X A M h2 s2 := by
  obtain ⟨t, ws, bs, hs, sh⟩ := s
  obtain ⟨i1, i2, C, O, _⟩ := id I
  obtain ⟨h1, e1, C1⟩ := no_pack C O 9
  obtain ⟨z1, o1, S, k1, m1, fin⟩ := law_one I hA hM C1 (ok_pack O)
  obtain ⟨S2, e2, m2⟩ := mo_pack (m := M) (g := h1) (S := S) (t := t) (ws := ws) (bs := bs) (hs := hs) (sh := sh) m1 O 23
  rw [k1] at e2
  refine ⟨_, _, ?_, fin S2 m2⟩
  rw [B_law_law_802, if_pos (cr_O C), e1, Option.bind_some]
  dsimp only
  rw [if_pos o1, e2, Option.bind_some]
  dsimp only
  rw [if_pos rfl]
theorem law_unpack (I : lwI c0 L X A M h s) (hX : ∀ j, am_inI (X j)) (hL : L ≤ 3072) (hA : 1 ≤ A) (hM : A + 144 ≤ M) {i : Nat} (hi : i + 6 ≤ L) : ∃ h2 s2, EV 30 N_law_law T_law_law_815 [.inr (.inr (some (0))), .inr (.inr (some (A))), .inr (.inr (some (M))), .inl ((i : Int))] [] h = EV 30 N_law_law T_law_law_851 [.inr (.inr (some (0))), .inr (.inr (some (A))), .inr (.inr (some (M))), .inl ((i : Int))] [] h2 ∧ lwI c0 L X A M h2 s2 := by
  obtain ⟨t, ws, bs, hs, sh⟩ := s
  obtain ⟨i1, i2, C, O, _⟩ := id I
  obtain ⟨h1, e1, C1⟩ := no_unpack C O 9
  obtain ⟨z1, o1, S, k1, m1, fin⟩ := law_one I hA hM C1 (ok_unpack O)
  obtain ⟨S2, e2, m2⟩ := mo_unpack (m := M) (g := h1) (S := S) (t := t) (ws := ws) (bs := bs) (hs := hs) (sh := sh) m1 O 21
  rw [k1] at e2
  refine ⟨_, _, ?_, fin S2 m2⟩
  rw [B_law_law_815, if_pos (cr_O C), e1, Option.bind_some]
  dsimp only
  rw [if_pos o1, e2, Option.bind_some]
  dsimp only
  rw [if_pos rfl]
theorem law_count (I : lwI c0 L X A M h s) (hX : ∀ j, am_inI (X j)) (hL : L ≤ 3072) (hA : 1 ≤ A) (hM : A + 144 ≤ M) {i : Nat} (hi : i + 6 ≤ L) : ∃ h2 s2, EV 30 N_law_law T_law_law_828 [.inr (.inr (some (0))), .inr (.inr (some (A))), .inr (.inr (some (M))), .inl ((i : Int))] [] h = EV 30 N_law_law T_law_law_851 [.inr (.inr (some (0))), .inr (.inr (some (A))), .inr (.inr (some (M))), .inl ((i : Int))] [] h2 ∧ lwI c0 L X A M h2 s2 := by
  obtain ⟨t, ws, bs, hs, sh⟩ := s
  obtain ⟨i1, i2, C, O, _⟩ := id I
  obtain ⟨h1, e1, C1⟩ := no_count C O (X (i + 1)) 9
  obtain ⟨z1, o1, S, k1, m1, fin⟩ := law_one I hA hM C1 (ok_count O _)
  obtain ⟨S2, e2, m2⟩ := mo_count (m := M) (g := h1) (S := S) (t := t) (ws := ws) (bs := bs) (hs := hs) (sh := sh) m1 O (X (i + 1)) 23
  rw [k1] at e2
  refine ⟨_, _, ?_, fin S2 m2⟩
  rw [B_law_law_828, lw_ld i2 hL i 1 1 rfl (by omega), Option.bind_some, if_pos (cr_O C), e1, Option.bind_some]
  dsimp only
  rw [lw_ld z1 hL i 1 1 rfl (by omega), Option.bind_some, if_pos o1, e2, Option.bind_some]
  dsimp only
  rw [if_pos rfl]
theorem law_go (hX : ∀ j, am_inI (X j)) (hL : L ≤ 3072) (hA : 1 ≤ A) (hM : A + 144 ≤ M) : ∀ (m i : Nat) (h : am_H) (s : Sta), L ≤ i + m → i ≤ 3072 + 6 → lwI c0 L X A M h s → ∃ h', EV 30 N_law_law T_law_law_18 [.inr (.inr (some (0))), .inr (.inr (some (A))), .inr (.inr (some (M))), .inl ((i : Int))] [] h = some (some (.inl (1)), h') ∧ h'.1 = c0 := by
  have hln : ∀ {h : am_H} {s : Sta}, lwI c0 L X A M h s → am_ln h 0 = some (L : Int) := fun {h s} I => by
    unfold am_ln
    rw [I.2.1]
    rfl
  have stop : ∀ (i : Nat) (h : am_H) (s : Sta), L < i + 6 → i ≤ 3072 + 6 → lwI c0 L X A M h s → ∃ h', EV 30 N_law_law T_law_law_18 [.inr (.inr (some (0))), .inr (.inr (some (A))), .inr (.inr (some (M))), .inl ((i : Int))] [] h = some (some (.inl (1)), h') ∧ h'.1 = c0 := by
    intro i h s hi hi2 I
    refine ⟨h, ?_, I.1⟩
    rw [B_law_law_18, hln I, Option.bind_some, am_w_id (by omega) (by omega), if_pos (by omega), B_law_law_857]
  intro m
  induction m with
  | zero => intro i h s hi hi2 I; exact stop i h s (by omega) hi2 I
  | succ m ih =>
    intro i h s hi hi2 I
    by_cases c : i + 6 ≤ L
    · have st : EV 30 N_law_law T_law_law_18 [.inr (.inr (some (0))), .inr (.inr (some (A))), .inr (.inr (some (M))), .inl ((i : Int))] [] h = EV 30 N_law_law S_law_law_33 [.inr (.inr (some (0))), .inr (.inr (some (A))), .inr (.inr (some (M))), .inl ((i : Int))] [.inl (am_and (X i) 31)] h := by
        rw [B_law_law_18, hln I, Option.bind_some, am_w_id (by omega) (by omega), if_neg (by omega), B_law_law_27, rd_lIs I.2.1 (by omega) (by omega), Option.bind_some, Int.toNat_natCast]
      have nx : ∀ (h2 : am_H) (s2 : Sta), lwI c0 L X A M h2 s2 → ∃ h', EV 30 N_law_law T_law_law_851 [.inr (.inr (some (0))), .inr (.inr (some (A))), .inr (.inr (some (M))), .inl ((i : Int))] [] h2 = some (some (.inl (1)), h') ∧ h'.1 = c0 := by
        intro h2 s2 I2
        obtain ⟨h', e, r⟩ := ih (i + 6) h2 s2 (by omega) (by omega) I2
        refine ⟨h', ?_, r⟩
        rw [B_law_law_851, am_w_id (by omega) (by omega)]
        exact e
      have one : ∃ h2 s2, EV 30 N_law_law S_law_law_33 [.inr (.inr (some (0))), .inr (.inr (some (A))), .inr (.inr (some (M))), .inl ((i : Int))] [.inl (am_and (X i) 31)] h = EV 30 N_law_law T_law_law_851 [.inr (.inr (some (0))), .inr (.inr (some (A))), .inr (.inr (some (M))), .inl ((i : Int))] [] h2 ∧ lwI c0 L X A M h2 s2 := by
        generalize am_and (X i) 31 = v
        rcases (show v = 0 ∨ v = 1 ∨ v = 2 ∨ v = 3 ∨ v = 4 ∨ v = 5 ∨ v = 6 ∨ v = 7 ∨ v = 8 ∨ v = 9 ∨ v = 10 ∨ v = 11 ∨ v = 12 ∨ v = 13 ∨ v = 14 ∨ v = 15 ∨ v = 16 ∨ v = 17 ∨ v = 18 ∨ v = 19 ∨ v = 20 ∨ v = 21 ∨ v = 22 ∨ v = 23 ∨ v = 24 ∨ v = 25 ∨ v = 26 ∨ v = 27 ∨ v = 28 ∨ (v < 0 ∨ 28 < v) by omega) with rfl | rfl | rfl | rfl | rfl | rfl | rfl | rfl | rfl | rfl | rfl | rfl | rfl | rfl | rfl | rfl | rfl | rfl | rfl | rfl | rfl | rfl | rfl | rfl | rfl | rfl | rfl | rfl | rfl | cv
        · rw [C_law_law_33_0]; exact law_feed I hX hL hA hM c
        · rw [C_law_law_33_1]; exact law_end I hX hL hA hM c
        · rw [C_law_law_33_2]; exact law_octet I hX hL hA hM c
        · rw [C_law_law_33_3]; exact law_list I hX hL hA hM c
        · rw [C_law_law_33_4]; exact law_put I hX hL hA hM c
        · rw [C_law_law_33_5]; exact law_cut I hX hL hA hM c
        · rw [C_law_law_33_6]; exact law_raise I hX hL hA hM c
        · rw [C_law_law_33_7]; exact law_append I hX hL hA hM c
        · rw [C_law_law_33_8]; exact law_finish I hX hL hA hM c
        · rw [C_law_law_33_9]; exact law_join I hX hL hA hM c
        · rw [C_law_law_33_10]; exact law_undo I hX hL hA hM c
        · rw [C_law_law_33_11]; exact law_keep I hX hL hA hM c
        · rw [C_law_law_33_12]; exact law_same I hX hL hA hM c
        · rw [C_law_law_33_13]; exact law_number I hX hL hA hM c
        · rw [C_law_law_33_14]; exact law_rank I hX hL hA hM c
        · rw [C_law_law_33_15]; exact law_word I hX hL hA hM c
        · rw [C_law_law_33_16]; exact law_value I hX hL hA hM c
        · rw [C_law_law_33_17]; exact law_first I hX hL hA hM c
        · rw [C_law_law_33_18]; exact law_state I hX hL hA hM c
        · rw [C_law_law_33_19]; exact law_arc I hX hL hA hM c
        · rw [C_law_law_33_20]; exact law_about I hX hL hA hM c
        · rw [C_law_law_33_21]; exact law_range I hX hL hA hM c
        · rw [C_law_law_33_22]; exact law_near I hX hL hA hM c
        · rw [C_law_law_33_23]; exact law_like I hX hL hA hM c
        · rw [C_law_law_33_24]; exact law_best I hX hL hA hM c
        · rw [C_law_law_33_25]; exact law_pieces I hX hL hA hM c
        · rw [C_law_law_33_26]; exact law_pack I hX hL hA hM c
        · rw [C_law_law_33_27]; exact law_unpack I hX hL hA hM c
        · rw [C_law_law_33_28]; exact law_count I hX hL hA hM c
        · exact ⟨h, s, by rw [C_law_law_33_d _ _ _ _ cv], I⟩
      obtain ⟨h2, s2, e, I2⟩ := one
      obtain ⟨h', e2, r⟩ := nx h2 s2 I2
      exact ⟨h', by rw [st, e, e2], r⟩
    · exact stop i h s (by omega) hi2 I
end LAW
