/-! the class' machine: what is asked of states and arcs -/
section MA
variable {q b : Nat} {g : am_H} {S : Nat → Nat → Int} {ws : List wd} {P : Nat → Bool}
/-- where a state's arcs begin -/
def aB (ws : List wd) (s : Nat) : Nat := (((fst ws).take s).flatMap (kd ws)).length
/-- a machine that tells words, all told -/
def maF (S : Nat → Nat → Int) (ws : List wd) : Prop := maN S ws ∧ (S 15 0 = (nS ws : Int) ∧ (∀ s, s < nS ws → S 8 s = (fn ws s : Int)) ∧ ∀ j, j < nN ws → S 7 j = (stt ws j : Int)) ∧ S 16 0 = ((al ws).length : Int) ∧ rwP (S 13) (al ws) ∧ ∀ s, s ≤ nS ws → S 12 s = (aB ws s : Int)
theorem maF_of (H : maT S ws tt) : maF S ws := by
  have e := eO_tt ws
  unfold maT arP alO at H
  rw [e] at H
  obtain ⟨h1, ⟨h2, h3, h4⟩, h5, h6, h7⟩ := H
  have et : (rl (eR ws) tt (nN ws)).take ((rl (eR ws) tt (nN ws)).length + 1) = rl (eR ws) tt (nN ws) := List.take_of_length_le (by omega)
  have e1 : fsO ws tt (nN ws) = fst ws := by show rl (eO ws tt) tt (nN ws) = rl (eR ws) tt (nN ws); rw [e]
  rw [e1] at h2 h3 h5 h6 h7
  rw [et] at h5 h6
  refine ⟨h1, ⟨h2, fun s hs => h3 s _ (fst_lt hs).2, h4⟩, h5, h6, fun s hs => ?_⟩
  exact h7 s (by show s < (fst ws).length + 1; have : nS ws = (fst ws).length := rfl; omega)
theorem maF.fr {S' : Nat → Nat → Int} (H : maF S ws) (h : ∀ k, k ≤ 8 ∨ 12 ≤ k → S' k = S k) : maF S' ws := by
  unfold maF maN trP nvP msP at *
  rw [h 14 (by decide), h 0 (by decide), h 1 (by decide), h 2 (by decide), h 3 (by decide), h 4 (by decide), h 5 (by decide), h 15 (by decide), h 8 (by decide), h 7 (by decide), h 16 (by decide), h 13 (by decide), h 12 (by decide)]
  exact H
theorem aB_s {s : Nat} (hs : s < nS ws) : aB ws (s + 1) = aB ws s + (kd ws (fn ws s)).length := by
  unfold aB
  rw [tk_s (fst_lt hs).2, List.flatMap_append, List.length_append, List.flatMap_singleton]
theorem aB_le (ws : List wd) (s : Nat) : aB ws s ≤ (al ws).length := fm_take _ _
theorem al_lt (ws : List wd) : (al ws).length < nN ws := arc_lt
theorem al_get {s i : Nat} (hs : s < nS ws) (hi : i < (kd ws (fn ws s)).length) : (al ws)[aB ws s + i]? = (kd ws (fn ws s))[i]? := by
  have h := (fst_lt hs).2
  have e : al ws = ((fst ws).take s).flatMap (kd ws) ++ (kd ws (fn ws s) ++ ((fst ws).drop (s + 1)).flatMap (kd ws)) := by
    unfold al
    conv => lhs; rw [← List.take_append_drop (s + 1) (fst ws)]
    rw [List.flatMap_append, tk_s h, List.flatMap_append, List.flatMap_singleton, List.append_assoc]
  rw [e]
  unfold aB
  rw [List.getElem?_append_right (by omega), Nat.add_sub_cancel_left, List.getElem?_append_left hi]
theorem ma_arcsFrom (hok : ok ws) (H : maF S ws) {s : Nat} (hs : s < nS ws) (d : Nat) : am_cI d N_ma_arcsFrom [.inr (.inr (some (q))), .inl ((s : Int))] (maH q g S) = some (((kd ws (fn ws s)).length : Int), maH q g S) := by
  have hn2 := nS_le hok
  have hN' : nN ws ≤ 1001 := ND_len hok
  have h0 := H.2.2.2.2 s (by omega)
  have h1 := H.2.2.2.2 (s + 1) (by omega)
  have h2 := aB_s hs
  have h3 := aB_le ws (s + 1)
  have h4 := al_lt ws
  have e9 : (s : Int) + 1 = ((s + 1 : Nat) : Int) := by omega
  have e8 : (aB ws (s + 1) : Int) - (aB ws s : Int) = ((kd ws (fn ws s)).length : Int) := by omega
  apply am_cI_of
  (try dsimp only); rw [en_ma_arcsFrom]; (try simp (disch := omega) only [Option.bind_some, if_true, if_false, eq_self, not_true_eq_false, not_false_eq_true, am_w_id, if_pos, if_neg, fu_self, fu_ne, Int.toNat_natCast, e9, h0, h1, e8]); rw [B_ma_arcsFrom_0]; (try simp (disch := omega) only [Option.bind_some, if_true, if_false, eq_self, not_true_eq_false, not_false_eq_true, am_w_id, if_pos, if_neg, fu_self, fu_ne, Int.toNat_natCast, ma_gR_12, ma_l_12, ma_s_12, e9, h0, h1, e8])
theorem ma_arcNode (hok : ok ws) (H : maF S ws) {s i : Nat} (hs : s < nS ws) (hi : i < (kd ws (fn ws s)).length) (d : Nat) : am_cI d N_ma_arcNode [.inr (.inr (some (q))), .inl ((s : Int)), .inl ((i : Int))] (maH q g S) = some (((kd ws (fn ws s)).getD i 0 : Int), maH q g S) := by
  have hn2 := nS_le hok
  have hN' : nN ws ≤ 1001 := ND_len hok
  have h0 := H.2.2.2.2 s (by omega)
  have h2 := aB_s hs
  have h3 := aB_le ws (s + 1)
  have h4 := al_lt ws
  have hg : (kd ws (fn ws s))[i]? = some ((kd ws (fn ws s)).getD i 0) := by rw [List.getD_eq_getElem?_getD, List.getElem?_eq_getElem hi]; rfl
  have h5 := H.2.2.2.1 (aB ws s + i) _ ((al_get hs hi).trans hg)
  have e9 : (aB ws s : Int) + (i : Int) = ((aB ws s + i : Nat) : Int) := by omega
  apply am_cI_of
  (try dsimp only); rw [en_ma_arcNode]; (try simp (disch := omega) only [Option.bind_some, if_true, if_false, eq_self, not_true_eq_false, not_false_eq_true, am_w_id, if_pos, if_neg, fu_self, fu_ne, Int.toNat_natCast, h0, e9, h5]); rw [B_ma_arcNode_0]; (try simp (disch := omega) only [Option.bind_some, if_true, if_false, eq_self, not_true_eq_false, not_false_eq_true, am_w_id, if_pos, if_neg, fu_self, fu_ne, Int.toNat_natCast, ma_gR_13, ma_l_13, ma_s_13, ma_gR_12, ma_l_12, ma_s_12, h0, e9, h5])
theorem ma_nextState (hok : ok ws) (H : maF S ws) {s : Nat} (hs : s < nS ws) (x : Int) (d : Nat) : ∃ v, am_cI d N_ma_nextState [.inr (.inr (some (q))), .inl ((s : Int)), .inl (x)] (maH q g S) = some (v, maH q g S) ∧ ((∃ c ∈ kd ws (fn ws s), ll ws c = x ∧ v = (stt ws c : Int)) ∨ ((∀ c ∈ kd ws (fn ws s), ll ws c ≠ x) ∧ v = -1)) := by
  have hn2 := nS_le hok
  have hN' : nN ws ≤ 1001 := ND_len hok
  have h0 := H.2.2.2.2 s (by omega)
  have h1 := H.2.2.2.2 (s + 1) (by omega)
  have h2 := aB_s hs
  have h3 := aB_le ws (s + 1)
  have h4 := al_lt ws
  have e9 : (s : Int) + 1 = ((s + 1 : Nat) : Int) := by omega
  have key : ∃ v, am_call d N_ma_nextState [.inr (.inr (some (q))), .inl ((s : Int)), .inl (x)] (maH q g S) = some (some (.inl v), maH q g S) ∧ ((∃ c ∈ kd ws (fn ws s), ll ws c = x ∧ v = (stt ws c : Int)) ∨ ((∀ c ∈ kd ws (fn ws s), ll ws c ≠ x) ∧ v = -1)) := by
    have st : am_call d N_ma_nextState [.inr (.inr (some (q))), .inl ((s : Int)), .inl (x)] (maH q g S) = EV d N_ma_nextState T_ma_nextState_7 [.inr (.inr (some (q))), .inl ((s : Int)), .inl (x), .inl (((aB ws s + 0 : Nat) : Int))] [] (maH q g S) := by
      (try dsimp only); rw [en_ma_nextState]; (try simp (disch := omega) only [Option.bind_some, if_true, if_false, eq_self, not_true_eq_false, not_false_eq_true, am_w_id, if_pos, if_neg, fu_self, fu_ne, Int.toNat_natCast, h0]); rw [B_ma_nextState_0]; (try simp (disch := omega) only [Option.bind_some, if_true, if_false, eq_self, not_true_eq_false, not_false_eq_true, am_w_id, if_pos, if_neg, fu_self, fu_ne, Int.toNat_natCast, ma_gR_12, ma_l_12, ma_s_12, h0])
      rfl
    rw [st]
    refine am_loop (S := Nat) (F := fun i => EV d N_ma_nextState T_ma_nextState_7 [.inr (.inr (some (q))), .inl ((s : Int)), .inl (x), .inl (((aB ws s + i : Nat) : Int))] [] (maH q g S)) (I := fun i => i ≤ (kd ws (fn ws s)).length ∧ ∀ j c, j < i → (kd ws (fn ws s))[j]? = some c → ll ws c ≠ x)
      (R := fun o => ∃ v, o = some (some (.inl v), maH q g S) ∧ ((∃ c ∈ kd ws (fn ws s), ll ws c = x ∧ v = (stt ws c : Int)) ∨ ((∀ c ∈ kd ws (fn ws s), ll ws c ≠ x) ∧ v = -1))) (fun i => (kd ws (fn ws s)).length - i) ?_ 0 ⟨Nat.zero_le _, fun j c hj => by omega⟩
    rintro i ⟨i1, i2⟩
    by_cases ci : i = (kd ws (fn ws s)).length
    · left
      refine ⟨-1, ?_, Or.inr ⟨fun c hc => ?_, rfl⟩⟩
      · have cle : (aB ws (s + 1) : Int) ≤ ((aB ws s + i : Nat) : Int) := by omega
        (try dsimp only); rw [B_ma_nextState_7]; (try simp (disch := omega) only [Option.bind_some, if_true, if_false, eq_self, not_true_eq_false, not_false_eq_true, am_w_id, if_pos, if_neg, fu_self, fu_ne, Int.toNat_natCast, ma_gR_12, ma_l_12, ma_s_12, e9, h1, cle]); rw [B_ma_nextState_52]; (try simp (disch := omega) only [Option.bind_some, if_true, if_false, eq_self, not_true_eq_false, not_false_eq_true, am_w_id, if_pos, if_neg, fu_self, fu_ne, Int.toNat_natCast, e9, h1, cle])
      · obtain ⟨j, hj⟩ := List.getElem?_of_mem hc
        have := (List.getElem?_eq_some_iff.mp hj).1
        exact i2 j c (by omega) hj
    · have hi : i < (kd ws (fn ws s)).length := by omega
      obtain ⟨c, hc⟩ : ∃ c, (kd ws (fn ws s))[i]? = some c := ⟨_, List.getElem?_eq_getElem hi⟩
      have hm := List.mem_of_getElem? hc
      have hcN := kd_lt hm
      have h5 := H.2.2.2.1 (aB ws s + i) c ((al_get hs hi).trans hc)
      have c0 := (H.1.2.1 c hcN).1
      have c7 := H.2.1.2.2 c hcN
      have cle : ¬ (aB ws (s + 1) : Int) ≤ ((aB ws s + i : Nat) : Int) := by omega
      by_cases cx : ll ws c = x
      · left
        refine ⟨(stt ws c : Int), ?_, Or.inl ⟨c, hm, cx, rfl⟩⟩
        (try dsimp only); rw [B_ma_nextState_7]; (try simp (disch := omega) only [Option.bind_some, if_true, if_false, eq_self, not_true_eq_false, not_false_eq_true, am_w_id, if_pos, if_neg, fu_self, fu_ne, Int.toNat_natCast, ma_gR_12, ma_l_12, ma_s_12, e9, h1, cle, h5, c0, c7, cx]); rw [B_ma_nextState_19]; (try simp (disch := omega) only [Option.bind_some, if_true, if_false, eq_self, not_true_eq_false, not_false_eq_true, am_w_id, if_pos, if_neg, fu_self, fu_ne, Int.toNat_natCast, ma_gR_0, ma_l_0, ma_s_0, ma_gR_13, ma_l_13, ma_s_13, e9, h1, cle, h5, c0, c7, cx]); rw [B_ma_nextState_34]; (try simp (disch := omega) only [Option.bind_some, if_true, if_false, eq_self, not_true_eq_false, not_false_eq_true, am_w_id, if_pos, if_neg, fu_self, fu_ne, Int.toNat_natCast, ma_gR_7, ma_l_7, ma_s_7, ma_gR_13, ma_l_13, ma_s_13, e9, h1, cle, h5, c0, c7, cx])
      · right
        refine ⟨i + 1, ⟨by omega, fun j c' hj hc' => ?_⟩, by omega, ?_⟩
        · by_cases cj : j = i
          · rw [cj, hc] at hc'
            injection hc' with hc'
            rw [← hc']
            exact cx
          · exact i2 j c' (by omega) hc'
        · have e8 : ((aB ws s + i : Nat) : Int) + 1 = ((aB ws s + (i + 1) : Nat) : Int) := by omega
          (try dsimp only); rw [B_ma_nextState_7]; (try simp (disch := omega) only [Option.bind_some, if_true, if_false, eq_self, not_true_eq_false, not_false_eq_true, am_w_id, if_pos, if_neg, fu_self, fu_ne, Int.toNat_natCast, ma_gR_12, ma_l_12, ma_s_12, e9, h1, cle, h5, c0, cx, e8]); rw [B_ma_nextState_19]; (try simp (disch := omega) only [Option.bind_some, if_true, if_false, eq_self, not_true_eq_false, not_false_eq_true, am_w_id, if_pos, if_neg, fu_self, fu_ne, Int.toNat_natCast, ma_gR_0, ma_l_0, ma_s_0, ma_gR_13, ma_l_13, ma_s_13, e9, h1, cle, h5, c0, cx, e8]); rw [B_ma_nextState_46]; (try simp (disch := omega) only [Option.bind_some, if_true, if_false, eq_self, not_true_eq_false, not_false_eq_true, am_w_id, if_pos, if_neg, fu_self, fu_ne, Int.toNat_natCast, e9, h1, cle, h5, c0, cx, e8])
  obtain ⟨v, e, h⟩ := key
  exact ⟨v, am_cI_of e, h⟩
theorem fn_R {n : Nat} (hn : n < nN ws) : fn ws (stt ws n) < nN ws ∧ R ws (pn ws (fn ws (stt ws n))) = R ws (pn ws n) := by
  obtain ⟨j, h1, h2, h3⟩ := stt_get hn
  have : fn ws (stt ws n) = j := by unfold fn; rw [List.getD_eq_getElem?_getD, h1]; rfl
  rw [this]
  exact ⟨h2, h3⟩
theorem ma_stateBehind (hok : ok ws) (H : maF S ws) {w : List Int} (hw : wl w) (hl : w.length ≤ 10) (d : Nat) : ∃ v, am_cI (d + 3) N_ma_stateBehind [.inr (.inr (some (q))), .inr (.inl (ec 10 w))] (maH q g S) = some (v, maH q g S) ∧ ((bg ws w ∧ v = (stt ws (ix ws w) : Int)) ∨ (¬ bg ws w ∧ v = -1)) := by
  have hs := hok.2.1
  have hN' : nN ws ≤ 1001 := ND_len hok
  have hli := fun (d : Nat) (h : am_H) => c_lettersIn d h hw hl
  have key : ∃ v, am_call (d + 3) N_ma_stateBehind [.inr (.inr (some (q))), .inr (.inl (ec 10 w))] (maH q g S) = some (some (.inl v), maH q g S) ∧ ((bg ws w ∧ v = (stt ws (ix ws w) : Int)) ∨ (¬ bg ws w ∧ v = -1)) := by
    have st : am_call (d + 3) N_ma_stateBehind [.inr (.inr (some (q))), .inr (.inl (ec 10 w))] (maH q g S) = EV (d + 3) N_ma_stateBehind T_ma_stateBehind_11 [.inr (.inr (some (q))), .inr (.inl (ec 10 w)), am_nul, .inl ((stt ws (ix ws (w.take 0)) : Int)), .inl ((w.length : Int)), .inl (((0 : Nat) : Int))] [] (maH q g S) := by
      have e0 : ix ws (w.take 0) = 0 := by
        have := ix_pn (ws := ws) hs nN_pos
        rw [pn0] at this
        rw [List.take_zero]
        exact this
      rw [e0, stt_0]
      (try dsimp only); rw [en_ma_stateBehind]; (try simp (disch := omega) only [Option.bind_some, if_true, if_false, eq_self, not_true_eq_false, not_false_eq_true, am_w_id, if_pos, if_neg, fu_self, fu_ne, Int.toNat_natCast, hli]); rw [B_ma_stateBehind_0]; (try simp (disch := omega) only [Option.bind_some, if_true, if_false, eq_self, not_true_eq_false, not_false_eq_true, am_w_id, if_pos, if_neg, fu_self, fu_ne, Int.toNat_natCast, hli])
      rfl
    rw [st]
    refine am_loop (S := Nat × Int) (F := fun z => EV (d + 3) N_ma_stateBehind T_ma_stateBehind_11 [.inr (.inr (some (q))), .inr (.inl (ec 10 w)), am_nul, .inl (z.2), .inl ((w.length : Int)), .inl ((z.1 : Int))] [] (maH q g S)) (I := fun z => z.1 ≤ w.length ∧ ((bg ws (w.take z.1) ∧ z.2 = (stt ws (ix ws (w.take z.1)) : Int)) ∨ (¬ bg ws (w.take z.1) ∧ z.2 = -1)))
      (R := fun o => ∃ v, o = some (some (.inl v), maH q g S) ∧ ((bg ws w ∧ v = (stt ws (ix ws w) : Int)) ∨ (¬ bg ws w ∧ v = -1))) (fun z => w.length - z.1) ?_ (0, _) ⟨Nat.zero_le _, Or.inl ⟨Or.inl (List.take_zero), rfl⟩⟩
    rintro ⟨i, v⟩ ⟨i1, i2⟩
    dsimp only at i1 i2 ⊢
    by_cases ci : i = w.length
    · left
      rw [ci, List.take_length] at i2
      refine ⟨v, ?_, i2⟩
      rw [ci]
      (try dsimp only); rw [B_ma_stateBehind_11]; (try simp (disch := omega) only [Option.bind_some, if_true, if_false, eq_self, not_true_eq_false, not_false_eq_true, am_w_id, if_pos, if_neg, fu_self, fu_ne, Int.toNat_natCast]); rw [B_ma_stateBehind_41]; (try simp (disch := omega) only [Option.bind_some, if_true, if_false, eq_self, not_true_eq_false, not_false_eq_true, am_w_id, if_pos, if_neg, fu_self, fu_ne, Int.toNat_natCast])
    · rcases i2 with ⟨hb, rfl⟩ | ⟨hb, rfl⟩
      · right
        have hiN := ix_lt hs hb
        have hpn := pn_ix hs hb
        obtain ⟨f1, f2⟩ := fn_R hiN
        rw [hpn] at f2
        have hsn := stt_lt (ws := ws) hiN
        have hlet := fun (d : Nat) (h : am_H) => c_letter d h hw (show i < 10 by omega)
        obtain ⟨v, e, hv⟩ := ma_nextState (q := q) (g := g) (S := S) hok H hsn (w.getD i 0) (d + 2)
        have htk : w.take (i + 1) = w.take i ++ [w.getD i 0] := by rw [tk_s (List.getElem?_eq_getElem (show i < w.length by omega)), gd_s (show i < w.length by omega)]
        have c1 : ¬ (w.length : Int) ≤ (i : Int) := by omega
        have c2 : ¬ (stt ws (ix ws (w.take i)) : Int) = -1 := by omega
        have e9 : (i : Int) + 1 = ((i + 1 : Nat) : Int) := by omega
        refine ⟨(i + 1, v), ⟨by dsimp only; omega, ?_⟩, by dsimp only; omega, ?_⟩
        · dsimp only
          rw [htk]
          rcases hv with ⟨c, hc, hcl, hcv⟩ | ⟨hc, hcv⟩
          · obtain ⟨k1, k2, k3⟩ := kd_ll hs f1 hc
            rw [hcl] at k1 k2
            have hb2 := (R_bg f2 (s := [w.getD i 0]) (by simp)).mp k2
            refine Or.inl ⟨hb2, ?_⟩
            rw [hcv]
            have : stt ws c = stt ws (ix ws (w.take i ++ [w.getD i 0])) := stt_iff.mpr (by rw [pn_ix hs hb2, k1]; exact R_sub hok.1 hs f2 (by simp) k2)
            rw [this]
          · refine Or.inr ⟨fun hb2 => ?_, hcv⟩
            have hb3 := (R_bg f2 (s := [w.getD i 0]) (by simp)).mpr hb2
            have hm := (kd_mem hs f1).mpr ⟨_, hb3, rfl⟩
            refine hc _ hm ?_
            unfold ll
            rw [pn_ix hs hb3]
            simp
        · (try dsimp only); rw [B_ma_stateBehind_11]; (try simp (disch := omega) only [Option.bind_some, if_true, if_false, eq_self, not_true_eq_false, not_false_eq_true, am_w_id, if_pos, if_neg, fu_self, fu_ne, Int.toNat_natCast, c1, c2, hlet, e, e9]); rw [B_ma_stateBehind_18]; (try simp (disch := omega) only [Option.bind_some, if_true, if_false, eq_self, not_true_eq_false, not_false_eq_true, am_w_id, if_pos, if_neg, fu_self, fu_ne, Int.toNat_natCast, c1, c2, hlet, e, e9]); rw [B_ma_stateBehind_23]; (try simp (disch := omega) only [Option.bind_some, if_true, if_false, eq_self, not_true_eq_false, not_false_eq_true, am_w_id, if_pos, if_neg, fu_self, fu_ne, Int.toNat_natCast, ma_O, c1, c2, hlet, e, e9])
      · left
        refine ⟨-1, ?_, Or.inr ⟨fun h => hb (bg_pf h (List.take_prefix _ _)), rfl⟩⟩
        have c1 : ¬ (w.length : Int) ≤ (i : Int) := by omega
        (try dsimp only); rw [B_ma_stateBehind_11]; (try simp (disch := omega) only [Option.bind_some, if_true, if_false, eq_self, not_true_eq_false, not_false_eq_true, am_w_id, if_pos, if_neg, fu_self, fu_ne, Int.toNat_natCast, c1]); rw [B_ma_stateBehind_18]; (try simp (disch := omega) only [Option.bind_some, if_true, if_false, eq_self, not_true_eq_false, not_false_eq_true, am_w_id, if_pos, if_neg, fu_self, fu_ne, Int.toNat_natCast, c1]); rw [B_ma_stateBehind_41]; (try simp (disch := omega) only [Option.bind_some, if_true, if_false, eq_self, not_true_eq_false, not_false_eq_true, am_w_id, if_pos, if_neg, fu_self, fu_ne, Int.toNat_natCast, c1])
  obtain ⟨v, e, h⟩ := key
  exact ⟨v, am_cI_of e, h⟩
theorem fi_snoc {G : Int → Nat → Int} : ∀ (n a : Nat) (b : Int), fi G a (n + 1) b = G (fi G a n b) (a + n)
  | 0, a, b => rfl
  | n + 1, a, b => by
    have ih := fi_snoc (G := G) n (a + 1) (G b a)
    show fi G (a + 1) (n + 1) (G b a) = _
    rw [ih, show a + 1 + n = a + (n + 1) by omega]
    rfl
theorem ma_shortestBeginning (hok : ok ws) (H : maF S ws) (s : Int) (d : Nat) : am_cI d N_ma_shortestBeginning [.inr (.inr (some (q))), .inl (s)] (maH q g S) = some (sBg ws s, maH q g S) := by
  have hN' : nN ws ≤ 1001 := ND_len hok
  have h14 := H.1.1
  apply am_cI_of
  have lp := am_for (F := fun i => EV d N_ma_shortestBeginning T_ma_shortestBeginning_5 [.inr (.inr (some (q))), .inl (s), .inl (fi (fun b k => if (stt ws k : Int) = s then am_min b ((pn ws k).length : Int) else b) 0 i 10), .inl ((i : Int))] [] (maH q g S)) (k := 0) (n := nN ws) (Nat.zero_le _) (fun i _ hi => by
    have e9 : (i : Int) + 1 = ((i + 1 : Nat) : Int) := by omega
    have i7 := H.2.1.2.2 i hi
    have i1 := (H.1.2.1 i hi).2.1
    rw [fi_snoc, Nat.zero_add]
    by_cases c : (stt ws i : Int) = s
    · rw [if_pos c]
      (try dsimp only); rw [B_ma_shortestBeginning_5]; (try simp (disch := omega) only [Option.bind_some, if_true, if_false, eq_self, not_true_eq_false, not_false_eq_true, am_w_id, if_pos, if_neg, fu_self, fu_ne, Int.toNat_natCast, ma_gI_14, ma_p_14, h14, i7, i1, c, e9]); rw [B_ma_shortestBeginning_13]; (try simp (disch := omega) only [Option.bind_some, if_true, if_false, eq_self, not_true_eq_false, not_false_eq_true, am_w_id, if_pos, if_neg, fu_self, fu_ne, Int.toNat_natCast, ma_gR_7, ma_l_7, ma_s_7, h14, i7, i1, c, e9]); rw [B_ma_shortestBeginning_23]; (try simp (disch := omega) only [Option.bind_some, if_true, if_false, eq_self, not_true_eq_false, not_false_eq_true, am_w_id, if_pos, if_neg, fu_self, fu_ne, Int.toNat_natCast, ma_gR_1, ma_l_1, ma_s_1, h14, i7, i1, c, e9]); rw [B_ma_shortestBeginning_34]; (try simp (disch := omega) only [Option.bind_some, if_true, if_false, eq_self, not_true_eq_false, not_false_eq_true, am_w_id, if_pos, if_neg, fu_self, fu_ne, Int.toNat_natCast, h14, i7, i1, c, e9])
    · rw [if_neg c]
      (try dsimp only); rw [B_ma_shortestBeginning_5]; (try simp (disch := omega) only [Option.bind_some, if_true, if_false, eq_self, not_true_eq_false, not_false_eq_true, am_w_id, if_pos, if_neg, fu_self, fu_ne, Int.toNat_natCast, ma_gI_14, ma_p_14, h14, i7, c, e9]); rw [B_ma_shortestBeginning_13]; (try simp (disch := omega) only [Option.bind_some, if_true, if_false, eq_self, not_true_eq_false, not_false_eq_true, am_w_id, if_pos, if_neg, fu_self, fu_ne, Int.toNat_natCast, ma_gR_7, ma_l_7, ma_s_7, h14, i7, c, e9]); rw [B_ma_shortestBeginning_34]; (try simp (disch := omega) only [Option.bind_some, if_true, if_false, eq_self, not_true_eq_false, not_false_eq_true, am_w_id, if_pos, if_neg, fu_self, fu_ne, Int.toNat_natCast, h14, i7, c, e9]))
  have st : am_call d N_ma_shortestBeginning [.inr (.inr (some (q))), .inl (s)] (maH q g S) = EV d N_ma_shortestBeginning T_ma_shortestBeginning_5 [.inr (.inr (some (q))), .inl (s), .inl (10), .inl (((0 : Nat) : Int))] [] (maH q g S) := by
    (try dsimp only); rw [en_ma_shortestBeginning]; (try simp (disch := omega) only [Option.bind_some, if_true, if_false, eq_self, not_true_eq_false, not_false_eq_true, am_w_id, if_pos, if_neg, fu_self, fu_ne, Int.toNat_natCast]); rw [B_ma_shortestBeginning_0]; (try simp (disch := omega) only [Option.bind_some, if_true, if_false, eq_self, not_true_eq_false, not_false_eq_true, am_w_id, if_pos, if_neg, fu_self, fu_ne, Int.toNat_natCast])
    rfl
  refine st.trans (lp.trans ?_)
  unfold sBg
  (try dsimp only); rw [B_ma_shortestBeginning_5]; (try simp (disch := omega) only [Option.bind_some, if_true, if_false, eq_self, not_true_eq_false, not_false_eq_true, am_w_id, if_pos, if_neg, fu_self, fu_ne, Int.toNat_natCast, ma_gI_14, ma_p_14, h14]); rw [B_ma_shortestBeginning_40]; (try simp (disch := omega) only [Option.bind_some, if_true, if_false, eq_self, not_true_eq_false, not_false_eq_true, am_w_id, if_pos, if_neg, fu_self, fu_ne, Int.toNat_natCast, h14])
theorem fi_bd {p : Nat → Prop} [DecidablePred p] : ∀ (n a : Nat) (b : Int), b ≤ fi (fun b c => if p c then b + 1 else b) a n b ∧ fi (fun b c => if p c then b + 1 else b) a n b ≤ b + n := by
  intro n a b
  rw [fi_cnt]
  have h := List.length_filter_le (fun c => decide (p c)) (List.range' a n)
  rw [List.length_range'] at h
  omega
theorem ma_beginningsOf (hok : ok ws) (H : maF S ws) (s : Int) (d : Nat) : am_cI d N_ma_beginningsOf [.inr (.inr (some (q))), .inl (s)] (maH q g S) = some (nBg ws s, maH q g S) := by
  have hN' : nN ws ≤ 1001 := ND_len hok
  have h14 := H.1.1
  apply am_cI_of
  have lp := am_for (F := fun i => EV d N_ma_beginningsOf T_ma_beginningsOf_4 [.inr (.inr (some (q))), .inl (s), .inl (fi (fun b k => if (stt ws k : Int) = s then b + 1 else b) 0 i 0), .inl ((i : Int))] [] (maH q g S)) (k := 0) (n := nN ws) (Nat.zero_le _) (fun i _ hi => by
    have e9 : (i : Int) + 1 = ((i + 1 : Nat) : Int) := by omega
    have i7 := H.2.1.2.2 i hi
    have hb := fi_bd (p := fun k => (stt ws k : Int) = s) i 0 0
    rw [fi_snoc, Nat.zero_add]
    generalize fi (fun b k => if (stt ws k : Int) = s then b + 1 else b) 0 i 0 = y at *
    by_cases c : (stt ws i : Int) = s
    · rw [if_pos c]
      (try dsimp only); rw [B_ma_beginningsOf_4]; (try simp (disch := omega) only [Option.bind_some, if_true, if_false, eq_self, not_true_eq_false, not_false_eq_true, am_w_id, if_pos, if_neg, fu_self, fu_ne, Int.toNat_natCast, ma_gI_14, ma_p_14, h14, i7, c, e9]); rw [B_ma_beginningsOf_12]; (try simp (disch := omega) only [Option.bind_some, if_true, if_false, eq_self, not_true_eq_false, not_false_eq_true, am_w_id, if_pos, if_neg, fu_self, fu_ne, Int.toNat_natCast, ma_gR_7, ma_l_7, ma_s_7, h14, i7, c, e9]); rw [B_ma_beginningsOf_22]; (try simp (disch := omega) only [Option.bind_some, if_true, if_false, eq_self, not_true_eq_false, not_false_eq_true, am_w_id, if_pos, if_neg, fu_self, fu_ne, Int.toNat_natCast, h14, i7, c, e9]); rw [B_ma_beginningsOf_25]; (try simp (disch := omega) only [Option.bind_some, if_true, if_false, eq_self, not_true_eq_false, not_false_eq_true, am_w_id, if_pos, if_neg, fu_self, fu_ne, Int.toNat_natCast, h14, i7, c, e9])
    · rw [if_neg c]
      (try dsimp only); rw [B_ma_beginningsOf_4]; (try simp (disch := omega) only [Option.bind_some, if_true, if_false, eq_self, not_true_eq_false, not_false_eq_true, am_w_id, if_pos, if_neg, fu_self, fu_ne, Int.toNat_natCast, ma_gI_14, ma_p_14, h14, i7, c, e9]); rw [B_ma_beginningsOf_12]; (try simp (disch := omega) only [Option.bind_some, if_true, if_false, eq_self, not_true_eq_false, not_false_eq_true, am_w_id, if_pos, if_neg, fu_self, fu_ne, Int.toNat_natCast, ma_gR_7, ma_l_7, ma_s_7, h14, i7, c, e9]); rw [B_ma_beginningsOf_25]; (try simp (disch := omega) only [Option.bind_some, if_true, if_false, eq_self, not_true_eq_false, not_false_eq_true, am_w_id, if_pos, if_neg, fu_self, fu_ne, Int.toNat_natCast, h14, i7, c, e9]))
  have st : am_call d N_ma_beginningsOf [.inr (.inr (some (q))), .inl (s)] (maH q g S) = EV d N_ma_beginningsOf T_ma_beginningsOf_4 [.inr (.inr (some (q))), .inl (s), .inl (0), .inl (((0 : Nat) : Int))] [] (maH q g S) := by
    (try dsimp only); rw [en_ma_beginningsOf]; (try simp (disch := omega) only [Option.bind_some, if_true, if_false, eq_self, not_true_eq_false, not_false_eq_true, am_w_id, if_pos, if_neg, fu_self, fu_ne, Int.toNat_natCast]); rw [B_ma_beginningsOf_0]; (try simp (disch := omega) only [Option.bind_some, if_true, if_false, eq_self, not_true_eq_false, not_false_eq_true, am_w_id, if_pos, if_neg, fu_self, fu_ne, Int.toNat_natCast])
    rfl
  refine st.trans (lp.trans ?_)
  unfold nBg
  (try dsimp only); rw [B_ma_beginningsOf_4]; (try simp (disch := omega) only [Option.bind_some, if_true, if_false, eq_self, not_true_eq_false, not_false_eq_true, am_w_id, if_pos, if_neg, fu_self, fu_ne, Int.toNat_natCast, ma_gI_14, ma_p_14, h14]); rw [B_ma_beginningsOf_31]; (try simp (disch := omega) only [Option.bind_some, if_true, if_false, eq_self, not_true_eq_false, not_false_eq_true, am_w_id, if_pos, if_neg, fu_self, fu_ne, Int.toNat_natCast, h14])
theorem fn_mem {k : Nat} (hk : k < nN ws) : fn ws (stt ws k) = k ↔ k ∈ fst ws := by
  constructor
  · intro h
    have := List.mem_of_getElem? (fst_lt (stt_lt (ws := ws) hk)).2
    rw [h] at this
    exact this
  · intro h
    obtain ⟨s, hs⟩ := List.getElem?_of_mem h
    have e := sx_rl (eR_eqv ws) hs
    show fn ws (sx (eR ws) tt k) = k
    rw [e]
    unfold fn
    rw [List.getD_eq_getElem?_getD, hs]
    rfl
theorem rl_new {n : Nat} (hn : n < nN ws) : n ∈ fst ws ↔ (rl (eR ws) tt n).any (fun j => eR ws j n) = false := by
  have hE := eR_eqv ws
  constructor
  · intro h
    rw [List.any_eq_false]
    intro j hj hjn
    obtain ⟨s, hs⟩ := List.getElem?_of_mem h
    obtain ⟨s', hs'⟩ := List.getElem?_of_mem ((rl_pre (e := eR ws) (P := tt) (show n ≤ nN ws by omega)).subset hj)
    have := rl_one hE hs hs' (hE.1 n) hjn
    rw [this, hs'] at hs
    injection hs with hs
    have := (rl_lt hj).1
    omega
  · intro h
    refine (rl_pre (e := eR ws) (P := tt) (show n + 1 ≤ nN ws by omega)).subset ?_
    rw [rl, if_pos ⟨rfl, h⟩]
    exact List.mem_append_right _ (List.mem_singleton.mpr rfl)
theorem al_cnt (Q : Nat → Bool) : ∀ n, n ≤ nN ws → (((rl (eR ws) tt n).flatMap (kd ws)).filter Q).length = ((List.range (nN ws)).filter (fun c => (decide (c ≠ 0) && (decide (pr ws c ∈ fst ws) && Q c)) && decide (pr ws c < n))).length
  | 0, _ => by
    have e : (List.range (nN ws)).filter (fun c => (decide (c ≠ 0) && (decide (pr ws c ∈ fst ws) && Q c)) && decide (pr ws c < 0)) = [] := List.filter_eq_nil_iff.mpr (fun x _ => by simp)
    rw [e]
    rfl
  | n + 1, hn => by
    have ih := al_cnt Q n (by omega)
    have hadd := flt_add (A := fun c => (decide (c ≠ 0) && (decide (pr ws c ∈ fst ws) && Q c)) && decide (pr ws c < n)) (B := fun c => (decide (c ≠ 0) && (decide (pr ws c ∈ fst ws) && Q c)) && decide (pr ws c = n)) (C := fun c => (decide (c ≠ 0) && (decide (pr ws c ∈ fst ws) && Q c)) && decide (pr ws c < n + 1)) (fun x => by
      rw [Bool.eq_iff_iff]
      simp only [Bool.and_eq_true, Bool.or_eq_true, decide_eq_true_eq]
      constructor
      · rintro ⟨h1, h2⟩
        by_cases c : pr ws x = n
        · exact Or.inr ⟨h1, c⟩
        · exact Or.inl ⟨h1, by omega⟩
      · rintro (⟨h1, h2⟩ | ⟨h1, h2⟩)
        · exact ⟨h1, by omega⟩
        · exact ⟨h1, by omega⟩) (fun x => by
      simp only [Bool.and_eq_true, decide_eq_true_eq]
      rintro ⟨⟨_, h1⟩, _, h2⟩
      omega) (List.range (nN ws))
    rw [hadd, ← ih, rl]
    by_cases c : (rl (eR ws) tt n).any (fun j => eR ws j n) = false
    · have hm := (rl_new (show n < nN ws by omega)).mpr c
      rw [if_pos ⟨rfl, c⟩, List.flatMap_append, List.filter_append, List.length_append, List.flatMap_singleton]
      congr 2
      unfold kd
      rw [List.filter_filter]
      refine List.filter_congr (fun x _ => ?_)
      rw [Bool.eq_iff_iff]
      simp only [Bool.and_eq_true, decide_eq_true_eq]
      constructor
      · rintro ⟨h1, h2, h3⟩
        have h3' : pr ws x = n := h3
        exact ⟨⟨h2, by rw [h3']; exact hm, h1⟩, h3'⟩
      · rintro ⟨⟨h1, h2, h3⟩, h4⟩
        exact ⟨h3, h1, h4⟩
    · have hm : ¬ n ∈ fst ws := fun h => c ((rl_new (show n < nN ws by omega)).mp h)
      rw [if_neg (fun h => c h.2)]
      have : (List.range (nN ws)).filter (fun c => (decide (c ≠ 0) && (decide (pr ws c ∈ fst ws) && Q c)) && decide (pr ws c = n)) = [] := by
        rw [List.filter_eq_nil_iff]
        intro x _
        simp only [Bool.and_eq_true, decide_eq_true_eq]
        rintro ⟨⟨_, h1, _⟩, h2⟩
        rw [h2] at h1
        exact hm h1
      rw [this]
      rfl
theorem aTo_al (hok : ok ws) (s : Int) : aTo ws s = (((al ws).filter (fun c => decide ((stt ws c : Int) = s))).length : Int) := by
  have hs := hok.2.1
  unfold aTo
  rw [fi_cnt, Int.zero_add]
  have h := al_cnt (ws := ws) (fun c => decide ((stt ws c : Int) = s)) (nN ws) (Nat.le_refl _)
  have e : (al ws).filter (fun c => decide ((stt ws c : Int) = s)) = ((rl (eR ws) tt (nN ws)).flatMap (kd ws)).filter (fun c => decide ((stt ws c : Int) = s)) := rfl
  rw [e, h]
  congr 1
  have hr : List.range (nN ws) = 0 :: List.range' 1 (nN ws - 1) := by
    rw [List.range_eq_range']
    obtain ⟨m, hm⟩ : ∃ m, nN ws = m + 1 := ⟨nN ws - 1, by have := nN_pos (ws := ws); omega⟩
    rw [hm, List.range'_succ, Nat.add_sub_cancel]
  rw [hr, List.filter_cons, if_neg (by simp)]
  congr 1
  refine List.filter_congr (fun x hx => ?_)
  have hx1 := List.mem_range'_1.mp hx
  have hNp := nN_pos (ws := ws)
  have hxN : x < nN ws := by omega
  have hp := (pr_in hs hxN (by omega)).1
  rw [Bool.eq_iff_iff]
  simp only [Bool.and_eq_true, decide_eq_true_eq]
  rw [fn_mem (show pr ws x < nN ws by omega)]
  constructor
  · rintro ⟨h1, h2⟩; exact ⟨⟨by omega, h2, h1⟩, by omega⟩
  · rintro ⟨⟨_, h2, h1⟩, _⟩; exact ⟨h1, h2⟩
theorem ma_arcsTo (hok : ok ws) (H : maF S ws) (s : Int) (d : Nat) : am_cI d N_ma_arcsTo [.inr (.inr (some (q))), .inl (s)] (maH q g S) = some (aTo ws s, maH q g S) := by
  have hN' : nN ws ≤ 1001 := ND_len hok
  have h16 := H.2.2.1
  have hal := al_lt ws
  rw [aTo_al hok]
  apply am_cI_of
  have lp := am_for (F := fun i => EV d N_ma_arcsTo T_ma_arcsTo_4 [.inr (.inr (some (q))), .inl (s), .inl (((((al ws).take i).filter (fun c => decide ((stt ws c : Int) = s))).length : Int)), .inl ((i : Int))] [] (maH q g S)) (k := 0) (n := (al ws).length) (Nat.zero_le _) (fun i _ hi => by
    have e9 : (i : Int) + 1 = ((i + 1 : Nat) : Int) := by omega
    obtain ⟨c, hc⟩ : ∃ c, (al ws)[i]? = some c := ⟨_, List.getElem?_eq_getElem hi⟩
    have i13 := H.2.2.2.1 i c hc
    have hcN : c < nN ws := by
      obtain ⟨k, _, hk2⟩ := List.mem_flatMap.mp (List.mem_of_getElem? hc)
      exact kd_lt hk2
    have i7 := H.2.1.2.2 c hcN
    have hb : (((al ws).take i).filter (fun c => decide ((stt ws c : Int) = s))).length ≤ 1001 := Nat.le_trans (List.length_filter_le _ _) (by rw [List.length_take]; omega)
    rw [tk_s hc, List.filter_append, List.length_append]
    generalize (((al ws).take i).filter (fun c => decide ((stt ws c : Int) = s))).length = y at *
    by_cases cx : (stt ws c : Int) = s
    · have e1 : ([c].filter (fun c => decide ((stt ws c : Int) = s))).length = 1 := by rw [List.filter_cons, if_pos (decide_eq_true cx)]; rfl
      have e8 : (y : Int) + 1 = ((y + 1 : Nat) : Int) := by omega
      rw [e1]
      (try dsimp only); rw [B_ma_arcsTo_4]; (try simp (disch := omega) only [Option.bind_some, if_true, if_false, eq_self, not_true_eq_false, not_false_eq_true, am_w_id, if_pos, if_neg, fu_self, fu_ne, Int.toNat_natCast, ma_gI_16, ma_p_16, h16, i13, i7, cx, e9, e8]); rw [B_ma_arcsTo_12]; (try simp (disch := omega) only [Option.bind_some, if_true, if_false, eq_self, not_true_eq_false, not_false_eq_true, am_w_id, if_pos, if_neg, fu_self, fu_ne, Int.toNat_natCast, ma_gR_7, ma_l_7, ma_s_7, ma_gR_13, ma_l_13, ma_s_13, h16, i13, i7, cx, e9, e8]); rw [B_ma_arcsTo_27]; (try simp (disch := omega) only [Option.bind_some, if_true, if_false, eq_self, not_true_eq_false, not_false_eq_true, am_w_id, if_pos, if_neg, fu_self, fu_ne, Int.toNat_natCast, h16, i13, i7, cx, e9, e8]); rw [B_ma_arcsTo_30]; (try simp (disch := omega) only [Option.bind_some, if_true, if_false, eq_self, not_true_eq_false, not_false_eq_true, am_w_id, if_pos, if_neg, fu_self, fu_ne, Int.toNat_natCast, h16, i13, i7, cx, e9, e8])
    · have e1 : ([c].filter (fun c => decide ((stt ws c : Int) = s))).length = 0 := by rw [List.filter_cons, if_neg (fun h => cx (of_decide_eq_true h))]; rfl
      rw [e1, Nat.add_zero]
      (try dsimp only); rw [B_ma_arcsTo_4]; (try simp (disch := omega) only [Option.bind_some, if_true, if_false, eq_self, not_true_eq_false, not_false_eq_true, am_w_id, if_pos, if_neg, fu_self, fu_ne, Int.toNat_natCast, ma_gI_16, ma_p_16, h16, i13, i7, cx, e9]); rw [B_ma_arcsTo_12]; (try simp (disch := omega) only [Option.bind_some, if_true, if_false, eq_self, not_true_eq_false, not_false_eq_true, am_w_id, if_pos, if_neg, fu_self, fu_ne, Int.toNat_natCast, ma_gR_7, ma_l_7, ma_s_7, ma_gR_13, ma_l_13, ma_s_13, h16, i13, i7, cx, e9]); rw [B_ma_arcsTo_30]; (try simp (disch := omega) only [Option.bind_some, if_true, if_false, eq_self, not_true_eq_false, not_false_eq_true, am_w_id, if_pos, if_neg, fu_self, fu_ne, Int.toNat_natCast, h16, i13, i7, cx, e9]))
  rw [List.take_length] at lp
  have st : am_call d N_ma_arcsTo [.inr (.inr (some (q))), .inl (s)] (maH q g S) = EV d N_ma_arcsTo T_ma_arcsTo_4 [.inr (.inr (some (q))), .inl (s), .inl (((((al ws).take 0).filter (fun c => decide ((stt ws c : Int) = s))).length : Int)), .inl (((0 : Nat) : Int))] [] (maH q g S) := by
    (try dsimp only); rw [en_ma_arcsTo]; (try simp (disch := omega) only [Option.bind_some, if_true, if_false, eq_self, not_true_eq_false, not_false_eq_true, am_w_id, if_pos, if_neg, fu_self, fu_ne, Int.toNat_natCast]); rw [B_ma_arcsTo_0]; (try simp (disch := omega) only [Option.bind_some, if_true, if_false, eq_self, not_true_eq_false, not_false_eq_true, am_w_id, if_pos, if_neg, fu_self, fu_ne, Int.toNat_natCast])
    rfl
  refine st.trans (lp.trans ?_)
  (try dsimp only); rw [B_ma_arcsTo_4]; (try simp (disch := omega) only [Option.bind_some, if_true, if_false, eq_self, not_true_eq_false, not_false_eq_true, am_w_id, if_pos, if_neg, fu_self, fu_ne, Int.toNat_natCast, ma_gI_16, ma_p_16, h16]); rw [B_ma_arcsTo_36]; (try simp (disch := omega) only [Option.bind_some, if_true, if_false, eq_self, not_true_eq_false, not_false_eq_true, am_w_id, if_pos, if_neg, fu_self, fu_ne, Int.toNat_natCast, h16])
end MA
