/-! the class: books as lists of words; rows filled; the machine's tree is planted -/
def bkR (h : am_H) (b : Nat) (ws : List wd) : Prop := ∃ W N, bkr h b ws.length W N ∧ ∀ i p, ws[i]? = some p → W i = ec 10 p.1 ∧ N i = p.2
theorem bkR.fr {h h' : am_H} {b lo hi : Nat} {ws : List wd} (H : bkR h b ws) (F : am_fr lo hi h h') (hd : b + 3 ≤ lo ∨ hi ≤ b) : bkR h' b ws := by
  obtain ⟨W, N, h1, h2⟩ := H
  exact ⟨W, N, h1.fr F hd, h2⟩
theorem bkR.sz {h : am_H} {b : Nat} {ws : List wd} (H : bkR h b ws) : am_gI h b 0 2 = some (ws.length : Int) := by
  obtain ⟨W, N, h1, _⟩ := H
  exact rd_gI h1.1 rfl
theorem bkR.gW {h : am_H} {b : Nat} {ws : List wd} (H : bkR h b ws) : am_gR h b 0 0 = some (b + 1) := by
  obtain ⟨W, N, h1, _⟩ := H
  exact rd_gR h1.1 rfl
theorem bkR.gN {h : am_H} {b : Nat} {ws : List wd} (H : bkR h b ws) : am_gR h b 0 1 = some (b + 2) := by
  obtain ⟨W, N, h1, _⟩ := H
  exact rd_gR h1.1 rfl
theorem bkR.len {h : am_H} {b : Nat} {ws : List wd} (H : bkR h b ws) : ws.length ≤ 100 := by
  obtain ⟨W, N, h1, _⟩ := H
  exact h1.2.2.2
theorem bkR.lW {h : am_H} {b : Nat} {ws : List wd} (H : bkR h b ws) {i : Nat} {p : wd} (hp : ws[i]? = some p) : am_lL h (b + 1) (i : Int) = some (ec 10 p.1) := by
  obtain ⟨W, N, h1, h2⟩ := H
  have hi := (List.getElem?_eq_some_iff.mp hp).1
  have := h1.2.2.2
  rw [rd_lL h1.2.1 (by omega) (by omega), Int.toNat_natCast, (h2 i p hp).1]
theorem bkR.lN {h : am_H} {b : Nat} {ws : List wd} (H : bkR h b ws) {i : Nat} {p : wd} (hp : ws[i]? = some p) : am_lI h (b + 2) (i : Int) = some p.2 := by
  obtain ⟨W, N, h1, h2⟩ := H
  have hi := (List.getElem?_eq_some_iff.mp hp).1
  have := h1.2.2.2
  rw [rd_lI h1.2.2.1 (by omega) (by omega), Int.toNat_natCast, (h2 i p hp).2]
theorem bkR.O {h : am_H} {b : Nat} {ws : List wd} (H : bkR h b ws) : am_isO h b 0 = true := by
  obtain ⟨W, N, h1, _⟩ := H
  exact rd_O h1.1
/-- a row filled from a place on -/
theorem ar_fill {h : am_H} {a n : Nat} {f : Nat → Int} (x : Int) (h1 : h.2 a = .inl (0, n, .inl f)) (hn : n ≤ 100000) (d : Nat) : ∃ f', am_cV d N_ar_fill [.inr (.inr (some (a))), .inl (x)] h = some (am_up h a (.inl (0, n, .inl f'))) ∧ ∀ i, i < n → f' i = x := by
  have key : ∃ f', EV d N_ar_fill T_ar_fill_5 [.inr (.inr (some (a))), .inl (x), .inl (((0 : Nat) : Int)), .inl ((n : Int))] [] (am_up h a (.inl (0, n, .inl f))) = some (none, am_up h a (.inl (0, n, .inl f'))) ∧ ∀ i, i < n → f' i = x := by
    refine am_loop (S := Nat × (Nat → Int)) (F := fun s => EV d N_ar_fill T_ar_fill_5 [.inr (.inr (some (a))), .inl (x), .inl ((s.1 : Int)), .inl ((n : Int))] [] (am_up h a (.inl (0, n, .inl s.2)))) (I := fun s => s.1 ≤ n ∧ ∀ i, i < s.1 → s.2 i = x)
      (R := fun o => ∃ f', o = some (none, am_up h a (.inl (0, n, .inl f'))) ∧ ∀ i, i < n → f' i = x) (fun s => n - s.1) ?_ (0, f) ⟨Nat.zero_le _, fun i hi => by dsimp only at hi; omega⟩
    rintro ⟨k, f⟩ ⟨k1, k2⟩
    dsimp only at k1 k2 ⊢
    rw [B_ar_fill_5]
    by_cases c : k = n
    · left
      rw [if_pos (by omega), B_ar_fill_20]
      exact ⟨f, rfl, fun i hi => k2 i (by omega)⟩
    · right
      rw [if_neg (by omega), B_ar_fill_10, rd_sI up_self (by omega) (by omega), Option.bind_some, Int.toNat_natCast, am_w_id (by omega) (by omega)]
      refine ⟨(k + 1, am_fu f k x), ⟨by dsimp only; omega, fun i hi => ?_⟩, by dsimp only; omega, ?_⟩
      · dsimp only at hi ⊢
        unfold am_fu
        split
        · rfl
        · exact k2 i (by omega)
      · have : am_up (am_up h a (.inl (0, n, .inl f))) a (.inl (0, n, .inl (am_fu f k x))) = am_up h a (.inl (0, n, .inl (am_fu f k x))) := by
          refine Prod.ext rfl (funext fun c => ?_)
          unfold am_up
          dsimp only
          split <;> rfl
        rw [this]
        rfl
  obtain ⟨f', e, h2⟩ := key
  have h0 : am_up h a (.inl (0, n, .inl f)) = h := by
    refine Prod.ext rfl (funext fun c => ?_)
    unfold am_up
    dsimp only
    split
    · next e => rw [e, h1]
    · rfl
  rw [h0] at e
  refine ⟨f', am_cV_of ?_, h2⟩
  rw [en_ar_fill, B_ar_fill_0, rd_ln h1 (by decide), Option.bind_some]
  exact e
theorem ar_fill4 {h : am_H} {a n : Nat} {f : Nat → Int} (x : Int) {z : Nat} (hz : z ≤ n) (h1 : h.2 a = .inl (0, n, .inl f)) (hn : n ≤ 100000) (d : Nat) : ∃ f', am_cV (d + 1) N_ar_fill4 [.inr (.inr (some (a))), .inl (0), .inl ((z : Int)), .inl (x)] h = some (am_up h a (.inl (0, n, .inl f'))) ∧ ∀ i, i < z → f' i = x := by
  have key : ∃ f', EV (d + 1) N_ar_fill4 T_ar_fill4_10 [.inr (.inr (some (a))), .inl (0), .inl ((z : Int)), .inl (x), .inl (((0 : Nat) : Int))] [] (am_up h a (.inl (0, n, .inl f))) = some (none, am_up h a (.inl (0, n, .inl f'))) ∧ ∀ i, i < z → f' i = x := by
    refine am_loop (S := Nat × (Nat → Int)) (F := fun s => EV (d + 1) N_ar_fill4 T_ar_fill4_10 [.inr (.inr (some (a))), .inl (0), .inl ((z : Int)), .inl (x), .inl ((s.1 : Int))] [] (am_up h a (.inl (0, n, .inl s.2)))) (I := fun s => s.1 ≤ z ∧ ∀ i, i < s.1 → s.2 i = x)
      (R := fun o => ∃ f', o = some (none, am_up h a (.inl (0, n, .inl f'))) ∧ ∀ i, i < z → f' i = x) (fun s => z - s.1) ?_ (0, f) ⟨Nat.zero_le _, fun i hi => by dsimp only at hi; omega⟩
    rintro ⟨k, f⟩ ⟨k1, k2⟩
    dsimp only at k1 k2 ⊢
    rw [B_ar_fill4_10]
    by_cases c : k = z
    · left
      rw [if_pos (by omega), B_ar_fill4_27]
      exact ⟨f, rfl, fun i hi => k2 i (by omega)⟩
    · right
      rw [if_neg (by omega), B_ar_fill4_16, rd_sI up_self (by omega) (by omega), Option.bind_some, Int.toNat_natCast, am_w_id (by omega) (by omega)]
      refine ⟨(k + 1, am_fu f k x), ⟨by dsimp only; omega, fun i hi => ?_⟩, by dsimp only; omega, ?_⟩
      · dsimp only at hi ⊢
        unfold am_fu
        split
        · rfl
        · exact k2 i (by omega)
      · have : am_up (am_up h a (.inl (0, n, .inl f))) a (.inl (0, n, .inl (am_fu f k x))) = am_up h a (.inl (0, n, .inl (am_fu f k x))) := by
          refine Prod.ext rfl (funext fun c => ?_)
          unfold am_up
          dsimp only
          split <;> rfl
        rw [this]
        rfl
  obtain ⟨f', e, h2⟩ := key
  have h0 : am_up h a (.inl (0, n, .inl f)) = h := by
    refine Prod.ext rfl (funext fun c => ?_)
    unfold am_up
    dsimp only
    split
    · next e => rw [e, h1]
    · rfl
  rw [h0] at e
  refine ⟨f', am_cV_of ?_, h2⟩
  have er : am_cV d N_ar_rangeCheck [.inl ((n : Int)), .inl (0), .inl ((z : Int))] h = some h := am_cV_of (by
    rw [en_ar_rangeCheck, B_ar_rangeCheck_0, if_pos (by omega), B_ar_rangeCheck_46, if_pos (by decide), B_ar_rangeCheck_59, if_pos (by omega), B_ar_rangeCheck_73])
  rw [en_ar_fill4, B_ar_fill4_0, rd_ln h1 (by decide), Option.bind_some, er, Option.bind_some]
  exact e
theorem c_sharedLetters (d : Nat) (h : am_H) {w v : List Int} (hw : wl w) (hv : wl v) (lw : w.length ≤ 10) (lv : v.length ≤ 10) : am_cI (d + 2) N_ma_sharedLetters [.inr (.inl (ec 10 w)), .inr (.inl (ec 10 v))] h = some ((cpl w v : Int), h) := by
  have h1 := cpl_le w v
  apply am_cI_of
  rw [en_ma_sharedLetters, B_ma_sharedLetters_0]
  refine am_loop (S := Nat) (F := fun n => EV (d + 2) N_ma_sharedLetters T_ma_sharedLetters_3 [.inr (.inl (ec 10 w)), am_nul, .inr (.inl (ec 10 v)), am_nul, .inl ((n : Int))] [] h) (I := fun n => n ≤ cpl w v) (R := fun o => o = some (some (.inl (cpl w v : Int)), h)) (fun n => cpl w v - n) ?_ 0 (Nat.zero_le _)
  intro n hn
  rw [B_ma_sharedLetters_3]
  by_cases c0 : n = 10
  · left
    rw [if_pos (by omega), B_ma_sharedLetters_40, show n = cpl w v by omega]
  · rw [if_neg (by omega), B_ma_sharedLetters_10, c_letter d h hw (by omega), Option.bind_some]
    dsimp only
    by_cases c : n = cpl w v
    · left
      by_cases c1 : w.getD n 0 = 0
      · rw [if_pos c1, B_ma_sharedLetters_40, c]
      · rw [if_neg c1, B_ma_sharedLetters_19, c_letter d h hw (by omega), Option.bind_some, c_letter d h hv (by omega), Option.bind_some]
        dsimp only
        have hlt : n < w.length := by
          rcases Nat.lt_or_ge n w.length with g | g
          · exact g
          · exact absurd (gd_n g) c1
        have hne : ¬ w.getD n 0 = v.getD n 0 := by
          rcases cpl_stop w v with g | g | g
          · omega
          · intro e
            rw [gd_n (t := v) (by omega)] at e
            exact c1 e
          · rw [c]; exact g.2.2
        rw [if_pos hne, B_ma_sharedLetters_40, c]
    · right
      have hb := wl_getD hw (show n < w.length by omega)
      have he := cpl_get (show n < cpl w v by omega)
      rw [if_neg (by omega), B_ma_sharedLetters_19, c_letter d h hw (by omega), Option.bind_some, c_letter d h hv (by omega), Option.bind_some]
      dsimp only
      rw [if_neg (fun g => g he), B_ma_sharedLetters_34, am_w_id (by omega) (by omega)]
      exact ⟨n + 1, by omega, by omega, rfl⟩
/-- what a node's number is: -1 where no word ends -/
def nv (ws : List wd) (k : Nat) : Int := ((ND ws).getD k ([], 0)).2
def par (ws : List wd) (k : Nat) : Int := if k = 0 then -1 else (pr ws k : Int)
theorem nv_nu {ws : List wd} (hk : ∀ p ∈ ws, wk p) (hs : so ws) {k : Nat} (h : k < nN ws) : nv ws k = (nu ws (pn ws k)).getD (-1) := by
  have hg : (ND ws)[k]? = some (ND ws)[k] := List.getElem?_eq_getElem h
  have e : (ND ws).getD k ([], 0) = (ND ws)[k] := by rw [List.getD_eq_getElem?_getD, hg]; rfl
  unfold nv pn
  rw [e]
  exact nd_num hk hs hg
/-- the tree as far as k nodes: letters, depths, ways up -/
def trP (S : Nat → Nat → Int) (ws : List wd) (k : Nat) : Prop := ∀ i, i < k → S 0 i = ll ws i ∧ S 1 i = ((pn ws i).length : Int) ∧ S 2 i = par ws i
def nvP (S : Nat → Nat → Int) (ws : List wd) (k : Nat) : Prop := ∀ i, i < k → S 3 i = nv ws i
section MA
variable {q b : Nat} {g : am_H} {S : Nat → Nat → Int} {ws : List wd}
theorem ma_addNode {k : Nat} (h14 : S 14 0 = (k : Int)) (hk : k < 1001) (x1 x2 x3 : Int) (d : Nat) : ∃ S', am_cI d N_ma_addNode [.inr (.inr (some (q))), .inl (x1), .inl (x2), .inl (x3)] (maH q g S) = some ((k : Int), maH q g S') ∧ (S' 0 = am_fu (S 0) k x2 ∧ S' 1 = am_fu (S 1) k x1 ∧ S' 2 = am_fu (S 2) k x3 ∧ S' 3 = am_fu (S 3) k (-1) ∧ S' 14 0 = ((k + 1 : Nat) : Int)) ∧ fd [0, 1, 2, 3, 14] S S' := by
  have e9 : (k : Int) + 1 = ((k + 1 : Nat) : Int) := by omega
  obtain ⟨T1, h1⟩ : ∃ T, T = am_fu S 1 (am_fu (S 1) k x1) := ⟨_, rfl⟩
  obtain ⟨T2, h2⟩ : ∃ T, T = am_fu T1 0 (am_fu (T1 0) k x2) := ⟨_, rfl⟩
  obtain ⟨T3, h3⟩ : ∃ T, T = am_fu T2 2 (am_fu (T2 2) k x3) := ⟨_, rfl⟩
  obtain ⟨T4, h4⟩ : ∃ T, T = am_fu T3 3 (am_fu (T3 3) k (-1)) := ⟨_, rfl⟩
  have v14 : T4 14 0 = (k : Int) := by rw [h4, fu_ne (by decide), h3, fu_ne (by decide), h2, fu_ne (by decide), h1, fu_ne (by decide)]; exact h14
  refine ⟨am_fu T4 14 (fun _ => ((k + 1 : Nat) : Int)), am_cI_of ?_, ⟨?_, ?_, ?_, ?_, congrFun fu_self 0⟩, ?_⟩
  · (try dsimp only); rw [en_ma_addNode]; (try simp (disch := omega) only [Option.bind_some, if_true, if_false, eq_self, not_true_eq_false, not_false_eq_true, am_w_id, if_pos, if_neg, fu_self, fu_ne, Int.toNat_natCast, h14, h1.symm, h2.symm, h3.symm, h4.symm, v14, e9]); rw [B_ma_addNode_0]; (try simp (disch := omega) only [Option.bind_some, if_true, if_false, eq_self, not_true_eq_false, not_false_eq_true, am_w_id, if_pos, if_neg, fu_self, fu_ne, Int.toNat_natCast, ma_gI_14, ma_p_14, h14, h1.symm, h2.symm, h3.symm, h4.symm, v14, e9]); rw [B_ma_addNode_18]; (try simp (disch := omega) only [Option.bind_some, if_true, if_false, eq_self, not_true_eq_false, not_false_eq_true, am_w_id, if_pos, if_neg, fu_self, fu_ne, Int.toNat_natCast, ma_gR_1, ma_l_1, ma_s_1, ma_gR_0, ma_l_0, ma_s_0, ma_gR_2, ma_l_2, ma_s_2, ma_gR_3, ma_l_3, ma_s_3, ma_gI_14, ma_p_14, h14, h1.symm, h2.symm, h3.symm, h4.symm, v14, e9])
  · rw [fu_ne (by decide), h4, fu_ne (by decide), h3, fu_ne (by decide), h2, fu_self, h1, fu_ne (by decide)]
  · rw [fu_ne (by decide), h4, fu_ne (by decide), h3, fu_ne (by decide), h2, fu_ne (by decide), h1, fu_self]
  · rw [fu_ne (by decide), h4, fu_ne (by decide), h3, fu_self, h2, fu_ne (by decide), h1, fu_ne (by decide)]
  · rw [fu_ne (by decide), h4, fu_self, h3, fu_ne (by decide), h2, fu_ne (by decide), h1, fu_ne (by decide)]
  · rw [h4, h3, h2, h1]
    exact ((((fd.rf.up (by decide) _).up (by decide) _).up (by decide) _).up (by decide) _).up (by decide) _
/-- the ways to the nodes of a word -/
def paP (S : Nat → Nat → Int) (ws : List wd) (w : List Int) (k : Nat) : Prop := ∀ i, i ≤ k → S 11 i = (ix ws (w.take i) : Int)
theorem nv_at {w j : Nat} {p : wd} (hq : ws[w]? = some p) (hj : cpl (wb ws w) p.1 + 1 + j ≤ p.1.length) : nv ws (nl ws w + j) = if cpl (wb ws w) p.1 + 1 + j = p.1.length then p.2 else -1 := by
  obtain ⟨t, ht⟩ := ND_tp (ws := ws) (w + 1)
  have hl : j < ((List.range' (cpl (wb ws w) p.1 + 1) (p.1.length - cpl (wb ws w) p.1)).map (fun k => (p.1.take k, if k = p.1.length then p.2 else -1))).length := by
    rw [List.length_map, List.length_range']; omega
  unfold nv
  rw [List.getD_eq_getElem?_getD, ← ht, ND_take hq, List.append_assoc, List.getElem?_append_right (by unfold nl; omega), show nl ws w + j - (ND (ws.take w)).length = j by unfold nl; omega, List.getElem?_append_left hl, List.getElem?_map, List.getElem?_range' (by omega)]
  simp
theorem cpl_take {a c : List Int} : ∀ {k : Nat}, k ≤ cpl a c → a.take k = c.take k := by
  intro k hk
  have h1 := cpl_le a c
  refine getD_ext (by rw [List.length_take, List.length_take]; omega) (fun i hi => ?_)
  rw [List.length_take] at hi
  rw [List.getD_eq_getElem?_getD, List.getD_eq_getElem?_getD, List.getElem?_take_of_lt (by omega), List.getElem?_take_of_lt (by omega), ← List.getD_eq_getElem?_getD, ← List.getD_eq_getElem?_getD]
  exact cpl_get (by omega)
theorem tk_last {l : List Int} {k : Nat} (h : k < l.length) : (l.take (k + 1)).getLastD 0 = l.getD k 0 := by
  rw [List.take_succ, List.getElem?_eq_getElem h, Option.toList_some, List.getLastD_concat, gd_s h]
/-- one word more -/
theorem ma_plantW (hok : ok ws) (B : bkR g b ws) (hd : b + 3 ≤ q ∨ q + 15 ≤ b) {w : Nat} {p : wd} (hp : ws[w]? = some p) (h14 : S 14 0 = (nl ws w : Int)) (T : trP S ws (nl ws w)) (V : nvP S ws (nl ws w)) (hP : paP S ws (wb ws w) (wb ws w).length) (j5 j6 j7 j8 j9 : am_V) (d : Nat) :
    ∃ S' j5' j6' j7' j8' j9', EV (d + 3) N_ma_plant T_ma_plant_25 [.inr (.inr (some (q))), .inr (.inr (some (b))), .inr (.inl (ec 10 (wb ws w))), am_nul, .inl ((w : Int)), j5, j6, j7, j8, j9] [] (maH q g S) = EV (d + 3) N_ma_plant T_ma_plant_25 [.inr (.inr (some (q))), .inr (.inr (some (b))), .inr (.inl (ec 10 (wb ws (w + 1)))), am_nul, .inl (((w + 1 : Nat) : Int)), j5', j6', j7', j8', j9'] [] (maH q g S') ∧
      S' 14 0 = (nl ws (w + 1) : Int) ∧ trP S' ws (nl ws (w + 1)) ∧ nvP S' ws (nl ws (w + 1)) ∧ paP S' ws (wb ws (w + 1)) (wb ws (w + 1)).length ∧ fd [0, 1, 2, 3, 11, 14] S S' := by
  have hs := hok.2.1
  have hN' : nN ws ≤ 1001 := ND_len hok
  have hwl := (List.getElem?_eq_some_iff.mp hp).1
  have hw100 := hok.2.2
  obtain ⟨k1, k2, k3, k4, k5⟩ := ok_get hok hp
  have Bm : ∀ S, bkR (maH q g S) b ws := fun S => B.fr maH_fr hd
  have hwb : wl (wb ws w) ∧ (wb ws w).length ≤ 10 := by
    cases w with
    | zero => exact ⟨fun x hx => by simp [wb] at hx, by simp [wb]⟩
    | succ w =>
      have h1 : ws[w]? = some (ws[w]'(by omega)) := List.getElem?_eq_getElem (by omega)
      rw [wb_s h1]
      obtain ⟨a1, a2, a3, a4, a5⟩ := ok_get hok h1
      exact ⟨a1, a3⟩
  have hcp := cpl_le (wb ws w) p.1
  have hlt : cpl (wb ws w) p.1 < p.1.length := by
    rcases Nat.lt_or_ge (cpl (wb ws w) p.1) p.1.length with h | h
    · exact h
    · have h1 := wb_lx hs hok.1 hp
      have e : (wb ws w).take p.1.length = p.1 := by
        have := cpl_take (a := wb ws w) (c := p.1) (k := p.1.length) (by omega)
        rw [List.take_length] at this
        exact this
      have h2 := pf_lx p.1 (wb ws w) ⟨(wb ws w).drop p.1.length, by conv => rhs; rw [← List.take_append_drop p.1.length (wb ws w)]; rw [e]⟩
      rw [h2] at h1
      exact Bool.noConfusion h1
  have hns := nl_s hp
  have hnle := nl_le (ws := ws) (w + 1)
  have hsh := fun (d : Nat) (h : am_H) => c_sharedLetters d h hwb.1 k1 hwb.2 k3
  have hli := fun (d : Nat) (h : am_H) => c_lettersIn d h k1 k3
  have hsz := fun S => (Bm S).sz
  have hgW := fun S => (Bm S).gW
  have hgN := fun S => (Bm S).gN
  have hlW := fun S => (Bm S).lW hp
  have hlN := fun S => (Bm S).lN hp
  generalize hc : cpl (wb ws w) p.1 = c at *
  -- letter by letter
  have inner : ∀ (k i : Nat) (S : Nat → Nat → Int), c + i + k = p.1.length → S 14 0 = ((nl ws w + i : Nat) : Int) → trP S ws (nl ws w + i) → nvP S ws (nl ws w) → (∀ j, nl ws w ≤ j → j < nl ws w + i → S 3 j = -1) → paP S ws p.1 (c + i) →
      ∃ S', EV (d + 3) N_ma_plant T_ma_plant_62 [.inr (.inr (some (q))), .inr (.inr (some (b))), .inr (.inl (ec 10 (wb ws w))), am_nul, .inl ((w : Int)), .inr (.inl (ec 10 p.1)), am_nul, .inl ((p.1.length : Int)), .inl ((c : Int)), .inl (((c + i : Nat) : Int))] [] (maH q g S) = EV (d + 3) N_ma_plant T_ma_plant_106 [.inr (.inr (some (q))), .inr (.inr (some (b))), .inr (.inl (ec 10 (wb ws w))), am_nul, .inl ((w : Int)), .inr (.inl (ec 10 p.1)), am_nul, .inl ((p.1.length : Int)), .inl ((c : Int)), .inl ((p.1.length : Int))] [] (maH q g S') ∧
        S' 14 0 = ((nl ws w + (p.1.length - c) : Nat) : Int) ∧ trP S' ws (nl ws w + (p.1.length - c)) ∧ nvP S' ws (nl ws w) ∧ (∀ j, nl ws w ≤ j → j < nl ws w + (p.1.length - c) → S' 3 j = -1) ∧ paP S' ws p.1 p.1.length ∧ fd [0, 1, 2, 3, 11, 14] S S' := by
    intro k
    induction k with
    | zero =>
      intro i S hi a1 a2 a3 a4 a5
      have ei : p.1.length - c = i := by omega
      have ej : c + i = p.1.length := by omega
      rw [ei]
      rw [ej] at a5 ⊢
      refine ⟨S, ?_, a1, a2, a3, a4, a5, fd.rf⟩
      (try dsimp only); rw [B_ma_plant_62]; (try simp (disch := omega) only [Option.bind_some, if_true, if_false, eq_self, not_true_eq_false, not_false_eq_true, am_w_id, if_pos, if_neg, fu_self, fu_ne, Int.toNat_natCast])
    | succ k ih =>
      intro i S hi a1 a2 a3 a4 a5
      have hnlt : nl ws w + i < 1001 := by omega
      have hpn : pn ws (nl ws w + i) = p.1.take (c + 1 + i) := by rw [← hc]; exact ND_at hp (by omega)
      have hnn : nl ws w + i < nN ws := by omega
      obtain ⟨S1, e1, ⟨f0, f1, f2, f3, f14⟩, F1⟩ := ma_addNode (q := q) (g := g) (S := S) a1 hnlt (((c + i + 1 : Nat)) : Int) (p.1.getD (c + i) 0) (ix ws (p.1.take (c + i)) : Int) (d + 2)
      have hpa := a5 (c + i) (Nat.le_refl _)
      have hle := fun (d : Nat) (h : am_H) => c_letter d h k1 (show c + i < 10 by omega)
      obtain ⟨S2, hS2⟩ : ∃ S2, S2 = am_fu S1 11 (am_fu (S1 11) (c + i + 1) ((nl ws w + i : Nat) : Int)) := ⟨_, rfl⟩
      have F2 : fd [0, 1, 2, 3, 11, 14] S S2 := by rw [hS2]; exact (F1.wide (by decide)).up (by decide) _
      have hpr : pr ws (nl ws w + i) = ix ws (p.1.take (c + i)) := by
        unfold pr
        rw [hpn, show c + 1 + i = c + i + 1 by omega, tk_dl (by omega)]
      obtain ⟨S', e3, r⟩ := ih (i + 1) S2 (by omega) (by rw [hS2, fu_ne (by decide)]; exact f14) (fun j hj => by
        rw [hS2, fu_ne (by decide), fu_ne (by decide), fu_ne (by decide), f0, f1, f2]
        by_cases c1 : j = nl ws w + i
        · subst c1
          rw [fu_self, fu_self, fu_self]
          refine ⟨?_, ?_, ?_⟩
          · unfold ll
            rw [hpn, show c + 1 + i = c + i + 1 by omega, tk_last (by omega)]
          · rw [hpn, List.length_take]; omega
          · unfold par
            have hnl1 : 1 ≤ nl ws w := by unfold nl ND; rw [List.length_cons]; omega
            rw [if_neg (by omega), hpr]
        · rw [fu_ne c1, fu_ne c1, fu_ne c1]
          exact a2 j (by omega)) (fun j hj => by
        rw [hS2, fu_ne (by decide), f3, fu_ne (by omega)]
        exact a3 j hj) (fun j hj1 hj2 => by
        rw [hS2, fu_ne (by decide), f3]
        by_cases c1 : j = nl ws w + i
        · rw [c1, fu_self]
        · rw [fu_ne c1]
          exact a4 j hj1 (by omega)) (fun j hj => by
        rw [hS2, fu_self, F1 11 (by decide)]
        by_cases c1 : j = c + i + 1
        · rw [c1, fu_self, show c + i + 1 = c + 1 + i by omega, ← hpn, ix_pn hs hnn]
        · rw [fu_ne c1]
          exact a5 j (by omega))
      refine ⟨S', Eq.trans ?_ e3, r.1, r.2.1, r.2.2.1, r.2.2.2.1, r.2.2.2.2.1, F2.tr r.2.2.2.2.2⟩
      have e9 : ((c + i : Nat) : Int) + 1 = ((c + i + 1 : Nat) : Int) := by omega
      have e8 : ((c + (i + 1) : Nat) : Int) = ((c + i + 1 : Nat) : Int) := by omega
      rw [e8]
      (try dsimp only); rw [B_ma_plant_62]; (try simp (disch := omega) only [Option.bind_some, if_true, if_false, eq_self, not_true_eq_false, not_false_eq_true, am_w_id, if_pos, if_neg, fu_self, fu_ne, Int.toNat_natCast, hle, e9, hpa, e1, hS2.symm]); rw [B_ma_plant_69]; (try simp (disch := omega) only [Option.bind_some, if_true, if_false, eq_self, not_true_eq_false, not_false_eq_true, am_w_id, if_pos, if_neg, fu_self, fu_ne, Int.toNat_natCast, ma_gR_11, ma_l_11, ma_s_11, ma_O, hle, e9, hpa, e1, hS2.symm])
  obtain ⟨S1, e1, a1, a2, a3, a4, a5, F1⟩ := inner (p.1.length - c) 0 S (by omega) h14 T V (fun j h1 h2 => by omega) (fun i hi => by
    rw [hP i (by omega), cpl_take (a := wb ws w) (c := p.1) (k := i) (by omega)])
  have hlast := a5 p.1.length (Nat.le_refl _)
  rw [List.take_length] at hlast
  have hpl : pn ws (nl ws w + (p.1.length - c - 1)) = p.1 := by
    rw [ND_at hp (by omega), hc, show c + 1 + (p.1.length - c - 1) = p.1.length by omega, List.take_length]
  have hix : ix ws p.1 = nl ws w + (p.1.length - c - 1) := by
    have := ix_pn hs (show nl ws w + (p.1.length - c - 1) < nN ws by omega)
    rw [hpl] at this
    exact this
  have hixb : ix ws p.1 < 1001 := by omega
  obtain ⟨S2, hS2⟩ : ∃ S2, S2 = am_fu S1 3 (am_fu (S1 3) (ix ws p.1) p.2) := ⟨_, rfl⟩
  refine ⟨S2, .inr (.inl (ec 10 p.1)), am_nul, .inl ((p.1.length : Int)), .inl ((c : Int)), .inl ((p.1.length : Int)), ?_, ?_, ?_, ?_, ?_, ?_⟩
  · have st : EV (d + 3) N_ma_plant T_ma_plant_25 [.inr (.inr (some (q))), .inr (.inr (some (b))), .inr (.inl (ec 10 (wb ws w))), am_nul, .inl ((w : Int)), j5, j6, j7, j8, j9] [] (maH q g S) = EV (d + 3) N_ma_plant T_ma_plant_62 [.inr (.inr (some (q))), .inr (.inr (some (b))), .inr (.inl (ec 10 (wb ws w))), am_nul, .inl ((w : Int)), .inr (.inl (ec 10 p.1)), am_nul, .inl ((p.1.length : Int)), .inl ((c : Int)), .inl (((c + 0 : Nat) : Int))] [] (maH q g S) := by
      (try dsimp only); rw [B_ma_plant_25]; (try simp (disch := omega) only [Option.bind_some, if_true, if_false, eq_self, not_true_eq_false, not_false_eq_true, am_w_id, if_pos, if_neg, fu_self, fu_ne, Int.toNat_natCast, hsz, hgW, hlW, hli, hsh]); rw [B_ma_plant_34]; (try simp (disch := omega) only [Option.bind_some, if_true, if_false, eq_self, not_true_eq_false, not_false_eq_true, am_w_id, if_pos, if_neg, fu_self, fu_ne, Int.toNat_natCast, hsz, hgW, hlW, hli, hsh])
      rfl
    have e9 : (w : Int) + 1 = ((w + 1 : Nat) : Int) := by omega
    refine st.trans (e1.trans ?_)
    rw [wb_s hp]
    (try dsimp only); rw [B_ma_plant_106]; (try simp (disch := omega) only [Option.bind_some, if_true, if_false, eq_self, not_true_eq_false, not_false_eq_true, am_w_id, if_pos, if_neg, fu_self, fu_ne, Int.toNat_natCast, ma_gR_3, ma_l_3, ma_s_3, ma_gR_11, ma_l_11, ma_s_11, hlast, hgN, hlN, hS2.symm, e9])
  · rw [hS2, fu_ne (by decide), a1, hns]
  · intro i hi
    rw [hS2, fu_ne (by decide), fu_ne (by decide), fu_ne (by decide)]
    exact a2 i (by omega)
  · intro i hi
    rw [hS2, fu_self]
    by_cases c1 : i = ix ws p.1
    · rw [c1, fu_self, hix, nv_at hp (by omega), if_pos (by omega)]
    · rw [fu_ne c1]
      by_cases c2 : i < nl ws w
      · exact a3 i c2
      · rw [a4 i (by omega) (by omega)]
        obtain ⟨j, rfl⟩ : ∃ j, i = nl ws w + j := ⟨i - nl ws w, by omega⟩
        rw [nv_at hp (by omega), if_neg (by omega)]
  · rw [wb_s hp]
    intro i hi
    rw [hS2, fu_ne (by decide)]
    exact a5 i hi
  · rw [hS2]
    exact F1.up (by decide) _
theorem ma_plant (hok : ok ws) (B : bkR g b ws) (hd : b + 3 ≤ q ∨ q + 15 ≤ b) (d : Nat) : ∃ S', am_cV (d + 3) N_ma_plant [.inr (.inr (some (q))), .inr (.inr (some (b)))] (maH q g S) = some (maH q g S') ∧ S' 14 0 = (nN ws : Int) ∧ trP S' ws (nN ws) ∧ nvP S' ws (nN ws) ∧ fd [0, 1, 2, 3, 11, 14] S S' := by
  have Bm : ∀ S, bkR (maH q g S) b ws := fun S => B.fr maH_fr hd
  have hsz := fun S => (Bm S).sz
  obtain ⟨S0, hS0⟩ : ∃ S0, S0 = am_fu S 14 (fun _ => 0) := ⟨_, rfl⟩
  obtain ⟨S1, e1, ⟨f0, f1, f2, f3, f14⟩, F1⟩ := ma_addNode (q := q) (g := g) (S := S0) (k := 0) (by rw [hS0, fu_self]; rfl) (by decide) 0 0 (-1) (d + 2)
  obtain ⟨S2, hS2⟩ : ∃ S2, S2 = am_fu S1 11 (am_fu (S1 11) 0 0) := ⟨_, rfl⟩
  have F2 : fd [0, 1, 2, 3, 11, 14] S S2 := by
    rw [hS2]
    refine (fd.tr ?_ (F1.wide (by decide))).up (by decide) _
    rw [hS0]
    exact fd.rf.up (by decide) _
  have e1' : am_cI (d + 2) N_ma_addNode [.inr (.inr (some (q))), .inl (0), .inl (0), .inl (-1)] (maH q g S0) = some (0, maH q g S1) := e1
  have st : am_call (d + 3) N_ma_plant [.inr (.inr (some (q))), .inr (.inr (some (b)))] (maH q g S) = EV (d + 3) N_ma_plant T_ma_plant_25 [.inr (.inr (some (q))), .inr (.inr (some (b))), .inr (.inl (ec 10 (wb ws 0))), am_nul, .inl (((0 : Nat) : Int)), am_nul, am_nul, am_nul, am_nul, am_nul] [] (maH q g S2) := by
    (try dsimp only); rw [en_ma_plant]; (try simp (disch := omega) only [Option.bind_some, if_true, if_false, eq_self, not_true_eq_false, not_false_eq_true, am_w_id, if_pos, if_neg, fu_self, fu_ne, Int.toNat_natCast, hS0.symm, e1', hS2.symm, Int.toNat_zero]); rw [B_ma_plant_0]; (try simp (disch := omega) only [Option.bind_some, if_true, if_false, eq_self, not_true_eq_false, not_false_eq_true, am_w_id, if_pos, if_neg, fu_self, fu_ne, Int.toNat_natCast, ma_gI_14, ma_p_14, ma_gR_11, ma_l_11, ma_s_11, ma_O, hS0.symm, e1', hS2.symm, Int.toNat_zero])
    rfl
  have lp : ∀ (k w : Nat) (S2 : Nat → Nat → Int) (j5 j6 j7 j8 j9 : am_V), w + k = ws.length → S2 14 0 = (nl ws w : Int) → trP S2 ws (nl ws w) → nvP S2 ws (nl ws w) → paP S2 ws (wb ws w) (wb ws w).length →
      ∃ S', EV (d + 3) N_ma_plant T_ma_plant_25 [.inr (.inr (some (q))), .inr (.inr (some (b))), .inr (.inl (ec 10 (wb ws w))), am_nul, .inl ((w : Int)), j5, j6, j7, j8, j9] [] (maH q g S2) = some (none, maH q g S') ∧ S' 14 0 = (nN ws : Int) ∧ trP S' ws (nN ws) ∧ nvP S' ws (nN ws) ∧ fd [0, 1, 2, 3, 11, 14] S2 S' := by
    intro k
    induction k with
    | zero =>
      intro w S2 j5 j6 j7 j8 j9 hw a1 a2 a3 a4
      obtain rfl : w = ws.length := by omega
      rw [nl_all] at a1 a2 a3
      refine ⟨S2, ?_, a1, a2, a3, fd.rf⟩
      (try dsimp only); rw [B_ma_plant_25]; (try simp (disch := omega) only [Option.bind_some, if_true, if_false, eq_self, not_true_eq_false, not_false_eq_true, am_w_id, if_pos, if_neg, fu_self, fu_ne, Int.toNat_natCast, hsz]); rw [B_ma_plant_134]; (try simp (disch := omega) only [Option.bind_some, if_true, if_false, eq_self, not_true_eq_false, not_false_eq_true, am_w_id, if_pos, if_neg, fu_self, fu_ne, Int.toNat_natCast, hsz])
    | succ k ih =>
      intro w S2 j5 j6 j7 j8 j9 hw a1 a2 a3 a4
      obtain ⟨S3, i5, i6, i7, i8, i9, e3, b1, b2, b3, b4, F3⟩ := ma_plantW (q := q) (g := g) hok B hd (List.getElem?_eq_getElem (show w < ws.length by omega)) a1 a2 a3 a4 j5 j6 j7 j8 j9 d
      obtain ⟨S', e4, c1, c2, c3, F4⟩ := ih (w + 1) S3 i5 i6 i7 i8 i9 (by omega) b1 b2 b3 b4
      exact ⟨S', e3.trans e4, c1, c2, c3, F3.tr F4⟩
  obtain ⟨S', e, c1, c2, c3, F⟩ := lp ws.length 0 S2 am_nul am_nul am_nul am_nul am_nul (by omega) (by rw [hS2, fu_ne (by decide), f14, nl0]) (fun i hi => by
    rw [nl0] at hi
    obtain rfl : i = 0 := by omega
    rw [hS2, fu_ne (by decide), fu_ne (by decide), fu_ne (by decide), f0, f1, f2, fu_self, fu_self, fu_self]
    exact ⟨rfl, rfl, rfl⟩) (fun i hi => by
    rw [nl0] at hi
    obtain rfl : i = 0 := by omega
    rw [hS2, fu_ne (by decide), f3, fu_self]
    rfl) (fun i hi => by
    have : i = 0 := by simpa [wb] using hi
    subst this
    rw [hS2, fu_self, fu_self, List.take_zero]
    have := ix_pn (ws := ws) hok.2.1 nN_pos
    rw [pn0] at this
    rw [this]
    rfl)
  exact ⟨S', am_cV_of (st.trans e), c1, c2, c3, F2.tr F⟩
end MA
