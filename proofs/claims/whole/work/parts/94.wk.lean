/-! the class: the words that bytes tell -/
theorem c_isNumber (d : Nat) (h : am_H) (x : Int) : am_cI d N_nw_isNumber [.inl (x)] h = some (if 0 ≤ x ∧ x ≤ 999999 then 1 else 0, h) := by
  apply am_cI_of
  by_cases c1 : x < 0
  · rw [if_neg (by omega), en_nw_isNumber, B_nw_isNumber_0, if_pos c1, B_nw_isNumber_14, B_nw_isNumber_15, if_pos (by decide)]
  · by_cases c2 : 999999 < x
    · rw [if_neg (by omega), en_nw_isNumber, B_nw_isNumber_0, if_neg c1, B_nw_isNumber_4, if_pos c2, B_nw_isNumber_14, B_nw_isNumber_15, if_pos (by decide)]
    · rw [if_pos (by omega), en_nw_isNumber, B_nw_isNumber_0, if_neg c1, B_nw_isNumber_4, if_neg c2, B_nw_isNumber_10, B_nw_isNumber_15, if_pos (by decide)]
theorem c_withLetter0 (d : Nat) (h : am_H) {y i : Int} (x : Int) (hi : 10 ≤ i) : am_cL d N_nw_withLetter [.inr (.inl (y)), .inl (i), .inl (x)] h = some (y, h) := by
  apply am_cL_of
  rw [en_nw_withLetter, B_nw_withLetter_0, if_neg (by omega), B_nw_withLetter_4, if_neg (by omega), B_nw_withLetter_10, B_nw_withLetter_23]
theorem bkR.add {h : am_H} {b : Nat} {bk : List wd} (H : bkR h b bk) (w : List Int) (x : Int) (hl : bk.length < 100) (d : Nat) : ∃ h', am_cI d N_bk_addLast [.inr (.inr (some (b))), .inr (.inl (ec 10 w)), .inl (x)] h = some (1, h') ∧ bkR h' b (bk ++ [(w, x)]) ∧ am_fr b (b + 3) h h' := by
  obtain ⟨W, N, h1, h2⟩ := H
  obtain ⟨h', e, r, F⟩ := b_addLast h1 d (ec 10 w) x hl
  refine ⟨h', e, ⟨_, _, by rw [List.length_append, List.length_singleton]; exact r, fun i p hp => ?_⟩, F⟩
  by_cases c : i = bk.length
  · subst c
    rw [List.getElem?_append_right (Nat.le_refl _), Nat.sub_self] at hp
    simp at hp
    rw [fu_self, fu_self, ← hp]
    exact ⟨rfl, rfl⟩
  · have hi : i < bk.length := by
      have := (List.getElem?_eq_some_iff.mp hp).1
      rw [List.length_append, List.length_singleton] at this
      omega
    rw [List.getElem?_append_left hi] at hp
    rw [fu_ne c, fu_ne c]
    exact h2 i p hp
theorem bkR.full {h : am_H} {b : Nat} {bk : List wd} (H : bkR h b bk) (y x : Int) (hl : 100 ≤ bk.length) (d : Nat) : am_cI d N_bk_addLast [.inr (.inr (some (b))), .inr (.inl (y)), .inl (x)] h = some (0, h) := by
  obtain ⟨W, N, h1, h2⟩ := H
  exact b_addLast0 h1 d y x hl
/-- what lies outside two objects is as it was -/
def am_f2 (b u : Nat) (h h' : am_H) : Prop := h'.1 = h.1 ∧ ∀ q, (q < b ∨ b + 3 ≤ q) → (q < u ∨ u + 6 ≤ q) → h'.2 q = h.2 q
theorem am_f2.rf {b u : Nat} {h : am_H} : am_f2 b u h h := ⟨rfl, fun _ _ _ => rfl⟩
theorem am_f2.tr {b u : Nat} {h h' h2 : am_H} (a : am_f2 b u h h') (c : am_f2 b u h' h2) : am_f2 b u h h2 := ⟨c.1.trans a.1, fun q h1 h2 => (c.2 q h1 h2).trans (a.2 q h1 h2)⟩
theorem am_f2.b {b u : Nat} {h h' : am_H} (F : am_fr b (b + 3) h h') : am_f2 b u h h' := ⟨F.1, fun q h1 _ => F.2 q h1⟩
theorem am_f2.u {b u : Nat} {h h' : am_H} (F : am_fr u (u + 6) h h') : am_f2 b u h h' := ⟨F.1, fun q _ h2 => F.2 q h2⟩
/-- one word more, if it is one and there is room -/
def wk1 (e : Int) (w : List Int) (x : Int) (bk : List wd) : Option (List wd) := if e = -2 then some bk else if w ≠ [] ∧ (0 ≤ x + e ∧ x + e ≤ 999999) ∧ bk.length < 100 then some (bk ++ [(w, x + e)]) else none
/-- the way through a machine that was read: the words so far, how many states were come to -/
def wkF (ss : List sta) : Nat → Nat → List Int → Int → List wd → Nat → Option (List wd × Nat)
  | 0, _, _, _, _, _ => none
  | n + 1, s, w, x, bk, v => if 1001 ≤ v then none else match wk1 (eOf ss s) w x bk with
    | none => none
    | some bk' => (aOf ss s).foldl (fun r a => match r with
      | none => none
      | some p => wkF ss n a.2.2.toNat (w ++ [a.1]) (x + a.2.1) p.1 p.2) (some (bk', v + 1))
def wkA (ss : List sta) (n : Nat) (w : List Int) (x : Int) (l : List arc) (r : Option (List wd × Nat)) : Option (List wd × Nat) := l.foldl (fun r a => match r with
      | none => none
      | some p => wkF ss n a.2.2.toNat (w ++ [a.1]) (x + a.2.1) p.1 p.2) r
theorem wkA_none (ss : List sta) (n : Nat) (w : List Int) (x : Int) : ∀ l, wkA ss n w x l none = none
  | [] => rfl
  | a :: l => wkA_none ss n w x l
section UN
variable {u ta b : Nat} {S : Nat → Nat → Int} {ss : List sta}
def umT (S : Nat → Nat → Int) (ss : List sta) : Prop := arU S (fla ss) ∧ stU S ss
theorem umT.fr {S' : Nat → Nat → Int} (H : umT S ss) (F : fd [11] S S') : umT S' ss := by
  refine ⟨H.1.fr F (by decide), ?_⟩
  unfold stU at *
  rw [F 1 (by decide), F 2 (by decide)]
  exact H.2
theorem umT.at {s : Nat} (H : umT S ss) (hs : s < ss.length) : S 1 s = (if eOf ss s = -2 then -1 else eOf ss s) ∧ S 2 s = ((fla (ss.take s)).length : Int) ∧ S 2 (s + 1) = ((fla (ss.take s)).length + (aOf ss s).length : Nat) ∧ ∀ k a, (aOf ss s)[k]? = some a → S 3 ((fla (ss.take s)).length + k) = a.1 ∧ S 4 ((fla (ss.take s)).length + k) = a.2.1 ∧ S 5 ((fla (ss.take s)).length + k) = a.2.2 := by
  obtain ⟨h1, h2⟩ := H.2.2 s _ (of_get hs)
  have h3 : fla (ss.take (s + 1)) = fla (ss.take s) ++ aOf ss s := by rw [tk_s (of_get hs), fla_snoc]
  refine ⟨h1, ?_, ?_, fun k a ha => H.1.2 _ _ ((fla_len ss hs).2 k a ha)⟩
  · cases s with
    | zero => rw [H.2.1]; simp [fla]
    | succ s => exact (H.2.2 s _ (of_get (show s < ss.length by omega))).2
  · rw [h2, h3, List.length_append]
theorem un_addWord (hd : b + 3 ≤ u ∨ u + 6 ≤ b) {h : am_H} {bk : List wd} (HU : unH ta u h S = h) (HB : bkR h b bk) (w : List Int) (x e : Int) (he : e ≠ -2) (d : Nat) :
    ∃ r h', am_cI (d + 1) N_un_addWord [.inr (.inr (some (b))), .inl ((w.length : Int)), .inr (.inl (ec 10 w)), .inl (x + e)] h = some (r, h') ∧ unH ta u h' S = h' ∧ am_f2 b u h h' ∧ ((r = 0 ∧ wk1 e w x bk = none ∧ bkR h' b bk) ∨ ∃ bk', r = 1 ∧ wk1 e w x bk = some bk' ∧ bkR h' b bk') := by
  unfold wk1
  rw [if_neg he]
  have no : ¬ (w ≠ [] ∧ (0 ≤ x + e ∧ x + e ≤ 999999) ∧ bk.length < 100) → am_call (d + 1) N_un_addWord [.inr (.inr (some (b))), .inl ((w.length : Int)), .inr (.inl (ec 10 w)), .inl (x + e)] h = EV (d + 1) N_un_addWord T_un_addWord_26 [.inr (.inr (some (b))), .inl ((w.length : Int)), .inr (.inl (ec 10 w)), am_nul, .inl (x + e)] [] h → ∃ r h', am_cI (d + 1) N_un_addWord [.inr (.inr (some (b))), .inl ((w.length : Int)), .inr (.inl (ec 10 w)), .inl (x + e)] h = some (r, h') ∧ unH ta u h' S = h' ∧ am_f2 b u h h' ∧ ((r = 0 ∧ (if w ≠ [] ∧ (0 ≤ x + e ∧ x + e ≤ 999999) ∧ bk.length < 100 then some (bk ++ [(w, x + e)]) else none) = none ∧ bkR h' b bk) ∨ ∃ bk', r = 1 ∧ (if w ≠ [] ∧ (0 ≤ x + e ∧ x + e ≤ 999999) ∧ bk.length < 100 then some (bk ++ [(w, x + e)]) else none) = some bk' ∧ bkR h' b bk') := by
    intro hn e
    refine ⟨0, h, am_cI_of (e.trans ?_), HU, am_f2.rf, Or.inl ⟨rfl, by rw [if_neg hn], HB⟩⟩
    rw [B_un_addWord_26, B_un_addWord_27, if_pos (by decide)]
  have en1 := en_un_addWord (d + 1) b (w.length : Int) (ec 10 w) (x + e) h
  have isn := c_isNumber d h (x + e)
  by_cases c1 : w = []
  · refine no (fun h => h.1 c1) ?_
    rw [en1, B_un_addWord_0, if_pos (by rw [c1]; decide)]
  · have hlp := List.length_pos_iff.mpr c1
    by_cases c2 : 0 ≤ x + e ∧ x + e ≤ 999999
    · rw [if_pos c2] at isn
      by_cases c3 : bk.length < 100
      · obtain ⟨h', e2, r, F⟩ := HB.add w (x + e) c3 d
        have hk : unH ta u h' S = h' := unH_keep HU F (by omega)
        refine ⟨1, h', am_cI_of ?_, hk, am_f2.b F, Or.inr ⟨_, rfl, by rw [if_pos ⟨c1, c2, c3⟩], r⟩⟩
        rw [en1, B_un_addWord_0, if_neg (by omega), B_un_addWord_4, isn, Option.bind_some]
        dsimp only
        rw [if_neg (by decide), B_un_addWord_12, if_pos HB.O, e2, Option.bind_some]
        dsimp only
        rw [if_neg (by decide), B_un_addWord_22, B_un_addWord_27, if_pos (by decide)]
      · refine no (fun h => c3 h.2.2) ?_
        rw [en1, B_un_addWord_0, if_neg (by omega), B_un_addWord_4, isn, Option.bind_some]
        dsimp only
        rw [if_neg (by decide), B_un_addWord_12, if_pos HB.O, HB.full _ _ (by omega), Option.bind_some]
        dsimp only
        rw [if_pos rfl]
    · rw [if_neg c2] at isn
      refine no (fun h => c2 h.2.1) ?_
      rw [en1, B_un_addWord_0, if_neg (by omega), B_un_addWord_4, isn, Option.bind_some]
      dsimp only
      rw [if_pos rfl]
/-- what a walk answers -/
def wkO (ta u b : Nat) (S : Nat → Nat → Int) (h : am_H) (res : Option (List wd × Nat)) (r : Int) (h' : am_H) : Prop := ∃ S', unH ta u h' S' = h' ∧ fd [11] S S' ∧ am_f2 b u h h' ∧ ((r = 0 ∧ res = none ∧ ∃ bk', bkR h' b bk') ∨ ∃ bk' v', r = 1 ∧ res = some (bk', v') ∧ S' 11 0 = ((v' : Nat) : Int) ∧ v' ≤ 1001 ∧ bkR h' b bk')
theorem un_walk (hm : mach ss) (hl : ss.length ≤ 1001) (hf : (fla ss).length ≤ 133) (hd : b + 3 ≤ u ∨ u + 6 ≤ b) (d : Nat) : ∀ (n dep s : Nat) (y : Int) (w : List Int) (x : Int) (bk : List wd) (v : Nat) (h : am_H) (S : Nat → Nat → Int), dep + n = 11 → (1 ≤ n → y = ec 10 w ∧ wl w ∧ w.length = dep) → s < ss.length → 0 ≤ x → x ≤ 999999 * (dep + 1) → unH ta u h S = h → umT S ss → S 11 0 = (v : Int) → v ≤ 1001 → bkR h b bk →
    ∃ r h', am_cI (d + n + 2) N_un_walk [.inr (.inr (some (u))), .inr (.inr (some (b))), .inl ((s : Int)), .inl ((dep : Int)), .inr (.inl (y)), .inl (x)] h = some (r, h') ∧ wkO ta u b S h (wkF ss n s w x bk v) r h' := by
  intro n
  induction n with
  | zero =>
    intro dep s y w x bk v h S hdn _ hs hx hx2 HU HT hv hv2 HB
    refine ⟨0, h, am_cI_of ?_, S, HU, fd.rf, am_f2.rf, Or.inl ⟨rfl, rfl, bk, HB⟩⟩
    rw [en_un_walk, B_un_walk_0, if_pos (by omega), B_un_walk_16]
  | succ n ih =>
    intro dep s y w x bk v h S hdn hy hs hx hx2 HU HT hv hv2 HB
    obtain ⟨rfl, hw, hwl⟩ := hy (by omega)
    obtain ⟨g, rfl⟩ : ∃ g, h = unH ta u g S := ⟨h, HU.symm⟩
    have hmo := of_ok hm hs
    obtain ⟨t1, t2, t3, t4⟩ := HT.at hs
    have hfl := (fla_len ss hs).1
    by_cases cv : 1001 ≤ v
    · refine ⟨0, unH ta u g S, am_cI_of ?_, S, HU, fd.rf, am_f2.rf, Or.inl ⟨rfl, by rw [wkF, if_pos cv], bk, HB⟩⟩
      have c1 : ¬ (v : Int) < 1001 := by omega
      rw [en_un_walk, B_un_walk_0, if_neg (by omega), B_un_walk_6, un_gI_11, Option.bind_some, hv, if_neg c1, B_un_walk_16]
    · obtain ⟨S1, hS1⟩ : ∃ S1, S1 = am_fu S 11 (fun _ => ((v + 1 : Nat) : Int)) := ⟨_, rfl⟩
      have F1 : fd [11] S S1 := by rw [hS1]; exact fd.rf.up (by decide) _
      have HT1 := HT.fr F1
      have v1 : S1 11 0 = ((v + 1 : Nat) : Int) := by rw [hS1, fu_self]
      have hrw : wkF ss (n + 1) s w x bk v = (match wk1 (eOf ss s) w x bk with
          | none => none
          | some bk' => wkA ss n w x (aOf ss s) (some (bk', v + 1))) := by
        show (if 1001 ≤ v then none else _) = _
        rw [if_neg cv]
        rfl
      rw [hrw]
      have HU1 : unH ta u (unH ta u g S1) S1 = unH ta u g S1 := unH_H
      have fg : am_f2 b u (unH ta u g S) (unH ta u g S1) := am_f2.u ⟨rfl, fun q hq => by rw [unH_out hq, unH_out hq]⟩
      have HB1 : bkR (unH ta u g S1) b bk := by
        have h0 : unH ta u g S1 = unH ta u (unH ta u g S) S1 := unH_H.symm
        rw [h0]
        exact HB.fr unH_fr (by omega)
      -- the arcs
      have arcs : ∀ (m k : Nat) (j8 j9 : am_V) (bk : List wd) (v : Nat) (h : am_H) (S : Nat → Nat → Int), k + m = (aOf ss s).length → unH ta u h S = h → umT S ss → S 11 0 = (v : Int) → v ≤ 1001 → bkR h b bk →
          ∃ r h', EV (d + (n + 1) + 2) N_un_walk T_un_walk_67 [.inr (.inr (some (u))), .inr (.inr (some (b))), .inl ((s : Int)), .inl ((dep : Int)), .inr (.inl (ec 10 w)), am_nul, .inl (x), .inl ((((fla (ss.take s)).length + k : Nat) : Int)), j8, j9] [] h = some (some (.inl r), h') ∧ wkO ta u b S h (wkA ss n w x ((aOf ss s).drop k) (some (bk, v))) r h' := by
        intro m
        induction m with
        | zero =>
          intro k j8 j9 bk v h S hk HU HT hv hv2 HB
          obtain ⟨g, rfl⟩ : ∃ g, h = unH ta u g S := ⟨h, HU.symm⟩
          have k3 := (HT.at hs).2.2.1
          have e9 : (s : Int) + 1 = ((s + 1 : Nat) : Int) := by omega
          have ek : (((fla (ss.take s)).length + (aOf ss s).length : Nat) : Int) ≤ (((fla (ss.take s)).length + k : Nat) : Int) := by omega
          refine ⟨1, unH ta u g S, ?_, S, HU, fd.rf, am_f2.rf, Or.inr ⟨bk, v, rfl, ?_, hv, hv2, HB⟩⟩
          · (try dsimp only); rw [B_un_walk_67]; (try simp (disch := omega) only [Option.bind_some, if_true, if_false, eq_self, not_true_eq_false, not_false_eq_true, am_w_id, if_pos, if_neg, fu_self, fu_ne, Int.toNat_natCast, un_gR_2, un_l_2, un_s_2, e9, k3, ek]); rw [B_un_walk_133]; (try simp (disch := omega) only [Option.bind_some, if_true, if_false, eq_self, not_true_eq_false, not_false_eq_true, am_w_id, if_pos, if_neg, fu_self, fu_ne, Int.toNat_natCast, e9, k3, ek])
          · rw [List.drop_of_length_le (by omega)]; rfl
        | succ m ihm =>
          intro k j8 j9 bk v h S hk HU HT hv hv2 HB
          obtain ⟨g, rfl⟩ : ∃ g, h = unH ta u g S := ⟨h, HU.symm⟩
          have hkl : k < (aOf ss s).length := by omega
          obtain ⟨a, ha⟩ : ∃ a, (aOf ss s)[k]? = some a := ⟨_, List.getElem?_eq_getElem hkl⟩
          have hao := hmo.2.1 a (List.mem_of_getElem? ha)
          obtain ⟨z, hz⟩ : ∃ z : Nat, a.2.2 = (z : Int) := ⟨a.2.2.toNat, by omega⟩
          have hzt : a.2.2.toNat = z := by omega
          obtain ⟨k1, k2, k3, k4⟩ := HT.at hs
          obtain ⟨a3, a4, a5⟩ := k4 k a ha
          rw [hz] at a5
          have hdr : (aOf ss s).drop k = a :: (aOf ss s).drop (k + 1) := by
            rw [List.drop_eq_getElem_cons hkl]
            congr 1
            exact (List.getElem?_eq_some_iff.mp ha).2
          have hwx : wl (w ++ [a.1]) := by
            intro z hz
            rcases List.mem_append.mp hz with g | g
            · exact hw z g
            · rw [List.mem_singleton.mp g]; exact hao.1
          have hlet : ∃ y', (∀ h, am_cL (d + n + 2) N_nw_withLetter [.inr (.inl (ec 10 w)), .inl ((dep : Int)), .inl (a.1)] h = some (y', h)) ∧ (1 ≤ n → y' = ec 10 (w ++ [a.1]) ∧ wl (w ++ [a.1]) ∧ (w ++ [a.1]).length = dep + 1) := by
            by_cases cd : dep < 10
            · refine ⟨ec 10 (w ++ [a.1]), fun h => ?_, fun _ => ⟨rfl, hwx, by rw [List.length_append, List.length_singleton, hwl]⟩⟩
              have := c_withLetter (d + n + 1) h hwx (by omega)
              rw [hwl] at this
              exact this
            · exact ⟨ec 10 w, fun h => c_withLetter0 _ h _ (by omega), fun h => by omega⟩
          obtain ⟨y', hy', hy2⟩ := hlet
          have hxa : 0 ≤ x + a.2.1 := by omega
          have hxb : x + a.2.1 ≤ 999999 * (((dep + 1 : Nat) : Int) + 1) := by omega
          obtain ⟨r, h1, e1, S', U1, F1, G1, O1⟩ := ih (dep + 1) z y' (w ++ [a.1]) (x + a.2.1) bk v (unH ta u g S) S (by omega) hy2 (by omega) hxa hxb HU HT hv hv2 HB
          have e1' : am_cI (d + (n + 1) + 1) N_un_walk [.inr (.inr (some (u))), .inr (.inr (some (b))), .inl ((z : Int)), .inl (((dep + 1 : Nat) : Int)), .inr (.inl (y')), .inl (x + a.2.1)] (unH ta u g S) = some (r, h1) := e1
          have hy'' : ∀ h, am_cL (d + (n + 1) + 1) N_nw_withLetter [.inr (.inl (ec 10 w)), .inl ((dep : Int)), .inl (a.1)] h = some (y', h) := hy'
          have e9 : (s : Int) + 1 = ((s + 1 : Nat) : Int) := by omega
          have e8 : (dep : Int) + 1 = ((dep + 1 : Nat) : Int) := by omega
          have ek : ¬ (((fla (ss.take s)).length + (aOf ss s).length : Nat) : Int) ≤ (((fla (ss.take s)).length + k : Nat) : Int) := by omega
          have e7 : (((fla (ss.take s)).length + k : Nat) : Int) + 1 = (((fla (ss.take s)).length + (k + 1) : Nat) : Int) := by omega
          have hbk : (fla (ss.take s)).length + k < 400 := by omega
          have wx : am_w (x + a.2.1) = x + a.2.1 := am_w_id (by omega) (by omega)
          have hfold : ∀ r0, wkA ss n w x (a :: (aOf ss s).drop (k + 1)) (some r0) = wkA ss n w x ((aOf ss s).drop (k + 1)) (wkF ss n z (w ++ [a.1]) (x + a.2.1) r0.1 r0.2) := by
            intro r0
            show wkA ss n w x ((aOf ss s).drop (k + 1)) (wkF ss n a.2.2.toNat (w ++ [a.1]) (x + a.2.1) r0.1 r0.2) = _
            rw [hzt]
          rw [hdr, hfold]
          generalize (fla (ss.take s)).length + k = K at *
          rcases O1 with ⟨rfl, r1, bk1, r2⟩ | ⟨bk1, v1, rfl, r1, r2, r3, r4⟩
          · refine ⟨0, h1, ?_, S', U1, F1, G1, Or.inl ⟨rfl, by rw [r1]; exact wkA_none _ _ _ _ _, bk1, r2⟩⟩
            (try dsimp only); rw [B_un_walk_67]; (try simp (disch := omega) only [Option.bind_some, if_true, if_false, eq_self, not_true_eq_false, not_false_eq_true, am_w_id, if_pos, if_neg, fu_self, fu_ne, Int.toNat_natCast, un_gR_2, un_l_2, un_s_2, e9, k3, ek, a3, hy'', a5, a4, e8, wx, e1']); rw [B_un_walk_80]; (try simp (disch := omega) only [Option.bind_some, if_true, if_false, eq_self, not_true_eq_false, not_false_eq_true, am_w_id, if_pos, if_neg, fu_self, fu_ne, Int.toNat_natCast, un_gR_3, un_l_3, un_s_3, un_gR_5, un_l_5, un_s_5, un_gR_4, un_l_4, un_s_4, e9, k3, ek, a3, hy'', a5, a4, e8, wx, e1']); rw [B_un_walk_125]; (try simp (disch := omega) only [Option.bind_some, if_true, if_false, eq_self, not_true_eq_false, not_false_eq_true, am_w_id, if_pos, if_neg, fu_self, fu_ne, Int.toNat_natCast, e9, k3, ek, a3, hy'', a5, a4, e8, wx, e1'])
          · obtain ⟨r', h2, e2, S2, U2, F2, G2, O2⟩ := ihm (k + 1) (.inr (.inl (y'))) am_nul bk1 v1 h1 S' (by omega) U1 (HT.fr F1) r2 r3 r4
            rw [r1]
            refine ⟨r', h2, Eq.trans ?_ e2, S2, U2, F1.tr F2, G1.tr G2, O2⟩
            (try dsimp only); rw [B_un_walk_67]; (try simp (disch := omega) only [Option.bind_some, if_true, if_false, eq_self, not_true_eq_false, not_false_eq_true, am_w_id, if_pos, if_neg, fu_self, fu_ne, Int.toNat_natCast, un_gR_2, un_l_2, un_s_2, e9, k3, ek, a3, hy'', a5, a4, e8, wx, e1', e7, show ¬ (1 : Int) = 0 by decide]); rw [B_un_walk_80]; (try simp (disch := omega) only [Option.bind_some, if_true, if_false, eq_self, not_true_eq_false, not_false_eq_true, am_w_id, if_pos, if_neg, fu_self, fu_ne, Int.toNat_natCast, un_gR_3, un_l_3, un_s_3, un_gR_5, un_l_5, un_s_5, un_gR_4, un_l_4, un_s_4, e9, k3, ek, a3, hy'', a5, a4, e8, wx, e1', e7, show ¬ (1 : Int) = 0 by decide]); rw [B_un_walk_127]; (try simp (disch := omega) only [Option.bind_some, if_true, if_false, eq_self, not_true_eq_false, not_false_eq_true, am_w_id, if_pos, if_neg, fu_self, fu_ne, Int.toNat_natCast, e9, k3, ek, a3, hy'', a5, a4, e8, wx, e1', e7, show ¬ (1 : Int) = 0 by decide])
      -- behind the word that ends here
      have tail : ∀ (h : am_H) (S2 : Nat → Nat → Int) (bk : List wd), unH ta u h S2 = h → fd [11] S S2 → am_f2 b u (unH ta u g S) h → S2 11 0 = ((v + 1 : Nat) : Int) → bkR h b bk → ∃ r h', EV (d + (n + 1) + 2) N_un_walk T_un_walk_59 [.inr (.inr (some (u))), .inr (.inr (some (b))), .inl ((s : Int)), .inl ((dep : Int)), .inr (.inl (ec 10 w)), am_nul, .inl (x), am_nul, am_nul, am_nul] [] h = some (some (.inl r), h') ∧ wkO ta u b S (unH ta u g S) (wkA ss n w x (aOf ss s) (some (bk, v + 1))) r h' := by
        intro h S2 bk HU2 F2 G2 hv2 HB2
        obtain ⟨r, h', e, S3, U3, F3, G3, O3⟩ := arcs (aOf ss s).length 0 am_nul am_nul bk (v + 1) h S2 (by omega) HU2 (HT.fr F2) hv2 (by omega) HB2
        rw [List.drop_zero] at O3
        refine ⟨r, h', Eq.trans ?_ e, S3, U3, F2.tr F3, G2.tr G3, O3⟩
        obtain ⟨g2, rfl⟩ : ∃ g2, h = unH ta u g2 S2 := ⟨h, HU2.symm⟩
        have k2 := ((HT.fr F2).at hs).2.1
        (try dsimp only); rw [B_un_walk_59]; (try simp (disch := omega) only [Option.bind_some, if_true, if_false, eq_self, not_true_eq_false, not_false_eq_true, am_w_id, if_pos, if_neg, fu_self, fu_ne, Int.toNat_natCast, un_gR_2, un_l_2, un_s_2, k2])
        rfl
      have st0 : am_call (d + (n + 1) + 2) N_un_walk [.inr (.inr (some (u))), .inr (.inr (some (b))), .inl ((s : Int)), .inl ((dep : Int)), .inr (.inl (ec 10 w)), .inl (x)] (unH ta u g S) = EV (d + (n + 1) + 2) N_un_walk T_un_walk_18 [.inr (.inr (some (u))), .inr (.inr (some (b))), .inl ((s : Int)), .inl ((dep : Int)), .inr (.inl (ec 10 w)), am_nul, .inl (x), am_nul, am_nul, am_nul] [] (unH ta u g S) := by
        have c1 : (v : Int) < 1001 := by omega
        rw [en_un_walk, B_un_walk_0, if_neg (by omega), B_un_walk_6, un_gI_11, Option.bind_some, hv, if_pos c1]
      have e9 : (v : Int) + 1 = ((v + 1 : Nat) : Int) := by omega
      have k1 := (HT1.at hs).1
      by_cases ce : eOf ss s = -2
      · rw [if_pos ce] at k1
        have hw1 : wk1 (eOf ss s) w x bk = some bk := by unfold wk1; rw [if_pos ce]
        rw [hw1]
        obtain ⟨r, h', e, O⟩ := tail (unH ta u g S1) S1 bk HU1 F1 fg v1 HB1
        refine ⟨r, h', am_cI_of ((st0.trans ?_).trans e), O⟩
        (try dsimp only); rw [B_un_walk_18]; (try simp (disch := omega) only [Option.bind_some, if_true, if_false, eq_self, not_true_eq_false, not_false_eq_true, am_w_id, if_pos, if_neg, fu_self, fu_ne, Int.toNat_natCast, un_gI_11, un_p_11, un_gR_1, un_l_1, un_s_1, hv, e9, hS1.symm, k1])
      · rw [if_neg ce] at k1
        have he := hmo.1.resolve_left ce
        have nk : ¬ eOf ss s = -1 := by omega
        obtain ⟨r, h1, e1, U1, G1, O1⟩ := un_addWord (ta := ta) hd HU1 HB1 w x (eOf ss s) ce (d + n + 1)
        rw [hwl] at e1
        have e1' : am_cI (d + (n + 1) + 1) N_un_addWord [.inr (.inr (some (b))), .inl ((dep : Int)), .inr (.inl (ec 10 w)), .inl (x + eOf ss s)] (unH ta u g S1) = some (r, h1) := e1
        have wx : am_w (x + eOf ss s) = x + eOf ss s := am_w_id (by omega) (by omega)
        rcases O1 with ⟨rfl, r1, r2⟩ | ⟨bk1, rfl, r1, r2⟩
        · rw [r1]
          refine ⟨0, h1, am_cI_of (st0.trans ?_), S1, U1, F1, fg.tr G1, Or.inl ⟨rfl, rfl, bk, r2⟩⟩
          (try dsimp only); rw [B_un_walk_18]; (try simp (disch := omega) only [Option.bind_some, if_true, if_false, eq_self, not_true_eq_false, not_false_eq_true, am_w_id, if_pos, if_neg, fu_self, fu_ne, Int.toNat_natCast, un_gI_11, un_p_11, un_gR_1, un_l_1, un_s_1, hv, e9, hS1.symm, k1, nk, wx, e1']); rw [B_un_walk_38]; (try simp (disch := omega) only [Option.bind_some, if_true, if_false, eq_self, not_true_eq_false, not_false_eq_true, am_w_id, if_pos, if_neg, fu_self, fu_ne, Int.toNat_natCast, un_gR_1, un_l_1, un_s_1, hv, e9, hS1.symm, k1, nk, wx, e1']); rw [B_un_walk_57]; (try simp (disch := omega) only [Option.bind_some, if_true, if_false, eq_self, not_true_eq_false, not_false_eq_true, am_w_id, if_pos, if_neg, fu_self, fu_ne, Int.toNat_natCast, hv, e9, hS1.symm, k1, nk, wx, e1'])
        · rw [r1]
          obtain ⟨r, h', e, O⟩ := tail h1 S1 bk1 U1 F1 (fg.tr G1) v1 r2
          refine ⟨r, h', am_cI_of ((st0.trans ?_).trans e), O⟩
          (try dsimp only); rw [B_un_walk_18]; (try simp (disch := omega) only [Option.bind_some, if_true, if_false, eq_self, not_true_eq_false, not_false_eq_true, am_w_id, if_pos, if_neg, fu_self, fu_ne, Int.toNat_natCast, un_gI_11, un_p_11, un_gR_1, un_l_1, un_s_1, hv, e9, hS1.symm, k1, nk, wx, e1', show ¬ (1 : Int) = 0 by decide]); rw [B_un_walk_38]; (try simp (disch := omega) only [Option.bind_some, if_true, if_false, eq_self, not_true_eq_false, not_false_eq_true, am_w_id, if_pos, if_neg, fu_self, fu_ne, Int.toNat_natCast, un_gR_1, un_l_1, un_s_1, hv, e9, hS1.symm, k1, nk, wx, e1', show ¬ (1 : Int) = 0 by decide])
theorem un_tellWords (hm : mach ss) (hl : 1 ≤ ss.length ∧ ss.length ≤ 1001) (hf : (fla ss).length ≤ 133) (hd : b + 3 ≤ u ∨ u + 6 ≤ b) {x : Int} (hx : 0 ≤ x ∧ x ≤ 999999) {h : am_H} (HU : unH ta u h S = h) (H : umR S x ss) {m0 : Nat} {W N : Nat → Int} (hb1 : bkr h b m0 W N) (d : Nat) :
    ∃ r h' S', am_cI (d + 14) N_un_tellWords [.inr (.inr (some (u))), .inr (.inr (some (b)))] h = some (r, h') ∧ unH ta u h' S' = h' ∧ fd [11] S S' ∧ am_f2 b u h h' ∧ ((r = 0 ∧ wkF ss 11 0 [] x [] 0 = none ∧ ∃ bk', bkR h' b bk') ∨ ∃ bk' v', r = 1 ∧ wkF ss 11 0 [] x [] 0 = some (bk', v') ∧ bkR h' b bk') := by
  obtain ⟨h1, e1, c1, F1⟩ := b_clear hb1 (d + 13)
  have U1 : unH ta u h1 S = h1 := unH_keep HU F1 (by omega)
  have HB1 : bkR h1 b [] := ⟨W, N, c1, fun i p hp => by simp at hp⟩
  obtain ⟨S1, hS1⟩ : ∃ S1, S1 = am_fu S 11 (fun _ => 0) := ⟨_, rfl⟩
  have FS : fd [11] S S1 := by rw [hS1]; exact fd.rf.up (by decide) _
  have U2 : unH ta u (unH ta u h1 S1) S1 = unH ta u h1 S1 := unH_H
  have HB2 : bkR (unH ta u h1 S1) b [] := HB1.fr unH_fr (by omega)
  have HT : umT S1 ss := umT.fr ⟨H.2.1, H.2.2⟩ FS
  have s9 : S1 9 0 = x := by rw [FS 9 (by decide)]; exact H.1
  obtain ⟨r, h', e, S', U', F', G', O'⟩ := un_walk (ta := ta) hm hl.2 hf hd d 11 0 0 (ec 10 []) [] x [] 0 (unH ta u h1 S1) S1 rfl (fun _ => ⟨rfl, fun z hz => by simp at hz, rfl⟩) (by omega) hx.1 (by omega) U2 HT (by rw [hS1, fu_self]; rfl) (by omega) HB2
  have e' : am_cI (d + 13) N_un_walk [.inr (.inr (some (u))), .inr (.inr (some (b))), .inl (0), .inl (0), .inr (.inl (0)), .inl (x)] (unH ta u h1 S1) = some (r, h') := e
  have hp : am_p h1 u 8 11 (.inl (0)) = some (unH ta u h1 S1) := by
    have := un_p_11 (ta := ta) (q := u) (g := h1) (S := S) (x := 0)
    rw [U1] at this
    rw [this, hS1]
  have hg : am_gI (unH ta u h1 S1) u 8 9 = some x := by rw [un_gI_9, s9]
  have r01 : 0 ≤ r ∧ r < 2 := by
    rcases O' with ⟨rfl, _⟩ | ⟨_, _, rfl, _⟩ <;> omega
  refine ⟨r, h', S', am_cI_of ?_, U', FS.tr F', (am_f2.b F1).tr ((am_f2.u unH_fr).tr G'), ?_⟩
  · rw [en_un_tellWords, B_un_tellWords_0, if_pos (rd_O hb1.1), e1, Option.bind_some, hp, Option.bind_some, hg, Option.bind_some, e', Option.bind_some]
    dsimp only
    rw [if_pos r01]
  · rcases O' with ⟨h1, h2, h3⟩ | ⟨bk', v', h1, h2, _, _, h3⟩
    · exact Or.inl ⟨h1, h2, h3⟩
    · exact Or.inr ⟨bk', v', h1, h2, h3⟩
end UN
