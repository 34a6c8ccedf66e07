/-! the model's calls: raise, append, finish, undo, keep, same -/
theorem sb_nil (ws : List wd) : sb ws [] = ws := by
  unfold sb
  rw [List.filter_eq_self]
  intro a _
  simp
def gst (ws : List wd) : Int := ws.foldl (fun s q => if s < q.2 then q.2 else s) 0
theorem gf_spec : ∀ (l : List wd) (s : Int), s ≤ l.foldl (fun s q => if s < q.2 then q.2 else s) s ∧ (∀ q ∈ l, q.2 ≤ l.foldl (fun s q => if s < q.2 then q.2 else s) s) ∧ (l.foldl (fun s q => if s < q.2 then q.2 else s) s = s ∨ ∃ q ∈ l, q.2 = l.foldl (fun s q => if s < q.2 then q.2 else s) s)
  | [], s => ⟨Int.le_refl _, fun q hq => by simp at hq, Or.inl rfl⟩
  | a :: l, s => by
    obtain ⟨h1, h2, h3⟩ := gf_spec l (if s < a.2 then a.2 else s)
    have hm : s ≤ (if s < a.2 then a.2 else s) ∧ a.2 ≤ (if s < a.2 then a.2 else s) ∧ ((if s < a.2 then a.2 else s) = s ∨ (if s < a.2 then a.2 else s) = a.2) := by split <;> omega
    rw [List.foldl_cons]
    refine ⟨by omega, fun q hq => ?_, ?_⟩
    · rcases List.mem_cons.mp hq with g | g
      · rw [g]; omega
      · exact h2 q g
    · rcases h3 with g | ⟨q, g1, g2⟩
      · rcases hm.2.2 with g2 | g2
        · exact Or.inl (by omega)
        · exact Or.inr ⟨a, List.mem_cons_self, by omega⟩
      · exact Or.inr ⟨q, List.mem_cons_of_mem _ g1, g2⟩
theorem rsd_iff {ws : List wd} (hk : ∀ p ∈ ws, wk p) (hn : ws ≠ []) (d : Int) : (∀ p ∈ ws, 0 ≤ p.2 + d ∧ p.2 + d ≤ 999999) ↔ (0 ≤ lst ws [] + d ∧ lst ws [] + d ≤ 999999) ∧ (0 ≤ gst ws + d ∧ gst ws + d ≤ 999999) := by
  have hm := lst_min hk (p := []) (by rw [sb_nil]; exact hn)
  unfold isMin at hm
  rw [sb_nil] at hm
  obtain ⟨m1, q, m2, m3⟩ := hm
  obtain ⟨g1, g2, g3⟩ := gf_spec ws 0
  have g3' : ∃ q ∈ ws, q.2 = gst ws := by
    rcases g3 with g | g
    · obtain ⟨r, hr⟩ := List.exists_mem_of_ne_nil _ hn
      have := g2 r hr
      have := (hk r hr).2.2.2.1
      exact ⟨r, hr, by unfold gst; omega⟩
    · exact g
  obtain ⟨r, r1, r2⟩ := g3'
  constructor
  · intro h
    have h1 := h q m2
    have h2 := h r r1
    omega
  · rintro ⟨h1, h2⟩ p hp
    have := m1 p hp
    have : p.2 ≤ gst ws := g2 p hp
    omega
/-- the row with the first k words' NUMBERS raised -/
def rsf (f : Nat → Int) (x : Int) (k : Nat) : Nat → Int := fun i => if i % 12 = 2 ∧ i / 12 < k then f i + x else f i
theorem put_snoc {bs : List wd} (hs : so bs) {t : List Int} (h : bs ≠ [] → lx (lastw bs) t = true) (x : Int) : put bs t x = bs ++ [(t, x)] ∧ ah bs t = bs.length ∧ nu bs t = none := by
  have hso := so_snoc hs (q := (t, x)) h
  have hg : (bs ++ [(t, x)])[bs.length]? = some (t, x) := by rw [List.getElem?_append_right (Nat.le_refl _), Nat.sub_self]; rfl
  have ha : ah bs t = bs.length := by
    refine ah_uniq (Nat.le_refl _) (fun i p hi hp => ?_) (fun p hp => ?_)
    · exact so_get hso (i := i) (j := bs.length) hi (by rw [List.getElem?_append_left hi]; exact hp) hg
    · rw [List.getElem?_eq_none (Nat.le_refl _)] at hp; simp at hp
  have hn : nu bs t = none := by unfold nu; rw [ha, List.getElem?_eq_none (Nat.le_refl _)]
  refine ⟨?_, ha, hn⟩
  unfold put
  rw [ha, if_pos hn, List.take_length, List.drop_length]
section MO
variable {m : Nat} {g : am_H} {S : Nat → Nat → Int} {t u : List Int} {ws bs ws' bs' : List wd} {hs : List (List wd × List wd)} {sh : Nat → Option (List wd)}
theorem md_leastNumber (H : MR S t ws bs hs sh) (O : okS t ws bs hs sh) (d : Nat) : am_cI (d + 1) N_md_leastNumber [.inr (.inr (some (m)))] (MH m g S) = some (lst ws [], MH m g S) := by
  have h1 := H.2.1.1
  have hl := O.2.1.2.2
  apply am_cI_of
  have loop : ∀ v : Int, EV (d + 1) N_md_leastNumber T_md_leastNumber_18 [.inr (.inr (some (m))), .inl ((ws.take 0).foldl (fun s q => am_min s q.2) v), .inl (((0 : Nat) : Int))] [] (MH m g S) = some (some (.inl (ws.foldl (fun s q => am_min s q.2) v)), MH m g S) := by
    intro v
    have loop := am_for (F := fun k => EV (d + 1) N_md_leastNumber T_md_leastNumber_18 [.inr (.inr (some (m))), .inl ((ws.take k).foldl (fun s q => am_min s q.2) v), .inl ((k : Int))] [] (MH m g S)) (k := 0) (n := ws.length) (Nat.zero_le _) (fun k _ hk => by
      have hget : ws[k]? = some ws[k] := List.getElem?_eq_getElem hk
      have a1 := fun d => md_numberOf0 (m := m) (g := g) H hget d
      rw [tk_s hget, List.foldl_append, List.foldl_cons, List.foldl_nil]
      generalize (ws.take k).foldl (fun s q => am_min s q.2) v = z
      have e9 : (k : Int) + 1 = ((k + 1 : Nat) : Int) := by omega
      by_cases c : ws[k].2 < z
      · have em : am_min z ws[k].2 = ws[k].2 := if_pos c
        rw [em]
        (try dsimp only); rw [B_md_leastNumber_18]; simp (disch := omega) only [B_md_leastNumber_28, B_md_leastNumber_41, B_md_leastNumber_54, Option.bind_some, if_true, if_false, eq_self, not_true_eq_false, not_false_eq_true, am_w_id, if_pos, if_neg, fu_self, fu_ne, Int.toNat_natCast, m_gR_2, m_l_2, m_s_2, h1, a1, e9, Int.reduceToNat]
      · have em : am_min z ws[k].2 = z := if_neg c
        rw [em]
        (try dsimp only); rw [B_md_leastNumber_18]; simp (disch := omega) only [B_md_leastNumber_28, B_md_leastNumber_53, B_md_leastNumber_54, Option.bind_some, if_true, if_false, eq_self, not_true_eq_false, not_false_eq_true, am_w_id, if_pos, if_neg, fu_self, fu_ne, Int.toNat_natCast, m_gR_2, m_l_2, m_s_2, h1, a1, e9, Int.reduceToNat])
    refine loop.trans ?_
    rw [List.take_length]
    (try dsimp only); rw [B_md_leastNumber_18]; simp (disch := omega) only [B_md_leastNumber_61, Option.bind_some, if_true, if_false, eq_self, not_true_eq_false, not_false_eq_true, am_w_id, if_pos, if_neg, fu_self, fu_ne, Int.toNat_natCast, m_gR_2, m_l_2, m_s_2, h1, Int.reduceToNat]
  unfold lst
  rw [sb_nil]
  by_cases c : ws = []
  · rw [if_pos c]
    subst c
    have h1' : S 2 0 = 0 := h1
    have := loop 0
    (try dsimp only); rw [en_md_leastNumber]; (try simp (disch := omega) only [Option.bind_some, if_true, if_false, eq_self, not_true_eq_false, not_false_eq_true, am_w_id, if_pos, if_neg, fu_self, fu_ne, Int.toNat_natCast, h1', Int.reduceToNat]); rw [B_md_leastNumber_0]; (try simp (disch := omega) only [Option.bind_some, if_true, if_false, eq_self, not_true_eq_false, not_false_eq_true, am_w_id, if_pos, if_neg, fu_self, fu_ne, Int.toNat_natCast, m_gR_2, m_l_2, m_s_2, h1', Int.reduceToNat]); rw [B_md_leastNumber_9]; (try simp (disch := omega) only [Option.bind_some, if_true, if_false, eq_self, not_true_eq_false, not_false_eq_true, am_w_id, if_pos, if_neg, fu_self, fu_ne, Int.toNat_natCast, h1', Int.reduceToNat]); rw [B_md_leastNumber_15]; (try simp (disch := omega) only [Option.bind_some, if_true, if_false, eq_self, not_true_eq_false, not_false_eq_true, am_w_id, if_pos, if_neg, fu_self, fu_ne, Int.toNat_natCast, h1', Int.reduceToNat])
    exact this
  · rw [if_neg c]
    have hlp := List.length_pos_iff.mpr c
    have := loop 999999
    (try dsimp only); rw [en_md_leastNumber]; (try simp (disch := omega) only [Option.bind_some, if_true, if_false, eq_self, not_true_eq_false, not_false_eq_true, am_w_id, if_pos, if_neg, fu_self, fu_ne, Int.toNat_natCast, h1, Int.reduceToNat]); rw [B_md_leastNumber_0]; (try simp (disch := omega) only [Option.bind_some, if_true, if_false, eq_self, not_true_eq_false, not_false_eq_true, am_w_id, if_pos, if_neg, fu_self, fu_ne, Int.toNat_natCast, m_gR_2, m_l_2, m_s_2, h1, Int.reduceToNat]); rw [B_md_leastNumber_13]; (try simp (disch := omega) only [Option.bind_some, if_true, if_false, eq_self, not_true_eq_false, not_false_eq_true, am_w_id, if_pos, if_neg, fu_self, fu_ne, Int.toNat_natCast, h1, Int.reduceToNat]); rw [B_md_leastNumber_15]; (try simp (disch := omega) only [Option.bind_some, if_true, if_false, eq_self, not_true_eq_false, not_false_eq_true, am_w_id, if_pos, if_neg, fu_self, fu_ne, Int.toNat_natCast, h1, Int.reduceToNat])
    exact this
theorem md_greatestNumber (H : MR S t ws bs hs sh) (O : okS t ws bs hs sh) (d : Nat) : am_cI (d + 1) N_md_greatestNumber [.inr (.inr (some (m)))] (MH m g S) = some (gst ws, MH m g S) := by
  have h1 := H.2.1.1
  have hl := O.2.1.2.2
  apply am_cI_of
  rw [en_md_greatestNumber, B_md_greatestNumber_0]
  have loop := am_for (F := fun k => EV (d + 1) N_md_greatestNumber T_md_greatestNumber_4 [.inr (.inr (some (m))), .inl ((ws.take k).foldl (fun s q => if s < q.2 then q.2 else s) 0), .inl ((k : Int))] [] (MH m g S)) (k := 0) (n := ws.length) (Nat.zero_le _) (fun k _ hk => by
    have hget : ws[k]? = some ws[k] := List.getElem?_eq_getElem hk
    have a1 := fun d => md_numberOf0 (m := m) (g := g) H hget d
    rw [tk_s hget, List.foldl_append, List.foldl_cons, List.foldl_nil]
    generalize (ws.take k).foldl (fun s q => if s < q.2 then q.2 else s) 0 = z
    have e9 : (k : Int) + 1 = ((k + 1 : Nat) : Int) := by omega
    by_cases c : z < ws[k].2
    · rw [if_pos c]
      (try dsimp only); rw [B_md_greatestNumber_4]; simp (disch := omega) only [B_md_greatestNumber_14, B_md_greatestNumber_27, B_md_greatestNumber_40, Option.bind_some, if_true, if_false, eq_self, not_true_eq_false, not_false_eq_true, am_w_id, if_pos, if_neg, fu_self, fu_ne, Int.toNat_natCast, m_gR_2, m_l_2, m_s_2, h1, a1, e9, Int.reduceToNat]
    · rw [if_neg c]
      (try dsimp only); rw [B_md_greatestNumber_4]; simp (disch := omega) only [B_md_greatestNumber_14, B_md_greatestNumber_39, B_md_greatestNumber_40, Option.bind_some, if_true, if_false, eq_self, not_true_eq_false, not_false_eq_true, am_w_id, if_pos, if_neg, fu_self, fu_ne, Int.toNat_natCast, m_gR_2, m_l_2, m_s_2, h1, a1, e9, Int.reduceToNat])
  refine loop.trans ?_
  rw [List.take_length]
  (try dsimp only); rw [B_md_greatestNumber_4]; simp (disch := omega) only [B_md_greatestNumber_47, Option.bind_some, if_true, if_false, eq_self, not_true_eq_false, not_false_eq_true, am_w_id, if_pos, if_neg, fu_self, fu_ne, Int.toNat_natCast, m_gR_2, m_l_2, m_s_2, h1, Int.reduceToNat]
  rfl
theorem mo_raise (H : MR S t ws bs hs sh) (O : okS t ws bs hs sh) {x : Int} (hx : am_inI x) (d : Nat) : ∃ S', am_cI (d + 2) N_md_raise [.inr (.inr (some (m))), .inl (x)] (MH m g S) = some ((sp_raise x (t, ws, bs, hs, sh)).1, MH m g S') ∧ MS S' (sp_raise x (t, ws, bs, hs, sh)).2 := by
  have h1 := H.2.1.1
  have hl := O.2.1.2.2
  have hb := O.2.2.1.2.2
  have hxb := hx
  unfold am_inI at hxb
  have aL := fun d => md_leastNumber (m := m) (g := g) H O d
  have aG := fun d => md_greatestNumber (m := m) (g := g) H O d
  have bL : 0 ≤ lst ws [] ∧ lst ws [] ≤ 999999 := by
    unfold lst
    split
    · omega
    · obtain ⟨g1, g2, g3⟩ := mf_spec (sb ws []) 999999
      rcases g3 with g3 | ⟨r, g4, g5⟩
      · omega
      · have := (O.2.1.1 r (sb_mem.mp g4).1).2.2.2
        omega
  have bG : 0 ≤ gst ws ∧ gst ws ≤ 999999 := by
    obtain ⟨g1, g2, g3⟩ := gf_spec ws 0
    rcases g3 with g3 | ⟨r, g4, g5⟩
    · unfold gst; omega
    · have := (O.2.1.1 r g4).2.2.2
      unfold gst; omega
  unfold sp_raise
  dsimp only [act, MS]
  by_cases c1 : ws = []
  · rw [if_neg (fun h => h.1 c1)]
    refine ⟨S, am_cI_of ?_, H⟩
    subst c1
    have h1' : S 2 0 = 0 := h1
    (try dsimp only); rw [en_md_raise]; (try simp (disch := omega) only [Option.bind_some, if_true, if_false, eq_self, not_true_eq_false, not_false_eq_true, am_w_id, if_pos, if_neg, fu_self, fu_ne, Int.toNat_natCast, h1', Int.reduceToNat]); rw [B_md_raise_0]; (try simp (disch := omega) only [Option.bind_some, if_true, if_false, eq_self, not_true_eq_false, not_false_eq_true, am_w_id, if_pos, if_neg, fu_self, fu_ne, Int.toNat_natCast, m_gR_2, m_l_2, m_s_2, h1', Int.reduceToNat]); rw [B_md_raise_49]; (try simp (disch := omega) only [Option.bind_some, if_true, if_false, eq_self, not_true_eq_false, not_false_eq_true, am_w_id, if_pos, if_neg, fu_self, fu_ne, Int.toNat_natCast, h1', Int.reduceToNat])
  · have hlp := List.length_pos_iff.mpr c1
    by_cases c2 : x = 0
    · rw [if_neg (fun h => h.2.1 c2)]
      refine ⟨S, am_cI_of ?_, H⟩
      (try dsimp only); rw [en_md_raise]; (try simp (disch := omega) only [Option.bind_some, if_true, if_false, eq_self, not_true_eq_false, not_false_eq_true, am_w_id, if_pos, if_neg, fu_self, fu_ne, Int.toNat_natCast, h1, c2, Int.reduceToNat]); rw [B_md_raise_0]; (try simp (disch := omega) only [Option.bind_some, if_true, if_false, eq_self, not_true_eq_false, not_false_eq_true, am_w_id, if_pos, if_neg, fu_self, fu_ne, Int.toNat_natCast, m_gR_2, m_l_2, m_s_2, h1, c2, Int.reduceToNat]); rw [B_md_raise_9]; (try simp (disch := omega) only [Option.bind_some, if_true, if_false, eq_self, not_true_eq_false, not_false_eq_true, am_w_id, if_pos, if_neg, fu_self, fu_ne, Int.toNat_natCast, h1, c2, Int.reduceToNat]); rw [B_md_raise_49]; (try simp (disch := omega) only [Option.bind_some, if_true, if_false, eq_self, not_true_eq_false, not_false_eq_true, am_w_id, if_pos, if_neg, fu_self, fu_ne, Int.toNat_natCast, h1, c2, Int.reduceToNat])
    · have iff := rsd_iff O.2.1.1 c1 x
      have wl1 : am_wl (lst ws [] + x) = lst ws [] + x := am_wl_id (by omega) (by omega)
      have wl2 : am_wl (gst ws + x) = gst ws + x := am_wl_id (by omega) (by omega)
      by_cases c3 : 0 ≤ lst ws [] + x ∧ lst ws [] + x ≤ 999999
      · have i1 : ∀ d h, am_cI d N_md_isIn [.inr (.inl (lst ws [] + x)), .inr (.inl (0)), .inr (.inl (999999))] h = some (1, h) := fun d h => by rw [md_isIn, if_pos c3]
        by_cases c4 : 0 ≤ gst ws + x ∧ gst ws + x ≤ 999999
        · have i2 : ∀ d h, am_cI d N_md_isIn [.inr (.inl (gst ws + x)), .inr (.inl (0)), .inr (.inl (999999))] h = some (1, h) := fun d h => by rw [md_isIn, if_pos c4]
          have call := iff.mpr ⟨c3, c4⟩
          rw [if_pos ⟨c1, c2, call⟩]
          obtain ⟨S2, e2, H2, F2⟩ := md_keepsAct (m := m) (g := g) H O (d + 1)
          have h21 := H2.2.1.1
          have h2w := H2.2.1.2.2
          have loop := am_for (F := fun k => EV (d + 2) N_md_raise T_md_raise_57 [.inr (.inr (some (m))), .inl (x), .inl ((k : Int))] [] (MH m g (am_fu S2 2 (rsf (S2 2) x k)))) (k := 0) (n := ws.length) (Nat.zero_le _) (fun k _ hk => by
            have hget : ws[k]? = some ws[k] := List.getElem?_eq_getElem hk
            have hw := (h2w k _ hget).2.1
            have hr := call _ (List.getElem_mem hk)
            have hr2 := (O.2.1.1 _ (List.getElem_mem hk)).2.2.2
            have e1 : (2 + 12 * (k : Int)).toNat = 0 + 1 + 12 * k + 1 := by omega
            have e3 : rsf (S2 2) x k (0 + 1 + 12 * k + 1) = ws[k].2 := by unfold rsf; rw [if_neg (by omega)]; exact hw
            have e0 : rsf (S2 2) x k 0 = ws.length := by unfold rsf; rw [if_neg (by omega)]; exact h21
            have e4 : am_fu (rsf (S2 2) x k) (0 + 1 + 12 * k + 1) (ws[k].2 + x) = rsf (S2 2) x (k + 1) := by
              funext i
              unfold am_fu rsf
              by_cases ci : i = 0 + 1 + 12 * k + 1
              · rw [if_pos ci, if_pos (by omega), ci, hw]
              · rw [if_neg ci]
                by_cases cj : i % 12 = 2 ∧ i / 12 < k
                · rw [if_pos cj, if_pos (by omega)]
                · rw [if_neg cj, if_neg (by omega)]
            (try dsimp only); rw [B_md_raise_57]; simp (disch := omega) only [B_md_raise_67, Option.bind_some, if_true, if_false, eq_self, not_true_eq_false, not_false_eq_true, am_w_id, if_pos, if_neg, fu_self, fu_ne, Int.toNat_natCast, m_gR_2, m_l_2, m_s_2, e0, e1, e3, e4, fu_fu, Int.reduceToNat]
            rfl)
          have er0 : rsf (S2 2) x 0 = S2 2 := by funext i; unfold rsf; rw [if_neg (by omega)]
          rw [er0, fu_eta] at loop
          have H3 : MR (am_fu S2 2 (rsf (S2 2) x ws.length)) t (rsd x ws) bs (hpush hs (ws, bs)) sh := by
            refine MR_now H2 ⟨?_, by unfold rsd; rw [List.length_map]; omega, fun w p hp => ?_⟩ (fun i hi => ?_) hb
            · unfold rsf rsd; rw [if_neg (by omega), List.length_map]; exact h21
            · unfold rsd at hp
              rw [List.getElem?_map] at hp
              cases hq : ws[w]? with
              | none => rw [hq] at hp; simp at hp
              | some q =>
                rw [hq] at hp
                injection hp with hp
                have hwl := (List.getElem?_eq_some_iff.mp hq).1
                obtain ⟨w1, w2, w3⟩ := h2w w q hq
                rw [← hp]
                refine ⟨?_, ?_, fun i hi => ?_⟩
                · unfold rsf; rw [if_neg (by omega)]; exact w1
                · unfold rsf; rw [if_pos (by omega)]; rw [w2]
                · unfold rsf; rw [if_neg (by omega)]; exact w3 i hi
            · unfold rsf
              rw [if_neg (by omega)]
          have O3 := ok_raise (s := (t, ws, bs, hs, sh)) O x
          unfold sp_raise at O3
          rw [if_pos ⟨c1, c2, call⟩] at O3
          have aL3 := fun d => md_leastNumber (m := m) (g := g) H3 O3 d
          have e30 : rsf (S2 2) x ws.length 0 = ws.length := by unfold rsf; rw [if_neg (by omega)]; exact h21
          refine ⟨_, am_cI_of ?_, H3⟩
          (try dsimp only); rw [en_md_raise]; (try simp (disch := omega) only [Option.bind_some, if_true, if_false, eq_self, not_true_eq_false, not_false_eq_true, am_w_id, if_pos, if_neg, fu_self, fu_ne, Int.toNat_natCast, h1, c2, aL, aG, wl1, wl2, i1, i2, e2, Int.reduceToNat, show ¬ (1 : Int) = 0 by decide]); rw [B_md_raise_0]; (try simp (disch := omega) only [Option.bind_some, if_true, if_false, eq_self, not_true_eq_false, not_false_eq_true, am_w_id, if_pos, if_neg, fu_self, fu_ne, Int.toNat_natCast, m_gR_2, m_l_2, m_s_2, h1, c2, aL, aG, wl1, wl2, i1, i2, e2, Int.reduceToNat, show ¬ (1 : Int) = 0 by decide]); rw [B_md_raise_9]; (try simp (disch := omega) only [Option.bind_some, if_true, if_false, eq_self, not_true_eq_false, not_false_eq_true, am_w_id, if_pos, if_neg, fu_self, fu_ne, Int.toNat_natCast, h1, c2, aL, aG, wl1, wl2, i1, i2, e2, Int.reduceToNat, show ¬ (1 : Int) = 0 by decide]); rw [B_md_raise_13]; (try simp (disch := omega) only [Option.bind_some, if_true, if_false, eq_self, not_true_eq_false, not_false_eq_true, am_w_id, if_pos, if_neg, fu_self, fu_ne, Int.toNat_natCast, m_O, h1, c2, aL, aG, wl1, wl2, i1, i2, e2, Int.reduceToNat, show ¬ (1 : Int) = 0 by decide]); rw [B_md_raise_31]; (try simp (disch := omega) only [Option.bind_some, if_true, if_false, eq_self, not_true_eq_false, not_false_eq_true, am_w_id, if_pos, if_neg, fu_self, fu_ne, Int.toNat_natCast, m_O, h1, c2, aL, aG, wl1, wl2, i1, i2, e2, Int.reduceToNat, show ¬ (1 : Int) = 0 by decide]); rw [B_md_raise_51]; (try simp (disch := omega) only [Option.bind_some, if_true, if_false, eq_self, not_true_eq_false, not_false_eq_true, am_w_id, if_pos, if_neg, fu_self, fu_ne, Int.toNat_natCast, m_O, h1, c2, aL, aG, wl1, wl2, i1, i2, e2, Int.reduceToNat, show ¬ (1 : Int) = 0 by decide])
          refine loop.trans ?_
          (try dsimp only); rw [B_md_raise_57]; (try simp (disch := omega) only [Option.bind_some, if_true, if_false, eq_self, not_true_eq_false, not_false_eq_true, am_w_id, if_pos, if_neg, fu_self, fu_ne, Int.toNat_natCast, m_gR_2, m_l_2, m_s_2, e30, aL3, Int.reduceToNat]); rw [B_md_raise_88]; (try simp (disch := omega) only [Option.bind_some, if_true, if_false, eq_self, not_true_eq_false, not_false_eq_true, am_w_id, if_pos, if_neg, fu_self, fu_ne, Int.toNat_natCast, m_O, e30, aL3, Int.reduceToNat])
        · have i2 : ∀ d h, am_cI d N_md_isIn [.inr (.inl (gst ws + x)), .inr (.inl (0)), .inr (.inl (999999))] h = some (0, h) := fun d h => by rw [md_isIn, if_neg c4]
          rw [if_neg (fun h => c4 (iff.mp h.2.2).2)]
          refine ⟨S, am_cI_of ?_, H⟩
          (try dsimp only); rw [en_md_raise]; (try simp (disch := omega) only [Option.bind_some, if_true, if_false, eq_self, not_true_eq_false, not_false_eq_true, am_w_id, if_pos, if_neg, fu_self, fu_ne, Int.toNat_natCast, h1, c2, aL, aG, wl1, wl2, i1, i2, Int.reduceToNat, show ¬ (1 : Int) = 0 by decide]); rw [B_md_raise_0]; (try simp (disch := omega) only [Option.bind_some, if_true, if_false, eq_self, not_true_eq_false, not_false_eq_true, am_w_id, if_pos, if_neg, fu_self, fu_ne, Int.toNat_natCast, m_gR_2, m_l_2, m_s_2, h1, c2, aL, aG, wl1, wl2, i1, i2, Int.reduceToNat, show ¬ (1 : Int) = 0 by decide]); rw [B_md_raise_9]; (try simp (disch := omega) only [Option.bind_some, if_true, if_false, eq_self, not_true_eq_false, not_false_eq_true, am_w_id, if_pos, if_neg, fu_self, fu_ne, Int.toNat_natCast, h1, c2, aL, aG, wl1, wl2, i1, i2, Int.reduceToNat, show ¬ (1 : Int) = 0 by decide]); rw [B_md_raise_13]; (try simp (disch := omega) only [Option.bind_some, if_true, if_false, eq_self, not_true_eq_false, not_false_eq_true, am_w_id, if_pos, if_neg, fu_self, fu_ne, Int.toNat_natCast, m_O, h1, c2, aL, aG, wl1, wl2, i1, i2, Int.reduceToNat, show ¬ (1 : Int) = 0 by decide]); rw [B_md_raise_31]; (try simp (disch := omega) only [Option.bind_some, if_true, if_false, eq_self, not_true_eq_false, not_false_eq_true, am_w_id, if_pos, if_neg, fu_self, fu_ne, Int.toNat_natCast, m_O, h1, c2, aL, aG, wl1, wl2, i1, i2, Int.reduceToNat, show ¬ (1 : Int) = 0 by decide]); rw [B_md_raise_49]; (try simp (disch := omega) only [Option.bind_some, if_true, if_false, eq_self, not_true_eq_false, not_false_eq_true, am_w_id, if_pos, if_neg, fu_self, fu_ne, Int.toNat_natCast, h1, c2, aL, aG, wl1, wl2, i1, i2, Int.reduceToNat, show ¬ (1 : Int) = 0 by decide])
      · have i1 : ∀ d h, am_cI d N_md_isIn [.inr (.inl (lst ws [] + x)), .inr (.inl (0)), .inr (.inl (999999))] h = some (0, h) := fun d h => by rw [md_isIn, if_neg c3]
        rw [if_neg (fun h => c3 (iff.mp h.2.2).1)]
        refine ⟨S, am_cI_of ?_, H⟩
        (try dsimp only); rw [en_md_raise]; (try simp (disch := omega) only [Option.bind_some, if_true, if_false, eq_self, not_true_eq_false, not_false_eq_true, am_w_id, if_pos, if_neg, fu_self, fu_ne, Int.toNat_natCast, h1, c2, aL, wl1, i1, Int.reduceToNat]); rw [B_md_raise_0]; (try simp (disch := omega) only [Option.bind_some, if_true, if_false, eq_self, not_true_eq_false, not_false_eq_true, am_w_id, if_pos, if_neg, fu_self, fu_ne, Int.toNat_natCast, m_gR_2, m_l_2, m_s_2, h1, c2, aL, wl1, i1, Int.reduceToNat]); rw [B_md_raise_9]; (try simp (disch := omega) only [Option.bind_some, if_true, if_false, eq_self, not_true_eq_false, not_false_eq_true, am_w_id, if_pos, if_neg, fu_self, fu_ne, Int.toNat_natCast, h1, c2, aL, wl1, i1, Int.reduceToNat]); rw [B_md_raise_13]; (try simp (disch := omega) only [Option.bind_some, if_true, if_false, eq_self, not_true_eq_false, not_false_eq_true, am_w_id, if_pos, if_neg, fu_self, fu_ne, Int.toNat_natCast, m_O, h1, c2, aL, wl1, i1, Int.reduceToNat]); rw [B_md_raise_49]; (try simp (disch := omega) only [Option.bind_some, if_true, if_false, eq_self, not_true_eq_false, not_false_eq_true, am_w_id, if_pos, if_neg, fu_self, fu_ne, Int.toNat_natCast, h1, c2, aL, wl1, i1, Int.reduceToNat])
theorem mo_append (H : MR S t ws bs hs sh) (O : okS t ws bs hs sh) (x : Int) (d : Nat) : ∃ S', am_cI (d + 5) N_md_append [.inr (.inr (some (m))), .inl (x)] (MH m g S) = some ((sp_append x (t, ws, bs, hs, sh)).1, MH m g S') ∧ MS S' (sp_append x (t, ws, bs, hs, sh)).2 := by
  obtain ⟨S1, e1, T1, H1⟩ := mo_isWord (m := m) (g := g) H (d + 2)
  have O1 := okS_t O
  have hl := O.2.1.2.2
  have hb := O.2.2.1.2.2
  have H1l := H1.2.2.1.1
  unfold sp_append
  dsimp only [noT, MS]
  by_cases c1 : isW t
  · have c1' := c1
    unfold isW at c1'
    rw [if_pos c1'] at e1
    by_cases c2 : 0 ≤ x ∧ x ≤ 999999
    · have i1 : ∀ d h, am_cI d N_md_isIn [.inr (.inl (x)), .inr (.inl (0)), .inr (.inl (999999))] h = some (1, h) := fun d h => by rw [md_isIn, if_pos c2]
      by_cases c3 : bs.length < 100
      · rw [if_pos ⟨c1, c2, c3⟩]
        have hw := isW_wl c1
        have hl10 : (lw t).length ≤ 10 := by rw [lw_len]; exact c1.1.2
        have c3' : ¬ S1 2 1201 = 100 := by rw [H1l]; omega
        by_cases c4 : bs ≠ [] ∧ lx (lastw bs) (lw t) = false
        · rw [if_pos c4]
          have hlp := List.length_pos_iff.mpr c4.1
          have hg : bs[bs.length - 1]? = some (bs.getLastD ([], 0)) := by
            rw [← List.getLast?_eq_getElem?, List.getLastD_eq_getLast?]
            cases e : bs.getLast? with
            | none => rw [List.getLast?_eq_none_iff] at e; exact absurd e c4.1
            | some x => rfl
          have a1 := fun d => md_against (g := g) (m_row_2 (m := m)) (by decide) H1.2.2.1 hg (ok_get O.2.2.1 hg) T1 hw d
          have a1' : ∀ d, am_cI (d + 1) N_md_against [.inr (.inr (some (m))), .inr (.inr (some (m + 2))), .inl (1201), .inl (((bs.length - 1 : Nat) : Int))] (MH m g S1) = some (cw (lw t) (bs.getLastD ([], 0)).1, MH m g S1) := a1
          have hcw : ¬ 0 < cw (lw t) (bs.getLastD ([], 0)).1 := fun h => by
            have := (cw_gt _ _).mp h
            unfold lastw at c4
            rw [c4.2] at this
            exact Bool.noConfusion this
          have e5 : (bs.length : Int) - 1 = ((bs.length - 1 : Nat) : Int) := by omega
          refine ⟨S1, am_cI_of ?_, H1⟩
          (try dsimp only); rw [en_md_append]; (try simp (disch := omega) only [Option.bind_some, if_true, if_false, eq_self, not_true_eq_false, not_false_eq_true, am_w_id, if_pos, if_neg, fu_self, fu_ne, Int.toNat_natCast, e1, i1, H1l, e5, a1', hcw, Int.reduceToNat, show ¬ (1 : Int) = 0 by decide]); rw [B_md_append_0]; (try simp (disch := omega) only [Option.bind_some, if_true, if_false, eq_self, not_true_eq_false, not_false_eq_true, am_w_id, if_pos, if_neg, fu_self, fu_ne, Int.toNat_natCast, m_O, e1, i1, H1l, e5, a1', hcw, Int.reduceToNat, show ¬ (1 : Int) = 0 by decide]); rw [B_md_append_7]; (try simp (disch := omega) only [Option.bind_some, if_true, if_false, eq_self, not_true_eq_false, not_false_eq_true, am_w_id, if_pos, if_neg, fu_self, fu_ne, Int.toNat_natCast, e1, i1, H1l, e5, a1', hcw, Int.reduceToNat, show ¬ (1 : Int) = 0 by decide]); rw [B_md_append_19]; (try simp (disch := omega) only [Option.bind_some, if_true, if_false, eq_self, not_true_eq_false, not_false_eq_true, am_w_id, if_pos, if_neg, fu_self, fu_ne, Int.toNat_natCast, m_gR_2, m_l_2, m_s_2, e1, i1, H1l, e5, a1', hcw, Int.reduceToNat, show ¬ (1 : Int) = 0 by decide]); rw [B_md_append_34]; (try simp (disch := omega) only [Option.bind_some, if_true, if_false, eq_self, not_true_eq_false, not_false_eq_true, am_w_id, if_pos, if_neg, fu_self, fu_ne, Int.toNat_natCast, m_gR_2, m_l_2, m_s_2, e1, i1, H1l, e5, a1', hcw, Int.reduceToNat, show ¬ (1 : Int) = 0 by decide]); rw [B_md_append_45]; (try simp (disch := omega) only [Option.bind_some, if_true, if_false, eq_self, not_true_eq_false, not_false_eq_true, am_w_id, if_pos, if_neg, fu_self, fu_ne, Int.toNat_natCast, m_gR_2, m_l_2, m_s_2, m_O, e1, i1, H1l, e5, a1', hcw, Int.reduceToNat, show ¬ (1 : Int) = 0 by decide]); rw [B_md_append_69]; (try simp (disch := omega) only [Option.bind_some, if_true, if_false, eq_self, not_true_eq_false, not_false_eq_true, am_w_id, if_pos, if_neg, fu_self, fu_ne, Int.toNat_natCast, e1, i1, H1l, e5, a1', hcw, Int.reduceToNat, show ¬ (1 : Int) = 0 by decide])
        · rw [if_neg c4]
          have hlast : bs ≠ [] → lx (lastw bs) (lw t) = true := fun h => by
            rcases Bool.eq_false_or_eq_true (lx (lastw bs) (lw t)) with e | e
            · exact e
            · exact absurd ⟨h, e⟩ c4
          obtain ⟨p1, p2, p3⟩ := put_snoc O.2.2.1.2.1 hlast x
          obtain ⟨f, e3, h3, h4⟩ := md_puts (m := m) (g := g) (o := 1201) (m_row_2 (m := m)) (by decide) H1.2.2.1 O.2.2.1.1 T1 hw hl10 (by decide) (by decide) (by omega) (d + 1) x
          have e3' : am_cV (d + 4) N_md_puts [.inr (.inr (some (m))), .inr (.inr (some (m + 2))), .inl (1201), .inl (x)] (MH m g S1) = some (MH m g (am_fu S1 2 f)) := e3
          rw [p1] at h3 h4
          have O3 := ok_append (s := (t, ws, bs, hs, sh)) O x
          unfold sp_append at O3
          rw [if_pos ⟨c1, c2, c3⟩, if_neg c4] at O3
          replace O3 : okS [] ws (bs ++ [(lw t, x)]) hs sh := O3
          have H3 := MR_bld H1 h3 (fun i hi => h4 i (Or.inl hi)) hl
          have a4 := fun d => md_open (m := m) (g := g) O3.2.2.1 H3.2.2.1 d
          obtain ⟨S4, e4, F4⟩ := md_closed (m := m) (g := g) O3.2.2.1 H3.2.2.1 d
          have b1 : nC (bs ++ [(lw t, x)]) ≤ 1001 := by
            have := rl_len (e := eR (bs ++ [(lw t, x)])) (P := clo (bs ++ [(lw t, x)])) (nN (bs ++ [(lw t, x)]))
            have h9 : nN (bs ++ [(lw t, x)]) ≤ 1001 := ND_len O3.2.2.1
            unfold nC
            split <;> omega
          have b2 : nO (bs ++ [(lw t, x)]) ≤ 11 := by
            unfold nO
            rw [if_neg (by simp), List.getLastD_concat]
            dsimp only
            omega
          refine ⟨S4, am_cI_of ?_, H3.frd F4 (by decide)⟩
          by_cases c5 : bs = []
          · have c5' : S1 2 1201 ≤ 0 := by rw [H1l, c5]; simp
            (try dsimp only); rw [en_md_append]; (try simp (disch := omega) only [Option.bind_some, if_true, if_false, eq_self, not_true_eq_false, not_false_eq_true, am_w_id, if_pos, if_neg, fu_self, fu_ne, Int.toNat_natCast, e1, i1, c3', c5', e3', a4, e4, Int.reduceToNat, show ¬ (1 : Int) = 0 by decide]); rw [B_md_append_0]; (try simp (disch := omega) only [Option.bind_some, if_true, if_false, eq_self, not_true_eq_false, not_false_eq_true, am_w_id, if_pos, if_neg, fu_self, fu_ne, Int.toNat_natCast, m_O, e1, i1, c3', c5', e3', a4, e4, Int.reduceToNat, show ¬ (1 : Int) = 0 by decide]); rw [B_md_append_7]; (try simp (disch := omega) only [Option.bind_some, if_true, if_false, eq_self, not_true_eq_false, not_false_eq_true, am_w_id, if_pos, if_neg, fu_self, fu_ne, Int.toNat_natCast, e1, i1, c3', c5', e3', a4, e4, Int.reduceToNat, show ¬ (1 : Int) = 0 by decide]); rw [B_md_append_19]; (try simp (disch := omega) only [Option.bind_some, if_true, if_false, eq_self, not_true_eq_false, not_false_eq_true, am_w_id, if_pos, if_neg, fu_self, fu_ne, Int.toNat_natCast, m_gR_2, m_l_2, m_s_2, e1, i1, c3', c5', e3', a4, e4, Int.reduceToNat, show ¬ (1 : Int) = 0 by decide]); rw [B_md_append_34]; (try simp (disch := omega) only [Option.bind_some, if_true, if_false, eq_self, not_true_eq_false, not_false_eq_true, am_w_id, if_pos, if_neg, fu_self, fu_ne, Int.toNat_natCast, m_gR_2, m_l_2, m_s_2, e1, i1, c3', c5', e3', a4, e4, Int.reduceToNat, show ¬ (1 : Int) = 0 by decide]); rw [B_md_append_72]; (try simp (disch := omega) only [Option.bind_some, if_true, if_false, eq_self, not_true_eq_false, not_false_eq_true, am_w_id, if_pos, if_neg, fu_self, fu_ne, Int.toNat_natCast, m_gR_2, m_l_2, m_s_2, m_O, e1, i1, c3', c5', e3', a4, e4, Int.reduceToNat, show ¬ (1 : Int) = 0 by decide])
          · have hlp := List.length_pos_iff.mpr c5
            have hg : bs[bs.length - 1]? = some (bs.getLastD ([], 0)) := by
              rw [← List.getLast?_eq_getElem?, List.getLastD_eq_getLast?]
              cases e : bs.getLast? with
              | none => rw [List.getLast?_eq_none_iff] at e; exact absurd e c5
              | some x => rfl
            have a1 := fun d => md_against (g := g) (m_row_2 (m := m)) (by decide) H1.2.2.1 hg (ok_get O.2.2.1 hg) T1 hw d
            have a1' : ∀ d, am_cI (d + 1) N_md_against [.inr (.inr (some (m))), .inr (.inr (some (m + 2))), .inl (1201), .inl (((bs.length - 1 : Nat) : Int))] (MH m g S1) = some (cw (lw t) (bs.getLastD ([], 0)).1, MH m g S1) := a1
            have hcw : 0 < cw (lw t) (bs.getLastD ([], 0)).1 := (cw_gt _ _).mpr (hlast c5)
            have e5 : (bs.length : Int) - 1 = ((bs.length - 1 : Nat) : Int) := by omega
            (try dsimp only); rw [en_md_append]; (try simp (disch := omega) only [Option.bind_some, if_true, if_false, eq_self, not_true_eq_false, not_false_eq_true, am_w_id, if_pos, if_neg, fu_self, fu_ne, Int.toNat_natCast, e1, i1, H1l, e5, a1', hcw, e3', a4, e4, Int.reduceToNat, show ¬ (1 : Int) = 0 by decide]); rw [B_md_append_0]; (try simp (disch := omega) only [Option.bind_some, if_true, if_false, eq_self, not_true_eq_false, not_false_eq_true, am_w_id, if_pos, if_neg, fu_self, fu_ne, Int.toNat_natCast, m_O, e1, i1, H1l, e5, a1', hcw, e3', a4, e4, Int.reduceToNat, show ¬ (1 : Int) = 0 by decide]); rw [B_md_append_7]; (try simp (disch := omega) only [Option.bind_some, if_true, if_false, eq_self, not_true_eq_false, not_false_eq_true, am_w_id, if_pos, if_neg, fu_self, fu_ne, Int.toNat_natCast, e1, i1, H1l, e5, a1', hcw, e3', a4, e4, Int.reduceToNat, show ¬ (1 : Int) = 0 by decide]); rw [B_md_append_19]; (try simp (disch := omega) only [Option.bind_some, if_true, if_false, eq_self, not_true_eq_false, not_false_eq_true, am_w_id, if_pos, if_neg, fu_self, fu_ne, Int.toNat_natCast, m_gR_2, m_l_2, m_s_2, e1, i1, H1l, e5, a1', hcw, e3', a4, e4, Int.reduceToNat, show ¬ (1 : Int) = 0 by decide]); rw [B_md_append_34]; (try simp (disch := omega) only [Option.bind_some, if_true, if_false, eq_self, not_true_eq_false, not_false_eq_true, am_w_id, if_pos, if_neg, fu_self, fu_ne, Int.toNat_natCast, m_gR_2, m_l_2, m_s_2, e1, i1, H1l, e5, a1', hcw, e3', a4, e4, Int.reduceToNat, show ¬ (1 : Int) = 0 by decide]); rw [B_md_append_45]; (try simp (disch := omega) only [Option.bind_some, if_true, if_false, eq_self, not_true_eq_false, not_false_eq_true, am_w_id, if_pos, if_neg, fu_self, fu_ne, Int.toNat_natCast, m_gR_2, m_l_2, m_s_2, m_O, e1, i1, H1l, e5, a1', hcw, e3', a4, e4, Int.reduceToNat, show ¬ (1 : Int) = 0 by decide]); rw [B_md_append_72]; (try simp (disch := omega) only [Option.bind_some, if_true, if_false, eq_self, not_true_eq_false, not_false_eq_true, am_w_id, if_pos, if_neg, fu_self, fu_ne, Int.toNat_natCast, m_gR_2, m_l_2, m_s_2, m_O, e1, i1, H1l, e5, a1', hcw, e3', a4, e4, Int.reduceToNat, show ¬ (1 : Int) = 0 by decide])
      · rw [if_neg (fun h => c3 h.2.2)]
        have c3' : S1 2 1201 = 100 := by rw [H1l]; omega
        refine ⟨S1, am_cI_of ?_, H1⟩
        (try dsimp only); rw [en_md_append]; (try simp (disch := omega) only [Option.bind_some, if_true, if_false, eq_self, not_true_eq_false, not_false_eq_true, am_w_id, if_pos, if_neg, fu_self, fu_ne, Int.toNat_natCast, e1, i1, c3', Int.reduceToNat, show ¬ (1 : Int) = 0 by decide]); rw [B_md_append_0]; (try simp (disch := omega) only [Option.bind_some, if_true, if_false, eq_self, not_true_eq_false, not_false_eq_true, am_w_id, if_pos, if_neg, fu_self, fu_ne, Int.toNat_natCast, m_O, e1, i1, c3', Int.reduceToNat, show ¬ (1 : Int) = 0 by decide]); rw [B_md_append_7]; (try simp (disch := omega) only [Option.bind_some, if_true, if_false, eq_self, not_true_eq_false, not_false_eq_true, am_w_id, if_pos, if_neg, fu_self, fu_ne, Int.toNat_natCast, e1, i1, c3', Int.reduceToNat, show ¬ (1 : Int) = 0 by decide]); rw [B_md_append_19]; (try simp (disch := omega) only [Option.bind_some, if_true, if_false, eq_self, not_true_eq_false, not_false_eq_true, am_w_id, if_pos, if_neg, fu_self, fu_ne, Int.toNat_natCast, m_gR_2, m_l_2, m_s_2, e1, i1, c3', Int.reduceToNat, show ¬ (1 : Int) = 0 by decide]); rw [B_md_append_32]; (try simp (disch := omega) only [Option.bind_some, if_true, if_false, eq_self, not_true_eq_false, not_false_eq_true, am_w_id, if_pos, if_neg, fu_self, fu_ne, Int.toNat_natCast, e1, i1, c3', Int.reduceToNat, show ¬ (1 : Int) = 0 by decide])
    · rw [if_neg (fun h => c2 h.2.1)]
      have i1 : ∀ d h, am_cI d N_md_isIn [.inr (.inl (x)), .inr (.inl (0)), .inr (.inl (999999))] h = some (0, h) := fun d h => by rw [md_isIn, if_neg c2]
      refine ⟨S1, am_cI_of ?_, H1⟩
      (try dsimp only); rw [en_md_append]; (try simp (disch := omega) only [Option.bind_some, if_true, if_false, eq_self, not_true_eq_false, not_false_eq_true, am_w_id, if_pos, if_neg, fu_self, fu_ne, Int.toNat_natCast, e1, i1, show ¬ (1 : Int) = 0 by decide]); rw [B_md_append_0]; (try simp (disch := omega) only [Option.bind_some, if_true, if_false, eq_self, not_true_eq_false, not_false_eq_true, am_w_id, if_pos, if_neg, fu_self, fu_ne, Int.toNat_natCast, m_O, e1, i1, show ¬ (1 : Int) = 0 by decide]); rw [B_md_append_7]; (try simp (disch := omega) only [Option.bind_some, if_true, if_false, eq_self, not_true_eq_false, not_false_eq_true, am_w_id, if_pos, if_neg, fu_self, fu_ne, Int.toNat_natCast, e1, i1, show ¬ (1 : Int) = 0 by decide]); rw [B_md_append_32]; (try simp (disch := omega) only [Option.bind_some, if_true, if_false, eq_self, not_true_eq_false, not_false_eq_true, am_w_id, if_pos, if_neg, fu_self, fu_ne, Int.toNat_natCast, e1, i1, show ¬ (1 : Int) = 0 by decide])
  · rw [if_neg (fun h => c1 h.1)]
    unfold isW at c1
    rw [if_neg c1] at e1
    refine ⟨S1, am_cI_of ?_, H1⟩
    (try dsimp only); rw [en_md_append]; (try simp (disch := omega) only [Option.bind_some, if_true, if_false, eq_self, not_true_eq_false, not_false_eq_true, am_w_id, if_pos, if_neg, fu_self, fu_ne, Int.toNat_natCast, e1]); rw [B_md_append_0]; (try simp (disch := omega) only [Option.bind_some, if_true, if_false, eq_self, not_true_eq_false, not_false_eq_true, am_w_id, if_pos, if_neg, fu_self, fu_ne, Int.toNat_natCast, m_O, e1]); rw [B_md_append_32]; (try simp (disch := omega) only [Option.bind_some, if_true, if_false, eq_self, not_true_eq_false, not_false_eq_true, am_w_id, if_pos, if_neg, fu_self, fu_ne, Int.toNat_natCast, e1])
theorem mo_finish (H : MR S t ws bs hs sh) (O : okS t ws bs hs sh) (d : Nat) : ∃ S', am_cI (d + 6) N_md_finish [.inr (.inr (some (m)))] (MH m g S) = some ((sp_finish (t, ws, bs, hs, sh)).1, MH m g S') ∧ MS S' (sp_finish (t, ws, bs, hs, sh)).2 := by
  have h1 := H.2.2.1.1
  have hl := O.2.1.2.2
  have hb := O.2.2.1.2.2
  unfold sp_finish
  dsimp only [act, MS]
  by_cases c : bs = []
  · rw [if_pos c]
    subst c
    have h1' : S 2 1201 = 0 := h1
    refine ⟨S, am_cI_of ?_, H⟩
    (try dsimp only); rw [en_md_finish]; (try simp (disch := omega) only [Option.bind_some, if_true, if_false, eq_self, not_true_eq_false, not_false_eq_true, am_w_id, if_pos, if_neg, fu_self, fu_ne, Int.toNat_natCast, h1', Int.reduceToNat]); rw [B_md_finish_0]; (try simp (disch := omega) only [Option.bind_some, if_true, if_false, eq_self, not_true_eq_false, not_false_eq_true, am_w_id, if_pos, if_neg, fu_self, fu_ne, Int.toNat_natCast, m_gR_2, m_l_2, m_s_2, h1', Int.reduceToNat]); rw [B_md_finish_11]; (try simp (disch := omega) only [Option.bind_some, if_true, if_false, eq_self, not_true_eq_false, not_false_eq_true, am_w_id, if_pos, if_neg, fu_self, fu_ne, Int.toNat_natCast, h1', Int.reduceToNat])
  · rw [if_neg c]
    have hlp := List.length_pos_iff.mpr c
    obtain ⟨S2, e2, H2, F2⟩ := md_keepsAct (m := m) (g := g) H O (d + 5)
    have loop := am_for (F := fun k => EV (d + 6) N_md_finish T_md_finish_19 [.inr (.inr (some (m))), .inl ((k : Int))] [] (MH m g (am_fu S2 2 (prf (S2 2) (fun i => S2 2 (1201 + i)) k)))) (k := 0) (n := 1201) (Nat.zero_le _) (fun k _ hk => by
      have e1 : (1201 + (k : Int)).toNat = 1201 + k := by omega
      have e3 : prf (S2 2) (fun i => S2 2 (1201 + i)) k (1201 + k) = S2 2 (1201 + k) := prf_ge (by omega)
      have e4 : am_fu (prf (S2 2) (fun i => S2 2 (1201 + i)) k) k (S2 2 (1201 + k)) = prf (S2 2) (fun i => S2 2 (1201 + i)) (k + 1) := prf_s rfl
      (try dsimp only); rw [B_md_finish_19]; simp (disch := omega) only [B_md_finish_26, Option.bind_some, if_true, if_false, eq_self, not_true_eq_false, not_false_eq_true, am_w_id, if_pos, if_neg, fu_self, fu_ne, Int.toNat_natCast, m_gR_2, m_l_2, m_s_2, e1, e3, e4, fu_fu]
      rfl)
    rw [prf0, fu_eta] at loop
    obtain ⟨f, hf⟩ : ∃ f, f = am_fu (prf (S2 2) (fun i => S2 2 (1201 + i)) 1201) 1201 0 := ⟨_, rfl⟩
    have hf0 : ml 2402 f 0 bs := by
      refine ml_cp H2.2.2.1 (fun i hi => ?_) (by omega)
      rw [hf, fu_ne (by omega), prf_lt (by omega), Nat.zero_add]
    have hf1 : ml 2402 f 1201 [] := ⟨by rw [hf, fu_self]; rfl, by simp, fun w p hp => by simp at hp⟩
    have H3 : MR (am_fu S2 2 f) t bs [] (hpush hs (ws, bs)) sh := by
      refine ⟨H2.1, ?_, ?_, H2.2.2.2.1, H2.2.2.2.2⟩
      · rw [fu_self]; exact hf0
      · rw [fu_self]; exact hf1
    obtain ⟨S4, e4, s4, F4⟩ := md_statesOf (m := m) (g := g) O.2.2.1 H3.2.1 d 0
    refine ⟨S4, am_cI_of ?_, H3.frd F4 (by decide)⟩
    (try dsimp only); rw [en_md_finish]; (try simp (disch := omega) only [Option.bind_some, if_true, if_false, eq_self, not_true_eq_false, not_false_eq_true, am_w_id, if_pos, if_neg, fu_self, fu_ne, Int.toNat_natCast, h1, e2, Int.reduceToNat]); rw [B_md_finish_0]; (try simp (disch := omega) only [Option.bind_some, if_true, if_false, eq_self, not_true_eq_false, not_false_eq_true, am_w_id, if_pos, if_neg, fu_self, fu_ne, Int.toNat_natCast, m_gR_2, m_l_2, m_s_2, h1, e2, Int.reduceToNat]); rw [B_md_finish_13]; (try simp (disch := omega) only [Option.bind_some, if_true, if_false, eq_self, not_true_eq_false, not_false_eq_true, am_w_id, if_pos, if_neg, fu_self, fu_ne, Int.toNat_natCast, m_O, h1, e2, Int.reduceToNat])
    refine loop.trans ?_
    (try dsimp only); rw [B_md_finish_19]; (try simp (disch := omega) only [Option.bind_some, if_true, if_false, eq_self, not_true_eq_false, not_false_eq_true, am_w_id, if_pos, if_neg, fu_self, fu_ne, Int.toNat_natCast, ← hf, fu_fu, e4, Int.reduceToNat]); rw [B_md_finish_48]; (try simp (disch := omega) only [Option.bind_some, if_true, if_false, eq_self, not_true_eq_false, not_false_eq_true, am_w_id, if_pos, if_neg, fu_self, fu_ne, Int.toNat_natCast, m_gR_2, m_l_2, m_s_2, m_O, ← hf, fu_fu, e4, Int.reduceToNat])
theorem mo_undo (H : MR S t ws bs hs sh) (O : okS t ws bs hs sh) (d : Nat) : ∃ S', am_cI d N_md_undo [.inr (.inr (some (m)))] (MH m g S) = some ((sp_undo (t, ws, bs, hs, sh)).1, MH m g S') ∧ MS S' (sp_undo (t, ws, bs, hs, sh)).2 := by
  unfold sp_undo
  dsimp only [MS]
  cases e : hs.getLast? with
  | none =>
    rw [List.getLast?_eq_none_iff] at e
    subst e
    exact ⟨S, md_undo0 H.2.2.2.1.1 d, H⟩
  | some p =>
    have hne : hs ≠ [] := fun h => by rw [h] at e; simp at e
    have hh : hs = hs.dropLast ++ [(p.1, p.2)] := by
      have h1 := List.dropLast_concat_getLast hne
      rw [List.getLast?_eq_some_getLast hne] at e
      injection e with e
      rw [e] at h1
      exact h1.symm
    rw [hh] at H O
    exact md_undo H O d
theorem mo_keep (H : MR S t ws bs hs sh) (O : okS t ws bs hs sh) (k : Int) (d : Nat) : ∃ S', am_cI (d + 1) N_md_keep [.inr (.inr (some (m))), .inl (k)] (MH m g S) = some ((sp_keep k (t, ws, bs, hs, sh)).1, MH m g S') ∧ MS S' (sp_keep k (t, ws, bs, hs, sh)).2 := by
  have h1 := H.2.1.1
  have hl := O.2.1.2.2
  unfold sp_keep
  dsimp only [MS]
  by_cases c : 0 ≤ k ∧ k ≤ 2
  · rw [if_pos c]
    have i1 : ∀ d h, am_cI d N_md_isIn [.inr (.inl (k)), .inr (.inl (0)), .inr (.inl (2))] h = some (1, h) := fun d h => by rw [md_isIn, if_pos c]
    obtain ⟨n, rfl⟩ := Int.eq_ofNat_of_zero_le c.1
    have hn : n ≤ 2 := by omega
    have loop := am_for (F := fun i => EV (d + 1) N_md_keep T_md_keep_16 [.inr (.inr (some (m))), .inl ((n : Int)), .inl ((i : Int))] [] (MH m g (am_fu S 5 (sgf (S 5) (S 2) (1201 * n) i)))) (k := 0) (n := 1201) (Nat.zero_le _) (fun i _ hi => by
      have e1 : (1201 * (n : Int) + (i : Int)).toNat = 1201 * n + i := by omega
      (try dsimp only); rw [B_md_keep_16]; simp (disch := omega) only [B_md_keep_23, Option.bind_some, if_true, if_false, eq_self, not_true_eq_false, not_false_eq_true, am_w_id, if_pos, if_neg, fu_self, fu_ne, Int.toNat_natCast, m_gR_5, m_l_5, m_s_5, m_gR_2, m_l_2, m_s_2, e1, sgf_s, fu_fu]
      rfl)
    rw [sgf0, fu_eta] at loop
    rw [Int.toNat_natCast]
    refine ⟨am_fu (am_fu S 5 (sgf (S 5) (S 2) (1201 * n) 1201)) 6 (am_fu (S 6) n 1), am_cI_of ?_, H.1, H.2.1, H.2.2.1, H.2.2.2.1, fun j hj => ?_⟩
    · (try dsimp only); rw [en_md_keep]; (try simp (disch := omega) only [Option.bind_some, if_true, if_false, eq_self, not_true_eq_false, not_false_eq_true, am_w_id, if_pos, if_neg, fu_self, fu_ne, Int.toNat_natCast, i1, show ¬ (1 : Int) = 0 by decide]); rw [B_md_keep_0]; (try simp (disch := omega) only [Option.bind_some, if_true, if_false, eq_self, not_true_eq_false, not_false_eq_true, am_w_id, if_pos, if_neg, fu_self, fu_ne, Int.toNat_natCast, i1, show ¬ (1 : Int) = 0 by decide]); rw [B_md_keep_14]; (try simp (disch := omega) only [Option.bind_some, if_true, if_false, eq_self, not_true_eq_false, not_false_eq_true, am_w_id, if_pos, if_neg, fu_self, fu_ne, Int.toNat_natCast, i1, show ¬ (1 : Int) = 0 by decide])
      refine loop.trans ?_
      (try dsimp only); rw [B_md_keep_16]; (try simp (disch := omega) only [Option.bind_some, if_true, if_false, eq_self, not_true_eq_false, not_false_eq_true, am_w_id, if_pos, if_neg, fu_self, fu_ne, Int.toNat_natCast, h1, Int.reduceToNat]); rw [B_md_keep_47]; (try simp (disch := omega) only [Option.bind_some, if_true, if_false, eq_self, not_true_eq_false, not_false_eq_true, am_w_id, if_pos, if_neg, fu_self, fu_ne, Int.toNat_natCast, m_gR_6, m_l_6, m_s_6, m_gR_2, m_l_2, m_s_2, h1, Int.reduceToNat])
    · dsimp only
      rw [show am_fu (am_fu S 5 (sgf (S 5) (S 2) (1201 * n) 1201)) 6 (am_fu (S 6) n 1) 6 = am_fu (S 6) n 1 from fu_self, show am_fu (am_fu S 5 (sgf (S 5) (S 2) (1201 * n) 1201)) 6 (am_fu (S 6) n 1) 5 = sgf (S 5) (S 2) (1201 * n) 1201 from (fu_ne (show (5 : Nat) ≠ 6 by decide)).trans fu_self]
      by_cases cj : j = n
      · subst cj
        rw [fu_self]
        refine ⟨by simp [shp], fun v hv => ?_⟩
        simp only [shp, if_true, Option.some.injEq] at hv
        subst hv
        exact ml_cp H.2.1 (fun i hi => by rw [sgf_in (by omega), Nat.zero_add]) (by omega)
      · rw [fu_ne cj]
        obtain ⟨s1, s2⟩ := H.2.2.2.2 j hj
        simp only [shp, if_neg cj]
        refine ⟨s1, fun v hv => ?_⟩
        have hvl := (O.2.2.2.2 j v hv).2.2
        exact ml_cp (s2 v hv) (fun i hi => sgf_out (by omega)) (by omega)
  · rw [if_neg c]
    have i1 : ∀ d h, am_cI d N_md_isIn [.inr (.inl (k)), .inr (.inl (0)), .inr (.inl (2))] h = some (0, h) := fun d h => by rw [md_isIn, if_neg c]
    refine ⟨S, am_cI_of ?_, H⟩
    (try dsimp only); rw [en_md_keep]; (try simp (disch := omega) only [Option.bind_some, if_true, if_false, eq_self, not_true_eq_false, not_false_eq_true, am_w_id, if_pos, if_neg, fu_self, fu_ne, Int.toNat_natCast, i1]); rw [B_md_keep_0]; (try simp (disch := omega) only [Option.bind_some, if_true, if_false, eq_self, not_true_eq_false, not_false_eq_true, am_w_id, if_pos, if_neg, fu_self, fu_ne, Int.toNat_natCast, i1]); rw [B_md_keep_12]; (try simp (disch := omega) only [Option.bind_some, if_true, if_false, eq_self, not_true_eq_false, not_false_eq_true, am_w_id, if_pos, if_neg, fu_self, fu_ne, Int.toNat_natCast, i1])
theorem mo_same (H : MR S t ws bs hs sh) (O : okS t ws bs hs sh) (k : Int) (d : Nat) : ∃ S', am_cI (d + 2) N_md_same [.inr (.inr (some (m))), .inl (k)] (MH m g S) = some ((sp_same k (t, ws, bs, hs, sh)).1, MH m g S') ∧ MS S' (sp_same k (t, ws, bs, hs, sh)).2 := by
  have h1 := H.2.1.1
  have hl := O.2.1.2.2
  unfold sp_same
  dsimp only [MS]
  by_cases c : 0 ≤ k ∧ k ≤ 2
  · rw [if_pos c]
    have i1 : ∀ d h, am_cI d N_md_isIn [.inr (.inl (k)), .inr (.inl (0)), .inr (.inl (2))] h = some (1, h) := fun d h => by rw [md_isIn, if_pos c]
    obtain ⟨n, rfl⟩ := Int.eq_ofNat_of_zero_le c.1
    have hn : n ≤ 2 := by omega
    obtain ⟨s1, s2⟩ := H.2.2.2.2 n (by omega)
    rw [Int.toNat_natCast]
    cases hv : sh n with
    | none =>
      rw [if_pos hv] at s1
      refine ⟨S, am_cI_of ?_, H⟩
      (try dsimp only); rw [en_md_same]; (try simp (disch := omega) only [Option.bind_some, if_true, if_false, eq_self, not_true_eq_false, not_false_eq_true, am_w_id, if_pos, if_neg, fu_self, fu_ne, Int.toNat_natCast, i1, s1, show ¬ (1 : Int) = 0 by decide]); rw [B_md_same_0]; (try simp (disch := omega) only [Option.bind_some, if_true, if_false, eq_self, not_true_eq_false, not_false_eq_true, am_w_id, if_pos, if_neg, fu_self, fu_ne, Int.toNat_natCast, i1, s1, show ¬ (1 : Int) = 0 by decide]); rw [B_md_same_14]; (try simp (disch := omega) only [Option.bind_some, if_true, if_false, eq_self, not_true_eq_false, not_false_eq_true, am_w_id, if_pos, if_neg, fu_self, fu_ne, Int.toNat_natCast, m_gR_6, m_l_6, m_s_6, i1, s1, show ¬ (1 : Int) = 0 by decide]); rw [B_md_same_23]; (try simp (disch := omega) only [Option.bind_some, if_true, if_false, eq_self, not_true_eq_false, not_false_eq_true, am_w_id, if_pos, if_neg, fu_self, fu_ne, Int.toNat_natCast, i1, s1, show ¬ (1 : Int) = 0 by decide])
    | some v =>
      rw [if_neg (by rw [hv]; simp)] at s1
      have hm := s2 v hv
      have hvo := O.2.2.2.2 n v hv
      have hvl := hvo.2.2
      have e5 : 1201 * (n : Int) = ((1201 * n : Nat) : Int) := by omega
      dsimp only
      by_cases c2 : v.length = ws.length
      · have hm0 : S 5 (1201 * n) = (ws.length : Int) := by rw [hm.1, c2]
        have start : am_call (d + 2) N_md_same [.inr (.inr (some (m))), .inl ((n : Int))] (MH m g S) = EV (d + 2) N_md_same T_md_same_49 [.inr (.inr (some (m))), .inl ((n : Int)), .inl (((0 : Nat) : Int))] [] (MH m g S) := by
          (try dsimp only); rw [en_md_same]; (try simp (disch := omega) only [Option.bind_some, if_true, if_false, eq_self, not_true_eq_false, not_false_eq_true, am_w_id, if_pos, if_neg, fu_self, fu_ne, Int.toNat_natCast, i1, s1, e5, hm0, h1, Int.reduceToNat, show ¬ (1 : Int) = 0 by decide]); rw [B_md_same_0]; (try simp (disch := omega) only [Option.bind_some, if_true, if_false, eq_self, not_true_eq_false, not_false_eq_true, am_w_id, if_pos, if_neg, fu_self, fu_ne, Int.toNat_natCast, i1, s1, e5, hm0, h1, Int.reduceToNat, show ¬ (1 : Int) = 0 by decide]); rw [B_md_same_14]; (try simp (disch := omega) only [Option.bind_some, if_true, if_false, eq_self, not_true_eq_false, not_false_eq_true, am_w_id, if_pos, if_neg, fu_self, fu_ne, Int.toNat_natCast, m_gR_6, m_l_6, m_s_6, i1, s1, e5, hm0, h1, Int.reduceToNat, show ¬ (1 : Int) = 0 by decide]); rw [B_md_same_26]; (try simp (disch := omega) only [Option.bind_some, if_true, if_false, eq_self, not_true_eq_false, not_false_eq_true, am_w_id, if_pos, if_neg, fu_self, fu_ne, Int.toNat_natCast, m_gR_5, m_l_5, m_s_5, m_gR_2, m_l_2, m_s_2, i1, s1, e5, hm0, h1, Int.reduceToNat, show ¬ (1 : Int) = 0 by decide]); rw [B_md_same_47]; (try simp (disch := omega) only [Option.bind_some, if_true, if_false, eq_self, not_true_eq_false, not_false_eq_true, am_w_id, if_pos, if_neg, fu_self, fu_ne, Int.toNat_natCast, i1, s1, e5, hm0, h1, Int.reduceToNat, show ¬ (1 : Int) = 0 by decide])
          rfl
        have main := am_loop (S := Nat × (Nat → Nat → Int)) (F := fun s => EV (d + 2) N_md_same T_md_same_49 [.inr (.inr (some (m))), .inl ((n : Int)), .inl ((s.1 : Int))] [] (MH m g s.2)) (I := fun s => s.1 ≤ ws.length ∧ fd [7, 8] S s.2 ∧ ∀ i, i < s.1 → ws[i]? = v[i]?)
          (R := fun o => ∃ S', o = some (some (.inl (if ws = v then 1 else 0)), MH m g S') ∧ fd [7, 8] S S') (fun s => ws.length - s.1) ?_ (0, S) ⟨Nat.zero_le _, fd.rf, fun i hi => by simp at hi⟩
        · obtain ⟨S', e6, F6⟩ := main
          exact ⟨S', am_cI_of (start.trans e6), H.frd F6 (by decide)⟩
        · rintro ⟨w, U⟩ ⟨p1, p2, p3⟩
          dsimp only at p1 p2 p3 ⊢
          have HU := H.frd p2 (by decide)
          have u1 := HU.2.1.1
          have hmU : ml 3603 (U 5) (1201 * n) v := by rw [p2 5 (by decide)]; exact hm
          by_cases cw9 : w = ws.length
          · left
            have hwv : ws = v := List.ext_getElem? (fun i => by
              by_cases ci : i < w
              · exact p3 i ci
              · rw [List.getElem?_eq_none (by omega), List.getElem?_eq_none (by omega)])
            refine ⟨U, ?_, p2⟩
            rw [if_pos hwv]
            subst cw9
            (try dsimp only); rw [B_md_same_49]; (try simp (disch := omega) only [Option.bind_some, if_true, if_false, eq_self, not_true_eq_false, not_false_eq_true, am_w_id, if_pos, if_neg, fu_self, fu_ne, Int.toNat_natCast, m_gR_2, m_l_2, m_s_2, u1, Int.reduceToNat]); rw [B_md_same_119]; (try simp (disch := omega) only [Option.bind_some, if_true, if_false, eq_self, not_true_eq_false, not_false_eq_true, am_w_id, if_pos, if_neg, fu_self, fu_ne, Int.toNat_natCast, u1, Int.reduceToNat])
          · have hw : ws[w]? = some (ws[w]'(by omega)) := List.getElem?_eq_getElem (by omega)
            have hx : v[w]? = some (v[w]'(by omega)) := List.getElem?_eq_getElem (by omega)
            generalize ws[w]'(by omega) = p at hw
            generalize v[w]'(by omega) = q at hx
            have wp := ok_get O.2.1 hw
            have wq := ok_get hvo hx
            obtain ⟨V, e7, T7, F7⟩ := md_tells (m := m) (g := g) (o := 0) (m_row_2 (m := m)) (by decide) HU.2.1 hw wp.2.2.1 (by decide) (by decide) d
            have e7' : am_cV (d + 1) N_md_tells [.inr (.inr (some (m))), .inr (.inr (some (m + 2))), .inl (0), .inl ((w : Int))] (MH m g U) = some (MH m g V) := e7
            have HV := HU.frd F7 (by decide)
            have hmV : ml 3603 (V 5) (1201 * n) v := by rw [F7 5 (by decide)]; exact hmU
            have b1 := fun d => md_against (g := g) (m_row_5 (m := m)) (by decide) hmV hx wq T7 wp.1 d
            have b2 := fun d => md_numberOf0 (m := m) (g := g) HV hw d
            have b3 := fun d => md_numberOf (g := g) (m_row_5 (m := m)) (by decide) hmV hx d
            have dif : p ≠ q → ¬ ws = v := fun hne e => by
              rw [e, hx] at hw
              injection hw with hw
              exact hne hw.symm
            by_cases c3 : cw p.1 q.1 = 0
            · by_cases c4 : p.2 = q.2
              · right
                have hpq : p = q := Prod.ext ((cw_eq _ _).mp c3) c4
                refine ⟨(w + 1, V), ⟨by dsimp only; omega, p2.tr F7, fun i hi => ?_⟩, by dsimp only; omega, ?_⟩
                · dsimp only at hi
                  by_cases ci : i = w
                  · rw [ci, hw, hx, hpq]
                  · exact p3 i (by omega)
                · (try dsimp only); rw [B_md_same_49]; (try simp (disch := omega) only [Option.bind_some, if_true, if_false, eq_self, not_true_eq_false, not_false_eq_true, am_w_id, if_pos, if_neg, fu_self, fu_ne, Int.toNat_natCast, m_gR_2, m_l_2, m_s_2, u1, e5, e7', b1, b2, b3, c3, c4, Int.reduceToNat]); rw [B_md_same_59]; (try simp (disch := omega) only [Option.bind_some, if_true, if_false, eq_self, not_true_eq_false, not_false_eq_true, am_w_id, if_pos, if_neg, fu_self, fu_ne, Int.toNat_natCast, m_gR_2, m_l_2, m_s_2, m_gR_5, m_l_5, m_s_5, m_O, u1, e5, e7', b1, b2, b3, c3, c4, Int.reduceToNat]); rw [B_md_same_86]; (try simp (disch := omega) only [Option.bind_some, if_true, if_false, eq_self, not_true_eq_false, not_false_eq_true, am_w_id, if_pos, if_neg, fu_self, fu_ne, Int.toNat_natCast, m_gR_2, m_l_2, m_s_2, m_gR_5, m_l_5, m_s_5, u1, e5, e7', b1, b2, b3, c3, c4, Int.reduceToNat]); rw [B_md_same_113]; (try simp (disch := omega) only [Option.bind_some, if_true, if_false, eq_self, not_true_eq_false, not_false_eq_true, am_w_id, if_pos, if_neg, fu_self, fu_ne, Int.toNat_natCast, u1, e5, e7', b1, b2, b3, c3, c4, Int.reduceToNat])
                  rfl
              · left
                refine ⟨V, ?_, p2.tr F7⟩
                rw [if_neg (dif (fun e => c4 (by rw [e])))]
                (try dsimp only); rw [B_md_same_49]; (try simp (disch := omega) only [Option.bind_some, if_true, if_false, eq_self, not_true_eq_false, not_false_eq_true, am_w_id, if_pos, if_neg, fu_self, fu_ne, Int.toNat_natCast, m_gR_2, m_l_2, m_s_2, u1, e5, e7', b1, b2, b3, c3, c4, Int.reduceToNat]); rw [B_md_same_59]; (try simp (disch := omega) only [Option.bind_some, if_true, if_false, eq_self, not_true_eq_false, not_false_eq_true, am_w_id, if_pos, if_neg, fu_self, fu_ne, Int.toNat_natCast, m_gR_2, m_l_2, m_s_2, m_gR_5, m_l_5, m_s_5, m_O, u1, e5, e7', b1, b2, b3, c3, c4, Int.reduceToNat]); rw [B_md_same_86]; (try simp (disch := omega) only [Option.bind_some, if_true, if_false, eq_self, not_true_eq_false, not_false_eq_true, am_w_id, if_pos, if_neg, fu_self, fu_ne, Int.toNat_natCast, m_gR_2, m_l_2, m_s_2, m_gR_5, m_l_5, m_s_5, u1, e5, e7', b1, b2, b3, c3, c4, Int.reduceToNat]); rw [B_md_same_111]; (try simp (disch := omega) only [Option.bind_some, if_true, if_false, eq_self, not_true_eq_false, not_false_eq_true, am_w_id, if_pos, if_neg, fu_self, fu_ne, Int.toNat_natCast, u1, e5, e7', b1, b2, b3, c3, c4, Int.reduceToNat])
            · left
              refine ⟨V, ?_, p2.tr F7⟩
              rw [if_neg (dif (fun e => c3 (by rw [e]; exact (cw_eq _ _).mpr rfl)))]
              (try dsimp only); rw [B_md_same_49]; (try simp (disch := omega) only [Option.bind_some, if_true, if_false, eq_self, not_true_eq_false, not_false_eq_true, am_w_id, if_pos, if_neg, fu_self, fu_ne, Int.toNat_natCast, m_gR_2, m_l_2, m_s_2, u1, e5, e7', b1, c3, Int.reduceToNat]); rw [B_md_same_59]; (try simp (disch := omega) only [Option.bind_some, if_true, if_false, eq_self, not_true_eq_false, not_false_eq_true, am_w_id, if_pos, if_neg, fu_self, fu_ne, Int.toNat_natCast, m_gR_2, m_l_2, m_s_2, m_gR_5, m_l_5, m_s_5, m_O, u1, e5, e7', b1, c3, Int.reduceToNat]); rw [B_md_same_111]; (try simp (disch := omega) only [Option.bind_some, if_true, if_false, eq_self, not_true_eq_false, not_false_eq_true, am_w_id, if_pos, if_neg, fu_self, fu_ne, Int.toNat_natCast, u1, e5, e7', b1, c3, Int.reduceToNat])
      · have hm0 := hm.1
        have hne : ¬ ws = v := fun e => c2 (by rw [e])
        rw [if_neg hne]
        refine ⟨S, am_cI_of ?_, H⟩
        (try dsimp only); rw [en_md_same]; (try simp (disch := omega) only [Option.bind_some, if_true, if_false, eq_self, not_true_eq_false, not_false_eq_true, am_w_id, if_pos, if_neg, fu_self, fu_ne, Int.toNat_natCast, i1, s1, e5, hm0, h1, Int.reduceToNat, show ¬ (1 : Int) = 0 by decide, show ¬ (v.length : Int) = (ws.length : Int) by omega]); rw [B_md_same_0]; (try simp (disch := omega) only [Option.bind_some, if_true, if_false, eq_self, not_true_eq_false, not_false_eq_true, am_w_id, if_pos, if_neg, fu_self, fu_ne, Int.toNat_natCast, i1, s1, e5, hm0, h1, Int.reduceToNat, show ¬ (1 : Int) = 0 by decide, show ¬ (v.length : Int) = (ws.length : Int) by omega]); rw [B_md_same_14]; (try simp (disch := omega) only [Option.bind_some, if_true, if_false, eq_self, not_true_eq_false, not_false_eq_true, am_w_id, if_pos, if_neg, fu_self, fu_ne, Int.toNat_natCast, m_gR_6, m_l_6, m_s_6, i1, s1, e5, hm0, h1, Int.reduceToNat, show ¬ (1 : Int) = 0 by decide, show ¬ (v.length : Int) = (ws.length : Int) by omega]); rw [B_md_same_26]; (try simp (disch := omega) only [Option.bind_some, if_true, if_false, eq_self, not_true_eq_false, not_false_eq_true, am_w_id, if_pos, if_neg, fu_self, fu_ne, Int.toNat_natCast, m_gR_5, m_l_5, m_s_5, m_gR_2, m_l_2, m_s_2, i1, s1, e5, hm0, h1, Int.reduceToNat, show ¬ (1 : Int) = 0 by decide, show ¬ (v.length : Int) = (ws.length : Int) by omega]); rw [B_md_same_45]; (try simp (disch := omega) only [Option.bind_some, if_true, if_false, eq_self, not_true_eq_false, not_false_eq_true, am_w_id, if_pos, if_neg, fu_self, fu_ne, Int.toNat_natCast, i1, s1, e5, hm0, h1, Int.reduceToNat, show ¬ (1 : Int) = 0 by decide, show ¬ (v.length : Int) = (ws.length : Int) by omega])
  · rw [if_neg c]
    have i1 : ∀ d h, am_cI d N_md_isIn [.inr (.inl (k)), .inr (.inl (0)), .inr (.inl (2))] h = some (0, h) := fun d h => by rw [md_isIn, if_neg c]
    refine ⟨S, am_cI_of ?_, H⟩
    (try dsimp only); rw [en_md_same]; (try simp (disch := omega) only [Option.bind_some, if_true, if_false, eq_self, not_true_eq_false, not_false_eq_true, am_w_id, if_pos, if_neg, fu_self, fu_ne, Int.toNat_natCast, i1]); rw [B_md_same_0]; (try simp (disch := omega) only [Option.bind_some, if_true, if_false, eq_self, not_true_eq_false, not_false_eq_true, am_w_id, if_pos, if_neg, fu_self, fu_ne, Int.toNat_natCast, i1]); rw [B_md_same_12]; (try simp (disch := omega) only [Option.bind_some, if_true, if_false, eq_self, not_true_eq_false, not_false_eq_true, am_w_id, if_pos, if_neg, fu_self, fu_ne, Int.toNat_natCast, i1])
end MO
