/-! unpack: goesThrough, one step -/
section MO
variable {m : Nat} {g : am_H} {S : Nat → Nat → Int} {u : Int} {ss : List sta}
theorem md_gt187 {x1 x2 x3 e : Int} {i z : Nat} (hi : i < 400) (hz : z < 1001) (h42 : S 42 i = (z : Int)) (h39 : S 39 z = e) (h2 : 0 ≤ x2 ∧ x2 ≤ 100000000) (he : 0 ≤ e ∧ e ≤ 999999) (d : Nat) : EV d N_md_goesThrough T_md_goesThrough_187 [.inr (.inr (some (m))), .inl (x1), .inl (x2), .inl (x3), .inl ((i : Int))] [] (MH m g S) = if x2 + e ≤ 999999 then EV d N_md_goesThrough T_md_goesThrough_208 [.inr (.inr (some (m))), .inl (x1), .inl (x2), .inl (x3), .inl ((i : Int))] [] (MH m g S) else EV d N_md_goesThrough T_md_goesThrough_206 [.inr (.inr (some (m))), .inl (x1), .inl (x2), .inl (x3), .inl ((i : Int))] [] (MH m g S) := by
  have e1 : (i : Int) < 400 := by omega
  have e0 : (0 : Int) ≤ (i : Int) := by omega
  have e2 : (z : Int) < 1001 := by omega
  have e3 : (0 : Int) ≤ (z : Int) := by omega
  have e4 : -2147483648 ≤ x2 + e := by omega
  have e5 : x2 + e < 2147483648 := by omega
  rw [B_md_goesThrough_187, m_gR_39, Option.bind_some, m_gR_42, Option.bind_some, m_l_42 e0 e1, Option.bind_some, Int.toNat_natCast, h42, m_l_39 e3 e2, Option.bind_some, Int.toNat_natCast, h39, am_w_id e4 e5]
/-- the flags' frame of a way: the levels ahead -/
def wayR (S S' : Nat → Nat → Int) (dep : Nat) : Prop := (∀ i, i < dep → S' 7 i = S 7 i) ∧ ∀ i, i < dep → S' 45 i = S 45 i ∧ S' 46 i = S 46 i
theorem wayR.rf {dep : Nat} : wayR S S dep := ⟨fun _ _ => rfl, fun _ _ => ⟨rfl, rfl⟩⟩
theorem wayR.tr {S1 S2 : Nat → Nat → Int} {dep : Nat} (a : wayR S S1 dep) (b : wayR S1 S2 dep) : wayR S S2 dep :=
  ⟨fun i h => (b.1 i h).trans (a.1 i h), fun i h => ⟨(b.2 i h).1.trans (a.2 i h).1, (b.2 i h).2.trans (a.2 i h).2⟩⟩
theorem wayR.le {S1 : Nat → Nat → Int} {dep e : Nat} (a : wayR S S1 dep) (h : e ≤ dep) : wayR S S1 e :=
  ⟨fun i k => a.1 i (by omega), fun i k => a.2 i (by omega)⟩
theorem so_end {L X : List wd} {t : List Int} {x : Int} (h : so (L ++ (t, x) :: X)) : so L ∧ (L ≠ [] → lx (lastw L) t = true) := by
  obtain ⟨h1, h2, h3⟩ := List.pairwise_append.mp h
  refine ⟨h1, fun hn => ?_⟩
  have : L.getLastD ([], 0) ∈ L := by
    obtain ⟨b, hb⟩ := Option.ne_none_iff_exists'.mp (fun e => hn (List.getLast?_eq_none_iff.mp e))
    rw [List.getLastD_eq_getLast?, hb]
    exact List.mem_of_getLast? hb
  exact h3 _ this _ List.mem_cons_self
theorem md_gtStep (hm : mach ss) (M : mcR S u ss) (hl : ss.length ≤ 1001) (hf : (fla ss).length ≤ 133) {dep s k : Nat} {path : List Int} {tot : Int} {L : List wd} {a : arc} {z : Nat} (hd : dep ≤ 9) (hs : s < ss.length) (ha : (aOf ss s)[k]? = some a) (hz : a.2.2 = (z : Int))
    (h45 : S 45 dep = (s : Int)) (h46 : S 46 dep = (k : Int)) (hp : path.length = dep) (hp7 : ∀ i, i < dep → S 7 i = path.getD i 0) (hwl : wl path) (ht : 0 ≤ tot ∧ tot ≤ 1000000 * (dep + 1)) (hL : ml 2402 (S 12) 0 L) (hLk : ∀ p ∈ L, wk p) (hL2 : eOf ss z ≠ -2 → L.length < 100)
    (hso : eOf ss z ≠ -2 → so (L ++ [(path ++ [a.1], tot + a.2.1 + eOf ss z)])) (j3 j4 : am_V) (d : Nat) :
    (eOf ss z ≠ -2 ∧ 999999 < tot + a.2.1 + eOf ss z ∧ ∃ S', EV (d + 4) N_md_goesThrough T_md_goesThrough_28 [.inr (.inr (some (m))), .inl ((dep : Int)), .inl (tot), j3, j4] [] (MH m g S) = some (some (.inl 0), MH m g S') ∧ fd [7, 8, 12, 45, 46] S S') ∨
    ((eOf ss z ≠ -2 → tot + a.2.1 + eOf ss z ≤ 999999) ∧ ∃ j3' j4' S', EV (d + 4) N_md_goesThrough T_md_goesThrough_28 [.inr (.inr (some (m))), .inl ((dep : Int)), .inl (tot), j3, j4] [] (MH m g S) = EV (d + 4) N_md_goesThrough T_md_goesThrough_28 [.inr (.inr (some (m))), .inl (((dep + 1 : Nat) : Int)), .inl (tot + a.2.1), j3', j4'] [] (MH m g S') ∧ fd [7, 8, 12, 45, 46] S S' ∧ wayR S S' dep ∧ S' 7 dep = a.1 ∧ S' 45 dep = (s : Int) ∧ S' 46 dep = ((k + 1 : Nat) : Int) ∧ S' 45 (dep + 1) = (z : Int) ∧ S' 46 (dep + 1) = 0 ∧
      ml 2402 (S' 12) 0 (L ++ if eOf ss z = -2 then [] else [(path ++ [a.1], tot + a.2.1 + eOf ss z)])) := by
  obtain ⟨h37, h38, h39⟩ := M.2.2.2 s _ (of_get hs)
  dsimp only at h37 h38 h39
  obtain ⟨l1, l2⟩ := fla_len ss hs
  have hk := (List.getElem?_eq_some_iff.mp ha).1
  have hA := l2 k a ha
  generalize hpp : (fla (ss.take s)).length = p at *
  have hok := (of_ok hm hs).2.1 a (List.mem_of_getElem? ha)
  have hzl : z < ss.length := by omega
  have hze := (of_ok hm hzl).1
  obtain ⟨U1, hU1⟩ : ∃ U, U = am_fu S 46 (am_fu (S 46) dep ((k + 1 : Nat) : Int)) := ⟨_, rfl⟩
  obtain ⟨U2, hU2⟩ : ∃ U, U = am_fu U1 7 (am_fu (S 7) dep a.1) := ⟨_, rfl⟩
  obtain ⟨U3, hU3⟩ : ∃ U, U = am_fu U2 45 (am_fu (S 45) (dep + 1) (z : Int)) := ⟨_, rfl⟩
  obtain ⟨U4, hU4⟩ : ∃ U, U = am_fu U3 46 (am_fu (am_fu (S 46) dep ((k + 1 : Nat) : Int)) (dep + 1) 0) := ⟨_, rfl⟩
  have F1 : fd [7, 8, 12, 45, 46] S U1 := by rw [hU1]; exact fd.rf.up (by decide) _
  have F2 : fd [7, 8, 12, 45, 46] S U2 := by rw [hU2]; exact F1.up (by decide) _
  have F3 : fd [7, 8, 12, 45, 46] S U3 := by rw [hU3]; exact F2.up (by decide) _
  have F4 : fd [7, 8, 12, 45, 46] S U4 := by rw [hU4]; exact F3.up (by decide) _
  have M1 := M.fr F1 (by decide)
  have M2 := M.fr F2 (by decide)
  have M3 := M.fr F3 (by decide)
  have M4 := M.fr F4 (by decide)
  have c41 : U1 41 (p + k) = a.2.1 := (M1.2.2.1 _ _ hA).2.1
  have c42 : U1 42 (p + k) = (z : Int) := by rw [← hz]; exact (M1.2.2.1 _ _ hA).2.2
  have f39 : U1 39 z = eOf ss z := (M1.2.2.2 z _ (of_get hzl)).2.2
  have d42 : U3 42 (p + k) = (z : Int) := by rw [← hz]; exact (M3.2.2.1 _ _ hA).2.2
  have d39 : U3 39 z = eOf ss z := (M3.2.2.2 z _ (of_get hzl)).2.2
  have a40 : U1 40 (p + k) = a.1 := (M1.2.2.1 _ _ hA).1
  have a41 : U2 41 (p + k) = a.2.1 := (M2.2.2.1 _ _ hA).2.1
  have a42 : U2 42 (p + k) = (z : Int) := by rw [← hz]; exact (M2.2.2.1 _ _ hA).2.2
  have b42 : U4 42 (p + k) = (z : Int) := by rw [← hz]; exact (M4.2.2.1 _ _ hA).2.2
  have b39 : U4 39 z = eOf ss z := (M4.2.2.2 z _ (of_get hzl)).2.2
  have v46 : U4 46 = am_fu (am_fu (S 46) dep ((k + 1 : Nat) : Int)) (dep + 1) 0 := by rw [hU4, fu_self]
  have v45 : U4 45 = am_fu (S 45) (dep + 1) (z : Int) := by rw [hU4, fu_ne (by decide), hU3, fu_self]
  have v7 : U4 7 = am_fu (S 7) dep a.1 := by rw [hU4, fu_ne (by decide), hU3, fu_ne (by decide), hU2, fu_self]
  have v12 : U4 12 = S 12 := by rw [hU4, fu_ne (by decide), hU3, fu_ne (by decide), hU2, fu_ne (by decide), hU1, fu_ne (by decide)]
  have W4 : wayR S U4 dep := by
    refine ⟨fun i hi => ?_, fun i hi => ⟨?_, ?_⟩⟩
    · rw [v7]; unfold am_fu; rw [if_neg (by omega)]
    · rw [v45]; unfold am_fu; rw [if_neg (by omega)]
    · rw [v46]; unfold am_fu; rw [if_neg (by omega), if_neg (by omega)]
  have w7 : U4 7 dep = a.1 := by rw [v7]; exact if_pos rfl
  have w45 : U4 45 dep = (s : Int) := by rw [v45]; unfold am_fu; rw [if_neg (by omega)]; exact h45
  have w46 : U4 46 dep = ((k + 1 : Nat) : Int) := by rw [v46]; unfold am_fu; rw [if_neg (by omega), if_pos rfl]
  have x45 : U4 45 (dep + 1) = (z : Int) := by rw [v45]; exact if_pos rfl
  have x46 : U4 46 (dep + 1) = 0 := by rw [v46]; exact if_pos rfl
  have e1 : ¬ (dep : Int) < 0 := by omega
  have e2 : ¬ (k : Int) = ((aOf ss s).length : Int) := by omega
  have e3 : (k : Int) + 1 = ((k + 1 : Nat) : Int) := by omega
  have e4 : (dep : Int) + 1 = ((dep + 1 : Nat) : Int) := by omega
  have e5 : (p : Int) + (k : Int) = ((p + k : Nat) : Int) := by omega
  by_cases c : eOf ss z = -2
  · right
    rw [c] at b39 d39 f39
    refine ⟨fun h => absurd c h, .inl ((s : Int)), .inl (((p + k : Nat) : Int)), U4, ?_, F4, W4, w7, w45, w46, x45, x46, ?_⟩
    · (try dsimp only); rw [B_md_goesThrough_28]; (try simp (disch := omega) only [Option.bind_some, if_true, if_false, eq_self, not_true_eq_false, not_false_eq_true, am_w_id, if_pos, if_neg, fu_self, fu_ne, Int.toNat_natCast, e1, h45, h46, h38, e2, h37, e3, hU1.symm, e5, a40, hU2.symm, a41, a42, e4, hU3.symm, hU4.symm, b42, b39, c41, c42, d42, d39, f39]); rw [B_md_goesThrough_32]; (try simp (disch := omega) only [Option.bind_some, if_true, if_false, eq_self, not_true_eq_false, not_false_eq_true, am_w_id, if_pos, if_neg, fu_self, fu_ne, Int.toNat_natCast, m_gR_45, m_l_45, m_s_45, m_gR_46, m_l_46, m_s_46, m_gR_38, m_l_38, m_s_38, e1, h45, h46, h38, e2, h37, e3, hU1.symm, e5, a40, hU2.symm, a41, a42, e4, hU3.symm, hU4.symm, b42, b39, c41, c42, d42, d39, f39]); rw [B_md_goesThrough_96]; (try simp (disch := omega) only [Option.bind_some, if_true, if_false, eq_self, not_true_eq_false, not_false_eq_true, am_w_id, if_pos, if_neg, fu_self, fu_ne, Int.toNat_natCast, m_gR_37, m_l_37, m_s_37, m_gR_46, m_l_46, m_s_46, m_gR_7, m_l_7, m_s_7, m_gR_40, m_l_40, m_s_40, m_gR_41, m_l_41, m_s_41, m_gR_45, m_l_45, m_s_45, m_gR_42, m_l_42, m_s_42, m_gR_39, m_l_39, m_s_39, e1, h45, h46, h38, e2, h37, e3, hU1.symm, e5, a40, hU2.symm, a41, a42, e4, hU3.symm, hU4.symm, b42, b39, c41, c42, d42, d39, f39]); rw [B_md_goesThrough_184]; (try simp (disch := omega) only [Option.bind_some, if_true, if_false, eq_self, not_true_eq_false, not_false_eq_true, am_w_id, if_pos, if_neg, fu_self, fu_ne, Int.toNat_natCast, e1, h45, h46, h38, e2, h37, e3, hU1.symm, e5, a40, hU2.symm, a41, a42, e4, hU3.symm, hU4.symm, b42, b39, c41, c42, d42, d39, f39])
    · rw [if_pos c, List.append_nil, v12]; exact hL
  · have hze' := hze.resolve_left c
    have st : EV (d + 4) N_md_goesThrough T_md_goesThrough_28 [.inr (.inr (some (m))), .inl ((dep : Int)), .inl (tot), j3, j4] [] (MH m g S) = EV (d + 4) N_md_goesThrough T_md_goesThrough_187 [.inr (.inr (some (m))), .inl (((dep + 1 : Nat) : Int)), .inl (tot + a.2.1), .inl ((s : Int)), .inl (((p + k : Nat) : Int))] [] (MH m g U4) := by
      (try dsimp only); rw [B_md_goesThrough_28]; (try simp (disch := omega) only [Option.bind_some, if_true, if_false, eq_self, not_true_eq_false, not_false_eq_true, am_w_id, if_pos, if_neg, fu_self, fu_ne, Int.toNat_natCast, e1, h45, h46, h38, e2, h37, e3, hU1.symm, e5, a40, hU2.symm, a41, a42, e4, hU3.symm, hU4.symm, b42, b39, c41, c42, d42, d39, f39, c]); rw [B_md_goesThrough_32]; (try simp (disch := omega) only [Option.bind_some, if_true, if_false, eq_self, not_true_eq_false, not_false_eq_true, am_w_id, if_pos, if_neg, fu_self, fu_ne, Int.toNat_natCast, m_gR_45, m_l_45, m_s_45, m_gR_46, m_l_46, m_s_46, m_gR_38, m_l_38, m_s_38, e1, h45, h46, h38, e2, h37, e3, hU1.symm, e5, a40, hU2.symm, a41, a42, e4, hU3.symm, hU4.symm, b42, b39, c41, c42, d42, d39, f39, c]); rw [B_md_goesThrough_96]; (try simp (disch := omega) only [Option.bind_some, if_true, if_false, eq_self, not_true_eq_false, not_false_eq_true, am_w_id, if_pos, if_neg, fu_self, fu_ne, Int.toNat_natCast, m_gR_37, m_l_37, m_s_37, m_gR_46, m_l_46, m_s_46, m_gR_7, m_l_7, m_s_7, m_gR_40, m_l_40, m_s_40, m_gR_41, m_l_41, m_s_41, m_gR_45, m_l_45, m_s_45, m_gR_42, m_l_42, m_s_42, m_gR_39, m_l_39, m_s_39, e1, h45, h46, h38, e2, h37, e3, hU1.symm, e5, a40, hU2.symm, a41, a42, e4, hU3.symm, hU4.symm, b42, b39, c41, c42, d42, d39, f39, c])
    have st2 := md_gt187 (m := m) (g := g) (x1 := ((dep + 1 : Nat) : Int)) (x2 := tot + a.2.1) (x3 := (s : Int)) (show p + k < 400 by omega) (show z < 1001 by omega) b42 b39 (by omega) hze' (d + 4)
    by_cases c2 : tot + a.2.1 + eOf ss z ≤ 999999
    · right
      rw [if_pos c2] at st2
      obtain ⟨V, hV⟩ : ∃ V, V = am_fu U4 8 (fun _ => ((dep + 1 : Nat) : Int)) := ⟨_, rfl⟩
      have FV : fd [7, 8, 12, 45, 46] S V := by rw [hV]; exact F4.up (by decide) _
      have MV := M.fr FV (by decide)
      have c42 : V 42 (p + k) = (z : Int) := by rw [← hz]; exact (MV.2.2.1 _ _ hA).2.2
      have c39 : V 39 z = eOf ss z := (MV.2.2.2 z _ (of_get hzl)).2.2
      have y12 : V 12 = S 12 := by rw [hV, fu_ne (by decide)]; exact v12
      have y7 : V 7 = U4 7 := by rw [hV, fu_ne (by decide)]
      have y45 : V 45 = U4 45 := by rw [hV, fu_ne (by decide)]
      have y46 : V 46 = U4 46 := by rw [hV, fu_ne (by decide)]
      have hlen : (path ++ [a.1]).length = dep + 1 := by simp [hp]
      have TV : toldR V (path ++ [a.1]) := by
        refine ⟨by rw [hV, fu_self, hlen], by omega, fun i hi => ?_⟩
        rw [y7, v7]
        unfold am_fu
        by_cases ci : i = dep
        · rw [if_pos ci, ci, ← hp]; simp
        · rw [if_neg ci, hp7 i (by omega), List.getD_eq_getElem?_getD, List.getD_eq_getElem?_getD, List.getElem?_append_left (by omega)]
      have hL2' := hL2 c
      have hwl2 : wl (path ++ [a.1]) := by
        intro x hx
        rcases List.mem_append.mp hx with h | h
        · exact hwl x h
        · rw [List.mem_singleton.mp h]; omega
      obtain ⟨f, e8, h3, h4⟩ := md_puts (m := m) (g := g) (o := 0) (m_row_12 (m := m)) (by decide) (by rw [y12]; exact hL) hLk TV hwl2 (by omega) (by decide) (by decide) (by omega) d (tot + a.2.1 + eOf ss z)
      have e8' : am_cV (d + 3) N_md_puts [.inr (.inr (some (m))), .inr (.inr (some (m + 8))), .inl (0), .inl (tot + a.2.1 + eOf ss z)] (MH m g V) = some (MH m g (am_fu V 12 f)) := e8
      obtain ⟨s1, s2⟩ := so_end (hso c)
      rw [(put_snoc s1 s2 _).1] at h3
      refine ⟨fun _ => c2, .inl ((s : Int)), .inl (((p + k : Nat) : Int)), am_fu V 12 f, (st.trans st2).trans ?_, FV.up (by decide) _, W4.tr ⟨fun i hi => ?_, fun i hi => ⟨?_, ?_⟩⟩, ?_, ?_, ?_, ?_, ?_, ?_⟩
      · (try dsimp only); rw [B_md_goesThrough_208]; (try simp (disch := omega) only [Option.bind_some, if_true, if_false, eq_self, not_true_eq_false, not_false_eq_true, am_w_id, if_pos, if_neg, fu_self, fu_ne, Int.toNat_natCast, m_gI_8, m_p_8, m_gR_12, m_l_12, m_s_12, m_gR_39, m_l_39, m_s_39, m_gR_42, m_l_42, m_s_42, m_O, hV.symm, c42, c39, e8'])
      · rw [fu_ne (by decide), y7]
      · rw [fu_ne (by decide), y45]
      · rw [fu_ne (by decide), y46]
      · rw [fu_ne (by decide), y7]; exact w7
      · rw [fu_ne (by decide), y45]; exact w45
      · rw [fu_ne (by decide), y46]; exact w46
      · rw [fu_ne (by decide), y45]; exact x45
      · rw [fu_ne (by decide), y46]; exact x46
      · rw [fu_self, if_neg c]; exact h3
    · left
      rw [if_neg c2] at st2
      refine ⟨c, by omega, U4, (st.trans st2).trans ?_, F4⟩
      (try dsimp only); rw [B_md_goesThrough_206]; (try simp (disch := omega) only [Option.bind_some, if_true, if_false, eq_self, not_true_eq_false, not_false_eq_true, am_w_id, if_pos, if_neg, fu_self, fu_ne, Int.toNat_natCast])
end MO
