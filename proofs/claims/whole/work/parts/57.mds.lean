/-! the model: which nodes are alike, states found -/
theorem getD_ext {l l' : List Int} (h : l.length = l'.length) (h2 : ∀ i, i < l.length → l.getD i 0 = l'.getD i 0) : l = l' := by
  refine List.ext_getElem h (fun i h3 h4 => ?_)
  have := h2 i h3
  rw [gd_s h3, gd_s h4] at this
  exact this
/-- the states found among the first k nodes (of which P) -/
def fsR (S : Nat → Nat → Int) (ws : List wd) (P : Nat → Bool) (k : Nat) : Prop := S 21 0 = ((rl (eR ws) P k).length : Int) ∧ (∀ (s j : Nat), (rl (eR ws) P k)[s]? = some j → S 22 s = (j : Int)) ∧ ∀ j, j < k → P j = true → S 20 j = (sx (eR ws) P j : Int)
def stR (S : Nat → Nat → Int) (ws : List wd) : Prop := ndR S 0 ws ∧ fsR S ws tt (nN ws)
section MD
variable {m : Nat} {g : am_H} {S : Nat → Nat → Int} {o : Nat} {ws : List wd}
theorem ndR.frd {S' : Nat → Nat → Int} (N : ndR S o ws) (F : fd [20, 21, 22] S S') : ndR S' o ws := by
  obtain ⟨n1, n2, n3, n4⟩ := N
  refine ⟨by rw [F 13 (by decide)]; exact n1, by rw [F 23 (by decide)]; exact n2, fun i hi => ?_, fun i hi => ?_⟩
  · rw [F 14 (by decide), F 15 (by decide), F 16 (by decide), F 17 (by decide)]; exact n3 i hi
  · rw [F 18 (by decide), F 19 (by decide)]; exact n4 i hi
/-- one word of each, but for the letters -/
theorem md_aL {x y oa ob na la lb lq lr j : Nat} {La Lb vq vr : Int} {j4 j5 j6 j7 : am_V} (d : Nat) (hx : x < 1101) (hy : y < 1101) (hoa : oa + na ≤ 100) (hj : j < na) (hob : ob ≤ 100) (hla : la ≤ 10) (hlb : lb ≤ 10) (hlq : lq ≤ 10) (hlr : lr ≤ 10) (hLa : 0 ≤ La ∧ La ≤ 999999) (hLb : 0 ≤ Lb ∧ Lb ≤ 999999) (hvq : 0 ≤ vq ∧ vq ≤ 999999) (hvr : 0 ≤ vr ∧ vr ≤ 999999)
    (a14 : S 14 x = (oa : Int)) (a15 : S 15 x = ((oa + na : Nat) : Int)) (b14 : S 14 y = (ob : Int)) (a16 : S 16 x = (la : Int)) (b16 : S 16 y = (lb : Int)) (a18 : S 18 x = La) (b18 : S 18 y = Lb) (n2 : S 23 0 = (o : Int))
    (v1 : ∀ d, am_cI d N_md_lengthOf [.inr (.inr (some (m + 2))), .inl ((o : Int)), .inl (((oa + j : Nat) : Int))] (MH m g S) = some ((lq : Int), MH m g S)) (v2 : ∀ d, am_cI d N_md_lengthOf [.inr (.inr (some (m + 2))), .inl ((o : Int)), .inl (((ob + j : Nat) : Int))] (MH m g S) = some ((lr : Int), MH m g S))
    (v3 : ∀ d, am_cI d N_md_numberOf [.inr (.inr (some (m + 2))), .inl ((o : Int)), .inl (((oa + j : Nat) : Int))] (MH m g S) = some (vq, MH m g S)) (v4 : ∀ d, am_cI d N_md_numberOf [.inr (.inr (some (m + 2))), .inl ((o : Int)), .inl (((ob + j : Nat) : Int))] (MH m g S) = some (vr, MH m g S)) :
    EV (d + 1) N_md_areLike T_md_areLike_48 [.inr (.inr (some (m))), .inl ((x : Int)), .inl ((y : Int)), .inl ((j : Int)), j4, j5, j6, j7] [] (MH m g S) = if (lq : Int) - la = (lr : Int) - lb then (if vq - La = vr - Lb then EV (d + 1) N_md_areLike T_md_areLike_180 [.inr (.inr (some (m))), .inl ((x : Int)), .inl ((y : Int)), .inl ((j : Int)), .inl (((oa + j : Nat) : Int)), .inl (((ob + j : Nat) : Int)), .inl ((lq : Int) - la), .inl (0)] [] (MH m g S) else some (some (.inl 0), MH m g S)) else some (some (.inl 0), MH m g S) := by
  have d1 : ((oa + na : Nat) : Int) - (oa : Int) = (na : Int) := by omega
  have e1 : (oa : Int) + (j : Int) = ((oa + j : Nat) : Int) := by omega
  have e2 : (ob : Int) + (j : Int) = ((ob + j : Nat) : Int) := by omega
  by_cases c3 : (lq : Int) - la = (lr : Int) - lb
  · rw [if_pos c3]
    by_cases c4 : vq - La = vr - Lb
    · rw [if_pos c4]
      (try dsimp only); rw [B_md_areLike_48]; simp (disch := omega) only [B_md_areLike_65, B_md_areLike_132, B_md_areLike_177, Option.bind_some, if_true, if_false, eq_self, not_true_eq_false, not_false_eq_true, am_w_id, if_pos, if_neg, fu_self, fu_ne, Int.toNat_natCast, m_gR_15, m_l_15, m_s_15, m_gR_14, m_l_14, m_s_14, m_gR_2, m_l_2, m_s_2, m_gI_23, m_p_23, m_gR_16, m_l_16, m_s_16, m_gR_18, m_l_18, m_s_18, a14, a15, b14, n2, a16, b16, a18, b18, d1, v1, v2, v3, v4, e1, e2, c3, c4]
    · rw [if_neg c4]
      (try dsimp only); rw [B_md_areLike_48]; simp (disch := omega) only [B_md_areLike_65, B_md_areLike_132, B_md_areLike_175, Option.bind_some, if_true, if_false, eq_self, not_true_eq_false, not_false_eq_true, am_w_id, if_pos, if_neg, fu_self, fu_ne, Int.toNat_natCast, m_gR_15, m_l_15, m_s_15, m_gR_14, m_l_14, m_s_14, m_gR_2, m_l_2, m_s_2, m_gI_23, m_p_23, m_gR_16, m_l_16, m_s_16, m_gR_18, m_l_18, m_s_18, a14, a15, b14, n2, a16, b16, a18, b18, d1, v1, v2, v3, v4, e1, e2, c3, c4]
  · rw [if_neg c3]
    (try dsimp only); rw [B_md_areLike_48]; simp (disch := omega) only [B_md_areLike_65, B_md_areLike_175, Option.bind_some, if_true, if_false, eq_self, not_true_eq_false, not_false_eq_true, am_w_id, if_pos, if_neg, fu_self, fu_ne, Int.toNat_natCast, m_gR_15, m_l_15, m_s_15, m_gR_14, m_l_14, m_s_14, m_gR_2, m_l_2, m_s_2, m_gI_23, m_p_23, m_gR_16, m_l_16, m_s_16, a14, a15, b14, n2, a16, b16, d1, v1, v2, e1, e2, c3]
theorem md_aLl {x y oa ob la lb i : Nat} {j x6 lx ly : Int} (d : Nat) (hx : x < 1101) (hy : y < 1101) (hla : la ≤ 10) (hlb : lb ≤ 10) (hi : i < 10) (hx6 : (i : Int) < x6) (a16 : S 16 x = (la : Int)) (b16 : S 16 y = (lb : Int)) (n2 : S 23 0 = (o : Int))
    (v5 : ∀ d, am_cI d N_md_letterOf [.inr (.inr (some (m + 2))), .inl ((o : Int)), .inl ((oa : Int)), .inl (((la + i : Nat) : Int))] (MH m g S) = some (lx, MH m g S)) (v6 : ∀ d, am_cI d N_md_letterOf [.inr (.inr (some (m + 2))), .inl ((o : Int)), .inl ((ob : Int)), .inl (((lb + i : Nat) : Int))] (MH m g S) = some (ly, MH m g S)) :
    EV (d + 1) N_md_areLike T_md_areLike_180 [.inr (.inr (some (m))), .inl ((x : Int)), .inl ((y : Int)), .inl (j), .inl ((oa : Int)), .inl ((ob : Int)), .inl (x6), .inl ((i : Int))] [] (MH m g S) = if lx = ly then EV (d + 1) N_md_areLike T_md_areLike_180 [.inr (.inr (some (m))), .inl ((x : Int)), .inl ((y : Int)), .inl (j), .inl ((oa : Int)), .inl ((ob : Int)), .inl (x6), .inl (((i + 1 : Nat) : Int))] [] (MH m g S) else some (some (.inl 0), MH m g S) := by
  have e5 : (la : Int) + (i : Int) = ((la + i : Nat) : Int) := by omega
  have e6 : (lb : Int) + (i : Int) = ((lb + i : Nat) : Int) := by omega
  by_cases cl : lx = ly
  · rw [if_pos cl]
    (try dsimp only); rw [B_md_areLike_180]; simp (disch := omega) only [B_md_areLike_187, B_md_areLike_236, Option.bind_some, if_true, if_false, eq_self, not_true_eq_false, not_false_eq_true, am_w_id, if_pos, if_neg, fu_self, fu_ne, Int.toNat_natCast, m_gR_2, m_l_2, m_s_2, m_gI_23, m_p_23, m_gR_16, m_l_16, m_s_16, n2, a16, b16, e5, e6, v5, v6, cl]
    rfl
  · rw [if_neg cl]
    (try dsimp only); rw [B_md_areLike_180]; simp (disch := omega) only [B_md_areLike_187, B_md_areLike_234, Option.bind_some, if_true, if_false, eq_self, not_true_eq_false, not_false_eq_true, am_w_id, if_pos, if_neg, fu_self, fu_ne, Int.toNat_natCast, m_gR_2, m_l_2, m_s_2, m_gI_23, m_p_23, m_gR_16, m_l_16, m_s_16, n2, a16, b16, e5, e6, v5, v6, cl]
set_option maxHeartbeats 4000000 in
theorem md_areLike (hok : ok ws) (H : ml 2402 (S 2) o ws) (N : ndR S o ws) {a b : Nat} (ha : a < nN ws) (hb : b < nN ws) (d : Nat) : am_cI (d + 1) N_md_areLike [.inr (.inr (some (m))), .inl ((a : Int)), .inl ((b : Int))] (MH m g S) = some (if R ws (pn ws a) = R ws (pn ws b) then 1 else 0, MH m g S) := by
  have hN' : nN ws ≤ 1001 := ND_len hok
  obtain ⟨hwk, hs, hl100⟩ := hok
  obtain ⟨n1, n2, n3, n4⟩ := N
  obtain ⟨a14, a15, a16, a17⟩ := n3 a ha
  obtain ⟨b14, b15, b16, b17⟩ := n3 b hb
  obtain ⟨a18, a19⟩ := n4 a ha
  obtain ⟨b18, b19⟩ := n4 b hb
  have lea := sb_le hs (pn ws a)
  have leb := sb_le hs (pn ws b)
  have lna := R_len ws (pn ws a)
  have lnb := R_len ws (pn ws b)
  have wa : ∀ j, j < (sb ws (pn ws a)).length → ∃ q, ws[ah ws (pn ws a) + j]? = some q ∧ wk q ∧ pn ws a <+: q.1 ∧ (R ws (pn ws a))[j]? = some (q.1.drop (pn ws a).length, q.2 - lst ws (pn ws a)) := fun j hj =>
    ⟨_, List.getElem?_eq_getElem (show ah ws (pn ws a) + j < ws.length by omega), hwk _ (List.getElem_mem _), (sb_iff hs _ (List.getElem?_eq_getElem _)).mpr (by omega), R_get hs (List.getElem?_eq_getElem _) hj⟩
  have wb' : ∀ j, j < (sb ws (pn ws b)).length → ∃ q, ws[ah ws (pn ws b) + j]? = some q ∧ wk q ∧ pn ws b <+: q.1 ∧ (R ws (pn ws b))[j]? = some (q.1.drop (pn ws b).length, q.2 - lst ws (pn ws b)) := fun j hj =>
    ⟨_, List.getElem?_eq_getElem (show ah ws (pn ws b) + j < ws.length by omega), hwk _ (List.getElem_mem _), (sb_iff hs _ (List.getElem?_eq_getElem _)).mpr (by omega), R_get hs (List.getElem?_eq_getElem _) hj⟩
  unfold hi at a15 b15
  have la0 : ∀ l : List wd, l ⊆ ws → (∀ q ∈ l, 0 ≤ q.2 ∧ q.2 ≤ 999999) := fun l h q hq => (hwk q (h hq)).2.2.2
  have lbd : ∀ p, 0 ≤ lst ws p ∧ lst ws p ≤ 999999 := by
    intro p
    unfold lst
    split
    · omega
    · obtain ⟨g1, g2, g3⟩ := mf_spec (sb ws p) 999999
      rcases g3 with g3 | ⟨r, g4, g5⟩
      · omega
      · have := (hwk r (sb_mem.mp g4).1).2.2.2
        omega
  have lba := lbd (pn ws a)
  have lbb := lbd (pn ws b)
  generalize hA : R ws (pn ws a) = A at *
  generalize hB : R ws (pn ws b) = B at *
  generalize hna : (sb ws (pn ws a)).length = na at *
  generalize hnb : (sb ws (pn ws b)).length = nb at *
  generalize hpa : pn ws a = pa at *
  generalize hpb : pn ws b = pb at *
  have key : ∃ r : Int, am_call (d + 1) N_md_areLike [.inr (.inr (some (m))), .inl ((a : Int)), .inl ((b : Int))] (MH m g S) = some (some (.inl r), MH m g S) ∧ ((r = 1 ∧ A = B) ∨ (r = 0 ∧ ¬ A = B)) := by
    by_cases c1 : mk A = mk B
    · have d1 : ((ah ws pa + na : Nat) : Int) - (ah ws pa : Int) = (na : Int) := by omega
      have d2 : ((ah ws pb + nb : Nat) : Int) - (ah ws pb : Int) = (nb : Int) := by omega
      by_cases c2 : na = nb
      · subst c2
        have start : am_call (d + 1) N_md_areLike [.inr (.inr (some (m))), .inl ((a : Int)), .inl ((b : Int))] (MH m g S) = EV (d + 1) N_md_areLike T_md_areLike_48 [.inr (.inr (some (m))), .inl ((a : Int)), .inl ((b : Int)), .inl (((0 : Nat) : Int)), am_nul, am_nul, am_nul, am_nul] [] (MH m g S) := by
          simp (disch := omega) only [en_md_areLike, B_md_areLike_0, B_md_areLike_15, B_md_areLike_46, Option.bind_some, if_true, if_false, eq_self, not_true_eq_false, not_false_eq_true, am_w_id, if_pos, if_neg, fu_self, fu_ne, Int.toNat_natCast, m_gR_19, m_l_19, m_s_19, m_gR_15, m_l_15, m_s_15, m_gR_14, m_l_14, m_s_14, a19, b19, c1, a15, a14, b15, b14, d1, d2]
          rfl
        rw [start]
        refine am_loop (S := Nat × (am_V × (am_V × (am_V × am_V)))) (F := fun s => EV (d + 1) N_md_areLike T_md_areLike_48 [.inr (.inr (some (m))), .inl ((a : Int)), .inl ((b : Int)), .inl ((s.1 : Int)), s.2.1, s.2.2.1, s.2.2.2.1, s.2.2.2.2] [] (MH m g S)) (I := fun s => s.1 ≤ na ∧ ∀ i, i < s.1 → A[i]? = B[i]?)
          (R := fun o => ∃ r : Int, o = some (some (.inl r), MH m g S) ∧ ((r = 1 ∧ A = B) ∨ (r = 0 ∧ ¬ A = B))) (fun s => na - s.1) ?_ (0, am_nul, am_nul, am_nul, am_nul) ⟨Nat.zero_le _, fun i hi => by simp at hi⟩
        rintro ⟨j, j4, j5, j6, j7⟩ ⟨p1, p2⟩
        dsimp only at p1 p2 ⊢
        by_cases c : j = na
        · left
          subst c
          refine ⟨1, ?_, Or.inl ⟨rfl, ?_⟩⟩
          · (try dsimp only); rw [B_md_areLike_48]; simp (disch := omega) only [B_md_areLike_248, Option.bind_some, if_true, if_false, eq_self, not_true_eq_false, not_false_eq_true, am_w_id, if_pos, if_neg, fu_self, fu_ne, Int.toNat_natCast, m_gR_15, m_l_15, m_s_15, m_gR_14, m_l_14, m_s_14, a15, a14, d1]
          · refine List.ext_getElem? (fun i => ?_)
            by_cases ci : i < j
            · exact p2 i ci
            · rw [List.getElem?_eq_none (by omega), List.getElem?_eq_none (by omega)]
        · obtain ⟨q, q1, q2, q3, q4⟩ := wa j (by omega)
          obtain ⟨r, r1, r2, r3, r4⟩ := wb' j (by omega)
          have q10 := q2.2.2.1
          have r10 := r2.2.2.1
          have qle := q3.length_le
          have rle := r3.length_le
          have qn := q2.2.2.2
          have rn := r2.2.2.2
          have v1 := fun d => md_lengthOf (g := g) (m_row_2 (m := m)) (by decide) H q1 d
          have v2 := fun d => md_lengthOf (g := g) (m_row_2 (m := m)) (by decide) H r1 d
          have v3 := fun d => md_numberOf (g := g) (m_row_2 (m := m)) (by decide) H q1 d
          have v4 := fun d => md_numberOf (g := g) (m_row_2 (m := m)) (by decide) H r1 d
          have lq := List.length_drop (l := q.1) (i := pa.length)
          have lr := List.length_drop (l := r.1) (i := pb.length)
          have no : q.1.drop pa.length ≠ r.1.drop pb.length ∨ q.2 - lst ws pa ≠ r.2 - lst ws pb → ¬ A = B := by
            intro h e
            rw [← e, q4] at r4
            injection r4 with r4
            injection r4 with r4 r5
            rcases h with h | h
            · exact h r4
            · exact h r5
          have st := md_aL (m := m) (g := g) (S := S) (o := o) (j4 := j4) (j5 := j5) (j6 := j6) (j7 := j7) d (show a < 1101 by omega) (show b < 1101 by omega) (show ah ws pa + na ≤ 100 by omega) (show j < na by omega) (show ah ws pb ≤ 100 by omega) (show pa.length ≤ 10 by omega) (show pb.length ≤ 10 by omega) q10 r10 lba lbb qn rn a14 a15 b14 a16 b16 a18 b18 n2 v1 v2 v3 v4
          by_cases c3 : (q.1.length : Int) - pa.length = (r.1.length : Int) - pb.length
          · rw [if_pos c3] at st
            by_cases c4 : q.2 - lst ws pa = r.2 - lst ws pb
            · -- the letters
              rw [if_pos c4] at st
              have inner := am_loop (S := Nat) (F := fun i => EV (d + 1) N_md_areLike T_md_areLike_180 [.inr (.inr (some (m))), .inl ((a : Int)), .inl ((b : Int)), .inl ((j : Int)), .inl (((ah ws pa + j : Nat) : Int)), .inl (((ah ws pb + j : Nat) : Int)), .inl ((q.1.length : Int) - pa.length), .inl ((i : Int))] [] (MH m g S))
                (I := fun i => i ≤ q.1.length - pa.length ∧ ∀ x, x < i → (q.1.drop pa.length).getD x 0 = (r.1.drop pb.length).getD x 0)
                (R := fun o => (o = some (some (.inl 0), MH m g S) ∧ q.1.drop pa.length ≠ r.1.drop pb.length) ∨ (o = EV (d + 1) N_md_areLike T_md_areLike_48 [.inr (.inr (some (m))), .inl ((a : Int)), .inl ((b : Int)), .inl (((j + 1 : Nat) : Int)), .inl (((ah ws pa + j : Nat) : Int)), .inl (((ah ws pb + j : Nat) : Int)), .inl ((q.1.length : Int) - pa.length), .inl (((q.1.length - pa.length : Nat) : Int))] [] (MH m g S) ∧ q.1.drop pa.length = r.1.drop pb.length)) (fun i => q.1.length - pa.length - i) ?_ 0 ⟨Nat.zero_le _, fun x hx => by simp at hx⟩
              · rcases inner with ⟨g1, g2⟩ | ⟨g1, g2⟩
                · left
                  exact ⟨0, st.trans g1, Or.inr ⟨rfl, no (Or.inl g2)⟩⟩
                · right
                  refine ⟨(j + 1, .inl ((ah ws pa + j : Nat) : Int), .inl ((ah ws pb + j : Nat) : Int), .inl ((q.1.length : Int) - pa.length), .inl ((q.1.length - pa.length : Nat) : Int)), ⟨by dsimp only; omega, fun i hi => ?_⟩, by dsimp only; omega, st.trans g1⟩
                  dsimp only at hi
                  by_cases ci : i = j
                  · subst ci; rw [q4, r4, g2, c4]
                  · exact p2 i (by omega)
              · rintro i ⟨i1, i2⟩
                by_cases ci : i = q.1.length - pa.length
                · left
                  right
                  subst ci
                  refine ⟨?_, getD_ext (by omega) (fun x hx => i2 x (by omega))⟩
                  rw [B_md_areLike_180, if_pos (by omega), B_md_areLike_242, am_w_id (by omega) (by omega)]
                  rfl
                · have v5 := fun d => md_letterOf (g := g) (m_row_2 (m := m)) (by decide) H q1 (show pa.length + i < 10 by omega) d
                  have v6 := fun d => md_letterOf (g := g) (m_row_2 (m := m)) (by decide) H r1 (show pb.length + i < 10 by omega) d
                  rw [← dr_get] at v5 v6
                  have sl := md_aLl (m := m) (g := g) (S := S) (o := o) (j := (j : Int)) (x6 := (q.1.length : Int) - pa.length) d (show a < 1101 by omega) (show b < 1101 by omega) (show pa.length ≤ 10 by omega) (show pb.length ≤ 10 by omega) (show i < 10 by omega) (by omega) a16 b16 n2 v5 v6
                  by_cases cl : (q.1.drop pa.length).getD i 0 = (r.1.drop pb.length).getD i 0
                  · right
                    rw [if_pos cl] at sl
                    refine ⟨i + 1, ⟨by omega, fun x hx => ?_⟩, by omega, sl⟩
                    by_cases cx : x = i
                    · subst cx; exact cl
                    · exact i2 x (by omega)
                  · left
                    left
                    rw [if_neg cl] at sl
                    exact ⟨sl, fun e => cl (by rw [e])⟩
            · left
              rw [if_neg c4] at st
              exact ⟨0, st, Or.inr ⟨rfl, no (Or.inr c4)⟩⟩
          · left
            rw [if_neg c3] at st
            exact ⟨0, st, Or.inr ⟨rfl, no (Or.inl (fun e => c3 (by rw [e] at lq; omega)))⟩⟩
      · refine ⟨0, ?_, Or.inr ⟨rfl, fun e => c2 (by rw [← lna, ← lnb, e])⟩⟩
        have c2' : ¬ (na : Int) = (nb : Int) := by omega
        simp (disch := omega) only [en_md_areLike, B_md_areLike_0, B_md_areLike_15, B_md_areLike_44, Option.bind_some, if_true, if_false, eq_self, not_true_eq_false, not_false_eq_true, am_w_id, if_pos, if_neg, fu_self, fu_ne, Int.toNat_natCast, m_gR_19, m_l_19, m_s_19, m_gR_15, m_l_15, m_s_15, m_gR_14, m_l_14, m_s_14, a19, b19, c1, a15, a14, b15, b14, d1, d2, c2']
    · refine ⟨0, ?_, Or.inr ⟨rfl, fun e => c1 (by rw [e])⟩⟩
      simp (disch := omega) only [en_md_areLike, B_md_areLike_0, B_md_areLike_44, Option.bind_some, if_true, if_false, eq_self, not_true_eq_false, not_false_eq_true, am_w_id, if_pos, if_neg, fu_self, fu_ne, Int.toNat_natCast, m_gR_19, m_l_19, m_s_19, a19, b19, c1]
  obtain ⟨r, e, hr⟩ := key
  refine (am_cI_of e).trans ?_
  rcases hr with ⟨h1, h2⟩ | ⟨h1, h2⟩
  · rw [if_pos h2, h1]
  · rw [if_neg h2, h1]
theorem md_finds (hok : ok ws) (H : ml 2402 (S 2) o ws) (N : ndR S o ws) {P : Nat → Bool} {k : Nat} (hk : k < nN ws) (hP : P k = true) (F : fsR S ws P k) (d : Nat) :
    ∃ S', am_cV (d + 2) N_md_finds [.inr (.inr (some (m))), .inl ((k : Int))] (MH m g S) = some (MH m g S') ∧ fsR S' ws P (k + 1) ∧ fd [20, 21, 22] S S' := by
  have hN' : nN ws ≤ 1001 := ND_len hok
  obtain ⟨f1, f2, f3⟩ := F
  have hle : sx (eR ws) P k ≤ (rl (eR ws) P k).length := List.findIdx_le_length
  have hlen := rl_len (e := eR ws) (P := P) k
  have hget : ∀ s, s < (rl (eR ws) P k).length → ∃ j, (rl (eR ws) P k)[s]? = some j ∧ j < nN ws ∧ S 22 s = (j : Int) := fun s hs =>
    ⟨_, List.getElem?_eq_getElem hs, by have := (rl_lt (List.getElem_mem hs)).1; omega, f2 s _ (List.getElem?_eq_getElem hs)⟩
  have hsb : ∀ x, sx (eR ws) P x = (rl (eR ws) P x).findIdx (fun j => eR ws j x) := fun _ => rfl
  have loop := am_for (F := fun s => EV (d + 2) N_md_finds T_md_finds_2 [.inr (.inr (some (m))), .inl ((k : Int)), .inl ((s : Int))] [] (MH m g S)) (k := 0) (n := sx (eR ws) P k) (Nat.zero_le _) (fun s _ hs => by
    obtain ⟨j, j1, j2, j3⟩ := hget s (by omega)
    have a1 := fun d => md_areLike (m := m) (g := g) hok H N j2 hk d
    have hne : ¬ R ws (pn ws j) = R ws (pn ws k) := by
      rw [hsb] at hs
      have h4 := List.not_of_lt_findIdx hs
      have h5 := (List.getElem?_eq_some_iff.mp j1).2
      rw [h5] at h4
      unfold eR at h4
      simpa using h4
    (try dsimp only); rw [B_md_finds_2]; simp (disch := omega) only [B_md_finds_10, B_md_finds_24, B_md_finds_35, Option.bind_some, if_true, if_false, eq_self, not_true_eq_false, not_false_eq_true, am_w_id, if_pos, if_neg, fu_self, fu_ne, Int.toNat_natCast, m_gI_21, m_p_21, m_gR_22, m_l_22, m_s_22, m_O, f1, j3, a1, hne]
    rfl)
  by_cases c : sx (eR ws) P k = (rl (eR ws) P k).length
  · have hany : (rl (eR ws) P k).any (fun j => eR ws j k) = false := by
      rw [List.any_eq_false]
      intro x hx g
      have := List.findIdx_lt_length_of_exists (xs := rl (eR ws) P k) (p := fun j => eR ws j k) ⟨x, hx, g⟩
      rw [hsb] at c
      omega
    have hrl : rl (eR ws) P (k + 1) = rl (eR ws) P k ++ [k] := by rw [rl, if_pos ⟨hP, hany⟩]
    refine ⟨am_fu (am_fu (am_fu S 22 (am_fu (S 22) (rl (eR ws) P k).length (k : Int))) 20 (am_fu (S 20) k ((rl (eR ws) P k).length : Int))) 21 (fun _ => ((rl (eR ws) P k).length : Int) + 1), am_cV_of ?_, ⟨?_, fun s j hsj => ?_, fun j hj hPj => ?_⟩, ((fd.rf.up (by decide) _).up (by decide) _).up (by decide) _⟩
    · rw [en_md_finds, B_md_finds_0]
      refine loop.trans ?_
      rw [c]
      (try dsimp only); rw [B_md_finds_2]; simp (disch := omega) only [B_md_finds_41, Option.bind_some, if_true, if_false, eq_self, not_true_eq_false, not_false_eq_true, am_w_id, if_pos, if_neg, fu_self, fu_ne, Int.toNat_natCast, m_gI_21, m_p_21, m_gR_22, m_l_22, m_s_22, m_gR_20, m_l_20, m_s_20, f1]
    · rw [fu_self, hrl, List.length_append, List.length_singleton]; omega
    · rw [fu_ne (by decide), fu_ne (by decide), fu_self]
      rw [hrl, List.getElem?_append] at hsj
      by_cases cs : s < (rl (eR ws) P k).length
      · rw [if_pos cs] at hsj
        rw [fu_ne (by omega)]
        exact f2 s j hsj
      · rw [if_neg cs] at hsj
        have h1 := (List.getElem?_eq_some_iff.mp hsj).1
        rw [List.length_singleton] at h1
        have h2 : s - (rl (eR ws) P k).length = 0 := by omega
        rw [h2] at hsj
        simp at hsj
        rw [show s = (rl (eR ws) P k).length by omega, fu_self, hsj]
    · rw [fu_ne (by decide), fu_self]
      by_cases cj : j = k
      · subst cj; rw [fu_self, c]
      · rw [fu_ne cj]; exact f3 j (by omega) hPj
  · obtain ⟨j, j1, j2, j3⟩ := hget (sx (eR ws) P k) (by omega)
    have a1 := fun d => md_areLike (m := m) (g := g) hok H N j2 hk d
    have heq : R ws (pn ws j) = R ws (pn ws k) := by
      have hl : (rl (eR ws) P k).findIdx (fun j => eR ws j k) < (rl (eR ws) P k).length := by rw [← hsb]; omega
      have h4 := List.findIdx_getElem (w := hl)
      have h5 := (List.getElem?_eq_some_iff.mp j1).2
      have h6 : (rl (eR ws) P k)[(rl (eR ws) P k).findIdx (fun j => eR ws j k)]'hl = j := h5
      rw [h6] at h4
      unfold eR at h4
      simpa using h4
    have hany : ¬ (rl (eR ws) P k).any (fun j => eR ws j k) = false := by
      intro g
      have h5 := List.any_eq_false.mp g j (List.mem_of_getElem? j1)
      unfold eR at h5
      rw [heq] at h5
      simp at h5
    have hrl : rl (eR ws) P (k + 1) = rl (eR ws) P k := by rw [rl, if_neg (fun g => hany g.2)]
    refine ⟨am_fu S 20 (am_fu (S 20) k (sx (eR ws) P k : Int)), am_cV_of ?_, ⟨?_, fun s j hsj => ?_, fun j hj hPj => ?_⟩, fd.rf.up (by decide) _⟩
    · rw [en_md_finds, B_md_finds_0]
      refine loop.trans ?_
      (try dsimp only); rw [B_md_finds_2]; simp (disch := omega) only [B_md_finds_10, B_md_finds_27, Option.bind_some, if_true, if_false, eq_self, not_true_eq_false, not_false_eq_true, am_w_id, if_pos, if_neg, fu_self, fu_ne, Int.toNat_natCast, m_gI_21, m_p_21, m_gR_22, m_l_22, m_s_22, m_O, m_gR_20, m_l_20, m_s_20, f1, j3, a1, heq, show ¬ (1 : Int) = 0 by decide]
    · rw [fu_ne (by decide), hrl]; exact f1
    · rw [fu_ne (by decide)]; rw [hrl] at hsj; exact f2 s j hsj
    · rw [fu_self]
      by_cases cj : j = k
      · subst cj; rw [fu_self]
      · rw [fu_ne cj]; exact f3 j (by omega) hPj
theorem md_laysStates (hok : ok ws) (H : ml 2402 (S 2) 0 ws) (d : Nat) : ∃ S', am_cV (d + 4) N_md_laysStates [.inr (.inr (some (m)))] (MH m g S) = some (MH m g S') ∧ stR S' ws ∧ fd [13, 14, 15, 16, 17, 18, 19, 20, 21, 22, 23] S S' := by
  have hN' : nN ws ≤ 1001 := ND_len hok
  obtain ⟨T, e, t1, t2⟩ := md_laysNodes (m := m) (g := g) hok H d
  have e' : am_cV (d + 3) N_md_laysNodes [.inr (.inr (some (m))), .inl (0)] (MH m g S) = some (MH m g T) := e
  have hT : ml 2402 (T 2) 0 ws := by rw [t2 2 (by decide)]; exact H
  have start : am_call (d + 4) N_md_laysStates [.inr (.inr (some (m)))] (MH m g S) = EV (d + 4) N_md_laysStates T_md_laysStates_12 [.inr (.inr (some (m))), .inl (((0 : Nat) : Int))] [] (MH m g (am_fu T 21 (fun _ => 0))) := by
    simp (disch := omega) only [en_md_laysStates, B_md_laysStates_0, Option.bind_some, if_true, if_false, eq_self, not_true_eq_false, not_false_eq_true, am_w_id, if_pos, if_neg, fu_self, fu_ne, Int.toNat_natCast, m_gI_21, m_p_21, m_O, e']
    rfl
  have key := am_loop (S := Nat × (Nat → Nat → Int)) (F := fun s => EV (d + 4) N_md_laysStates T_md_laysStates_12 [.inr (.inr (some (m))), .inl ((s.1 : Int))] [] (MH m g s.2))
    (I := fun s => s.1 ≤ nN ws ∧ fsR s.2 ws tt s.1 ∧ fd [20, 21, 22] T s.2)
    (R := fun r => ∃ S', r = some (none, MH m g S') ∧ stR S' ws ∧ fd [20, 21, 22] T S') (fun s => nN ws - s.1) ?_ (0, am_fu T 21 (fun _ => 0)) ⟨Nat.zero_le _, ⟨by dsimp only; rw [fu_self]; rfl, fun s j h => by simp [rl] at h, fun j hj => by simp at hj⟩, fd.rf.up (by decide) _⟩
  · obtain ⟨S', e2, s1, s2⟩ := key
    exact ⟨S', am_cV_of (start.trans e2), s1, (t2.wide (by decide)).tr (s2.wide (by decide))⟩
  · rintro ⟨k, U⟩ ⟨p1, p2, p3⟩
    dsimp only at p1 p2 p3 ⊢
    have hU : ml 2402 (U 2) 0 ws := by rw [p3 2 (by decide)]; exact hT
    have NU := t1.frd p3
    have u13 := NU.1
    by_cases c : k = nN ws
    · left
      subst c
      refine ⟨U, ?_, ⟨NU, p2⟩, p3⟩
      (try dsimp only); rw [B_md_laysStates_12]; simp (disch := omega) only [B_md_laysStates_31, Option.bind_some, if_true, if_false, eq_self, not_true_eq_false, not_false_eq_true, am_w_id, if_pos, if_neg, fu_self, fu_ne, Int.toNat_natCast, m_gI_13, m_p_13, u13]
    · right
      obtain ⟨V, e2, v1, v2⟩ := md_finds (m := m) (g := g) hok hU NU (k := k) (by omega) (show tt k = true from rfl) p2 (d + 1)
      refine ⟨(k + 1, V), ⟨by dsimp only; omega, v1, p3.tr v2⟩, by dsimp only; omega, ?_⟩
      (try dsimp only); rw [B_md_laysStates_12]; simp (disch := omega) only [B_md_laysStates_20, Option.bind_some, if_true, if_false, eq_self, not_true_eq_false, not_false_eq_true, am_w_id, if_pos, if_neg, fu_self, fu_ne, Int.toNat_natCast, m_gI_13, m_p_13, m_O, u13, e2]
      rfl
theorem md_statesOf (hok : ok ws) (H : ml 2402 (S 2) 0 ws) (d : Nat) (x : Int) : ∃ S', am_cI (d + 5) N_md_statesOf [.inr (.inr (some (m))), .inl (x)] (MH m g S) = some ((nS ws : Int), MH m g S') ∧ stR S' ws ∧ fd [13, 14, 15, 16, 17, 18, 19, 20, 21, 22, 23] S S' := by
  obtain ⟨T, e, t1, t2⟩ := md_laysStates (m := m) (g := g) hok H d
  have h21 := t1.2.1
  refine ⟨T, am_cI_of ?_, t1, t2⟩
  simp (disch := omega) only [en_md_statesOf, B_md_statesOf_0, Option.bind_some, if_true, if_false, eq_self, not_true_eq_false, not_false_eq_true, am_w_id, if_pos, if_neg, fu_self, fu_ne, Int.toNat_natCast, m_gI_21, m_p_21, m_O, e, h21]
theorem md_closed (hok : ok ws) (H : ml 2402 (S 2) 1201 ws) (d : Nat) : ∃ S', am_cI (d + 4) N_md_closed [.inr (.inr (some (m)))] (MH m g S) = some ((nC ws : Int), MH m g S') ∧ fd [13, 14, 15, 16, 17, 18, 19, 20, 21, 22, 23] S S' := by
  have hN' : nN ws ≤ 1001 := ND_len hok
  have h1 := H.1
  by_cases c0 : ws = []
  · subst c0
    refine ⟨S, am_cI_of ?_, fd.rf⟩
    have h1' : S 2 1201 = 0 := h1
    have hN0 : nC ([] : List wd) = 0 := rfl
    simp (disch := omega) only [en_md_closed, B_md_closed_0, B_md_closed_11, Option.bind_some, if_true, if_false, eq_self, not_true_eq_false, not_false_eq_true, am_w_id, if_pos, if_neg, fu_self, fu_ne, Int.toNat_natCast, m_gR_2, m_l_2, m_s_2, h1', hN0, Int.reduceToNat]
    rfl
  · have hlp := List.length_pos_iff.mpr c0
    obtain ⟨T, e, t1, t2⟩ := md_laysNodes (m := m) (g := g) hok H d
    have e' : am_cV (d + 3) N_md_laysNodes [.inr (.inr (some (m))), .inl (1201)] (MH m g S) = some (MH m g T) := e
    have hT : ml 2402 (T 2) 1201 ws := by rw [t2 2 (by decide)]; exact H
    have start : am_call (d + 4) N_md_closed [.inr (.inr (some (m)))] (MH m g S) = EV (d + 4) N_md_closed T_md_closed_27 [.inr (.inr (some (m))), .inl (((0 : Nat) : Int))] [] (MH m g (am_fu T 21 (fun _ => 0))) := by
      simp (disch := omega) only [en_md_closed, B_md_closed_0, B_md_closed_13, Option.bind_some, if_true, if_false, eq_self, not_true_eq_false, not_false_eq_true, am_w_id, if_pos, if_neg, fu_self, fu_ne, Int.toNat_natCast, m_gR_2, m_l_2, m_s_2, m_gI_21, m_p_21, m_O, e', h1, Int.reduceToNat]
      rfl
    have hnC : nC ws = (rl (eR ws) (clo ws) (nN ws)).length := by unfold nC; rw [if_neg c0]
    have key := am_loop (S := Nat × (Nat → Nat → Int)) (F := fun s => EV (d + 4) N_md_closed T_md_closed_27 [.inr (.inr (some (m))), .inl ((s.1 : Int))] [] (MH m g s.2))
      (I := fun s => s.1 ≤ nN ws ∧ fsR s.2 ws (clo ws) s.1 ∧ fd [20, 21, 22] T s.2)
      (R := fun r => ∃ S', r = some (some (.inl (nC ws : Int)), MH m g S') ∧ fd [20, 21, 22] T S') (fun s => nN ws - s.1) ?_ (0, am_fu T 21 (fun _ => 0)) ⟨Nat.zero_le _, ⟨by dsimp only; rw [fu_self]; rfl, fun s j h => by simp [rl] at h, fun j hj => by simp at hj⟩, fd.rf.up (by decide) _⟩
    · obtain ⟨S', e2, s2⟩ := key
      exact ⟨S', am_cI_of (start.trans e2), (t2.wide (by decide)).tr (s2.wide (by decide))⟩
    · rintro ⟨k, U⟩ ⟨p1, p2, p3⟩
      dsimp only at p1 p2 p3 ⊢
      have hU : ml 2402 (U 2) 1201 ws := by rw [p3 2 (by decide)]; exact hT
      have NU := t1.frd p3
      have u13 := NU.1
      have hU1 := hU.1
      by_cases c : k = nN ws
      · left
        subst c
        have p21 := p2.1
        rw [← hnC] at p21
        refine ⟨U, ?_, p3⟩
        (try dsimp only); rw [B_md_closed_27]; simp (disch := omega) only [B_md_closed_63, Option.bind_some, if_true, if_false, eq_self, not_true_eq_false, not_false_eq_true, am_w_id, if_pos, if_neg, fu_self, fu_ne, Int.toNat_natCast, m_gI_13, m_p_13, m_gI_21, m_p_21, u13, p21]
      · right
        have u15 := (NU.2.2.1 k (by omega)).2.1
        have hcast : (k : Int) + 1 = ((k + 1 : Nat) : Int) := by omega
        by_cases cc : clo ws k = true
        · obtain ⟨V, e2, v1, v2⟩ := md_finds (m := m) (g := g) hok hU NU (k := k) (by omega) cc p2 (d + 1)
          have cc2 : hi ws (pn ws k) < ws.length := by unfold clo at cc; exact of_decide_eq_true cc
          refine ⟨(k + 1, V), ⟨by dsimp only; omega, v1, p3.tr v2⟩, by dsimp only; omega, ?_⟩
          (try dsimp only); rw [B_md_closed_27]; simp (disch := omega) only [B_md_closed_35, B_md_closed_52, B_md_closed_57, Option.bind_some, if_true, if_false, eq_self, not_true_eq_false, not_false_eq_true, am_w_id, if_pos, if_neg, fu_self, fu_ne, Int.toNat_natCast, m_gI_13, m_p_13, m_gR_15, m_l_15, m_s_15, m_gR_2, m_l_2, m_s_2, m_O, u13, u15, hU1, e2, hcast, Int.reduceToNat]
        · have cc2 : ¬ hi ws (pn ws k) < ws.length := by unfold clo at cc; exact fun g => cc (decide_eq_true g)
          refine ⟨(k + 1, U), ⟨by dsimp only; omega, ?_, p3⟩, by dsimp only; omega, ?_⟩
          · have hrl : rl (eR ws) (clo ws) (k + 1) = rl (eR ws) (clo ws) k := by rw [rl, if_neg (fun g => cc g.1)]
            obtain ⟨f1, f2, f3⟩ := p2
            refine ⟨by dsimp only; rw [hrl]; exact f1, fun s j hsj => ?_, fun j hj hPj => ?_⟩
            · dsimp only at hsj ⊢; rw [hrl] at hsj; exact f2 s j hsj
            · dsimp only at hj ⊢
              by_cases cj : j = k
              · subst cj; exact absurd hPj cc
              · exact f3 j (by omega) hPj
          · (try dsimp only); rw [B_md_closed_27]; simp (disch := omega) only [B_md_closed_35, B_md_closed_57, Option.bind_some, if_true, if_false, eq_self, not_true_eq_false, not_false_eq_true, am_w_id, if_pos, if_neg, fu_self, fu_ne, Int.toNat_natCast, m_gI_13, m_p_13, m_gR_15, m_l_15, m_s_15, m_gR_2, m_l_2, m_s_2, u13, u15, hU1, hcast, Int.reduceToNat]
theorem md_open (hok : ok ws) (H : ml 2402 (S 2) 1201 ws) (d : Nat) : am_cI (d + 1) N_md_open [.inr (.inr (some (m)))] (MH m g S) = some ((nO ws : Int), MH m g S) := by
  have h1 := H.1
  have hl := hok.2.2
  apply am_cI_of
  by_cases c0 : ws = []
  · subst c0
    have h1' : S 2 1201 = 0 := h1
    have hN0 : nO ([] : List wd) = 0 := rfl
    simp (disch := omega) only [en_md_open, B_md_open_0, B_md_open_11, B_md_open_37, Option.bind_some, if_true, if_false, eq_self, not_true_eq_false, not_false_eq_true, am_w_id, if_pos, if_neg, fu_self, fu_ne, Int.toNat_natCast, m_gR_2, m_l_2, m_s_2, h1', hN0, Int.reduceToNat]
    rfl
  · have hlp := List.length_pos_iff.mpr c0
    have hg : ws[ws.length - 1]? = some (ws.getLastD ([], 0)) := by
      rw [← List.getLast?_eq_getElem?, List.getLastD_eq_getLast?]
      cases e : ws.getLast? with
      | none => rw [List.getLast?_eq_none_iff] at e; exact absurd e c0
      | some x => rfl
    have hq := (hok.1 _ (List.mem_of_getElem? hg)).2.2.1
    have a1 := fun d => md_lengthOf (g := g) (m_row_2 (m := m)) (by decide) H hg d
    have e1 : (ws.length : Int) - 1 = ((ws.length - 1 : Nat) : Int) := by omega
    have a1' : ∀ d, am_cI d N_md_lengthOf [.inr (.inr (some (m + 2))), .inl (1201), .inl (((ws.length - 1 : Nat) : Int))] (MH m g S) = some (((ws.getLastD ([], 0)).1.length : Int), MH m g S) := a1
    have hnO : (nO ws : Int) = ((ws.getLastD ([], 0)).1.length : Int) + 1 := by unfold nO; rw [if_neg c0]; omega
    rw [hnO]
    simp (disch := omega) only [en_md_open, B_md_open_0, B_md_open_15, B_md_open_37, Option.bind_some, if_true, if_false, eq_self, not_true_eq_false, not_false_eq_true, am_w_id, if_pos, if_neg, fu_self, fu_ne, Int.toNat_natCast, m_gR_2, m_l_2, m_s_2, h1, e1, a1', Int.reduceToNat]
end MD
