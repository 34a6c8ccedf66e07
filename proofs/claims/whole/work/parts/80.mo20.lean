/-! unpack: goesThrough put together -/
theorem so_upw {path : List Int} {tot : Int} {l : List wd} (h : so l) : so (upw path tot l) := by
  unfold so upw
  rw [List.pairwise_map]
  refine List.Pairwise.imp (fun {a b} hab => ?_) h
  dsimp only
  rw [lx_app]
  exact hab
theorem so_fm {f : arc → List wd} : ∀ (l : List arc), l.Pairwise (fun a b => a.1 < b.1) → (∀ a ∈ l, so (f a)) → so (l.flatMap (fun a => (f a).map (fun w => (a.1 :: w.1, a.2.1 + w.2))))
  | [], _, _ => List.Pairwise.nil
  | a :: l, h, hf => by
    obtain ⟨h1, h2⟩ := List.pairwise_cons.mp h
    rw [List.flatMap_cons]
    refine List.pairwise_append.mpr ⟨?_, so_fm l h2 (fun b hb => hf b (List.mem_cons_of_mem _ hb)), fun p hp q hq => ?_⟩
    · rw [List.pairwise_map]
      refine List.Pairwise.imp (fun {v w} hvw => ?_) (hf a List.mem_cons_self)
      show lx (a.1 :: v.1) (a.1 :: w.1) = true
      unfold lx
      simp [hvw]
    · obtain ⟨v, _, rfl⟩ := List.mem_map.mp hp
      obtain ⟨b, hb, hq2⟩ := List.mem_flatMap.mp hq
      obtain ⟨w, _, rfl⟩ := List.mem_map.mp hq2
      show lx (a.1 :: v.1) (b.1 :: w.1) = true
      have := h1 b hb
      unfold lx
      rw [decide_eq_true this, Bool.true_or]
theorem so_wy {ss : List sta} (hm : mach ss) : ∀ (n s : Nat), s < ss.length → so (wy ss n s)
  | 0, s, _ => by unfold wy; split <;> simp [so]
  | n + 1, s, hs => by
    unfold wy
    have hok := (of_ok hm hs).2
    have h1 := so_fm (f := fun a => wy ss n a.2.2.toNat) (aOf ss s) hok.2 (fun a ha => so_wy hm n _ (by have := hok.1 a ha; omega))
    split
    · rw [List.nil_append]; exact h1
    · refine List.pairwise_append.mpr ⟨List.pairwise_singleton _ _, h1, fun p hp q hq => ?_⟩
      rw [List.mem_singleton.mp hp]
      obtain ⟨b, hb, hq2⟩ := List.mem_flatMap.mp hq
      obtain ⟨w, _, rfl⟩ := List.mem_map.mp hq2
      rfl
section MO
variable {m : Nat} {g : am_H} {S : Nat → Nat → Int} {u : Int} {ss : List sta}
theorem md_gtEnd (x2 x3 : Int) (j4 : am_V) (d : Nat) : EV d N_md_goesThrough T_md_goesThrough_54 [.inr (.inr (some (m))), .inl (0), .inl (x2), .inl (x3), j4] [] (MH m g S) = EV d N_md_goesThrough T_md_goesThrough_62 [.inr (.inr (some (m))), .inl (-1), .inl (x2), .inl (x3), j4] [.inl (x2)] (MH m g S) := by
  have e1 : (0 : Int) + (-1) = -1 := by decide
  have e2 : -2147483648 ≤ (-1 : Int) := by decide
  have e3 : (-1 : Int) < 2147483648 := by decide
  have e4 : ¬ (0 : Int) ≤ (-1 : Int) := by decide
  rw [B_md_goesThrough_54, e1, am_w_id e2 e3, if_neg e4]
theorem md_goesThrough (hm : mach ss) (M : mcR S u ss) (hl : 1 ≤ ss.length ∧ ss.length ≤ 1001) (hf : (fla ss).length ≤ 133) (hu : 0 ≤ u ∧ u ≤ 999999) (ha : aw ss) (d : Nat) : ∃ x S', am_cI (d + 4) N_md_goesThrough [.inr (.inr (some (m)))] (MH m g S) = some (x, MH m g S') ∧ fd [7, 8, 12, 45, 46] S S' ∧
    ((x = 0 ∧ ∃ w ∈ wy ss 10 0, 999999 < u + w.2) ∨ (x = 1 ∧ (∀ w ∈ wy ss 10 0, u + w.2 ≤ 999999) ∧ ml 2402 (S' 12) 0 (upw [] u (wy ss 10 0)) ∧ ok (upw [] u (wy ss 10 0)))) := by
  obtain ⟨h11, ⟨he, hc⟩, hcn⟩ := ha
  have hwy : wy ss 10 0 = rsx ss 10 0 0 := by rw [wy_own]; unfold own; rw [if_pos he, List.nil_append]
  have hlen : (rsx ss 10 0 0).length ≤ 100 := by
    have := cwn_wy ss 10 0
    rw [hwy] at this
    omega
  have hso : so (upw [] u (rsx ss 10 0 0)) := by rw [← hwy]; exact so_upw (so_wy hm 10 0 (by omega))
  rw [hwy]
  have h36 := M.2.1
  obtain ⟨U1, hU1⟩ : ∃ U, U = am_fu S 12 (am_fu (S 12) 0 0) := ⟨_, rfl⟩
  obtain ⟨U2, hU2⟩ : ∃ U, U = am_fu U1 45 (am_fu (U1 45) 0 0) := ⟨_, rfl⟩
  obtain ⟨U3, hU3⟩ : ∃ U, U = am_fu U2 46 (am_fu (U2 46) 0 0) := ⟨_, rfl⟩
  have F3 : fd [7, 8, 12, 45, 46] S U3 := by rw [hU3, hU2, hU1]; exact ((fd.rf.up (by decide) _).up (by decide) _).up (by decide) _
  have M3 := M.fr F3 (by decide)
  have g36 : U1 36 0 = u := by rw [hU1, fu_ne (by decide)]; exact h36
  have k36 : U3 36 0 = u := M3.2.1
  have l36 : U2 36 0 = u := by rw [hU2, fu_ne (by decide)]; exact g36
  have st : am_call (d + 4) N_md_goesThrough [.inr (.inr (some (m)))] (MH m g S) = EV (d + 4) N_md_goesThrough T_md_goesThrough_28 [.inr (.inr (some (m))), .inl (((0 : Nat) : Int)), .inl (u), am_nul, am_nul] [] (MH m g U3) := by
    (try dsimp only); rw [en_md_goesThrough]; (try simp (disch := omega) only [Option.bind_some, if_true, if_false, eq_self, not_true_eq_false, not_false_eq_true, am_w_id, if_pos, if_neg, fu_self, fu_ne, Int.toNat_natCast, Int.toNat_zero, hU1.symm, hU2.symm, hU3.symm, k36, g36, l36]); rw [B_md_goesThrough_0]; (try simp (disch := omega) only [Option.bind_some, if_true, if_false, eq_self, not_true_eq_false, not_false_eq_true, am_w_id, if_pos, if_neg, fu_self, fu_ne, Int.toNat_natCast, m_gR_12, m_l_12, m_s_12, m_gR_45, m_l_45, m_s_45, m_gR_46, m_l_46, m_s_46, m_gI_36, m_p_36, Int.toNat_zero, hU1.symm, hU2.symm, hU3.symm, k36, g36, l36])
    rfl
  have v12 : U3 12 0 = 0 := by rw [hU3, fu_ne (by decide), hU2, fu_ne (by decide), hU1, fu_self]; exact if_pos rfl
  have v45 : U3 45 0 = ((0 : Nat) : Int) := by rw [hU3, fu_ne (by decide), hU2, fu_self]; exact if_pos rfl
  have v46 : U3 46 0 = ((0 : Nat) : Int) := by rw [hU3, fu_self]; exact if_pos rfl
  rcases md_visit (m := m) (g := g) hm hl.2 hf h11 d 10 0 0 (aOf ss 0).length 0 am_nul am_nul [] u [] U3 rfl M3 (by omega) rfl (by omega) v45 v46 rfl (fun i hi => by omega) (fun x hx => by simp at hx) (by omega) ⟨v12, by simp, fun w p hp => by simp at hp⟩ (fun p hp => by simp at hp) (by rw [List.length_nil]; omega) (by rw [List.nil_append]; exact hso) with ⟨S', e2, F2, w, w1, w2⟩ | ⟨b, k3, k4, S2, e2, F2, W2, x45, x46, hLA, hkA⟩
  · exact ⟨0, S', am_cI_of (st.trans e2), F3.tr F2, Or.inl ⟨rfl, w, w1, w2⟩⟩
  · rw [List.nil_append] at hLA hkA
    have M2 := M3.fr F2 (by decide)
    have z38 : S2 38 0 = ((aOf ss 0).length : Int) := (M2.2.2.2 0 _ (of_get (by omega))).2.1
    have z38' : S2 38 (((0 : Nat) : Int)).toNat = ((aOf ss 0).length : Int) := z38
    have q4 : ¬ ¬ ((aOf ss 0).length : Int) = ((aOf ss 0).length : Int) := fun h => h rfl
    refine ⟨1, S2, am_cI_of (st.trans (e2.trans ?_)), F3.tr F2, Or.inr ⟨rfl, b, hLA, hkA, hso, by unfold upw; rw [List.length_map]; omega⟩⟩
    have q1 : ¬ ((0 : Nat) : Int) < 0 := by decide
    have q0 : ((0 : Nat) : Int) = 0 := rfl
    have q5 : (-1 : Int) < 0 := by decide
    have q6 : u - 0 = u := by omega
    (try dsimp only); rw [B_md_goesThrough_28]; (try simp (disch := omega) only [Option.bind_some, if_true, if_false, eq_self, not_true_eq_false, not_false_eq_true, am_w_id, if_pos, if_neg, fu_self, fu_ne, Int.toNat_natCast, q1, x45, x46, z38, q4]); rw [B_md_goesThrough_32]; (try simp (disch := omega) only [Option.bind_some, if_true, if_false, eq_self, not_true_eq_false, not_false_eq_true, am_w_id, if_pos, if_neg, fu_self, fu_ne, Int.toNat_natCast, m_gR_45, m_l_45, m_s_45, m_gR_46, m_l_46, m_s_46, m_gR_38, m_l_38, m_s_38, q1, x45, x46, z38, q4])
    rw [q0, md_gtEnd]
    (try dsimp only); rw [B_md_goesThrough_62]; (try simp (disch := omega) only [Option.bind_some, if_true, if_false, eq_self, not_true_eq_false, not_false_eq_true, am_w_id, if_pos, if_neg, fu_self, fu_ne, Int.toNat_natCast, q6, q5]); rw [B_md_goesThrough_91]; (try simp (disch := omega) only [Option.bind_some, if_true, if_false, eq_self, not_true_eq_false, not_false_eq_true, am_w_id, if_pos, if_neg, fu_self, fu_ne, Int.toNat_natCast, q6, q5]); rw [B_md_goesThrough_28]; (try simp (disch := omega) only [Option.bind_some, if_true, if_false, eq_self, not_true_eq_false, not_false_eq_true, am_w_id, if_pos, if_neg, fu_self, fu_ne, Int.toNat_natCast, q6, q5]); rw [B_md_goesThrough_239]; (try simp (disch := omega) only [Option.bind_some, if_true, if_false, eq_self, not_true_eq_false, not_false_eq_true, am_w_id, if_pos, if_neg, fu_self, fu_ne, Int.toNat_natCast, q6, q5])
end MO
