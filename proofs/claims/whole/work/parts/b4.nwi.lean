/-! what is made: the history, the class -/
theorem rd_sR {h : am_H} {a q n : Nat} {f : Nat → Option Nat} {fs : List am_V} {i : Int} (h1 : h.2 a = .inl (4, n, .inr (.inr f))) (h2 : h.2 q = .inr (0, fs)) (h3 : 0 ≤ i) (h4 : i < n) : am_sR h a i q = some (am_up h a (.inl (4, n, .inr (.inr (am_fu f i.toNat (some q)))))) := by
  unfold am_sR
  rw [h1, h2]
  exact if_pos ⟨rfl, rfl, h3, h4⟩
/-- cells behind A and ahead of P, but one, are as they were -/
def blw (A P : Nat) (h h' : am_H) : Prop := ∀ q, A < q → q ≠ A + 12 → q < P → h'.2 q = h.2 q
theorem blw.tr {A P P' : Nat} {h h' h2 : am_H} (a : blw A P h h') (b : blw A P' h' h2) (hP : P ≤ P') : blw A P h h2 := fun q h1 h3 h4 => (b q h1 h3 (by omega)).trans (a q h1 h3 h4)
section BLW
variable {A P : Nat} {h h' : am_H}
theorem tp_bl {a : Nat} {t : List Int} (T : tp_at h a t) (B : blw A P h h') (h1 : A < a) (h2 : a + 2 ≤ P) (h3 : a + 2 ≤ A + 12 ∨ A + 13 ≤ a) : tp_at h' a t := by
  obtain ⟨a1, a2, a3, W, a4, a5⟩ := T
  exact ⟨(B _ (by omega) (by omega) (by omega)).trans a1, a2, a3, W, (B _ (by omega) (by omega) (by omega)).trans a4, a5⟩
theorem bk_bl {a : Nat} {ws : List wd} (T : bkR h a ws) (B : blw A P h h') (h1 : A < a) (h2 : a + 3 ≤ P) (h3 : a + 3 ≤ A + 12 ∨ A + 13 ≤ a) : bkR h' a ws := by
  obtain ⟨W, N, ⟨a1, a2, a3, a4⟩, a5⟩ := T
  exact ⟨W, N, ⟨(B _ (by omega) (by omega) (by omega)).trans a1, (B _ (by omega) (by omega) (by omega)).trans a2, (B _ (by omega) (by omega) (by omega)).trans a3, a4⟩, a5⟩
theorem hi_bl {hs : List (List wd × List wd)} (T : hiR h (A + 13) hs) (B : blw A P h h') (h2 : A + 88 ≤ P) : hiR h' (A + 13) hs := by
  obtain ⟨o, fW, fB, a1, a2, a3, a4, a5, a6, a7, a8⟩ := T
  refine ⟨o, fW, fB, (B _ (by omega) (by omega) (by omega)).trans a1, a2, a3, (B _ (by omega) (by omega) (by omega)).trans a4, (B _ (by omega) (by omega) (by omega)).trans a5, a6, fun i hi => ?_, fun k p hp => ?_⟩
  · obtain ⟨⟨n1, W1, N1, b1, b2, b3, b4⟩, n2, W2, N2, c1, c2, c3, c4⟩ := a7 i hi
    exact ⟨⟨n1, W1, N1, (B _ (by omega) (by omega) (by omega)).trans b1, (B _ (by omega) (by omega) (by omega)).trans b2, (B _ (by omega) (by omega) (by omega)).trans b3, b4⟩, n2, W2, N2, (B _ (by omega) (by omega) (by omega)).trans c1, (B _ (by omega) (by omega) (by omega)).trans c2, (B _ (by omega) (by omega) (by omega)).trans c3, c4⟩
  · have hm : (o + k) % 12 < 12 := Nat.mod_lt _ (by decide)
    exact ⟨bk_bl (a8 k p hp).1 B (by omega) (by omega) (by omega), bk_bl (a8 k p hp).2 B (by omega) (by omega) (by omega)⟩
theorem xH_bl {O : (Nat → Nat → Int) → am_E} {C : List (Nat × (Nat × Nat))} {q : Nat} {S : Nat → Nat → Int} (H : xH O C q h S = h) (B : blw A P h h') (h1 : A + 13 ≤ q) (h2 : q + (C.length + 1) ≤ P) : xH O C q h' S = h' := by
  have e := fun c => congrFun (congrArg Prod.snd H) c
  refine xH_mk ?_ (fun i hi => ?_)
  · rw [B q (by omega) (by omega) (by omega), ← e q]
    exact xH_m
  · rw [B (q + (i + 1)) (by omega) (by omega) (by omega), ← e (q + (i + 1))]
    exact xH_c hi
end BLW
section INI
variable {h : am_H} {A c : Nat}
theorem i_hi (ho : h.2 (A + 13) = .inr (2, am_df 2)) (h1 : h.1 = (A + 14, c)) (d : Nat) : ∃ h', am_cV (d + 1) N_hi_init [.inr (.inr (some (A + 13)))] h = some h' ∧ h'.1 = (A + 88, c + 4896) ∧ nfr (A + 13) (A + 88) h h' ∧ hiR h' (A + 13) [] := by
  obtain ⟨g, r1, r2, r3, r4, r5⟩ := iniK_ok (A + 13) 2 (fun h => EV (d + 1) N_hi_init T_hi_init_24 [.inr (.inr (some (A + 13))), .inl (((0 : Nat) : Int))] [] h) [(0, 4, 12), (1, 4, 12)] h (am_df 2) (A + 14) c ho h1 (by omega) (by decide)
  have st : am_call (d + 1) N_hi_init [.inr (.inr (some (A + 13)))] h = EV (d + 1) N_hi_init T_hi_init_24 [.inr (.inr (some (A + 13))), .inl (((0 : Nat) : Int))] [] g := by
    rw [en_hi_init, B_hi_init_0]
    exact r1
  have key : ∀ (m i : Nat) (g : am_H) (fW fB : Nat → Option Nat), i + m = 12 → g.1 = (A + 16 + 6 * i, c + 24 + 406 * i) → nfr (A + 13) (A + 88) h g → g.2 (A + 13) = .inr (2, [.inr (.inr (some (A + 14))), .inr (.inr (some (A + 15))), .inl (0), .inl (0)]) → g.2 (A + 14) = .inl (4, 12, .inr (.inr fW)) → g.2 (A + 15) = .inl (4, 12, .inr (.inr fB)) →
      (∀ k, k < i → (fW k = some (A + 16 + 6 * k) ∧ fB k = some (A + 19 + 6 * k)) ∧ bkR g (A + 16 + 6 * k) [] ∧ bkR g (A + 19 + 6 * k) []) →
      ∃ h', EV (d + 1) N_hi_init T_hi_init_24 [.inr (.inr (some (A + 13))), .inl ((i : Int))] [] g = some (none, h') ∧ h'.1 = (A + 88, c + 4896) ∧ nfr (A + 13) (A + 88) h h' ∧ hiR h' (A + 13) [] := by
    intro m
    induction m with
    | zero =>
      intro i g fW fB hi g1 F q0 q1 q2 q3
      have ei : i = 12 := by omega
      subst ei
      refine ⟨g, ?_, g1, F, 0, fW, fB, q0, by decide, by decide, q1, q2, fun k hk => ?_, fun k hk => ⟨(q3 k hk).2.1.w, (q3 k hk).2.2.w⟩, fun k p hp => by simp at hp⟩
      · rw [B_hi_init_24, if_pos (by omega), B_hi_init_62]
      · exact (q3 k hk).1
    | succ m ih =>
      intro i g fW fB hi g1 F q0 q1 q2 q3
      have hp : g.1.1 = A + 16 + 6 * i := by rw [g1]
      have gR : am_gR g (A + 13) 2 0 = some (A + 14) := rd_gR q0 rfl
      obtain ⟨p1, p2⟩ := push_at (e := .inr (0, am_df 0)) g1
      obtain ⟨g2, s1, s2, s3, s4⟩ := i_bk p1 p2 d
      have N2 : nfr (A + 16 + 6 * i) (A + 19 + 6 * i) g g2 := ((nfr.push (e := .inr (0, am_df 0)) g1).wide (by omega) (by omega)).tr (s3.wide (by omega) (by omega))
      have hb2 : ∃ fs, g2.2 (A + 16 + 6 * i) = .inr (0, fs) := by
        obtain ⟨W, N, w, _⟩ := s4
        exact ⟨_, w.1⟩
      obtain ⟨fs, hb2⟩ := hb2
      have e3 := rd_sR (i := (i : Int)) ((N2 (A + 14) (by omega)).trans q1) hb2 (by omega) (by omega)
      obtain ⟨g3, eg3⟩ : ∃ g3, g3 = am_up g2 (A + 14) (.inl (4, 12, .inr (.inr (am_fu fW (i : Int).toNat (some (A + 16 + 6 * i)))))) := ⟨_, rfl⟩
      rw [← eg3] at e3
      have n3 : g3.1 = (A + 19 + 6 * i, c + 24 + 406 * i + 203) := by
        rw [eg3, up_1, s2]
        show (A + 16 + 6 * i + 3, c + 24 + 406 * i + 3 + 200) = _
        exact Prod.ext (by dsimp only <;> omega) (by dsimp only <;> omega)
      have u3 : ∀ q, q ≠ A + 14 → g3.2 q = g2.2 q := fun q hq => by rw [eg3]; exact up_ne hq
      have gR3 : am_gR g3 (A + 13) 2 1 = some (A + 15) := rd_gR (((u3 _ (by omega)).trans (N2 _ (by omega))).trans q0) rfl
      have hp3 : g3.1.1 = A + 19 + 6 * i := by rw [n3]
      obtain ⟨p3, p4⟩ := push_at (e := .inr (0, am_df 0)) n3
      obtain ⟨g4, t1, t2, t3, t4⟩ := i_bk p3 p4 d
      have N4 : nfr (A + 19 + 6 * i) (A + 22 + 6 * i) g3 g4 := ((nfr.push (e := .inr (0, am_df 0)) n3).wide (by omega) (by omega)).tr (t3.wide (by omega) (by omega))
      obtain ⟨fs4, hb4⟩ : ∃ fs, g4.2 (A + 19 + 6 * i) = .inr (0, fs) := by
        obtain ⟨W, N, w, _⟩ := t4
        exact ⟨_, w.1⟩
      have e5 := rd_sR (i := (i : Int)) ((((N4 (A + 15) (by omega)).trans (u3 _ (by omega))).trans (N2 (A + 15) (by omega))).trans q2) hb4 (by omega) (by omega)
      obtain ⟨g5, eg5⟩ : ∃ g5, g5 = am_up g4 (A + 15) (.inl (4, 12, .inr (.inr (am_fu fB (i : Int).toNat (some (A + 19 + 6 * i)))))) := ⟨_, rfl⟩
      rw [← eg5] at e5
      have u5 : ∀ q, q ≠ A + 15 → g5.2 q = g4.2 q := fun q hq => by rw [eg5]; exact up_ne hq
      have n5 : g5.1 = (A + 16 + 6 * (i + 1), c + 24 + 406 * (i + 1)) := by
        rw [eg5, up_1, t2]
        show (A + 19 + 6 * i + 3, c + 24 + 406 * i + 203 + 3 + 200) = _
        exact Prod.ext (by dsimp only <;> omega) (by dsimp only <;> omega)
      have all : ∀ q, q ≠ A + 14 → q ≠ A + 15 → (q < A + 16 + 6 * i ∨ A + 22 + 6 * i ≤ q) → g5.2 q = g.2 q := fun q z1 z2 z3 => (((u5 q z2).trans (N4 q (by omega))).trans (u3 q z1)).trans (N2 q (by omega))
      have mv : ∀ {b : Nat}, bkR g b [] → A + 16 ≤ b → b + 3 ≤ A + 16 + 6 * i → bkR g5 b [] := fun {b} w z1 z2 => by
        obtain ⟨W, N, ⟨w1, w2, w3, w4⟩, w5⟩ := w
        exact ⟨W, N, ⟨(all _ (by omega) (by omega) (by omega)).trans w1, (all _ (by omega) (by omega) (by omega)).trans w2, (all _ (by omega) (by omega) (by omega)).trans w3, w4⟩, w5⟩
      have b1 : bkR g5 (A + 16 + 6 * i) [] := by
        obtain ⟨W, N, ⟨w1, w2, w3, w4⟩, w5⟩ := s4
        have mv2 : ∀ q, A + 16 + 6 * i ≤ q → q < A + 19 + 6 * i → g5.2 q = g2.2 q := fun q z1 z2 => ((u5 q (by omega)).trans (N4 q (by omega))).trans (u3 q (by omega))
        exact ⟨W, N, ⟨(mv2 _ (by omega) (by omega)).trans w1, (mv2 _ (by omega) (by omega)).trans w2, (mv2 _ (by omega) (by omega)).trans w3, w4⟩, w5⟩
      have b2 : bkR g5 (A + 19 + 6 * i) [] := by
        obtain ⟨W, N, ⟨w1, w2, w3, w4⟩, w5⟩ := t4
        exact ⟨W, N, ⟨(u5 _ (by omega)).trans w1, (u5 _ (by omega)).trans w2, (u5 _ (by omega)).trans w3, w4⟩, w5⟩
      obtain ⟨h', r, rr⟩ := ih (i + 1) g5 (am_fu fW (i : Int).toNat (some (A + 16 + 6 * i))) (am_fu fB (i : Int).toNat (some (A + 19 + 6 * i))) (by omega) n5 (fun q hq => (all q (by omega) (by omega) (by omega)).trans (F q hq)) ((all _ (by omega) (by omega) (by omega)).trans q0) ((((u5 _ (by omega)).trans (N4 _ (by omega))).trans (by rw [eg3]; exact up_self))) (by rw [eg5]; exact up_self) (fun k hk => by
        rw [Int.toNat_natCast]
        by_cases ck : k = i
        · rw [ck, fu_self, fu_self]
          exact ⟨⟨rfl, rfl⟩, b1, b2⟩
        · rw [fu_ne ck, fu_ne ck]
          obtain ⟨z1, z2, z3⟩ := q3 k (by omega)
          exact ⟨z1, mv z2 (by omega) (by omega), mv z3 (by omega) (by omega)⟩)
      refine ⟨h', Eq.trans ?_ r, rr⟩
      rw [B_hi_init_24, if_neg (by omega), B_hi_init_30, gR, Option.bind_some, hp, s1, Option.bind_some, e3, Option.bind_some, gR3, Option.bind_some, hp3, t1, Option.bind_some, e5, Option.bind_some, am_w_id (by omega) (by omega)]
      rfl
  obtain ⟨h', e, z⟩ := key 12 0 g (fun _ => none) (fun _ => none) rfl r2 (fun q hq => r5 q (by omega) (by show q < A + 14 ∨ A + 14 + 2 ≤ q; omega)) r3 (r4 0 (by decide)) (r4 1 (by decide)) (fun k hk => absurd hk (Nat.not_lt_zero k))
  exact ⟨h', am_cV_of (st.trans e), z⟩
end INI
