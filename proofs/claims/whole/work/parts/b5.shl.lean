/-! what is made: the shelves -/
theorem i_sh {t : am_H} {A c : Nat} {f : Nat → Option Nat} (c0 : t.2 A = nwO A 0 1 1) (n0 : t.1 = (A + 135, c)) (f0 : t.2 (A + 12) = .inl (4, 3, .inr (.inr f))) (d : Nat) :
    ∃ h', EV (d + 1) N_nw_init T_nw_init_176 [.inr (.inr (some (A))), .inl (0)] [] t = some (none, h') ∧ h'.1 = (A + 144, c + 609) ∧ (∀ q, q ≠ A + 12 → (q < A + 135 ∨ A + 144 ≤ q) → h'.2 q = t.2 q) ∧ (∃ f : Nat → Option Nat, h'.2 (A + 12) = .inl (4, 3, .inr (.inr f)) ∧ ∀ k, k < 3 → f k = some (A + 135 + 3 * k)) ∧ ∀ k, k < 3 → bkR h' (A + 135 + 3 * k) [] := by
  have key : ∀ (m i : Nat) (g : am_H) (f : Nat → Option Nat), i + m = 3 → g.1 = (A + 135 + 3 * i, c + 203 * i) → (∀ q, q ≠ A + 12 → (q < A + 135 ∨ A + 144 ≤ q) → g.2 q = t.2 q) → g.2 (A + 12) = .inl (4, 3, .inr (.inr f)) → (∀ k, k < i → f k = some (A + 135 + 3 * k) ∧ bkR g (A + 135 + 3 * k) []) →
      ∃ h', EV (d + 1) N_nw_init T_nw_init_176 [.inr (.inr (some (A))), .inl ((i : Int))] [] g = some (none, h') ∧ h'.1 = (A + 144, c + 609) ∧ (∀ q, q ≠ A + 12 → (q < A + 135 ∨ A + 144 ≤ q) → h'.2 q = t.2 q) ∧ (∃ f : Nat → Option Nat, h'.2 (A + 12) = .inl (4, 3, .inr (.inr f)) ∧ ∀ k, k < 3 → f k = some (A + 135 + 3 * k)) ∧ ∀ k, k < 3 → bkR h' (A + 135 + 3 * k) [] := by
    intro m
    induction m with
    | zero =>
      intro i g f hi g1 F q1 q3
      have ei : i = 3 := by omega
      subst ei
      refine ⟨g, ?_, g1, F, ⟨f, q1, fun k hk => (q3 k hk).1⟩, fun k hk => (q3 k hk).2⟩
      rw [B_nw_init_176, if_pos (by omega), B_nw_init_200]
    | succ m ih =>
      intro i g f hi g1 F q1 q3
      have hp : g.1.1 = A + 135 + 3 * i := by rw [g1]
      have gA : g.2 A = nwO A 0 1 1 := (F A (by omega) (by omega)).trans c0
      have gR : am_gR g A 9 4 = some (A + 12) := rd_gR gA rfl
      obtain ⟨p1, p2⟩ := push_at (e := .inr (0, am_df 0)) g1
      obtain ⟨g2, s1, s2, s3, s4⟩ := i_bk p1 p2 d
      have N2 : nfr (A + 135 + 3 * i) (A + 138 + 3 * i) g g2 := ((nfr.push (e := .inr (0, am_df 0)) g1).wide (by omega) (by omega)).tr (s3.wide (by omega) (by omega))
      obtain ⟨fs, hb2⟩ : ∃ fs, g2.2 (A + 135 + 3 * i) = .inr (0, fs) := by
        obtain ⟨W, N, w, _⟩ := s4
        exact ⟨_, w.1⟩
      have e3 := rd_sR (i := (i : Int)) ((N2 (A + 12) (by omega)).trans q1) hb2 (by omega) (by omega)
      obtain ⟨g3, eg3⟩ : ∃ g3, g3 = am_up g2 (A + 12) (.inl (4, 3, .inr (.inr (am_fu f (i : Int).toNat (some (A + 135 + 3 * i)))))) := ⟨_, rfl⟩
      rw [← eg3] at e3
      have u3 : ∀ q, q ≠ A + 12 → g3.2 q = g2.2 q := fun q hq => by rw [eg3]; exact up_ne hq
      have n3 : g3.1 = (A + 135 + 3 * (i + 1), c + 203 * (i + 1)) := by
        rw [eg3, up_1, s2]
        show (A + 135 + 3 * i + 3, c + 203 * i + 3 + 200) = _
        exact Prod.ext (by dsimp only <;> omega) (by dsimp only <;> omega)
      obtain ⟨h', r, rr⟩ := ih (i + 1) g3 (am_fu f (i : Int).toNat (some (A + 135 + 3 * i))) (by omega) n3 (fun q z hq => ((u3 q z).trans (N2 q (by omega))).trans (F q z hq)) (by rw [eg3]; exact up_self) (fun k hk => by
        rw [Int.toNat_natCast]
        by_cases ck : k = i
        · rw [ck, fu_self]
          obtain ⟨W, N, ⟨w1, w2, w3, w4⟩, w5⟩ := s4
          exact ⟨rfl, W, N, ⟨(u3 _ (by omega)).trans w1, (u3 _ (by omega)).trans w2, (u3 _ (by omega)).trans w3, w4⟩, w5⟩
        · rw [fu_ne ck]
          obtain ⟨z1, W, N, ⟨w1, w2, w3, w4⟩, w5⟩ := q3 k (by omega)
          exact ⟨z1, W, N, ⟨((u3 _ (by omega)).trans (N2 _ (by omega))).trans w1, ((u3 _ (by omega)).trans (N2 _ (by omega))).trans w2, ((u3 _ (by omega)).trans (N2 _ (by omega))).trans w3, w4⟩, w5⟩)
      refine ⟨h', Eq.trans ?_ r, rr⟩
      rw [B_nw_init_176, if_neg (by omega), B_nw_init_181, gR, Option.bind_some, hp, s1, Option.bind_some, e3, Option.bind_some, am_w_id (by omega) (by omega)]
      rfl
  obtain ⟨h', z⟩ := key 3 0 t f rfl n0 (fun q _ _ => rfl) f0 (fun k hk => absurd hk (Nat.not_lt_zero k))
  exact ⟨h', z⟩
