/-! the Book: entering, comparing, who is better -/
theorem b_enter {h : am_H} {a n : Nat} {W N : Nat → Int} (H : bkr h a n W N) (hs : srt n W) (d : Nat) (y x : Int) {r : Nat} (hr : isAh n W y r) :
    ∃ h', am_cV (d + 1) N_bk_enter [.inr (.inr (some a)), .inr (.inl y), .inl x] h = some h' ∧ am_fr a (a + 3) h h' ∧
      (if r < n ∧ W r = y then bkr h' a n (am_fu W r y) (am_fu N r x) else if n < 100 then bkr h' a (n + 1) (am_fu (va_cpy W W r (r + 1) (n - r)) r y) (am_fu (va_cpy N N r (r + 1) (n - r)) r x) else h' = h) := by
  obtain ⟨q, e1, e2⟩ := b_ahead H hs d y
  obtain rfl := hr.uniq e2
  obtain ⟨h1, h2, h3, h4⟩ := H
  -- the store behind all
  have fin : ∀ (g : am_H) (m : Nat) (V M : Nat → Int) (x5 : Int), g.2 a = .inr (0, [.inr (.inr (some (a + 1))), .inr (.inr (some (a + 2))), .inl (m : Int)]) → g.2 (a + 1) = .inl (1, 100, .inr (.inl V)) → g.2 (a + 2) = .inl (0, 100, .inl M) → r < m → m ≤ 100 →
      ∃ h', EV (d + 1) N_bk_enter T_bk_enter_113 [.inr (.inr (some a)), .inr (.inl y), am_nul, .inl x, .inl (r : Int), .inl x5] [] g = some (none, h') ∧ am_fr a (a + 3) g h' ∧ bkr h' a m (am_fu V r y) (am_fu M r x) := by
    intro g m V M x5 g1 g2 g3 hm hm2
    rw [B_bk_enter_113, rd_gR g1 rfl, Option.bind_some, rd_sL g2 (by omega) (by omega), Option.bind_some]
    rw [rd_gR (a := a) (ci := 0) (fs := [.inr (.inr (some (a + 1))), .inr (.inr (some (a + 2))), .inl (m : Int)]) (by rw [up_ne (by omega)]; exact g1) rfl, Option.bind_some]
    rw [rd_sI (a := a + 2) (n := 100) (f := M) (by rw [up_ne (by omega)]; exact g3) (by omega) (by omega), Option.bind_some, Int.toNat_natCast]
    refine ⟨_, rfl, (am_fr.up (by omega) (by omega)).tr (am_fr.up (by omega) (by omega)), ?_, ?_, ?_, hm2⟩
    · rw [up_ne (by omega), up_ne (by omega)]; exact g1
    · rw [up_ne (by omega), up_self]
    · rw [up_self]
  by_cases c1 : r < n ∧ W r = y
  · obtain ⟨h', f1, f2, f3⟩ := fin h n W N 0 h1 h2 h3 c1.1 h4
    refine ⟨h', am_cV_of ?_, f2, by rw [if_pos c1]; exact f3⟩
    rw [en_bk_enter, B_bk_enter_0, if_pos (rd_O h1), e1, Option.bind_some]
    dsimp only
    rw [rd_gI h1 rfl, Option.bind_some, if_neg (by omega), B_bk_enter_16, rd_gR h1 rfl, Option.bind_some, rd_lL h2 (by omega) (by omega), Option.bind_some, Int.toNat_natCast, if_pos (lc_eq.mpr c1.2), B_bk_enter_32, B_bk_enter_33, if_pos rfl, B_bk_enter_50, if_pos rfl]
    exact f1
  · simp only [if_neg c1]
    have hnew : am_call (d + 1) N_bk_enter [.inr (.inr (some a)), .inr (.inl y), .inl x] h = EV (d + 1) N_bk_enter T_bk_enter_40 [.inr (.inr (some a)), .inr (.inl y), am_nul, .inl x, .inl (r : Int), .inl 1] [] h := by
      rw [en_bk_enter, B_bk_enter_0, if_pos (rd_O h1), e1, Option.bind_some]
      dsimp only
      rw [rd_gI h1 rfl, Option.bind_some]
      by_cases c2 : (n : Int) ≤ r
      · rw [if_pos c2, B_bk_enter_28, B_bk_enter_33, if_neg (by decide)]
      · rw [if_neg c2, B_bk_enter_16, rd_gR h1 rfl, Option.bind_some, rd_lL h2 (by omega) (by omega), Option.bind_some, Int.toNat_natCast, if_neg (fun g => c1 ⟨by omega, lc_eq.mp g⟩), B_bk_enter_28, B_bk_enter_33, if_neg (by decide)]
    rw [B_bk_enter_40, rd_gI h1 rfl, Option.bind_some] at hnew
    by_cases c3 : n < 100
    · have hrn := hr.1
      simp only [if_pos c3]
      rw [if_pos (by omega), B_bk_enter_50, if_neg (by decide), B_bk_enter_55] at hnew
      rw [rd_gR h1 rfl, Option.bind_some, Option.bind_some, rd_gI h1 rfl, Option.bind_some] at hnew
      have er : am_w ((r : Int) + 1) = ((r + 1 : Nat) : Int) := by rw [am_w_id (by omega) (by omega)]; omega
      have ed : am_w ((n : Int) - r) = ((n - r : Nat) : Int) := by rw [am_w_id (by omega) (by omega)]; omega
      have en : am_w ((n : Int) + 1) = ((n + 1 : Nat) : Int) := by rw [am_w_id (by omega) (by omega)]; omega
      rw [er, ed, rd_cpL (a0 := a + 1) (a := a + 1) (n0 := 100) (n1 := 100) (f := W) (g := W) h2 h2 (by omega) (by omega) (by omega) (by omega) (by omega), Option.bind_some] at hnew
      rw [rd_gR (a := a) (ci := 0) (fs := [.inr (.inr (some (a + 1))), .inr (.inr (some (a + 2))), .inl (n : Int)]) (by rw [up_ne (by omega)]; exact h1) rfl, Option.bind_some, Option.bind_some] at hnew
      rw [rd_gI (a := a) (ci := 0) (fs := [.inr (.inr (some (a + 1))), .inr (.inr (some (a + 2))), .inl (n : Int)]) (by rw [up_ne (by omega)]; exact h1) rfl, Option.bind_some, ed] at hnew
      rw [rd_cpI (a0 := a + 2) (a := a + 2) (n0 := 100) (n1 := 100) (f := N) (g := N) (by rw [up_ne (by omega)]; exact h3) (by rw [up_ne (by omega)]; exact h3) (by omega) (by omega) (by omega) (by omega) (by omega), Option.bind_some] at hnew
      rw [rd_gI (a := a) (ci := 0) (fs := [.inr (.inr (some (a + 1))), .inr (.inr (some (a + 2))), .inl (n : Int)]) (by rw [up_ne (by omega), up_ne (by omega)]; exact h1) rfl, Option.bind_some] at hnew
      rw [rd_p (a := a) (ci := 0) (fs := [.inr (.inr (some (a + 1))), .inr (.inr (some (a + 2))), .inl (n : Int)]) (by rw [up_ne (by omega), up_ne (by omega)]; exact h1) (Nat.le_of_ble_eq_true rfl), Option.bind_some, en] at hnew
      simp only [Int.toNat_natCast] at hnew
      obtain ⟨h', f1, f2, f3⟩ := fin (am_up (am_up (am_up h (a + 1) (.inl (1, 100, .inr (.inl (va_cpy W W r (r + 1) (n - r)))))) (a + 2) (.inl (0, 100, .inl (va_cpy N N r (r + 1) (n - r))))) a (.inr (0, [.inr (.inr (some (a + 1))), .inr (.inr (some (a + 2))), .inl (n : Int)].set 2 (.inl ((n + 1 : Nat) : Int))))) (n + 1) (va_cpy W W r (r + 1) (n - r)) (va_cpy N N r (r + 1) (n - r)) 1 (by rw [up_self]; rfl) (by rw [up_ne (by omega), up_ne (by omega), up_self]) (by rw [up_ne (by omega), up_self]) (by omega) (by omega)
      rw [f1] at hnew
      exact ⟨h', am_cV_of hnew, ((am_fr.up (by omega) (by omega)).tr ((am_fr.up (by omega) (by omega)).tr (am_fr.up (by omega) (by omega)))).tr f2, f3⟩
    · simp only [if_neg c3]
      rw [if_neg (by omega), B_bk_enter_49] at hnew
      exact ⟨h, am_cV_of hnew, am_fr.rf, rfl⟩
theorem b_isLike {h : am_H} {a o n m : Nat} {W N V M : Nat → Int} (H : bkr h a n W N) (G : bkr h o m V M) (d : Nat) :
    ∃ r : Int, am_cI d N_bk_isLike [.inr (.inr (some a)), .inr (.inr (some o))] h = some (r, h) ∧ ((r = 1 ∧ n = m ∧ ∀ i, i < n → W i = V i ∧ N i = M i) ∨ (r = 0 ∧ ¬ (n = m ∧ ∀ i, i < n → W i = V i ∧ N i = M i))) := by
  obtain ⟨h1, h2, h3, h4⟩ := H
  obtain ⟨g1, g2, g3, g4⟩ := G
  have key : ∃ r : Int, am_call d N_bk_isLike [.inr (.inr (some a)), .inr (.inr (some o))] h = some (some (.inl r), h) ∧ ((r = 1 ∧ n = m ∧ ∀ i, i < n → W i = V i ∧ N i = M i) ∨ (r = 0 ∧ ¬ (n = m ∧ ∀ i, i < n → W i = V i ∧ N i = M i))) := by
    rw [en_bk_isLike, B_bk_isLike_0, rd_gI h1 rfl, Option.bind_some, rd_gI g1 rfl, Option.bind_some]
    by_cases c : n = m
    · rw [if_pos (by omega), B_bk_isLike_13]
      refine am_loop (S := Nat) (F := fun k => EV d N_bk_isLike T_bk_isLike_15 [.inr (.inr (some a)), .inr (.inr (some o)), .inl (k : Int)] [] h) (I := fun k => k ≤ n ∧ ∀ i, i < k → W i = V i ∧ N i = M i) (R := fun p => ∃ r : Int, p = some (some (.inl r), h) ∧ ((r = 1 ∧ n = m ∧ ∀ i, i < n → W i = V i ∧ N i = M i) ∨ (r = 0 ∧ ¬ (n = m ∧ ∀ i, i < n → W i = V i ∧ N i = M i)))) (fun k => n - k) ?_ 0 ⟨Nat.zero_le _, fun i hi => by omega⟩
      rintro k ⟨p1, p2⟩
      rw [B_bk_isLike_15, rd_gI h1 rfl, Option.bind_some]
      by_cases c1 : (n : Int) ≤ k
      · left
        rw [if_pos c1, B_bk_isLike_62]
        exact ⟨1, rfl, Or.inl ⟨rfl, c, fun i hi => p2 i (by omega)⟩⟩
      · rw [if_neg c1, B_bk_isLike_23, rd_gR h1 rfl, Option.bind_some, rd_lL h2 (by omega) (by omega), Option.bind_some, rd_gR g1 rfl, Option.bind_some, rd_lL g2 (by omega) (by omega), Option.bind_some, Int.toNat_natCast]
        by_cases c2 : W k = V k
        · rw [if_neg (fun g => g (lc_eq.mpr c2)), B_bk_isLike_39, rd_gR h1 rfl, Option.bind_some, rd_lI h3 (by omega) (by omega), Option.bind_some, rd_gR g1 rfl, Option.bind_some, rd_lI g3 (by omega) (by omega), Option.bind_some, Int.toNat_natCast]
          by_cases c3 : N k = M k
          · right
            rw [if_pos c3, B_bk_isLike_56, am_w_id (by omega) (by omega)]
            refine ⟨k + 1, ⟨by omega, fun i hi => ?_⟩, by omega, rfl⟩
            by_cases e : i = k
            · rw [e]; exact ⟨c2, c3⟩
            · exact p2 i (by omega)
          · left
            rw [if_neg c3, B_bk_isLike_54]
            exact ⟨0, rfl, Or.inr ⟨rfl, fun g => c3 (g.2 k (by omega)).2⟩⟩
        · left
          rw [if_pos (fun g => c2 (lc_eq.mp g)), B_bk_isLike_54]
          exact ⟨0, rfl, Or.inr ⟨rfl, fun g => c2 (g.2 k (by omega)).1⟩⟩
    · rw [if_neg (by omega), B_bk_isLike_11]
      exact ⟨0, rfl, Or.inr ⟨rfl, fun g => c g.1⟩⟩
  obtain ⟨r, e, hr⟩ := key
  exact ⟨r, am_cI_of e, hr⟩
/-- is the word of a place better than the one of another: a greater NUMBER, or a like one and ahead -/
def btr (N : Nat → Int) (p i : Nat) : Bool := decide (N p < N i) || (decide (N i = N p) && decide (i < p))
theorem b_betterThan {h : am_H} {a n : Nat} {W N : Nat → Int} (H : bkr h a n W N) (d : Nat) {p x y : Nat} (hp : p < n) (hx : x ≤ 100) (hy : y ≤ n) :
    am_cI d N_bk_betterThan [.inr (.inr (some a)), .inl (p : Int), .inl (x : Int), .inl (y : Int)] h = some (fi (fun s i => if btr N p i = true then s + 1 else s) x (y - x) 0, h) := by
  obtain ⟨h1, h2, h3, h4⟩ := H
  apply am_cI_of
  rw [en_bk_betterThan, B_bk_betterThan_0]
  refine am_loop (S := Nat × Int) (F := fun s => EV d N_bk_betterThan T_bk_betterThan_6 [.inr (.inr (some a)), .inl (p : Int), .inl (x : Int), .inl (y : Int), .inl s.2, .inl (s.1 : Int)] [] h) (I := fun s => s.1 ≤ 100 ∧ 0 ≤ s.2 ∧ s.2 ≤ s.1 ∧ fi (fun s i => if btr N p i = true then s + 1 else s) s.1 (y - s.1) s.2 = fi (fun s i => if btr N p i = true then s + 1 else s) x (y - x) 0)
    (R := fun o => o = some (some (.inl (fi (fun s i => if btr N p i = true then s + 1 else s) x (y - x) 0)), h)) (fun s => 100 - s.1) ?_ (x, 0) ⟨hx, Int.le_refl _, by dsimp only; omega, rfl⟩
  rintro ⟨k, s⟩ ⟨p1, p2, p3, p4⟩
  dsimp only at p1 p2 p3 p4 ⊢
  rw [B_bk_betterThan_6]
  by_cases c : (y : Int) ≤ k
  · left
    rw [if_pos c, B_bk_betterThan_59, ← p4, fi_end (by omega)]
  · right
    rw [if_neg c, B_bk_betterThan_12, rd_gR h1 rfl, Option.bind_some, rd_lI h3 (by omega) (by omega), Option.bind_some, Option.bind_some, rd_lI h3 (by omega) (by omega), Option.bind_some, Int.toNat_natCast, Int.toNat_natCast]
    rw [fi_step (a := k) (by omega)] at p4
    have yes : btr N p k = true → EV d N_bk_betterThan T_bk_betterThan_50 [.inr (.inr (some a)), .inl (p : Int), .inl (x : Int), .inl (y : Int), .inl s, .inl (k : Int)] [] h = EV d N_bk_betterThan T_bk_betterThan_6 [.inr (.inr (some a)), .inl (p : Int), .inl (x : Int), .inl (y : Int), .inl (s + 1), .inl ((k : Int) + 1)] [] h := fun _ => by
      rw [B_bk_betterThan_50, B_bk_betterThan_53, am_w_id (x := s + 1) (by omega) (by omega), am_w_id (x := (k : Int) + 1) (by omega) (by omega)]
    have no : EV d N_bk_betterThan T_bk_betterThan_53 [.inr (.inr (some a)), .inl (p : Int), .inl (x : Int), .inl (y : Int), .inl s, .inl (k : Int)] [] h = EV d N_bk_betterThan T_bk_betterThan_6 [.inr (.inr (some a)), .inl (p : Int), .inl (x : Int), .inl (y : Int), .inl s, .inl ((k : Int) + 1)] [] h := by
      rw [B_bk_betterThan_53, am_w_id (x := (k : Int) + 1) (by omega) (by omega)]
    by_cases c1 : btr N p k = true
    · rw [if_pos c1] at p4
      refine ⟨(k + 1, s + 1), ⟨by dsimp only; omega, by dsimp only; omega, by dsimp only; omega, p4⟩, by dsimp only; omega, ?_⟩
      refine Eq.trans ?_ (yes c1)
      by_cases c2 : N p < N k
      · rw [if_pos c2]
      · rw [if_neg c2, B_bk_betterThan_28, rd_gR h1 rfl, Option.bind_some, rd_lI h3 (by omega) (by omega), Option.bind_some, Option.bind_some, rd_lI h3 (by omega) (by omega), Option.bind_some, Int.toNat_natCast, Int.toNat_natCast]
        simp only [btr, Bool.or_eq_true, Bool.and_eq_true, decide_eq_true_eq, c2, false_or] at c1
        rw [if_neg (by omega), B_bk_betterThan_44, if_neg (by omega)]
    · rw [if_neg c1] at p4
      refine ⟨(k + 1, s), ⟨by dsimp only; omega, p2, by dsimp only; omega, p4⟩, by dsimp only; omega, ?_⟩
      refine Eq.trans ?_ no
      simp only [btr, Bool.or_eq_true, Bool.and_eq_true, decide_eq_true_eq, not_or, not_and] at c1
      rw [if_neg c1.1, B_bk_betterThan_28, rd_gR h1 rfl, Option.bind_some, rd_lI h3 (by omega) (by omega), Option.bind_some, Option.bind_some, rd_lI h3 (by omega) (by omega), Option.bind_some, Int.toNat_natCast, Int.toNat_natCast]
      by_cases c3 : N k = N p
      · rw [if_neg (by omega), B_bk_betterThan_44, if_pos (by have := c1.2 c3; omega)]
      · rw [if_pos c3]
