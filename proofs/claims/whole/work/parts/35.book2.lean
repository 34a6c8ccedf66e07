/-! the Book: copies, entering, folds -/
/-- a fold over the places a, a + 1 .. (k of them) -/
def fi (g : Int → Nat → Int) : Nat → Nat → Int → Int
  | _, 0, acc => acc
  | a, k + 1, acc => fi g (a + 1) k (g acc a)
theorem cpy0 {α : Type} {f g : Nat → α} {m i : Nat} : va_cpy f g 0 0 m i = if i < m then f i else g i := by
  unfold va_cpy
  simp
theorem b_takeFrom {h : am_H} {a o n m : Nat} {W N V M : Nat → Int} (H : bkr h a n W N) (G : bkr h o m V M) (ap : a + 3 ≤ o ∨ o + 3 ≤ a) (d : Nat) :
    ∃ h', am_cV d N_bk_takeFrom [.inr (.inr (some a)), .inr (.inr (some o))] h = some h' ∧ bkr h' a m (va_cpy V W 0 0 m) (va_cpy M N 0 0 m) ∧ am_fr a (a + 3) h h' := by
  obtain ⟨h1, h2, h3, h4⟩ := H
  obtain ⟨g1, g2, g3, g4⟩ := G
  have e1 : am_cV d N_bk_takeFrom [.inr (.inr (some a)), .inr (.inr (some o))] h = some _ := am_cV_of (by
    rw [en_bk_takeFrom, B_bk_takeFrom_0, rd_gI g1 rfl, Option.bind_some, rd_p h1 (Nat.le_of_ble_eq_true rfl), Option.bind_some]
    rw [rd_gR (a := o) (ci := 0) (fs := [.inr (.inr (some (o + 1))), .inr (.inr (some (o + 2))), .inl (m : Int)]) (by rw [up_ne (by omega)]; exact g1) rfl, Option.bind_some]
    rw [rd_gR (a := a) (ci := 0) (fs := [.inr (.inr (some (a + 1))), .inr (.inr (some (a + 2))), .inl (m : Int)]) (by rw [up_self]; rfl) rfl, Option.bind_some]
    rw [rd_gI (a := a) (ci := 0) (fs := [.inr (.inr (some (a + 1))), .inr (.inr (some (a + 2))), .inl (m : Int)]) (by rw [up_self]; rfl) rfl, Option.bind_some]
    rw [rd_cpL (a0 := o + 1) (a := a + 1) (n0 := 100) (n1 := 100) (f := V) (g := W) (by rw [up_ne (by omega)]; exact g2) (by rw [up_ne (by omega)]; exact h2) (by omega) (by omega) (by omega) (by omega) (by omega), Option.bind_some]
    rw [rd_gR (a := o) (ci := 0) (fs := [.inr (.inr (some (o + 1))), .inr (.inr (some (o + 2))), .inl (m : Int)]) (by rw [up_ne (by omega), up_ne (by omega)]; exact g1) rfl, Option.bind_some]
    rw [rd_gR (a := a) (ci := 0) (fs := [.inr (.inr (some (a + 1))), .inr (.inr (some (a + 2))), .inl (m : Int)]) (by rw [up_ne (by omega), up_self]; rfl) rfl, Option.bind_some]
    rw [rd_gI (a := a) (ci := 0) (fs := [.inr (.inr (some (a + 1))), .inr (.inr (some (a + 2))), .inl (m : Int)]) (by rw [up_ne (by omega), up_self]; rfl) rfl, Option.bind_some]
    rw [rd_cpI (a0 := o + 2) (a := a + 2) (n0 := 100) (n1 := 100) (f := M) (g := N) (by rw [up_ne (by omega), up_ne (by omega)]; exact g3) (by rw [up_ne (by omega), up_ne (by omega)]; exact h3) (by omega) (by omega) (by omega) (by omega) (by omega), Option.bind_some])
  refine ⟨_, e1, ⟨?_, ?_, ?_, g4⟩, (am_fr.up (by omega) (by omega)).tr ((am_fr.up (by omega) (by omega)).tr (am_fr.up (by omega) (by omega)))⟩
  · rw [up_ne (by omega), up_ne (by omega), up_self]; rfl
  · rw [up_ne (by omega), up_self, Int.toNat_natCast]; rfl
  · rw [up_self, Int.toNat_natCast]; rfl
theorem b_removeAt {h : am_H} {a n : Nat} {W N : Nat → Int} (H : bkr h a n W N) (d : Nat) {k : Nat} (hk : k < n) :
    ∃ h', am_cV (d + 1) N_bk_removeAt [.inr (.inr (some a)), .inl (k : Int)] h = some h' ∧ bkr h' a (n - 1) (va_cpy W W (k + 1) k (n - 1 - k)) (va_cpy N N (k + 1) k (n - 1 - k)) ∧ am_fr a (a + 3) h h' := by
  have hh := b_has H d k
  rw [if_pos ⟨by omega, by omega⟩] at hh
  obtain ⟨h1, h2, h3, h4⟩ := H
  have en : am_w ((n : Int) - 1) = ((n - 1 : Nat) : Int) := by rw [am_w_id (by omega) (by omega)]; omega
  have ek : am_w ((k : Int) + 1) = ((k + 1 : Nat) : Int) := by rw [am_w_id (by omega) (by omega)]; omega
  have ed : am_w (((n - 1 : Nat) : Int) - k) = ((n - 1 - k : Nat) : Int) := by rw [am_w_id (by omega) (by omega)]; omega
  have e1 : am_cV (d + 1) N_bk_removeAt [.inr (.inr (some a)), .inl (k : Int)] h = some _ := am_cV_of (by
    rw [en_bk_removeAt, B_bk_removeAt_0, if_pos (rd_O h1), hh, Option.bind_some]
    dsimp only
    rw [if_pos (by decide), B_bk_removeAt_9, rd_gI h1 rfl, Option.bind_some, rd_p h1 (Nat.le_of_ble_eq_true rfl), Option.bind_some, en]
    rw [rd_gR (a := a) (ci := 0) (fs := [.inr (.inr (some (a + 1))), .inr (.inr (some (a + 2))), .inl ((n - 1 : Nat) : Int)]) (by rw [up_self]; rfl) rfl, Option.bind_some, Option.bind_some]
    rw [rd_gI (a := a) (ci := 0) (fs := [.inr (.inr (some (a + 1))), .inr (.inr (some (a + 2))), .inl ((n - 1 : Nat) : Int)]) (by rw [up_self]; rfl) rfl, Option.bind_some]
    rw [ek, ed]
    rw [rd_cpL (a0 := a + 1) (a := a + 1) (n0 := 100) (n1 := 100) (f := W) (g := W) (by rw [up_ne (by omega)]; exact h2) (by rw [up_ne (by omega)]; exact h2) (by omega) (by omega) (by omega) (by omega) (by omega), Option.bind_some]
    rw [rd_gR (a := a) (ci := 0) (fs := [.inr (.inr (some (a + 1))), .inr (.inr (some (a + 2))), .inl ((n - 1 : Nat) : Int)]) (by rw [up_ne (by omega), up_self]; rfl) rfl, Option.bind_some, Option.bind_some]
    rw [rd_gI (a := a) (ci := 0) (fs := [.inr (.inr (some (a + 1))), .inr (.inr (some (a + 2))), .inl ((n - 1 : Nat) : Int)]) (by rw [up_ne (by omega), up_self]; rfl) rfl, Option.bind_some]
    rw [ed]
    rw [rd_cpI (a0 := a + 2) (a := a + 2) (n0 := 100) (n1 := 100) (f := N) (g := N) (by rw [up_ne (by omega), up_ne (by omega)]; exact h3) (by rw [up_ne (by omega), up_ne (by omega)]; exact h3) (by omega) (by omega) (by omega) (by omega) (by omega), Option.bind_some])
  refine ⟨_, e1, ⟨?_, ?_, ?_, by omega⟩, (am_fr.up (by omega) (by omega)).tr ((am_fr.up (by omega) (by omega)).tr (am_fr.up (by omega) (by omega)))⟩
  · rw [up_ne (by omega), up_ne (by omega), up_self]; rfl
  · rw [up_ne (by omega), up_self, Int.toNat_natCast, Int.toNat_natCast, Int.toNat_natCast]
  · rw [up_self, Int.toNat_natCast, Int.toNat_natCast, Int.toNat_natCast]
theorem fi_step {g : Int → Nat → Int} {a b : Nat} {acc : Int} (h : a < b) : fi g a (b - a) acc = fi g (a + 1) (b - (a + 1)) (g acc a) := by
  rw [show b - a = (b - (a + 1)) + 1 by omega]
  rfl
theorem fi_end {g : Int → Nat → Int} {a b : Nat} {acc : Int} (h : b ≤ a) : fi g a (b - a) acc = acc := by
  rw [show b - a = 0 by omega]
  rfl
theorem b_total {h : am_H} {a n : Nat} {W N : Nat → Int} (H : bkr h a n W N) (hN : ∀ i, i < n → 0 ≤ N i ∧ N i ≤ 999999) (d : Nat) {x y : Nat} (hx : x ≤ 100) (hy : y ≤ n) : am_cI d N_bk_total [.inr (.inr (some a)), .inl (x : Int), .inl (y : Int)] h = some (fi (fun s i => s + N i) x (y - x) 0, h) := by
  obtain ⟨h1, h2, h3, h4⟩ := H
  apply am_cI_of
  rw [en_bk_total, B_bk_total_0]
  refine am_loop (S := Nat × Int) (F := fun s => EV d N_bk_total T_bk_total_5 [.inr (.inr (some a)), .inl (x : Int), .inl (y : Int), .inl s.2, .inl (s.1 : Int)] [] h) (I := fun s => s.1 ≤ 100 ∧ 0 ≤ s.2 ∧ s.2 ≤ 999999 * s.1 ∧ fi (fun s i => s + N i) s.1 (y - s.1) s.2 = fi (fun s i => s + N i) x (y - x) 0)
    (R := fun o => o = some (some (.inl (fi (fun s i => s + N i) x (y - x) 0)), h)) (fun s => 100 - s.1) ?_ (x, 0) ⟨hx, Int.le_refl _, by dsimp only; omega, rfl⟩
  rintro ⟨k, s⟩ ⟨p1, p2, p3, p4⟩
  dsimp only at p1 p2 p3 p4 ⊢
  rw [B_bk_total_5]
  by_cases c : (y : Int) ≤ k
  · left
    rw [if_pos c, B_bk_total_27, ← p4, fi_end (by omega)]
  · right
    obtain ⟨q1, q2⟩ := hN k (by omega)
    rw [if_neg c, B_bk_total_11, rd_gR h1 rfl, Option.bind_some, rd_lI h3 (by omega) (by omega), Option.bind_some, Int.toNat_natCast, am_w_id (x := s + N k) (by omega) (by omega), am_w_id (x := (k : Int) + 1) (by omega) (by omega)]
    refine ⟨(k + 1, s + N k), ⟨by dsimp only; omega, by dsimp only; omega, by dsimp only; omega, ?_⟩, by dsimp only; omega, rfl⟩
    rw [← p4, fi_step (a := k) (by omega)]
theorem b_least {h : am_H} {a n : Nat} {W N : Nat → Int} (H : bkr h a n W N) (d : Nat) {x y : Nat} (hx : x ≤ 100) (hy : y ≤ n) : am_cI d N_bk_least [.inr (.inr (some a)), .inl (x : Int), .inl (y : Int)] h = some (fi (fun s i => am_min s (N i)) x (y - x) 999999, h) := by
  obtain ⟨h1, h2, h3, h4⟩ := H
  apply am_cI_of
  rw [en_bk_least, B_bk_least_0]
  refine am_loop (S := Nat × Int) (F := fun s => EV d N_bk_least T_bk_least_6 [.inr (.inr (some a)), .inl (x : Int), .inl (y : Int), .inl s.2, .inl (s.1 : Int)] [] h) (I := fun s => s.1 ≤ 100 ∧ fi (fun s i => am_min s (N i)) s.1 (y - s.1) s.2 = fi (fun s i => am_min s (N i)) x (y - x) 999999)
    (R := fun o => o = some (some (.inl (fi (fun s i => am_min s (N i)) x (y - x) 999999)), h)) (fun s => 100 - s.1) ?_ (x, 999999) ⟨hx, rfl⟩
  rintro ⟨k, s⟩ ⟨p1, p4⟩
  dsimp only at p1 p4 ⊢
  rw [B_bk_least_6]
  by_cases c : (y : Int) ≤ k
  · left
    rw [if_pos c, B_bk_least_30, ← p4, fi_end (by omega)]
  · right
    rw [if_neg c, B_bk_least_12, rd_gR h1 rfl, Option.bind_some, rd_lI h3 (by omega) (by omega), Option.bind_some, Int.toNat_natCast, am_w_id (x := (k : Int) + 1) (by omega) (by omega)]
    refine ⟨(k + 1, am_min s (N k)), ⟨by dsimp only; omega, ?_⟩, by dsimp only; omega, rfl⟩
    rw [← p4, fi_step (a := k) (by omega)]
theorem b_greatest {h : am_H} {a n : Nat} {W N : Nat → Int} (H : bkr h a n W N) (d : Nat) {x y : Nat} (hx : x ≤ 100) (hy : y ≤ n) : am_cI d N_bk_greatest [.inr (.inr (some a)), .inl (x : Int), .inl (y : Int)] h = some (fi (fun s i => am_max s (N i)) x (y - x) 0, h) := by
  obtain ⟨h1, h2, h3, h4⟩ := H
  apply am_cI_of
  rw [en_bk_greatest, B_bk_greatest_0]
  refine am_loop (S := Nat × Int) (F := fun s => EV d N_bk_greatest T_bk_greatest_5 [.inr (.inr (some a)), .inl (x : Int), .inl (y : Int), .inl s.2, .inl (s.1 : Int)] [] h) (I := fun s => s.1 ≤ 100 ∧ fi (fun s i => am_max s (N i)) s.1 (y - s.1) s.2 = fi (fun s i => am_max s (N i)) x (y - x) 0)
    (R := fun o => o = some (some (.inl (fi (fun s i => am_max s (N i)) x (y - x) 0)), h)) (fun s => 100 - s.1) ?_ (x, 0) ⟨hx, rfl⟩
  rintro ⟨k, s⟩ ⟨p1, p4⟩
  dsimp only at p1 p4 ⊢
  rw [B_bk_greatest_5]
  by_cases c : (y : Int) ≤ k
  · left
    rw [if_pos c, B_bk_greatest_29, ← p4, fi_end (by omega)]
  · right
    rw [if_neg c, B_bk_greatest_11, rd_gR h1 rfl, Option.bind_some, rd_lI h3 (by omega) (by omega), Option.bind_some, Int.toNat_natCast, am_w_id (x := (k : Int) + 1) (by omega) (by omega)]
    refine ⟨(k + 1, am_max s (N k)), ⟨by dsimp only; omega, ?_⟩, by dsimp only; omega, rfl⟩
    rw [← p4, fi_step (a := k) (by omega)]
theorem b_leastNumber {h : am_H} {a n : Nat} {W N : Nat → Int} (H : bkr h a n W N) (d : Nat) : am_cI (d + 1) N_bk_leastNumber [.inr (.inr (some a))] h = some (if n = 0 then 0 else fi (fun s i => am_min s (N i)) 0 n 999999, h) := by
  have hl := b_least H d (x := 0) (y := n) (by omega) (Nat.le_refl _)
  obtain ⟨h1, h2, h3, h4⟩ := H
  apply am_cI_of
  rw [en_bk_leastNumber, B_bk_leastNumber_0, rd_gI h1 rfl, Option.bind_some]
  by_cases c : n = 0
  · rw [if_neg (by omega), B_bk_leastNumber_7, B_bk_leastNumber_20, if_pos c]
  · rw [if_pos (by omega), B_bk_leastNumber_11, rd_gI h1 rfl, Option.bind_some, if_pos (rd_O h1)]
    have hl' : am_cI d N_bk_least [.inr (.inr (some a)), .inl 0, .inl (n : Int)] h = some (fi (fun s i => am_min s (N i)) 0 n 999999, h) := hl
    rw [hl', Option.bind_some, B_bk_leastNumber_20, if_neg c]
